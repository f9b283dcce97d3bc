section LAW3
variable {p : Program} {l : Launch} {e : Env} {s : State} {m : MethodId} {below : List Frame} {meth : Method} {c : Code} {b Lx : Nat} {xs : Nat → Int32} {E : yE} {i : Nat}
set_option maxHeartbeats 4000000 in
set_option maxRecDepth 10000 in
theorem lj_switch (C : LC p s m meth c b Lx xs E) (hi : i + 6 ≤ Lx) {ρ : ySt} (h0 : INV ρ ρ) (h : ∀ ρ2, INV ρ2 ρ2 → LJ p l e s m below meth c b E i 994 [] (ov ρ2)) : LJ p l e s m below meth c b E i 27 [] (ov ρ) := by
  intro H ls P F hl
  obtain ⟨⟨hx, hb, hrr, hml, hown, hlt, hX, hbl, -⟩, hE, hL, hts, hK, hTx⟩ := id C
  refine lv_aload_n hx hb (show decode code 27 = .ok (.aload_n 0, 1) by decide +kernel) rfl (lv_at hl 3 rfl) ?_
  refine lv_iload_n hx hb (show decode code 28 = .ok (.iload_n 3, 1) by decide +kernel) rfl (lv_at hl 0 rfl) ?_
  have hy : yI (i : Int) := ⟨by omega, by omega⟩
  refine va_sld hx hb hX hbl (by rw [hE]; omega) F (yI_in hy (by omega) (by omega)) (show decode code 29 = .ok (.iaload, 1) by decide +kernel) ?_
  refine lv_bipush hx hb (show decode code 30 = .ok (.bipush 31, 2) by decide +kernel) (v := 31) rfl ?_
  refine lv_iand hx hb (show decode code 32 = .ok (.iand, 1) by decide +kernel) ?_
  have hdt : decode code 33 = .ok (.tableswitch 961 0 27 #[127, 190, 213, 226, 239, 262, 295, 338, 361, 384, 407, 450, 483, 516, 549, 592, 635, 648, 671, 704, 717, 760, 783, 806, 839, 892, 915, 938], 127) := by decide +kernel
  generalize xs (Int32.ofInt (i : Int)).toNatClampNeg &&& 31 = z
  by_cases hz : z.toInt < 0 ∨ 27 < z.toInt
  · exact lv_tableOut hx hb hdt hz (tgt := 994) (by decide) (h ρ h0 H ls P F hl)
  · have h1 : ¬ z.toInt < 0 := fun q => hz (Or.inl q)
    have h2 : ¬ 27 < z.toInt := fun q => hz (Or.inr q)
    by_cases q0 : z.toInt = 0
    · exact lv_tableIn hx hb hdt h1 h2 (off := 127) (by rw [q0]; rfl) (tgt := 160) (by decide) (lc_feed C hi h0 h H ls P F hl)
    by_cases q1 : z.toInt = 1
    · exact lv_tableIn hx hb hdt h1 h2 (off := 190) (by rw [q1]; rfl) (tgt := 223) (by decide) (lc_end C hi h0 h H ls P F hl)
    by_cases q2 : z.toInt = 2
    · exact lv_tableIn hx hb hdt h1 h2 (off := 213) (by rw [q2]; rfl) (tgt := 246) (by decide) (lc_town C hi h0 h H ls P F hl)
    by_cases q3 : z.toInt = 3
    · exact lv_tableIn hx hb hdt h1 h2 (off := 226) (by rw [q3]; rfl) (tgt := 259) (by decide) (lc_plan C hi h0 h H ls P F hl)
    by_cases q4 : z.toInt = 4
    · exact lv_tableIn hx hb hdt h1 h2 (off := 239) (by rw [q4]; rfl) (tgt := 272) (by decide) (lc_fault C hi h0 h H ls P F hl)
    by_cases q5 : z.toInt = 5
    · exact lv_tableIn hx hb hdt h1 h2 (off := 262) (by rw [q5]; rfl) (tgt := 295) (by decide) (lc_minutes C hi h0 h H ls P F hl)
    by_cases q6 : z.toInt = 6
    · exact lv_tableIn hx hb hdt h1 h2 (off := 295) (by rw [q6]; rfl) (tgt := 328) (by decide) (lc_right C hi h0 h H ls P F hl)
    by_cases q7 : z.toInt = 7
    · exact lv_tableIn hx hb hdt h1 h2 (off := 338) (by rw [q7]; rfl) (tgt := 371) (by decide) (lc_judge C hi h0 h H ls P F hl)
    by_cases q8 : z.toInt = 8
    · exact lv_tableIn hx hb hdt h1 h2 (off := 361) (by rw [q8]; rfl) (tgt := 394) (by decide) (lc_value C hi h0 h H ls P F hl)
    by_cases q9 : z.toInt = 9
    · exact lv_tableIn hx hb hdt h1 h2 (off := 384) (by rw [q9]; rfl) (tgt := 417) (by decide) (lc_best C hi h0 h H ls P F hl)
    by_cases q10 : z.toInt = 10
    · exact lv_tableIn hx hb hdt h1 h2 (off := 407) (by rw [q10]; rfl) (tgt := 440) (by decide) (lc_bestAt C hi h0 h H ls P F hl)
    by_cases q11 : z.toInt = 11
    · exact lv_tableIn hx hb hdt h1 h2 (off := 450) (by rw [q11]; rfl) (tgt := 483) (by decide) (lc_breaks C hi h0 h H ls P F hl)
    by_cases q12 : z.toInt = 12
    · exact lv_tableIn hx hb hdt h1 h2 (off := 483) (by rw [q12]; rfl) (tgt := 516) (by decide) (lc_spare C hi h0 h H ls P F hl)
    by_cases q13 : z.toInt = 13
    · exact lv_tableIn hx hb hdt h1 h2 (off := 516) (by rw [q13]; rfl) (tgt := 549) (by decide) (lc_often C hi h0 h H ls P F hl)
    by_cases q14 : z.toInt = 14
    · exact lv_tableIn hx hb hdt h1 h2 (off := 549) (by rw [q14]; rfl) (tgt := 582) (by decide) (lc_built C hi h0 h H ls P F hl)
    by_cases q15 : z.toInt = 15
    · exact lv_tableIn hx hb hdt h1 h2 (off := 592) (by rw [q15]; rfl) (tgt := 625) (by decide) (lc_meet C hi h0 h H ls P F hl)
    by_cases q16 : z.toInt = 16
    · exact lv_tableIn hx hb hdt h1 h2 (off := 635) (by rw [q16]; rfl) (tgt := 668) (by decide) (lc_mend C hi h0 h H ls P F hl)
    by_cases q17 : z.toInt = 17
    · exact lv_tableIn hx hb hdt h1 h2 (off := 648) (by rw [q17]; rfl) (tgt := 681) (by decide) (lc_where C hi h0 h H ls P F hl)
    by_cases q18 : z.toInt = 18
    · exact lv_tableIn hx hb hdt h1 h2 (off := 671) (by rw [q18]; rfl) (tgt := 704) (by decide) (lc_send C hi h0 h H ls P F hl)
    by_cases q19 : z.toInt = 19
    · exact lv_tableIn hx hb hdt h1 h2 (off := 704) (by rw [q19]; rfl) (tgt := 737) (by decide) (lc_strike C hi h0 h H ls P F hl)
    by_cases q20 : z.toInt = 20
    · exact lv_tableIn hx hb hdt h1 h2 (off := 717) (by rw [q20]; rfl) (tgt := 750) (by decide) (lc_count C hi h0 h H ls P F hl)
    by_cases q21 : z.toInt = 21
    · exact lv_tableIn hx hb hdt h1 h2 (off := 760) (by rw [q21]; rfl) (tgt := 793) (by decide) (lc_untell C hi h0 h H ls P F hl)
    by_cases q22 : z.toInt = 22
    · exact lv_tableIn hx hb hdt h1 h2 (off := 783) (by rw [q22]; rfl) (tgt := 816) (by decide) (lc_later C hi h0 h H ls P F hl)
    by_cases q23 : z.toInt = 23
    · exact lv_tableIn hx hb hdt h1 h2 (off := 806) (by rw [q23]; rfl) (tgt := 839) (by decide) (lc_states C hi h0 h H ls P F hl)
    by_cases q24 : z.toInt = 24
    · exact lv_tableIn hx hb hdt h1 h2 (off := 839) (by rw [q24]; rfl) (tgt := 872) (by decide) (lc_sure C hi h0 h H ls P F hl)
    by_cases q25 : z.toInt = 25
    · exact lv_tableIn hx hb hdt h1 h2 (off := 892) (by rw [q25]; rfl) (tgt := 925) (by decide) (lc_image C hi h0 h H ls P F hl)
    by_cases q26 : z.toInt = 26
    · exact lv_tableIn hx hb hdt h1 h2 (off := 915) (by rw [q26]; rfl) (tgt := 948) (by decide) (lc_back C hi h0 h H ls P F hl)
    by_cases q27 : z.toInt = 27
    · exact lv_tableIn hx hb hdt h1 h2 (off := 938) (by rw [q27]; rfl) (tgt := 971) (by decide) (lc_about C hi h0 h H ls P F hl)
    omega
theorem lj_loop (C : LC p s m meth c b Lx xs E) : ∀ (f i : Nat), Lx < i + f → i ≤ Lx + 6 → ∀ ρ, INV ρ ρ → LJ p l e s m below meth c b E i 18 [] (ov ρ)
  | 0, i, h1, h2, ρ, h0 => lj_test C (by have := C.2.2.1; omega) (fun q => by omega)
  | f + 1, i, h1, h2, ρ, h0 => lj_test C (by have := C.2.2.1; omega) (fun q => lj_switch C q h0 (fun ρ2 h3 => lj_next C (by have := C.2.2.1; omega) (lj_loop C f (i + 6) (by omega) (by omega) ρ2 h3)))
end LAW3
theorem lt_1 {w : Cond} (i : Nat) (h : tables_1_1[i]? = some w) : w ∈ lw_tbl := List.mem_append_right _ (List.mem_append_left _ (List.mem_of_getElem? h))
theorem lt_2 {w : Cond} (i : Nat) (h : tables_1_2[i]? = some w) : w ∈ lw_tbl := List.mem_append_right _ (List.mem_append_right _ (List.mem_append_left _ (List.mem_of_getElem? h)))
theorem lt_3 {w : Cond} (i : Nat) (h : tables_1_3[i]? = some w) : w ∈ lw_tbl := List.mem_append_right _ (List.mem_append_right _ (List.mem_append_right _ (List.mem_append_left _ (List.mem_of_getElem? h))))
theorem lt_4 {w : Cond} (i : Nat) (h : tables_1_4[i]? = some w) : w ∈ lw_tbl := List.mem_append_right _ (List.mem_append_right _ (List.mem_append_right _ (List.mem_append_right _ (List.mem_append_left _ (List.mem_of_getElem? h)))))
def lwS (i : Nat) : Term := if i = 0 then .string "EvenTown$Tape" 71 else .string "EvenTown$Tape" 58
theorem inst_all : ∀ c, c < 13 → ∃ n, Cond.instantiable (yC c) n ∈ GW := by
  intro c hc
  match c, hc with
  | 0, _ => exact ⟨_, q2_139⟩
  | 1, _ => exact ⟨_, q1_75⟩
  | 2, _ => exact ⟨_, q2_169⟩
  | 3, _ => exact ⟨_, q2_145⟩
  | 4, _ => exact ⟨_, q1_106⟩
  | 5, _ => exact ⟨_, q1_139⟩
  | 6, _ => exact ⟨_, q2_85⟩
  | 7, _ => exact ⟨_, q1_160⟩
  | 8, _ => exact ⟨_, q1_31⟩
  | 9, _ => exact ⟨_, q1_133⟩
  | 10, _ => exact ⟨_, q2_63⟩
  | 11, _ => exact ⟨_, q1_23⟩
  | 12, _ => exact ⟨_, q6_24⟩
set_option maxRecDepth 100000 in
theorem nS_flat : (∀ i : Fin 2, Cond.exactly (lwS i) "java/lang/String" ∈ flatC (Jvm.Cond.and given_1 narrow_1)) ∧ (∀ i : Fin 2, Cond.eq (.field (lwS i) "java/lang/String" "coder" "B") (.int 0) ∈ flatC (Jvm.Cond.and given_1 narrow_1)) ∧ (∀ i : Fin 2, Cond.arrayOf (.field (lwS i) "java/lang/String" "value" "[B") .byte ∈ flatC (Jvm.Cond.and given_1 narrow_1)) ∧ (∀ i : Fin 2, Cond.eq (.length (.field (lwS i) "java/lang/String" "value" "[B")) (.int (Int32.ofNat (yTl.getD i 0))) ∈ flatC (Jvm.Cond.and given_1 narrow_1)) := by decide +kernel
set_option maxRecDepth 100000 in
theorem nS_el : ∀ i : Fin 2, ∀ j : Fin (yTl.getD i 0), Cond.eq (.elem (.field (lwS i) "java/lang/String" "value" "[B") (.int (Int32.ofNat j))) (.int ((yTb.getD i []).getD j 0)) ∈ flatC (Jvm.Cond.and given_1 narrow_1) := by decide +kernel
set_option maxRecDepth 100000 in
theorem nS_ne : Cond.not (Cond.eq (lwS 0) (lwS 1)) ∈ flatC (Jvm.Cond.and given_1 narrow_1) ∧ Cond.eq (.static "java/lang/String" "COMPACT_STRINGS" "Z") (.int 1) ∈ flatC (Jvm.Cond.and given_1 narrow_1) ∧ Cond.isRef (.static "jdk/internal/util/Preconditions" "SIOOBE_FORMATTER" "Ljava/util/function/BiFunction;") ∈ flatC (Jvm.Cond.and given_1 narrow_1) := by decide +kernel
theorem arr_prim {s : State} {A : Array Value} {ty : FieldType} (h : (Cond.arrayClass ty).before A s = true) : ∃ cA, ArrOfT s cA ty ∧ s.vm.findClass ("[" ++ ty.toString) = some cA := by
  obtain ⟨cA, kA, comp, h1, h2, h3⟩ := Cond.arrayClass_spec h
  exact ⟨cA, fun n z => ⟨(fun k h => by cases h), kA, h2, comp, h3⟩, h1⟩
theorem start_tx {s : State} {b : Nat} {E : yE} (hE : E.1 = s.heap.size) (hlt : ∀ w ∈ lw_tbl, w.before #[Value.ref b] s = true) (hgv : (Jvm.Cond.and given_1 narrow_1).before #[Value.ref b] s = true) : yTx E s := by
  have hs := flat_of_before _ hgv
  have hts : ∀ w ∈ GW, w.before #[Value.ref b] s = true := fun w hw => hlt w (gw_in hw)
  have hA : ∀ a : Nat, a < s.heap.size → ¬ (E.1 ≤ a) := fun a h q => by omega
  obtain ⟨n1, n2, n3, n4⟩ := nS_flat
  obtain ⟨adK, adV, hS, hev⟩ := vk_Sof (args := #[Value.ref b]) (s := s) (N := 2) (tm := lwS) (len := yTl) (byt := yTb) (A := fun q => E.1 ≤ q) (fun i hi => by
      rcases (show i = 0 ∨ i = 1 by omega) with rfl | rfl <;> decide) (fun i hi => hs _ (n1 ⟨i, hi⟩)) (fun i hi => hs _ (n2 ⟨i, hi⟩)) (fun i hi => hs _ (n3 ⟨i, hi⟩)) (fun i hi => hs _ (n4 ⟨i, hi⟩)) (fun i hi j hj => hs _ (nS_el ⟨i, hi⟩ ⟨j, hj⟩)) (fun i j hi hj hij => by
      rcases (show i = 0 ∨ i = 1 by omega) with rfl | rfl
      · obtain rfl : j = 1 := by omega
        exact Or.inl (hs _ nS_ne.1)
      · obtain rfl : j = 0 := by omega
        exact Or.inr (hs _ nS_ne.1)) hA
  refine ⟨⟨adK, adV, hS, vk_R.of (hlt _ (lt_3 102 rfl)) (hev 0 (by decide)), vk_R.of (hlt _ (lt_3 158 rfl)) (hev 1 (by decide))⟩, va_Zof (hlt _ (lt_3 112 rfl)) (hts _ q1_16) (va_eqi (hs _ nS_ne.2.1)) hA, va_Zqof (hlt _ (lt_3 128 rfl)) (hts _ q1_18) (hs _ nS_ne.2.2) hA, ?_, hlt _ (lt_1 131 rfl), hlt _ (lt_2 167 rfl)⟩
  intro w hw
  simp only [yNest, List.mem_cons, List.not_mem_nil, or_false] at hw
  rcases hw with q | q | q | q | q | q | q <;> subst q
  · exact va_Nw.of rfl (hlt _ (lt_1 32 rfl))
  · exact va_Nw.of rfl (hlt _ (lt_1 76 rfl))
  · exact va_Nw.of rfl (hlt _ (lt_1 107 rfl))
  · exact va_Nw.of rfl (hlt _ (lt_1 161 rfl))
  · exact va_Nw.of rfl (hlt _ (lt_2 86 rfl))
  · exact va_Nw.of rfl (hlt _ (lt_2 146 rfl))
  · exact va_Nw.of rfl (hlt _ (lt_4 66 rfl))
theorem start_k {s : State} {b : Nat} (hlt : ∀ w ∈ lw_tbl, w.before #[Value.ref b] s = true) : ∃ E : yE, E.1 = s.heap.size ∧ va_K E.2.1 vwCl (yTys E) s := by
  have hts : ∀ w ∈ GW, w.before #[Value.ref b] s = true := fun w hw => hlt w (gw_in hw)
  have hcl : ∀ cN : Nat, ∃ q : ClassId × (Nat → Nat), cN < 13 → u_Kn s (yC cN) (yT cN) (yNf cN) q.1 q.2 := by
    intro cN
    by_cases h : cN < 13
    · obtain ⟨n, hn⟩ := inst_all cN h
      obtain ⟨cC, iS, hK⟩ := u_known (T := yT cN) (N := yNf cN) hts (yIn_ok h) (hts _ hn)
      exact ⟨(cC, iS), fun _ => hK⟩
    · exact ⟨(0, fun _ => 0), fun q => absurd q h⟩
  obtain ⟨D, hD⟩ := Classical.axiomOfChoice hcl
  obtain ⟨a0, x0, y0⟩ := arr_prim (hts _ q1_104)
  obtain ⟨a1, x1, y1⟩ := arr_prim (hts _ q1_158)
  obtain ⟨a2, x2, y2⟩ := arr_prim (hts _ q1_73)
  obtain ⟨a3, x3, y3⟩ := arr_prim (hts _ q1_179)
  obtain ⟨c4, a4, k4, g1, g2, g3, g4, g5⟩ := Cond.arrayOver_spec (n := "EvenTown$Earnest") (hlt _ (lt_1 131 rfl))
  obtain ⟨c5, a5, k5, f1, f2, f3, f4, f5⟩ := arrayOverA_spec (t := .int) (hlt _ (lt_2 167 rfl))
  refine ⟨(s.heap.size, (fun c => (D c).1, fun c => (D c).2), fun j => match j with
    | 0 => a0
    | 1 => a1
    | 2 => a2
    | 3 => a3
    | 4 => a4
    | _ => a5), rfl, fun cN q hq => ?_, fun k q hk => ?_⟩
  · have h13 : cN < 13 := (List.getElem?_eq_some_iff.mp hq).1
    rw [yCl_ok h13] at hq
    cases hq
    exact hD cN h13
  · match k, hk with
    | 0, hk => cases hk; exact ⟨x0, y0⟩
    | 1, hk => cases hk; exact ⟨x1, y1⟩
    | 2, hk => cases hk; exact ⟨x2, y2⟩
    | 3, hk => cases hk; exact ⟨x3, y3⟩
    | 4, hk => cases hk; exact ⟨fun n z => ⟨(fun k h => by cases h), k4, g3, c4, g4⟩, k4, c4, g3, g4, g1, g5⟩
    | 5, hk => cases hk; exact ⟨fun n z => ⟨(fun k h => by cases h), k5, f3, c5, f4⟩, f5⟩
    | k + 6, hk => cases hk
set_option maxHeartbeats 4000000 in
theorem whole_start {p : Program} {e : Env} {s : State} {m : MethodId} {below : List Frame} {meth : Method} {c : Code} (l : Launch) (hflags : l.flags = flags0) {b L : Nat} {xs : Nat → Int32} (hL : L ≤ 3072) (C0 : lw_At p s m meth c b L xs) : W p l e room_1 s m #[Value.ref b] below meth c s.heap [] 0 0 (lw_Z below #[Value.ref b] s) (entryFrame m ([Value.ref b] : List Value).toArray 4) := by
  obtain ⟨hx, hb, hr, hml, hown, hlt, hX, hbl, hlk, hgv⟩ := id C0
  obtain ⟨E, hE, hK⟩ := start_k hlt
  have C : LC p s m meth c b L xs E := ⟨C0, hE, hL, fun w hw => hlt w (gw_in hw), hK, start_tx hE hlt hgv⟩
  obtain ⟨σ1, ρ, z1, c1, c2, h0⟩ := born (N := 100000) (Nat.le_refl _)
  have hh : s.heap.size = E.1 + 0 := by rw [hE]; rfl
  have P0 : yRp E 0 (fun _ _ => 0) s.heap := ⟨(fun k q h => by cases h), hh, fun i k hi => absurd hi (Nat.not_lt_zero i)⟩
  have hl0 : lv_has ((lg_sl ([Value.ref b] : List Value) ++ List.replicate (4 - (lg_sl ([Value.ref b] : List Value)).length) Slot.unset).toArray) 4 [(0, .ref b)] := lv_entry [Value.ref b] (n := 4) (by show 1 ≤ 4; decide)
  rw [lg_entry_eq]
  suffices key : LG p l e s m below meth c b E 0 0 0 [(0, .ref b)] 0 [] (fun _ _ => 0) from key s.heap _ P0 va_S.rf hl0
  refine lg_new C 11 7 rfl (by decide) (fun _ => rfl) q1_22 q1_23 q1_1 (by decide) (show decode code 0 = .ok (.new 7, 3) by decide +kernel) ?_
  refine lg_dup C (show decode code 3 = .ok (.dup, 1) by decide +kernel) ?_
  refine lg_callI C 0 (c1 E) q1_26 rfl rfl q1_24 q1_25 q1_1 (by decide) (by decide +kernel) (by decide) (by show 1 ≤ 8; decide) (show decode code 4 = .ok (.invokespecial 9, 3) by decide +kernel) ?_
  refine lg_astore C (show decode code 7 = .ok (.astore_n 1, 1) by decide +kernel) (L1 := [(1, .ref (E.1 + 0)), (0, .ref b)]) rfl ?_
  refine lg_new C 12 10 rfl (by decide) (fun k => z1 92 (Nat.le_refl _) k) q6_23 q6_24 q1_15 (by decide) (show decode code 8 = .ok (.new 10, 3) by decide +kernel) ?_
  refine lg_dup C (show decode code 11 = .ok (.dup, 1) by decide +kernel) ?_
  refine lg_callI C 92 (c2 E) q6_27 rfl rfl q6_25 q6_26 q1_15 (by decide) (by decide +kernel) (by decide) (by show 1 ≤ 8; decide) (show decode code 12 = .ok (.invokespecial 12, 3) by decide +kernel) ?_
  refine lg_astore C (show decode code 15 = .ok (.astore_n 2, 1) by decide +kernel) (L1 := [(2, .ref (E.1 + 92)), (1, .ref (E.1 + 0)), (0, .ref b)]) rfl ?_
  refine lg_iconst C (show decode code 16 = .ok (.iconst 0, 1) by decide +kernel) ?_
  refine lg_istore C (show decode code 17 = .ok (.istore_n 3, 1) by decide +kernel) (L1 := [(3, .int (Int32.ofInt ((0 : Nat) : Int))), (2, .ref (E.1 + 92)), (1, .ref (E.1 + 0)), (0, .ref b)]) rfl ?_
  exact lj_loop C (L + 1) 0 (by omega) (by omega) ρ h0

