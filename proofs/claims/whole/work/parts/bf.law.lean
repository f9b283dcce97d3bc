/-! THE CLAIM OUT OF ONE WALK OF THE LAW'S BODY. Your part is whole_start (and what it stands on); all else here is the same for every law, but numbers. -/
def R_law : String := "EvenTownLaw"
def lw_P (b : Addr) (xs : List Int32) (args : Array Value) (s : State) : Prop := args = #[.ref b] ∧ s.IntsAt b xs ∧ xs.length ≤ 3072 ∧ (Jvm.Cond.and given_1 narrow_1).before args s = true
def lw_Q (_ : Array Value) (s : State) (o : Outcome) (t : State) : Prop := o = .returned (some (.int 1)) ∧ Framed s o t [] 600000 7302250
def lw_Z (below : List Frame) (a : Array Value) (s : State) : State → Prop := fun t => ∃ o, t.status = .running ∧ Ended t below o ∧ lw_Q a s o t
/-- the law's own end, with 1 on the stack, nothing written that was there before, its room as the claim has it -/
theorem lw_ret {p : Program} {l : Launch} {e : Env} {s : State} {m : MethodId} {below : List Frame} {meth : Method} {c : Code} {b : Nat} (hx : p.tables.exec = Jvm.exec) (hb : c.code = code) (hr : meth.sig.returnType = ret) (hlocks : meth.locks = false) {pc : Nat} {H : Heap} {ls : Array Slot} (hdg : decode code pc = .ok (.ireturn, 1)) : W p l e room_1 s m #[Value.ref b] below meth c H [] 600000 7302250 (lw_Z below #[Value.ref b] s) (F0 m pc ls [.int 1]) := by
  intro T hT X
  obtain ⟨fs, hret, hrun, hended, hW, hframe⟩ := X.leave (v := some (.int 1)) (hlocks := hlocks) (fun h => by rw [hr] at h; cases h)
  have hmeth' : T.vm.method? m = some meth := X.method'
  refine ⟨T.setFrames fs, ?_, .returned (some (.int 1)), hrun, hended, rfl, ⟨_, rfl⟩, hW, hframe⟩
  jvm_step X.here [X.here.top, hx, hb, hdg, hmeth', hr, ret, narrow_b1]
  (try refine ⟨rfl, ?_⟩); (try refine ⟨rfl, ?_⟩)
  first | (intro acts; rw [hret _ acts rfl rfl rfl]) | rw [hret _ _ rfl rfl rfl]
  exact Steps.refl _
/-- what holds at the law's entry: the machine, the code, the tables' words (any of lw_tbl by 'hts w (by decide +kernel)'), the script of L ints xs at the cell b, what the Statement gives of the start (any of its parts by flat_of_before) -/
def lw_At (p : Program) (s : State) (m : MethodId) (meth : Method) (c : Code) (b L : Nat) (xs : Nat → Int32) : Prop :=
  p.tables.exec = Jvm.exec ∧ c.code = code ∧ meth.sig.returnType = ret ∧ c.maxLocals = 4 ∧ s.vm.findClass R_law = some m.cls ∧ (∀ w ∈ lw_tbl, w.before #[Value.ref b] s = true) ∧ va_X b L xs s s.heap ∧ b < s.heap.size ∧ meth.locks = false ∧ (Jvm.Cond.and given_1 narrow_1).before #[Value.ref b] s = true
section LAW
variable {p : Program} {l : Launch} {e : Env} {s : State} {m : MethodId} {below : List Frame} {meth : Method} {c : Code} {b Lx : Nat} {xs : Nat → Int32} {E : yE}
abbrev ML : yM := (x, code, 4, ret)
/-- what holds in the law's frame -/
def LC (p : Program) (s : State) (m : MethodId) (meth : Method) (c : Code) (b Lx : Nat) (xs : Nat → Int32) (E : yE) : Prop := lw_At p s m meth c b Lx xs ∧ E.1 = s.heap.size ∧ Lx ≤ 3072 ∧ (∀ w ∈ GW, w.before #[Value.ref b] s = true) ∧ va_K E.2.1 vwCl (yTys E) s ∧ yTx E s
def LG (p : Program) (l : Launch) (e : Env) (s : State) (m : MethodId) (below : List Frame) (meth : Method) (c : Code) (b : Nat) (E : yE) (n kc ks : Nat) (L : List (Nat × Value)) (pc : Nat) (st : List Value) (S : ySt) : Prop :=
  ∀ (H : Heap) (ls : Array Slot), yRp E n S H → va_S (fun q => E.1 ≤ q) s.heap H [] → lv_has ls 4 L → W p l e room_1 s m #[Value.ref b] below meth c H [] kc ks (lw_Z below #[Value.ref b] s) (F0 m pc ls st)
/-- in the loop: at the place i of the script -/
abbrev LJ (p : Program) (l : Launch) (e : Env) (s : State) (m : MethodId) (below : List Frame) (meth : Method) (c : Code) (b : Nat) (E : yE) (i : Nat) (pc : Nat) (st : List Value) (S : ySt) : Prop :=
  LG p l e s m below meth c b E 150 150 274488 [(3, .int (Int32.ofInt (i : Int))), (2, .ref (E.1 + 92)), (1, .ref (E.1 + 0)), (0, .ref b)] pc st S
variable {n kc ks pc i : Nat} {L : List (Nat × Value)} {st : List Value} {S : ySt}
theorem lg_new (C : LC p s m meth c b Lx xs E) (k9 idx : Nat) (hk : yKd n = (k9, 0)) (hc : k9 < 13) (hz : ∀ k, S n k = 0) (hcl : Cond.classLink "EvenTownLaw" idx (yC k9) ∈ GW) (hinst : Cond.instantiable (yC k9) (yNf k9) ∈ GW) (hini : Cond.initialized (yC k9) ∈ GW) (hR : kc + 1 ≤ 600000 ∧ ks + yNf k9 ≤ 7302250) (hd : decode code pc = .ok (.new idx, 3)) (h : LG p l e s m below meth c b E (n + 1) (kc + 1) (ks + yNf k9) L (pc + 3) (.ref (E.1 + n) :: st) S) : LG p l e s m below meth c b E n kc ks L pc st S := by
  intro H ls P F hl
  obtain ⟨⟨hx, hb, hr, hml, hown, -⟩, hE, -, hts, hK, hTx⟩ := id C
  have hKn := hK.1 k9 _ (yCl_ok hc)
  refine W.newcK hx hb hown (hts _ hcl) (hts _ hinst) (hts _ hini) rfl hd hR.1 hR.2 hKn.2.1 P.2.1 fun H1 kC hkC e1 z1 o1 => ?_
  have o2 : ∀ q : Nat, q < H.size → H1[q]? = H[q]? := fun q hq => o1 q (by rw [← P.2.1]; exact hq)
  refine h H1 ls (yNew_fin P ?_ (by rw [z1, P.2.1]) o2 hz) (va_S.grow F (by rw [z1, P.2.1]; omega) o2) hl
  rw [yEnt_o hk (by omega)]
  refine ⟨_, yCl_ok hc, (u_born (yty k9) hts (yIn_ok hc) hKn hkC e1 (yty_ok hc)).to (fun j hj => ?_)⟩
  have hj2 : j < yNf k9 := hj
  show defaultValue (yty k9 j) = (yFs E.1 k9 (S n)).getD j .null
  rw [List.getD_eq_getElem?_getD, yFs_get hj2, hz j]
  exact dvB_ok (dvB_all hc hj2)
theorem lg_dup (C : LC p s m meth c b Lx xs E) {a : Nat} (hd : decode code pc = .ok (.dup, 1)) (h : LG p l e s m below meth c b E n kc ks L (pc + 1) (.ref a :: .ref a :: st) S) : LG p l e s m below meth c b E n kc ks L pc (.ref a :: st) S := by
  intro H ls P F hl
  obtain ⟨⟨hx, hb, -⟩, -⟩ := id C
  exact lv_dup hx hb hd rfl (h H ls P F hl)
theorem lg_astore (C : LC p s m meth c b Lx xs E) {a : Nat} {j : Fin 4} {L1 : List (Nat × Value)} (hd : decode code pc = .ok (.astore_n j, 1)) (hL1 : ((j : Nat), Value.ref a) :: L.filter (fun q => !(q.1 == (j : Nat)) && !(q.1 + 1 == (j : Nat) && q.2.category == 2)) = L1) (h : LG p l e s m below meth c b E n kc ks L1 (pc + 1) st S) : LG p l e s m below meth c b E n kc ks L pc (.ref a :: st) S := by
  intro H ls P F hl
  obtain ⟨⟨hx, hb, -⟩, -⟩ := id C
  exact lv_astore_n hx hb hd rfl hl j.2 hL1 (fun ls1 hl1 => h H ls1 P F hl1)
theorem lg_iconst (C : LC p s m meth c b Lx xs E) {k : Int} (hd : decode code pc = .ok (.iconst k, 1)) (h : LG p l e s m below meth c b E n kc ks L (pc + 1) (.int (Int32.ofInt k) :: st) S) : LG p l e s m below meth c b E n kc ks L pc st S := by
  intro H ls P F hl
  obtain ⟨⟨hx, hb, -⟩, -⟩ := id C
  exact lv_iconst hx hb hd rfl (h H ls P F hl)
theorem lg_istore (C : LC p s m meth c b Lx xs E) {a : Int32} {j : Fin 4} {L1 : List (Nat × Value)} (hd : decode code pc = .ok (.istore_n j, 1)) (hL1 : ((j : Nat), Value.int a) :: L.filter (fun q => !(q.1 == (j : Nat)) && !(q.1 + 1 == (j : Nat) && q.2.category == 2)) = L1) (h : LG p l e s m below meth c b E n kc ks L1 (pc + 1) st S) : LG p l e s m below meth c b E n kc ks L pc (.int a :: st) S := by
  intro H ls P F hl
  obtain ⟨⟨hx, hb, -⟩, -⟩ := id C
  exact lv_istore_n hx hb hd rfl hl j.2 hL1 (fun ls1 hl1 => h H ls1 P F hl1)
theorem lg_aload (C : LC p s m meth c b Lx xs E) {a : Nat} {j : Fin 4} (q : Nat) (hd : decode code pc = .ok (.aload_n j, 1)) (hj : L[q]? = some ((j : Nat), .ref a)) (h : LG p l e s m below meth c b E n kc ks L (pc + 1) (.ref a :: st) S) : LG p l e s m below meth c b E n kc ks L pc st S := by
  intro H ls P F hl
  obtain ⟨⟨hx, hb, -⟩, -⟩ := id C
  exact lv_aload_n hx hb hd rfl (lv_at hl q hj) (h H ls P F hl)
/-- behind a call, in the law's frame -/
theorem lg_after (C : LC p s m meth c b Lx xs E) {n2 mc ms : Nat} {st0 : List Value} {a : Array Value} {r : Option yV} {S' : ySt} {H : Heap} {ls : Array Slot} (F : va_S (fun q => E.1 ≤ q) s.heap H []) (hl : lv_has ls 4 L)
    (run : va_Run p l e room_1 s m #[Value.ref b] below meth c H [] kc ks mc ms (F0 m pc ls st0) st (yQc E n2 r S' a) (fun q => E.1 ≤ q))
    (h : LG p l e s m below meth c b E n2 (kc + mc) (ks + ms) L (pc + 3) ((r.map (yCz E.1)).toList ++ st) S') : W p l e room_1 s m #[Value.ref b] below meth c H [] kc ks (lw_Z below #[Value.ref b] s) (F0 m pc ls st0) := by
  obtain ⟨-, hE, -⟩ := id C
  intro T hT X
  obtain ⟨v, st₀, t, T', L2, h0, X', hL2, e1, e2, ⟨hv, hr, hR, hK1, hF⟩, stp⟩ := run T hT X
  cases hv
  have hS : va_S (fun q => E.1 ≤ q) s.heap T'.heap [] := ⟨Nat.le_trans F.1 (by rw [e1]; exact (by have := hF.1; rwa [h0] at this)), fun q h1 h2 => by
      rw [e1, hF.2 q (by rw [h0]; exact Nat.lt_of_lt_of_le h1 F.1) h2, h0]
      exact F.2.1 q h1 h2, fun q hq => absurd hq List.not_mem_nil⟩
  have X2 := Stand.forget (locs := []) X' (fun q hq => by rw [← hE]; exact hL2 q hq)
  obtain ⟨t2, a1, b1⟩ := h T'.heap ls (by rw [e1]; exact hR) hS hl T' rfl X2
  exact ⟨t2, stp t2 a1, b1⟩
theorem lg_callI (C : LC p s m meth c b Lx xs E) {M2 : yM} {d2 mc ms idx : Nat} {S' : ySt} (i : Nat) (hM : Con E M2 d2 mc ms [.inr (.inr (i + 1))] n S none S') (hc : Cond.code M2.1 M2.2.1 M2.2.2.1 none ∈ GW) (hr : M2.2.2.2 = none) (hnm : M2.1.name = "<init>") (hk : Cond.methodLink "EvenTownLaw" idx M2.1 ∈ GW) (hi : Cond.instanceMethod M2.1 ∈ GW) (hini : Cond.initialized M2.1.cls ∈ GW) (hcls : M2.1.cls ≠ "java/lang/invoke/MethodHandle" ∧ M2.1.cls ≠ "java/lang/invoke/VarHandle") (hpn : (parseMethodDescriptor M2.1.desc).map (fun d => d.parameters.length) = some 0) (hR : d2 + 1 ≤ 2048 ∧ 8 + (M2.2.2.1 + 11) + 64 * d2 ≤ 84000 ∧ kc + mc ≤ 600000 ∧ ks + ms ≤ 7302250) (hlen : (st.map fun v => v.category).sum ≤ 8) (hd : decode code pc = .ok (.invokespecial idx, 3))
    (h : LG p l e s m below meth c b E (n + mc) (kc + mc) (ks + ms) L (pc + 3) st S') : LG p l e s m below meth c b E n kc ks L pc (.ref (E.1 + i) :: st) S := by
  intro H ls P F hl
  obtain ⟨⟨hx, hb, hrr, hml, hown, -⟩, hE, -, hts, hK, hTx⟩ := id C
  have hwd : yWd M2 = Cond.code M2.1 M2.2.1 M2.2.2.1 none :: GW := by unfold yWd; rw [hr]
  have hM2 := hM l
  rw [hwd] at hM2
  have run := va_runI (R := room_1) (b := E.1 + i) (As := []) (rest := st) (g := F0 m pc ls (.ref (E.1 + i) :: st)) (l := l) (e := e) (below := below) (meth := meth) (locs := []) (cells := kc) (slots := ks) (H := H) (Ts := GW) (own := "EvenTownLaw") (index := idx) ⟨hx, hb, hml, hown, hts⟩ hM2
    ⟨callB_of (Ts := GW) (own := "EvenTownLaw") (index := idx) 0 hts (gw_GoodIn (fun w hw => (List.mem_cons.mp hw).elim (fun e => e ▸ hc) id)) rfl rfl rfl (hts _ hini) (hts _ hk) ⟨hcls.1, hcls.2, hpn⟩ ⟨hR.1, hR.2.1⟩, hnm, hts _ hi⟩
    ⟨yPc_blind, fun U hU hW => ⟨rfl, by rw [hU]; exact P, va_K.moved hW.alike hK, yTx_kept hTx hW (fun a h1 h2 => by rw [hU]; exact F.2.1 a h1 h2), fun v hv => by
      rcases List.mem_cons.mp hv with q | q
      · rw [q]; trivial
      · cases q⟩⟩ rfl rfl hl.1 rfl (lv_room hlen) hd ⟨hR.2.2.1, hR.2.2.2⟩
  exact lg_after C F hl run h
theorem lg_call (C : LC p s m meth c b Lx xs E) {M2 : yM} {d2 idx np : Nat} {as : List yV} {z : Int} {S' : ySt} {st0 : List Value} (i k9 : Nat) (hM : Con E M2 d2 0 0 (.inr (.inr (i + 1)) :: as) n S (some (.inl z)) S') (hc : Cond.code M2.1 M2.2.1 M2.2.2.1 M2.2.2.2 ∈ GW) (hk : Cond.methodLink "EvenTownLaw" idx M2.1 ∈ GW) (hi : Cond.instanceMethod M2.1 ∈ GW) (hse : Cond.selects M2.1.cls M2.1 M2.1 ∈ GW) (hini : Cond.initialized M2.1.cls ∈ GW) (hil : i < n) (hkd : yKd i = (k9, 0)) (hk9 : k9 < 13) (hC : yC k9 = M2.1.cls) (hcls : M2.1.cls ≠ "java/lang/invoke/MethodHandle" ∧ M2.1.cls ≠ "java/lang/invoke/VarHandle") (hpn : (parseMethodDescriptor M2.1.desc).map (fun d => d.parameters.length) = some np) (hR : d2 + 1 ≤ 2048 ∧ 8 + (M2.2.2.1 + 11) + 64 * d2 ≤ 84000 ∧ kc ≤ 600000 ∧ ks ≤ 7302250) (hn : as.length = np) (hlen : (st.map fun v => v.category).sum ≤ 8) (hd : decode code pc = .ok (.invokevirtual idx, 3)) (has : ∀ v ∈ as, yOk v) (hst : (as.map (yCz E.1)).reverse ++ .ref (E.1 + i) :: st = st0)
    (h : LG p l e s m below meth c b E n kc ks L (pc + 3) (.int (Int32.ofInt z) :: st) S') : LG p l e s m below meth c b E n kc ks L pc st0 S := by
  subst hst
  intro H ls P F hl
  obtain ⟨⟨hx, hb, hrr, hml, hown, -⟩, hE, -, hts, hK, hTx⟩ := id C
  have hsa : ∀ v ∈ (.inr (.inr (i + 1)) : yV) :: as, yOk v := fun v hv => (List.mem_cons.mp hv).elim (fun q => q ▸ trivial) (fun q => has v q)
  obtain ⟨cell, g1, g2, g3⟩ := va_recv hK P.1 (yCl_ok hk9) (y_own hil hkd (by omega))
  have run := va_runV (R := room_1) (C := M2.1.cls) (b := E.1 + i) (As := as.map (yCz E.1)) (rest := st) (g := F0 m pc ls ((as.map (yCz E.1)).reverse ++ .ref (E.1 + i) :: st)) (l := l) (e := e) (below := below) (meth := meth) (locs := []) (cells := kc) (slots := ks) (H := H) (Ts := GW) (own := "EvenTownLaw") (index := idx) ⟨hx, hb, hml, hown, hts⟩ (hM l)
    (cwV (Ts := GW) (own := "EvenTownLaw") (C := M2.1.cls) (index := idx) np hts (gw_GoodIn (fun w hw => by
      rcases List.mem_append.mp hw with q | q
      · simp only [List.mem_cons, List.not_mem_nil, or_false] at q
        rcases q with q | q | q | q <;> subst q <;> assumption
      · exact yWd_in hc w q)) rfl rfl rfl ⟨rfl, hcls.1, hcls.2, hpn⟩ ⟨hR.1, hR.2.1⟩)
    ⟨yPc_blind, ⟨cell, g1, g2, by rw [← hC]; exact g3⟩, fun U hU hW => ⟨rfl, by rw [hU]; exact P, va_K.moved hW.alike hK, yTx_kept hTx hW (fun a h1 h2 => by rw [hU]; exact F.2.1 a h1 h2), hsa⟩⟩ rfl (by rw [List.length_map]; exact hn) hl.1 rfl (lv_room hlen) hd ⟨hR.2.2.1, hR.2.2.2⟩
  exact lg_after C F hl run h
/-- the k-th number behind the place i of the script -/
def arg (xs : Nat → Int32) (i k : Nat) : Int := (xs (i + k)).toInt
theorem arg_ok (xs : Nat → Int32) (i k : Nat) : yOk (.inl (arg xs i k)) := yI_of32 _
theorem lj_arg (C : LC p s m meth c b Lx xs E) (k : Nat) (hk : k ≤ 5) (hi : i + 6 ≤ Lx) (hd : decode code pc = .ok (.aload_n 0, 1) ∧ decode code (pc + 1) = .ok (.iload_n 3, 1) ∧ decode code (pc + 2) = .ok (.iconst (k : Int), 1) ∧ decode code (pc + 3) = .ok (.iadd, 1) ∧ decode code (pc + 4) = .ok (.iaload, 1)) (h : LJ p l e s m below meth c b E i (pc + 5) (.int (Int32.ofInt (arg xs i k)) :: st) S) : LJ p l e s m below meth c b E i pc st S := by
  intro H ls P F hl
  obtain ⟨⟨hx, hb, hrr, hml, hown, hlt, hX, hbl, -⟩, hE, hL, hts, hK, hTx⟩ := id C
  obtain ⟨d1, d2, d3, d4, d5⟩ := hd
  refine lv_aload_n hx hb d1 rfl (lv_at hl 3 rfl) ?_
  refine lv_iload_n hx hb d2 rfl (lv_at hl 0 rfl) ?_
  refine lv_iconst hx hb d3 rfl ?_
  refine lv_iadd hx hb d4 ?_
  have hy : yI ((i + k : Nat) : Int) := ⟨by omega, by omega⟩
  have es : Int32.ofInt (i : Int) + Int32.ofInt (k : Int) = Int32.ofInt ((i + k : Nat) : Int) := by rw [← Int32.ofInt_add]; rfl
  rw [es]
  refine va_sld hx hb hX hbl (by rw [hE]; omega) F (yI_in hy (by omega) (by omega)) d5 ?_
  rw [yI_nat hy]
  have e2 : xs ((i + k : Nat) : Int).toNat = Int32.ofInt (arg xs i k) := by
    unfold arg
    rw [Int32.ofInt_toInt]
    rfl
  rw [e2]
  exact h H ls P F hl
theorem lj_eq (C : LC p s m meth c b Lx xs E) {z off : Int} (hd : decode code pc = .ok (.if_icmp .eq off, 3)) (ht : (pc : Int) + off = 994) (h : LJ p l e s m below meth c b E i 994 st S) : LJ p l e s m below meth c b E i pc (.int (Int32.ofInt z) :: .int (Int32.ofInt z) :: st) S := by
  intro H ls P F hl
  obtain ⟨⟨hx, hb, -⟩, -⟩ := id C
  exact lv_icmp_eq hx hb hd (tgt := 994) ht (fun _ => h H ls P F hl) (fun q => absurd rfl q)
theorem lj_next (C : LC p s m meth c b Lx xs E) (hi : i ≤ 4000) (h : LJ p l e s m below meth c b E (i + 6) 18 [] S) : LJ p l e s m below meth c b E i 994 [] S := by
  intro H ls P F hl
  obtain ⟨⟨hx, hb, -⟩, -⟩ := id C
  refine lv_iinc (nL := 4) hx hb (show decode code 994 = .ok (.iinc 3 6, 3) by decide +kernel) hl (k := 0) rfl (v := Int32.ofInt ((i + 6 : Nat) : Int)) (by rw [← Int32.ofInt_add]; rfl) (by decide) rfl (fun ls1 hl1 => ?_)
  exact lv_goto hx hb (show decode code 997 = .ok (.goto (-979), 3) by decide +kernel) (tgt := 18) (by decide) (h H ls1 P F hl1)
theorem lj_test (C : LC p s m meth c b Lx xs E) (hi : i ≤ 4000) (h : i + 6 ≤ Lx → LJ p l e s m below meth c b E i 27 [] S) : LJ p l e s m below meth c b E i 18 [] S := by
  intro H ls P F hl
  obtain ⟨⟨hx, hb, hrr, hml, hown, hlt, hX, hbl, hlk, -⟩, hE, hL, hts, hK, hTx⟩ := id C
  refine lv_iload_n hx hb (show decode code 18 = .ok (.iload_n 3, 1) by decide +kernel) rfl (lv_at hl 0 rfl) ?_
  refine lv_aload_n hx hb (show decode code 19 = .ok (.aload_n 0, 1) by decide +kernel) rfl (lv_at hl 3 rfl) ?_
  refine va_slen hx hb hX hbl (by rw [hE]; omega) F (show decode code 20 = .ok (.arraylength, 1) by decide +kernel) ?_
  refine lv_bipush hx hb (show decode code 21 = .ok (.bipush 6, 2) by decide +kernel) (v := Int32.ofInt 6) rfl ?_
  refine lv_isub hx hb (show decode code 23 = .ok (.isub, 1) by decide +kernel) ?_
  have e1 : Int32.ofNat Lx - Int32.ofInt 6 = Int32.ofInt ((Lx : Int) - 6) := by
    rw [Int32.ofInt_sub, Int32.ofInt_eq_ofNat]
  rw [e1]
  have hy1 : yI ((Lx : Int) - 6) := ⟨by omega, by omega⟩
  have hy2 : yI (i : Int) := ⟨by omega, by omega⟩
  refine lv_icmp_gt hx hb (show decode code 24 = .ok (.if_icmp .gt 976, 3) by decide +kernel) (tgt := 1000) (by decide) (fun _ => ?_) (fun q => ?_)
  · refine lv_iconst hx hb (show decode code 1000 = .ok (.iconst 1, 1) by decide +kernel) (v := 1) rfl ?_
    refine W.widen (k := 600000) (n := 7302250) (by decide) (by decide) ?_
    exact lw_ret hx hb hrr hlk (show decode code 1001 = .ok (.ireturn, 1) by decide +kernel)
  · rw [yI_lt hy1 hy2] at q
    exact h (by omega) H ls P F hl
end LAW
