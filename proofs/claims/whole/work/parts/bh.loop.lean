section LAW3
variable {p : Program} {l : Launch} {e : Env} {s : State} {m : MethodId} {below : List Frame} {meth : Method} {c : Code} {b Lx : Nat} {xs : Nat → Int32} {E : yE} {i : Nat}
set_option maxHeartbeats 4000000 in
set_option maxRecDepth 10000 in
theorem lj_switch (C : LC p s m meth c b Lx xs E) (hi : i + 6 ≤ Lx) {ρ : ySt} (h0 : INV ρ ρ) (h : ∀ ρ2, INV ρ2 ρ2 → LJ p l e s m below meth c b E i 994 [] (ov ρ2)) : LJ p l e s m below meth c b E i 27 [] (ov ρ) := by
  intro H ls P F hl
  obtain ⟨⟨hx, hb, hrr, hml, hown, hlt, hX, hbl, -⟩, hE, hL, hts, hK, hTx⟩ := id C
  refine lv_aload_n hx hb (show decode code 27 = .ok (.aload_n 0, 1) by decide +kernel) rfl (lv_at hl 3 rfl) ?_
  refine lv_iload_n hx hb (show decode code 28 = .ok (.iload_n 3, 1) by decide +kernel) rfl (lv_at hl 0 rfl) ?_
  have hy : yI (i : Int) := ⟨by omega, by omega⟩
  refine va_sld hx hb hX hbl (by rw [hE]; omega) F (yI_in hy (by omega) (by omega)) (show decode code 29 = .ok (.iaload, 1) by decide +kernel) ?_
  refine lv_bipush hx hb (show decode code 30 = .ok (.bipush 31, 2) by decide +kernel) (v := 31) rfl ?_
  refine lv_iand hx hb (show decode code 32 = .ok (.iand, 1) by decide +kernel) ?_
  have hdt : decode code 33 = .ok (.tableswitch 961 0 27 #[127, 190, 213, 226, 239, 262, 295, 338, 361, 384, 407, 450, 483, 516, 549, 592, 635, 648, 671, 704, 717, 760, 783, 806, 839, 892, 915, 938], 127) := by decide +kernel
  generalize xs (Int32.ofInt (i : Int)).toNatClampNeg &&& 31 = z
  by_cases hz : z.toInt < 0 ∨ 27 < z.toInt
  · exact lv_tableOut hx hb hdt hz (tgt := 994) (by decide) (h ρ h0 H ls P F hl)
  · have h1 : ¬ z.toInt < 0 := fun q => hz (Or.inl q)
    have h2 : ¬ 27 < z.toInt := fun q => hz (Or.inr q)
    by_cases q0 : z.toInt = 0
    · exact lv_tableIn hx hb hdt h1 h2 (off := 127) (by rw [q0]; rfl) (tgt := 160) (by decide) (lc_feed C hi h0 h H ls P F hl)
    by_cases q1 : z.toInt = 1
    · exact lv_tableIn hx hb hdt h1 h2 (off := 190) (by rw [q1]; rfl) (tgt := 223) (by decide) (lc_end C hi h0 h H ls P F hl)
    by_cases q2 : z.toInt = 2
    · exact lv_tableIn hx hb hdt h1 h2 (off := 213) (by rw [q2]; rfl) (tgt := 246) (by decide) (lc_town C hi h0 h H ls P F hl)
    by_cases q3 : z.toInt = 3
    · exact lv_tableIn hx hb hdt h1 h2 (off := 226) (by rw [q3]; rfl) (tgt := 259) (by decide) (lc_plan C hi h0 h H ls P F hl)
    by_cases q4 : z.toInt = 4
    · exact lv_tableIn hx hb hdt h1 h2 (off := 239) (by rw [q4]; rfl) (tgt := 272) (by decide) (lc_fault C hi h0 h H ls P F hl)
    by_cases q5 : z.toInt = 5
    · exact lv_tableIn hx hb hdt h1 h2 (off := 262) (by rw [q5]; rfl) (tgt := 295) (by decide) (lc_minutes C hi h0 h H ls P F hl)
    by_cases q6 : z.toInt = 6
    · exact lv_tableIn hx hb hdt h1 h2 (off := 295) (by rw [q6]; rfl) (tgt := 328) (by decide) (lc_right C hi h0 h H ls P F hl)
    by_cases q7 : z.toInt = 7
    · exact lv_tableIn hx hb hdt h1 h2 (off := 338) (by rw [q7]; rfl) (tgt := 371) (by decide) (lc_judge C hi h0 h H ls P F hl)
    by_cases q8 : z.toInt = 8
    · exact lv_tableIn hx hb hdt h1 h2 (off := 361) (by rw [q8]; rfl) (tgt := 394) (by decide) (lc_value C hi h0 h H ls P F hl)
    by_cases q9 : z.toInt = 9
    · exact lv_tableIn hx hb hdt h1 h2 (off := 384) (by rw [q9]; rfl) (tgt := 417) (by decide) (lc_best C hi h0 h H ls P F hl)
    by_cases q10 : z.toInt = 10
    · exact lv_tableIn hx hb hdt h1 h2 (off := 407) (by rw [q10]; rfl) (tgt := 440) (by decide) (lc_bestAt C hi h0 h H ls P F hl)
    by_cases q11 : z.toInt = 11
    · exact lv_tableIn hx hb hdt h1 h2 (off := 450) (by rw [q11]; rfl) (tgt := 483) (by decide) (lc_breaks C hi h0 h H ls P F hl)
    by_cases q12 : z.toInt = 12
    · exact lv_tableIn hx hb hdt h1 h2 (off := 483) (by rw [q12]; rfl) (tgt := 516) (by decide) (lc_spare C hi h0 h H ls P F hl)
    by_cases q13 : z.toInt = 13
    · exact lv_tableIn hx hb hdt h1 h2 (off := 516) (by rw [q13]; rfl) (tgt := 549) (by decide) (lc_often C hi h0 h H ls P F hl)
    by_cases q14 : z.toInt = 14
    · exact lv_tableIn hx hb hdt h1 h2 (off := 549) (by rw [q14]; rfl) (tgt := 582) (by decide) (lc_built C hi h0 h H ls P F hl)
    by_cases q15 : z.toInt = 15
    · exact lv_tableIn hx hb hdt h1 h2 (off := 592) (by rw [q15]; rfl) (tgt := 625) (by decide) (lc_meet C hi h0 h H ls P F hl)
    by_cases q16 : z.toInt = 16
    · exact lv_tableIn hx hb hdt h1 h2 (off := 635) (by rw [q16]; rfl) (tgt := 668) (by decide) (lc_mend C hi h0 h H ls P F hl)
    by_cases q17 : z.toInt = 17
    · exact lv_tableIn hx hb hdt h1 h2 (off := 648) (by rw [q17]; rfl) (tgt := 681) (by decide) (lc_where C hi h0 h H ls P F hl)
    by_cases q18 : z.toInt = 18
    · exact lv_tableIn hx hb hdt h1 h2 (off := 671) (by rw [q18]; rfl) (tgt := 704) (by decide) (lc_send C hi h0 h H ls P F hl)
    by_cases q19 : z.toInt = 19
    · exact lv_tableIn hx hb hdt h1 h2 (off := 704) (by rw [q19]; rfl) (tgt := 737) (by decide) (lc_strike C hi h0 h H ls P F hl)
    by_cases q20 : z.toInt = 20
    · exact lv_tableIn hx hb hdt h1 h2 (off := 717) (by rw [q20]; rfl) (tgt := 750) (by decide) (lc_count C hi h0 h H ls P F hl)
    by_cases q21 : z.toInt = 21
    · exact lv_tableIn hx hb hdt h1 h2 (off := 760) (by rw [q21]; rfl) (tgt := 793) (by decide) (lc_untell C hi h0 h H ls P F hl)
    by_cases q22 : z.toInt = 22
    · exact lv_tableIn hx hb hdt h1 h2 (off := 783) (by rw [q22]; rfl) (tgt := 816) (by decide) (lc_later C hi h0 h H ls P F hl)
    by_cases q23 : z.toInt = 23
    · exact lv_tableIn hx hb hdt h1 h2 (off := 806) (by rw [q23]; rfl) (tgt := 839) (by decide) (lc_states C hi h0 h H ls P F hl)
    by_cases q24 : z.toInt = 24
    · exact lv_tableIn hx hb hdt h1 h2 (off := 839) (by rw [q24]; rfl) (tgt := 872) (by decide) (lc_sure C hi h0 h H ls P F hl)
    by_cases q25 : z.toInt = 25
    · exact lv_tableIn hx hb hdt h1 h2 (off := 892) (by rw [q25]; rfl) (tgt := 925) (by decide) (lc_image C hi h0 h H ls P F hl)
    by_cases q26 : z.toInt = 26
    · exact lv_tableIn hx hb hdt h1 h2 (off := 915) (by rw [q26]; rfl) (tgt := 948) (by decide) (lc_back C hi h0 h H ls P F hl)
    by_cases q27 : z.toInt = 27
    · exact lv_tableIn hx hb hdt h1 h2 (off := 938) (by rw [q27]; rfl) (tgt := 971) (by decide) (lc_about C hi h0 h H ls P F hl)
    omega
theorem lj_loop (C : LC p s m meth c b Lx xs E) : ∀ (f i : Nat), Lx < i + f → i ≤ Lx + 6 → ∀ ρ, INV ρ ρ → LJ p l e s m below meth c b E i 18 [] (ov ρ)
  | 0, i, h1, h2, ρ, h0 => lj_test C (by have := C.2.2.1; omega) (fun q => by omega)
  | f + 1, i, h1, h2, ρ, h0 => lj_test C (by have := C.2.2.1; omega) (fun q => lj_switch C q h0 (fun ρ2 h3 => lj_next C (by have := C.2.2.1; omega) (lj_loop C f (i + 6) (by omega) (by omega) ρ2 h3)))
end LAW3

