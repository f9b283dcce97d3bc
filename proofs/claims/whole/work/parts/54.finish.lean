/-! the class's table of what is right -/
theorem yKd_16 : ∀ T : Nat, (T = 13 ∨ T = 33) → (yKd (T + 16)).2 = 36 := by
  rintro T (rfl | rfl) <;> decide
theorem strokesRight_ok {N T L md p h : Nat} {σ : ySt} (hN : 100000 ≤ N) (hT : T = 13 ∨ T = 33) (hL : σ (T + 17) 2 = L) (hL4 : L < 400) (w : WF (σ (T + 18)) L) (hd : dp (σ (T + 18)) L = if L = 0 then 0 else 1) (hc : ∀ i, i < L → -118 ≤ σ (T + 18) i ∧ σ (T + 18) i ≤ 9999) (hmd : σ (T + 5) 1 = md) (hm : md ≤ 3) (hp : p < 6) (hh : h ≤ 5) :
    Ok (cTw_strokesRight N T p h σ) (fun r => (∀ i, i ≠ T + 19 → r.2 i = σ i) ∧ ∃ B : Nat, r.1 = B ∧ B < 512 ∧ ∀ s : Nat, 1 ≤ s → s ≤ 8 → Nat.testBit B s = decide (rgt σ T L md p h s ≠ 0)) := by
  unfold cTw_strokesRight
  rw [Ok_chk, Ok_chkA, Int.toNat_natCast]
  refine ⟨hT, by omega, ?_⟩
  refine Ok_jq (σ (T + 7) p = 0 ∨ (h : Int) ≤ 0) (fun hq => ?_) (fun j hj => ?_)
  · have hneg : ¬ (¬ σ (T + 7) p = 0 ∧ 0 < (h : Int)) := by omega
    refine Ok_loopS2 (fun x4 x5 ρ => ∃ (s B : Nat), x5 = s ∧ x4 = B ∧ 1 ≤ s ∧ s ≤ 9 ∧ B < 2 ^ s ∧ (∀ i, i ≠ T + 19 → ρ i = σ i) ∧ ∀ u : Nat, 1 ≤ u → u < s → Nat.testBit B u = decide (rgt σ T L md p h u ≠ 0)) (fun _ x5 _ => (10 - x5.toNat : Nat)) ?_ N _ _ _ ⟨1, 0, rfl, rfl, by omega, by omega, by decide, fun _ _ => rfl, fun u h1 h2 => by omega⟩ (by omega)
    rintro k x4 x5 ρ ⟨s, B, rfl, rfl, h1, h9, hB, i1, i2⟩ rec
    rw [Ok_ite, Ok_some]
    refine ⟨fun q => ?_, fun q => ?_⟩
    · have : s = 9 := by omega
      subst this
      exact ⟨i1, B, rfl, hB, fun u u1 u2 => i2 u u1 (by omega)⟩
    · have hs8 : s ≤ 8 := by omega
      have e18 : ρ (T + 17 + 1) = σ (T + 18) := i1 (T + 18) (by omega)
      rw [cTw_dogsAt_ok hN hT (by rw [i1 (T + 5) (by omega)]; exact hmd) hm, bndO_s, i1 (T + 10) (by omega), Ok_bndR]
      refine (cRu_holds_ok (o := T + 17) (L := L) hN (by omega) (by rw [i1 (T + 17) (by omega)]; exact hL) hL4 (by rw [e18]; exact w) (by rw [e18]; exact hd) (by rw [e18]; exact hc) (by omega)).mono ?_
      rintro ⟨r, ρ'⟩ ⟨a1, a2⟩
      dsimp only at a1 a2 ⊢
      rw [e18] at a1
      have er : rgt σ T L md p h s = r := by
        unfold rgt
        rw [Int.toNat_natCast, if_neg hneg, a1]
      have hbo := bit_or B s ⟨h1, hs8⟩ hB
      generalize b32or (B : Int) (b32shl 1 (s : Int)) = bo at hbo ⊢
      refine Ok_jq1 (fun (y : Int) => ∃ B' : Nat, y = (B' : Int) ∧ B' < 2 ^ (s + 1) ∧ ∀ u : Nat, 1 ≤ u → u < s + 1 → Nat.testBit B' u = decide (rgt σ T L md p h u ≠ 0)) (fun y14 hy => ?_) (fun x hx => ?_)
      · obtain ⟨B', rfl, hB', hu⟩ := hy
        rw [Ok_chkI]
        exact ⟨by omega, rec _ _ _ ⟨s + 1, B', by omega, rfl, by omega, by omega, hB', fun i hi => by rw [a2 i hi]; exact i1 i hi, hu⟩ (by omega)⟩
      · have hpow : 2 ^ (s + 1) = 2 ^ s + 2 ^ s := by rw [Nat.pow_succ]; omega
        rw [Ok_ite]
        refine ⟨fun q2 => hx _ ⟨B, rfl, by omega, fun u u1 u2 => ?_⟩, fun q2 => ?_⟩
        · by_cases c : u < s
          · exact i2 u u1 c
          · have : u = s := by omega
            subst this
            rw [Nat.testBit_lt_two_pow hB, er, q2]
            rfl
        · refine hx _ ⟨B + 2 ^ s, hbo, by omega, fun u u1 u2 => ?_⟩
          rw [Nat.add_comm]
          by_cases c : u < s
          · rw [Nat.testBit_two_pow_add_gt c]
            exact i2 u u1 c
          · have : u = s := by omega
            subst this
            rw [Nat.testBit_two_pow_add_eq, Nat.testBit_lt_two_pow hB, er]
            simp [q2]
  · rw [Ok_ite]
    refine ⟨fun q => hj (Or.inl q), fun q => ?_⟩
    rw [Ok_ite]
    refine ⟨fun q2 => hj (Or.inr q2), fun q2 => ?_⟩
    rw [Ok_some]
    refine ⟨fun _ _ => rfl, 0, rfl, by decide, fun s h1 h2 => ?_⟩
    unfold rgt
    rw [Int.toNat_natCast, if_pos ⟨q, by omega⟩, Nat.zero_testBit]
    rfl
/-- the class's finished town -/
def FT (σ : ySt) (T mp md L : Nat) (W : Nat → Int) : Prop := MT mp (fun a b => W (6 * a + b)) (fun a b => σ (T + 15) (6 * a + b)) ∧ ∀ p h : Nat, p < mp → h < 6 → ∃ B : Nat, σ (T + 16) (6 * p + h) = B ∧ B < 512 ∧ ∀ s : Nat, 1 ≤ s → s ≤ 8 → Nat.testBit B s = decide (rgt σ T L md p h s ≠ 0)
theorem isRight_bits {T p h s B : Nat} {σ : ySt} (hT : T = 13 ∨ T = 33) (hp : p < 6) (hh : h < 6) (hs : s ≤ 8) (hB : σ (T + 16) (6 * p + h) = B) (hB5 : B < 512) : cTw_isRight T p h s σ = some (if Nat.testBit B s then 1 else 0) := by
  apply Ok_eq
  unfold cTw_isRight
  have ix : ((p : Int) * 6 + (h : Int)).toNat = 6 * p + h := by omega
  rw [Ok_chk, Ok_chkI, Ok_chkI, Ok_chkA, ix, hB, bit_at B s hs hB5, Ok_ite, Ok_some, Ok_some]
  refine ⟨hT, by omega, by omega, by omega, fun q => ?_, fun q => ?_⟩
  · by_cases c : Nat.testBit B s = true
    · rw [if_pos c] at q
      exact absurd rfl q
    · rw [if_neg c]
  · by_cases c : Nat.testBit B s = true
    · rw [if_pos c]
    · rw [if_neg c] at q
      exact absurd (by decide) q
theorem FT_right {σ : ySt} {T mp md L : Nat} {W : Nat → Int} (hT : T = 13 ∨ T = 33) (hmp : mp ≤ 6) (h : FT σ T mp md L W) (p h' s : Nat) (q1 : p < mp) (q2 : h' < 6) (q3 : 1 ≤ s) (q4 : s ≤ 8) : cTw_isRight T p h' s σ = some (if rgt σ T L md p h' s = 0 then 0 else 1) := by
  obtain ⟨B, b1, b2, b3⟩ := h.2 p h' q1 q2
  rw [isRight_bits hT (by omega) q2 q4 b1 b2, b3 s q3 q4]
  by_cases c : rgt σ T L md p h' s = 0
  · simp [c]
  · simp [c]
theorem cTw_finish_ok {N T L mp md : Nat} {σ : ySt} (hN : 100000 ≤ N) (hT : T = 13 ∨ T = 33) (hmp : σ (T + 1) 1 = mp) (hmp6 : mp ≤ 6) (hL : σ (T + 17) 2 = L) (hL4 : L < 400) (w : WF (σ (T + 18)) L) (hd : dp (σ (T + 18)) L = if L = 0 then 0 else 1) (hc : ∀ i, i < L → -118 ≤ σ (T + 18) i ∧ σ (T + 18) i ≤ 9999) (hmd : σ (T + 5) 1 = md) (hm : md ≤ 3) (h0 : ∀ a b, a < 6 → b < 6 → 0 ≤ σ (T + 15) (6 * a + b) ∧ σ (T + 15) (6 * a + b) ≤ 1000000) (h1 : ∀ a, a < mp → σ (T + 15) (6 * a + a) = 0) :
    Ok (cTw_finish N T σ) (fun σ' => (∀ i, i ≠ T + 15 → i ≠ T + 16 → i ≠ T + 19 → σ' i = σ i) ∧ FT σ' T mp md L (σ (T + 15)) ∧ (∀ j, (∀ a b, a < mp → b < mp → j ≠ 6 * a + b) → σ' (T + 15) j = σ (T + 15) j)) := by
  unfold cTw_finish
  rw [Ok_chk, Ok_bndO]
  refine ⟨hT, (cTw_layLeast_ok hN hT hmp hmp6 h0 h1).mono ?_⟩
  rintro σ3 ⟨l1, l2, l3⟩
  have rg : ∀ ρ : ySt, (∀ i, i ≠ T + 16 → i ≠ T + 19 → ρ i = σ3 i) → ∀ p h s : Int, rgt ρ T L md p h s = rgt σ3 T L md p h s := by
    intro ρ e p h s
    unfold rgt
    rw [e (T + 7) (by omega) (by omega), e (T + 18) (by omega) (by omega), e (T + 10) (by omega) (by omega)]
  have rg3 : ∀ p h s : Int, rgt σ3 T L md p h s = rgt σ T L md p h s := by
    intro p h s
    unfold rgt
    rw [l1 (T + 7) (by omega), l1 (T + 18) (by omega), l1 (T + 10) (by omega)]
  refine Ok_loopS1 (fun x ρ => ∃ k : Nat, x = k ∧ k ≤ mp ∧ (∀ i, i ≠ T + 16 → i ≠ T + 19 → ρ i = σ3 i) ∧ ∀ p h : Nat, p < k → h < 6 → ∃ B : Nat, ρ (T + 16) (6 * p + h) = B ∧ B < 512 ∧ ∀ s : Nat, 1 ≤ s → s ≤ 8 → Nat.testBit B s = decide (rgt σ T L md p h s ≠ 0)) (fun x _ => (mp - x.toNat : Nat)) ?_ N _ _ ⟨0, rfl, by omega, fun _ _ _ => rfl, fun p h hp => absurd hp (Nat.not_lt_zero p)⟩ (by omega)
  rintro k x ρ ⟨p, rfl, hp, i1, i2⟩ rec
  rw [i1 (T + 1) (by omega) (by omega), l1 (T + 1) (by omega), hmp, Ok_ite, Ok_some]
  refine ⟨fun q => ?_, fun q => ?_⟩
  · have : p = mp := by omega
    subst this
    refine ⟨fun i a b c => by rw [i1 i b c]; exact l1 i a, ⟨?_, fun p' h q1 q2 => ?_⟩, fun j hj => by rw [i1 (T + 15) (by omega) (by omega)]; exact l3 j hj⟩
    · rw [i1 (T + 15) (by omega) (by omega)]
      exact l2
    · obtain ⟨B, b1, b2, b3⟩ := i2 p' h q1 q2
      exact ⟨B, b1, b2, fun s q3 q4 => by rw [b3 s q3 q4, rg ρ i1, rg3]⟩
  · have hpm : p < mp := by omega
    refine Ok_loopS2 (fun x y μ => x = (p : Int) ∧ ∃ h : Nat, y = h ∧ h ≤ 6 ∧ (∀ i, i ≠ T + 16 → i ≠ T + 19 → μ i = σ3 i) ∧ ∀ p' h' : Nat, (p' < p ∨ (p' = p ∧ h' < h)) → h' < 6 → ∃ B : Nat, μ (T + 16) (6 * p' + h') = B ∧ B < 512 ∧ ∀ s : Nat, 1 ≤ s → s ≤ 8 → Nat.testBit B s = decide (rgt σ T L md p' h' s ≠ 0)) (fun _ y _ => (6 - y.toNat : Nat)) ?_ N _ _ _ ⟨rfl, 0, rfl, by omega, i1, fun p' h' hx h6 => i2 p' h' (by omega) h6⟩ (by omega)
    rintro k2 x y μ ⟨rfl, h, rfl, hh, j1, j2⟩ rec2
    rw [Ok_ite]
    refine ⟨fun q2 => ?_, fun q2 => ?_⟩
    · rw [Ok_chkI]
      exact ⟨by omega, rec _ _ ⟨p + 1, by omega, by omega, j1, fun p' h' hx h6 => j2 p' h' (by omega) h6⟩ (by omega)⟩
    · have J : ∀ i, i ≠ T + 15 → i ≠ T + 16 → i ≠ T + 19 → μ i = σ i := fun i a b c => by rw [j1 i b c]; exact l1 i a
      have ix : ((p : Int) * 6 + (h : Int)).toNat = 6 * p + h := by omega
      rw [Ok_chkI, Ok_chkI, Ok_bndR]
      refine ⟨by omega, by omega, ?_⟩
      refine (strokesRight_ok (L := L) (md := md) (p := p) (h := h) hN hT (by rw [J (T + 17) (by omega) (by omega) (by omega)]; exact hL) hL4 (by rw [J (T + 18) (by omega) (by omega) (by omega)]; exact w) (by rw [J (T + 18) (by omega) (by omega) (by omega)]; exact hd) (by rw [J (T + 18) (by omega) (by omega) (by omega)]; exact hc) (by rw [J (T + 5) (by omega) (by omega) (by omega)]; exact hmd) hm (by omega) (by omega)).mono ?_
      rintro ⟨r, μ'⟩ ⟨b1, B, b2, b3, b4⟩
      dsimp only at b1 b2 ⊢
      rw [Ok_chkA, ix, Ok_bnd, Ok_chkI, b2]
      refine ⟨by omega, by omega, rec2 _ _ _ ⟨rfl, h + 1, by omega, by omega, fun i a b => by rw [yset_off i a, b1 i b]; exact j1 i a b, fun p' h' hx h6 => ?_⟩ (by omega)⟩
      by_cases c : p' = p ∧ h' = h
      · rw [c.1, c.2, yset_at]
        refine ⟨B, rfl, b3, fun s s1 s2 => ?_⟩
        rw [b4 s s1 s2, rg μ j1, rg3]
      · rw [yset_ne (by omega), b1 (T + 16) (by omega)]
        exact j2 p' h' (by omega) h6
