/-! an empty town, an empty bank, the tape taken -/
theorem jA_fill_ok {N a len : Nat} {z : Int} {σ : ySt} (hN : 100000 ≤ N) (h1 : (yKd a).1 = 20 ∧ a < 150) (h2 : (yKd a).2 = len) (h3 : len ≤ 10000) :
    Ok (jA_fill_53178 N a z σ) (fun σ' => (∀ i, i ≠ a → σ' i = σ i) ∧ (∀ j, j < len → σ' a j = z) ∧ (∀ j, len ≤ j → σ' a j = σ a j)) := by
  unfold jA_fill_53178
  rw [Ok_chk, h2]
  refine ⟨h1, Ok_loopS1 (fun x σ' => ∃ k : Nat, x = k ∧ k ≤ len ∧ (∀ i, i ≠ a → σ' i = σ i) ∧ (∀ j, j < k → σ' a j = z) ∧ (∀ j, k ≤ j → σ' a j = σ a j)) (fun x _ => (len - x.toNat : Nat)) ?_ N _ _ ⟨0, rfl, by omega, fun _ _ => rfl, fun j hj => absurd hj (Nat.not_lt_zero j), fun _ _ => rfl⟩ (by omega)⟩
  rintro k x σ' ⟨m, rfl, hm, i1, i2, i3⟩ rec
  rw [Ok_ite, Ok_some]
  refine ⟨fun q => ⟨i1, fun j hj => i2 j (by omega), fun j hj => i3 j (by omega)⟩, fun q => ?_⟩
  rw [Ok_chkA, Int.toNat_natCast, Ok_bnd, Ok_chkI]
  refine ⟨by omega, by omega, rec _ _ ⟨m + 1, by omega, by omega, fun i hi => by rw [yset_off i hi]; exact i1 i hi, fun j hj => ?_, fun j hj => by rw [yset_ne (by omega)]; exact i3 j (by omega)⟩ (by omega)⟩
  by_cases c : j = m
  · rw [c, yset_at]
  · rw [yset_ne (by omega)]
    exact i2 j (by omega)
theorem yKd_15 : ∀ T : Nat, (T = 13 ∨ T = 33) → (yKd (T + 15)).1 = 20 ∧ (yKd (T + 15)).2 = 36 := by
  rintro T (rfl | rfl) <;> decide
/-- an empty town -/
def EmC (σ : ySt) (T : Nat) : Prop := σ (T + 1) 1 = 0 ∧ σ (T + 3) 1 = 0 ∧ σ (T + 5) 1 = 0 ∧ σ T 14 = 0 ∧ σ T 15 = 0 ∧ σ T 16 = 60 ∧ σ T 17 = 3 ∧ σ (T + 17) 2 = 0 ∧ σ (T + 17) 3 = 0 ∧ ∀ i j, i < 6 → j < 6 → σ (T + 15) (6 * i + j) = if i = j then 0 else 1000000
theorem cTw_clear_ok {N T : Nat} {σ : ySt} (hN : 100000 ≤ N) (hT : T = 13 ∨ T = 33) : Ok (cTw_clear N T σ) (fun σ' => (∀ i, (i < T ∨ T + 18 < i) → σ' i = σ i) ∧ EmC σ' T) := by
  unfold cTw_clear
  rw [Ok_chk, Ok_bnd, Ok_bnd, Ok_bnd, Ok_bnd, Ok_bnd, Ok_bnd, Ok_bnd]
  refine ⟨hT, ?_⟩
  generalize hσ1 : yset (yset (yset (yset (yset (yset (yset σ (T + 1) 1 0) (T + 3) 1 0) (T + 5) 1 0) T 14 0) T 15 0) T 16 60) T 17 3 = σ1
  have e1 : σ1 (T + 1) 1 = 0 ∧ σ1 (T + 3) 1 = 0 ∧ σ1 (T + 5) 1 = 0 ∧ σ1 T 14 = 0 ∧ σ1 T 15 = 0 ∧ σ1 T 16 = 60 ∧ σ1 T 17 = 3 := by
    rw [← hσ1]
    refine ⟨?_, ?_, ?_, ?_, ?_, ?_, yset_at⟩
    · rw [yset_ne (by omega), yset_ne (by omega), yset_ne (by omega), yset_ne (by omega), yset_ne (by omega), yset_ne (by omega), yset_at]
    · rw [yset_ne (by omega), yset_ne (by omega), yset_ne (by omega), yset_ne (by omega), yset_ne (by omega), yset_at]
    · rw [yset_ne (by omega), yset_ne (by omega), yset_ne (by omega), yset_ne (by omega), yset_at]
    · rw [yset_ne (by omega), yset_ne (by omega), yset_ne (by omega), yset_at]
    · rw [yset_ne (by omega), yset_ne (by omega), yset_at]
    · rw [yset_ne (by omega), yset_at]
  have f1 : ∀ i, (i < T ∨ T + 18 < i) → σ1 i = σ i := by
    intro i hi
    rw [← hσ1, yset_off i (by omega), yset_off i (by omega), yset_off i (by omega), yset_off i (by omega), yset_off i (by omega), yset_off i (by omega), yset_off i (by omega)]
  have hcl : cRu_clear (T + 17) σ1 = some (yset (yset σ1 (T + 17) 2 0) (T + 17) 3 0) := by
    apply Ok_eq
    unfold cRu_clear
    rw [Ok_chk, Ok_bnd, Ok_bnd, Ok_some]
    exact ⟨by omega, rfl⟩
  rw [hcl, bndO_s, Ok_bndO]
  refine (jA_fill_ok (a := T + 15) (len := 36) hN ⟨(yKd_15 T hT).1, by omega⟩ (yKd_15 T hT).2 (by omega)).mono ?_
  rintro σ2 ⟨g1, g2, g3⟩
  have e2 : (∀ i, (i < T ∨ T + 18 < i) → σ2 i = σ i) ∧ σ2 (T + 1) 1 = 0 ∧ σ2 (T + 3) 1 = 0 ∧ σ2 (T + 5) 1 = 0 ∧ σ2 T 14 = 0 ∧ σ2 T 15 = 0 ∧ σ2 T 16 = 60 ∧ σ2 T 17 = 3 ∧ σ2 (T + 17) 2 = 0 ∧ σ2 (T + 17) 3 = 0 := by
    refine ⟨fun i hi => ?_, ?_, ?_, ?_, ?_, ?_, ?_, ?_, ?_, ?_⟩
    · rw [g1 i (by omega), yset_off i (by omega), yset_off i (by omega)]
      exact f1 i hi
    · rw [g1 _ (by omega), yset_ne (by omega), yset_ne (by omega)]; exact e1.1
    · rw [g1 _ (by omega), yset_ne (by omega), yset_ne (by omega)]; exact e1.2.1
    · rw [g1 _ (by omega), yset_ne (by omega), yset_ne (by omega)]; exact e1.2.2.1
    · rw [g1 _ (by omega), yset_ne (by omega), yset_ne (by omega)]; exact e1.2.2.2.1
    · rw [g1 _ (by omega), yset_ne (by omega), yset_ne (by omega)]; exact e1.2.2.2.2.1
    · rw [g1 _ (by omega), yset_ne (by omega), yset_ne (by omega)]; exact e1.2.2.2.2.2.1
    · rw [g1 _ (by omega), yset_ne (by omega), yset_ne (by omega)]; exact e1.2.2.2.2.2.2
    · rw [g1 _ (by omega), yset_ne (by omega), yset_at]
    · rw [g1 _ (by omega), yset_at]
  obtain ⟨f2, a1, a2, a3, a4, a5, a6, a7, a8, a9⟩ := e2
  refine Ok_loopS1 (fun x σ' => ∃ k : Nat, x = k ∧ k ≤ 6 ∧ (∀ i, i ≠ T + 15 → σ' i = σ2 i) ∧ (∀ i j, i < 6 → j < 6 → σ' (T + 15) (6 * i + j) = if i = j ∧ i < k then 0 else 1000000)) (fun x _ => (6 - x.toNat : Nat)) ?_ N _ _ ⟨0, rfl, by omega, fun _ _ => rfl, fun i j hi hj => by rw [if_neg (by omega)]; exact g2 _ (by omega)⟩ (by omega)
  rintro k x σ' ⟨m, rfl, hm, i1, i2⟩ rec
  rw [Ok_ite, Ok_some]
  refine ⟨fun q => ⟨fun i hi => by rw [i1 i (by omega)]; exact f2 i hi, ?_⟩, fun q => ?_⟩
  · refine ⟨by rw [i1 _ (by omega)]; exact a1, by rw [i1 _ (by omega)]; exact a2, by rw [i1 _ (by omega)]; exact a3, by rw [i1 _ (by omega)]; exact a4, by rw [i1 _ (by omega)]; exact a5, by rw [i1 _ (by omega)]; exact a6, by rw [i1 _ (by omega)]; exact a7, by rw [i1 _ (by omega)]; exact a8, by rw [i1 _ (by omega)]; exact a9, fun i j hi hj => ?_⟩
    rw [i2 i j hi hj]
    by_cases c : i = j
    · rw [if_pos ⟨c, by omega⟩, if_pos c]
    · rw [if_neg (fun w => c w.1), if_neg c]
  · have e : ((m : Int) * 6 + m).toNat = 6 * m + m := by omega
    rw [Ok_chkI, Ok_chkI, Ok_chkA, e, Ok_bnd, Ok_chkI]
    refine ⟨by omega, by omega, by omega, by omega, rec _ _ ⟨m + 1, by omega, by omega, fun i hi => by rw [yset_off i hi]; exact i1 i hi, fun i j hi hj => ?_⟩ (by omega)⟩
    by_cases c : i = m ∧ j = m
    · rw [c.1, c.2, yset_at, if_pos ⟨rfl, by omega⟩]
    · rw [yset_ne (by omega), i2 i j hi hj]
      by_cases c2 : i = j
      · by_cases c3 : i < m
        · rw [if_pos ⟨c2, c3⟩, if_pos ⟨c2, by omega⟩]
        · rw [if_neg (fun w => c3 w.2), if_neg (fun w => by omega)]
      · rw [if_neg (fun w => c2 w.1), if_neg (fun w => c2 w.1)]
/-- an empty bank -/
def EmM (τ : ySt) (b : Nat) : Prop := τ 95 b = 0 ∧ τ 96 b = 0 ∧ τ 97 b = 0 ∧ τ 98 b = 0 ∧ τ 99 b = 0 ∧ τ 100 b = 60 ∧ τ 101 b = 3 ∧ τ 102 b = 0 ∧ τ 103 b = 0 ∧ τ 104 b = 0 ∧ τ 105 b = 0 ∧ τ 118 b = ((400 * b : Nat) : Int) ∧ τ 92 42 = ((400 * b : Nat) : Int) ∧ (∀ j, j < 36 → τ 110 (36 * b + j) = 1000000) ∧ ∀ j, j < 6 → τ 113 (6 * b + j) = 0
theorem mo_clearBank_ok {N b : Nat} {τ : ySt} (hN : 100000 ≤ N) (hb : b < 2) (h41 : τ 92 41 = b) : Ok (mo_clearBank N τ) (fun τ' => FrB b τ' τ ∧ (∀ k, k ≠ 42 → τ' 92 k = τ 92 k) ∧ EmM τ' b) := by
  unfold mo_clearBank
  have y : ∀ {ρ : ySt} {i j : Nat} {z : Int}, ρ 92 41 = b → i ≠ 92 → yset ρ i j z 92 41 = b := fun h hi => by rw [yset_ne (by omega)]; exact h
  rw [Ok_chkA, h41, Int.toNat_natCast, Ok_bnd, Ok_chkA, y h41 (by decide), Int.toNat_natCast, Ok_bnd]
  have y1 := fun (z : Int) => y (ρ := τ) (i := 95) (j := b) (z := z) h41 (by decide)
  have y2 := fun (z : Int) => y (i := 96) (j := b) (z := z) (y1 0) (by decide)
  have y3 := fun (z : Int) => y (i := 97) (j := b) (z := z) (y2 0) (by decide)
  have y4 := fun (z : Int) => y (i := 98) (j := b) (z := z) (y3 0) (by decide)
  have y5 := fun (z : Int) => y (i := 99) (j := b) (z := z) (y4 0) (by decide)
  have y6 := fun (z : Int) => y (i := 100) (j := b) (z := z) (y5 0) (by decide)
  have y7 := fun (z : Int) => y (i := 101) (j := b) (z := z) (y6 60) (by decide)
  have y8 := fun (z : Int) => y (i := 102) (j := b) (z := z) (y7 3) (by decide)
  have y9 := fun (z : Int) => y (i := 103) (j := b) (z := z) (y8 0) (by decide)
  have y10 := fun (z : Int) => y (i := 104) (j := b) (z := z) (y9 0) (by decide)
  have y11 := fun (z : Int) => y (i := 105) (j := b) (z := z) (y10 0) (by decide)
  rw [Ok_chkA, y2, Int.toNat_natCast, Ok_bnd, Ok_chkA, y3, Int.toNat_natCast, Ok_bnd, Ok_chkA, y4, Int.toNat_natCast, Ok_bnd, Ok_chkA, y5, Int.toNat_natCast, Ok_bnd, Ok_chkA, y6, Int.toNat_natCast, Ok_bnd, Ok_chkA, y7, Int.toNat_natCast, Ok_bnd, Ok_chkA, y8, Int.toNat_natCast, Ok_bnd, Ok_chkA, y9, Int.toNat_natCast, Ok_bnd, Ok_chkA, y10, Int.toNat_natCast, Ok_bnd, Ok_chkI, y11, Ok_bnd]
  refine ⟨by omega, by omega, by omega, by omega, by omega, by omega, by omega, by omega, by omega, by omega, by omega, by omega, ?_⟩
  have y12 := y11 0
  generalize hρ : yset (yset (yset (yset (yset (yset (yset (yset (yset (yset (yset τ 95 b 0) 96 b 0) 97 b 0) 98 b 0) 99 b 0) 100 b 60) 101 b 3) 102 b 0) 103 b 0) 104 b 0) 105 b 0 = ρ at y12 ⊢
  have hρ41 : ρ 92 41 = b := y12
  have z1 : yset ρ 92 42 (400 * (b : Int)) 92 41 = b := by rw [yset_ne (by omega)]; exact hρ41
  have z2 : yset ρ 92 42 (400 * (b : Int)) 92 42 = 400 * (b : Int) := yset_at
  have z3 : yset (yset ρ 92 42 (400 * (b : Int))) 118 b (400 * (b : Int)) 92 41 = b := by rw [yset_ne (by omega)]; exact z1
  rw [Ok_chkA, z1, Int.toNat_natCast, z2, Ok_bnd, Ok_chkI, z3]
  refine ⟨by omega, by omega, ?_⟩
  have base : ∀ ρ1 : ySt, ρ1 = yset (yset ρ 92 42 (400 * (b : Int))) 118 b (400 * (b : Int)) → FrB b ρ1 τ ∧ (∀ k, k ≠ 42 → ρ1 92 k = τ 92 k) ∧ (ρ1 95 b = 0 ∧ ρ1 96 b = 0 ∧ ρ1 97 b = 0 ∧ ρ1 98 b = 0 ∧ ρ1 99 b = 0 ∧ ρ1 100 b = 60 ∧ ρ1 101 b = 3 ∧ ρ1 102 b = 0 ∧ ρ1 103 b = 0 ∧ ρ1 104 b = 0 ∧ ρ1 105 b = 0 ∧ ρ1 118 b = ((400 * b : Nat) : Int) ∧ ρ1 92 42 = ((400 * b : Nat) : Int)) := by
    intro ρ1 e
    have f3 : ∀ i, i = 103 ∨ i = 104 ∨ i = 105 → ∀ (S : ySt) (z : Int), FrB b (yset S i b z) S := by
      rintro i (rfl | rfl | rfl) S z
      · exact FrB_set (by decide) (by decide) (by rw [show st 103 = 1 from rfl]; omega) (by rw [show st 103 = 1 from rfl]; omega)
      · exact FrB_set (by decide) (by decide) (by rw [show st 104 = 1 from rfl]; omega) (by rw [show st 104 = 1 from rfl]; omega)
      · exact FrB_set (by decide) (by decide) (by rw [show st 105 = 1 from rfl]; omega) (by rw [show st 105 = 1 from rfl]; omega)
    have g : ∀ (S : ySt) (z : Int), FrB b (yset S 92 42 z) S := fun S z => ⟨fun i a _ => yset_off i a, fun i j a c _ => yset_ne (by omega), fun k a c d e => yset_ne (by omega)⟩
    refine ⟨?_, fun k hk => ?_, ?_, ?_, ?_, ?_, ?_, ?_, ?_, ?_, ?_, ?_, ?_, ?_, ?_⟩
    · rw [e, ← hρ]
      exact FrB_tr (FrB_tr (FrB_tr (FrB_tr (FrB_tr (FrB_tr (FrB_tr (FrB_tr (FrB_tr (FrB_tr (FrB_tr (FrB_tr (FrB_1 (by omega)) (FrB_1 (by omega))) (FrB_1 (by omega))) (FrB_1 (by omega))) (FrB_1 (by omega))) (FrB_1 (by omega))) (FrB_1 (by omega))) (FrB_1 (by omega))) (f3 103 (by omega) _ _)) (f3 104 (by omega) _ _)) (f3 105 (by omega) _ _)) (g _ _)) (FrB_1 (by omega))
    all_goals rw [e, ← hρ]
    · rw [yset_ne (by omega), yset_ne (by omega), yset_ne (by omega), yset_ne (by omega), yset_ne (by omega), yset_ne (by omega), yset_ne (by omega), yset_ne (by omega), yset_ne (by omega), yset_ne (by omega), yset_ne (by omega), yset_ne (by omega), yset_ne (by omega)]
    · rw [yset_ne (by omega), yset_ne (by omega), yset_ne (by omega), yset_ne (by omega), yset_ne (by omega), yset_ne (by omega), yset_ne (by omega), yset_ne (by omega), yset_ne (by omega), yset_ne (by omega), yset_ne (by omega), yset_ne (by omega), yset_at]
    · rw [yset_ne (by omega), yset_ne (by omega), yset_ne (by omega), yset_ne (by omega), yset_ne (by omega), yset_ne (by omega), yset_ne (by omega), yset_ne (by omega), yset_ne (by omega), yset_ne (by omega), yset_ne (by omega), yset_at]
    · rw [yset_ne (by omega), yset_ne (by omega), yset_ne (by omega), yset_ne (by omega), yset_ne (by omega), yset_ne (by omega), yset_ne (by omega), yset_ne (by omega), yset_ne (by omega), yset_ne (by omega), yset_at]
    · rw [yset_ne (by omega), yset_ne (by omega), yset_ne (by omega), yset_ne (by omega), yset_ne (by omega), yset_ne (by omega), yset_ne (by omega), yset_ne (by omega), yset_ne (by omega), yset_at]
    · rw [yset_ne (by omega), yset_ne (by omega), yset_ne (by omega), yset_ne (by omega), yset_ne (by omega), yset_ne (by omega), yset_ne (by omega), yset_ne (by omega), yset_at]
    · rw [yset_ne (by omega), yset_ne (by omega), yset_ne (by omega), yset_ne (by omega), yset_ne (by omega), yset_ne (by omega), yset_ne (by omega), yset_at]
    · rw [yset_ne (by omega), yset_ne (by omega), yset_ne (by omega), yset_ne (by omega), yset_ne (by omega), yset_ne (by omega), yset_at]
    · rw [yset_ne (by omega), yset_ne (by omega), yset_ne (by omega), yset_ne (by omega), yset_ne (by omega), yset_at]
    · rw [yset_ne (by omega), yset_ne (by omega), yset_ne (by omega), yset_ne (by omega), yset_at]
    · rw [yset_ne (by omega), yset_ne (by omega), yset_ne (by omega), yset_at]
    · rw [yset_ne (by omega), yset_ne (by omega), yset_at]
    · rw [yset_at]; omega
    · rw [yset_ne (by omega), yset_at]; omega
  generalize hρ1 : yset (yset ρ 92 42 (400 * (b : Int))) 118 b (400 * (b : Int)) = ρ1
  obtain ⟨b1, b2, b3⟩ := base ρ1 hρ1.symm
  have b41 : ρ1 92 41 = b := by rw [b2 41 (by omega)]; exact h41
  refine Ok_loopS1 (fun x σ' => ∃ k : Nat, x = ((36 * b + k : Nat) : Int) ∧ k ≤ 36 ∧ (∀ i, i ≠ 110 → σ' i = ρ1 i) ∧ FrB b σ' ρ1 ∧ (∀ j, j < k → σ' 110 (36 * b + j) = 1000000)) (fun x _ => (36 * b + 36 - x.toNat : Nat)) ?_ N _ _ ⟨0, by omega, by omega, fun _ _ => rfl, FrB_rfl b ρ1, fun j hj => absurd hj (Nat.not_lt_zero j)⟩ (by omega)
  rintro k x σ' ⟨m, rfl, hm, i1, i2, i3⟩ rec
  have c41 : σ' 92 41 = b := by rw [i1 92 (by decide)]; exact b41
  rw [c41, Ok_chkI, Ok_chkI, Ok_ite]
  refine ⟨by omega, by omega, fun q => ?_, fun q => ?_⟩
  · rw [Ok_chkI]
    have m36 : m = 36 := by omega
    refine ⟨by omega, ?_⟩
    refine Ok_loopS1 (fun x σ'' => ∃ k : Nat, x = ((6 * b + k : Nat) : Int) ∧ k ≤ 6 ∧ (∀ i, i ≠ 106 → i ≠ 113 → σ'' i = σ' i) ∧ FrB b σ'' σ' ∧ (∀ j, j < k → σ'' 113 (6 * b + j) = 0)) (fun x _ => (6 * b + 6 - x.toNat : Nat)) ?_ N _ _ ⟨0, by omega, by omega, fun _ _ _ => rfl, FrB_rfl b σ', fun j hj => absurd hj (Nat.not_lt_zero j)⟩ (by omega)
    rintro k' x' σ'' ⟨m', rfl, hm', j1, j2, j3⟩ rec'
    have d41 : σ'' 92 41 = b := by rw [j1 92 (by decide) (by decide)]; exact c41
    rw [d41, Ok_chkI, Ok_chkI, Ok_ite, Ok_some]
    refine ⟨by omega, by omega, fun q2 => ?_, fun q2 => ?_⟩
    · have R : ∀ i, i ≠ 106 → i ≠ 113 → i ≠ 110 → σ'' i = ρ1 i := fun i h1 h2 h3 => (j1 i h1 h2).trans (i1 i h3)
      obtain ⟨v1, v2, v3, v4, v5, v6, v7, v8, v9, v10, v11, v12, v13⟩ := b3
      refine ⟨FrB_tr (FrB_tr b1 i2) j2, fun k hk => by rw [R 92 (by decide) (by decide) (by decide)]; exact b2 k hk, ?_, ?_, ?_, ?_, ?_, ?_, ?_, ?_, ?_, ?_, ?_, ?_, ?_, fun j hj => ?_, fun j hj => j3 j (by omega)⟩
      · rw [R 95 (by decide) (by decide) (by decide)]; exact v1
      · rw [R 96 (by decide) (by decide) (by decide)]; exact v2
      · rw [R 97 (by decide) (by decide) (by decide)]; exact v3
      · rw [R 98 (by decide) (by decide) (by decide)]; exact v4
      · rw [R 99 (by decide) (by decide) (by decide)]; exact v5
      · rw [R 100 (by decide) (by decide) (by decide)]; exact v6
      · rw [R 101 (by decide) (by decide) (by decide)]; exact v7
      · rw [R 102 (by decide) (by decide) (by decide)]; exact v8
      · rw [R 103 (by decide) (by decide) (by decide)]; exact v9
      · rw [R 104 (by decide) (by decide) (by decide)]; exact v10
      · rw [R 105 (by decide) (by decide) (by decide)]; exact v11
      · rw [R 118 (by decide) (by decide) (by decide)]; exact v12
      · rw [R 92 (by decide) (by decide) (by decide)]; exact v13
      · rw [j1 110 (by decide) (by decide)]
        exact i3 j (by omega)
    · rw [Ok_chkA, Int.toNat_natCast, Ok_bnd, Ok_chkA, Ok_bnd, Ok_chkI]
      refine ⟨by omega, by omega, by omega, rec' _ _ ⟨m' + 1, by omega, by omega, fun i h1 h2 => by rw [yset_off i h2, yset_off i h1]; exact j1 i h1 h2, FrB_tr (FrB_tr j2 (FrB_set (by decide) (by decide) (by rw [show st 106 = 6 from rfl]; omega) (by rw [show st 106 = 6 from rfl]; omega))) (FrB_set (by decide) (by decide) (by rw [show st 113 = 6 from rfl]; omega) (by rw [show st 113 = 6 from rfl]; omega)), fun j hj => ?_⟩ (by omega)⟩
      by_cases c : j = m'
      · rw [c, yset_at]
      · rw [yset_ne (by omega), yset_ne (by omega)]
        exact j3 j (by omega)
  · rw [Ok_chkA, Int.toNat_natCast, Ok_bnd, Ok_chkI]
    refine ⟨by omega, by omega, rec _ _ ⟨m + 1, by omega, by omega, fun i h1 => by rw [yset_off i h1]; exact i1 i h1, FrB_tr i2 (FrB_set (by decide) (by decide) (by rw [show st 110 = 36 from rfl]; omega) (by rw [show st 110 = 36 from rfl]; omega)), fun j hj => ?_⟩ (by omega)⟩
    by_cases c : j = m
    · rw [c, yset_at]
    · rw [yset_ne (by omega)]
      exact i3 j (by omega)
