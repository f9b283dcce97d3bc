/-! images, counts, and small answers -/
theorem copyFrom_ok {o a : Nat} {σ : ySt} (h : (o = 9 ∧ (a = 83 ∨ a = 86 ∨ a = 89)) ∨ (a = 9 ∧ (o = 83 ∨ o = 86 ∨ o = 89))) :
    Ok (cEa_copyFrom o a σ) (fun σ' => σ' o 2 = σ a 2 ∧ σ' o 3 = σ a 3 ∧ (∀ n, n < 5 → σ' (o + 1) n = σ (a + 1) n ∧ σ' (o + 2) n = σ (a + 2) n) ∧ (∀ i, i ≠ o → i ≠ o + 1 → i ≠ o + 2 → σ' i = σ i) ∧ ∀ j, j ≠ 2 → j ≠ 3 → σ' o j = σ o j) := by
  unfold cEa_copyFrom
  rw [chk_pos (by omega), chk_pos (by omega), show ((0 : Int).toNat) = 0 from rfl, show ((5 : Int).toNat) = 5 from rfl, Ok_bnd, Ok_bnd, chkC_5, Ok_bnd, chkC_5, Ok_bnd, Ok_some, yset_ne (by omega)]
  refine ⟨?_, ?_, fun n hn => ⟨?_, ?_⟩, fun i h1 h2 h3 => ?_, fun j h1 h2 => ?_⟩
  · rw [ycpy_off (by omega), ycpy_off (by omega), yset_ne (by omega), yset_at]
  · rw [ycpy_off (by omega), ycpy_off (by omega), yset_at]
  · rw [ycpy_off (by omega), ycpy_at hn, yset_ne (by omega), yset_ne (by omega)]
  · rw [ycpy_at hn, ycpy_off (by omega), yset_ne (by omega), yset_ne (by omega)]
  · rw [ycpy_off h3, ycpy_off h2, yset_off i h1, yset_off i h1]
  · rw [ycpy_off (by omega), ycpy_off (by omega), yset_ne (by omega), yset_ne (by omega)]
theorem EAr_of {σ σ' : ySt} {o o' : Nat} {st sd st' sd' : Nat → Int} {k od : Int} {mp mq : Nat} (h : EAr σ o st sd k od mp mq) (e2 : σ' o' 2 = σ o 2) (e3 : σ' o' 3 = σ o 3) (ha : ∀ n, n < mq → σ' (o' + 1) n = σ (o + 1) n ∧ σ' (o' + 2) n = σ (o + 2) n) (hs : ∀ n, n < mq → st' n = st n ∧ sd' n = sd n) : EAr σ' o' st' sd' k od mp mq := by
  obtain ⟨b1, b2, b3, b4, b5, b6, b7⟩ := h
  refine ⟨e2.trans b1, b2, b3, e3.trans b4, b5, b6, fun n hn => ?_⟩
  obtain ⟨s1, s2⟩ := hs n hn
  obtain ⟨a1, a2⟩ := ha n hn
  rw [s1, s2, a1, a2]
  exact b7 n hn
def BX (σ τ : ySt) (k mp mq : Nat) : Prop := (σ (83 + 3 * k) 4 ≠ 0 ↔ 0 ≤ τ 146 k) ∧ (0 ≤ τ 146 k → EAr σ (83 + 3 * k) (fun n => τ 148 (5 * k + n)) (fun n => τ 149 (5 * k + n)) (τ 146 k) (τ 147 k) mp mq)
theorem chkB_pos {α : Type} {j : Nat} {k : Nat → Option α} (h : j < 3) : chkB (j : Int) k = k (83 + 3 * j) := by
  unfold chkB
  rw [if_pos (by omega), Int.toNat_natCast]
theorem mo_image_loop {N a : Nat} {τ : ySt} (hN : 100000 ≤ N) (ha : a < 3) : Ok (mo_image N a τ) (fun r => r.1 = τ 92 73 ∧ (∀ i, (i < 146 ∨ 149 < i) → r.2 i = τ i) ∧ r.2 146 a = τ 92 73 ∧ r.2 147 a = τ 92 74 ∧ (∀ n, n < 5 → r.2 148 (5 * a + n) = τ 138 n ∧ r.2 149 (5 * a + n) = τ 139 n) ∧ (∀ j, j ≠ a → r.2 146 j = τ 146 j ∧ r.2 147 j = τ 147 j) ∧ ∀ j, (j < 5 * a ∨ 5 * a + 5 ≤ j) → r.2 148 j = τ 148 j ∧ r.2 149 j = τ 149 j) := by
  unfold mo_image
  rw [mo_isIn_eq, bndO_s, if_pos (show (0 : Int) ≤ (a : Int) ∧ (a : Int) ≤ 2 by omega), if_pos (by decide), Ok_chkA, Int.toNat_natCast, Ok_bnd, Ok_chkA, Ok_bnd, yset_ne (by omega)]
  refine ⟨by omega, by omega, ?_⟩
  generalize hρ : yset (yset τ 146 a (τ 92 73)) 147 a (τ 92 74) = ρ
  have e1 : ∀ i, (i < 146 ∨ 147 < i) → ρ i = τ i := fun i hi => by rw [← hρ, yset_off i (by omega), yset_off i (by omega)]
  have e2 : ρ 146 a = τ 92 73 ∧ ρ 147 a = τ 92 74 := by rw [← hρ, yset_ne (by omega), yset_at, yset_at]; exact ⟨rfl, rfl⟩
  have e3 : ∀ j, j ≠ a → ρ 146 j = τ 146 j ∧ ρ 147 j = τ 147 j := fun j hj => by rw [← hρ, yset_ne (by omega), yset_ne (by omega), yset_ne (by omega), yset_ne (by omega)]; exact ⟨rfl, rfl⟩
  refine Ok_loopS1 (fun x ν => ∃ k : Nat, x = k ∧ k ≤ 5 ∧ (∀ i, i ≠ 148 → i ≠ 149 → ν i = ρ i) ∧ (∀ n, n < k → ν 148 (5 * a + n) = τ 138 n ∧ ν 149 (5 * a + n) = τ 139 n) ∧ ∀ j, (j < 5 * a ∨ 5 * a + 5 ≤ j) → ν 148 j = τ 148 j ∧ ν 149 j = τ 149 j) (fun x _ => (5 - x.toNat : Nat)) ?_ N _ _ ⟨0, rfl, by omega, fun _ _ _ => rfl, fun n hn => absurd hn (Nat.not_lt_zero n), fun j _ => by rw [e1 148 (by omega), e1 149 (by omega)]; exact ⟨rfl, rfl⟩⟩ (by omega)
  rintro k x ν ⟨m, rfl, hm, i1, i2, i3⟩ rec
  rw [Ok_ite, Ok_some]
  refine ⟨fun q => ?_, fun q => ?_⟩
  · refine ⟨by dsimp only; rw [i1 92 (by decide) (by decide), e1 92 (by omega)], fun i hi => by dsimp only; rw [i1 i (by omega) (by omega), e1 i (by omega)], by dsimp only; rw [i1 146 (by decide) (by decide)]; exact e2.1, by dsimp only; rw [i1 147 (by decide) (by decide)]; exact e2.2, fun n hn => i2 n (by omega), fun j hj => by dsimp only; rw [i1 146 (by decide) (by decide), i1 147 (by decide) (by decide)]; exact e3 j hj, i3⟩
  · have ix : (5 * (a : Int) + (m : Int)).toNat = 5 * a + m := by omega
    rw [Ok_chkI, Ok_chkI, Ok_chkA, Ok_chkA, ix, Int.toNat_natCast, Ok_bnd, Ok_chkI, Ok_chkI, Ok_chkA, Ok_chkA, Ok_bnd, Ok_chkI, i1 138 (by decide) (by decide), e1 138 (by omega), yset_off 139 (by decide), i1 139 (by decide) (by decide), e1 139 (by omega)]
    refine ⟨by omega, by omega, by omega, by omega, by omega, by omega, by omega, by omega, by omega, rec _ _ ⟨m + 1, by omega, by omega, fun i h1 h2 => by rw [yset_off i h2, yset_off i h1]; exact i1 i h1 h2, fun n hn => ?_, fun j hj => ?_⟩ (by omega)⟩
    · by_cases c : n = m
      · subst c
        rw [yset_ne (by omega), yset_at, yset_at]
        exact ⟨rfl, rfl⟩
      · rw [yset_ne (by omega), yset_ne (by omega), yset_ne (by omega), yset_ne (by omega)]
        exact i2 n (by omega)
    · rw [yset_ne (by omega), yset_ne (by omega), yset_ne (by omega), yset_ne (by omega)]
      exact i3 j hj
theorem C_image {N mp mq : Nat} {σ τ : ySt} (hN : 100000 ≤ N) (hmq : mq ≤ 5) (ea : EAr σ 9 (τ 138) (τ 139) (τ 92 73) (τ 92 74) mp mq) (hbx : ∀ k, k < 3 → BX σ τ k mp mq) (a : Int) :
    Ok (cE_image a σ) (fun r => Ok (mo_image N a τ) (fun r' => r'.1 = r.1 ∧ (∀ i, (i < 83 ∨ 91 < i) → r.2 i = σ i) ∧ (∀ i, (i < 146 ∨ 149 < i) → r'.2 i = τ i) ∧ ∀ k, k < 3 → BX r.2 r'.2 k mp mq)) := by
  by_cases c : 0 ≤ a ∧ a < 3
  · obtain ⟨k, rfl⟩ : ∃ k : Nat, a = k := ⟨a.toNat, by omega⟩
    have hk : k < 3 := by omega
    have hc : Ok (cE_image (k : Int) σ) (fun r => r.1 = σ 9 2 ∧ (∀ i, i ≠ 83 + 3 * k → i ≠ 83 + 3 * k + 1 → i ≠ 83 + 3 * k + 2 → r.2 i = σ i) ∧ r.2 (83 + 3 * k) 2 = σ 9 2 ∧ r.2 (83 + 3 * k) 3 = σ 9 3 ∧ r.2 (83 + 3 * k) 4 = 1 ∧ ∀ n, n < 5 → r.2 (83 + 3 * k + 1) n = σ 10 n ∧ r.2 (83 + 3 * k + 2) n = σ 11 n) := by
      unfold cE_image
      rw [if_neg (by omega), if_pos (by omega), chkB_pos hk, Ok_bndO]
      refine (copyFrom_ok (o := 83 + 3 * k) (a := 9) (by omega)).mono ?_
      rintro σ' ⟨a1, a2, a3, a4, a5⟩
      rw [chkB_pos hk, Ok_bnd, Ok_some]
      refine ⟨by dsimp only; rw [yset_ne (by omega), a4 9 (by omega) (by omega) (by omega)], fun i h1 h2 h3 => by dsimp only; rw [yset_off i h1]; exact a4 i h1 h2 h3, by dsimp only; rw [yset_ne (by omega)]; exact a1, by dsimp only; rw [yset_ne (by omega)]; exact a2, by dsimp only; exact yset_at, fun n hn => by dsimp only; rw [yset_ne (by omega), yset_ne (by omega)]; exact a3 n hn⟩
    refine Ok2_of hc (mo_image_loop hN hk) ?_
    rintro ⟨r, σ'⟩ ⟨r', τ'⟩ ⟨c1, c2, c3, c4, c5, c6⟩ ⟨d1, d2, d3, d4, d5, d6, d7⟩
    dsimp only at *
    refine ⟨by rw [d1, c1, ea.1], fun i hi => c2 i (by omega) (by omega) (by omega), d2, fun k' hk' => ?_⟩
    by_cases e : k' = k
    · subst e
      refine ⟨?_, fun _ => ?_⟩
      · rw [c5, d3]
        exact ⟨fun _ => ea.2.1, fun _ => by decide⟩
      · rw [d3, d4]
        exact EAr_of ea c3 c4 (fun n hn => c6 n (by omega)) (fun n hn => d5 n (by omega))
    · obtain ⟨x1, x2⟩ := hbx k' hk'
      unfold BX
      rw [c2 (83 + 3 * k') (by omega) (by omega) (by omega), (d6 k' e).1, (d6 k' e).2]
      refine ⟨x1, fun q => EAr_of (x2 q) ?_ ?_ (fun n hn => ?_) (fun n hn => d7 (5 * k' + n) (by omega))⟩
      · rw [c2 (83 + 3 * k') (by omega) (by omega) (by omega)]
      · rw [c2 (83 + 3 * k') (by omega) (by omega) (by omega)]
      · rw [c2 (83 + 3 * k' + 1) (by omega) (by omega) (by omega), c2 (83 + 3 * k' + 2) (by omega) (by omega) (by omega)]
        exact ⟨rfl, rfl⟩
  · unfold cE_image mo_image
    rw [mo_isIn_eq, bndO_s, if_neg (show ¬ (0 ≤ a ∧ a ≤ 2) by omega), if_neg (show ¬ ¬ (0 : Int) = 0 from fun w => w rfl)]
    have e : (if a < 0 then some ((-1 : Int), σ) else if a < 3 then chkB a fun T3 => bndO (cEa_copyFrom T3 9 σ) fun σ9 => chkB a fun T10 => bnd (yset σ9 T10 4 1) fun σ15 => some ((σ15 9 2), σ15) else some ((-1), σ)) = some (-1, σ) := by
      by_cases q : a < 0
      · rw [if_pos q]
      · rw [if_neg q, if_neg (by omega)]
    rw [e, Ok_some, Ok_some]
    exact ⟨rfl, fun _ _ => rfl, fun _ _ => rfl, hbx⟩
theorem mo_back_loop {N a : Nat} {τ : ySt} (hN : 100000 ≤ N) (ha : a < 3) (hk : 0 ≤ τ 146 a) : Ok (mo_back N a τ) (fun r => r.1 = τ 146 a ∧ (∀ i, i ≠ 92 → i ≠ 138 → i ≠ 139 → r.2 i = τ i) ∧ (∀ j, j ≠ 73 → j ≠ 74 → r.2 92 j = τ 92 j) ∧ r.2 92 73 = τ 146 a ∧ r.2 92 74 = τ 147 a ∧ ∀ n, n < 5 → r.2 138 n = τ 148 (5 * a + n) ∧ r.2 139 n = τ 149 (5 * a + n)) := by
  unfold mo_back
  rw [mo_isIn_eq, bndO_s, if_pos (show (0 : Int) ≤ (a : Int) ∧ (a : Int) ≤ 2 by omega), if_neg (by decide), Ok_chkA, Int.toNat_natCast, if_pos hk, Ok_chkA, Ok_bnd, Ok_chkA, Ok_bnd, yset_off 147 (by decide)]
  refine ⟨by omega, by omega, by omega, ?_⟩
  generalize hρ : yset (yset τ 92 73 (τ 146 a)) 92 74 (τ 147 a) = ρ
  have e1 : ∀ i, i ≠ 92 → ρ i = τ i := fun i hi => by rw [← hρ, yset_off i hi, yset_off i hi]
  have e2 : ρ 92 73 = τ 146 a ∧ ρ 92 74 = τ 147 a := by rw [← hρ, yset_ne (by omega), yset_at, yset_at]; exact ⟨rfl, rfl⟩
  have e3 : ∀ j, j ≠ 73 → j ≠ 74 → ρ 92 j = τ 92 j := fun j h1 h2 => by rw [← hρ, yset_ne (by omega), yset_ne (by omega)]
  refine Ok_loopS1 (fun x ν => ∃ k : Nat, x = k ∧ k ≤ 5 ∧ (∀ i, i ≠ 138 → i ≠ 139 → ν i = ρ i) ∧ ∀ n, n < k → ν 138 n = τ 148 (5 * a + n) ∧ ν 139 n = τ 149 (5 * a + n)) (fun x _ => (5 - x.toNat : Nat)) ?_ N _ _ ⟨0, rfl, by omega, fun _ _ _ => rfl, fun n hn => absurd hn (Nat.not_lt_zero n)⟩ (by omega)
  rintro k x ν ⟨m, rfl, hm, i1, i2⟩ rec
  rw [Ok_ite, Ok_some]
  refine ⟨fun q => ?_, fun q => ?_⟩
  · refine ⟨by dsimp only; rw [i1 92 (by decide) (by decide)]; exact e2.1, fun i h1 h2 h3 => by dsimp only; rw [i1 i h2 h3, e1 i h1], fun j h1 h2 => by dsimp only; rw [i1 92 (by decide) (by decide)]; exact e3 j h1 h2, by dsimp only; rw [i1 92 (by decide) (by decide)]; exact e2.1, by dsimp only; rw [i1 92 (by decide) (by decide)]; exact e2.2, fun n hn => i2 n (by omega)⟩
  · have ix : (5 * (a : Int) + (m : Int)).toNat = 5 * a + m := by omega
    rw [Ok_chkI, Ok_chkI, Ok_chkA, Ok_chkA, ix, Int.toNat_natCast, Ok_bnd, Ok_chkI, Ok_chkI, Ok_chkA, Ok_chkA, Ok_bnd, Ok_chkI, i1 148 (by decide) (by decide), e1 148 (by decide), yset_off 149 (by decide), i1 149 (by decide) (by decide), e1 149 (by decide)]
    refine ⟨by omega, by omega, by omega, by omega, by omega, by omega, by omega, by omega, by omega, rec _ _ ⟨m + 1, by omega, by omega, fun i h1 h2 => by rw [yset_off i h2, yset_off i h1]; exact i1 i h1 h2, fun n hn => ?_⟩ (by omega)⟩
    by_cases c : n = m
    · subst c
      rw [yset_ne (by omega), yset_at, yset_at]
      exact ⟨rfl, rfl⟩
    · rw [yset_ne (by omega), yset_ne (by omega), yset_ne (by omega), yset_ne (by omega)]
      exact i2 n (by omega)
theorem C_back {N mp mq : Nat} {σ τ : ySt} (hN : 100000 ≤ N) (hmq : mq ≤ 5) (ea : EAr σ 9 (τ 138) (τ 139) (τ 92 73) (τ 92 74) mp mq) (hbx : ∀ k, k < 3 → BX σ τ k mp mq) (a : Int) :
    Ok (cE_back a σ) (fun r => Ok (mo_back N a τ) (fun r' => r'.1 = r.1 ∧ (∀ i, i ≠ 9 → i ≠ 10 → i ≠ 11 → r.2 i = σ i) ∧ (∀ j, j ≠ 2 → j ≠ 3 → r.2 9 j = σ 9 j) ∧ ((∀ i, i ≠ 92 → i ≠ 138 → i ≠ 139 → r'.2 i = τ i) ∧ ∀ j, j ≠ 73 → j ≠ 74 → r'.2 92 j = τ 92 j) ∧ EAr r.2 9 (r'.2 138) (r'.2 139) (r'.2 92 73) (r'.2 92 74) mp mq)) := by
  by_cases c : 0 ≤ a ∧ a < 3
  · obtain ⟨k, rfl⟩ : ∃ k : Nat, a = k := ⟨a.toNat, by omega⟩
    have hk : k < 3 := by omega
    obtain ⟨x1, x2⟩ := hbx k hk
    by_cases q : 0 ≤ τ 146 k
    · have hc : Ok (cE_back (k : Int) σ) (fun r => r.1 = σ (83 + 3 * k) 2 ∧ (∀ i, i ≠ 9 → i ≠ 10 → i ≠ 11 → r.2 i = σ i) ∧ (∀ j, j ≠ 2 → j ≠ 3 → r.2 9 j = σ 9 j) ∧ r.2 9 2 = σ (83 + 3 * k) 2 ∧ r.2 9 3 = σ (83 + 3 * k) 3 ∧ ∀ n, n < 5 → r.2 10 n = σ (83 + 3 * k + 1) n ∧ r.2 11 n = σ (83 + 3 * k + 2) n) := by
        unfold cE_back
        rw [if_neg (by omega), if_neg (by omega), chkB_pos hk, if_pos (x1.mpr q), chkB_pos hk, Ok_bndO]
        refine (copyFrom_ok (o := 9) (a := 83 + 3 * k) (by omega)).mono ?_
        rintro σ' ⟨a1, a2, a3, a4, a5⟩
        rw [Ok_some]
        exact ⟨a1, fun i h1 h2 h3 => a4 i h1 h2 h3, a5, a1, a2, a3⟩
      refine Ok2_of hc (mo_back_loop hN hk q) ?_
      rintro ⟨r, σ'⟩ ⟨r', τ'⟩ ⟨c1, c2, c3, c4, c5, c6⟩ ⟨d1, d2, d3, d4, d5, d6⟩
      dsimp only at *
      refine ⟨by rw [d1, c1, (x2 q).1], c2, c3, ⟨d2, d3⟩, ?_⟩
      rw [d4, d5]
      exact EAr_of (x2 q) c4 c5 (fun n hn => c6 n (by omega)) (fun n hn => d6 n (by omega))
    · unfold cE_back mo_back
      rw [if_neg (by omega), if_neg (by omega), chkB_pos hk, if_neg (fun w => q (x1.mp w)), mo_isIn_eq, bndO_s, if_pos (show (0 : Int) ≤ (k : Int) ∧ (k : Int) ≤ 2 by omega), if_neg (by decide), chkA_pos (by omega), Int.toNat_natCast, if_neg q, Ok_some, Ok_some]
      exact ⟨rfl, fun _ _ _ _ => rfl, fun _ _ _ => rfl, ⟨fun _ _ _ _ => rfl, fun _ _ _ => rfl⟩, ea⟩
  · unfold cE_back mo_back
    rw [mo_isIn_eq, bndO_s, if_neg (show ¬ (0 ≤ a ∧ a ≤ 2) by omega), if_pos (show (0 : Int) = 0 from rfl)]
    have e : ∀ X : Option (Int × ySt), (if a < 0 then some ((-1 : Int), σ) else if a ≥ 3 then some ((-1), σ) else X) = some (-1, σ) := by
      intro X
      by_cases q : a < 0
      · rw [if_pos q]
      · rw [if_neg q, if_pos (by omega)]
    rw [e, Ok_some, Ok_some]
    exact ⟨rfl, fun _ _ _ _ => rfl, fun _ _ _ => rfl, ⟨fun _ _ _ _ => rfl, fun _ _ _ => rfl⟩, ea⟩
