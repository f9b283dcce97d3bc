/-! a town's text: the call, in both -/
theorem earnest_begin_ok {T : Nat} {σ : ySt} (hT : T = 13 ∨ T = 33) :
    Ok (cEa_begin 9 T σ) (fun σ' => (∀ i, i ≠ 9 → i ≠ 10 → i ≠ 11 → σ' i = σ i) ∧ σ' 9 2 = 0 ∧ σ' 9 3 = 0 ∧ ∀ n, n < 5 → σ' 10 n = σ (T + 8) n ∧ σ' 11 n = σ (T + 8) n) := by
  unfold cEa_begin
  rw [chk_pos (by omega), chk_pos hT, show ((0 : Int).toNat) = 0 from rfl, show ((5 : Int).toNat) = 5 from rfl, Ok_bnd, Ok_bnd, chkC_5, Ok_bnd, chkC_5, Ok_bnd, Ok_some]
  refine ⟨fun i h1 h2 h3 => ?_, ?_, ?_, fun n hn => ⟨?_, ?_⟩⟩
  · rw [ycpy_off h3, ycpy_off h2, yset_off i h1, yset_off i h1]
  · rw [ycpy_off (by omega), ycpy_off (by omega), yset_ne (by omega), yset_at]
  · rw [ycpy_off (by omega), ycpy_off (by omega), yset_at]
  · rw [ycpy_off (by omega), ycpy_at hn, yset_ne (by omega), yset_ne (by omega)]
  · rw [ycpy_at hn, ycpy_off (by omega), yset_ne (by omega), yset_ne (by omega)]
theorem town_ref {N b mq : Nat} {τ : ySt} (hN : 100000 ≤ N) (g : τ 92 4 = 0) (h41 : τ 92 41 = b) (hb : b < 2) (h97 : τ 97 b = mq) (hmq : mq ≤ 5) :
    Ok (twE N τ) (fun r => r.1 = (mq : Int) ∧ (∀ i, i ≠ 92 → i ≠ 136 → i ≠ 138 → i ≠ 139 → i ≠ 146 → r.2 i = τ i) ∧ (∀ k, k ≠ 40 → k ≠ 73 → k ≠ 74 → k ≠ 81 → r.2 92 k = τ 92 k) ∧ r.2 92 40 = b ∧ r.2 92 73 = 0 ∧ r.2 92 74 = 0 ∧ r.2 92 81 = 0 ∧ (∀ k, k < 3 → r.2 146 k = -1) ∧ (∀ n, n < 5 → r.2 138 n = (if n < mq then τ 111 (5 * b + n) else 0) ∧ r.2 139 n = -1) ∧ ∀ n s, n < 5 → s < 8 → r.2 136 (8 * n + s) = if n < mq then τ 111 (5 * b + n) else 0) := by
  unfold twE
  rw [mo_isGood_eq, bndO_s, if_pos g, if_pos (by decide), Ok_bnd, Ok_bnd, h41]
  refine Ok_loopS1 (fun y ν => ∃ k : Nat, y = k ∧ k ≤ 3 ∧ (∀ i, i ≠ 92 → i ≠ 146 → ν i = τ i) ∧ (∀ j, j ≠ 40 → j ≠ 81 → ν 92 j = τ 92 j) ∧ ν 92 40 = b ∧ ν 92 81 = 0 ∧ ∀ j, j < k → ν 146 j = -1) (fun y _ => (3 - y.toNat : Nat)) ?_ N _ _ ⟨0, rfl, by omega, fun i h1 _ => by rw [yset_off i h1, yset_off i h1], fun j h1 h2 => by rw [yset_ne (by omega), yset_ne (by omega)], by rw [yset_ne (by omega), yset_at], by rw [yset_at], fun j hj => absurd hj (Nat.not_lt_zero j)⟩ (by omega)
  rintro g y ν ⟨k, rfl, hk, i1, i2, i3, i4, i5⟩ rec
  rw [Ok_ite]
  refine ⟨fun q => ?_, fun q => ?_⟩
  · rw [Ok_bndO]
    refine (mo_begin_ok hN i3 hb (show ν 97 b = (mq : Int) by rw [i1 97 (by decide) (by decide)]; exact h97) hmq).mono ?_
    rintro τ' ⟨a1, a2, a3, a4, a5, a6⟩
    have e40 : τ' 92 40 = b := (a2 40 (by decide) (by decide)).trans i3
    rw [e40, Ok_chkA, Int.toNat_natCast, Ok_some, a1 97 (by decide) (by decide) (by decide) (by decide), i1 97 (by decide) (by decide)]
    rw [i1 111 (by decide) (by decide)] at a5 a6
    refine ⟨by omega, h97, fun i h1 h2 h3 h4 h5 => (a1 i h1 h2 h3 h4).trans (i1 i h1 h5), fun k' h1 h2 h3 h4 => (a2 k' h2 h3).trans (i2 k' h1 h4), e40, a3, a4, (a2 81 (by decide) (by decide)).trans i4, fun k' hk' => ?_, a5, a6⟩
    dsimp only
    rw [a1 146 (by decide) (by decide) (by decide) (by decide)]
    exact i5 k' (by omega)
  · rw [Ok_chkA, Int.toNat_natCast, Ok_bnd, Ok_chkI]
    refine ⟨by omega, by omega, rec _ _ ⟨k + 1, by omega, by omega, fun i h1 h2 => by rw [yset_off i h2]; exact i1 i h1 h2, fun j h1 h2 => by rw [yset_off 92 (by decide)]; exact i2 j h1 h2, by rw [yset_off 92 (by decide)]; exact i3, by rw [yset_off 92 (by decide)]; exact i4, fun j hj => ?_⟩ (by omega)⟩
    by_cases c : j = k
    · rw [c, yset_at]
    · rw [yset_ne (by omega)]
      exact i5 j (by omega)
/-- the class's part behind a reading without a fault -/
def twC (N : Nat) (σ7 : ySt) : Option (Int × ySt) :=
    chkT (σ7 0 5) fun T10 =>
    chkT (σ7 0 6) fun T13 =>
    bnd (yset σ7 0 5 ((T13 : Nat) + 1 : Int)) fun σ16 =>
    bnd (yset σ16 0 6 ((T10 : Nat) + 1 : Int)) fun σ18 =>
    chkT (σ18 0 5) fun T20 =>
    bndO (cAn_turnTo N T20 σ18) fun σ24 =>
    chkP (σ24 0 8) fun T25 =>
    chkT (σ24 0 5) fun T28 =>
    bndO (cPl_stayHome N T25 T28 σ24) fun σ32 =>
    chkT (σ32 0 5) fun T33 =>
    bndO (cEa_begin 9 T33 σ32) fun σ37 =>
    bnd (yset σ37 3 5 0) fun σ38 =>
    loopS1 (fun k42 x40 σ41 =>
      if x40 ≥ 3 then
        chkT (σ41 0 5) fun T44 =>
        some ((σ41 (T44 + 3) 1), σ41)
      else
        chkB x40 fun T47 =>
        bnd (yset σ41 T47 4 0) fun σ52 =>
        chkI (x40 + 1) <|
        k42 (x40 + 1) σ52) N 0 σ38
theorem cE_town_eq (N : Nat) (σ : ySt) : cE_town N σ =
  chkT (σ 0 6) fun T1 =>
  bndR (cRd_readInto N T1 σ) fun r5 σ6 =>
  bnd (yset σ6 1 1 0) fun σ7 =>
  if ¬ r5 = 0 then
    twC N σ7
  else
    some ((-1), σ7) := rfl
/-- a town and the next one -/
def T2 (T U : Nat) : Prop := (T = 13 ∧ U = 33) ∨ (T = 33 ∧ U = 13)
theorem twC_ok {N T U P mq : Nat} {σ : ySt} (hN : 100000 ≤ N) (hTU : T2 T U) (hP : P = 54 ∨ P = 56) (h05 : σ 0 5 = (T : Int) + 1) (h06 : σ 0 6 = (U : Int) + 1) (h08 : σ 0 8 = (P : Int) + 1) (h3 : σ (U + 3) 1 = mq) (hmq : mq ≤ 5) :
    Ok (twC N σ) (fun r => r.1 = (mq : Int) ∧ (∀ i, i ≠ 0 → i ≠ 3 → i ≠ 9 → i ≠ 10 → i ≠ 11 → i ≠ 58 → i ≠ 65 → i ≠ 71 → i ≠ 74 → i ≠ 83 → i ≠ 86 → i ≠ 89 → i ≠ P + 1 → r.2 i = σ i) ∧ (∀ k, k ≠ 5 → k ≠ 6 → r.2 0 k = σ 0 k) ∧ r.2 0 5 = (U : Int) + 1 ∧ r.2 0 6 = (T : Int) + 1 ∧ (∀ k, k ≠ 5 → r.2 3 k = σ 3 k) ∧ r.2 3 5 = 0 ∧ r.2 9 2 = 0 ∧ r.2 9 3 = 0 ∧ (∀ n, n < 5 → r.2 10 n = σ (U + 8) n ∧ r.2 11 n = σ (U + 8) n) ∧ r.2 58 0 = (U : Int) + 1 ∧ r.2 58 13 = 0 ∧ (∀ j, j < 3 → r.2 65 j = 0 ∧ r.2 71 j = 0 ∧ r.2 74 j = 0) ∧ (∀ j, j < 3 → r.2 (83 + 3 * j) 4 = 0) ∧ ∀ s n, s ≤ 8 → n < mq → r.2 (P + 1) (5 * s + n) = σ (U + 8) n) := by
  have hT : T = 13 ∨ T = 33 := by rcases hTU with ⟨e, _⟩ | ⟨e, _⟩ <;> omega
  have hU : U = 13 ∨ U = 33 := by rcases hTU with ⟨_, e⟩ | ⟨_, e⟩ <;> omega
  unfold twC
  rw [chkT_pos hT h05, chkT_pos hU h06, Ok_bnd, Ok_bnd]
  generalize hσ1 : yset (yset σ 0 5 ((U : Nat) + 1 : Int)) 0 6 ((T : Nat) + 1 : Int) = σ1
  have a1 : ∀ i, i ≠ 0 → σ1 i = σ i := fun i hi => by rw [← hσ1, yset_off i hi, yset_off i hi]
  have a2 : ∀ k, k ≠ 5 → k ≠ 6 → σ1 0 k = σ 0 k := fun k h1 h2 => by rw [← hσ1, yset_ne (by omega), yset_ne (by omega)]
  have a3 : σ1 0 5 = (U : Int) + 1 := by rw [← hσ1, yset_ne (by omega), yset_at]
  have a4 : σ1 0 6 = (T : Int) + 1 := by rw [← hσ1, yset_at]
  rw [chkT_pos hU a3, Ok_bndO]
  refine (turnTo_ok hN hU).mono ?_
  rintro σ2 ⟨b1, b2, b3, b4⟩
  have c0 : σ2 0 = σ1 0 := b1 0 (by decide) (by decide) (by decide) (by decide)
  rw [chkP_pos hP (by rw [c0, a2 8 (by decide) (by decide)]; exact h08), chkT_pos hU (by rw [c0]; exact a3), Ok_bndO]
  refine (cPl_stayHome_ok hN hP hU (by rw [b1 (U + 3) (by omega) (by omega) (by omega) (by omega), a1 (U + 3) (by omega)]; exact h3) hmq).mono ?_
  rintro σ3 ⟨d1, d2⟩
  have c03 : σ3 0 = σ1 0 := (d1 0 (by omega)).trans c0
  rw [chkT_pos hU (by rw [c03]; exact a3), Ok_bndO]
  refine (earnest_begin_ok hU).mono ?_
  rintro σ4 ⟨e1, e2, e3, e4⟩
  rw [Ok_bnd]
  have f8 : ∀ n, σ3 (U + 8) n = σ (U + 8) n := fun n => by rw [d1 (U + 8) (by omega), b1 (U + 8) (by omega) (by omega) (by omega) (by omega), a1 (U + 8) (by omega)]
  have f83 : ∀ n, σ2 (U + 8) n = σ (U + 8) n := fun n => by rw [b1 (U + 8) (by omega) (by omega) (by omega) (by omega), a1 (U + 8) (by omega)]
  have c4 : ∀ i, i ≠ 9 → i ≠ 10 → i ≠ 11 → i ≠ P + 1 → σ4 i = σ2 i := fun i h1 h2 h3 h4 => (e1 i h1 h2 h3).trans (d1 i h4)
  refine Ok_loopS1 (fun y ν => ∃ k : Nat, y = k ∧ k ≤ 3 ∧ (∀ i, i ≠ 3 → i ≠ 83 → i ≠ 86 → i ≠ 89 → ν i = σ4 i) ∧ (∀ k, k ≠ 5 → ν 3 k = σ4 3 k) ∧ ν 3 5 = 0 ∧ ∀ j, j < k → ν (83 + 3 * j) 4 = 0) (fun y _ => (3 - y.toNat : Nat)) ?_ N _ _ ⟨0, rfl, by omega, fun i h1 _ _ _ => yset_off i h1, fun k hk => yset_ne (by omega), yset_at, fun j hj => absurd hj (Nat.not_lt_zero j)⟩ (by omega)
  rintro g y ν ⟨k, rfl, hk, i1, i2, i3, i4⟩ rec
  have n0 : ν 0 = σ1 0 := (i1 0 (by decide) (by decide) (by decide) (by decide)).trans ((c4 0 (by decide) (by decide) (by decide) (by omega)).trans c0)
  rw [Ok_ite]
  refine ⟨fun q => ?_, fun q => ?_⟩
  · rw [chkT_pos hU (by rw [n0]; exact a3), Ok_some]
    dsimp only
    have z : ∀ i, i ≠ 0 → i ≠ 3 → i ≠ 9 → i ≠ 10 → i ≠ 11 → i ≠ 58 → i ≠ 65 → i ≠ 71 → i ≠ 74 → i ≠ 83 → i ≠ 86 → i ≠ 89 → i ≠ P + 1 → ν i = σ i := fun i x0 x3 x9 x10 x11 x58 x65 x71 x74 x83 x86 x89 xP => by rw [i1 i x3 x83 x86 x89, c4 i x9 x10 x11 xP, b1 i x58 x65 x71 x74, a1 i x0]
    refine ⟨by rw [z (U + 3) (by omega) (by omega) (by omega) (by omega) (by omega) (by omega) (by omega) (by omega) (by omega) (by omega) (by omega) (by omega) (by omega)]; exact h3, z, by rw [n0]; exact a2, by rw [n0]; exact a3, by rw [n0]; exact a4, fun k' hk' => by rw [i2 k' hk', c4 3 (by decide) (by decide) (by decide) (by omega), b1 3 (by decide) (by decide) (by decide) (by decide), a1 3 (by decide)], i3, by rw [i1 9 (by decide) (by decide) (by decide) (by decide)]; exact e2, by rw [i1 9 (by decide) (by decide) (by decide) (by decide)]; exact e3, fun n hn => ?_, ?_, ?_, fun j hj => ?_, fun j hj => i4 j (by omega), fun s n hs hn => ?_⟩
    · rw [i1 10 (by decide) (by decide) (by decide) (by decide), i1 11 (by decide) (by decide) (by decide) (by decide), ← f8 n]
      exact e4 n hn
    · rw [i1 58 (by decide) (by decide) (by decide) (by decide), c4 58 (by decide) (by decide) (by decide) (by omega)]
      exact b2
    · rw [i1 58 (by decide) (by decide) (by decide) (by decide), c4 58 (by decide) (by decide) (by decide) (by omega)]
      exact b3
    · rw [i1 65 (by decide) (by decide) (by decide) (by decide), c4 65 (by decide) (by decide) (by decide) (by omega), i1 71 (by decide) (by decide) (by decide) (by decide), c4 71 (by decide) (by decide) (by decide) (by omega), i1 74 (by decide) (by decide) (by decide) (by decide), c4 74 (by decide) (by decide) (by decide) (by omega)]
      exact b4 j hj
    · rw [i1 (P + 1) (by omega) (by omega) (by omega) (by omega), e1 (P + 1) (by omega) (by omega) (by omega), d2 s n hs hn]
      exact f83 n
  · rw [chkB_pos (show k < 3 by omega), Ok_bnd, Ok_chkI]
    refine ⟨by omega, rec _ _ ⟨k + 1, by omega, by omega, fun i h1 h2 h3 h4 => by rw [yset_off i (by omega)]; exact i1 i h1 h2 h3 h4, fun k' hk' => by rw [yset_off 3 (by omega)]; exact i2 k' hk', by rw [yset_off 3 (by omega)]; exact i3, fun j hj => ?_⟩ (by omega)⟩
    by_cases c : j = k
    · rw [c, yset_at]
    · rw [yset_ne (by omega)]
      exact i4 j (by omega)
