/-! bytes told -/
def by4 (a : Int) (r : Nat) : Int := b32i2b (b32i2b (b32shr a (24 - 8 * (r : Int))))
theorem by4_rg (a : Int) (r : Nat) : -128 ≤ by4 a r ∧ by4 a r < 128 := b32i2b_rg _
theorem putFour_ok {N n : Nat} {a : Int} {σ : ySt} (hN : 100000 ≤ N) (h1 : σ 1 1 = n) (hn : n + 4 ≤ 1600) (hb : ∀ j, -128 ≤ σ 2 j ∧ σ 2 j < 128) :
    Ok (cTp_putFour N a σ) (fun σ' => σ' 1 1 = ((n + 4 : Nat) : Int) ∧ (∀ i, i ≠ 1 → i ≠ 2 → σ' i = σ i) ∧ (∀ j, j ≠ 1 → σ' 1 j = σ 1 j) ∧ (∀ j, -128 ≤ σ' 2 j ∧ σ' 2 j < 128) ∧ (∀ j, j < n → σ' 2 j = σ 2 j) ∧ ∀ r, r < 4 → σ' 2 (n + r) = by4 a r) := by
  unfold cTp_putFour
  refine Ok_loopS1 (fun x ρ => ∃ k : Nat, x = 24 - 8 * (k : Int) ∧ k ≤ 4 ∧ ρ 1 1 = ((n + k : Nat) : Int) ∧ (∀ i, i ≠ 1 → i ≠ 2 → ρ i = σ i) ∧ (∀ j, j ≠ 1 → ρ 1 j = σ 1 j) ∧ (∀ j, -128 ≤ ρ 2 j ∧ ρ 2 j < 128) ∧ (∀ j, j < n → ρ 2 j = σ 2 j) ∧ ∀ r, r < k → ρ 2 (n + r) = by4 a r) (fun x _ => ((x + 8).toNat : Nat)) ?_ N _ _ ⟨0, by omega, by omega, h1, fun _ _ _ => rfl, fun _ _ => rfl, hb, fun _ _ => rfl, fun r hr => absurd hr (Nat.not_lt_zero r)⟩ (by omega)
  rintro k x ρ ⟨m, rfl, hm, i1, i2, i3, i4, i5, i6⟩ rec
  rw [Ok_ite, Ok_some]
  refine ⟨fun q => ?_, fun q => ?_⟩
  · have : m = 4 := by omega
    subst this
    exact ⟨i1, i2, i3, i4, i5, i6⟩
  · have y1 : ∀ z, yset ρ 2 (n + m) z 1 1 = ((n + m : Nat) : Int) := fun z => by rw [yset_ne (by omega)]; exact i1
    rw [i1, Ok_ite]
    refine ⟨fun q2 => by omega, fun _ => ?_⟩
    rw [Ok_chkA, Int.toNat_natCast, Ok_bnd, y1, Ok_chkI, Ok_bnd, Ok_chkI]
    refine ⟨by omega, by omega, by omega, rec _ _ ⟨m + 1, by omega, by omega, by rw [yset_at]; omega, fun i h1 h2 => by rw [yset_off i h1, yset_off i h2]; exact i2 i h1 h2, fun j hj => by rw [yset_ne (by omega), yset_ne (by omega)]; exact i3 j hj, fun j => ?_, fun j hj => ?_, fun r hr => ?_⟩ (by omega)⟩
    · rw [yset_off 2 (by decide)]
      by_cases c : j = n + m
      · rw [c, yset_at]
        exact b32i2b_rg _
      · rw [yset_ne (by omega)]
        exact i4 j
    · rw [yset_off 2 (by decide), yset_ne (by omega)]
      exact i5 j hj
    · rw [yset_off 2 (by decide)]
      by_cases c : r = m
      · rw [c, yset_at]
        rfl
      · rw [yset_ne (by omega)]
        exact i6 r (by omega)
/-- which of the five -/
def av (a b c d e : Int) (q : Nat) : Int := if q < 4 then a else if q < 8 then b else if q < 12 then c else if q < 16 then d else e
theorem C_feed {N n : Nat} {σ τ : ySt} (hN : 100000 ≤ N) (fd : FD σ τ n) (a b c d e : Int) :
    Ok (cE_feed N a b c d e σ) (fun r => Ok (mo_feed N a b c d e τ) (fun r' => r'.1 = r.1 ∧ ((∀ i, i ≠ 1 → i ≠ 2 → r.2 i = σ i) ∧ ∀ j, j ≠ 1 → r.2 1 j = σ 1 j) ∧ ((∀ i, i ≠ 92 → i ≠ 93 → r'.2 i = τ i) ∧ ∀ j, j ≠ 2 → r'.2 92 j = τ 92 j) ∧ ∃ n', FD r.2 r'.2 n')) := by
  obtain ⟨t1, t2, t3, t4, t5, t6⟩ := id fd
  by_cases c20 : n + 20 ≤ 1600
  · have hc : Ok (cE_feed N a b c d e σ) (fun r => r.1 = ((n + 20 : Nat) : Int) ∧ r.2 1 1 = ((n + 20 : Nat) : Int) ∧ (∀ i, i ≠ 1 → i ≠ 2 → r.2 i = σ i) ∧ (∀ j, j ≠ 1 → r.2 1 j = σ 1 j) ∧ (∀ j, -128 ≤ r.2 2 j ∧ r.2 2 j < 128) ∧ (∀ j, j < n → r.2 2 j = σ 2 j) ∧ ∀ q, q < 20 → r.2 2 (n + q) = by4 (av a b c d e q) (q % 4)) := by
      unfold cE_feed cTp_hasRoom
      rw [t1, chkI_pos (by omega), if_neg (show ¬ (n : Int) + 20 > 1600 by omega), bndO_s, if_pos (by decide), Ok_bndO]
      refine (putFour_ok (a := a) hN t1 (by omega) t4).mono ?_
      rintro σ1 ⟨x1, x2, x3, x4, x5, x6⟩
      rw [Ok_bndO]
      refine (putFour_ok (a := b) hN x1 (by omega) x4).mono ?_
      rintro σ2 ⟨y1, y2, y3, y4, y5, y6⟩
      rw [Ok_bndO]
      refine (putFour_ok (a := c) hN y1 (by omega) y4).mono ?_
      rintro σ3 ⟨z1, z2, z3, z4, z5, z6⟩
      rw [Ok_bndO]
      refine (putFour_ok (a := d) hN z1 (by omega) z4).mono ?_
      rintro σ4 ⟨u1, u2, u3, u4, u5, u6⟩
      rw [Ok_bndO]
      refine (putFour_ok (a := e) hN u1 (by omega) u4).mono ?_
      rintro σ5 ⟨v1, v2, v3, v4, v5, v6⟩
      rw [Ok_some]
      refine ⟨by dsimp only; rw [v1], by dsimp only; rw [v1], fun i h1 h2 => by dsimp only; rw [v2 i h1 h2, u2 i h1 h2, z2 i h1 h2, y2 i h1 h2, x2 i h1 h2], fun j hj => by dsimp only; rw [v3 j hj, u3 j hj, z3 j hj, y3 j hj, x3 j hj], v4, fun j hj => by dsimp only; rw [v5 j (by omega), u5 j (by omega), z5 j (by omega), y5 j (by omega), x5 j hj], fun q hq => ?_⟩
      dsimp only
      unfold av
      by_cases q1 : q < 4
      · rw [if_pos q1, v5 _ (by omega), u5 _ (by omega), z5 _ (by omega), y5 _ (by omega), x6 q q1, show q % 4 = q from by omega]
      rw [if_neg q1]
      by_cases q2 : q < 8
      · rw [if_pos q2, v5 _ (by omega), u5 _ (by omega), z5 _ (by omega), show n + q = n + 4 + (q - 4) from by omega, y6 (q - 4) (by omega), show q % 4 = q - 4 from by omega]
      rw [if_neg q2]
      by_cases q3 : q < 12
      · rw [if_pos q3, v5 _ (by omega), u5 _ (by omega), show n + q = n + 4 + 4 + (q - 8) from by omega, z6 (q - 8) (by omega), show q % 4 = q - 8 from by omega]
      rw [if_neg q3]
      by_cases q4 : q < 16
      · rw [if_pos q4, v5 _ (by omega), show n + q = n + 4 + 4 + 4 + (q - 12) from by omega, u6 (q - 12) (by omega), show q % 4 = q - 12 from by omega]
      rw [if_neg q4, show n + q = n + 4 + 4 + 4 + 4 + (q - 16) from by omega, v6 (q - 16) (by omega), show q % 4 = q - 16 from by omega]
    have hm : Ok (mo_feed N a b c d e τ) (fun r => r.1 = ((n + 20 : Nat) : Int) ∧ r.2 92 2 = ((n + 20 : Nat) : Int) ∧ (∀ i, i ≠ 92 → i ≠ 93 → r.2 i = τ i) ∧ (∀ j, j ≠ 2 → r.2 92 j = τ 92 j) ∧ (∀ j, j < n → r.2 93 j = τ 93 j) ∧ ∀ q, q < 20 → r.2 93 (n + q) = by4 (av a b c d e q) (q % 4)) := by
      unfold mo_feed
      rw [t2, chkI_pos (by omega), if_pos (show (n : Int) + 20 ≤ 1600 by omega)]
      refine Ok_loopS1 (fun x ρ => ∃ k : Nat, x = k ∧ k ≤ 20 ∧ (∀ i, i ≠ 93 → ρ i = τ i) ∧ (∀ j, j < n → ρ 93 j = τ 93 j) ∧ ∀ q, q < k → ρ 93 (n + q) = by4 (av a b c d e q) (q % 4)) (fun x _ => (20 - x.toNat : Nat)) ?_ N _ _ ⟨0, rfl, by omega, fun _ _ => rfl, fun _ _ => rfl, fun q hq => absurd hq (Nat.not_lt_zero q)⟩ (by omega)
      rintro k x ρ ⟨m, rfl, hm, i1, i2, i3⟩ rec
      rw [i1 92 (by decide), t2, Ok_ite]
      refine ⟨fun q => ?_, fun q => ?_⟩
      · have : m = 20 := by omega
        subst this
        rw [Ok_chkI, Ok_bnd, Ok_some]
        refine ⟨by omega, by dsimp only; rw [yset_at]; rfl, by dsimp only; rw [yset_at]; rfl, fun i h1 h2 => by dsimp only; rw [yset_off i h1]; exact i1 i h2, fun j hj => by dsimp only; rw [yset_ne (by omega), i1 92 (by decide)], fun j hj => by dsimp only; rw [yset_off 93 (by decide)]; exact i2 j hj, fun q hq => by dsimp only; rw [yset_off 93 (by decide)]; exact i3 q hq⟩
      · have h3 : b32and (m : Int) 3 = ((m % 4 : Nat) : Int) := by
          have key : ∀ k : Fin 20, b32and ((k.val : Nat) : Int) 3 = ((k.val % 4 : Nat) : Int) := by decide +kernel
          exact key ⟨m, by omega⟩
        have ix : ((n : Int) + (m : Int)).toNat = n + m := by omega
        refine Ok_jq1 (fun (y : Int) => y = av a b c d e m) (fun y10 hy => ?_) (fun z hz => ?_)
        · rw [h3, Ok_chkI, Ok_chkI, Ok_chkI, Ok_chkA, ix, Ok_bnd, Ok_chkI, hy]
          refine ⟨by omega, by omega, by omega, by omega, by omega, rec _ _ ⟨m + 1, by omega, by omega, fun i hi => by rw [yset_off i hi]; exact i1 i hi, fun j hj => by rw [yset_ne (by omega)]; exact i2 j hj, fun q hq => ?_⟩ (by omega)⟩
          by_cases c' : q = m
          · rw [c', yset_at]
            rfl
          · rw [yset_ne (by omega)]
            exact i3 q (by omega)
        · unfold av at hz
          by_cases q1 : m < 4
          · rw [if_pos q1] at hz
            rw [if_neg (show ¬ (m : Int) ≥ 4 by omega)]
            exact hz _ rfl
          rw [if_neg q1] at hz
          rw [if_pos (show (m : Int) ≥ 4 by omega)]
          by_cases q2 : m < 8
          · rw [if_pos q2] at hz
            rw [if_neg (show ¬ (m : Int) ≥ 8 by omega)]
            exact hz _ rfl
          rw [if_neg q2] at hz
          rw [if_pos (show (m : Int) ≥ 8 by omega)]
          by_cases q3 : m < 12
          · rw [if_pos q3] at hz
            rw [if_neg (show ¬ (m : Int) ≥ 12 by omega)]
            exact hz _ rfl
          rw [if_neg q3] at hz
          rw [if_pos (show (m : Int) ≥ 12 by omega)]
          by_cases q4 : m < 16
          · rw [if_pos q4] at hz
            rw [if_neg (show ¬ (m : Int) ≥ 16 by omega)]
            exact hz _ rfl
          rw [if_neg q4] at hz
          rw [if_pos (show (m : Int) ≥ 16 by omega)]
          exact hz _ rfl
    refine Ok2_of hc hm ?_
    rintro ⟨r, σ'⟩ ⟨r', τ'⟩ ⟨c1, c2, c3, c4, c5, c6, c7⟩ ⟨d1, d2, d3, d4, d5, d6⟩
    dsimp only at *
    refine ⟨by rw [c1, d1], ⟨c3, c4⟩, ⟨d3, d4⟩, n + 20, c2, d2, c20, c5, by rw [d3 94 (by decide) (by decide)]; exact t5, fun j hj => ?_⟩
    by_cases q : j < n
    · rw [d5 j q, c6 j q]
      exact t6 j q
    · rw [show j = n + (j - n) from by omega, d6 (j - n) (by omega), c7 (j - n) (by omega), b32i2b_id (by4_rg _ _)]
  · unfold cE_feed cTp_hasRoom mo_feed
    rw [t1, t2, chkI_pos (by omega), chkI_pos (by omega), if_pos (show (n : Int) + 20 > 1600 by omega), bndO_s, if_neg (show ¬ ¬ (0 : Int) = 0 from fun w => w rfl), if_neg (show ¬ (n : Int) + 20 ≤ 1600 by omega), Ok_some, Ok_some]
    exact ⟨rfl, ⟨fun _ _ _ => rfl, fun _ _ => rfl⟩, ⟨fun _ _ _ => rfl, fun _ _ => rfl⟩, n, fd⟩
