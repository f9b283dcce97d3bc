/-! often and spare, in both -/
theorem CA_of {σ σ' : ySt} {T mp mq me md L S hr : Nat} (hT : T = 13 ∨ T = 33) (h : CA σ T mp mq me md L S hr) (e : ∀ i, (i < 60 ∨ (64 < i ∧ i < 72)) → σ' i = σ i) : CA σ' T mp mq me md L S hr := by
  have eT : ∀ i, T ≤ i → i ≤ T + 19 → σ' i = σ i := fun i x y => e i (by omega)
  intro a ha h65
  rw [e 65 (by omega)] at h65
  obtain ⟨z1, z2⟩ := h a ha h65
  rw [e 66 (by omega), bZ_of eT]
  refine ⟨z1, fun hne => ?_⟩
  obtain ⟨pth, q1, q2⟩ := z2 hne
  exact ⟨pth, (PT_of eT).mpr q1, fun s n s1 s2 hn => by rw [e (68 + a) (by omega)]; exact q2 s n s1 s2 hn⟩
theorem Mc_pl {σ τ : ySt} {T b mp mq md mw me L : Nat} {W : Nat → Int} (h : TD σ τ T b mp mq md mw me L W) (q53 : τ 92 53 = -1) : ∀ D : Nat → Nat → Int, MT 6 (Vq τ b) D → ∀ u v, u < mp → v < mp → D u v = σ (T + 15) (6 * u + v) := by
  have hV : ∀ u v, u < 6 → v < 6 → bs τ b u v = Vq τ b u v := fun u v _ _ => by
    unfold Vq
    rw [if_neg (fun w => w.1 (by rw [q53]; decide))]
  exact fun D hD u v hu hv => D_eq h (MT_congr hD hV (fun _ _ _ _ => rfl)) hu hv
theorem freePlace_ok {N mp p0 : Nat} {σ : ySt} {op op' : Nat → Nat → Nat → Bool} (hN : 100000 ≤ N) (hp : p0 < 6) (hb : BT σ mp op) (h1 : ∀ s p h, p ≠ p0 → op' s p h = op s p h) (h2 : ∀ s h, op' s p0 h = true) :
    Ok (cDy_freePlace N p0 σ) (fun σ' => (∀ i, i ≠ 82 → σ' i = σ i) ∧ BT σ' mp op') := by
  unfold cDy_freePlace
  refine Ok_loopS1 (fun y ν => ∃ k : Nat, y = k ∧ k ≤ 6 ∧ (∀ i, i ≠ 82 → ν i = σ i) ∧ (∀ p h, p ≠ p0 → h < 6 → ν 82 (6 * p + h) = σ 82 (6 * p + h)) ∧ ∀ h, h < k → ν 82 (6 * p0 + h) = 510) (fun y _ => (6 - y.toNat : Nat)) ?_ N _ _ ⟨0, rfl, by omega, fun _ _ => rfl, fun _ _ _ _ => rfl, fun h hh => absurd hh (Nat.not_lt_zero h)⟩ (by omega)
  rintro g y ν ⟨k, rfl, hk, i1, i2, i3⟩ rec
  rw [Ok_ite, Ok_some]
  refine ⟨fun q => ⟨i1, fun p h hpm hh => ?_⟩, fun q => ?_⟩
  · by_cases c : p = p0
    · rw [c, i3 h (by omega)]
      refine ⟨510, rfl, by decide, fun s s1 s2 => ?_⟩
      rw [h2]
      have key : ∀ s : Fin 9, 1 ≤ s.val → Nat.testBit 510 s.val = true := by decide
      exact key ⟨s, by omega⟩ s1
    · rw [i2 p h c hh]
      obtain ⟨B, b1, b2, b3⟩ := hb p h hpm hh
      exact ⟨B, b1, b2, fun s s1 s2 => by rw [b3 s s1 s2, h1 s p h c]⟩
  · have ix : ((p0 : Int) * 6 + (k : Int)).toNat = 6 * p0 + k := by omega
    rw [Ok_chkI, Ok_chkI, Ok_chkA, ix, Ok_bnd, Ok_chkI]
    refine ⟨by omega, by omega, by omega, by omega, rec _ _ ⟨k + 1, by omega, by omega, fun i hi => by rw [yset_off i hi]; exact i1 i hi, fun p h c hh => ?_, fun h hh => ?_⟩ (by omega)⟩
    · rw [yset_ne (by omega)]
      exact i2 p h c hh
    · by_cases c : h = k
      · rw [c, yset_at]
      · rw [yset_ne (by omega)]
        exact i3 h (by omega)
theorem worth_no {N : Nat} {σ : ySt} (h : σ 78 2 = 0) : cDs_worthOf N σ = some (-1000000, σ) := by
  unfold cDs_worthOf
  rw [if_neg (fun w => w h)]
theorem C_often {N T b mp mq md mw me L S hr : Nat} {W : Nat → Int} {σ τ : ySt} (hN : 100000 ≤ N) (h : QI σ τ T b mp mq md mw me L S hr W) (a c : Int) :
    Ok (cE_often N a c σ) (fun r => Ok (mo_often N a c τ) (fun r' => r'.1 = r.1 ∧ FrQ r'.2 τ ∧ (∀ i, (i < 60 ∨ (64 < i ∧ i < 78) ∨ 82 < i) → r.2 i = σ i))) := by
  obtain ⟨hTD, hTW, h58, hS, hH, hca⟩ := id h
  obtain ⟨hT, h1, hm6, h3, hq5, hm, h14, hme, he, hh, h16, h17, h15⟩ := id hTW
  obtain ⟨_, h05, h40, hb, g1, g2, g3, ⟨w1, w2, w3⟩, wn, ft, _, g6, _⟩ := id hTD
  have n10 : ¬ (1 : Int) = 0 := by decide
  have none_ : Ok (some ((-1000000 : Int), σ)) (fun r => Ok (some ((-1000000 : Int), τ)) (fun r' => r'.1 = r.1 ∧ FrQ r'.2 τ ∧ (∀ i, (i < 60 ∨ (64 < i ∧ i < 78) ∨ 82 < i) → r.2 i = σ i))) := by
    rw [Ok_some, Ok_some]
    exact ⟨rfl, FrQ_rfl τ, fun _ _ => rfl⟩
  unfold cE_often mo_often
  rw [cE_isSort_eq, bndO_s, mo_isIn_eq, bndO_s]
  by_cases cc : 0 ≤ c ∧ c ≤ 2
  · obtain ⟨n, rfl⟩ : ∃ n : Nat, c = n := ⟨c.toNat, by omega⟩
    rw [if_pos cc, if_neg n10]
    by_cases ca : 2 ≤ a ∧ a ≤ 8
    · obtain ⟨t, rfl⟩ : ∃ t : Nat, a = t := ⟨a.toNat, by omega⟩
      rw [if_neg (show ¬ (t : Int) < 2 by omega), if_neg (show ¬ (t : Int) > 8 by omega), if_pos ca, Ok_swap, Ok_bnd, if_neg n10, mo_isWhat_eq, bndO_s, if_pos cc, if_pos n10, Ok_bndO]
      refine (mo_plain_ok h40 hb).mono ?_
      rintro τ1 ⟨f1, q1, k1⟩
      have hT1 := TD_FrQ hTD f1
      obtain ⟨_, _, h40', _, _, _, _, _, _, _, _, g6', _⟩ := id hT1
      obtain ⟨q47, q48, q49, q51, q52, q53⟩ := q1
      have e100 : τ1 100 b = (hr : Int) := by rw [← g6'.1.1, hH]
      have e101 : τ1 101 b = (S : Int) := by rw [← g6'.2.1, hS]
      have htd : ((hr : Nat) : Int).tdiv (t : Int) = ((hr / t : Nat) : Int) := by
        rw [Int.tdiv_eq_ediv_of_nonneg (Int.natCast_nonneg _), ← Int.natCast_ediv]
      have hdl := Nat.div_le_self hr t
      obtain ⟨hq, hhq⟩ : ∃ hq : Nat, hr / t = hq := ⟨_, rfl⟩
      have hSt : (S : Int) * (t : Int) = ((S * t : Nat) : Int) := (Int.natCast_mul S t).symm
      have hSt64 : S * t ≤ 64 := by
        have : S * t ≤ 8 * 8 := Nat.mul_le_mul (show S ≤ 8 by omega) (show t ≤ 8 by omega)
        omega
      have hSt1 : 1 ≤ S * t := Nat.mul_pos (by omega) (by omega)
      rw [hhq] at htd hdl
      rw [h40', Int.toNat_natCast, e100, htd, Ok_chkA, Ok_chk, Ok_chkI, Ok_bnd]
      refine ⟨by omega, by omega, by omega, ?_⟩
      rw [yset_ne (show (92 : Nat) ≠ 92 ∨ (40 : Nat) ≠ 47 by decide), h40', Int.toNat_natCast, yset_off 101 (by decide), e101, hSt, Ok_chkA, Ok_chkI, Ok_bnd, Ok_bnd, Ok_bnd]
      refine ⟨by omega, by omega, ?_⟩
      generalize hτ2 : yset (yset (yset τ1 92 47 (hq : Int)) 92 48 ((S * t : Nat) : Int)) 92 49 (t : Int) = τ2
      have t47 : τ2 92 47 = (hq : Int) := by rw [← hτ2, yset_ne (by omega), yset_ne (by omega), yset_at]
      have t48 : τ2 92 48 = ((S * t : Nat) : Int) := by rw [← hτ2, yset_ne (by omega), yset_at]
      have t49 : τ2 92 49 = (t : Int) := by rw [← hτ2, yset_at]
      have tk : ∀ k, 50 ≤ k → τ2 92 k = τ1 92 k := fun k hk => by rw [← hτ2, yset_ne (by omega), yset_ne (by omega), yset_ne (by omega)]
      have f2 : FrQ τ2 τ := by
        rw [← hτ2]
        exact FrQ_tr f1 (FrQ_tr (FrQ_set (by omega)) (FrQ_tr (FrQ_set (by omega)) (FrQ_set (by omega))))
      have hT2 := TD_FrQ hTD f2
      have lay := lay_ok (what := (n : Int)) (t := t) (op := fun s p h => decide (opn σ T L md (-1) (-1) s p h ≠ 0)) hN hTW (by omega) hS hH (by omega) (bits_pl ft)
      rw [hhq] at lay
      -- the class, where there is no such day
      have no : (8 < S * t ∨ hq = 0) → Ok (some ((-1000000 : Int), τ2)) (fun r' => Ok (bndR (cAn_oftenWorth N t n σ) fun r7 σ8 => some (r7, σ8)) (fun r => r'.1 = r.1 ∧ FrQ r'.2 τ ∧ (∀ i, (i < 60 ∨ (64 < i ∧ i < 78) ∨ 82 < i) → r.2 i = σ i))) := fun hno => by
        rw [Ok_some, Ok_bndR]
        unfold cAn_oftenWorth
        rw [chkT_pos hT h58, Ok_bndO]
        refine lay.mono ?_
        rintro σ5 ⟨fr, n2, _⟩
        rw [worth_no (n2 hno), bndR_s, Ok_some, Ok_some]
        exact ⟨rfl, f2, fun i hi => fr i (by omega) (by omega) (by omega) (by omega) (by omega)⟩
      rw [t47, t48, Ok_ite]
      refine ⟨fun q => no (Or.inr (by omega)), fun q => ?_⟩
      rw [Ok_ite]
      refine ⟨fun q2 => ?_, fun q2 => no (Or.inl (by omega))⟩
      rw [Ok_bndR]
      refine (find_Z (what := (n : Int)) (t := t) (hr := hq) (S := S * t) (Mc := fun u v => σ (T + 15) (6 * u + v)) hN hT2 hTW (by omega) t47 (by omega) t48 (by omega) t49 (by omega) ((tk 51 (by omega)).trans q51) ((tk 52 (by omega)).trans q52) (Or.inl (by rw [tk 53 (by omega), q53]; decide)) (Mc_pl hT2 ((tk 53 (by omega)).trans q53))).mono ?_
      rintro ⟨r', τ3⟩ ⟨f3, k3, e3, mb⟩
      dsimp only at f3 e3 mb ⊢
      rw [Ok_some, Ok_bndR]
      unfold cAn_oftenWorth
      rw [chkT_pos hT h58, Ok_bndO]
      refine lay.mono ?_
      rintro σ5 ⟨fr, _, hd, _⟩
      obtain ⟨d1, d2, d3, d4⟩ := hd (by omega)
      rw [Ok_bndR]
      refine (worth_Z (b := b) (W := W) (mw := 0) (τ := τ3) hN hTW (by omega) (by omega) mb (fr (T + 8) (by omega) (by omega) (by omega) (by omega) (by omega)) d1 d2 d3 d4).mono ?_
      rintro ⟨r, σ8⟩ ⟨x1, x2, _⟩
      dsimp only at x1 x2 ⊢
      rw [Ok_some, Ok_some]
      exact ⟨e3.trans x1.symm, FrQ_tr f2 f3, fun i hi => (x2 i (by omega) (by omega) (by omega) (by omega) (by omega)).trans (fr i (by omega) (by omega) (by omega) (by omega) (by omega))⟩
    · rw [if_neg ca, Ok_swap, Ok_bnd, if_pos rfl, Ok_swap]
      by_cases c1 : a < 2
      · rw [if_pos c1]
        exact none_
      · rw [if_neg c1, if_pos (show a > 8 by omega)]
        exact none_
  · rw [if_neg cc, if_pos rfl, Ok_swap, Ok_bnd]
    by_cases ca : 2 ≤ a ∧ a ≤ 8
    · rw [if_pos ca, if_neg n10, mo_isWhat_eq, bndO_s, if_neg cc, if_neg (fun w => w rfl), Ok_swap]
      exact none_
    · rw [if_neg ca, if_pos rfl, Ok_swap]
      exact none_
theorem C_spare {N T b mp mq md mw me L S hr : Nat} {W : Nat → Int} {σ τ : ySt} (hN : 100000 ≤ N) (h : QI σ τ T b mp mq md mw me L S hr W) (a c : Int) :
    Ok (cE_spare N a c σ) (fun r => Ok (mo_spare N a c τ) (fun r' => r'.1 = r.1 ∧ FrQ r'.2 τ ∧ (∀ i, (i < 60 ∨ (64 < i ∧ i < 78) ∨ 82 < i) → r.2 i = σ i))) := by
  obtain ⟨hTD, hTW, h58, hS, hH, hca⟩ := id h
  obtain ⟨hT, h1, hm6, h3, hq5, hm, h14, hme, he, hh, h16, h17, h15⟩ := id hTW
  obtain ⟨_, h05, h40, hb, g1, g2, g3, ⟨w1, w2, w3⟩, wn, ft, _, g6, _⟩ := id hTD
  have n10 : ¬ (1 : Int) = 0 := by decide
  have none_ : Ok (some ((-1000000 : Int), σ)) (fun r => Ok (some ((-1000000 : Int), τ)) (fun r' => r'.1 = r.1 ∧ FrQ r'.2 τ ∧ (∀ i, (i < 60 ∨ (64 < i ∧ i < 78) ∨ 82 < i) → r.2 i = σ i))) := by
    rw [Ok_some, Ok_some]
    exact ⟨rfl, FrQ_rfl τ, fun _ _ => rfl⟩
  unfold cE_spare mo_spare
  rw [cE_isSort_eq, bndO_s, mo_isPlace_ok h40 hb g1.2.2 hm6, bndO_s]
  by_cases cc : 0 ≤ c ∧ c ≤ 2
  · obtain ⟨n, rfl⟩ : ∃ n : Nat, c = n := ⟨c.toNat, by omega⟩
    rw [if_pos cc, if_neg n10, chkT_pos hT h05, hasPlace_ok hT h1, bndO_s]
    by_cases ca : 0 ≤ a ∧ a < mp
    · obtain ⟨p0, rfl⟩ : ∃ p0 : Nat, a = p0 := ⟨a.toNat, by omega⟩
      rw [if_pos ca, if_neg n10, Ok_swap, Ok_bnd, if_neg n10, mo_isWhat_eq, bndO_s, if_pos cc, if_pos n10, Ok_bndO]
      refine (mo_plain_ok h40 hb).mono ?_
      rintro τ1 ⟨f1, q1, k1⟩
      have hT1 := TD_FrQ hTD f1
      obtain ⟨_, _, h40', _, _, _, _, _, _, _, _, g6', _⟩ := id hT1
      obtain ⟨q47, q48, q49, q51, q52, q53⟩ := q1
      rw [Ok_bnd]
      generalize hτ2 : yset τ1 92 52 (p0 : Int) = τ2
      have t52 : τ2 92 52 = (p0 : Int) := by rw [← hτ2, yset_at]
      have tk : ∀ k, k ≠ 52 → τ2 92 k = τ1 92 k := fun k hk => by rw [← hτ2, yset_ne (by omega)]
      have f2 : FrQ τ2 τ := by
        rw [← hτ2]
        exact FrQ_tr f1 (FrQ_set (by omega))
      have hT2 := TD_FrQ hTD f2
      rw [Ok_bndR]
      refine (find_Z (what := (n : Int)) (t := 1) (hr := hr) (S := S) (Mc := fun u v => σ (T + 15) (6 * u + v)) hN hT2 hTW (by omega) (by rw [tk 47 (by decide), q47, ← g6'.1.1]; exact hH) (by omega) (by rw [tk 48 (by decide), q48, ← g6'.2.1]; exact hS) (by omega) (by rw [tk 49 (by decide), q49]; rfl) (by omega) ((tk 51 (by decide)).trans q51) t52 (Or.inl (by rw [tk 53 (by decide), q53]; decide)) (Mc_pl hT2 ((tk 53 (by decide)).trans q53))).mono ?_
      rintro ⟨r', τ3⟩ ⟨f3, k3, e3, mb⟩
      dsimp only at f3 e3 mb ⊢
      rw [Ok_some, Ok_bndR]
      unfold cAn_spareWorth
      rw [chkT_pos hT h58, Ok_bndO]
      have hS8 : S * 1 = S := Nat.mul_one S
      have hH1 : hr / 1 = hr := Nat.div_one hr
      refine (lay_ok (what := (n : Int)) (t := 1) (op := fun s p h => decide (opn σ T L md (-1) (-1) s p h ≠ 0)) hN hTW (by omega) hS hH (by omega) (bits_pl ft)).mono ?_
      rintro σ5 ⟨fr, _, hd, _⟩
      rw [hS8, hH1] at hd
      obtain ⟨d1, d2, d3, d4⟩ := hd (by omega)
      rw [Ok_bndO]
      refine (freePlace_ok (op' := fun s p h => decide (opn σ T L md (-1) (p0 : Int) s p h ≠ 0)) hN (show p0 < 6 by omega) d3 (fun s p h hp => ?_) (fun s h => ?_)).mono ?_
      · unfold opn
        rw [if_neg (show ¬ ((s : Int) = -1 ∨ (p : Int) = (p0 : Int)) by omega), if_neg (show ¬ ((s : Int) = -1 ∨ (p : Int) = -1) by omega)]
      · unfold opn
        rw [if_pos (Or.inr rfl)]
        rfl
      rintro σ7 ⟨fr7, bt⟩
      rw [Ok_bndR]
      refine (worth_Z (b := b) (W := W) (mw := 0) (τ := τ3) hN hTW (by omega) (by omega) mb ((fr7 (T + 8) (by omega)).trans (fr (T + 8) (by omega) (by omega) (by omega) (by omega) (by omega))) (DS_of d1 (fun i hi => fr7 i (by omega))) (DG_of d2 (fun i hi => fr7 i (by omega))) bt (by rw [fr7 78 (by decide)]; exact d4)).mono ?_
      rintro ⟨r, σ8⟩ ⟨x1, x2, _⟩
      dsimp only at x1 x2 ⊢
      rw [Ok_some, Ok_some]
      exact ⟨e3.trans x1.symm, FrQ_tr f2 f3, fun i hi => (x2 i (by omega) (by omega) (by omega) (by omega) (by omega)).trans ((fr7 i (by omega)).trans (fr i (by omega) (by omega) (by omega) (by omega) (by omega)))⟩
    · rw [if_neg ca, if_pos rfl, Ok_swap, Ok_bnd, if_pos rfl, Ok_swap]
      exact none_
  · rw [if_neg cc, if_pos rfl, Ok_swap, Ok_bnd]
    by_cases ca : 0 ≤ a ∧ a < mp
    · rw [if_pos ca, if_neg n10, mo_isWhat_eq, bndO_s, if_neg cc, if_neg (fun w => w rfl), Ok_swap]
      exact none_
    · rw [if_neg ca, if_pos rfl, Ok_swap]
      exact none_
