/-! mend: the reference, and the call -/
theorem pz_zero {D : Nat → Nat → Int} {m B : Nat} (h : ∀ t, t < m → Nat.testBit B t = false) : pz D m m B = 0 := by
  have := pz_skip (D := D) (m := m) (B := B) m 0 (by omega) (fun t _ h2 => h t (by omega))
  rw [Nat.zero_add] at this
  rw [this]
  rfl
theorem xor2 (s a b : Nat) (hs : s < 64) (ha : a < 6) (hb : b < 6) : b32xor (b32xor (s : Int) (b32shl 1 (a : Int))) (b32shl 1 (b : Int)) = ((s ^^^ 2 ^ a ^^^ 2 ^ b : Nat) : Int) ∧ (Nat.testBit s a = true → Nat.testBit s b = true → a ≠ b → s ^^^ 2 ^ a ^^^ 2 ^ b < s) := by
  have key : ∀ s : Fin 64, ∀ a b : Fin 6, b32xor (b32xor ((s.val : Nat) : Int) (b32shl 1 ((a.val : Nat) : Int))) (b32shl 1 ((b.val : Nat) : Int)) = ((s.val ^^^ 2 ^ a.val ^^^ 2 ^ b.val : Nat) : Int) ∧ (Nat.testBit s.val a.val = true → Nat.testBit s.val b.val = true → a.val ≠ b.val → s.val ^^^ 2 ^ a.val ^^^ 2 ^ b.val < s.val) := by decide +kernel
  exact key ⟨s, hs⟩ ⟨a, ha⟩ ⟨b, hb⟩
theorem no_bits (s : Nat) (hs : s < 64) (h : ∀ t, t < 6 → Nat.testBit s t = false) : s = 0 := by
  have key : ∀ s : Fin 64, Nat.testBit s.val 0 = false → Nat.testBit s.val 1 = false → Nat.testBit s.val 2 = false → Nat.testBit s.val 3 = false → Nat.testBit s.val 4 = false → Nat.testBit s.val 5 = false → s.val = 0 := by decide +kernel
  exact key ⟨s, hs⟩ (h 0 (by decide)) (h 1 (by decide)) (h 2 (by decide)) (h 3 (by decide)) (h 4 (by decide)) (h 5 (by decide))
theorem mo_mend_ok {N T b mp mq md mw me L : Nat} {W : Nat → Int} {σ τ : ySt} (hN : 100000 ≤ N) (h : TD σ τ T b mp mq md mw me L W) (hTW : TW σ T mp mq me) (hs : ∀ n, n < mq → 0 ≤ τ 138 n ∧ τ 138 n < mp) :
    Ok (mo_mend N τ) (fun r => FrQ r.2 τ ∧ r.2 92 50 = τ 92 50 ∧ r.1 = if pz (fun u v => σ (T + 15) (6 * u + v)) mp mp (odB (τ 138) mq mp) ≥ 1000000 then -1 else pz (fun u v => σ (T + 15) (6 * u + v)) mp mp (odB (τ 138) mq mp)) := by
  obtain ⟨hT, h1, hm6, h3, hq5, hm, h14, hme, he, hh, h16, h17, h15⟩ := id hTW
  obtain ⟨D, hDe⟩ : ∃ D : Nat → Nat → Int, D = fun u v => σ (T + 15) (6 * u + v) := ⟨_, rfl⟩
  have hD : ∀ u v, u < mp → v < mp → 0 ≤ D u v ∧ D u v ≤ 1000000 := fun u v hu hv => by rw [hDe]; exact h15 _ (by omega)
  rw [← hDe]
  unfold mo_mend
  rw [bndO_2, Ok_bndO]
  refine (plain_lay hN h).mono ?_
  rintro τ1 ⟨f1, ly, k1⟩
  have td := TD_FrQ h f1
  obtain ⟨_, _, u40, ub, u1, u2, _⟩ := id td
  have e138 : τ1 138 = τ 138 := f1.1 138 (by decide) (by omega)
  rw [Ok_bndO]
  refine (mo_layStands_ok hN u40 ub u2.2.2 hq5 (by rw [e138]; exact fun n hn => ⟨(hs n hn).1, by have := (hs n hn).2; omega⟩)).mono ?_
  rintro τ6 ⟨a1, a2⟩
  rw [e138] at a2
  have f6 : FrQ τ6 τ := FrQ_tr f1 ⟨fun i x1 x2 => a1 i (by omega), fun k _ => by rw [a1 92 (by decide)]⟩
  have e50 : τ6 92 50 = τ 92 50 := by rw [a1 92 (by decide)]; exact k1 50 (by omega)
  have v40 : τ6 92 40 = b := by rw [a1 92 (by decide)]; exact u40
  have v95 : τ6 95 b = mp := by rw [a1 95 (by decide)]; exact u1.2.2
  have l124 : ∀ u v, u < mp → v < mp → τ6 124 (6 * u + v) = D u v := fun u v hu hv => by
    rw [a1 124 (by decide), hDe]
    exact ly.2.1 u v hu hv
  refine Ok_loop2 (fun x y => ∃ k : Nat, y = k ∧ k ≤ mp ∧ x = ((odB (τ 138) mq k : Nat) : Int)) (fun _ y => (mp - y.toNat : Nat)) ?_ N _ _ ⟨0, rfl, by omega, rfl⟩ (by omega)
  rintro g x y ⟨k, rfl, hk, rfl⟩ rec
  rw [mo_placeMany_ok v40 ub v95, bndO_s, Ok_ite]
  refine ⟨fun q => ?_, fun q => ?_⟩
  · have hke : k = mp := by omega
    subst hke
    obtain ⟨A, hA⟩ : ∃ A, odB (τ 138) mq k = A := ⟨_, rfl⟩
    have hA2 : A < 2 ^ k := by rw [← hA]; exact odB_lt _ _ _
    have h6 : 2 ^ k ≤ 2 ^ 6 := Nat.pow_le_pow_right (by decide) (by omega)
    rw [hA]
    have hi : ∀ s, s < 2 ^ k → ∀ t, k ≤ t → Nat.testBit s t = false := fun s hs' t ht => Nat.testBit_lt_two_pow (Nat.lt_of_lt_of_le hs' (Nat.pow_le_pow_right (by decide) ht))
    refine Ok_loopS2 (fun y z ν => y = (A : Int) ∧ ∃ s : Nat, z = s ∧ s ≤ A + 1 ∧ (∀ i, i ≠ 140 → ν i = τ6 i) ∧ ∀ s', s' < s → ν 140 s' = pz D k k s') (fun _ z _ => (A + 1 - z.toNat : Nat)) ?_ N _ _ _ ⟨rfl, 0, rfl, by omega, fun _ _ => rfl, fun s' hs' => absurd hs' (Nat.not_lt_zero s')⟩ (by omega)
    rintro g2 y z ν ⟨rfl, s, rfl, hsA, j1, j2⟩ rec2
    have fν : FrQ ν τ := FrQ_tr f6 ⟨fun i x1 x2 => j1 i (by omega), fun k _ => by rw [j1 92 (by decide)]⟩
    have e50ν : ν 92 50 = τ 92 50 := by rw [j1 92 (by decide)]; exact e50
    rw [Ok_ite]
    refine ⟨fun q2 => ?_, fun q2 => ?_⟩
    · rw [Ok_chkA, Int.toNat_natCast, j2 A (by omega), Ok_ite, Ok_some, Ok_chkA, Ok_some]
      exact ⟨by omega, fun c => ⟨fν, e50ν, by rw [if_pos c]⟩, fun c => ⟨by omega, fν, e50ν, by rw [if_neg c]⟩⟩
    · have hs2 : s < 2 ^ k := by omega
      refine Ok_jq1 (fun (y : Int) => y = if s = 0 then 0 else 1000000) (fun y hy => ?_) (fun jj hjj => ?_)
      · rw [Ok_chkA, Int.toNat_natCast, Ok_bnd]
        refine ⟨by omega, ?_⟩
        generalize hν1 : yset ν 140 s y = ν1
        have n1 : ∀ i, i ≠ 140 → ν1 i = τ6 i := fun i hi' => by rw [← hν1, yset_off i hi']; exact j1 i hi'
        have n2 : ∀ s', s' < s → ν1 140 s' = pz D k k s' := fun s' hs' => by rw [← hν1, yset_ne (by omega)]; exact j2 s' hs'
        have n3 : ν1 140 s = if s = 0 then 0 else 1000000 := by rw [← hν1, yset_at, hy]
        refine Ok_loop3 (fun x y z => x = (A : Int) ∧ y = (s : Int) ∧ ∃ a : Nat, z = a ∧ a ≤ 5 ∧ (s = 0 → a = 0) ∧ ∀ t, t < a → Nat.testBit s t = false) (fun _ _ z => (6 - z.toNat : Nat)) ?_ N _ _ _ ⟨rfl, rfl, 0, rfl, by omega, fun _ => rfl, fun t ht => absurd ht (Nat.not_lt_zero t)⟩ (by omega)
        rintro g3 x y z ⟨rfl, rfl, a, rfl, ha5, ha0, hat⟩ rec3
        refine Ok_jq (s = 0 ∨ Nat.testBit s a = true) (fun w => ?_) (fun j30 hj30 => ?_)
        · -- over the second places
          obtain ⟨rest, hrest⟩ : ∃ rest : Nat → Int, rest = fun t => pz D k (k - 1 - a) (clB s t) := ⟨_, rfl⟩
          have rrg : ∀ t, 0 ≤ rest t ∧ rest t ≤ 1000000 := fun t => by rw [hrest]; exact pz_rg hD _ _ (by omega)
          have hak : s ≠ 0 → a < k ∧ Nat.testBit s a = true := fun hs0 => by
            rcases w with w | w
            · exact absurd w hs0
            · refine ⟨?_, w⟩
              rcases Nat.lt_or_ge a k with c | c
              · exact c
              · rw [hi s hs2 a c] at w
                cases w
          rw [Ok_chkI]
          refine ⟨by omega, Ok_loopS4 (fun x y z z' κ => x = (A : Int) ∧ y = (s : Int) ∧ z = (a : Int) ∧ ∃ j : Nat, z' = ((a + 1 + j : Nat) : Int) ∧ a + 1 + j ≤ 6 ∧ (∀ i, i ≠ 140 → κ i = τ6 i) ∧ (∀ s', s' < s → κ 140 s' = pz D k k s') ∧ κ 140 s = if s = 0 then 0 else pzM D a rest s j) (fun _ _ _ z' _ => (6 - z'.toNat : Nat)) ?_ N _ _ _ _ _ ⟨rfl, rfl, rfl, 0, by omega, by omega, n1, n2, n3⟩ (by omega)⟩
          rintro g4 x y z z' κ ⟨rfl, rfl, rfl, j, rfl, hj, l1, l2, l3⟩ rec4
          refine Ok_jq (s = 0 ∨ a + 1 + j = 6) (fun w2 => ?_) (fun j38 hj38 => ?_)
          · rw [Ok_chkI]
            refine ⟨by omega, rec2 _ _ _ ⟨rfl, s + 1, by omega, by omega, l1, fun s' hs' => ?_⟩ (by omega)⟩
            by_cases c : s' = s
            · rw [c, l3]
              by_cases c0 : s = 0
              · rw [if_pos c0, c0]
                exact (pz_zero (fun t _ => Nat.zero_testBit t)).symm
              · obtain ⟨hak1, hak2⟩ := hak c0
                have hj6 : a + 1 + j = 6 := by omega
                rw [if_neg c0]
                have p1 := pz_skip (D := D) (m := k) (B := s) a (k - a) (by omega) (fun t _ h2 => hat t (by omega))
                rw [show k - a + a = k by omega] at p1
                have p2 := pzM_ext (D := D) (a := a) (B := s) (k := k - 1 - a) (rest := rest) (j - (k - 1 - a)) (fun t h1 h2 => hi s hs2 t (by omega))
                rw [show k - 1 - a + (j - (k - 1 - a)) = j by omega] at p2
                have p3 : pz D k (k - a) s = pzM D a rest s (k - 1 - a) := by
                  rw [show k - a = (k - 1 - a) + 1 by omega]
                  unfold pz
                  rw [show k - (k - 1 - a + 1) = a by omega, if_pos hak2, hrest]
                rw [p1, p3, p2]
            · exact l2 s' (by omega)
          · rw [Ok_ite]
            refine ⟨fun q3 => hj38 (Or.inr (by omega)), fun q3 => ?_⟩
            rw [Ok_ite]
            refine ⟨fun q4 => hj38 (Or.inl (by omega)), fun q4 => ?_⟩
            have hs0 : s ≠ 0 := by omega
            obtain ⟨hak1, hak2⟩ := hak hs0
            rw [if_neg hs0] at l3
            have prg : ∀ j, a + 1 + j ≤ k → 0 ≤ pzM D a rest s j ∧ pzM D a rest s j ≤ 1000000 := pzM_rg (n := k) (fun t ht => hD a t hak1 ht) rrg
            have ub : pzM D a rest s (j + 1) = if Nat.testBit s (a + 1 + j) = true then min (pzM D a rest s j) (D a (a + 1 + j) + rest (a + 1 + j)) else pzM D a rest s j := rfl
            refine Ok_jq1 (fun (κ' : ySt) => (∀ i, i ≠ 140 → κ' i = τ6 i) ∧ (∀ s', s' < s → κ' 140 s' = pz D k k s') ∧ κ' 140 s = pzM D a rest s (j + 1)) (fun κ' hκ => ?_) (fun kk hkk => ?_)
            · rw [Ok_chkI]
              exact ⟨by omega, rec4 _ _ _ _ _ ⟨rfl, rfl, rfl, j + 1, by omega, by omega, hκ.1, hκ.2.1, by rw [if_neg hs0]; exact hκ.2.2⟩ (by omega)⟩
            · rw [bit_at s (a + 1 + j) (by omega) (by omega)]
              by_cases c2 : Nat.testBit s (a + 1 + j) = true
              · have hbk : a + 1 + j < k := by
                  rcases Nat.lt_or_ge (a + 1 + j) k with c | c
                  · exact c
                  · rw [hi s hs2 _ c] at c2
                    cases c2
                obtain ⟨x1, x2⟩ := xor2 s a (a + 1 + j) (by omega) (by omega) (by omega)
                have xl := x2 hak2 c2 (by omega)
                have ix : (6 * (a : Int) + ((a + 1 + j : Nat) : Int)).toNat = 6 * a + (a + 1 + j) := by omega
                have er : pz D k k (s ^^^ 2 ^ a ^^^ 2 ^ (a + 1 + j)) = rest (a + 1 + j) := by
                  have bt : ∀ t, Nat.testBit (s ^^^ 2 ^ a ^^^ 2 ^ (a + 1 + j)) t = ((Nat.testBit s t).xor (decide (a = t))).xor (decide (a + 1 + j = t)) := fun t => by rw [Nat.testBit_xor, Nat.testBit_xor, Nat.testBit_two_pow, Nat.testBit_two_pow]
                  have p1 := pz_skip (D := D) (m := k) (B := s ^^^ 2 ^ a ^^^ 2 ^ (a + 1 + j)) (a + 1) (k - 1 - a) (by omega) (fun t _ h2 => by
                    rw [bt t, decide_eq_false (show ¬ a + 1 + j = t by omega)]
                    by_cases ct : a = t
                    · rw [decide_eq_true ct, ← ct, hak2]
                      rfl
                    · rw [decide_eq_false ct, hat t (by omega)]
                      rfl)
                  rw [show k - 1 - a + (a + 1) = k by omega] at p1
                  rw [p1, hrest]
                  refine pz_congr hm6 (fun _ _ _ _ => rfl) _ _ _ (by omega) (fun t h1 h2 => ?_)
                  rw [bt t, clB_bit (by omega) (by omega), decide_eq_false (show ¬ a = t by omega)]
                  by_cases ct : a + 1 + j = t
                  · rw [decide_eq_true ct, decide_eq_false (show ¬ t ≠ a + 1 + j from fun w => w ct.symm), ← ct, c2]
                    rfl
                  · rw [decide_eq_false ct, decide_eq_true (show t ≠ a + 1 + j from fun w => ct w.symm)]
                    cases Nat.testBit s t <;> rfl
                have hrr := rrg (a + 1 + j)
                have hdd := hD a (a + 1 + j) hak1 hbk
                have pj := prg j (by omega)
                rw [if_pos c2, if_pos (show ¬ (1 : Int) = 0 by decide), Ok_chkI, Ok_chkI, Ok_chkA, ix, x1, Ok_chkA, Int.toNat_natCast, l1 124 (by decide), l124 a (a + 1 + j) hak1 hbk, l2 _ xl, er, Ok_chkI, Ok_chkA, Int.toNat_natCast, l3, Ok_ite]
                refine ⟨by omega, by omega, by omega, by omega, by omega, by omega, fun c3 => hkk _ ⟨l1, l2, ?_⟩, fun c3 => ?_⟩
                · rw [l3, ub, if_pos c2]
                  omega
                · rw [Ok_chkA, Ok_bnd]
                  refine ⟨by omega, hkk _ ⟨fun i hi' => by rw [yset_off i hi']; exact l1 i hi', fun s' hs' => by rw [yset_ne (by omega)]; exact l2 s' hs', ?_⟩⟩
                  rw [yset_at, ub, if_pos c2]
                  omega
              · rw [if_neg c2, if_neg (show ¬ ¬ (0 : Int) = 0 from fun w => w rfl)]
                refine hkk _ ⟨l1, l2, ?_⟩
                rw [l3, ub, if_neg c2]
        · rw [Ok_ite]
          refine ⟨fun c => hj30 (Or.inl (by omega)), fun c => ?_⟩
          rw [bit_at s a (by omega) (by omega)]
          by_cases c2 : Nat.testBit s a = true
          · rw [if_pos c2, if_pos (show ¬ (1 : Int) = 0 by decide)]
            exact hj30 (Or.inr c2)
          · have c2f : Nat.testBit s a = false := Bool.eq_false_iff.mpr c2
            have ha4 : a + 1 ≤ 5 := by
              rcases Nat.lt_or_ge a 5 with e | e
              · omega
              · have : s = 0 := no_bits s (by omega) (fun t ht => by
                  by_cases ct : t = a
                  · rw [ct]; exact c2f
                  · exact hat t (by omega))
                omega
            rw [if_neg c2, if_neg (show ¬ ¬ (0 : Int) = 0 from fun w => w rfl), Ok_chkI]
            refine ⟨by omega, rec3 _ _ _ ⟨rfl, rfl, a + 1, by omega, by omega, fun e => by omega, fun t ht => ?_⟩ (by omega)⟩
            by_cases ct : t = a
            · rw [ct]; exact c2f
            · exact hat t (by omega)
      · rw [Ok_ite]
        exact ⟨fun c => hjj _ (by rw [if_neg (by omega)]), fun c => hjj _ (by rw [if_pos (by omega)])⟩
  · have hkm : k < mp := by omega
    have h2 : (cnt (τ 138) mq k).toNat % 2 < 2 := Nat.mod_lt _ (by decide)
    rw [Ok_chkA, Int.toNat_natCast, a2 k (by omega), od_mod, Ok_chk, Ok_chkI, Ok_chkI, od_or k _ _ (by omega) (odB_lt (τ 138) mq k) h2]
    exact ⟨by omega, by decide, by omega, by omega, rec _ _ ⟨k + 1, by omega, by omega, rfl⟩ (by omega)⟩
theorem C_mend {N T b mp mq md mw me L : Nat} {W : Nat → Int} {σ τ : ySt} (hN : 100000 ≤ N) (h : TD σ τ T b mp mq md mw me L W) (hTW : TW σ T mp mq me) (ea : EAr σ 9 (τ 138) (τ 139) (τ 92 73) (τ 92 74) mp mq) :
    Ok (cE_mend N σ) (fun r => Ok (mo_mend N τ) (fun r' => r'.1 = r ∧ FrQ r'.2 τ ∧ r'.2 92 50 = τ 92 50)) := by
  have eN := ea.2.2.2.2.2.2
  unfold cE_mend
  rw [chkT_pos hTW.1 h.2.1, leastMending_ok (f := τ 138) hN hTW (fun n hn => (eN n hn).1), bndO_s, Ok_some]
  refine (mo_mend_ok hN h hTW (fun n hn => (eN n hn).2.1)).mono ?_
  rintro ⟨r, τ'⟩ ⟨a1, a2, a3⟩
  exact ⟨a3, a1, a2⟩
