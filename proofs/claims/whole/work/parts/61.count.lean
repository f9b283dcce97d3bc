/-! counts, later, about, fault, end, feed -/
def CTr (σ τ : ySt) (nc mp : Nat) : Prop := σ 3 5 = nc ∧ τ 92 81 = nc ∧ nc ≤ 40 ∧ (σ 3 6 = τ 92 82 ∧ 0 ≤ σ 3 6 ∧ σ 3 6 ≤ 100000) ∧ ∀ c, c < nc → (σ 4 c = τ 141 c ∧ 1 ≤ σ 4 c ∧ σ 4 c ≤ 8) ∧ (σ 5 c = τ 142 c ∧ 0 ≤ σ 5 c ∧ σ 5 c < mp) ∧ (σ 6 c = τ 143 c ∧ 0 ≤ σ 6 c ∧ σ 6 c ≤ 5) ∧ (σ 7 c = τ 144 c ∧ 0 ≤ σ 7 c ∧ σ 7 c ≤ 100000) ∧ (σ 8 c = τ 145 c ∧ -1 ≤ σ 8 c ∧ σ 8 c ≤ 100000)
theorem CTr_of {σ τ σ' τ' : ySt} {nc mp : Nat} (h : CTr σ τ nc mp) (e : ∀ i, 3 ≤ i → i ≤ 8 → σ' i = σ i) (f : ∀ i, 141 ≤ i → i ≤ 145 → τ' i = τ i) (f81 : τ' 92 81 = τ 92 81) (f82 : τ' 92 82 = τ 92 82) : CTr σ' τ' nc mp := by
  unfold CTr at h ⊢
  rw [e 3 (by decide) (by decide), e 4 (by decide) (by decide), e 5 (by decide) (by decide), e 6 (by decide) (by decide), e 7 (by decide) (by decide), e 8 (by decide) (by decide), f 141 (by decide) (by decide), f 142 (by decide) (by decide), f 143 (by decide) (by decide), f 144 (by decide) (by decide), f 145 (by decide) (by decide), f81, f82]
  exact h
theorem tell_ok {nc : Nat} {σ : ySt} (h : σ 3 5 = nc) (hn : nc < 40) (a b c : Int) : cCt_tell a b c σ = some ((nc : Int), yset (yset (yset (yset (yset (yset σ 4 nc a) 5 nc b) 6 nc c) 7 nc (σ 3 6)) 8 nc (-1)) 3 5 ((nc : Int) + 1)) := by
  apply Ok_eq
  unfold cCt_tell
  have y : ∀ {ρ : ySt} {i j : Nat} {z : Int}, ρ 3 5 = nc → i ≠ 3 → yset ρ i j z 3 5 = nc := fun h hi => by rw [yset_ne (by omega)]; exact h
  have y1 := y (i := 4) (j := nc) (z := a) h (by decide)
  have y2 := y (i := 5) (j := nc) (z := b) y1 (by decide)
  have y3 := y (i := 6) (j := nc) (z := c) y2 (by decide)
  have y6 : yset (yset (yset σ 4 nc a) 5 nc b) 6 nc c 3 6 = σ 3 6 := by rw [yset_ne (by omega), yset_ne (by omega), yset_ne (by omega)]
  have y4 := y (i := 7) (j := nc) (z := σ 3 6) y3 (by decide)
  have y5 := y (i := 8) (j := nc) (z := -1) y4 (by decide)
  rw [h, if_pos (by omega), Ok_chkA, Int.toNat_natCast, Ok_bnd, y1, Ok_chkA, Int.toNat_natCast, Ok_bnd, y2, Ok_chkA, Int.toNat_natCast, Ok_bnd, y3, Ok_chkA, Int.toNat_natCast, y6, Ok_bnd, y4, Ok_chkA, Int.toNat_natCast, Ok_bnd, y5, Ok_chkI, Ok_bnd, yset_at, Ok_chkI, Ok_some]
  exact ⟨by omega, by omega, by omega, by omega, by omega, by omega, by omega, by rw [Int.add_sub_cancel]⟩
theorem mo_count_ok {nc b mp : Nat} {τ : ySt} (h : τ 92 81 = nc) (hn : nc < 40) (h40 : τ 92 40 = b) (hb : b < 2) (h95 : τ 95 b = mp) (hmp : mp ≤ 6) {s p m : Int} (hs : 1 ≤ s ∧ s ≤ 8) (hp : 0 ≤ p ∧ p < mp) (hm : 0 ≤ m ∧ m ≤ 5) : mo_count s p m τ = some ((nc : Int), yset (yset (yset (yset (yset (yset τ 141 nc s) 142 nc p) 143 nc m) 144 nc (τ 92 82)) 145 nc (-1)) 92 81 ((nc : Int) + 1)) := by
  apply Ok_eq
  unfold mo_count
  have y : ∀ {ρ : ySt} {i j : Nat} {z : Int}, ρ 92 81 = nc → i ≠ 92 → yset ρ i j z 92 81 = nc := fun h hi => by rw [yset_ne (by omega)]; exact h
  have y1 := y (i := 141) (j := nc) (z := s) h (by decide)
  have y2 := y (i := 142) (j := nc) (z := p) y1 (by decide)
  have y3 := y (i := 143) (j := nc) (z := m) y2 (by decide)
  have y6 : yset (yset (yset τ 141 nc s) 142 nc p) 143 nc m 92 82 = τ 92 82 := by rw [yset_ne (by omega), yset_ne (by omega), yset_ne (by omega)]
  have y4 := y (i := 144) (j := nc) (z := τ 92 82) y3 (by decide)
  have y5 := y (i := 145) (j := nc) (z := -1) y4 (by decide)
  rw [mo_isIn_eq, bndO_s, if_pos hs, if_neg (by decide), mo_isPlace_ok h40 hb h95 hmp, bndO_s, if_pos hp, if_neg (by decide), mo_isIn_eq, bndO_s, if_pos hm, if_neg (by decide), h, if_pos (by omega), Ok_chkA, Int.toNat_natCast, Ok_bnd, y1, Ok_chkA, Int.toNat_natCast, Ok_bnd, y2, Ok_chkA, Int.toNat_natCast, Ok_bnd, y3, Ok_chkA, Int.toNat_natCast, y6, Ok_bnd, y4, Ok_chkA, Int.toNat_natCast, Ok_bnd, y5, Ok_chkI, Ok_bnd, yset_at, Ok_chkI, Ok_some]
  exact ⟨by omega, by omega, by omega, by omega, by omega, by omega, by omega, by rw [Int.add_sub_cancel]⟩
theorem C_count {T b mp mq md mw me L nc : Nat} {W : Nat → Int} {σ τ : ySt} (h : TD σ τ T b mp mq md mw me L W) (ct : CTr σ τ nc mp) (s p m : Int) :
    Ok (cE_count s p m σ) (fun r => Ok (mo_count s p m τ) (fun r' => r'.1 = r.1 ∧ ((∀ i, (i < 3 ∨ 8 < i) → r.2 i = σ i) ∧ ∀ j, j ≠ 5 → r.2 3 j = σ 3 j) ∧ ((∀ i, i ≠ 92 → (i < 141 ∨ 145 < i) → r'.2 i = τ i) ∧ ∀ j, j ≠ 81 → r'.2 92 j = τ 92 j) ∧ ∃ nc', CTr r.2 r'.2 nc' mp)) := by
  obtain ⟨hT, h05, h40, hb, g1, g2, _⟩ := id h
  have hmp := g1.2.1
  have same : ∀ (v : Int), Ok (some (v, σ)) (fun r => Ok (some (v, τ)) (fun r' => r'.1 = r.1 ∧ ((∀ i, (i < 3 ∨ 8 < i) → r.2 i = σ i) ∧ ∀ j, j ≠ 5 → r.2 3 j = σ 3 j) ∧ ((∀ i, i ≠ 92 → (i < 141 ∨ 145 < i) → r'.2 i = τ i) ∧ ∀ j, j ≠ 81 → r'.2 92 j = τ 92 j) ∧ ∃ nc', CTr r.2 r'.2 nc' mp)) := fun v => by
    rw [Ok_some, Ok_some]
    exact ⟨rfl, ⟨fun _ _ => rfl, fun _ _ => rfl⟩, ⟨fun _ _ _ => rfl, fun _ _ => rfl⟩, nc, ct⟩
  have n10 : ¬ (1 : Int) = 0 := by decide
  have z00 : (0 : Int) = 0 := rfl
  unfold cE_count
  rw [cE_isStroke_eq, bndO_s]
  by_cases cs : 1 ≤ s ∧ s ≤ 8
  · rw [if_pos cs, if_neg n10, chkT_pos hT h05, hasPlace_ok hT g1.1.1, bndO_s]
    by_cases cp : 0 ≤ p ∧ p < mp
    · rw [if_pos cp, if_neg n10]
      by_cases cm : 0 ≤ m ∧ m ≤ 5
      · rw [if_neg (show ¬ m < 0 by omega), if_pos (show m < 6 by omega)]
        by_cases c40 : nc < 40
        · rw [tell_ok ct.1 c40, bndR_s, Ok_some, mo_count_ok ct.2.1 c40 h40 hb g1.2.2 hmp cs cp cm, Ok_some]
          obtain ⟨t1, t2, t3, ⟨t4, t5, t6⟩, t7⟩ := ct
          refine ⟨rfl, ⟨fun i hi => ?_, fun j hj => ?_⟩, ⟨fun i h1 h2 => ?_, fun j hj => ?_⟩, nc + 1, ?_, ?_, by omega, ⟨?_, ?_, ?_⟩, fun c hc => ?_⟩
          · dsimp only
            rw [yset_off i (by omega), yset_off i (by omega), yset_off i (by omega), yset_off i (by omega), yset_off i (by omega), yset_off i (by omega)]
          · dsimp only
            rw [yset_ne (by omega), yset_ne (by omega), yset_ne (by omega), yset_ne (by omega), yset_ne (by omega), yset_ne (by omega)]
          · dsimp only
            rw [yset_off i (by omega), yset_off i (by omega), yset_off i (by omega), yset_off i (by omega), yset_off i (by omega), yset_off i (by omega)]
          · dsimp only
            rw [yset_ne (by omega), yset_ne (by omega), yset_ne (by omega), yset_ne (by omega), yset_ne (by omega), yset_ne (by omega)]
          · dsimp only
            rw [yset_at]; rfl
          · dsimp only
            rw [yset_at]; rfl
          · dsimp only
            rw [yset_ne (by omega), yset_ne (by omega), yset_ne (by omega), yset_ne (by omega), yset_ne (by omega), yset_ne (by omega), yset_ne (by omega), yset_ne (by omega), yset_ne (by omega), yset_ne (by omega), yset_ne (by omega), yset_ne (by omega)]; exact t4
          · dsimp only
            rw [yset_ne (by omega), yset_ne (by omega), yset_ne (by omega), yset_ne (by omega), yset_ne (by omega), yset_ne (by omega)]; exact t5
          · dsimp only
            rw [yset_ne (by omega), yset_ne (by omega), yset_ne (by omega), yset_ne (by omega), yset_ne (by omega), yset_ne (by omega)]; exact t6
          · dsimp only
            by_cases e : c = nc
            · subst e
              have v4 : yset (yset (yset (yset (yset (yset σ 4 c s) 5 c p) 6 c m) 7 c (σ 3 6)) 8 c (-1)) 3 5 ((c : Int) + 1) 4 c = s := by rw [yset_ne (by omega), yset_ne (by omega), yset_ne (by omega), yset_ne (by omega), yset_ne (by omega), yset_at]
              have v5 : yset (yset (yset (yset (yset (yset σ 4 c s) 5 c p) 6 c m) 7 c (σ 3 6)) 8 c (-1)) 3 5 ((c : Int) + 1) 5 c = p := by rw [yset_ne (by omega), yset_ne (by omega), yset_ne (by omega), yset_ne (by omega), yset_at]
              have v6 : yset (yset (yset (yset (yset (yset σ 4 c s) 5 c p) 6 c m) 7 c (σ 3 6)) 8 c (-1)) 3 5 ((c : Int) + 1) 6 c = m := by rw [yset_ne (by omega), yset_ne (by omega), yset_ne (by omega), yset_at]
              have v7 : yset (yset (yset (yset (yset (yset σ 4 c s) 5 c p) 6 c m) 7 c (σ 3 6)) 8 c (-1)) 3 5 ((c : Int) + 1) 7 c = σ 3 6 := by rw [yset_ne (by omega), yset_ne (by omega), yset_at]
              have v8 : yset (yset (yset (yset (yset (yset σ 4 c s) 5 c p) 6 c m) 7 c (σ 3 6)) 8 c (-1)) 3 5 ((c : Int) + 1) 8 c = -1 := by rw [yset_ne (by omega), yset_at]
              have u4 : yset (yset (yset (yset (yset (yset τ 141 c s) 142 c p) 143 c m) 144 c (τ 92 82)) 145 c (-1)) 92 81 ((c : Int) + 1) 141 c = s := by rw [yset_ne (by omega), yset_ne (by omega), yset_ne (by omega), yset_ne (by omega), yset_ne (by omega), yset_at]
              have u5 : yset (yset (yset (yset (yset (yset τ 141 c s) 142 c p) 143 c m) 144 c (τ 92 82)) 145 c (-1)) 92 81 ((c : Int) + 1) 142 c = p := by rw [yset_ne (by omega), yset_ne (by omega), yset_ne (by omega), yset_ne (by omega), yset_at]
              have u6 : yset (yset (yset (yset (yset (yset τ 141 c s) 142 c p) 143 c m) 144 c (τ 92 82)) 145 c (-1)) 92 81 ((c : Int) + 1) 143 c = m := by rw [yset_ne (by omega), yset_ne (by omega), yset_ne (by omega), yset_at]
              have u7 : yset (yset (yset (yset (yset (yset τ 141 c s) 142 c p) 143 c m) 144 c (τ 92 82)) 145 c (-1)) 92 81 ((c : Int) + 1) 144 c = τ 92 82 := by rw [yset_ne (by omega), yset_ne (by omega), yset_at]
              have u8 : yset (yset (yset (yset (yset (yset τ 141 c s) 142 c p) 143 c m) 144 c (τ 92 82)) 145 c (-1)) 92 81 ((c : Int) + 1) 145 c = -1 := by rw [yset_ne (by omega), yset_at]
              rw [v4, v5, v6, v7, v8, u4, u5, u6, u7, u8]
              exact ⟨⟨rfl, cs⟩, ⟨rfl, cp⟩, ⟨rfl, cm⟩, ⟨t4, t5, t6⟩, rfl, by decide, by decide⟩
            · have o1 : ∀ i, i ≠ 3 → yset (yset (yset (yset (yset (yset σ 4 nc s) 5 nc p) 6 nc m) 7 nc (σ 3 6)) 8 nc (-1)) 3 5 ((nc : Int) + 1) i c = σ i c := fun i hi => by rw [yset_ne (by omega), yset_ne (by omega), yset_ne (by omega), yset_ne (by omega), yset_ne (by omega), yset_ne (by omega)]
              have o2 : ∀ i, i ≠ 92 → yset (yset (yset (yset (yset (yset τ 141 nc s) 142 nc p) 143 nc m) 144 nc (τ 92 82)) 145 nc (-1)) 92 81 ((nc : Int) + 1) i c = τ i c := fun i hi => by rw [yset_ne (by omega), yset_ne (by omega), yset_ne (by omega), yset_ne (by omega), yset_ne (by omega), yset_ne (by omega)]
              rw [o1 4 (by decide), o1 5 (by decide), o1 6 (by decide), o1 7 (by decide), o1 8 (by decide), o2 141 (by decide), o2 142 (by decide), o2 143 (by decide), o2 144 (by decide), o2 145 (by decide)]
              exact t7 c (by omega)
        · have e1 : cCt_tell s p m σ = some (-1, σ) := by
            unfold cCt_tell
            rw [ct.1, if_neg (by omega)]
          have e2 : mo_count s p m τ = some (-1, τ) := by
            unfold mo_count
            rw [mo_isIn_eq, bndO_s, if_pos cs, if_neg n10, mo_isPlace_ok h40 hb g1.2.2 hmp, bndO_s, if_pos cp, if_neg n10, mo_isIn_eq, bndO_s, if_pos cm, if_neg n10, ct.2.1, if_neg (by have := ct.2.2.1; omega)]
          rw [e1, bndR_s, e2]
          exact same (-1)
      · have e2 : mo_count s p m τ = some (-1, τ) := by
          unfold mo_count
          rw [mo_isIn_eq, bndO_s, if_pos cs, if_neg n10, mo_isPlace_ok h40 hb g1.2.2 hmp, bndO_s, if_pos cp, if_neg n10, mo_isIn_eq, bndO_s, if_neg cm, if_pos z00]
        rw [e2]
        by_cases c1 : m < 0
        · rw [if_pos c1]
          exact same (-1)
        · rw [if_neg c1, if_neg (show ¬ m < 6 by omega)]
          exact same (-1)
    · have e2 : mo_count s p m τ = some (-1, τ) := by
        unfold mo_count
        rw [mo_isIn_eq, bndO_s, if_pos cs, if_neg n10, mo_isPlace_ok h40 hb g1.2.2 hmp, bndO_s, if_neg cp, if_pos z00]
      rw [if_neg cp, if_pos z00, e2]
      exact same (-1)
  · have e2 : mo_count s p m τ = some (-1, τ) := by
      unfold mo_count
      rw [mo_isIn_eq, bndO_s, if_neg cs, if_pos z00]
    rw [if_neg cs, if_pos z00, e2]
    exact same (-1)
theorem C_untell {nc mp : Nat} {σ τ : ySt} (ct : CTr σ τ nc mp) (a : Int) :
    Ok (cE_untell a σ) (fun r => Ok (mo_untell a τ) (fun r' => r'.1 = r.1 ∧ (∀ i, i ≠ 8 → r.2 i = σ i) ∧ (∀ i, i ≠ 145 → r'.2 i = τ i) ∧ CTr r.2 r'.2 nc mp)) := by
  have n10 : ¬ (1 : Int) = 0 := by decide
  obtain ⟨t1, t2, t3, ⟨t4, t5, t6⟩, t7⟩ := id ct
  unfold cE_untell cCt_takeBack mo_untell
  rw [t1, t2, chkI_pos (by omega), mo_isIn_eq, bndO_s]
  by_cases c : 0 ≤ a ∧ a < nc
  · obtain ⟨k, rfl⟩ : ∃ k : Nat, a = k := ⟨a.toNat, by omega⟩
    have hk := (t7 k (by omega)).2.2.2.2
    rw [if_neg (show ¬ (k : Int) < 0 by omega), if_neg (show ¬ (k : Int) ≥ nc by omega), if_pos (show (0 : Int) ≤ (k : Int) ∧ (k : Int) ≤ (nc : Int) - 1 by omega), if_neg n10, chkA_pos (by omega), chkA_pos (by omega), chkA_pos (by omega), chkA_pos (by omega), Int.toNat_natCast, ← hk.1]
    by_cases q : σ 8 k = -1
    · rw [if_pos q, if_pos (by omega), Ok_bndR, Ok_bnd, Ok_some, Ok_chk, Ok_some, Ok_bnd, Ok_some]
      refine ⟨Or.inr rfl, rfl, fun i hi => yset_off i hi, fun i hi => yset_off i hi, ?_, ?_, t3, ?_, fun c' hc' => ?_⟩
      · dsimp only
        rw [yset_ne (by omega)]; exact t1
      · dsimp only
        rw [yset_ne (by omega)]; exact t2
      · dsimp only
        rw [yset_ne (by omega), yset_ne (by omega)]; exact ⟨t4, t5, t6⟩
      · obtain ⟨a1, a2, a3, a4, a5⟩ := t7 c' hc'
        dsimp only
        rw [yset_off 4 (by decide), yset_off 5 (by decide), yset_off 6 (by decide), yset_off 7 (by decide), yset_off 141 (by decide), yset_off 142 (by decide), yset_off 143 (by decide), yset_off 144 (by decide)]
        refine ⟨a1, a2, a3, a4, ?_⟩
        by_cases e : c' = k
        · subst e
          rw [yset_at, yset_at]
          exact ⟨t4, by omega, t6⟩
        · rw [yset_ne (by omega), yset_ne (by omega)]
          exact a5
    · rw [if_neg q, if_neg (by omega), Ok_bndR, Ok_some, Ok_chk, Ok_some, Ok_some]
      exact ⟨Or.inl rfl, rfl, fun _ _ => rfl, fun _ _ => rfl, ct⟩
  · have e1 : ∀ X : Option (Int × ySt), (if a < 0 then some ((0 : Int), σ) else if a ≥ (nc : Int) then some (0, σ) else X) = some (0, σ) := by
      intro X
      by_cases q : a < 0
      · rw [if_pos q]
      · rw [if_neg q, if_pos (by omega)]
    rw [e1, if_neg (show ¬ (0 ≤ a ∧ a ≤ (nc : Int) - 1) by omega), if_pos (show (0 : Int) = 0 from rfl), Ok_bndR, Ok_some, Ok_chk, Ok_some, Ok_some]
    exact ⟨Or.inl rfl, rfl, fun _ _ => rfl, fun _ _ => rfl, ct⟩
theorem C_later {nc mp : Nat} {σ τ : ySt} (ct : CTr σ τ nc mp) (a : Int) :
    Ok (cE_later a σ) (fun r => Ok (mo_later a τ) (fun r' => r'.1 = r.1 ∧ ((∀ i, i ≠ 3 → r.2 i = σ i) ∧ ∀ j, j ≠ 6 → r.2 3 j = σ 3 j) ∧ ((∀ i, i ≠ 92 → r'.2 i = τ i) ∧ ∀ j, j ≠ 82 → r'.2 92 j = τ 92 j) ∧ CTr r.2 r'.2 nc mp)) := by
  have n10 : ¬ (1 : Int) = 0 := by decide
  obtain ⟨t1, t2, t3, ⟨t4, t5, t6⟩, t7⟩ := id ct
  unfold cE_later mo_later
  rw [mo_isIn_eq, bndO_s]
  by_cases c : 0 ≤ a ∧ a ≤ 1000
  · rw [if_neg (show ¬ a < 0 by omega), if_neg (show ¬ a > 1000 by omega), if_pos c, if_neg n10, chkI_pos (by omega), chkI_pos (by omega), chkI_pos (by omega), chkI_pos (by omega), ← t4]
    by_cases q : σ 3 6 + a ≤ 100000
    · rw [if_pos q, if_pos q, Ok_bnd, Ok_some, Ok_bnd, Ok_some, yset_at, yset_at]
      refine ⟨rfl, ⟨fun i hi => yset_off i hi, fun j hj => yset_ne (by omega)⟩, ⟨fun i hi => yset_off i hi, fun j hj => yset_ne (by omega)⟩, ?_, ?_, t3, ?_, fun c' hc' => ?_⟩
      · dsimp only
        rw [yset_ne (by omega)]; exact t1
      · dsimp only
        rw [yset_ne (by omega)]; exact t2
      · dsimp only
        rw [yset_at, yset_at]
        exact ⟨rfl, by omega, q⟩
      · dsimp only
        rw [yset_off 4 (by decide), yset_off 5 (by decide), yset_off 6 (by decide), yset_off 7 (by decide), yset_off 8 (by decide), yset_off 141 (by decide), yset_off 142 (by decide), yset_off 143 (by decide), yset_off 144 (by decide), yset_off 145 (by decide)]
        exact t7 c' hc'
    · rw [if_neg q, if_neg q, Ok_some, Ok_some]
      exact ⟨rfl, ⟨fun _ _ => rfl, fun _ _ => rfl⟩, ⟨fun _ _ => rfl, fun _ _ => rfl⟩, ct⟩
  · have e1 : ∀ X : Option (Int × ySt), (if a < 0 then some ((-1 : Int), σ) else if a > 1000 then some (-1, σ) else X) = some (-1, σ) := by
      intro X
      by_cases q : a < 0
      · rw [if_pos q]
      · rw [if_neg q, if_pos (by omega)]
    rw [e1, if_neg c, if_pos (show (0 : Int) = 0 from rfl), Ok_some, Ok_some]
    exact ⟨rfl, ⟨fun _ _ => rfl, fun _ _ => rfl⟩, ⟨fun _ _ => rfl, fun _ _ => rfl⟩, ct⟩
theorem C_about {T b mp mq md mw me L nc : Nat} {W : Nat → Int} {σ τ : ySt} {k od : Int} (h : TD σ τ T b mp mq md mw me L W) (ct : CTr σ τ nc mp) (e1 : σ 1 1 = τ 92 2) (e8 : σ 9 2 = τ 92 73) (e9 : σ 9 3 = τ 92 74) (a : Int) : ∃ v, cE_about a σ = some v ∧ mo_about a τ = some v := by
  obtain ⟨hT, h05, h40, hb, g1, g2, g3, hw, wn, ft, g5, g6, g7, g8, g9, ru, hr, hu⟩ := h
  have hbb : (0 : Int) ≤ (b : Int) ∧ (b : Int) < ((2 : Nat) : Int) := by omega
  unfold cE_about mo_about
  by_cases c0 : a = 0
  · rw [if_pos c0, if_pos c0, chkT_pos hT h05, mo_placeMany_ok h40 hb g1.2.2, bndO_s]
    exact ⟨_, rfl, by rw [g1.1.1]⟩
  rw [if_neg c0, if_neg c0]
  by_cases c1 : a = 1
  · rw [if_pos c1, if_pos c1, chkT_pos hT h05, mo_personMany_ok h40 hb g2.2.2, bndO_s]
    exact ⟨_, rfl, by rw [g2.1.1]⟩
  rw [if_neg c1, if_neg c1]
  by_cases c2 : a = 2
  · rw [if_pos c2, if_pos c2, chkT_pos hT h05, h40, chkA_pos hbb, Int.toNat_natCast]
    exact ⟨_, rfl, by rw [g3.1.1, g3.2.2]⟩
  rw [if_neg c2, if_neg c2]
  by_cases c3 : a = 3
  · rw [if_pos c3, if_pos c3, chkT_pos hT h05, h40, chkA_pos hbb, Int.toNat_natCast]
    exact ⟨_, rfl, by rw [g5.1, g5.2.2.1]⟩
  rw [if_neg c3, if_neg c3]
  by_cases c4 : a = 4
  · rw [if_pos c4, if_pos c4, chkT_pos hT h05, h40, chkA_pos hbb, Int.toNat_natCast]
    exact ⟨_, rfl, by rw [wn.1, wn.2.1]⟩
  rw [if_neg c4, if_neg c4]
  by_cases c5 : a = 5
  · rw [if_pos c5, if_pos c5]
    exact ⟨_, rfl, by rw [ct.1, ct.2.1]⟩
  rw [if_neg c5, if_neg c5]
  by_cases c6 : a = 6
  · rw [if_pos c6, if_pos c6]
    exact ⟨_, rfl, by rw [ct.2.2.2.1.1]⟩
  rw [if_neg c6, if_neg c6]
  by_cases c7 : a = 7
  · rw [if_pos c7, if_pos c7]
    exact ⟨_, rfl, by rw [e1]⟩
  rw [if_neg c7, if_neg c7]
  by_cases c8 : a = 8
  · rw [if_pos c8, if_pos c8]
    exact ⟨_, rfl, by rw [e8]⟩
  rw [if_neg c8, if_neg c8]
  by_cases c9 : a = 9
  · rw [if_pos c9, if_pos c9]
    exact ⟨_, rfl, by rw [e9]⟩
  rw [if_neg c9, if_neg c9]
  by_cases c10 : a = 10
  · rw [if_pos c10, if_pos c10, chkT_pos hT h05, h40, chkA_pos hbb, Int.toNat_natCast]
    exact ⟨_, rfl, by rw [hu]⟩
  rw [if_neg c10, if_neg c10]
  by_cases c11 : a = 11
  · rw [if_pos c11, if_pos c11, chkT_pos hT h05, h40, chkA_pos hbb, Int.toNat_natCast]
    exact ⟨_, rfl, by rw [g6.1.1]⟩
  rw [if_neg c11, if_neg c11]
  by_cases c12 : a = 12
  · rw [if_pos c12, if_pos c12, chkT_pos hT h05, h40, chkA_pos hbb, Int.toNat_natCast]
    exact ⟨_, rfl, by rw [g6.2.1]⟩
  rw [if_neg c12, if_neg c12]
  exact ⟨_, rfl, rfl⟩
theorem C_fault {σ τ : ySt} (e6 : σ 1 6 = τ 92 4) (e7 : σ 1 7 = τ 92 5) (a : Int) : ∃ v, cE_fault a σ = some v ∧ mo_fault a τ = some v := by
  unfold cE_fault mo_fault
  rw [e6, e7]
  by_cases c : a = 0
  · rw [if_neg (show ¬ ¬ a = 0 from fun w => w c)]
    exact ⟨_, rfl, rfl⟩
  · rw [if_pos c]
    by_cases c1 : a = 1
    · rw [if_neg (show ¬ ¬ a = 1 from fun w => w c1)]
      exact ⟨_, rfl, rfl⟩
    · rw [if_pos c1]
      exact ⟨_, rfl, rfl⟩
/-- the bytes told so far -/
def FD (σ τ : ySt) (n : Nat) : Prop := σ 1 1 = n ∧ τ 92 2 = n ∧ n ≤ 1600 ∧ (∀ j, -128 ≤ σ 2 j ∧ σ 2 j < 128) ∧ (∀ j, -128 ≤ τ 94 j ∧ τ 94 j < 128) ∧ ∀ j, j < n → b32i2b (τ 93 j) = σ 2 j
theorem C_end {n : Nat} {σ τ : ySt} (fd : FD σ τ n) (a : Int) :
    Ok (cE_end a σ) (fun r => Ok (mo_end a τ) (fun r' => r'.1 = r.1 ∧ ((∀ i, i ≠ 1 → r.2 i = σ i) ∧ ∀ j, j ≠ 1 → r.2 1 j = σ 1 j) ∧ ((∀ i, i ≠ 92 → r'.2 i = τ i) ∧ ∀ j, j ≠ 2 → r'.2 92 j = τ 92 j) ∧ ∃ n', FD r.2 r'.2 n')) := by
  obtain ⟨t1, t2, t3, t4, t5, t6⟩ := id fd
  unfold cE_end mo_end
  rw [t1, t2]
  by_cases c : a < 0
  · rw [if_pos c, if_pos c, Ok_some, Ok_some]
    exact ⟨rfl, ⟨fun _ _ => rfl, fun _ _ => rfl⟩, ⟨fun _ _ => rfl, fun _ _ => rfl⟩, n, fd⟩
  · rw [if_neg c, if_neg c]
    by_cases c2 : a ≤ n
    · obtain ⟨k, rfl⟩ : ∃ k : Nat, a = k := ⟨a.toNat, by omega⟩
      rw [if_pos c2, if_pos c2, Ok_bnd, Ok_some, Ok_bnd, Ok_some]
      refine ⟨rfl, ⟨fun i hi => yset_off i hi, fun j hj => yset_ne (by omega)⟩, ⟨fun i hi => yset_off i hi, fun j hj => yset_ne (by omega)⟩, k, ?_, ?_, by omega, ?_, ?_, fun j hj => ?_⟩
      · dsimp only
        rw [yset_at]
      · dsimp only
        rw [yset_at]
      · dsimp only
        rw [yset_off 2 (by decide)]; exact t4
      · dsimp only
        rw [yset_off 94 (by decide)]; exact t5
      · dsimp only
        rw [yset_off 2 (by decide), yset_off 93 (by decide)]; exact t6 j (by omega)
    · rw [if_neg c2, if_neg c2, Ok_some, Ok_some]
      exact ⟨rfl, ⟨fun _ _ => rfl, fun _ _ => rfl⟩, ⟨fun _ _ => rfl, fun _ _ => rfl⟩, n, fd⟩
