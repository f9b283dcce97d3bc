/-! looking a name up -/
def nfF (q : Nat → Bool) : Nat → Nat → Int
  | 0, _ => -1
  | f + 1, k => if q k = true then k else nfF q f (k + 1)
/-- the first k below m with q, or -1 -/
def nf (q : Nat → Bool) (m : Nat) : Int := nfF q m 0
theorem nfF_rg (q : Nat → Bool) : ∀ (f k : Nat), nfF q f k = -1 ∨ ((k : Int) ≤ nfF q f k ∧ nfF q f k < k + f)
  | 0, _ => Or.inl rfl
  | f + 1, k => by
    unfold nfF
    split
    · exact Or.inr ⟨by omega, by omega⟩
    · rcases nfF_rg q f (k + 1) with h | h
      · exact Or.inl h
      · exact Or.inr ⟨by omega, by omega⟩
theorem nf_rg (q : Nat → Bool) (m : Nat) : nf q m = -1 ∨ (0 ≤ nf q m ∧ nf q m < m) := by
  have := nfF_rg q m 0
  unfold nf
  omega
theorem nfF_congr {q q' : Nat → Bool} : ∀ (f k : Nat), (∀ j, k ≤ j → j < k + f → q j = q' j) → nfF q f k = nfF q' f k
  | 0, _, _ => rfl
  | f + 1, k, h => by
    unfold nfF
    rw [h k (Nat.le_refl _) (by omega), nfF_congr f (k + 1) (fun j h1 h2 => h j (by omega) (by omega))]
theorem nf_congr {q q' : Nat → Bool} {m : Nat} (h : ∀ j, j < m → q j = q' j) : nf q m = nf q' m := nfF_congr m 0 (fun j _ h2 => h j (by omega))
theorem nf_none {q : Nat → Bool} {m : Nat} (h : ∀ j, j < m → q j = false) : nf q m = -1 := by
  have key : ∀ f k, (∀ j, k ≤ j → j < k + f → q j = false) → nfF q f k = -1 := by
    intro f
    induction f with
    | zero => intro k _; rfl
    | succ f ih =>
      intro k hk
      unfold nfF
      rw [hk k (Nat.le_refl _) (by omega)]
      exact ih (k + 1) (fun j h1 h2 => hk j (by omega) (by omega))
  exact key m 0 (fun j _ h2 => h j (by omega))
theorem cNm_find_ok {N o m : Nat} {σ : ySt} {x : Int} (hN : 100000 ≤ N) (ho : o = 14 ∨ o = 16 ∨ o = 18 ∨ o = 34 ∨ o = 36 ∨ o = 38) (h : σ o 1 = m) (hm : m ≤ (yKd (o + 1)).2) (hl : (yKd (o + 1)).2 ≤ 1000) :
    cNm_find N o x σ = some (nf (fun k => decide (σ (o + 1) k = x)) m) := by
  apply Ok_eq
  unfold cNm_find
  rw [Ok_chk]
  refine ⟨ho, ?_⟩
  refine Ok_loop1 (fun y => ∃ k : Nat, k ≤ m ∧ y = k ∧ nfF (fun k => decide (σ (o + 1) k = x)) (m - k) k = nf (fun k => decide (σ (o + 1) k = x)) m) (fun y => 1000 - y.toNat) ?_ N 0 ⟨0, Nat.zero_le _, rfl, rfl⟩ (by omega)
  rintro k y ⟨j, hj, rfl, he⟩ hk
  simp only [Ok_ite, Ok_chkA, Ok_chkI, Ok_some, h, Int.toNat_natCast, blcmp_0]
  refine ⟨fun q => ?_, fun q => ⟨by omega, fun q2 => ⟨by omega, ?_⟩, fun q2 => ?_⟩⟩
  · rw [← he, show m - j = 0 by omega]
    rfl
  · refine hk _ ⟨j + 1, by omega, by omega, ?_⟩ (by omega)
    rw [← he, show m - j = (m - (j + 1)) + 1 by omega]
    conv => rhs; unfold nfF
    rw [if_neg (by simpa using q2)]
  · rw [← he, show m - j = (m - (j + 1)) + 1 by omega]
    unfold nfF
    rw [if_pos (by simpa using q2)]
theorem mo_here_ok {N a b m : Nat} {σ : ySt} (hN : 100000 ≤ N) (ha : (yKd a).1 = 21 ∧ a < 150) (hm : b + m ≤ (yKd a).2) (hl : (yKd a).2 ≤ 1000) :
    mo_here N a b m σ = some (nf (fun k => decide (σ 92 8 = 2) && decide (σ a (b + k) = σ 92 10)) m) := by
  apply Ok_eq
  unfold mo_here
  rw [Ok_chk]
  refine ⟨ha, ?_⟩
  refine Ok_loop1 (fun y => ∃ k : Nat, k ≤ m ∧ y = k ∧ nfF (fun k => decide (σ 92 8 = 2) && decide (σ a (b + k) = σ 92 10)) (m - k) k = nf (fun k => decide (σ 92 8 = 2) && decide (σ a (b + k) = σ 92 10)) m) (fun y => 1000 - y.toNat) ?_ N 0 ⟨0, Nat.zero_le _, rfl, rfl⟩ (by omega)
  rintro k y ⟨j, hj, rfl, he⟩ hk
  rw [Ok_ite]
  refine ⟨fun q => ?_, fun q => ?_⟩
  · rw [Ok_some, ← he, show m - j = 0 by omega]
    rfl
  · have hs : m - j = (m - (j + 1)) + 1 := by omega
    have hji : ((b : Int) + (j : Int)).toNat = b + j := by omega
    refine Ok_jq (¬ (σ 92 8 = 2 ∧ σ a (b + j) = σ 92 10)) (fun q2 => ?_) (fun x hx => ?_)
    · rw [Ok_chkI]
      refine ⟨by omega, hk _ ⟨j + 1, by omega, by omega, ?_⟩ (by omega)⟩
      rw [← he, hs]
      conv => rhs; unfold nfF
      rw [if_neg (by simpa using q2)]
    · simp only [Ok_ite, Ok_chkA, Ok_chkI, Ok_some, hji, blcmp_0]
      refine ⟨fun q2 => hx (fun q3 => q2 q3.1), fun q2 => ⟨by omega, by omega, fun q3 => hx (fun q4 => q3 q4.2), fun q3 => ?_⟩⟩
      rw [← he, hs]
      unfold nfF
      rw [if_pos (by simp [Classical.not_not.mp q2, Classical.not_not.mp q3])]
/-- a list of names, in the class and in the model -/
def NR (σ : ySt) (o : Nat) (τ : ySt) (a b m : Nat) : Prop := σ o 1 = m ∧ ∀ k, k < m → ∃ w : List Int, (∀ c ∈ w, 97 ≤ c ∧ c ≤ 122) ∧ σ (o + 1) k = enc5 w ∧ τ a (b + k) = enc8 w
theorem NR_find {σ τ : ySt} {o a b m : Nat} (h : NR σ o τ a b m) {w : List Int} (hw : ∀ c ∈ w, 97 ≤ c ∧ c ≤ 122) (h2 : τ 92 8 = 2) (h10 : τ 92 10 = enc8 w) :
    nf (fun k => decide (σ (o + 1) k = enc5 w)) m = nf (fun k => decide (τ 92 8 = 2) && decide (τ a (b + k) = τ 92 10)) m := by
  apply nf_congr
  intro j hj
  obtain ⟨v, hv, e5, e8⟩ := h.2 j hj
  rw [e5, e8, h2, h10]
  by_cases q : v = w
  · simp [q]
  · have q5 : ¬ enc5 v = enc5 w := fun h => q (enc5_inj _ _ hv hw h)
    have q8 : ¬ enc8 v = enc8 w := fun h => q (enc8_inj _ _ hv hw h)
    simp [q5, q8]
theorem here_none {τ : ySt} {a b m : Nat} (h2 : τ 92 8 ≠ 2) : nf (fun k => decide (τ 92 8 = 2) && decide (τ a (b + k) = τ 92 10)) m = -1 := by
  apply nf_none
  intro j _
  simp [h2]
theorem cTp_passKnown_ok {N n p o m : Nat} {σ : ySt} {t : Nat → Int} (hN : 100000 ≤ N) (h : TC σ t n p) (ho : o = 14 ∨ o = 16 ∨ o = 18 ∨ o = 34 ∨ o = 36 ∨ o = 38) (hc : σ o 1 = m) (hm : m ≤ (yKd (o + 1)).2) (hl : (yKd (o + 1)).2 ≤ 1000) :
    Ok (cTp_passKnown N o σ) (fun r => offC σ r.2 ∧ ((tkK t n p = 3 ∧ 0 ≤ nf (fun k => decide (σ (o + 1) k = enc5 (tkW t n p))) m ∧ r.1 = nf (fun k => decide (σ (o + 1) k = enc5 (tkW t n p))) m ∧ TC r.2 t n (tkE t n p) ∧ r.2 1 6 = σ 1 6 ∧ r.2 1 7 = σ 1 7) ∨ (tkK t n p = 3 ∧ nf (fun k => decide (σ (o + 1) k = enc5 (tkW t n p))) m = -1 ∧ r.1 = -1 ∧ FC r.2 5 (tkA t n p)) ∨ (tkK t n p ≠ 3 ∧ r.1 = -1 ∧ FC r.2 (bdK t n p) (tkA t n p)))) := by
  have hk : σ 1 3 = tkK t n p := h.2.2.2.2.2.2.1
  have hw : tkK t n p = 3 → σ 1 4 = enc5 (tkW t n p) := h.2.2.2.2.2.2.2.2.1
  unfold cTp_passKnown
  rw [Ok_chk]
  refine ⟨ho, ?_⟩
  rw [Ok_ite, hk]
  refine ⟨fun q => ?_, fun q => ?_⟩
  · rw [hw q, cNm_find_ok hN ho hc hm hl, bndO_s]
    have hr := nf_rg (fun k => decide (σ (o + 1) k = enc5 (tkW t n p))) m
    rw [Ok_ite]
    refine ⟨fun q2 => ?_, fun q2 => ?_⟩
    · rw [Ok_bndO]
      refine (TC_go hN h).mono ?_
      rintro τ ⟨h1, h2, h3, h4⟩
      rw [Ok_some]
      exact ⟨h1, Or.inl ⟨q, by omega, rfl, h2, h3, h4⟩⟩
    · rw [Ok_bndR]
      refine (cTp_blame_ok h 5).mono ?_
      rintro ⟨r, τ⟩ ⟨h1, h2, h3⟩
      simp only at h1 h2 h3
      rw [Ok_some]
      exact ⟨h2, Or.inr (Or.inl ⟨q, Classical.not_not.mp q2, Classical.not_not.mp q2, h3⟩)⟩
  · rw [Ok_bndR]
    refine (cTp_refuse_ok h).mono ?_
    rintro ⟨r, τ⟩ ⟨h1, h2, h3⟩
    simp only at h1 h2 h3
    rw [Ok_some]
    exact ⟨h2, Or.inr (Or.inr ⟨q, rfl, h3⟩)⟩
theorem cRd_isNew_ok {N n p o m : Nat} {σ : ySt} {t : Nat → Int} (hN : 100000 ≤ N) (h : TC σ t n p) (ho : o = 14 ∨ o = 16 ∨ o = 18 ∨ o = 34 ∨ o = 36 ∨ o = 38) (hc : σ o 1 = m) (hm : m ≤ (yKd (o + 1)).2) (hl : (yKd (o + 1)).2 ≤ 1000) :
    Ok (cRd_isNew N o σ) (fun r => offC σ r.2 ∧ ((tkK t n p = 3 ∧ nf (fun k => decide (σ (o + 1) k = enc5 (tkW t n p))) m = -1 ∧ r = (1, σ)) ∨ (tkK t n p = 3 ∧ 0 ≤ nf (fun k => decide (σ (o + 1) k = enc5 (tkW t n p))) m ∧ r.1 = 0 ∧ FC r.2 3 (tkA t n p)) ∨ (tkK t n p ≠ 3 ∧ r.1 = 0 ∧ FC r.2 (bdK t n p) (tkA t n p)))) := by
  have hk : σ 1 3 = tkK t n p := h.2.2.2.2.2.2.1
  have hw : tkK t n p = 3 → σ 1 4 = enc5 (tkW t n p) := h.2.2.2.2.2.2.2.2.1
  unfold cRd_isNew
  rw [Ok_chk]
  refine ⟨ho, ?_⟩
  rw [Ok_ite, hk]
  refine ⟨fun q => ?_, fun q => ?_⟩
  · rw [hw q, cNm_find_ok hN ho hc hm hl, bndO_s]
    have hr := nf_rg (fun k => decide (σ (o + 1) k = enc5 (tkW t n p))) m
    rw [Ok_ite]
    refine ⟨fun q2 => ?_, fun q2 => ?_⟩
    · rw [Ok_some]
      exact ⟨offC_rfl _, Or.inl ⟨q, q2, rfl⟩⟩
    · rw [Ok_bndR]
      refine (cTp_blame_ok h 3).mono ?_
      rintro ⟨r, τ⟩ ⟨h1, h2, h3⟩
      simp only at h1 h2 h3
      rw [Ok_chk, Ok_some]
      exact ⟨Or.inl h1, h2, Or.inr (Or.inl ⟨q, by omega, h1, h3⟩)⟩
  · rw [Ok_bndR]
    refine (cTp_refuse_ok h).mono ?_
    rintro ⟨r, τ⟩ ⟨h1, h2, h3⟩
    simp only at h1 h2 h3
    rw [Ok_chk, Ok_some]
    exact ⟨Or.inl h1, h2, Or.inr (Or.inr ⟨q, h1, h3⟩)⟩
theorem mo_told_ok {N n p : Nat} {σ : ySt} {t : Nat → Int} (hN : 100000 ≤ N) (h : TM σ t n p) (g : σ 92 4 = 0) (a : Int) :
    Ok (mo_told N a σ) (fun r => offM σ r.2 ∧ r.1 = (if a ≥ 0 then a else 0) ∧ ((tkK t n p = 3 ∧ 0 ≤ a ∧ TM r.2 t n (tkE t n p) ∧ r.2 92 4 = 0 ∧ r.2 92 5 = σ 92 5) ∨ (tkK t n p = 3 ∧ a < 0 ∧ TM r.2 t n p ∧ FM r.2 5 (tkA t n p)) ∨ (tkK t n p ≠ 3 ∧ TM r.2 t n p ∧ FM r.2 (bdK t n p) (tkA t n p)))) := by
  have hk := (TM_tok h).2.2.1
  have h6 : σ 92 6 = tkA t n p := h.2.2.2.2.2.2.1
  have hbd := bdK_rg t n p
  have fin : ∀ {τ : ySt} {Q : Prop}, Q ∧ offM σ τ → Ok (if a ≥ 0 then some (a, τ) else some (0, τ)) (fun r => Q ∧ r.2 = τ ∧ r.1 = (if a ≥ 0 then a else 0)) := by
    intro τ Q hq
    rw [Ok_ite, Ok_some, Ok_some]
    exact ⟨fun q => ⟨hq.1, rfl, by rw [if_pos q]⟩, fun q => ⟨hq.1, rfl, by rw [if_neg q]⟩⟩
  unfold mo_told
  rw [mo_isGood_eq, bndO_s, if_pos g, if_pos (by decide)]
  refine Ok_jq1 (fun ρ => (ρ = σ ∧ tkK t n p = 3 ∧ 0 ≤ a) ∨ (tkK t n p = 3 ∧ a < 0 ∧ ρ = yset (yset σ 92 4 5) 92 5 (tkA t n p)) ∨ (tkK t n p ≠ 3 ∧ ρ = yset (yset σ 92 4 (bdK t n p)) 92 5 (tkA t n p))) (fun ρ hρ => ?_) (fun x hx => ?_)
  · rcases hρ with ⟨rfl, q, q2⟩ | ⟨q, q2, rfl⟩ | ⟨q, rfl⟩
    · simp only [mo_isGood_eq, bndO_s, Ok_bnd, g, Int.reduceEq, ↓reduceIte, Ok_bndO]
      refine (TM_go hN h).mono ?_
      rintro τ ⟨h1, h2, h3, h4⟩
      refine (fin (Q := TM τ t n (tkE t n p) ∧ τ 92 4 = 0 ∧ τ 92 5 = ρ 92 5) ⟨⟨h2, h3.trans g, h4⟩, h1⟩).mono ?_
      rintro ⟨r, ρ9⟩ ⟨g1, g2, g3⟩
      simp only at g2 g3
      subst g2
      exact ⟨h1, g3, Or.inl ⟨q, q2, g1.1, g1.2.1, g1.2.2⟩⟩
    · have e : yset (yset σ 92 4 5) 92 5 (tkA t n p) 92 4 = 5 := by rw [yset_ne (by omega), yset_at]
      simp only [mo_isGood_eq, bndO_s, Ok_bnd, e, Int.reduceEq, ↓reduceIte]
      refine (fin (Q := True) ⟨trivial, offM_F (a := 5) (b := tkA t n p)⟩).mono ?_
      rintro ⟨r, ρ⟩ ⟨g1, g2, g3⟩
      simp only at g2 g3
      subst g2
      have e5 : yset (yset σ 92 4 5) 92 5 (tkA t n p) 92 5 = tkA t n p := yset_at
      exact ⟨offM_F, g3, Or.inr (Or.inl ⟨q, q2, TM_F h, e, e5⟩)⟩
    · have e : yset (yset σ 92 4 (bdK t n p)) 92 5 (tkA t n p) 92 4 = bdK t n p := by rw [yset_ne (by omega), yset_at]
      have e0 : ¬ bdK t n p = 0 := by omega
      simp only [mo_isGood_eq, bndO_s, Ok_bnd, e, e0, ↓reduceIte]
      refine (fin (Q := True) ⟨trivial, offM_F (a := bdK t n p) (b := tkA t n p)⟩).mono ?_
      rintro ⟨r, ρ⟩ ⟨g1, g2, g3⟩
      simp only at g2 g3
      subst g2
      have e5 : yset (yset σ 92 4 (bdK t n p)) 92 5 (tkA t n p) 92 5 = tkA t n p := yset_at
      exact ⟨offM_F, g3, Or.inr (Or.inr ⟨q, TM_F h, e, e5⟩)⟩
  · rw [Ok_ite]
    refine ⟨fun q => ?_, fun q => ?_⟩
    · rw [Ok_ite, mo_fails_ok _ _ g, bndO_s, h6]
      exact ⟨fun q2 => hx _ (Or.inl ⟨rfl, hk.mp q, q2⟩), fun q2 => hx _ (Or.inr (Or.inl ⟨hk.mp q, by omega, rfl⟩))⟩
    · rw [mo_misplaced_ok h g, bndO_s]
      exact hx _ (Or.inr (Or.inr ⟨fun q2 => q (hk.mpr q2), rfl⟩))
theorem mo_fresh_ok {N n p : Nat} {σ : ySt} {t : Nat → Int} (hN : 100000 ≤ N) (h : TM σ t n p) (g : σ 92 4 = 0) (a : Int) :
    Ok (mo_fresh N a σ) (fun r => offM σ r.2 ∧ ((tkK t n p = 3 ∧ a = 0 ∧ r.1 = enc8 (tkW t n p) ∧ TM r.2 t n (tkE t n p) ∧ r.2 92 4 = 0 ∧ r.2 92 5 = σ 92 5) ∨ (tkK t n p = 3 ∧ a ≠ 0 ∧ TM r.2 t n p ∧ FM r.2 3 (tkA t n p)) ∨ (tkK t n p ≠ 3 ∧ TM r.2 t n p ∧ FM r.2 (bdK t n p) (tkA t n p)))) := by
  have hk := (TM_tok h).2.2.1
  have h6 : σ 92 6 = tkA t n p := h.2.2.2.2.2.2.1
  have h10 : tkK t n p = 3 ∨ 100 ≤ tkK t n p → σ 92 10 = enc8 (tkW t n p) := h.2.2.2.2.2.2.2.2.2.1
  have hbd := bdK_rg t n p
  unfold mo_fresh
  rw [mo_isGood_eq, bndO_s, if_pos g, if_pos (by decide)]
  refine Ok_jq1 (fun ρ => (ρ = σ ∧ tkK t n p = 3 ∧ a = 0) ∨ (tkK t n p = 3 ∧ a ≠ 0 ∧ ρ = yset (yset σ 92 4 3) 92 5 (tkA t n p)) ∨ (tkK t n p ≠ 3 ∧ ρ = yset (yset σ 92 4 (bdK t n p)) 92 5 (tkA t n p))) (fun ρ hρ => ?_) (fun x hx => ?_)
  · rcases hρ with ⟨rfl, q, q2⟩ | ⟨q, q2, rfl⟩ | ⟨q, rfl⟩
    · simp only [mo_isGood_eq, bndO_s, g, Int.reduceEq, ↓reduceIte, Ok_bndO]
      refine (TM_go hN h).mono ?_
      rintro τ ⟨h1, h2, h3, h4⟩
      rw [Ok_some]
      exact ⟨h1, Or.inl ⟨q, q2, h10 (Or.inl q), h2, h3.trans g, h4⟩⟩
    · have e : yset (yset σ 92 4 3) 92 5 (tkA t n p) 92 4 = 3 := by rw [yset_ne (by omega), yset_at]
      simp only [mo_isGood_eq, bndO_s, e, Int.reduceEq, ↓reduceIte, Ok_some]
      exact ⟨offM_F, Or.inr (Or.inl ⟨q, q2, TM_F h, e, yset_at⟩)⟩
    · have e : yset (yset σ 92 4 (bdK t n p)) 92 5 (tkA t n p) 92 4 = bdK t n p := by rw [yset_ne (by omega), yset_at]
      have e0 : ¬ bdK t n p = 0 := by omega
      simp only [mo_isGood_eq, bndO_s, e, e0, ↓reduceIte, Ok_some]
      exact ⟨offM_F, Or.inr (Or.inr ⟨q, TM_F h, e, yset_at⟩)⟩
  · rw [Ok_ite]
    refine ⟨fun q => ?_, fun q => ?_⟩
    · rw [Ok_ite, mo_fails_ok _ _ g, bndO_s, h6]
      exact ⟨fun q2 => hx _ (Or.inl ⟨rfl, hk.mp q, q2⟩), fun q2 => hx _ (Or.inr (Or.inl ⟨hk.mp q, q2, rfl⟩))⟩
    · rw [mo_misplaced_ok h g, bndO_s]
      exact hx _ (Or.inr (Or.inr ⟨fun q2 => q (hk.mpr q2), rfl⟩))
