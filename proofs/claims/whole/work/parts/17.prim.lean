/-! the parsers' first steps, in the token's words -/
theorem mo_isGood_eq (σ : ySt) : mo_isGood σ = some (if σ 92 4 = 0 then 1 else 0) := by
  unfold mo_isGood
  by_cases h : σ 92 4 = 0
  · rw [if_neg (fun q => q h), if_pos h]
  · rw [if_pos h, if_neg h]
theorem TM_tok {σ : ySt} {t : Nat → Int} {n p : Nat} (h : TM σ t n p) : (σ 92 8 = 0 ↔ tkK t n p = 0) ∧ (σ 92 8 = 1 ↔ tkK t n p = 1) ∧ (σ 92 8 = 2 ↔ tkK t n p = 3) ∧ (σ 92 8 = 4 ↔ tkK t n p = 2) ∧ (σ 92 8 = 3 ↔ 100 ≤ tkK t n p) ∧ (σ 92 8 = 5 ↔ (4 ≤ tkK t n p ∧ tkK t n p < 100)) := by
  obtain ⟨_, _, _, _, _, _, _, h8, _, _, _⟩ := h
  have hrg := tkK_rg t n p
  rw [h8, tmK_eq]
  repeat' split
  all_goals omega
theorem TM_isWord {σ : ySt} {t : Nat → Int} {n p : Nat} (h : TM σ t n p) {j : Nat} {c : Int} (hj : ∀ w : List Int, (∀ c ∈ w, 97 ≤ c ∧ c ≤ 122) → (kdW w = 100 + j ↔ enc8 w = c)) : mo_isWord c σ = some (if tkK t n p = 100 + j then 1 else 0) := by
  have ht := (TM_tok h).2.2.2.2.1
  obtain ⟨_, _, _, _, _, _, _, h8, _, h10, _⟩ := h
  unfold mo_isWord
  by_cases q : 100 ≤ tkK t n p
  · rw [if_neg (fun h => h (ht.mpr q)), h10 (Or.inr q)]
    have g := tkW_wd (Or.inr q : tkK t n p = 3 ∨ 100 ≤ tkK t n p)
    have g2 := hj _ g.1
    rw [(tk_word (Or.inr q)).2.2.2] at g2
    by_cases q2 : tkK t n p = 100 + j
    · rw [if_neg (fun h => h (blcmp_0.mpr (g2.mp q2))), if_pos q2]
    · rw [if_pos (fun h => q2 (g2.mpr (blcmp_0.mp h))), if_neg q2]
  · rw [if_pos (fun h => q (ht.mp h)), if_neg (by omega)]
theorem isW_place {σ : ySt} {t : Nat → Int} {n p : Nat} (h : TM σ t n p) : mo_isWord 482854658917 σ = some (if tkK t n p = 100 then 1 else 0) := TM_isWord h (j := 0) (fun _ hw => kd_place hw)
theorem isW_empty {σ : ySt} {t : Nat → Int} {n p : Nat} (h : TM σ t n p) : mo_isWord 435627783289 σ = some (if tkK t n p = 101 then 1 else 0) := TM_isWord h (j := 1) (fun _ hw => kd_empty hw)
theorem isW_way {σ : ySt} {t : Nat → Int} {n p : Nat} (h : TM σ t n p) : mo_isWord 7823737 σ = some (if tkK t n p = 102 then 1 else 0) := TM_isWord h (j := 2) (fun _ hw => kd_way hw)
theorem isW_minutes {σ : ySt} {t : Nat → Int} {n p : Nat} (h : TM σ t n p) : mo_isWord 30796695599342963 σ = some (if tkK t n p = 103 then 1 else 0) := TM_isWord h (j := 3) (fun _ hw => kd_minutes hw)
theorem isW_person {σ : ySt} {t : Nat → Int} {n p : Nat} (h : TM σ t n p) : mo_isWord 123581014175598 σ = some (if tkK t n p = 104 then 1 else 0) := TM_isWord h (j := 4) (fun _ hw => kd_person hw)
theorem isW_at_ {σ : ySt} {t : Nat → Int} {n p : Nat} (h : TM σ t n p) : mo_isWord 24948 σ = some (if tkK t n p = 105 then 1 else 0) := TM_isWord h (j := 5) (fun _ hw => kd_at_ hw)
theorem isW_hire {σ : ySt} {t : Nat → Int} {n p : Nat} (h : TM σ t n p) : mo_isWord 1751741029 σ = some (if tkK t n p = 106 then 1 else 0) := TM_isWord h (j := 6) (fun _ hw => kd_hire hw)
theorem isW_dog {σ : ySt} {t : Nat → Int} {n p : Nat} (h : TM σ t n p) : mo_isWord 6582119 σ = some (if tkK t n p = 107 then 1 else 0) := TM_isWord h (j := 7) (fun _ hw => kd_dog hw)
theorem isW_errand {σ : ySt} {t : Nat → Int} {n p : Nat} (h : TM σ t n p) : mo_isWord 111542219664996 σ = some (if tkK t n p = 108 then 1 else 0) := TM_isWord h (j := 8) (fun _ hw => kd_errand hw)
theorem isW_stroke {σ : ySt} {t : Nat → Int} {n p : Nat} (h : TM σ t n p) : mo_isWord 126943973305189 σ = some (if tkK t n p = 109 then 1 else 0) := TM_isWord h (j := 9) (fun _ hw => kd_stroke hw)
theorem isW_worth {σ : ySt} {t : Nat → Int} {n p : Nat} (h : TM σ t n p) : mo_isWord 512970880104 σ = some (if tkK t n p = 110 then 1 else 0) := TM_isWord h (j := 10) (fun _ hw => kd_worth hw)
theorem isW_hour {σ : ySt} {t : Nat → Int} {n p : Nat} (h : TM σ t n p) : mo_isWord 1752135026 σ = some (if tkK t n p = 111 then 1 else 0) := TM_isWord h (j := 11) (fun _ hw => kd_hour hw)
theorem isW_strokes {σ : ySt} {t : Nat → Int} {n p : Nat} (h : TM σ t n p) : mo_isWord 32497657166128499 σ = some (if tkK t n p = 112 then 1 else 0) := TM_isWord h (j := 12) (fun _ hw => kd_strokes hw)
theorem isW_rule {σ : ySt} {t : Nat → Int} {n p : Nat} (h : TM σ t n p) : mo_isWord 1920298085 σ = some (if tkK t n p = 113 then 1 else 0) := TM_isWord h (j := 13) (fun _ hw => kd_rule hw)
theorem isW_or_ {σ : ySt} {t : Nat → Int} {n p : Nat} (h : TM σ t n p) : mo_isWord 28530 σ = some (if tkK t n p = 114 then 1 else 0) := TM_isWord h (j := 14) (fun _ hw => kd_or_ hw)
theorem isW_and_ {σ : ySt} {t : Nat → Int} {n p : Nat} (h : TM σ t n p) : mo_isWord 6385252 σ = some (if tkK t n p = 115 then 1 else 0) := TM_isWord h (j := 15) (fun _ hw => kd_and_ hw)
theorem isW_not_ {σ : ySt} {t : Nat → Int} {n p : Nat} (h : TM σ t n p) : mo_isWord 7237492 σ = some (if tkK t n p = 116 then 1 else 0) := TM_isWord h (j := 16) (fun _ hw => kd_not_ hw)
theorem isW_here {σ : ySt} {t : Nat → Int} {n p : Nat} (h : TM σ t n p) : mo_isWord 1751478885 σ = some (if tkK t n p = 117 then 1 else 0) := TM_isWord h (j := 17) (fun _ hw => kd_here hw)
theorem isW_dogs {σ : ySt} {t : Nat → Int} {n p : Nat} (h : TM σ t n p) : mo_isWord 1685022579 σ = some (if tkK t n p = 118 then 1 else 0) := TM_isWord h (j := 18) (fun _ hw => kd_dogs hw)
theorem TM_sign {σ : ySt} {t : Nat → Int} {n p : Nat} (h : TM σ t n p) (q : 4 ≤ tkK t n p ∧ tkK t n p < 100) : mo_sign (σ 92 6) σ = some (tkK t n p) := by
  obtain ⟨h1, _, _, h3, h4, h5, h6, h8, _, _, _⟩ := h
  have g := tk_sign q
  rw [h6, mo_sign_eq h5 h1, sg_pos (h3 _) g.1 (by rw [h4 _ g.1]; omega), h4 _ g.1, g.2]
theorem TM_is {σ : ySt} {t : Nat → Int} {n p : Nat} (h : TM σ t n p) {c : Int} (hc : 4 ≤ c ∧ c < 100) : mo_is c σ = some (if tkK t n p = c then 1 else 0) := by
  have hs := TM_sign h
  have ht := (TM_tok h).2.2.2.2.2
  unfold mo_is
  by_cases q : 4 ≤ tkK t n p ∧ tkK t n p < 100
  · rw [if_neg (fun h => h (ht.mpr q)), hs q, bndO_s]
    by_cases q2 : tkK t n p = c
    · rw [if_neg (fun h => h q2), if_pos q2]
    · rw [if_pos q2, if_neg q2]
  · rw [if_pos (fun h => q (ht.mp h)), if_neg (by omega)]
/-- what a step of the class's tape leaves alone -/
def offC (σ τ : ySt) : Prop := (∀ i, i ≠ 1 → τ i = σ i) ∧ τ 1 1 = σ 1 1
theorem offC_rfl (σ : ySt) : offC σ σ := ⟨fun _ _ => rfl, rfl⟩
theorem offC_tk {σ : ySt} {s k w v e : Int} : offC σ (tkS σ s k w v e) := ⟨fun _ h => tkS_ne h, tkS_1⟩
theorem offC_tr {σ τ ρ : ySt} (h : offC σ τ) (g : offC τ ρ) : offC σ ρ := ⟨fun i q => (g.1 i q).trans (h.1 i q), g.2.trans h.2⟩
/-- what a step of the model's tape leaves alone -/
def offM (σ τ : ySt) : Prop := (∀ i, i ≠ 92 → τ i = σ i) ∧ ∀ k, (k < 4 ∨ 10 < k) → τ 92 k = σ 92 k
theorem offM_rfl (σ : ySt) : offM σ σ := ⟨fun _ _ => rfl, fun _ _ => rfl⟩
theorem offM_tr {σ τ ρ : ySt} (h : offM σ τ) (g : offM τ ρ) : offM σ ρ := ⟨fun i q => (g.1 i q).trans (h.1 i q), fun k q => (g.2 k q).trans (h.2 k q)⟩
theorem offM_tk {σ : ySt} {s e k v w : Int} : offM σ (tmS σ s e k v w) := by
  refine ⟨fun _ h => tmS_ne h, fun j h => ?_⟩
  unfold tmS
  rw [if_pos rfl, if_neg (by omega), if_neg (by omega), if_neg (by omega), if_neg (by omega), if_neg (by omega)]
theorem TC_go {N n p : Nat} {σ : ySt} {t : Nat → Int} (hN : 100000 ≤ N) (h : TC σ t n p) :
    Ok (cTp_step N σ) (fun τ => offC σ τ ∧ TC τ t n (tkE t n p) ∧ τ 1 6 = σ 1 6 ∧ τ 1 7 = σ 1 7) := by
  refine (TC_step hN h).mono ?_
  rintro τ ⟨s, k, w, v, e, rfl, g⟩
  exact ⟨offC_tk, g, tkS_6, tkS_7⟩
theorem TM_go {N n p : Nat} {σ : ySt} {t : Nat → Int} (hN : 100000 ≤ N) (h : TM σ t n p) :
    Ok (mo_goOn N σ) (fun τ => offM σ τ ∧ TM τ t n (tkE t n p) ∧ τ 92 4 = σ 92 4 ∧ τ 92 5 = σ 92 5) := by
  refine (TM_step hN h).mono ?_
  rintro τ ⟨s, e, k, v, w, rfl, g⟩
  exact ⟨offM_tk, g, tmS_4, tmS_5⟩
/-- a fault, in the class and in the model -/
def FC (σ : ySt) (f w : Int) : Prop := σ 1 6 = f ∧ σ 1 7 = w
def FM (σ : ySt) (f w : Int) : Prop := σ 92 4 = f ∧ σ 92 5 = w
/-- a token that doesn't fit -/
def bdK (t : Nat → Int) (n p : Nat) : Int := if tkK t n p = 1 then 1 else 2
theorem bdK_rg (t : Nat → Int) (n p : Nat) : bdK t n p = 1 ∨ bdK t n p = 2 := by
  unfold bdK
  split <;> omega
theorem cTp_blame_ok {σ : ySt} {t : Nat → Int} {n p : Nat} (h : TC σ t n p) (a : Int) : Ok (cTp_blame a σ) (fun r => r.1 = 0 ∧ offC σ r.2 ∧ FC r.2 a (tkA t n p)) := by
  obtain ⟨_, _, _, _, _, h2, _⟩ := h
  unfold cTp_blame
  simp only [Ok_bnd, Ok_some]
  refine ⟨trivial, ⟨fun i hi => ?_, ?_⟩, ?_, ?_⟩
  · rw [yset_off _ hi, yset_off _ hi]
  · rw [yset_ne (by omega), yset_ne (by omega)]
  · rw [yset_ne (by omega), yset_at]
  · rw [yset_at, yset_ne (by omega), h2]
theorem cTp_refuse_ok {σ : ySt} {t : Nat → Int} {n p : Nat} (h : TC σ t n p) : Ok (cTp_refuse σ) (fun r => r.1 = 0 ∧ offC σ r.2 ∧ FC r.2 (bdK t n p) (tkA t n p)) := by
  have hk : σ 1 3 = tkK t n p := h.2.2.2.2.2.2.1
  unfold cTp_refuse
  refine Ok_jq1 (fun y => y = bdK t n p) (fun y hy => ?_) (fun x hx => ?_)
  · rw [Ok_bndR, hy]
    refine (cTp_blame_ok h _).mono ?_
    rintro ⟨r, τ⟩ ⟨h1, h2, h3⟩
    simp only at h1 h2 h3
    simp only [Ok_chk, Ok_some]
    exact ⟨Or.inl h1, h1, h2, h3⟩
  · rw [hk, Ok_ite]
    refine ⟨fun q => hx 2 ?_, fun q => hx 1 ?_⟩
    · unfold bdK; rw [if_neg q]
    · unfold bdK; rw [if_pos (Classical.not_not.mp q)]
theorem cTp_pass_ok {N n p : Nat} {σ : ySt} {t : Nat → Int} (hN : 100000 ≤ N) (h : TC σ t n p) (a : Int) :
    Ok (cTp_pass N a σ) (fun r => offC σ r.2 ∧ ((tkK t n p = a ∧ r.1 = 1 ∧ TC r.2 t n (tkE t n p) ∧ r.2 1 6 = σ 1 6 ∧ r.2 1 7 = σ 1 7) ∨ (tkK t n p ≠ a ∧ r.1 = 0 ∧ FC r.2 (bdK t n p) (tkA t n p)))) := by
  have hk : σ 1 3 = tkK t n p := h.2.2.2.2.2.2.1
  unfold cTp_pass
  rw [Ok_ite, hk]
  refine ⟨fun q => ?_, fun q => ?_⟩
  · rw [Ok_bndO]
    refine (TC_go hN h).mono ?_
    rintro τ ⟨h1, h2, h3, h4⟩
    rw [Ok_some]
    exact ⟨h1, Or.inl ⟨q, rfl, h2, h3, h4⟩⟩
  · rw [Ok_bndR]
    refine (cTp_refuse_ok h).mono ?_
    rintro ⟨r, τ⟩ ⟨h1, h2, h3⟩
    simp only at h1 h2 h3
    simp only [Ok_chk, Ok_some]
    exact ⟨Or.inl h1, h2, Or.inr ⟨q, h1, h3⟩⟩
theorem cTp_passNumber_ok {N n p : Nat} {σ : ySt} {t : Nat → Int} (hN : 100000 ≤ N) (h : TC σ t n p) (a b : Int) (ha : 0 ≤ a) :
    Ok (cTp_passNumber N a b σ) (fun r => offC σ r.2 ∧ ((tkK t n p = 2 ∧ a ≤ tkV t n p ∧ tkV t n p ≤ b ∧ r.1 = tkV t n p ∧ TC r.2 t n (tkE t n p) ∧ r.2 1 6 = σ 1 6 ∧ r.2 1 7 = σ 1 7) ∨ (tkK t n p = 2 ∧ ¬ (a ≤ tkV t n p ∧ tkV t n p ≤ b) ∧ r.1 = -1 ∧ FC r.2 4 (tkA t n p)) ∨ (tkK t n p ≠ 2 ∧ r.1 = -1 ∧ FC r.2 (bdK t n p) (tkA t n p)))) := by
  have hk : σ 1 3 = tkK t n p := h.2.2.2.2.2.2.1
  have hv : tkK t n p = 2 → σ 1 5 = tkV t n p := h.2.2.2.2.2.2.2.2.2
  unfold cTp_passNumber
  rw [Ok_ite, hk]
  refine ⟨fun q => ?_, fun q => ?_⟩
  · rw [hv q]
    refine Ok_jq (¬ (a ≤ tkV t n p ∧ tkV t n p ≤ b)) (fun q2 => ?_) (fun x hx => ?_)
    · rw [Ok_bndR]
      refine (cTp_blame_ok h 4).mono ?_
      rintro ⟨r, τ⟩ ⟨h1, h2, h3⟩
      simp only at h1 h2 h3
      rw [Ok_some]
      exact ⟨h2, Or.inr (Or.inl ⟨q, q2, rfl, h3⟩)⟩
    · rw [Ok_ite, Ok_ite, Ok_bndO]
      refine ⟨fun q2 => hx (by omega), fun q2 => ⟨fun q3 => ?_, fun q3 => hx (by omega)⟩⟩
      refine (TC_go hN h).mono ?_
      rintro τ ⟨h1, h2, h3, h4⟩
      rw [Ok_some]
      exact ⟨h1, Or.inl ⟨q, by omega, q3, rfl, h2, h3, h4⟩⟩
  · rw [Ok_bndR]
    refine (cTp_refuse_ok h).mono ?_
    rintro ⟨r, τ⟩ ⟨h1, h2, h3⟩
    simp only at h1 h2 h3
    rw [Ok_some]
    exact ⟨h2, Or.inr (Or.inr ⟨q, rfl, h3⟩)⟩
theorem offM_F {σ : ySt} {a b : Int} : offM σ (yset (yset σ 92 4 a) 92 5 b) := by
  refine ⟨fun i hi => ?_, fun k hk => ?_⟩
  · rw [yset_off _ hi, yset_off _ hi]
  · rw [yset_ne (by omega), yset_ne (by omega)]
theorem TM_F {σ : ySt} {t : Nat → Int} {n p : Nat} {a b : Int} (h : TM σ t n p) : TM (yset (yset σ 92 4 a) 92 5 b) t n p := by
  have e : ∀ k, k ≠ 4 → k ≠ 5 → yset (yset σ 92 4 a) 92 5 b 92 k = σ 92 k := by
    intro k h1 h2
    rw [yset_ne (Or.inr h2), yset_ne (Or.inr h1)]
  have e2 : yset (yset σ 92 4 a) 92 5 b 94 = σ 94 := by rw [yset_off _ (by decide), yset_off _ (by decide)]
  unfold TM at h ⊢
  rw [e2, e 3 (by decide) (by decide), e 6 (by decide) (by decide), e 7 (by decide) (by decide), e 8 (by decide) (by decide), e 9 (by decide) (by decide), e 10 (by decide) (by decide)]
  exact h
theorem mo_fails_ok {σ : ySt} (a b : Int) (g : σ 92 4 = 0) : mo_fails a b σ = some (yset (yset σ 92 4 a) 92 5 b) := by
  unfold mo_fails
  rw [if_pos (by omega)]
  rfl
theorem mo_misplaced_ok {σ : ySt} {t : Nat → Int} {n p : Nat} (h : TM σ t n p) (g : σ 92 4 = 0) : mo_misplaced σ = some (yset (yset σ 92 4 (bdK t n p)) 92 5 (tkA t n p)) := by
  have h8 := (TM_tok h).2.1
  have h6 : σ 92 6 = tkA t n p := h.2.2.2.2.2.2.1
  unfold mo_misplaced
  apply Ok_eq
  refine Ok_jq1 (fun y => y = bdK t n p) (fun y hy => ?_) (fun x hx => ?_)
  · rw [mo_fails_ok _ _ g, bndO_s, Ok_some, hy, h6]
  · rw [Ok_ite]
    refine ⟨fun q => hx 2 ?_, fun q => hx 1 ?_⟩
    · unfold bdK; rw [if_neg (fun q2 => q (h8.mpr q2))]
    · unfold bdK; rw [if_pos (h8.mp (Classical.not_not.mp q))]
theorem mo_must_quiet {N : Nat} {σ : ySt} (g : σ 92 4 ≠ 0) (a : Int) : mo_must N a σ = some σ := by
  unfold mo_must
  rw [mo_isGood_eq, bndO_s, if_neg g]
  rfl
theorem mo_numeral_quiet {N : Nat} {σ : ySt} (g : σ 92 4 ≠ 0) (a b : Int) : mo_numeral N a b σ = some (a, σ) := by
  unfold mo_numeral
  rw [mo_isGood_eq, bndO_s, if_neg g]
  rfl
theorem mo_fresh_quiet {N : Nat} {σ : ySt} (g : σ 92 4 ≠ 0) (a : Int) : mo_fresh N a σ = some (0, σ) := by
  unfold mo_fresh
  rw [mo_isGood_eq, bndO_s, if_neg g]
  rfl
theorem mo_told_quiet {N : Nat} {σ : ySt} (g : σ 92 4 ≠ 0) (a : Int) : mo_told N a σ = some (0, σ) := by
  unfold mo_told
  rw [mo_isGood_eq, bndO_s, if_neg g]
  rfl
theorem mo_must_ok {N n p : Nat} {σ : ySt} {t : Nat → Int} (hN : 100000 ≤ N) (h : TM σ t n p) (g : σ 92 4 = 0) (a : Int) :
    Ok (mo_must N a σ) (fun τ => offM σ τ ∧ ((a ≠ 0 ∧ (τ 92 4 = 0 ∧ τ 92 5 = σ 92 5) ∧ TM τ t n (tkE t n p)) ∨ (a = 0 ∧ TM τ t n p ∧ FM τ (bdK t n p) (tkA t n p)))) := by
  unfold mo_must
  rw [mo_isGood_eq, bndO_s, if_pos g, if_pos (by decide), Ok_ite]
  refine ⟨fun q => ?_, fun q => ?_⟩
  · rw [mo_misplaced_ok h g, bndO_s, Ok_some]
    exact ⟨offM_F, Or.inr ⟨q, TM_F h, by rw [yset_ne (by omega), yset_at], yset_at⟩⟩
  · rw [Ok_bndO]
    refine (TM_go hN h).mono ?_
    rintro τ ⟨h1, h2, h3, h4⟩
    rw [Ok_some]
    exact ⟨h1, Or.inl ⟨q, ⟨by rw [h3]; exact g, h4⟩, h2⟩⟩
theorem mo_numeral_ok {N n p : Nat} {σ : ySt} {t : Nat → Int} (hN : 100000 ≤ N) (h : TM σ t n p) (g : σ 92 4 = 0) (a b : Int) :
    Ok (mo_numeral N a b σ) (fun r => offM σ r.2 ∧ ((tkK t n p = 2 ∧ a ≤ tkV t n p ∧ tkV t n p ≤ b ∧ r.1 = tkV t n p ∧ TM r.2 t n (tkE t n p) ∧ r.2 92 4 = 0 ∧ r.2 92 5 = σ 92 5) ∨ (tkK t n p = 2 ∧ ¬ (a ≤ tkV t n p ∧ tkV t n p ≤ b) ∧ r.1 = a ∧ TM r.2 t n p ∧ FM r.2 4 (tkA t n p)) ∨ (tkK t n p ≠ 2 ∧ r.1 = a ∧ TM r.2 t n p ∧ FM r.2 (bdK t n p) (tkA t n p)))) := by
  have hk := (TM_tok h).2.2.2.1
  have hv : tkK t n p = 2 → σ 92 9 = tkV t n p := h.2.2.2.2.2.2.2.2.2.2
  have h6 : σ 92 6 = tkA t n p := h.2.2.2.2.2.2.1
  have hbd := bdK_rg t n p
  unfold mo_numeral
  rw [mo_isGood_eq, bndO_s, if_pos g, if_pos (by decide)]
  refine Ok_jq1 (fun ρ => (ρ = σ ∧ tkK t n p = 2) ∨ (tkK t n p ≠ 2 ∧ ρ = yset (yset σ 92 4 (bdK t n p)) 92 5 (tkA t n p))) (fun ρ hρ => ?_) (fun x hx => ?_)
  · rcases hρ with ⟨rfl, q⟩ | ⟨q, rfl⟩
    · rw [mo_isGood_eq, bndO_s, if_pos g, hv q]
      refine Ok_jq1 (fun ρ' => (ρ' = ρ ∧ a ≤ tkV t n p ∧ tkV t n p ≤ b) ∨ (¬ (a ≤ tkV t n p ∧ tkV t n p ≤ b) ∧ ρ' = yset (yset ρ 92 4 4) 92 5 (tkA t n p))) (fun ρ' hρ' => ?_) (fun x hx => ?_)
      · rcases hρ' with ⟨rfl, q2⟩ | ⟨q2, rfl⟩
        · simp only [mo_isGood_eq, bndO_s, Ok_bnd, g, Int.reduceEq, ↓reduceIte, Ok_bndO]
          refine (TM_go hN h).mono ?_
          rintro τ ⟨h1, h2, h3, h4⟩
          rw [h3, if_pos g, if_neg (by decide), Ok_some, hv q]
          exact ⟨h1, Or.inl ⟨q, q2.1, q2.2, rfl, h2, h3.trans g, h4⟩⟩
        · have e : yset (yset ρ 92 4 4) 92 5 (tkA t n p) 92 4 = 4 := by rw [yset_ne (by omega), yset_at]
          simp only [mo_isGood_eq, bndO_s, Ok_bnd, e, Int.reduceEq, ↓reduceIte, Ok_some]
          exact ⟨offM_F, Or.inr (Or.inl ⟨q, q2, trivial, TM_F h, e, yset_at⟩)⟩
      · rw [if_neg (by decide)]
        refine Ok_jq (¬ (a ≤ tkV t n p ∧ tkV t n p ≤ b)) (fun q2 => ?_) (fun y hy => ?_)
        · rw [mo_fails_ok _ _ g, bndO_s, h6]
          exact hx _ (Or.inr ⟨q2, rfl⟩)
        · rw [Ok_ite, Ok_ite]
          exact ⟨fun q2 => hy (by omega), fun q2 => ⟨fun q3 => hx _ (Or.inl ⟨rfl, by omega, q3⟩), fun q3 => hy (by omega)⟩⟩
    · have e : yset (yset σ 92 4 (bdK t n p)) 92 5 (tkA t n p) 92 4 = bdK t n p := by rw [yset_ne (by omega), yset_at]
      have e0 : ¬ bdK t n p = 0 := by omega
      simp only [mo_isGood_eq, bndO_s, Ok_bnd, e, e0, ↓reduceIte, Ok_some]
      exact ⟨offM_F, Or.inr (Or.inr ⟨q, trivial, TM_F h, e, yset_at⟩)⟩
  · rw [Ok_ite]
    refine ⟨fun q => hx _ (Or.inl ⟨rfl, hk.mp q⟩), fun q => ?_⟩
    rw [mo_misplaced_ok h g, bndO_s]
    exact hx _ (Or.inr ⟨fun q2 => q (hk.mpr q2), rfl⟩)
