/-! one token, seen by both -/
theorem rn_congr {q : Int → Bool} {t t' : Nat → Int} {n : Nat} (h : ∀ j, j < n → t j = t' j) (p : Nat) : rn q t n p = rn q t' n p := by
  have key : ∀ f p, p + f ≤ n → rnf q t f p = rnf q t' f p := by
    intro f
    induction f with
    | zero => intro p _; rfl
    | succ f ih =>
      intro p hp
      simp only [rnf]
      rw [h p (by omega), ih (p + 1) (by omega)]
  unfold rn
  rcases Nat.lt_or_ge n p with hp | hp
  · rw [show n - p = 0 by omega]
    rfl
  · exact key _ _ (by omega)
theorem tw_congr {t t' : Nat → Int} {n p e : Nat} (h : ∀ j, j < n → t j = t' j) (he : e ≤ n) : tw t p e = tw t' p e := by
  unfold tw
  apply List.map_congr_left
  intro j hj
  rw [List.mem_range] at hj
  exact h _ (by omega)
theorem tkA_congr {t t' : Nat → Int} {n : Nat} (h : ∀ j, j < n → t j = t' j) (p : Nat) : tkA t n p = tkA t' n p := rn_congr h p
theorem tkE_congr {t t' : Nat → Int} {n : Nat} (h : ∀ j, j < n → t j = t' j) (p : Nat) : tkE t n p = tkE t' n p := by
  unfold tkE
  rw [tkA_congr h, rn_congr h, rn_congr h]
  by_cases q : tkA t' n p < n
  · rw [h _ q]
  · rw [if_neg q, if_neg q]
theorem numOk_congr {t t' : Nat → Int} {n : Nat} (h : ∀ j, j < n → t j = t' j) (p e : Nat) : numOk t n p e = numOk t' n p e := by
  unfold numOk
  by_cases q : e < n
  · rw [h _ q]
  · simp [q]
theorem tmK_congr {t t' : Nat → Int} {n : Nat} (h : ∀ j, j < n → t j = t' j) {p : Nat} (hp : p ≤ n) : tmK t n p = tmK t' n p := by
  unfold tmK
  rw [tkA_congr h, tkE_congr h, numOk_congr h, tw_congr h (tkE_rg hp).2]
  by_cases q : tkA t' n p < n
  · rw [h _ q]
  · rw [if_neg q, if_neg q]
/-- the word of a token -/
def tkW (t : Nat → Int) (n p : Nat) : List Int := tw t (tkA t n p) (tkE t n p)
theorem yIx1_rg {c : Int} (h : ¬ yIx1 c < 0) : 40 ≤ c ∧ c < 63 := by
  unfold yIx1 at h
  repeat' split at h
  all_goals first | omega | skip
theorem tk_word {t : Nat → Int} {n p : Nat} (h : tkK t n p = 3 ∨ 100 ≤ tkK t n p) : tkA t n p < n ∧ isL (t (tkA t n p)) = true ∧ tkE t n p - tkA t n p ≤ 8 ∧ kdW (tkW t n p) = tkK t n p := by
  unfold tkK at h ⊢
  by_cases q1 : tkA t n p < n
  · simp only [if_pos q1] at h ⊢
    by_cases q2 : isL (t (tkA t n p)) = true
    · simp only [if_pos q2] at h ⊢
      by_cases q3 : tkE t n p - tkA t n p ≤ 8
      · simp only [if_pos q3]
        exact ⟨q1, q2, q3, rfl⟩
      · simp only [if_neg q3] at h
        omega
    · simp only [if_neg q2] at h
      by_cases q3 : isD (t (tkA t n p)) = true
      · simp only [if_pos q3] at h
        split at h <;> omega
      · simp only [if_neg q3] at h
        by_cases q4 : yIx1 (t (tkA t n p)) < 0
        · simp only [if_pos q4] at h; omega
        · simp only [if_neg q4] at h
          have := yIx1_rg q4
          omega
  · simp only [if_neg q1] at h
    omega
theorem tk_num {t : Nat → Int} {n p : Nat} (h : tkK t n p = 2) : tkA t n p < n ∧ ¬ isL (t (tkA t n p)) = true ∧ isD (t (tkA t n p)) = true ∧ tkE t n p - tkA t n p ≤ 4 := by
  unfold tkK at h
  by_cases q1 : tkA t n p < n
  · simp only [if_pos q1] at h
    by_cases q2 : isL (t (tkA t n p)) = true
    · simp only [if_pos q2] at h
      have := kdW_rg (tw t (tkA t n p) (tkE t n p))
      split at h <;> omega
    · simp only [if_neg q2] at h
      by_cases q3 : isD (t (tkA t n p)) = true
      · simp only [if_pos q3] at h
        by_cases q4 : numOk t n (tkA t n p) (tkE t n p) = true
        · exact ⟨q1, q2, q3, (numOk_iff.mp q4).1⟩
        · simp only [if_neg q4] at h; omega
      · simp only [if_neg q3] at h
        by_cases q4 : yIx1 (t (tkA t n p)) < 0
        · simp only [if_pos q4] at h; omega
        · simp only [if_neg q4] at h
          have := yIx1_rg q4
          omega
  · simp only [if_neg q1] at h
    omega
theorem tk_sign {t : Nat → Int} {n p : Nat} (h : 4 ≤ tkK t n p ∧ tkK t n p < 100) : tkA t n p < n ∧ t (tkA t n p) = tkK t n p := by
  unfold tkK at h ⊢
  by_cases q1 : tkA t n p < n
  · simp only [if_pos q1] at h ⊢
    refine ⟨q1, ?_⟩
    by_cases q2 : isL (t (tkA t n p)) = true
    · simp only [if_pos q2] at h
      have := kdW_rg (tw t (tkA t n p) (tkE t n p))
      split at h <;> omega
    · simp only [if_neg q2] at h ⊢
      by_cases q3 : isD (t (tkA t n p)) = true
      · simp only [if_pos q3] at h
        split at h <;> omega
      · simp only [if_neg q3] at h ⊢
        by_cases q4 : yIx1 (t (tkA t n p)) < 0
        · simp only [if_pos q4] at h; omega
        · simp only [if_neg q4]
  · simp only [if_neg q1] at h
    omega
theorem tkK_rg (t : Nat → Int) (n p : Nat) : 0 ≤ tkK t n p ∧ tkK t n p < 119 := by
  unfold tkK
  have := kdW_rg (tw t (tkA t n p) (tkE t n p))
  repeat' split
  all_goals first
    | omega
    | (have := yIx1_rg (by assumption); omega)
theorem tmK_eq (t : Nat → Int) (n p : Nat) : tmK t n p = if tkK t n p = 0 then 0 else if tkK t n p = 1 then 1 else if tkK t n p = 2 then 4 else if tkK t n p = 3 then 2 else if 100 ≤ tkK t n p then 3 else 5 := by
  unfold tmK tkK
  have := kdW_rg (tw t (tkA t n p) (tkE t n p))
  by_cases q1 : tkA t n p < n
  · simp only [if_pos q1]
    by_cases q2 : isL (t (tkA t n p)) = true
    · simp only [if_pos q2]
      by_cases q3 : tkE t n p - tkA t n p ≤ 8
      · simp only [if_pos q3]
        by_cases q4 : kdW (tw t (tkA t n p) (tkE t n p)) = 3
        · simp only [q4]; rfl
        · rw [if_neg q4, if_neg (by omega), if_neg (by omega), if_neg (by omega), if_neg q4, if_pos (by omega)]
      · simp only [if_neg q3]; rfl
    · simp only [if_neg q2]
      by_cases q3 : isD (t (tkA t n p)) = true
      · simp only [if_pos q3]
        split <;> rfl
      · simp only [if_neg q3]
        by_cases q4 : yIx1 (t (tkA t n p)) < 0
        · simp only [if_pos q4]; rfl
        · simp only [if_neg q4]
          have := yIx1_rg q4
          rw [if_neg (by omega), if_neg (by omega), if_neg (by omega), if_neg (by omega), if_neg (by omega)]
  · simp only [if_neg q1]; rfl
theorem tkW_wd {t : Nat → Int} {n p : Nat} (h : tkK t n p = 3 ∨ 100 ≤ tkK t n p) : (∀ c ∈ tkW t n p, 97 ≤ c ∧ c ≤ 122) ∧ (tkW t n p).length ≤ 8 := by
  obtain ⟨h1, h2, h3, _⟩ := tk_word h
  have e : tkE t n p = rn isL t n (tkA t n p) := by unfold tkE; rw [if_pos h1, if_pos h2]
  unfold tkW
  refine ⟨?_, by rw [tw_len]; exact h3⟩
  rw [e]
  exact tw_letters
/-- the number of a token -/
def tkV (t : Nat → Int) (n p : Nat) : Int := decv (tkW t n p)
theorem tkV_rg {t : Nat → Int} {n p : Nat} (h : tkK t n p = 2) : 0 ≤ tkV t n p ∧ tkV t n p ≤ 9999 := by
  obtain ⟨h1, h2, h3, h4⟩ := tk_num h
  have e : tkE t n p = rn isD t n (tkA t n p) := by unfold tkE; rw [if_pos h1, if_neg h2, if_pos h3]
  have hd : ∀ c ∈ tkW t n p, 48 ≤ c ∧ c ≤ 57 := by
    unfold tkW
    rw [e]
    exact tw_digits
  have h5 := decv_rg _ hd
  have h6 := Int.ofNat_le.mpr (Nat.pow_le_pow_right (n := 10) (by decide) (show (tkW t n p).length ≤ 4 by unfold tkW; rw [tw_len]; omega))
  rw [Int.natCast_pow, Int.natCast_pow] at h6
  have h7 : (((10 : Nat) : Int)) ^ 4 = 10000 := by decide
  have h8 : (((10 : Nat) : Int)) = 10 := rfl
  rw [h7, h8] at h6
  unfold tkV
  omega
/-- the class's tape stands at the token behind p -/
def TC (σ : ySt) (t : Nat → Int) (n p : Nat) : Prop := n ≤ 1600 ∧ p ≤ n ∧ (∀ j, -128 ≤ t j ∧ t j < 128) ∧ σ 2 = t ∧ σ 1 1 = n ∧ σ 1 2 = tkA t n p ∧ σ 1 3 = tkK t n p ∧ σ 1 8 = tkE t n p ∧ (tkK t n p = 3 → σ 1 4 = enc5 (tkW t n p)) ∧ (tkK t n p = 2 → σ 1 5 = tkV t n p)
/-- and the model's -/
def TM (σ : ySt) (t : Nat → Int) (n p : Nat) : Prop := n ≤ 1600 ∧ p ≤ n ∧ (∀ j, -128 ≤ t j ∧ t j < 128) ∧ (∀ j, -128 ≤ σ 94 j ∧ σ 94 j < 128) ∧ (∀ j, j < n → σ 94 j = t j) ∧ σ 92 3 = n ∧ σ 92 6 = tkA t n p ∧ σ 92 8 = tmK t n p ∧ σ 92 7 = tkE t n p ∧ (tkK t n p = 3 ∨ 100 ≤ tkK t n p → σ 92 10 = enc8 (tkW t n p)) ∧ (tkK t n p = 2 → σ 92 9 = tkV t n p)
theorem TC_first {N n p : Nat} {σ : ySt} {t : Nat → Int} (hN : 100000 ≤ N) (h1 : n ≤ 1600) (h2 : p ≤ n) (h3 : ∀ j, -128 ≤ t j ∧ t j < 128) (h4 : σ 2 = t) (h5 : σ 1 1 = n) (h6 : σ 1 8 = p) :
    Ok (cTp_step N σ) (fun τ => ∃ s k w v e : Int, τ = tkS σ s k w v e ∧ TC τ t n p) := by
  refine (cTp_step_ok hN h5 h1 h6 h2 (by rw [h4]; exact h3)).mono ?_
  rintro τ ⟨w, v, rfl, hw, hv⟩
  rw [h4] at hw hv ⊢
  refine ⟨_, _, _, _, _, rfl, h1, h2, h3, by rw [tkS_t]; exact h4, by rw [tkS_1]; exact h5, tkS_2, tkS_3, tkS_8, fun q => ?_, fun q => ?_⟩
  · rw [tkS_4]
    have g := tk_word (Or.inl q)
    have g2 := tkW_wd (Or.inl q)
    rw [hw g.1 g.2.1]
    exact cw5_eq _ g2.1 (by unfold tkW at g2; omega)
  · rw [tkS_5]
    have g := tk_num q
    rw [hv g.1 g.2.2.1]
    have e : tkE t n p = rn isD t n (tkA t n p) := by unfold tkE; rw [if_pos g.1, if_neg g.2.1, if_pos g.2.2.1]
    refine cdv_eq _ ?_ (by rw [tw_len]; omega)
    rw [e]
    exact tw_digits
theorem TC_step {N n p : Nat} {σ : ySt} {t : Nat → Int} (hN : 100000 ≤ N) (h : TC σ t n p) :
    Ok (cTp_step N σ) (fun τ => ∃ s k w v e : Int, τ = tkS σ s k w v e ∧ TC τ t n (tkE t n p)) := by
  obtain ⟨h1, h2, h3, h4, h5, _, _, h8, _, _⟩ := h
  exact TC_first hN h1 (tkE_rg h2).2 h3 h4 h5 h8
theorem TM_first {N n p : Nat} {σ : ySt} {t : Nat → Int} (hN : 100000 ≤ N) (h1 : n ≤ 1600) (h2 : p ≤ n) (h3 : ∀ j, -128 ≤ t j ∧ t j < 128) (h4 : ∀ j, -128 ≤ σ 94 j ∧ σ 94 j < 128) (h4' : ∀ j, j < n → σ 94 j = t j) (h5 : σ 92 3 = n) (h6 : σ 92 7 = p) :
    Ok (mo_goOn N σ) (fun τ => ∃ s e k v w : Int, τ = tmS σ s e k v w ∧ TM τ t n p) := by
  refine (mo_goOn_ok hN h5 h1 h6 h2 h4).mono ?_
  rintro τ ⟨v, w, rfl, hw, hv⟩
  rw [tkA_congr h4', tkE_congr h4', tmK_congr h4' h2] at *
  refine ⟨_, _, _, _, _, rfl, h1, h2, h3, by rw [tmS_t]; exact h4, by rw [tmS_t]; exact h4', by rw [tmS_3]; exact h5, tmS_6, tmS_8, tmS_7, fun q => ?_, fun q => ?_⟩
  · rw [tmS_10]
    have g := tk_word q
    rw [hw g.1 (by rw [h4' _ g.1]; exact g.2.1), Nat.min_eq_left (by omega), tw_congr h4' (tkE_rg h2).2]
    rfl
  · rw [tmS_9]
    have g := tk_num q
    rw [hv g.1 (by rw [h4' _ g.1]; exact g.2.2.1), Nat.min_eq_left (by omega), tw_congr h4' (tkE_rg h2).2]
    rfl
theorem TM_step {N n p : Nat} {σ : ySt} {t : Nat → Int} (hN : 100000 ≤ N) (h : TM σ t n p) :
    Ok (mo_goOn N σ) (fun τ => ∃ s e k v w : Int, τ = tmS σ s e k v w ∧ TM τ t n (tkE t n p)) := by
  obtain ⟨h1, h2, h3, h4, h4', h5, _, _, h8, _, _⟩ := h
  exact TM_first hN h1 (tkE_rg h2).2 h3 h4 h4' h5 h8
