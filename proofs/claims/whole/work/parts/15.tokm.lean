/-! the model's token machine -/
def tmS (σ : ySt) (s e k v w : Int) : ySt := fun i j => if i = 92 then (if j = 6 then s else if j = 7 then e else if j = 8 then k else if j = 9 then v else if j = 10 then w else σ i j) else σ i j
theorem tmS_6 {σ : ySt} {s e k v w : Int} : tmS σ s e k v w 92 6 = s := by simp [tmS]
theorem tmS_7 {σ : ySt} {s e k v w : Int} : tmS σ s e k v w 92 7 = e := by simp [tmS]
theorem tmS_8 {σ : ySt} {s e k v w : Int} : tmS σ s e k v w 92 8 = k := by simp [tmS]
theorem tmS_9 {σ : ySt} {s e k v w : Int} : tmS σ s e k v w 92 9 = v := by simp [tmS]
theorem tmS_10 {σ : ySt} {s e k v w : Int} : tmS σ s e k v w 92 10 = w := by simp [tmS]
theorem tmS_3 {σ : ySt} {s e k v w : Int} : tmS σ s e k v w 92 3 = σ 92 3 := by simp [tmS]
theorem tmS_4 {σ : ySt} {s e k v w : Int} : tmS σ s e k v w 92 4 = σ 92 4 := by simp [tmS]
theorem tmS_5 {σ : ySt} {s e k v w : Int} : tmS σ s e k v w 92 5 = σ 92 5 := by simp [tmS]
theorem tmS_ne {σ : ySt} {s e k v w : Int} {i : Nat} (h : i ≠ 92) : tmS σ s e k v w i = σ i := by
  funext j
  simp [tmS, h]
theorem tmS_t {σ : ySt} {s e k v w : Int} : tmS σ s e k v w 94 = σ 94 := tmS_ne (by decide)
theorem tmS_s6 {σ : ySt} {s e k v w z : Int} : yset (tmS σ s e k v w) 92 6 z = tmS σ z e k v w := by
  funext i j
  by_cases h1 : i = 92 <;> by_cases h2 : j = 6 <;> simp [yset, tmS, h1, h2]
theorem tmS_s7 {σ : ySt} {s e k v w z : Int} : yset (tmS σ s e k v w) 92 7 z = tmS σ s z k v w := by
  funext i j
  by_cases h1 : i = 92 <;> by_cases h2 : j = 7 <;> simp [yset, tmS, h1, h2]
theorem tmS_s8 {σ : ySt} {s e k v w z : Int} : yset (tmS σ s e k v w) 92 8 z = tmS σ s e z v w := by
  funext i j
  by_cases h1 : i = 92 <;> by_cases h2 : j = 8 <;> simp [yset, tmS, h1, h2]
theorem tmS_s9 {σ : ySt} {s e k v w z : Int} : yset (tmS σ s e k v w) 92 9 z = tmS σ s e k z w := by
  funext i j
  by_cases h1 : i = 92 <;> by_cases h2 : j = 9 <;> simp [yset, tmS, h1, h2]
theorem tmS_s10 {σ : ySt} {s e k v w z : Int} : yset (tmS σ s e k v w) 92 10 z = tmS σ s e k v z := by
  funext i j
  by_cases h1 : i = 92 <;> by_cases h2 : j = 10 <;> simp [yset, tmS, h1, h2]
theorem tmS_id {σ : ySt} : tmS σ (σ 92 6) (σ 92 7) (σ 92 8) (σ 92 9) (σ 92 10) = σ := by
  funext i j
  unfold tmS
  split
  next h =>
    subst h
    repeat' split
    all_goals (first | (subst_vars; rfl) | rfl)
  · rfl
theorem tmS_tmS {σ : ySt} {s e k v w s' e' k' v' w' : Int} : tmS (tmS σ s e k v w) s' e' k' v' w' = tmS σ s' e' k' v' w' := by
  funext i j
  unfold tmS
  repeat' split
  all_goals rfl
theorem mo_isLetter_eq (a : Int) (σ : ySt) : mo_isLetter a σ = some (if isL a = true then 1 else 0) := by
  unfold mo_isLetter
  simp only [isL_iff]
  repeat' split
  all_goals (first | rfl | (exfalso; omega))
theorem mo_isDigit_eq (a : Int) (σ : ySt) : mo_isDigit a σ = some (if isD a = true then 1 else 0) := by
  unfold mo_isDigit
  simp only [isD_iff]
  repeat' split
  all_goals (first | rfl | (exfalso; omega))
theorem mo_isSign_eq (a : Int) (σ : ySt) : mo_isSign a σ = some (if yIx1 a < 0 then 0 else 1) := by
  unfold mo_isSign yIx1
  repeat' split
  all_goals (first | rfl | (exfalso; omega))
/-- the sign at a place, as the model takes it -/
def sg (t : Nat → Int) (n j : Nat) : Int := if n ≤ j then 0 else t j % 256
theorem mo_sign_eq {n j : Nat} {σ : ySt} (h : σ 92 3 = n) (hn : n ≤ 1600) : mo_sign j σ = some (sg (σ 94) n j) := by
  unfold mo_sign sg
  rw [h]
  by_cases q : n ≤ j
  · rw [if_pos (by omega), if_pos q]
  · rw [if_neg (by omega), if_neg q]
    unfold chkA
    rw [if_pos (by omega), b32and_255]
    rfl
theorem sg_L {t : Nat → Int} {n j : Nat} (hb : -128 ≤ t j ∧ t j < 128) : isL (sg t n j) = true ↔ j < n ∧ isL (t j) = true := by
  unfold sg
  rw [isL_iff, isL_iff]
  split <;> omega
theorem sg_D {t : Nat → Int} {n j : Nat} (hb : -128 ≤ t j ∧ t j < 128) : isD (sg t n j) = true ↔ j < n ∧ isD (t j) = true := by
  unfold sg
  rw [isD_iff, isD_iff]
  split <;> omega
theorem sg_B {t : Nat → Int} {n j : Nat} (hb : -128 ≤ t j ∧ t j < 128) : (sg t n j = 32 ∨ sg t n j = 10) ↔ j < n ∧ isB (t j) = true := by
  unfold sg
  rw [isB_iff]
  split <;> omega
theorem sg_pos {t : Nat → Int} {n j : Nat} (hb : -128 ≤ t j ∧ t j < 128) (h : j < n) (hp : 0 ≤ t j) : sg t n j = t j := by
  unfold sg
  rw [if_neg (by omega)]
  omega
theorem sg_ix {t : Nat → Int} {n j : Nat} (hb : -128 ≤ t j ∧ t j < 128) (h : j < n) : yIx1 (sg t n j) = yIx1 (t j) := by
  have h1 := (sgn_byte hb).1
  rw [b32and_255, b32i2c_id (by omega)] at h1
  unfold sg
  rw [if_neg (by omega), h1]
theorem mo_isKept_eq {w : List Int} {σ : ySt} (hw : ∀ c ∈ w, 97 ≤ c ∧ c ≤ 122) : mo_isKept (enc8 w) σ = some (if kdW w = 3 then 0 else 1) := by
  apply Ok_eq
  unfold mo_isKept
  simp only [blcmp_0, ← kd_place hw, ← kd_empty hw, ← kd_way hw, ← kd_minutes hw, ← kd_person hw, ← kd_at_ hw, ← kd_hire hw, ← kd_dog hw, ← kd_errand hw, ← kd_stroke hw, ← kd_worth hw, ← kd_hour hw, ← kd_strokes hw, ← kd_rule hw, ← kd_or_ hw, ← kd_and_ hw, ← kd_not_ hw, ← kd_here hw, ← kd_dogs hw]
  have hk := kdW_rg w
  generalize kdW w = K at hk ⊢
  refine Ok_jp1 (fun y => (y = 0 ∧ ¬ (100 ≤ K ∧ K < 110)) ∨ (y = 1 ∧ 100 ≤ K ∧ K < 110)) (P := fun r => r = if K = 3 then 0 else 1) (fun y hy => ?_) (fun x hx => ?_)
  · simp only [Ok_ite, Ok_some]
    by_cases h3 : K = 3
    · rw [if_pos h3]
      repeat' first | apply And.intro | intro _
      all_goals first | rfl | omega
    · rw [if_neg h3]
      repeat' first | apply And.intro | intro _
      all_goals first | rfl | omega
  · simp only [Ok_ite]
    repeat' first | apply And.intro | intro _
    all_goals exact hx _ (by omega)
