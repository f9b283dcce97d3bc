/-! the model's token machine -/
def tmS (σ : ySt) (s e k v w : Int) : ySt := fun i j => if i = 92 then (if j = 6 then s else if j = 7 then e else if j = 8 then k else if j = 9 then v else if j = 10 then w else σ i j) else σ i j
theorem tmS_6 {σ : ySt} {s e k v w : Int} : tmS σ s e k v w 92 6 = s := by simp [tmS]
theorem tmS_7 {σ : ySt} {s e k v w : Int} : tmS σ s e k v w 92 7 = e := by simp [tmS]
theorem tmS_8 {σ : ySt} {s e k v w : Int} : tmS σ s e k v w 92 8 = k := by simp [tmS]
theorem tmS_9 {σ : ySt} {s e k v w : Int} : tmS σ s e k v w 92 9 = v := by simp [tmS]
theorem tmS_10 {σ : ySt} {s e k v w : Int} : tmS σ s e k v w 92 10 = w := by simp [tmS]
theorem tmS_3 {σ : ySt} {s e k v w : Int} : tmS σ s e k v w 92 3 = σ 92 3 := by simp [tmS]
theorem tmS_4 {σ : ySt} {s e k v w : Int} : tmS σ s e k v w 92 4 = σ 92 4 := by simp [tmS]
theorem tmS_5 {σ : ySt} {s e k v w : Int} : tmS σ s e k v w 92 5 = σ 92 5 := by simp [tmS]
theorem tmS_ne {σ : ySt} {s e k v w : Int} {i : Nat} (h : i ≠ 92) : tmS σ s e k v w i = σ i := by
  funext j
  simp [tmS, h]
theorem tmS_t {σ : ySt} {s e k v w : Int} : tmS σ s e k v w 94 = σ 94 := tmS_ne (by decide)
theorem tmS_s6 {σ : ySt} {s e k v w z : Int} : yset (tmS σ s e k v w) 92 6 z = tmS σ z e k v w := by
  funext i j
  by_cases h1 : i = 92 <;> by_cases h2 : j = 6 <;> simp [yset, tmS, h1, h2]
theorem tmS_s7 {σ : ySt} {s e k v w z : Int} : yset (tmS σ s e k v w) 92 7 z = tmS σ s z k v w := by
  funext i j
  by_cases h1 : i = 92 <;> by_cases h2 : j = 7 <;> simp [yset, tmS, h1, h2]
theorem tmS_s8 {σ : ySt} {s e k v w z : Int} : yset (tmS σ s e k v w) 92 8 z = tmS σ s e z v w := by
  funext i j
  by_cases h1 : i = 92 <;> by_cases h2 : j = 8 <;> simp [yset, tmS, h1, h2]
theorem tmS_s9 {σ : ySt} {s e k v w z : Int} : yset (tmS σ s e k v w) 92 9 z = tmS σ s e k z w := by
  funext i j
  by_cases h1 : i = 92 <;> by_cases h2 : j = 9 <;> simp [yset, tmS, h1, h2]
theorem tmS_s10 {σ : ySt} {s e k v w z : Int} : yset (tmS σ s e k v w) 92 10 z = tmS σ s e k v z := by
  funext i j
  by_cases h1 : i = 92 <;> by_cases h2 : j = 10 <;> simp [yset, tmS, h1, h2]
theorem tmS_id {σ : ySt} : tmS σ (σ 92 6) (σ 92 7) (σ 92 8) (σ 92 9) (σ 92 10) = σ := by
  funext i j
  unfold tmS
  split
  next h =>
    subst h
    repeat' split
    all_goals (first | (subst_vars; rfl) | rfl)
  · rfl
theorem tmS_tmS {σ : ySt} {s e k v w s' e' k' v' w' : Int} : tmS (tmS σ s e k v w) s' e' k' v' w' = tmS σ s' e' k' v' w' := by
  funext i j
  unfold tmS
  repeat' split
  all_goals rfl
theorem mo_isLetter_eq (a : Int) (σ : ySt) : mo_isLetter a σ = some (if isL a = true then 1 else 0) := by
  unfold mo_isLetter
  simp only [isL_iff]
  repeat' split
  all_goals (first | rfl | (exfalso; omega))
theorem mo_isDigit_eq (a : Int) (σ : ySt) : mo_isDigit a σ = some (if isD a = true then 1 else 0) := by
  unfold mo_isDigit
  simp only [isD_iff]
  repeat' split
  all_goals (first | rfl | (exfalso; omega))
theorem mo_isSign_eq (a : Int) (σ : ySt) : mo_isSign a σ = some (if yIx1 a < 0 then 0 else 1) := by
  unfold mo_isSign yIx1
  repeat' split
  all_goals (first | rfl | (exfalso; omega))
/-- the sign at a place, as the model takes it -/
def sg (t : Nat → Int) (n j : Nat) : Int := if n ≤ j then 0 else t j % 256
theorem mo_sign_eq {n j : Nat} {σ : ySt} (h : σ 92 3 = n) (hn : n ≤ 1600) : mo_sign j σ = some (sg (σ 94) n j) := by
  unfold mo_sign sg
  rw [h]
  by_cases q : n ≤ j
  · rw [if_pos (by omega), if_pos q]
  · rw [if_neg (by omega), if_neg q]
    unfold chkA
    rw [if_pos (by omega), b32and_255]
    rfl
theorem sg_L {t : Nat → Int} {n j : Nat} (hb : -128 ≤ t j ∧ t j < 128) : isL (sg t n j) = true ↔ j < n ∧ isL (t j) = true := by
  unfold sg
  rw [isL_iff, isL_iff]
  split <;> omega
theorem sg_D {t : Nat → Int} {n j : Nat} (hb : -128 ≤ t j ∧ t j < 128) : isD (sg t n j) = true ↔ j < n ∧ isD (t j) = true := by
  unfold sg
  rw [isD_iff, isD_iff]
  split <;> omega
theorem sg_B {t : Nat → Int} {n j : Nat} (hb : -128 ≤ t j ∧ t j < 128) : (sg t n j = 32 ∨ sg t n j = 10) ↔ j < n ∧ isB (t j) = true := by
  unfold sg
  rw [isB_iff]
  split <;> omega
theorem sg_pos {t : Nat → Int} {n j : Nat} (hb : -128 ≤ t j ∧ t j < 128) (h : j < n) (hp : 0 ≤ t j) : sg t n j = t j := by
  unfold sg
  rw [if_neg (by omega)]
  omega
theorem sg_ix {t : Nat → Int} {n j : Nat} (hb : -128 ≤ t j ∧ t j < 128) (h : j < n) : yIx1 (sg t n j) = yIx1 (t j) := by
  have h1 := (sgn_byte hb).1
  rw [b32and_255, b32i2c_id (by omega)] at h1
  unfold sg
  rw [if_neg (by omega), h1]
theorem mo_isKept_eq {w : List Int} {σ : ySt} (hw : ∀ c ∈ w, 97 ≤ c ∧ c ≤ 122) : mo_isKept (enc8 w) σ = some (if kdW w = 3 then 0 else 1) := by
  apply Ok_eq
  unfold mo_isKept
  simp only [blcmp_0, ← kd_place hw, ← kd_empty hw, ← kd_way hw, ← kd_minutes hw, ← kd_person hw, ← kd_at_ hw, ← kd_hire hw, ← kd_dog hw, ← kd_errand hw, ← kd_stroke hw, ← kd_worth hw, ← kd_hour hw, ← kd_strokes hw, ← kd_rule hw, ← kd_or_ hw, ← kd_and_ hw, ← kd_not_ hw, ← kd_here hw, ← kd_dogs hw]
  have hk := kdW_rg w
  generalize kdW w = K at hk ⊢
  refine Ok_jp1 (fun y => (y = 0 ∧ ¬ (100 ≤ K ∧ K < 110)) ∨ (y = 1 ∧ 100 ≤ K ∧ K < 110)) (P := fun r => r = if K = 3 then 0 else 1) (fun y hy => ?_) (fun x hx => ?_)
  · simp only [Ok_ite, Ok_some]
    by_cases h3 : K = 3
    · rw [if_pos h3]
      repeat' first | apply And.intro | intro _
      all_goals first | rfl | omega
    · rw [if_neg h3]
      repeat' first | apply And.intro | intro _
      all_goals first | rfl | omega
  · simp only [Ok_ite]
    repeat' first | apply And.intro | intro _
    all_goals exact hx _ (by omega)
theorem enc8_half : ∀ (w : List Int), (∀ c ∈ w, 97 ≤ c ∧ c ≤ 122) → 0 ≤ enc8 w ∧ 2 * enc8 w < 256 ^ w.length := by
  intro w
  induction w using revRecOn with
  | nil => intro _; exact ⟨by decide, by decide⟩
  | append_singleton w c ih =>
    intro h
    have h1 := ih (fun x hx => h x (List.mem_append_left _ hx))
    have h2 := h c (List.mem_append_right _ (List.mem_singleton.mpr rfl))
    rw [enc8_snoc, List.length_append, List.length_singleton, Int.pow_succ]
    omega
theorem enc8_cat {w : List Int} {c : Int} (hw : ∀ c ∈ w, 97 ≤ c ∧ c ≤ 122) (hl : w.length ≤ 7) (hc : 97 ≤ c ∧ c ≤ 122) : b64or (b64shl (enc8 w) 8) (bi2l c) = enc8 (w ++ [c]) := by
  have h1 := enc8_half w hw
  have h4 : (256 : Int) ^ w.length ≤ 256 ^ 7 := by
    have h := Int.ofNat_le.mpr (Nat.pow_le_pow_right (n := 256) (by decide) hl)
    rw [Int.natCast_pow, Int.natCast_pow] at h
    exact h
  have h5 : (256 : Int) ^ 7 = 72057594037927936 := by decide
  rw [enc8_snoc, b64cat (by omega) (by omega)]
/-- what a token is, in the model's words -/
def tmK (t : Nat → Int) (n p : Nat) : Int := if tkA t n p < n then (if isL (t (tkA t n p)) = true then (if tkE t n p - tkA t n p ≤ 8 then (if kdW (tw t (tkA t n p) (tkE t n p)) = 3 then 2 else 3) else 1) else if isD (t (tkA t n p)) = true then (if numOk t n (tkA t n p) (tkE t n p) = true then 4 else 1) else if yIx1 (t (tkA t n p)) < 0 then 1 else 5) else 0
theorem numOk_iff {t : Nat → Int} {n p e : Nat} : numOk t n p e = true ↔ e - p ≤ 4 ∧ ¬ (e < n ∧ isL (t e) = true) := by
  unfold numOk
  by_cases h : e < n <;> simp [h]
theorem mo_goOn_ok {N n p : Nat} {σ : ySt} (hN : 100000 ≤ N) (h1 : σ 92 3 = n) (hn : n ≤ 1600) (hp : σ 92 7 = p) (hpn : p ≤ n) (hb : ∀ j, -128 ≤ σ 94 j ∧ σ 94 j < 128) :
    Ok (mo_goOn N σ) (fun τ => ∃ v w : Int, τ = tmS σ (tkA (σ 94) n p) (tkE (σ 94) n p) (tmK (σ 94) n p) v w ∧ (tkA (σ 94) n p < n → isL (σ 94 (tkA (σ 94) n p)) = true → w = enc8 (tw (σ 94) (tkA (σ 94) n p) (min (tkE (σ 94) n p) (tkA (σ 94) n p + 8)))) ∧ (tkA (σ 94) n p < n → isD (σ 94 (tkA (σ 94) n p)) = true → v = decv (tw (σ 94) (tkA (σ 94) n p) (min (tkE (σ 94) n p) (tkA (σ 94) n p + 4))))) := by
  have hrg := tkA_rg (t := σ 94) hpn
  have hre := tkE_rg (t := σ 94) hpn
  have hsg : ∀ {τ : ySt} {s e k v w : Int} (j : Nat), mo_sign j (tmS σ s e k v w) = some (sg (σ 94) n j) := by
    intro τ s e k v w j
    rw [mo_sign_eq (n := n) (by rw [tmS_3]; exact h1) hn, tmS_t]
  unfold mo_goOn
  rw [Ok_bnd, hp]
  have e0 : yset σ 92 6 p = tmS σ p p (σ 92 8) (σ 92 9) (σ 92 10) := by
    rw [← hp, ← tmS_s6 (s := σ 92 6), tmS_id]
  rw [e0]
  refine Ok_loopS0 (fun τ => ∃ j : Nat, p ≤ j ∧ j ≤ tkA (σ 94) n p ∧ τ = tmS σ j p (σ 92 8) (σ 92 9) (σ 92 10)) (fun τ => 1600 - (τ 92 6).toNat) ?_ N _ ⟨p, Nat.le_refl _, hrg.1, rfl⟩ (by omega)
  rintro k τ ⟨j, hj1, hj2, rfl⟩ hk
  have ha := rn_at (q := isB) hj1 hj2 hpn
  have hbj := hb j
  refine Ok_jp (j = tkA (σ 94) n p) (P := fun τ => ∃ v w : Int, τ = tmS σ (tkA (σ 94) n p) (tkE (σ 94) n p) (tmK (σ 94) n p) v w ∧ (tkA (σ 94) n p < n → isL (σ 94 (tkA (σ 94) n p)) = true → w = enc8 (tw (σ 94) (tkA (σ 94) n p) (min (tkE (σ 94) n p) (tkA (σ 94) n p + 8)))) ∧ (tkA (σ 94) n p < n → isD (σ 94 (tkA (σ 94) n p)) = true → v = decv (tw (σ 94) (tkA (σ 94) n p) (min (tkE (σ 94) n p) (tkA (σ 94) n p + 4))))) (fun h => ?_) (fun x hx => ?_)
  · clear hk ha hj1 hj2 e0
    rw [tmS_6, hsg (τ := σ) j, bndO_s, tmS_s7]
    simp only [Ok_chkI, Ok_bnd, Ok_ite, tmS_6, tmS_3, h1, mo_isLetter_eq, bndO_s, ite01_0, sg_L hbj, Classical.not_not]
    refine ⟨by omega, fun h2 => ⟨fun h3 => ?_, fun h3 => ?_⟩, fun h2 => ?_⟩
    · have h3' : ¬ isL (σ 94 j) = true := fun q => h3 ⟨by omega, q⟩
      simp only [mo_isDigit_eq, bndO_s, Ok_ite, ite01_0, sg_D hbj]
      refine ⟨fun h4 => ?_, fun h4 => ?_⟩
      · have h4' : ¬ isD (σ 94 j) = true := fun q => h4 ⟨by omega, q⟩
        have e1 : tkE (σ 94) n p = j + 1 := by unfold tkE; rw [← h, if_pos (by omega), if_neg h3', if_neg h4']
        have e2 : tmK (σ 94) n p = (if yIx1 (σ 94 j) < 0 then 1 else 5) := by unfold tmK; rw [← h, if_pos (by omega), if_neg h3', if_neg h4']
        rw [mo_isSign_eq, bndO_s, sg_ix hbj (by omega), e1, e2, ← h]
        have c1 : ∀ y : Int, y = (if yIx1 (σ 94 j) < 0 then 1 else 5) → Ok (bnd (yset (tmS σ j ((j : Int) + 1) (σ 92 8) (σ 92 9) (σ 92 10)) 92 8 y) fun σ22 => some σ22) (fun τ => ∃ v w : Int, τ = tmS σ j ((j + 1 : Nat) : Int) (if yIx1 (σ 94 j) < 0 then 1 else 5) v w ∧ (j < n → isL (σ 94 j) = true → w = enc8 (tw (σ 94) j (min (j + 1) (j + 8)))) ∧ (j < n → isD (σ 94 j) = true → v = decv (tw (σ 94) j (min (j + 1) (j + 4))))) := by
          intro y hy
          rw [Ok_bnd, Ok_some, tmS_s8, hy]
          exact ⟨_, _, rfl, fun _ q => absurd q h3', fun _ q => absurd q h4'⟩
        simp only [Ok_bnd] at c1 ⊢
        rw [Ok_ite]
        refine ⟨fun h5 => c1 1 ?_, fun h5 => c1 5 ?_⟩
        · by_cases q : yIx1 (σ 94 j) < 0
          · rw [if_pos q]
          · rw [if_neg q] at h5; omega
        · by_cases q : yIx1 (σ 94 j) < 0
          · rw [if_pos q] at h5; omega
          · rw [if_neg q]
      · have h4 := Classical.not_not.mp h4
        have e1 : tkE (σ 94) n p = rn isD (σ 94) n j := by unfold tkE; rw [← h, if_pos (by omega), if_neg h3', if_pos h4.2]
        have e2 : tmK (σ 94) n p = (if numOk (σ 94) n j (rn isD (σ 94) n j) = true then 4 else 1) := by unfold tmK; rw [e1, ← h, if_pos (by omega), if_neg h3', if_pos h4.2]
        rw [e1, e2, ← h]
        simp only [Ok_bnd, tmS_s9, tmS_s7, tmS_6]
        have hge := rn_ge isD (σ 94) n j
        have hle := rn_le (q := isD) (t := σ 94) (n := n) (p := j) (by omega)
        refine Ok_loopS0 (fun τ => ∃ i : Nat, j ≤ i ∧ i ≤ rn isD (σ 94) n j ∧ τ = tmS σ j i (σ 92 8) (decv (tw (σ 94) j (min i (j + 4)))) (σ 92 10)) (fun τ => 1600 - (τ 92 7).toNat) ?_ N _ ⟨j, Nat.le_refl _, hge, by rw [Nat.min_eq_left (by omega), tw_nil]; rfl⟩ (by omega)
        rintro k τ ⟨i, hi1, hi2, rfl⟩ hk
        have ha := rn_at (q := isD) hi1 hi2 (by omega)
        have hbi := hb i
        simp only [tmS_7, tmS_6, tmS_9, tmS_s8, tmS_s7, tmS_s9, hsg (τ := σ), bndO_s, mo_isDigit_eq, mo_isLetter_eq, ite01_0, sg_D hbi, sg_L hbi, Ok_ite, Ok_chkI, Ok_some, Classical.not_not]
        refine ⟨fun h5 => ⟨by omega, ?_⟩, fun h5 => ⟨by omega, ?_⟩⟩
        · have hie : i = rn isD (σ 94) n j := by
            rcases Nat.lt_or_ge i (rn isD (σ 94) n j) with q | q
            · exact absurd (ha.mp q) h5
            · omega
          rw [← hie]
          refine Ok_jq1 (fun y => y = if numOk (σ 94) n j i = true then 4 else 1) (fun y hy => ?_) (fun x hx => ?_)
          · rw [Ok_bnd, Ok_some, hy]
            exact ⟨_, _, rfl, fun _ q => absurd q h3', fun _ _ => rfl⟩
          · simp only [Ok_ite]
            refine ⟨fun h6 => hx 1 ?_, fun h6 => ⟨fun h7 => hx 4 ?_, fun h7 => hx 1 ?_⟩⟩
            · rw [if_neg (fun q => by have := (numOk_iff.mp q).1; omega)]
            · rw [if_pos (numOk_iff.mpr ⟨by omega, h7⟩)]
            · rw [if_neg (fun q => h7 (numOk_iff.mp q).2)]
        · have hd := isD_iff.mp h5.2
          have hlt := ha.mpr h5
          have hdg : ∀ c ∈ tw (σ 94) j (min i (j + 4)), 48 ≤ c ∧ c ≤ 57 := by
            intro c hc
            obtain ⟨m, hm1, hm2, rfl⟩ := tw_mem hc
            exact isD_iff.mp (rn_in (q := isD) (n := n) (p := j) m hm1 (by omega))
          have hdv := decv_rg _ hdg
          have hpw : (10 : Int) ^ (tw (σ 94) j (min i (j + 4))).length ≤ 10 ^ 4 := by
            have h := Int.ofNat_le.mpr (Nat.pow_le_pow_right (n := 10) (by decide) (show (tw (σ 94) j (min i (j + 4))).length ≤ 4 by rw [tw_len]; omega))
            rw [Int.natCast_pow, Int.natCast_pow] at h
            exact h
          have hp4 : (10 : Int) ^ 4 = 10000 := by decide
          refine Ok_jq1 (fun τ => τ = tmS σ j i (σ 92 8) (decv (tw (σ 94) j (min (i + 1) (j + 4)))) (σ 92 10)) (fun y hy => ?_) (fun x hx => ?_)
          · subst hy
            simp only [tmS_7, tmS_s7, Ok_chkI, Ok_bnd]
            exact ⟨by omega, hk _ ⟨i + 1, by omega, by omega, rfl⟩ (by simp only [tmS_7]; omega)⟩
          · simp only [Ok_ite, Ok_chkI, Ok_bnd]
            rw [sg_pos hbi h5.1 (by omega)]
            refine ⟨fun h6 => hx _ ?_, fun h6 => ⟨by omega, by omega, by omega, hx _ ?_⟩⟩
            · rw [Nat.min_eq_right (by omega), Nat.min_eq_right (by omega)]
            · rw [Nat.min_eq_left (by omega), Nat.min_eq_left (by omega), tw_snoc hi1, decv_snoc, Int.add_sub_assoc]
    · have hd : ¬ isD (σ 94 j) = true := by
        rw [isD_iff]
        have := isL_iff.mp h3.2
        omega
      have e1 : tkE (σ 94) n p = rn isL (σ 94) n j := by unfold tkE; rw [← h, if_pos (by omega), if_pos h3.2]
      have e2 : tmK (σ 94) n p = (if rn isL (σ 94) n j - j ≤ 8 then (if kdW (tw (σ 94) j (rn isL (σ 94) n j)) = 3 then 2 else 3) else 1) := by unfold tmK; rw [e1, ← h, if_pos (by omega), if_pos h3.2]
      rw [e1, e2, ← h]
      have hge := rn_ge isL (σ 94) n j
      have hle := rn_le (q := isL) (t := σ 94) (n := n) (p := j) (by omega)
      have hj := (rn_at (q := isL) (t := σ 94) (n := n) (Nat.le_refl j) hge (by omega)).mpr h3
      refine Ok_loopS0 (fun τ => ∃ i : Nat, j + 1 ≤ i ∧ i ≤ rn isL (σ 94) n j ∧ τ = tmS σ j i (σ 92 8) (σ 92 9) (σ 92 10)) (fun τ => 1700 - (τ 92 7).toNat) ?_ N _ ⟨j + 1, Nat.le_refl _, hj, rfl⟩ (by omega)
      rintro k τ ⟨i, hi1, hi2, rfl⟩ hk
      have ha := rn_at (q := isL) (t := σ 94) (n := n) (p := j) (j := i) (by omega) hi2 (by omega)
      have hbi := hb i
      simp only [tmS_7, tmS_s7, hsg (τ := σ), bndO_s, mo_isLetter_eq, ite01_0, sg_L hbi, Ok_ite, Ok_chkI, Ok_bnd, Classical.not_not]
      refine ⟨fun h5 => ?_, fun h5 => ⟨by omega, hk _ ⟨i + 1, by omega, ha.mpr h5, rfl⟩ (by simp only [tmS_7]; omega)⟩⟩
      have hie : i = rn isL (σ 94) n j := by
        rcases Nat.lt_or_ge i (rn isL (σ 94) n j) with q | q
        · exact absurd (ha.mp q) h5
        · omega
      clear hk
      rw [← hie, tmS_s10, tmS_6]
      refine Ok_loopS1 (fun x τ => ∃ m : Nat, j ≤ m ∧ m ≤ min i (j + 8) ∧ x = m ∧ τ = tmS σ j i (σ 92 8) (σ 92 9) (enc8 (tw (σ 94) j m))) (fun x _ => 1700 - x.toNat) ?_ N _ _ ⟨j, Nat.le_refl _, by omega, rfl, by rw [tw_nil]; rfl⟩ (by omega)
      rintro k x τ ⟨m, hm1, hm2, rfl, rfl⟩ hk
      have hlet : ∀ c ∈ tw (σ 94) j m, 97 ≤ c ∧ c ≤ 122 := by
        intro c hc
        obtain ⟨q, hq1, hq2, rfl⟩ := tw_mem hc
        exact isL_iff.mp (rn_in (q := isL) (n := n) (p := j) q hq1 (by omega))
      refine Ok_jq (m = min i (j + 8)) (fun h6 => ?_) (fun x hx => ?_)
      · simp only [tmS_7, tmS_6, tmS_10, tmS_s8, Ok_chkI]
        refine ⟨by omega, ?_⟩
        refine Ok_jq1 (fun y => y = (if i - j ≤ 8 then (if kdW (tw (σ 94) j i) = 3 then 2 else 3) else 1)) (fun y hy => ?_) (fun x hx => ?_)
        · rw [Ok_bnd, Ok_some, hy, h6]
          exact ⟨_, _, rfl, fun _ _ => rfl, fun _ q => absurd q hd⟩
        · rw [Ok_ite]
          refine ⟨fun h7 => ?_, fun h7 => hx 1 (by rw [if_neg (by omega)])⟩
          have hmi : m = i := by omega
          rw [mo_isKept_eq hlet, bndO_s, Ok_ite, hmi]
          by_cases h8 : kdW (tw (σ 94) j i) = 3
          · exact ⟨fun _ => hx 2 (by rw [if_pos (by omega), if_pos h8]), fun h9 => absurd (if_pos h8) h9⟩
          · exact ⟨fun h9 => by rw [if_neg h8] at h9; omega, fun _ => hx 3 (by rw [if_pos (by omega), if_neg h8])⟩
      · have hbm := hb m
        rw [tmS_7, tmS_6, hsg (τ := σ), bndO_s, tmS_10, tmS_s10, Ok_ite]
        refine ⟨fun h6 => hx (by omega), fun h6 => ?_⟩
        rw [Ok_chkI, Ok_ite]
        refine ⟨by omega, fun h7 => hx (by omega), fun h7 => ?_⟩
        rw [Ok_bnd, Ok_chkI]
        refine ⟨by omega, ?_⟩
        have hml : 97 ≤ σ 94 m ∧ σ 94 m ≤ 122 := isL_iff.mp (rn_in (q := isL) (n := n) (p := j) m hm1 (by omega))
        refine hk _ _ ⟨m + 1, by omega, by omega, rfl, ?_⟩ (by omega)
        rw [sg_pos hbm (by omega) (by omega), enc8_cat hlet (by rw [tw_len]; omega) hml, tw_snoc hm1]
    · have e1 : tkE (σ 94) n p = j := by unfold tkE; rw [if_neg (by omega)]; exact h.symm
      have e2 : tmK (σ 94) n p = 0 := by unfold tmK; rw [if_neg (by omega)]
      have hjn : j = n := by omega
      rw [e1, e2, ← h, ← hjn]
      simp only [tmS_s8, tmS_s6, tmS_s7, tmS_3, h1, Ok_some]
      rw [← hjn]
      exact ⟨_, _, rfl, fun q => by omega, fun q => by omega⟩
  · simp only [tmS_6, tmS_3, h1, hsg (τ := σ), bndO_s, Ok_ite, Ok_chkI, Ok_bnd, tmS_s6, Classical.not_not]
    have stop : (j : Int) ≥ n ∨ (¬ sg (σ 94) n j = 32 ∧ ¬ sg (σ 94) n j = 10) → j = tkA (σ 94) n p := by
      intro h
      rcases Nat.lt_or_ge j (rn isB (σ 94) n p) with h2 | h2
      · have := ha.mp h2
        have h3 := (sg_B (n := n) hbj).mpr this
        omega
      · unfold tkA at *; omega
    have goon := fun (h : (j : Int) < n) (h2 : sg (σ 94) n j = 32 ∨ sg (σ 94) n j = 10) => hk (tmS σ ((j : Int) + 1) p (σ 92 8) (σ 92 9) (σ 92 10)) ⟨j + 1, by omega, (by have := ha.mpr ((sg_B hbj).mp h2); unfold tkA; omega), rfl⟩ (by simp only [tmS_6]; omega)
    refine ⟨fun h2 => hx (stop (Or.inl h2)), fun h2 => ⟨fun h3 => ⟨by omega, goon (by omega) (Or.inl h3)⟩, fun h3 => ⟨fun h4 => hx (stop (Or.inr ⟨h3, h4⟩)), fun h4 => ⟨by omega, goon (by omega) (Or.inr h4)⟩⟩⟩⟩
