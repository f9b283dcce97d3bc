/-! the class's token machine -/
theorem w32_id {x : Int} (h : -2147483648 ≤ x ∧ x < 2147483648) : w32 x = x := yI_toInt h
def tkS (σ : ySt) (s k w v e : Int) : ySt := fun i j => if i = 1 then (if j = 2 then s else if j = 3 then k else if j = 4 then w else if j = 5 then v else if j = 8 then e else σ i j) else σ i j
theorem tkS_2 {σ : ySt} {s k w v e : Int} : tkS σ s k w v e 1 2 = s := by simp [tkS]
theorem tkS_3 {σ : ySt} {s k w v e : Int} : tkS σ s k w v e 1 3 = k := by simp [tkS]
theorem tkS_4 {σ : ySt} {s k w v e : Int} : tkS σ s k w v e 1 4 = w := by simp [tkS]
theorem tkS_5 {σ : ySt} {s k w v e : Int} : tkS σ s k w v e 1 5 = v := by simp [tkS]
theorem tkS_8 {σ : ySt} {s k w v e : Int} : tkS σ s k w v e 1 8 = e := by simp [tkS]
theorem tkS_1 {σ : ySt} {s k w v e : Int} : tkS σ s k w v e 1 1 = σ 1 1 := by simp [tkS]
theorem tkS_6 {σ : ySt} {s k w v e : Int} : tkS σ s k w v e 1 6 = σ 1 6 := by simp [tkS]
theorem tkS_7 {σ : ySt} {s k w v e : Int} : tkS σ s k w v e 1 7 = σ 1 7 := by simp [tkS]
theorem tkS_ne {σ : ySt} {s k w v e : Int} {i : Nat} (h : i ≠ 1) : tkS σ s k w v e i = σ i := by
  funext j
  simp [tkS, h]
theorem tkS_t {σ : ySt} {s k w v e : Int} : tkS σ s k w v e 2 = σ 2 := tkS_ne (by decide)
theorem tkS_s2 {σ : ySt} {s k w v e z : Int} : yset (tkS σ s k w v e) 1 2 z = tkS σ z k w v e := by
  funext i j
  by_cases h1 : i = 1 <;> by_cases h2 : j = 2 <;> simp [yset, tkS, h1, h2]
theorem tkS_s3 {σ : ySt} {s k w v e z : Int} : yset (tkS σ s k w v e) 1 3 z = tkS σ s z w v e := by
  funext i j
  by_cases h1 : i = 1 <;> by_cases h2 : j = 3 <;> simp [yset, tkS, h1, h2]
theorem tkS_s4 {σ : ySt} {s k w v e z : Int} : yset (tkS σ s k w v e) 1 4 z = tkS σ s k z v e := by
  funext i j
  by_cases h1 : i = 1 <;> by_cases h2 : j = 4 <;> simp [yset, tkS, h1, h2]
theorem tkS_s5 {σ : ySt} {s k w v e z : Int} : yset (tkS σ s k w v e) 1 5 z = tkS σ s k w z e := by
  funext i j
  by_cases h1 : i = 1 <;> by_cases h2 : j = 5 <;> simp [yset, tkS, h1, h2]
theorem tkS_s8 {σ : ySt} {s k w v e z : Int} : yset (tkS σ s k w v e) 1 8 z = tkS σ s k w v z := by
  funext i j
  by_cases h1 : i = 1 <;> by_cases h2 : j = 8 <;> simp [yset, tkS, h1, h2]
theorem tkS_id {σ : ySt} : tkS σ (σ 1 2) (σ 1 3) (σ 1 4) (σ 1 5) (σ 1 8) = σ := by
  funext i j
  unfold tkS
  split
  next h =>
    subst h
    repeat' split
    all_goals (first | (subst_vars; rfl) | rfl)
  · rfl
theorem tkS_tkS {σ : ySt} {s k w v e s' k' w' v' e' : Int} : tkS (tkS σ s k w v e) s' k' w' v' e' = tkS σ s' k' w' v' e' := by
  funext i j
  unfold tkS
  repeat' split
  all_goals rfl
theorem cTp_isLetter_eq (a : Int) (σ : ySt) : cTp_isLetter a σ = some (if isL a = true then 1 else 0) := by
  unfold cTp_isLetter
  simp only [isL_iff]
  repeat' split
  all_goals (first | rfl | (exfalso; omega))
theorem cTp_isDigit_eq (a : Int) (σ : ySt) : cTp_isDigit a σ = some (if isD a = true then 1 else 0) := by
  unfold cTp_isDigit
  simp only [isD_iff]
  repeat' split
  all_goals (first | rfl | (exfalso; omega))
theorem bndO_s {α β : Type} {a : α} {f : α → Option β} : bndO (some a) f = f a := rfl
theorem bndR_s {β : Type} {a : Int} {τ : ySt} {f : Int → ySt → Option β} : bndR (some (a, τ)) f = f a τ := rfl
/-- the class's code of a word, with its wrap-around -/
def cw5 (w : List Int) : Int := w.foldl (fun a c => w64 (w64 (a * 32) + bi2l (c - 97 + 1))) 0
theorem cw5_snoc (w : List Int) (c : Int) : cw5 (w ++ [c]) = w64 (w64 (cw5 w * 32) + bi2l (c - 97 + 1)) := by simp [cw5]
theorem cw5_eq : ∀ (w : List Int), (∀ c ∈ w, 97 ≤ c ∧ c ≤ 122) → w.length ≤ 12 → cw5 w = enc5 w := by
  intro w
  induction w using revRecOn with
  | nil => intro _ _; rfl
  | append_singleton w c ih =>
    intro h hl
    rw [List.length_append, List.length_singleton] at hl
    have h1 := ih (fun x hx => h x (List.mem_append_left _ hx)) (by omega)
    have h2 := h c (List.mem_append_right _ (List.mem_singleton.mpr rfl))
    have h3 := enc5_rg w (fun x hx => h x (List.mem_append_left _ hx))
    have h4 : (32 : Int) ^ w.length ≤ 32 ^ 11 := by
      have : 32 ^ w.length ≤ 32 ^ 11 := Nat.pow_le_pow_right (by decide) (by omega)
      exact_mod_cast this
    have h5 : (32 : Int) ^ 11 = 36028797018963968 := by decide
    rw [cw5_snoc, enc5_snoc, h1, bi2l_id (by omega), w64_id (x := enc5 w * 32) (by omega), w64_id (by omega)]
    omega
theorem tw_mem {t : Nat → Int} {p e : Nat} {c : Int} (h : c ∈ tw t p e) : ∃ j, p ≤ j ∧ j < e ∧ c = t j := by
  unfold tw at h
  rw [List.mem_map] at h
  obtain ⟨j, hj, rfl⟩ := h
  rw [List.mem_range] at hj
  exact ⟨p + j, by omega, by omega, rfl⟩
theorem tw_letters {t : Nat → Int} {n p : Nat} : ∀ c ∈ tw t p (rn isL t n p), 97 ≤ c ∧ c ≤ 122 := by
  intro c hc
  obtain ⟨j, h1, h2, rfl⟩ := tw_mem hc
  exact isL_iff.mp (rn_in j h1 h2)
theorem tw_digits {t : Nat → Int} {n p : Nat} : ∀ c ∈ tw t p (rn isD t n p), 48 ≤ c ∧ c ≤ 57 := by
  intro c hc
  obtain ⟨j, h1, h2, rfl⟩ := tw_mem hc
  exact isD_iff.mp (rn_in j h1 h2)
theorem rn_at {q : Int → Bool} {t : Nat → Int} {n p j : Nat} (h1 : p ≤ j) (h2 : j ≤ rn q t n p) (hn : p ≤ n) : (j < rn q t n p ↔ j < n ∧ q (t j) = true) := by
  constructor
  · intro h
    exact ⟨by have := rn_le (q := q) (t := t) hn; omega, rn_in j h1 h⟩
  · rintro ⟨h3, h4⟩
    rcases Nat.lt_or_ge j (rn q t n p) with h | h
    · exact h
    · have e : j = rn q t n p := by omega
      have := rn_out (q := q) (t := t) (n := n) (p := p) (by omega)
      rw [← e, h4] at this
      cases this
theorem cTp_stepWord_ok {N n p : Nat} {σ : ySt} (hN : 100000 ≤ N) (h1 : σ 1 1 = n) (hn : n ≤ 1600) (hp : σ 1 8 = p) (hpn : p ≤ n) :
    cTp_stepWord N σ = some (tkS σ (σ 1 2) (σ 1 3) (cw5 (tw (σ 2) p (rn isL (σ 2) n p))) (σ 1 5) (rn isL (σ 2) n p)) := by
  apply Ok_eq
  unfold cTp_stepWord
  rw [Ok_bnd]
  have e0 : yset σ 1 4 0 = tkS σ (σ 1 2) (σ 1 3) 0 (σ 1 5) (σ 1 8) := by
    rw [← tkS_s4 (w := σ 1 4), tkS_id]
  rw [e0]
  have hle := rn_le (q := isL) (t := σ 2) hpn
  refine Ok_loopS0 (fun τ => ∃ j : Nat, p ≤ j ∧ j ≤ rn isL (σ 2) n p ∧ τ = tkS σ (σ 1 2) (σ 1 3) (cw5 (tw (σ 2) p j)) (σ 1 5) j) (fun τ => 1600 - (τ 1 8).toNat) ?_ N _ ⟨p, Nat.le_refl _, rn_ge _ _ _ _, by rw [hp, tw_nil]; rfl⟩ (by omega)
  rintro k τ ⟨j, hj1, hj2, rfl⟩ hk
  have ha := rn_at hj1 hj2 hpn
  simp only [tkS_8, tkS_1, h1, tkS_t, cTp_isLetter_eq, bndO_s, Ok_ite, Ok_chkA, Ok_chkI, Ok_bnd, Ok_some, Int.toNat_natCast, tkS_s4, tkS_s8, tkS_4]
  refine ⟨fun q => ?_, fun q => ⟨by omega, fun q2 => ?_, fun q2 => ?_⟩⟩
  · have : j = rn isL (σ 2) n p := by omega
    rw [this]
  · have : ¬ isL (σ 2 j) = true := by intro q3; simp [q3] at q2
    have : j = rn isL (σ 2) n p := by
      rcases Nat.lt_or_ge j (rn isL (σ 2) n p) with h | h
      · exact absurd (ha.mp h).2 this
      · omega
    rw [this]
  · have q3 : isL (σ 2 j) = true := by
      by_cases q3 : isL (σ 2 j) = true
      · exact q3
      · simp [q3] at q2
    have hl := isL_iff.mp q3
    have hlt : j < rn isL (σ 2) n p := ha.mpr ⟨by omega, q3⟩
    refine ⟨by omega, by omega, by omega, by omega, ?_⟩
    refine hk _ ⟨j + 1, by omega, by omega, ?_⟩ (by simp only [tkS_8]; omega)
    rw [tw_snoc hj1, cw5_snoc]
    rfl

/-- the scan of the words: kind and code before the i-th sign -/
def wdC : Nat → Int × Int
  | 0 => (100, 0)
  | i + 1 => if yWd0.getD i 0 = 32 then ((wdC i).1 + 1, 0) else ((wdC i).1, (wdC i).2 * 32 + (yWd0.getD i 0 - 96))
theorem wdC_key : ∀ i : Fin 102, 0 ≤ (wdC i).2 ∧ (wdC i).2 < 1099511627776 ∧ 100 ≤ (wdC i).1 ∧ (wdC i).1 < 119 ∧ ((yWd0.getD i 0 = 32 ∧ (wdC i).2 = enc5 (resv.getD ((wdC i).1 - 100).toNat [])) ∨ (97 ≤ yWd0.getD i 0 ∧ yWd0.getD i 0 ≤ 122)) := by decide +kernel
theorem wdC_end : (wdC 102).1 = 119 := by decide +kernel
theorem enc5_ne {w : List Int} (hw : ∀ c ∈ w, 97 ≤ c ∧ c ≤ 122) {j : Nat} (hj : j < 19) (h : enc5 (resv.getD j []) = enc5 w) : kdW w = 100 + j := by
  have hl : resv.length = 19 := by decide
  have e : resv[j]? = some (resv.getD j []) := by
    rw [List.getD_eq_getElem?_getD, List.getElem?_eq_getElem (by omega)]
    rfl
  have : resv.getD j [] = w := enc5_inj _ _ (resv_wd _ (List.mem_of_getElem? e)) hw h
  exact (kdF_at w resv 100 j (by decide) (by decide +kernel)).mpr (by rw [e, this])
theorem cTp_kindOf_ok {N : Nat} {σ : ySt} {w : List Int} (hN : 100000 ≤ N) (hw : ∀ c ∈ w, 97 ≤ c ∧ c ≤ 122) :
    cTp_kindOf N (enc5 w) σ = some (kdW w) := by
  apply Ok_eq
  unfold cTp_kindOf
  refine Ok_loop3 (fun k c i => ∃ j : Nat, j ≤ 102 ∧ i = j ∧ k = (wdC j).1 ∧ c = (wdC j).2 ∧ ∀ r : Nat, r < 19 → 100 + (r : Int) < (wdC j).1 → enc5 (resv.getD r []) ≠ enc5 w) (fun _ _ i => 102 - i.toNat) ?_ N _ _ _ ⟨0, by decide, rfl, rfl, rfl, fun r _ h => absurd h (by show ¬ (100 + (r : Int) < 100); omega)⟩ (by omega)
  rintro k x1 x2 x3 ⟨j, hj, rfl, rfl, rfl, hne⟩ hk
  simp only [Ok_ite, Ok_chkA, Ok_chkI, Ok_bnd, Ok_some, Int.toNat_natCast, Classical.not_not]
  refine ⟨fun q => ?_, fun q => ⟨by omega, fun q1 => ⟨fun q2 => ?_, fun q2 => ?_⟩, fun q1 => ?_⟩⟩
  · have e : j = 102 := by omega
    subst e
    rw [wdC_end] at hne
    refine ((kdW_3 w).mpr ?_).symm
    intro hm
    obtain ⟨r, hr⟩ := List.mem_iff_getElem?.mp hm
    have hl : resv.length = 19 := by decide
    have hr2 : r < 19 := by
      rcases Nat.lt_or_ge r 19 with h | h
      · exact h
      · rw [List.getElem?_eq_none (by omega)] at hr; cases hr
    refine hne r hr2 (by omega) ?_
    rw [List.getD_eq_getElem?_getD, hr]
    rfl
  · obtain ⟨g1, g2, g3, g4, g5⟩ := wdC_key ⟨j, by omega⟩
    simp only at g1 g2 g3 g4 g5
    have hnn : ¬ (wdC j).2 = enc5 w := fun h => q2 (blcmp_0.mpr h)
    have e : wdC (j + 1) = ((wdC j).1 + 1, 0) := by
      show (if yWd0.getD j 0 = 32 then _ else _) = _
      rw [if_pos q1]
    rcases g5 with g5 | g5
    · refine ⟨by omega, by omega, ?_⟩
      refine hk _ _ _ ⟨j + 1, by omega, by omega, by rw [e], by rw [e], ?_⟩ (by omega)
      intro r hr hlt heq
      rw [e] at hlt
      simp only at hlt
      by_cases hr2 : 100 + (r : Int) < (wdC j).1
      · exact hne r hr hr2 heq
      · have : r = ((wdC j).1 - 100).toNat := by omega
        rw [this] at heq
        exact hnn (g5.2.trans heq)
    · omega
  · obtain ⟨g1, g2, g3, g4, g5⟩ := wdC_key ⟨j, by omega⟩
    simp only at g1 g2 g3 g4 g5
    have heq := blcmp_0.mp q2
    rcases g5 with g5 | g5
    · have := enc5_ne hw (j := ((wdC j).1 - 100).toNat) (by omega) (g5.2.symm.trans heq)
      omega
    · omega
  · obtain ⟨g1, g2, g3, g4, g5⟩ := wdC_key ⟨j, by omega⟩
    simp only at g1 g2 g3 g4 g5
    rcases g5 with g5 | g5
    · exact absurd g5.1 q1
    · have e : wdC (j + 1) = ((wdC j).1, (wdC j).2 * 32 + (yWd0.getD j 0 - 96)) := by
        show (if yWd0.getD j 0 = 32 then _ else _) = _
        rw [if_neg q1]
      refine ⟨by omega, by omega, by omega, ?_⟩
      refine hk _ _ _ ⟨j + 1, by omega, by omega, by rw [e], ?_, ?_⟩ (by omega)
      · rw [e, bi2l_id (by omega), w64_id (x := (wdC j).2 * 32) (by omega), w64_id (by omega)]
        simp only
        omega
      · rw [e]
        exact hne
/-- a numeral's number, with wrap-around -/
def cdv (w : List Int) : Int := w.foldl (fun a c => w32 (w32 (a * 10) + w32 (c - 48))) 0
def decv (w : List Int) : Int := w.foldl (fun a c => 10 * a + (c - 48)) 0
theorem cdv_snoc (w : List Int) (c : Int) : cdv (w ++ [c]) = w32 (w32 (cdv w * 10) + w32 (c - 48)) := by simp [cdv]
theorem decv_snoc (w : List Int) (c : Int) : decv (w ++ [c]) = 10 * decv w + (c - 48) := by simp [decv]
theorem decv_rg : ∀ (w : List Int), (∀ c ∈ w, 48 ≤ c ∧ c ≤ 57) → 0 ≤ decv w ∧ decv w < 10 ^ w.length := by
  intro w
  induction w using revRecOn with
  | nil => intro _; exact ⟨by decide, by decide⟩
  | append_singleton w c ih =>
    intro h
    have h1 := ih (fun x hx => h x (List.mem_append_left _ hx))
    have h2 := h c (List.mem_append_right _ (List.mem_singleton.mpr rfl))
    rw [decv_snoc, List.length_append, List.length_singleton, Int.pow_succ]
    omega
theorem cdv_eq : ∀ (w : List Int), (∀ c ∈ w, 48 ≤ c ∧ c ≤ 57) → w.length ≤ 8 → cdv w = decv w := by
  intro w
  induction w using revRecOn with
  | nil => intro _ _; rfl
  | append_singleton w c ih =>
    intro h hl
    rw [List.length_append, List.length_singleton] at hl
    have h1 := ih (fun x hx => h x (List.mem_append_left _ hx)) (by omega)
    have h2 := h c (List.mem_append_right _ (List.mem_singleton.mpr rfl))
    have h3 := decv_rg w (fun x hx => h x (List.mem_append_left _ hx))
    have h4 : (10 : Int) ^ w.length ≤ 10 ^ 7 := by
      have : 10 ^ w.length ≤ 10 ^ 7 := Nat.pow_le_pow_right (by decide) (by omega)
      exact_mod_cast this
    have h5 : (10 : Int) ^ 7 = 10000000 := by decide
    rw [cdv_snoc, decv_snoc, h1, w32_id (x := decv w * 10) (by omega), w32_id (x := c - 48) (by omega), w32_id (by omega)]
    omega
/-- a numeral is one: four digits at most, no letter on its heels -/
def numOk (t : Nat → Int) (n p e : Nat) : Bool := decide (e - p ≤ 4) && !(decide (e < n) && isL (t e))
theorem cTp_stepNumber_ok {N n p : Nat} {σ : ySt} (hN : 100000 ≤ N) (h1 : σ 1 1 = n) (hn : n ≤ 1600) (hp : σ 1 8 = p) (hs : σ 1 2 = p) (hpn : p ≤ n) (hb : ∀ j, -128 ≤ σ 2 j ∧ σ 2 j < 128) :
    cTp_stepNumber N σ = some (tkS σ p (if numOk (σ 2) n p (rn isD (σ 2) n p) = true then 2 else 1) (σ 1 4) (cdv (tw (σ 2) p (rn isD (σ 2) n p))) (rn isD (σ 2) n p)) := by
  apply Ok_eq
  unfold cTp_stepNumber
  rw [Ok_bnd]
  have e0 : yset σ 1 5 0 = tkS σ p (σ 1 3) (σ 1 4) 0 (σ 1 8) := by
    rw [← hs, ← tkS_s5 (v := σ 1 5), tkS_id]
  rw [e0]
  have hle := rn_le (q := isD) (t := σ 2) hpn
  have hge := rn_ge isD (σ 2) n p
  refine Ok_loopS0 (fun τ => ∃ j : Nat, p ≤ j ∧ j ≤ rn isD (σ 2) n p ∧ τ = tkS σ p (σ 1 3) (σ 1 4) (cdv (tw (σ 2) p j)) j) (fun τ => 1600 - (τ 1 8).toNat) ?_ N _ ⟨p, Nat.le_refl _, rn_ge _ _ _ _, by rw [hp, tw_nil]; rfl⟩ (by omega)
  rintro k τ ⟨j, hj1, hj2, rfl⟩ hk
  have ha := rn_at hj1 hj2 hpn
  have hbj := hb j
  simp only [tkS_8, tkS_1, tkS_2, tkS_5, h1, tkS_t, cTp_isLetter_eq, cTp_isDigit_eq, bndO_s, Ok_ite, Ok_chkA, Ok_bnd, Ok_some, Int.toNat_natCast, tkS_s3, tkS_s5, tkS_s8, ite01_0, true_implies, not_true_eq_false, false_implies, and_true, true_and, Int.reduceEq, Classical.not_not, not_false_eq_true]
  rw [w32_id (x := (j : Int) - p) (by omega), w32_id (x := (j : Int) + 1) (by omega)]
  have fin : j = rn isD (σ 2) n p → ∀ y : Int, (y = 2 ↔ numOk (σ 2) n p j = true) → (y = 1 ∨ y = 2) → tkS σ p y (σ 1 4) (cdv (tw (σ 2) p j)) j = tkS σ p (if numOk (σ 2) n p (rn isD (σ 2) n p) = true then 2 else 1) (σ 1 4) (cdv (tw (σ 2) p (rn isD (σ 2) n p))) (rn isD (σ 2) n p) := by
    intro e y hy hy2
    rw [← e]
    by_cases hh : numOk (σ 2) n p j = true
    · rw [if_pos hh, hy.mpr hh]
    · rw [if_neg hh]
      have : y ≠ 2 := fun q => hh (hy.mp q)
      have : y = 1 := by omega
      rw [this]
  have fno : (j : Int) - p > 4 → numOk (σ 2) n p j = false := by
    intro h
    have : ¬ (j - p ≤ 4) := by omega
    simp [numOk, this]
  have fno2 : j < n → isL (σ 2 j) = true → numOk (σ 2) n p j = false := by
    intro h h2
    simp [numOk, h, h2]
  have fyes : ¬ (j : Int) - p > 4 → (n ≤ j ∨ ¬ isL (σ 2 j) = true) → numOk (σ 2) n p j = true := by
    intro h h2
    have h3 : j - p ≤ 4 := by omega
    rcases h2 with h2 | h2
    · have : ¬ j < n := by omega
      simp [numOk, h3, this]
    · simp [numOk, h3, h2]
  have stop : (j : Int) ≥ n ∨ ¬ isD (σ 2 j) = true → j = rn isD (σ 2) n p := by
    intro h
    rcases Nat.lt_or_ge j (rn isD (σ 2) n p) with h2 | h2
    · have := ha.mp h2
      rcases h with h | h
      · omega
      · exact absurd this.2 h
    · omega
  repeat' first | apply And.intro | intro _
  all_goals first
    | omega
    | (exfalso; omega)
    | exact fin (stop (by first | (left; omega) | (right; assumption))) 1 ⟨fun h => absurd h (by decide), fun h => by first | (rw [fno (by omega)] at h; cases h) | (rw [fno2 (by omega) (by first | assumption | exact Classical.not_not.mp (by assumption))] at h; cases h)⟩ (Or.inl rfl)
    | exact fin (stop (by first | (left; omega) | (right; assumption))) 2 ⟨fun _ => fyes (by omega) (by first | (left; omega) | (right; assumption)), fun _ => rfl⟩ (Or.inr rfl)
    | skip
  have hlt := ha.mpr ⟨by omega, by assumption⟩
  refine hk _ ⟨j + 1, by omega, by omega, ?_⟩ (by simp only [tkS_8]; omega)
  rw [tw_snoc hj1, cdv_snoc]
  rfl
/-- where the next token begins, where it ends, what it is -/
def tkA (t : Nat → Int) (n p : Nat) : Nat := rn isB t n p
def tkE (t : Nat → Int) (n p : Nat) : Nat := if tkA t n p < n then (if isL (t (tkA t n p)) = true then rn isL t n (tkA t n p) else if isD (t (tkA t n p)) = true then rn isD t n (tkA t n p) else tkA t n p + 1) else tkA t n p
def tkK (t : Nat → Int) (n p : Nat) : Int := if tkA t n p < n then (if isL (t (tkA t n p)) = true then (if tkE t n p - tkA t n p ≤ 8 then kdW (tw t (tkA t n p) (tkE t n p)) else 1) else if isD (t (tkA t n p)) = true then (if numOk t n (tkA t n p) (tkE t n p) = true then 2 else 1) else if yIx1 (t (tkA t n p)) < 0 then 1 else t (tkA t n p)) else 0
theorem tkA_rg {t : Nat → Int} {n p : Nat} (h : p ≤ n) : p ≤ tkA t n p ∧ tkA t n p ≤ n := ⟨rn_ge _ _ _ _, rn_le h⟩
theorem tkE_rg {t : Nat → Int} {n p : Nat} (h : p ≤ n) : tkA t n p ≤ tkE t n p ∧ tkE t n p ≤ n := by
  have h1 := tkA_rg (t := t) h
  unfold tkE
  split
  next h2 =>
    have h3 := rn_ge isL t n (tkA t n p)
    have h4 := rn_ge isD t n (tkA t n p)
    have h5 := rn_le (q := isL) (t := t) (n := n) (p := tkA t n p) (by omega)
    have h6 := rn_le (q := isD) (t := t) (n := n) (p := tkA t n p) (by omega)
    split
    · omega
    · split <;> omega
  · omega
theorem sgn_byte {c : Int} (h : -128 ≤ c ∧ c < 128) : yIx1 (b32i2c (b32and c 255)) = yIx1 c ∧ (0 ≤ yIx1 c → b32i2c (b32and c 255) = c) ∧ 0 ≤ b32i2c (b32and c 255) ∧ b32i2c (b32and c 255) < 256 := by
  rw [b32and_255, b32i2c_id (by omega)]
  have h2 : c < 0 → yIx1 c = -1 ∧ yIx1 (c % 256) = -1 := by
    intro h3
    unfold yIx1
    constructor
    all_goals repeat' split
    all_goals first | rfl | (exfalso; omega)
  rcases Int.lt_or_le c 0 with h3 | h3
  · rw [(h2 h3).1, (h2 h3).2]
    exact ⟨rfl, fun h => absurd h (by decide), by omega, by omega⟩
  · have : c % 256 = c := by omega
    rw [this]
    exact ⟨rfl, fun _ => rfl, by omega, by omega⟩
theorem cTp_step_ok {N n p : Nat} {σ : ySt} (hN : 100000 ≤ N) (h1 : σ 1 1 = n) (hn : n ≤ 1600) (hp : σ 1 8 = p) (hpn : p ≤ n) (hb : ∀ j, -128 ≤ σ 2 j ∧ σ 2 j < 128) :
    Ok (cTp_step N σ) (fun τ => ∃ w v : Int, τ = tkS σ (tkA (σ 2) n p) (tkK (σ 2) n p) w v (tkE (σ 2) n p) ∧ (tkA (σ 2) n p < n → isL (σ 2 (tkA (σ 2) n p)) = true → w = cw5 (tw (σ 2) (tkA (σ 2) n p) (tkE (σ 2) n p))) ∧ (tkA (σ 2) n p < n → isD (σ 2 (tkA (σ 2) n p)) = true → v = cdv (tw (σ 2) (tkA (σ 2) n p) (tkE (σ 2) n p)))) := by
  unfold cTp_step
  have hrg := tkA_rg (t := σ 2) hpn
  have e0 : σ = tkS σ (σ 1 2) (σ 1 3) (σ 1 4) (σ 1 5) p := by rw [← hp, tkS_id]
  refine Ok_loopS0 (fun τ => ∃ j : Nat, p ≤ j ∧ j ≤ tkA (σ 2) n p ∧ τ = tkS σ (σ 1 2) (σ 1 3) (σ 1 4) (σ 1 5) j) (fun τ => 1600 - (τ 1 8).toNat) ?_ N _ ⟨p, Nat.le_refl _, hrg.1, e0⟩ (by omega)
  rintro k τ ⟨j, hj1, hj2, rfl⟩ hk
  have ha := rn_at (q := isB) hj1 hj2 hpn
  have hbj := hb j
  have hsg := sgn_byte hbj
  have stop : (j : Int) ≥ n ∨ (¬ σ 2 j = 32 ∧ ¬ σ 2 j = 10) → j = tkA (σ 2) n p := by
    intro h
    rcases Nat.lt_or_ge j (rn isB (σ 2) n p) with h2 | h2
    · have := ha.mp h2
      rcases h with h | h
      · omega
      · have := isB_iff.mp this.2
        omega
    · unfold tkA at *; omega
  have goon : (j : Int) < n → (σ 2 j = 32 ∨ σ 2 j = 10) → Ok (k (tkS σ (σ 1 2) (σ 1 3) (σ 1 4) (σ 1 5) ((j : Int) + 1))) (fun τ => ∃ w v : Int, τ = tkS σ (tkA (σ 2) n p) (tkK (σ 2) n p) w v (tkE (σ 2) n p) ∧ (tkA (σ 2) n p < n → isL (σ 2 (tkA (σ 2) n p)) = true → w = cw5 (tw (σ 2) (tkA (σ 2) n p) (tkE (σ 2) n p))) ∧ (tkA (σ 2) n p < n → isD (σ 2 (tkA (σ 2) n p)) = true → v = cdv (tw (σ 2) (tkA (σ 2) n p) (tkE (σ 2) n p)))) := by
    intro h h2
    have := ha.mpr ⟨by omega, isB_iff.mpr h2⟩
    refine hk _ ⟨j + 1, by omega, by unfold tkA; omega, rfl⟩ (by simp only [tkS_8]; omega)
  refine Ok_jp (j = tkA (σ 2) n p) (P := (fun τ => ∃ w v : Int, τ = tkS σ (tkA (σ 2) n p) (tkK (σ 2) n p) w v (tkE (σ 2) n p) ∧ (tkA (σ 2) n p < n → isL (σ 2 (tkA (σ 2) n p)) = true → w = cw5 (tw (σ 2) (tkA (σ 2) n p) (tkE (σ 2) n p))) ∧ (tkA (σ 2) n p < n → isD (σ 2 (tkA (σ 2) n p)) = true → v = cdv (tw (σ 2) (tkA (σ 2) n p) (tkE (σ 2) n p))))) (fun h => ?_) (fun x hx => ?_)
  · clear hk goon stop
    have word : j = tkA (σ 2) n p → (j : Int) < n → isL (σ 2 j) = true → cTp_stepWord N (tkS σ j (σ 1 3) (σ 1 4) (σ 1 5) j) = some (tkS σ j (σ 1 3) (cw5 (tw (σ 2) j (tkE (σ 2) n p))) (σ 1 5) (tkE (σ 2) n p)) := by
      intro h h2 h3
      rw [cTp_stepWord_ok hN (n := n) (p := j) (by rw [tkS_1]; exact h1) hn tkS_8 (by omega)]
      rw [tkS_2, tkS_3, tkS_5, tkS_t, tkS_tkS]
      have : tkE (σ 2) n p = rn isL (σ 2) n j := by
        unfold tkE
        rw [← h, if_pos (by omega), if_pos h3]
      rw [this]
    have numb : j = tkA (σ 2) n p → (j : Int) < n → ¬ isL (σ 2 j) = true → isD (σ 2 j) = true → cTp_stepNumber N (tkS σ j (σ 1 3) (σ 1 4) (σ 1 5) j) = some (tkS σ j (tkK (σ 2) n p) (σ 1 4) (cdv (tw (σ 2) j (tkE (σ 2) n p))) (tkE (σ 2) n p)) := by
      intro h h2 h3 h4
      rw [cTp_stepNumber_ok hN (n := n) (p := j) (by rw [tkS_1]; exact h1) hn tkS_8 tkS_2 (by omega) (by rw [tkS_t]; exact hb)]
      rw [tkS_4, tkS_t, tkS_tkS]
      have e1 : tkE (σ 2) n p = rn isD (σ 2) n j := by
        unfold tkE
        rw [← h, if_pos (by omega), if_neg h3, if_pos h4]
      have e2 : tkK (σ 2) n p = (if numOk (σ 2) n j (rn isD (σ 2) n j) = true then 2 else 1) := by
        unfold tkK
        rw [e1, ← h, if_pos (by omega), if_neg h3, if_pos h4]
      rw [e1, e2]
    have endC : j = tkA (σ 2) n p → ¬ (j : Int) < n → ∃ w v : Int, tkS σ j 0 (σ 1 4) (σ 1 5) j = tkS σ (tkA (σ 2) n p) (tkK (σ 2) n p) w v (tkE (σ 2) n p) ∧ (tkA (σ 2) n p < n → isL (σ 2 (tkA (σ 2) n p)) = true → w = cw5 (tw (σ 2) (tkA (σ 2) n p) (tkE (σ 2) n p))) ∧ (tkA (σ 2) n p < n → isD (σ 2 (tkA (σ 2) n p)) = true → v = cdv (tw (σ 2) (tkA (σ 2) n p) (tkE (σ 2) n p))) := by
      intro h h2
      refine ⟨σ 1 4, σ 1 5, ?_, fun h3 => by omega, fun h3 => by omega⟩
      have e1 : tkE (σ 2) n p = j := by unfold tkE; rw [if_neg (by omega)]; exact h.symm
      have e2 : tkK (σ 2) n p = 0 := by unfold tkK; rw [if_neg (by omega)]
      rw [e1, e2, ← h]
    have badC : j = tkA (σ 2) n p → (j : Int) < n → ¬ isL (σ 2 j) = true → ¬ isD (σ 2 j) = true → yIx1 (b32i2c (b32and (σ 2 j) 255)) < 0 → ∃ w v : Int, tkS σ j 1 (σ 1 4) (σ 1 5) ((j : Int) + 1) = tkS σ (tkA (σ 2) n p) (tkK (σ 2) n p) w v (tkE (σ 2) n p) ∧ (tkA (σ 2) n p < n → isL (σ 2 (tkA (σ 2) n p)) = true → w = cw5 (tw (σ 2) (tkA (σ 2) n p) (tkE (σ 2) n p))) ∧ (tkA (σ 2) n p < n → isD (σ 2 (tkA (σ 2) n p)) = true → v = cdv (tw (σ 2) (tkA (σ 2) n p) (tkE (σ 2) n p))) := by
      intro h h2 h3 h4 h5
      refine ⟨σ 1 4, σ 1 5, ?_, fun _ h6 => absurd h6 (by rw [← h]; exact h3), fun _ h6 => absurd h6 (by rw [← h]; exact h4)⟩
      have e1 : tkE (σ 2) n p = j + 1 := by unfold tkE; rw [← h, if_pos (by omega), if_neg h3, if_neg h4]
      have e2 : tkK (σ 2) n p = 1 := by unfold tkK; rw [← h, if_pos (by omega), if_neg h3, if_neg h4, if_pos (by rw [← hsg.1]; exact h5)]
      rw [e1, e2, ← h]
      rfl
    have sgnC : j = tkA (σ 2) n p → (j : Int) < n → ¬ isL (σ 2 j) = true → ¬ isD (σ 2 j) = true → ¬ yIx1 (b32i2c (b32and (σ 2 j) 255)) < 0 → ∃ w v : Int, tkS σ j (b32i2c (b32and (σ 2 j) 255)) (σ 1 4) (σ 1 5) ((j : Int) + 1) = tkS σ (tkA (σ 2) n p) (tkK (σ 2) n p) w v (tkE (σ 2) n p) ∧ (tkA (σ 2) n p < n → isL (σ 2 (tkA (σ 2) n p)) = true → w = cw5 (tw (σ 2) (tkA (σ 2) n p) (tkE (σ 2) n p))) ∧ (tkA (σ 2) n p < n → isD (σ 2 (tkA (σ 2) n p)) = true → v = cdv (tw (σ 2) (tkA (σ 2) n p) (tkE (σ 2) n p))) := by
      intro h h2 h3 h4 h5
      refine ⟨σ 1 4, σ 1 5, ?_, fun _ h6 => absurd h6 (by rw [← h]; exact h3), fun _ h6 => absurd h6 (by rw [← h]; exact h4)⟩
      have e1 : tkE (σ 2) n p = j + 1 := by unfold tkE; rw [← h, if_pos (by omega), if_neg h3, if_neg h4]
      have h6 := hsg.1
      have e2 : tkK (σ 2) n p = b32i2c (b32and (σ 2 j) 255) := by unfold tkK; rw [← h, if_pos (by omega), if_neg h3, if_neg h4, if_neg (by rw [← hsg.1]; exact h5)]; exact (hsg.2.1 (by omega)).symm
      rw [e1, e2, ← h]
      rfl
    have numC : j = tkA (σ 2) n p → (j : Int) < n → ¬ isL (σ 2 j) = true → isD (σ 2 j) = true → Ok (bndO (cTp_stepNumber N (tkS σ j (σ 1 3) (σ 1 4) (σ 1 5) j)) fun σ22 => some σ22) (fun τ => ∃ w v : Int, τ = tkS σ (tkA (σ 2) n p) (tkK (σ 2) n p) w v (tkE (σ 2) n p) ∧ (tkA (σ 2) n p < n → isL (σ 2 (tkA (σ 2) n p)) = true → w = cw5 (tw (σ 2) (tkA (σ 2) n p) (tkE (σ 2) n p))) ∧ (tkA (σ 2) n p < n → isD (σ 2 (tkA (σ 2) n p)) = true → v = cdv (tw (σ 2) (tkA (σ 2) n p) (tkE (σ 2) n p)))) := by
      intro h h2 h3 h4
      rw [numb h h2 h3 h4, bndO_s, Ok_some, h]
      exact ⟨_, _, rfl, fun _ h6 => absurd h6 (by rw [← h]; exact h3), fun _ _ => rfl⟩
    have wrdC : j = tkA (σ 2) n p → (j : Int) < n → isL (σ 2 j) = true → Ok (bndO (cTp_stepWord N (tkS σ j (σ 1 3) (σ 1 4) (σ 1 5) j)) fun σ28 => chkI (σ28 1 8 - σ28 1 2) (bnd (fun y30 => bnd (yset σ28 1 3 y30) fun σ22 => some σ22) fun j31 => if σ28 1 8 - σ28 1 2 ≤ 8 then bndO (cTp_kindOf N (σ28 1 4) σ28) fun r36 => j31 r36 else j31 1)) (fun τ => ∃ w v : Int, τ = tkS σ (tkA (σ 2) n p) (tkK (σ 2) n p) w v (tkE (σ 2) n p) ∧ (tkA (σ 2) n p < n → isL (σ 2 (tkA (σ 2) n p)) = true → w = cw5 (tw (σ 2) (tkA (σ 2) n p) (tkE (σ 2) n p))) ∧ (tkA (σ 2) n p < n → isD (σ 2 (tkA (σ 2) n p)) = true → v = cdv (tw (σ 2) (tkA (σ 2) n p) (tkE (σ 2) n p)))) := by
      intro h h2 h3
      have hge := tkE_rg (t := σ 2) hpn
      have e2 : tkK (σ 2) n p = (if tkE (σ 2) n p - j ≤ 8 then kdW (tw (σ 2) j (tkE (σ 2) n p)) else 1) := by
        unfold tkK
        rw [← h, if_pos (by omega), if_pos h3]
      have hd : ¬ isD (σ 2 j) = true := by
        rw [isD_iff]
        have := isL_iff.mp h3
        omega
      have hlet : ∀ c ∈ tw (σ 2) j (tkE (σ 2) n p), 97 ≤ c ∧ c ≤ 122 := by
        have : tkE (σ 2) n p = rn isL (σ 2) n j := by
          unfold tkE
          rw [← h, if_pos (by omega), if_pos h3]
        rw [this]
        exact tw_letters
      rw [word h h2 h3, bndO_s]
      simp only [Ok_chkI, Ok_bnd, Ok_ite, tkS_8, tkS_2, tkS_4, tkS_s3, Ok_some]
      refine ⟨by omega, fun q => ?_, fun q => ?_⟩
      · have hl8 : (tw (σ 2) j (tkE (σ 2) n p)).length ≤ 8 := by rw [tw_len]; omega
        have e3 : cTp_kindOf N (cw5 (tw (σ 2) j (tkE (σ 2) n p))) (tkS σ j (σ 1 3) (cw5 (tw (σ 2) j (tkE (σ 2) n p))) (σ 1 5) (tkE (σ 2) n p)) = some (kdW (tw (σ 2) j (tkE (σ 2) n p))) := by
          rw [cw5_eq _ hlet (by omega)]
          exact cTp_kindOf_ok hN hlet
        rw [e3, bndO_s, Ok_bnd, Ok_some, e2, if_pos (by omega), ← h]
        exact ⟨_, _, rfl, fun _ _ => rfl, fun _ h6 => absurd h6 hd⟩
      · rw [e2, if_neg (by omega), ← h]
        exact ⟨_, _, rfl, fun _ _ => rfl, fun _ h6 => absurd h6 hd⟩
    simp only [tkS_8, tkS_1, tkS_2, h1, tkS_t, cTp_isLetter_eq, cTp_isDigit_eq, bndO_s, Ok_ite, Ok_chkA, Ok_chkI, Ok_bnd, Ok_some, Int.toNat_natCast, tkS_s2, tkS_s8, tkS_s3, ite01_0, Classical.not_not]
    clear hj1 hj2 ha hbj e0 hb word numb
    refine ⟨fun h2 => ⟨by omega, fun h3 => ⟨by omega, fun h4 => ⟨by omega, by omega, fun h5 => ⟨by omega, badC h h2 h3 h4 h5⟩, fun h5 => ⟨by omega, sgnC h h2 h3 h4 h5⟩⟩, fun h4 => numC h h2 h3 h4⟩, fun h3 => wrdC h h2 h3⟩, fun h2 => endC h h2⟩
  · simp only [tkS_8, tkS_1, h1, tkS_t, Ok_ite, Ok_chkA, Ok_chkI, Ok_bnd, Int.toNat_natCast, tkS_s8, Classical.not_not]
    refine ⟨fun h2 => hx (stop (Or.inl h2)), fun h2 => ⟨by omega, fun h3 => ⟨by omega, goon (by omega) (Or.inl h3)⟩, fun h3 => ⟨by omega, fun h4 => hx (stop (Or.inr ⟨h3, h4⟩)), fun h4 => ⟨by omega, goon (by omega) (Or.inr h4)⟩⟩⟩⟩
