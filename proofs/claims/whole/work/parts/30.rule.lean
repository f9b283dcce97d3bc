/-! the rule: what both sides write -/
def rk (k : Int) : Int := if k = 115 then 2 else if k = 114 then 1 else if k = 60 then 4 else if k = 62 then 4 else if k = 61 then 4 else if k = 43 then 5 else if k = 45 then 5 else if k = 42 then 6 else if k = 47 then 6 else 0
def opc (k : Int) : Int := if k = 114 then 124 else if k = 115 then 38 else k
def nmc (k : Int) : Int := if k = 117 then 104 else if k = 109 then 115 else if k = 100 then 112 else if k = 118 then 100 else 0
def isOp (c : Int) : Prop := c = 60 ∨ c = 61 ∨ c = 62 ∨ c = 43 ∨ c = 45 ∨ c = 42 ∨ c = 47
def isLf (k : Int) : Prop := k = 2 ∨ k = 117 ∨ k = 109 ∨ k = 100 ∨ k = 118
/-- an operator in the class's code and in the reference's -/
def OE (x c : Int) : Prop := (c = 124 ∧ x = -114) ∨ (c = 38 ∧ x = -115) ∨ (c = 126 ∧ x = -116) ∨ (x = -c ∧ isOp c)
/-- a piece of code in both -/
def CE (x c z : Int) : Prop := (c = 110 ∧ 0 ≤ z ∧ z ≤ 9999 ∧ x = z) ∨ (c = 104 ∧ x = -117) ∨ (c = 115 ∧ x = -109) ∨ (c = 112 ∧ x = -100) ∨ (c = 100 ∧ x = -118) ∨ OE x c
theorem rk_rg (k : Int) : 0 ≤ rk k ∧ rk k ≤ 6 ∧ rk k ≠ 3 := by
  unfold rk
  repeat' split
  all_goals decide
theorem rk_4 {k : Int} : rk k = 4 ↔ (k = 60 ∨ k = 61 ∨ k = 62) := by
  unfold rk
  repeat' split
  all_goals omega
theorem rk_1 {k : Int} : rk k = 1 ↔ k = 114 := by
  unfold rk
  repeat' split
  all_goals omega
theorem rk_2 {k : Int} : rk k = 2 ↔ k = 115 := by
  unfold rk
  repeat' split
  all_goals omega
theorem rk_5 {k : Int} : rk k = 5 ↔ (k = 43 ∨ k = 45) := by
  unfold rk
  repeat' split
  all_goals omega
theorem rk_6 {k : Int} : rk k = 6 ↔ (k = 42 ∨ k = 47) := by
  unfold rk
  repeat' split
  all_goals omega
theorem OE_opc {k : Int} (h : rk k ≠ 0) : OE (-k) (opc k) := by
  unfold rk at h
  unfold OE opc isOp
  repeat' split at h
  all_goals first
    | exact absurd rfl h
    | (subst_vars; decide)
theorem mo_rankHere_ok {σ : ySt} {t : Nat → Int} {n p : Nat} (h : TM σ t n p) : mo_rankHere σ = some (rk (tkK t n p)) := by
  unfold mo_rankHere rk
  simp only [isW_and_ h, isW_or_ h, TM_is h (c := 60) (by decide), TM_is h (c := 62) (by decide), TM_is h (c := 61) (by decide), TM_is h (c := 43) (by decide), TM_is h (c := 45) (by decide), TM_is h (c := 42) (by decide), TM_is h (c := 47) (by decide), bndO_s, ite01_0]
  repeat' split
  all_goals first
    | rfl
    | omega
theorem mo_wordHere_ok {σ : ySt} {t : Nat → Int} {n p : Nat} (h : TM σ t n p) : mo_wordHere σ = some (nmc (tkK t n p)) := by
  unfold mo_wordHere nmc
  simp only [isW_here h, isW_stroke h, isW_place h, isW_dogs h, bndO_s, ite01_0]
  repeat' split
  all_goals first
    | rfl
    | omega
theorem mo_pushE_eq {σ : ySt} {s : Nat} (h : σ 92 44 = s) (hs : s < 90) (a b : Int) : mo_pushE a b σ = some (yset (yset (yset σ 121 s a) 122 s b) 92 44 (s + 1)) := by
  apply Ok_eq
  unfold mo_pushE
  have h' : ∀ a, yset σ 121 s a 92 44 = s := fun a => by rw [yset_ne (by omega)]; exact h
  have h'' : ∀ a b, yset (yset σ 121 s a) 122 s b 92 44 = s := fun a b => by rw [yset_ne (by omega)]; exact h' a
  rw [Ok_chkA, h, Int.toNat_natCast, Ok_bnd, Ok_chkA, h', Int.toNat_natCast, Ok_bnd, Ok_chkI, h'', Ok_bnd, Ok_some]
  exact ⟨by omega, by omega, by omega, rfl⟩
theorem mo_emit_eq {σ : ySt} {s : Nat} (h : σ 92 42 = s) (hs : s < 800) (a b : Int) : mo_emit a b σ = some (yset (yset (yset σ 119 s a) 120 s b) 92 42 (s + 1)) := by
  apply Ok_eq
  unfold mo_emit
  have h' : ∀ a, yset σ 119 s a 92 42 = s := fun a => by rw [yset_ne (by omega)]; exact h
  have h'' : ∀ a b, yset (yset σ 119 s a) 120 s b 92 42 = s := fun a b => by rw [yset_ne (by omega)]; exact h' a
  rw [Ok_chkA, h, Int.toNat_natCast, Ok_bnd, Ok_chkA, h', Int.toNat_natCast, Ok_bnd, Ok_chkI, h'', Ok_bnd, Ok_some]
  exact ⟨by omega, by omega, by omega, rfl⟩
theorem mo_isCompared_ok {N s : Nat} {σ : ySt} (hN : 100000 ≤ N) : ∀ e : Nat, σ 92 44 = s + e → 1 ≤ s → s + e ≤ 90 → (∀ j, s ≤ j → j < s + e → σ 121 j = 5 ∨ σ 121 j = 6) → σ 121 (s - 1) ≠ 5 → σ 121 (s - 1) ≠ 6 → mo_isCompared N σ = some (if σ 121 (s - 1) = 4 then 1 else 0) := by
  intro e h h1 h2 h3 h5 h6
  apply Ok_eq
  unfold mo_isCompared
  rw [Ok_chkI, h]
  refine ⟨by omega, Ok_loop1 (fun x => ∃ k : Nat, x = (k : Int) ∧ s ≤ k + 1 ∧ k < s + e) (fun x => x.toNat) ?_ N _ ⟨s + e - 1, by omega, by omega, by omega⟩ (by omega)⟩
  rintro k x ⟨j, rfl, q1, q2⟩ rec
  rw [Ok_chkA, Int.toNat_natCast]
  refine ⟨by omega, Ok_jq (σ 121 j = 5 ∨ σ 121 j = 6) (fun c => ?_) (fun y hy => ?_)⟩
  · rw [Ok_chkI]
    have : s ≤ j := by
      by_cases w : s ≤ j
      · exact w
      · have : j = s - 1 := by omega
        subst this
        omega
    refine ⟨by omega, rec _ ⟨j - 1, by omega, by omega, by omega⟩ ?_⟩
    show ((j : Int) + (-1)).toNat < ((j : Int)).toNat
    omega
  · rw [Ok_ite]
    refine ⟨fun c => hy (Or.inl c), fun c => ?_⟩
    rw [Ok_chkA, Ok_ite]
    refine ⟨by omega, fun c2 => ?_, fun c2 => hy (Or.inr (Classical.not_not.mp c2))⟩
    have : j = s - 1 := by
      by_cases w : s ≤ j
      · have := h3 j w q2
        omega
      · omega
    subst this
    rw [Ok_chkA, Ok_ite, Ok_some, Ok_some]
    exact ⟨by omega, fun c3 => by rw [if_neg c3], fun c3 => by rw [if_pos (Classical.not_not.mp c3)]⟩
theorem eqM_set2 {τ ρ : ySt} (h : eqM τ ρ) {k : Nat} {z : Int} : eqM (yset τ 92 k z) (yset ρ 92 k z) := by
  refine ⟨fun j hj => ?_, fun j hj => ?_⟩
  · rw [yset_off j hj, yset_off j hj]
    exact h.1 j hj
  · by_cases c : j = k
    · subst c
      rw [yset_at, yset_at]
    · rw [yset_ne (by omega), yset_ne (by omega)]
      exact h.2 j hj
theorem FM_rfl {σ : ySt} {f w : Int} (h4 : σ 92 4 = f) (h5 : σ 92 5 = w) : FM σ f w := ⟨h4, h5⟩
