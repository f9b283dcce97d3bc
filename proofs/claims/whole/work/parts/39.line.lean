/-! the rule: a whole line of it -/
theorem moe_stop {N k : Nat} {x : Int} {τ : ySt} (h : τ 92 4 ≠ 0 ∨ τ 92 44 ≤ 0) : loopS1 (moeF N) (k + 1) x τ = some τ := by
  show moeF N (loopS1 (moeF N) k) x τ = _
  unfold moeF
  rw [mo_isGood_eq, bndO_s]
  by_cases c : τ 92 4 = 0
  · rw [if_pos c, if_neg (by decide), if_pos (by omega)]
  · rw [if_neg c, if_pos rfl]
theorem RE_end {N m : Nat} {x : Int} {τ τ' : ySt} (hN : 100000 ≤ N) (hm : m < 1000) (h : RE N m 1 τ x τ') (hs : τ' 92 4 ≠ 0 ∨ τ' 92 44 ≤ 0) : loopS1 (moeF N) N 1 τ = some τ' := by
  have := h (N - m)
  rw [show N - m + m = N from by omega] at this
  rw [this, show N - m = N - m - 1 + 1 from by omega]
  exact moe_stop hs
theorem beh_end8 {N n p o bk lv U L M e : Nat} {σ τ : ySt} {t : Nat → Int} (hN : 100000 ≤ N) (h : TM τ t n p) (g : FM τ 0 (-1)) (hp : PS σ τ o bk 1 lv 0 U L M e) (hse : 1 + e < 90) (hL : L < 400) (htop : τ 121 0 = 8) (hr : rk (tkK t n p) = 0) :
    ∃ τ', RE N 1 0 τ 0 τ' ∧ τ' 92 44 ≤ 0 ∧ TM τ' t n p ∧ FM τ' 0 (-1) ∧ τ' 92 41 = bk ∧ τ' 92 42 = ((400 * bk + L : Nat) : Int) ∧ (∀ i, i < L → CE (σ (o + 1) i) (τ' 119 (400 * bk + i)) (τ' 120 (400 * bk + i))) ∧ FrM bk τ' τ ∧ τ' 102 bk = U := by
  have hbk := hp.1
  have hLM : L = M + e := hp.2.2.2.2.2.2.2.2.1
  obtain ⟨⟨x, τ'⟩, hx, ρ, hρ, q1, hq⟩ := beh_pop (P := fun q => ∃ ρ, PP ρ τ 1 e 0 (400 * bk + M) ∧ q.1 = 0 ∧ ((ρ 121 (1 - 1) ≠ 7 ∧ q.2 = yset ρ 92 44 ((1 - 1 : Nat) : Int)) ∨ (ρ 121 (1 - 1) = 7 ∧ eqM q.2 (yset (yset ρ 92 44 ((1 - 1 : Nat) : Int)) 92 43 (((0 : Nat) : Int) - 1)) ∧ ((tkK t n p = 41 ∧ TM q.2 t n (tkE t n p) ∧ FM q.2 0 (-1)) ∨ (tkK t n p ≠ 41 ∧ TM q.2 t n p ∧ FM q.2 (bdK t n p) (tkA t n p)))))) hN h hp (by omega) hse hL (by omega) hr (by omega) (by rw [show (1 : Nat) - 1 = 0 from rfl]; omega) (by omega) (fun ρ hρ => (bhE_end hN (PP_TM hρ h) (PP_FM hρ g) hρ.1 (by omega) (by omega) hρ.2.1 (by omega)).mono (fun q hq => ⟨ρ, hρ, hq⟩))
  dsimp only at q1 hq
  subst q1
  have hrr : ρ 121 (1 - 1) = 8 := by
    rw [show (1 : Nat) - 1 = 0 from rfl, hρ.2.2.2.1 121 (by decide) (by decide) (by decide)]
    exact htop
  rcases hq with ⟨_, e2⟩ | ⟨w, _⟩
  · have e2' : τ' = yset ρ 92 44 0 := e2
    obtain ⟨a1, a2, a3, a4, a5, a6, a7, a8, a9, a10, a11, a12, a13⟩ := PP_PS hρ hp 1
    refine ⟨τ', RE_beh g.1 (PS_pos hp (by omega)) hx, ?_, ?_, ?_, ?_, ?_, ?_, ?_, ?_⟩
    · rw [e2', yset_at]; omega
    · rw [e2']; exact TM_set (PP_TM hρ h) (by omega) (by decide)
    · rw [e2']; exact FM_set (PP_FM hρ g) (by omega)
    · rw [e2', yset_ne (by omega)]; exact a2
    · rw [e2', yset_ne (by omega)]; exact a6
    · intro i hi
      rw [e2', yset_off 119 (by decide), yset_off 120 (by decide)]
      exact a10 i hi
    · rw [e2']; exact FrM_tr (PP_Fr hρ (by omega) (by omega)) (FrM_92 (by omega))
    · rw [e2', yset_ne (by omega)]; exact a5
  · rw [hrr] at w
    exact absurd w (by decide)
/-- what a rule is when it is read -/
def RU (σ τ : ySt) (T b L : Nat) : Prop := σ (T + 17) 2 = L ∧ τ 118 b = ((400 * b + L : Nat) : Int) ∧ L < 400 ∧ (∀ i, i < L → CE (σ (T + 18) i) (τ 119 (400 * b + i)) (τ 120 (400 * b + i))) ∧ WF (σ (T + 18)) L ∧ dp (σ (T + 18)) L = (if L = 0 then 0 else 1)
theorem mo_e_ok {N n p o b : Nat} {σ τ : ySt} {t : Nat → Int} (hN : 100000 ≤ N) (rt : RT σ τ t n p) (ho : o = 30 ∨ o = 50) (hb : b < 2) (h41 : τ 92 41 = b) (hL : σ o 2 = 0) (hU : σ o 3 = 0) (h102 : τ 102 b = 0) (h42 : τ 92 42 = ((400 * b : Nat) : Int)) :
    Ok (cRu_read N 64 0 o 0 σ) (fun r => Ok (mo_e N τ) (fun τ' => FrC o r.2 σ ∧ FrM b τ' τ ∧ (
      (r.1 = 1 ∧ ∃ q L : Nat, RT r.2 τ' t n q ∧ r.2 o 2 = L ∧ τ' 92 41 = b ∧ τ' 92 42 = ((400 * b + L : Nat) : Int) ∧ 1 ≤ L ∧ L < 400 ∧ (∀ i, i < L → CE (r.2 (o + 1) i) (τ' 119 (400 * b + i)) (τ' 120 (400 * b + i))) ∧ WF (r.2 (o + 1)) L ∧ dp (r.2 (o + 1)) L = 1 ∧ r.2 o 3 = τ' 102 b) ∨
      (r.1 = 1 ∧ ∃ q, tkK t n q ≠ 59 ∧ TC r.2 t n q ∧ TM τ' t n q ∧ FM τ' (bdK t n q) (tkA t n q)) ∨
      (r.1 = 0 ∧ RB r.2 τ' t n)))) := by
  obtain ⟨tc, tm, fc, fm⟩ := rt
  rw [mo_e_eq]
  have y44 : yset (yset τ 92 44 0) 92 43 0 92 44 = ((0 : Nat) : Int) := by rw [yset_ne (by omega), yset_at]; rfl
  generalize hτ6 : yset (yset (yset (yset (yset τ 92 44 0) 92 43 0) 121 0 8) 122 0 0) 92 44 (((0 : Nat) : Int) + 1) = τ6
  have em : (bnd (yset τ 92 44 0) fun σ1 => bnd (yset σ1 92 43 0) fun σ3 => bndO (mo_pushE 8 0 σ3) fun σ6 => loopS1 (moeF N) N 1 σ6) = loopS1 (moeF N) N 1 τ6 := by
    show bndO (mo_pushE 8 0 (yset (yset τ 92 44 0) 92 43 0)) _ = _
    rw [mo_pushE_eq y44 (by decide), bndO_s, hτ6]
  rw [em]
  have tm6 : TM τ6 t n p := by
    rw [← hτ6]
    exact TM_set (TM_set (TM_set (TM_set (TM_set tm (by omega) (by decide)) (by omega) (by decide)) (by omega) (by decide)) (by omega) (by decide)) (by omega) (by decide)
  have fm6 : FM τ6 0 (-1) := by
    rw [← hτ6]
    exact FM_set (FM_set (FM_set (FM_set (FM_set fm (by omega)) (by omega)) (by omega)) (by omega)) (by omega)
  have fr6 : FrM b τ6 τ := by
    rw [← hτ6]
    exact FrM_tr (FrM_tr (FrM_tr (FrM_tr (FrM_92 (by omega)) (FrM_92 (by omega))) (FrM_p (Or.inl rfl))) (FrM_p (Or.inr rfl))) (FrM_92 (by omega))
  have t8 : τ6 121 0 = 8 := by
    rw [← hτ6, yset_ne (by omega), yset_ne (by omega), yset_at]
  have ps6 : PS σ τ6 o b 1 1 0 0 0 0 0 := by
    refine ⟨hb, ?_, hL, hU, ?_, ?_, ?_, ?_, rfl, fun i hi => absurd hi (Nat.not_lt_zero i), fun i hi => absurd hi (Nat.not_lt_zero i), fun i hi => absurd hi (Nat.not_lt_zero i), fun i hi => absurd hi (Nat.not_lt_zero i)⟩
    · rw [← hτ6, yset_ne (by omega), yset_ne (by omega), yset_ne (by omega), yset_ne (by omega), yset_ne (by omega)]; exact h41
    · rw [← hτ6, yset_ne (by omega), yset_ne (by omega), yset_ne (by omega), yset_ne (by omega), yset_ne (by omega)]; exact h102
    · rw [← hτ6, yset_ne (by omega), yset_ne (by omega), yset_ne (by omega), yset_ne (by omega), yset_ne (by omega)]; exact h42
    · rw [← hτ6, yset_at]; rfl
    · rw [← hτ6, yset_ne (by omega), yset_ne (by omega), yset_ne (by omega), yset_at]; rfl
  have pr : PR 0 0 σ τ6 t n p o b 1 0 0 := by
    refine ⟨⟨tc, tm6, fc, fm6⟩, ps6, Nat.le_refl 1, by simp only [sz]; omega, by omega, by omega, by omega, Int.le_refl 0, Int.le_refl 0, ⟨Or.inr ?_, fun q => absurd q (by decide)⟩, ho⟩
    show 6 < τ6 121 0
    rw [t8]
    decide
  refine (cRu_read_ok hN 64 0 0 (by omega) (by omega) (by omega) σ τ6 t n p o b 1 0 0 pr).mono ?_
  rintro ⟨r, σ'⟩ hpo
  rcases hpo with ⟨hr, U', τ2, p2, L2, M2, e2, m2, re2, ⟨tc2, tm2, fcc2, fmm2⟩, ps2, u3, u4, l2, d2, mm2, ee2, fp2, fc2, fm2, tk2⟩ | ⟨hr, τ2, x, m2, U', re2, rb, u3, u4, mm2, fc2, fm2⟩
  · dsimp only at *
    simp only [cc] at l2
    simp only [mm] at mm2
    simp only [ee] at ee2
    have t82 : τ2 121 0 = 8 := by rw [(fp2 0 (by omega)).1]; exact t8
    rcases tk2 with w | ⟨_, w2, w3⟩
    · have hr0 : rk (tkK t n p2) = 0 := by
        have := (rk_rg (tkK t n p2)).1
        omega
      obtain ⟨τ3, q1, q2, q3, q4, q5, q6, q7, q8, q9⟩ := beh_end8 hN tm2 fmm2 ps2 (by omega) (by omega) t82 hr0
      refine ⟨τ3, RE_end hN (by omega) (RE_tr re2 q1) (Or.inr q2), fc2, FrM_tr (FrM_tr fr6 fm2) q8, Or.inl ⟨hr, p2, L2, ⟨tc2, q3, fcc2, q4⟩, ps2.2.2.1, q5, q6, ?_, by omega, q7, ps2.2.2.2.2.2.2.2.2.2.2.2.2, d2, by rw [q9]; exact ps2.2.2.2.1⟩⟩
      by_cases c : L2 = 0
      · rw [c] at d2
        have d3 : (0 : Int) = 0 + 1 := d2
        omega
      · omega
    · obtain ⟨τ3, q1, q2, q3, q4⟩ := beh_cmp tm2 fmm2 (PS_pos ps2 (by omega)) w2 w3 b
      refine ⟨τ3, RE_end hN (by omega) (RE_tr re2 q1) (Or.inl (by rw [q3.1]; exact bdK_0 t n p2)), fc2, FrM_tr (FrM_tr fr6 fm2) q4, Or.inr (Or.inl ⟨hr, p2, ?_, tc2, q2, q3⟩)⟩
      intro c
      rw [c] at w2
      exact absurd w2 (by decide)
  · dsimp only at *
    simp only [ff] at mm2
    exact ⟨τ2, RE_end hN (by omega) re2 (Or.inl rb.2.2.2), fc2, FrM_tr fr6 fm2, Or.inr (Or.inr ⟨hr, rb⟩)⟩
