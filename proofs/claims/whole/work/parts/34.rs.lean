/-! the rule: from an operator to the next operand, on the reference's side -/
theorem TM_of {τ ρ : ySt} {t : Nat → Int} {n p : Nat} (h : TM τ t n p) (h94 : ρ 94 = τ 94) (h92 : ∀ k, (k = 3 ∨ (6 ≤ k ∧ k ≤ 10)) → ρ 92 k = τ 92 k) : TM ρ t n p := by
  unfold TM at h ⊢
  rw [h94, h92 3 (by omega), h92 6 (by omega), h92 8 (by omega), h92 7 (by omega), h92 10 (by omega), h92 9 (by omega)]
  exact h
theorem PP_TM {ρ τ : ySt} {s e b m : Nat} {t : Nat → Int} {n p : Nat} (hp : PP ρ τ s e b m) (h : TM τ t n p) : TM ρ t n p :=
  TM_of h (hp.2.2.2.1 94 (by decide) (by decide) (by decide)) (fun k hk => hp.2.2.2.2.1 k (by omega) (by omega) (by omega))
theorem PP_FM {ρ τ : ySt} {s e b m : Nat} (hp : PP ρ τ s e b m) {f w : Int} (h : FM τ f w) : FM ρ f w :=
  ⟨(hp.2.2.2.2.1 4 (by omega) (by omega) (by omega)).trans h.1, (hp.2.2.2.2.1 5 (by omega) (by omega) (by omega)).trans h.2⟩
theorem PP_Fr {ρ τ : ySt} {s e b m bk : Nat} (hp : PP ρ τ s e b m) (h1 : 400 * bk ≤ m) (h2 : m + e ≤ 400 * bk + 400) : FrM bk ρ τ :=
  ⟨fun i a _ c d _ _ => hp.2.2.2.1 i a c d, fun j _ => by rw [hp.2.2.2.1 102 (by decide) (by decide) (by decide)], fun j a => hp.2.2.2.2.2.1 j (by omega), fun k _ a c d => hp.2.2.2.2.1 k a c d⟩
theorem PP_PS {ρ τ σ : ySt} {o bk s lv b U L M e : Nat} (hp : PP ρ τ s e b (400 * bk + M)) (h : PS σ τ o bk s lv b U L M e) (lv' : Nat) : PS σ ρ o bk s lv' b U L L 0 := by
  obtain ⟨p1, p2, p3, p4, p5, p6, p7⟩ := hp
  obtain ⟨a1, a2, a3, a4, a5, a6, a7, a8, a9, a10, a11, a12, a13⟩ := h
  refine ⟨a1, by rw [p5 41 (by omega) (by omega) (by omega)]; exact a2, a3, a4, by rw [p4 102 (by decide) (by decide) (by decide)]; exact a5, by rw [p3]; omega, by rw [p1]; rfl, by rw [p2]; rfl, rfl, fun i hi => ?_, fun j hj => absurd hj (Nat.not_lt_zero j), fun j hj => absurd hj (Nat.not_lt_zero j), a13⟩
  by_cases c : i < M
  · obtain ⟨q1, q2⟩ := p6 (400 * bk + i) (by omega)
    rw [q1, q2]
    exact a10 i c
  · obtain ⟨q1, q2⟩ := p7 (i - M) (by omega)
    have := a11 (i - M) (by omega)
    rw [show 400 * bk + i = 400 * bk + M + (i - M) from by omega, q1, q2]
    rw [show M + (i - M) = i from by omega] at this
    exact Or.inr (Or.inr (Or.inr (Or.inr (Or.inr this))))
/-- a push over a pile of which nothing waits -/
theorem PS_push {σ ρ τ' : ySt} {o bk s lv b U L : Nat} {r c : Int} (h : PS σ ρ o bk s lv b U L L 0) (he : eqM τ' (yset (yset (yset ρ 121 s r) 122 s c) 92 44 (s + 1))) (lv' : Nat) : PS σ τ' o bk (s + 1) lv' b U L L 0 ∧ τ' 121 s = r ∧ τ' 122 s = c ∧ FrM bk τ' ρ ∧ FrP s τ' ρ := by
  obtain ⟨a1, a2, a3, a4, a5, a6, a7, a8, a9, a10, a11, a12, a13⟩ := h
  have e119 : τ' 119 = ρ 119 := by rw [he.1 119 (by decide), yset_off 119 (by decide), yset_off 119 (by decide), yset_off 119 (by decide)]
  have e120 : τ' 120 = ρ 120 := by rw [he.1 120 (by decide), yset_off 120 (by decide), yset_off 120 (by decide), yset_off 120 (by decide)]
  have e102 : τ' 102 = ρ 102 := by rw [he.1 102 (by decide), yset_off 102 (by decide), yset_off 102 (by decide), yset_off 102 (by decide)]
  refine ⟨⟨a1, ?_, a3, a4, by rw [e102]; exact a5, ?_, ?_, ?_, rfl, fun i hi => by rw [e119, e120]; exact a10 i hi, fun j hj => absurd hj (Nat.not_lt_zero j), fun j hj => absurd hj (Nat.not_lt_zero j), a13⟩, ?_, ?_, ?_, ?_⟩
  · rw [he.2 41 (by omega), yset_ne (by omega), yset_ne (by omega), yset_ne (by omega)]; exact a2
  · rw [he.2 42 (by omega), yset_ne (by omega), yset_ne (by omega), yset_ne (by omega)]; exact a6
  · rw [he.2 44 (by omega), yset_at]; omega
  · rw [he.2 43 (by omega), yset_ne (by omega), yset_ne (by omega), yset_ne (by omega)]; exact a8
  · rw [he.1 121 (by decide), yset_ne (by omega), yset_ne (by omega), yset_at]
  · rw [he.1 122 (by decide), yset_ne (by omega), yset_at]
  · exact FrM_tr (FrM_tr (FrM_tr (FrM_p (Or.inl rfl)) (FrM_p (Or.inr rfl))) (FrM_92 (by omega))) (FrM_eqM he)
  · intro j hj
    rw [he.1 121 (by decide), he.1 122 (by decide), yset_ne (by omega), yset_ne (by omega), yset_ne (by omega), yset_ne (by omega), yset_ne (by omega), yset_ne (by omega)]
    exact ⟨rfl, rfl⟩
theorem PP_FrP {ρ τ : ySt} {s e b m : Nat} (hp : PP ρ τ s e b m) (s' : Nat) : FrP s' ρ τ := fun j _ => by
  rw [hp.2.2.2.1 121 (by decide) (by decide) (by decide), hp.2.2.2.1 122 (by decide) (by decide) (by decide)]
  exact ⟨rfl, rfl⟩
theorem beh_pop {N n p o bk s lv b U L M e : Nat} {r : Int} {σ τ : ySt} {t : Nat → Int} {P : Int × ySt → Prop} (hN : 100000 ≤ N) (h : TM τ t n p) (hp : PS σ τ o bk s lv b U L M e) (h1 : 1 ≤ s) (hse : s + e < 90) (hL : L < 400) (hb : b ≤ 7) (hr : rk (tkK t n p) = r) (hrl : r ≤ lv) (hbase : τ 121 (s - 1) < r ∨ 6 < τ 121 (s - 1)) (hc : r = 4 → mo_isCompared N τ = some 0) (hP : ∀ ρ, PP ρ τ s e b (400 * bk + M) → Ok (bhE N r ρ) P) : Ok (mo_behindUnit N τ) P := by
  obtain ⟨a1, a2, a3, a4, a5, a6, a7, a8, a9, a10, a11, a12, a13⟩ := hp
  have lp : Ok (loopS0 (bhF N r) N τ) P := bh_pop e (400 * bk + M) N τ (by omega) a7 h1 (by omega) a6 (by omega) a8 (by omega) (fun j hj => ⟨by have := (a12 j hj).1; omega, (a12 j hj).2⟩) (by omega) hP
  rw [mo_behindUnit_eq, mo_rankHere_ok h, bndO_s, hr]
  by_cases c : r = 4
  · rw [if_neg (by omega), hc c, bndO_s, if_pos rfl]
    exact lp
  · rw [if_pos c]
    exact lp
theorem PS_pos {σ τ : ySt} {o bk s lv b U L M e : Nat} (h : PS σ τ o bk s lv b U L M e) (h1 : 1 ≤ s) : 0 < τ 92 44 := by
  rw [h.2.2.2.2.2.2.1]
  omega
theorem beh_op {N n p o bk s lv b U L M e : Nat} {r : Int} {σ τ : ySt} {t : Nat → Int} (hN : 100000 ≤ N) (h : TM τ t n p) (g : FM τ 0 (-1)) (hp : PS σ τ o bk s lv b U L M e) (h1 : 1 ≤ s) (hse : s + e < 90) (hL : L < 400) (hb : b ≤ 7) (hr : rk (tkK t n p) = r) (hr1 : 1 ≤ r) (hrl : r ≤ lv) (hbase : τ 121 (s - 1) < r ∨ 6 < τ 121 (s - 1)) (hc : r = 4 → mo_isCompared N τ = some 0) (lv' : Nat) :
    ∃ τ', RE N 1 0 τ 1 τ' ∧ TM τ' t n (tkE t n p) ∧ FM τ' 0 (-1) ∧ PS σ τ' o bk (s + 1) lv' b U L L 0 ∧ τ' 121 s = r ∧ τ' 122 s = opc (tkK t n p) ∧ FrM bk τ' τ ∧ FrP s τ' τ := by
  have hbk := hp.1
  have hLM : L = M + e := hp.2.2.2.2.2.2.2.2.1
  obtain ⟨⟨x, τ'⟩, hx, q1, ρ, hρ, q2, q3, q4⟩ := beh_pop (P := fun q => q.1 = 1 ∧ ∃ ρ, PP ρ τ s e b (400 * bk + M) ∧ TM q.2 t n (tkE t n p) ∧ FM q.2 0 (-1) ∧ eqM q.2 (yset (yset (yset ρ 121 s r) 122 s (opc (tkK t n p))) 92 44 (s + 1))) hN h hp h1 hse hL hb hr hrl hbase hc (fun ρ hρ => (bhE_op hN (PP_TM hρ h) (PP_FM hρ g) hρ.1 (by omega) hr hr1).mono (fun q hq => ⟨hq.1, ρ, hρ, hq.2⟩))
  dsimp only at q1 q2 q3 q4
  subst q1
  obtain ⟨z1, z2, z3, z4, z5⟩ := PS_push (PP_PS hρ hp lv) q4 lv'
  exact ⟨τ', RE_beh g.1 (PS_pos hp h1) hx, q2, q3, z1, z2, z3, FrM_tr (PP_Fr hρ (by omega) (by omega)) z4, FrP_tr (PP_FrP hρ s) z5 (Nat.le_refl s)⟩
