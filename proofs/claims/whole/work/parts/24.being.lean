/-! a new name: the first steps of lines "person" and "dog" -/
theorem mo_dogHere_ok {N b m : Nat} {σ : ySt} (hN : 100000 ≤ N) (hb : b < 2) (h41 : σ 92 41 = b) (hc : σ 98 b = m) (hm : m ≤ 3) :
    mo_here N 109 (3 * (σ 92 41)) (σ 98 ((σ 92 41)).toNat) σ = some (nf (fun k => decide (σ 92 8 = 2) && decide (σ 109 (3 * b + k) = σ 92 10)) m) := by
  have e : (yKd 109).2 = 6 := by decide
  have e1 : (yKd 109).1 = 21 ∧ 109 < 150 := by decide
  rw [h41, Int.toNat_natCast, mo_here_okI (b := 3 * b) (m := m) hN (by omega) hc e1 (by omega) (by omega)]
theorem mo_being_ok {N n p b mq md : Nat} {σ : ySt} {t : Nat → Int} (hN : 100000 ≤ N) (h : TM σ t n p) (g : σ 92 4 = 0) (hb : b < 2) (h41 : σ 92 41 = b) (c97 : σ 97 b = mq) (hmq : mq ≤ 5) (c98 : σ 98 b = md) (hmd : md ≤ 3) :
    Ok (mo_being N σ) (fun r => offM σ r.2 ∧ ((tkK t n p = 3 ∧ (nf (fun k => decide (σ 92 8 = 2) && decide (σ 108 (5 * b + k) = σ 92 10)) mq = -1 ∧ nf (fun k => decide (σ 92 8 = 2) && decide (σ 109 (3 * b + k) = σ 92 10)) md = -1) ∧ r.1 = enc8 (tkW t n p) ∧ TM r.2 t n (tkE t n p) ∧ r.2 92 4 = 0 ∧ r.2 92 5 = σ 92 5) ∨ (tkK t n p = 3 ∧ (0 ≤ nf (fun k => decide (σ 92 8 = 2) && decide (σ 108 (5 * b + k) = σ 92 10)) mq ∨ 0 ≤ nf (fun k => decide (σ 92 8 = 2) && decide (σ 109 (3 * b + k) = σ 92 10)) md) ∧ TM r.2 t n p ∧ FM r.2 3 (tkA t n p)) ∨ (tkK t n p ≠ 3 ∧ TM r.2 t n p ∧ FM r.2 (bdK t n p) (tkA t n p)))) := by
  have r1 := nf_rg (fun k => decide (σ 92 8 = 2) && decide (σ 108 (5 * b + k) = σ 92 10)) mq
  have r2 := nf_rg (fun k => decide (σ 92 8 = 2) && decide (σ 109 (3 * b + k) = σ 92 10)) md
  unfold mo_being
  rw [mo_personHere_ok hN hb h41 c97 hmq, bndO_s, mo_dogHere_ok hN hb h41 c98 hmd]
  generalize nf (fun k => decide (σ 92 8 = 2) && decide (σ 108 (5 * b + k) = σ 92 10)) mq = P at r1 ⊢
  generalize nf (fun k => decide (σ 92 8 = 2) && decide (σ 109 (3 * b + k) = σ 92 10)) md = D at r2 ⊢
  refine Ok_jq1 (fun y => (y = 0 ∧ P = -1 ∧ D = -1) ∨ (y = 1 ∧ (0 ≤ P ∨ 0 ≤ D))) (fun y hy => ?_) (fun x hx => ?_)
  · rw [Ok_bndR]
    refine (mo_fresh_ok hN h g y).mono ?_
    rintro ⟨r, τ⟩ ⟨h1, h2⟩
    dsimp only at h1 h2 ⊢
    rw [Ok_some]
    refine ⟨h1, ?_⟩
    rcases h2 with ⟨k, y0, e, tm, g4, g5⟩ | ⟨k, y0, tm, f⟩ | ⟨k, tm, f⟩
    · exact Or.inl ⟨k, by omega, e, tm, g4, g5⟩
    · exact Or.inr (Or.inl ⟨k, by omega, tm, f⟩)
    · exact Or.inr (Or.inr ⟨k, tm, f⟩)
  · rw [Ok_ite]
    refine ⟨fun q => hx 1 (Or.inr ⟨rfl, Or.inl q⟩), fun q => ?_⟩
    rw [h41, Ok_chkI, Ok_chkA, bndO_s, Ok_ite]
    exact ⟨by omega, by omega, fun q2 => hx 0 (Or.inl ⟨rfl, by omega, by omega⟩), fun q2 => hx 1 (Or.inr ⟨rfl, Or.inr (by omega)⟩)⟩
theorem L_new {N n p o a b m : Nat} {σ τ : ySt} {t : Nat → Int} (hN : 100000 ≤ N) (h : RT σ τ t n p) (hr : NR σ o τ a b m) (ho : o = 14 ∨ o = 16 ∨ o = 18 ∨ o = 34 ∨ o = 36 ∨ o = 38) (hm : m ≤ (yKd (o + 1)).2) (hl : (yKd (o + 1)).2 ≤ 1000) :
    Ok (cRd_isNew N o σ) (fun r => (r = (1, σ) ∧ tkK t n p = 3 ∧ nf (fun k => decide (τ 92 8 = 2) && decide (τ a (b + k) = τ 92 10)) m = -1) ∨ (r.1 = 0 ∧ eqC r.2 σ ∧ ((tkK t n p = 3 ∧ 0 ≤ nf (fun k => decide (τ 92 8 = 2) && decide (τ a (b + k) = τ 92 10)) m ∧ FC r.2 3 (tkA t n p)) ∨ (tkK t n p ≠ 3 ∧ FC r.2 (bdK t n p) (tkA t n p))))) := by
  obtain ⟨tc, tm, fc, fm⟩ := h
  have h10 : tkK t n p = 3 ∨ 100 ≤ tkK t n p → τ 92 10 = enc8 (tkW t n p) := tm.2.2.2.2.2.2.2.2.2.1
  have same : tkK t n p = 3 → nf (fun k => decide (σ (o + 1) k = enc5 (tkW t n p))) m = nf (fun k => decide (τ 92 8 = 2) && decide (τ a (b + k) = τ 92 10)) m := fun q => NR_find hr (tkW_wd (Or.inl q)).1 ((TM_tok tm).2.2.1.mpr q) (h10 (Or.inl q))
  refine (cRd_isNew_ok hN tc ho hr.1 hm hl).mono ?_
  rintro r ⟨o1, d⟩
  rcases d with ⟨k, v, e⟩ | ⟨k, v, e, f⟩ | ⟨k, e, f⟩
  · exact Or.inl ⟨e, k, by rw [← same k]; exact v⟩
  · exact Or.inr ⟨e, o1.1, Or.inl ⟨k, by rw [← same k]; exact v, f⟩⟩
  · exact Or.inr ⟨e, o1.1, Or.inr ⟨k, f⟩⟩
