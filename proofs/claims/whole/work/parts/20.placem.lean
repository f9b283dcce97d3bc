theorem mo_here_okI {N a b m : Nat} {B C : Int} {σ : ySt} (hN : 100000 ≤ N) (hB : B = b) (hC : C = m) (ha : (yKd a).1 = 21 ∧ a < 150) (hm : b + m ≤ (yKd a).2) (hl : (yKd a).2 ≤ 1000) :
    mo_here N a B C σ = some (nf (fun k => decide (σ 92 8 = 2) && decide (σ a (b + k) = σ 92 10)) m) := by
  subst hB hC
  exact mo_here_ok hN ha hm hl
theorem mo_placeHere_ok {N b m : Nat} {σ : ySt} (hN : 100000 ≤ N) (hb : b < 2) (h41 : σ 92 41 = b) (hc : σ 95 b = m) (hm : m ≤ 6) :
    mo_placeHere N σ = some (nf (fun k => decide (σ 92 8 = 2) && decide (σ 107 (6 * b + k) = σ 92 10)) m) := by
  apply Ok_eq
  unfold mo_placeHere
  have e : (yKd 107).2 = 12 := by decide
  have e1 : (yKd 107).1 = 21 ∧ 107 < 150 := by decide
  rw [Ok_chkI, Ok_chkA, h41, Int.toNat_natCast, mo_here_okI (b := 6 * b) (m := m) hN (by omega) hc e1 (by omega) (by omega), bndO_s, Ok_some]
  exact ⟨by omega, by omega, rfl⟩
/-- the rest of the model, its tape apart -/
def eqM (τ ρ : ySt) : Prop := (∀ i, i ≠ 92 → τ i = ρ i) ∧ ∀ k, (k < 4 ∨ 10 < k) → τ 92 k = ρ 92 k
theorem eqM_of {σ τ : ySt} (h : offM σ τ) : eqM τ σ := h
theorem eqM_tr {σ τ ρ : ySt} (h : eqM σ τ) (g : eqM τ ρ) : eqM σ ρ := ⟨fun i q => (h.1 i q).trans (g.1 i q), fun k q => (h.2 k q).trans (g.2 k q)⟩
theorem eqM_set {τ ρ : ySt} (h : eqM τ ρ) {i k : Nat} {z : Int} (hi : i ≠ 92) : eqM (yset τ i k z) (yset ρ i k z) := by
  refine ⟨fun j hj => ?_, fun j hj => ?_⟩
  · funext x
    unfold yset
    rw [h.1 j hj]
  · rw [yset_ne (Or.inl (Ne.symm hi)), yset_ne (Or.inl (Ne.symm hi))]
    exact h.2 j hj
def updPlM (σ : ySt) (b m : Nat) (x z : Int) : ySt := yset (yset (yset σ 107 (6 * b + m) x) 106 (6 * b + m) z) 95 b (m + 1)
theorem mo_readPlace_ok {N n p b m : Nat} {σ : ySt} {t : Nat → Int} (hN : 100000 ≤ N) (h : TM σ t n p) (g : σ 92 4 = 0) (hb : b < 2) (h41 : σ 92 41 = b) (hc : σ 95 b = m) (hm : m < 6) :
    Ok (mo_readPlace N σ) (fun τ => (tkK t n p = 3 ∧ nf (fun k => decide (σ 92 8 = 2) && decide (σ 107 (6 * b + k) = σ 92 10)) m = -1 ∧ (∃ (q : Nat) (z : Int), ((tkK t n (tkE t n p) = 101 ∧ z = 1 ∧ q = tkE t n (tkE t n p)) ∨ (tkK t n (tkE t n p) ≠ 101 ∧ z = 0 ∧ q = tkE t n p)) ∧ TM τ t n q ∧ eqM τ (updPlM σ b m (enc8 (tkW t n p)) z)) ∧ τ 92 4 = 0 ∧ τ 92 5 = σ 92 5) ∨ (((tkK t n p = 3 ∧ 0 ≤ nf (fun k => decide (σ 92 8 = 2) && decide (σ 107 (6 * b + k) = σ 92 10)) m ∧ FM τ 3 (tkA t n p)) ∨ (tkK t n p ≠ 3 ∧ FM τ (bdK t n p) (tkA t n p))) ∧ TM τ t n p ∧ ∃ x z : Int, (z = 0 ∨ z = 1) ∧ eqM τ (updPlM σ b m x z))) := by
  have hbd := bdK_rg t n p
  have hr := nf_rg (fun k => decide (σ 92 8 = 2) && decide (σ 107 (6 * b + k) = σ 92 10)) m
  have hix : ((6 : Int) * (b : Int) + (m : Int)).toNat = 6 * b + m := by omega
  have tail : ∀ (τ : ySt) (x z : Int), eqM τ (yset (yset σ 107 (6 * b + m) x) 106 (6 * b + m) z) → ∀ (R : ySt → Prop), R (yset τ 95 b ((m : Int) + 1)) → Ok (chkA 2 (τ 92 41) <| chkI ((τ 95 ((τ 92 41)).toNat) + 1) <| chkA 2 (τ 92 41) <| bnd (yset τ 95 ((τ 92 41)).toNat ((τ 95 ((τ 92 41)).toNat) + 1)) fun σ28 => some σ28) R := by
    intro τ x z he R hR
    have e1 : τ 92 41 = b := by rw [he.2 41 (by omega), yset_ne (by omega), yset_ne (by omega)]; exact h41
    have e2 : τ 95 b = m := by rw [he.1 95 (by decide), yset_off 95 (by decide), yset_off 95 (by decide)]; exact hc
    rw [e1, Int.toNat_natCast, e2, Ok_chkA, Ok_chkI, Ok_chkA, Ok_bnd, Ok_some]
    exact ⟨by omega, by omega, by omega, hR⟩
  unfold mo_readPlace
  rw [h41, Int.toNat_natCast, hc, Ok_chkI, Ok_chkA, Ok_chkI, mo_placeHere_ok hN hb h41 hc (by omega), bndO_s, hix]
  refine ⟨by omega, by omega, by omega, ?_⟩
  refine Ok_jq1 (fun y => (y = 0 ∧ nf (fun k => decide (σ 92 8 = 2) && decide (σ 107 (6 * b + k) = σ 92 10)) m = -1) ∨ (y = 1 ∧ 0 ≤ nf (fun k => decide (σ 92 8 = 2) && decide (σ 107 (6 * b + k) = σ 92 10)) m)) (fun y hy => ?_) (fun x hx => ?_)
  · rw [Ok_bndR]
    refine (mo_fresh_ok hN h g y).mono ?_
    rintro ⟨r, τ⟩ ⟨h1, h2⟩
    dsimp only at h1 h2 ⊢
    have hI : ((6 : Int) * (b : Int) + (m : Int)) = ((6 * b + m : Nat) : Int) := by omega
    rw [Ok_chkA, Ok_bnd, mo_isGood_eq, bndO_s]
    refine ⟨by omega, ?_⟩
    rw [yset_ne (by omega)]
    have heq : ∀ z : Int, eqM (yset (yset τ 107 (6 * b + m) r) 106 (6 * b + m) z) (yset (yset σ 107 (6 * b + m) r) 106 (6 * b + m) z) := fun z => eqM_set (eqM_set (eqM_of h1) (by decide)) (by decide)
    have ts : ∀ {q : Nat} {z : Int}, TM τ t n q → TM (yset (yset τ 107 (6 * b + m) r) 106 (6 * b + m) z) t n q := fun hq => TM_set (TM_set hq (by omega) (by decide)) (by omega) (by decide)
    have fs : ∀ {z : Int} {f w : Int}, FM τ f w → FM (yset (yset (yset τ 107 (6 * b + m) r) 106 (6 * b + m) z) 95 b ((m : Int) + 1)) f w := by
      intro z f w hf
      unfold FM at hf ⊢
      rw [yset_ne (by omega), yset_ne (by omega), yset_ne (by omega), yset_ne (by omega), yset_ne (by omega), yset_ne (by omega)]
      exact hf
    refine Ok_jq1 (fun z => (z = 0 ∨ z = 1) ∧ (z = 1 → TM τ t n (tkE t n p) ∧ τ 92 4 = 0 ∧ tkK t n (tkE t n p) = 101) ∧ (τ 92 4 = 0 → z = 0 → tkK t n (tkE t n p) ≠ 101)) (fun z hz => ?_) (fun x hx => ?_)
    · rw [Ok_chk, Ok_chkA, Ok_bnd, Ok_chkA]
      refine ⟨hz.1, by omega, by omega, ?_⟩
      refine Ok_jq1 (fun ρ => eqM ρ (yset (yset σ 107 (6 * b + m) r) 106 (6 * b + m) z) ∧ ((z = 0 ∧ ρ = yset (yset τ 107 (6 * b + m) r) 106 (6 * b + m) z) ∨ (z = 1 ∧ TM ρ t n (tkE t n (tkE t n p)) ∧ ρ 92 4 = 0 ∧ ρ 92 5 = τ 92 5))) (fun ρ hρ => ?_) (fun x hx => ?_)
      · refine tail ρ r z hρ.1 _ ?_
        have he : eqM (yset ρ 95 b ((m : Int) + 1)) (updPlM σ b m r z) := eqM_set hρ.1 (by decide)
        rcases hρ.2 with ⟨z0, rfl⟩ | ⟨z1, tm, gg, g5⟩
        · rcases h2 with ⟨k3, y0, rw8, tm, gg, g5⟩ | ⟨k3, y0, tm, ff⟩ | ⟨k3, tm, ff⟩
          · refine Or.inl ⟨k3, ?_, ⟨_, z, Or.inr ⟨hz.2.2 gg z0, z0, rfl⟩, TM_set (ts tm) (by omega) (by decide), by rw [← rw8]; exact he⟩, ?_⟩
            · omega
            · rw [yset_ne (by omega), yset_ne (by omega), yset_ne (by omega), yset_ne (by omega), yset_ne (by omega), yset_ne (by omega)]; exact ⟨gg, g5⟩
          · exact Or.inr ⟨Or.inl ⟨k3, by omega, fs ff⟩, TM_set (ts tm) (by omega) (by decide), r, z, hz.1, he⟩
          · exact Or.inr ⟨Or.inr ⟨k3, fs ff⟩, TM_set (ts tm) (by omega) (by decide), r, z, hz.1, he⟩
        · have hz1 := hz.2.1 z1
          rcases h2 with ⟨k3, y0, rw8, tm2, gg2, g52⟩ | ⟨k3, y0, tm2, ff⟩ | ⟨k3, tm2, ff⟩
          · refine Or.inl ⟨k3, by omega, ⟨_, z, Or.inl ⟨hz1.2.2, z1, rfl⟩, TM_set tm (by omega) (by decide), by rw [← rw8]; exact he⟩, ?_⟩
            rw [yset_ne (by omega), yset_ne (by omega)]; exact ⟨gg, g5.trans g52⟩
          · have := ff.1; omega
          · have := ff.1; omega
      · rw [yset_at, Ok_ite]
        refine ⟨fun q => hx _ ⟨heq z, Or.inl ⟨q, rfl⟩⟩, fun q => ?_⟩
        have z1 : z = 1 := by have := hz.1; omega
        have hz1 := hz.2.1 z1
        rw [Ok_bndO]
        refine (TM_go hN (ts (z := z) hz1.1)).mono ?_
        rintro ρ ⟨d1, d2, d3, d4⟩
        refine hx _ ⟨eqM_tr (eqM_of d1) (heq z), Or.inr ⟨z1, d2, ?_, ?_⟩⟩
        · rw [d3, yset_ne (by omega), yset_ne (by omega)]
          exact hz1.2.1
        · rw [d4, yset_ne (by omega), yset_ne (by omega)]
    · rw [Ok_ite, ite01_0]
      refine ⟨fun q => hx 0 ⟨Or.inl rfl, fun q2 => by omega, fun q2 => absurd q2 q⟩, fun q => ?_⟩
      have gg := Classical.not_not.mp q
      have tm : TM τ t n (tkE t n p) := by
        rcases h2 with ⟨_, _, _, tm, _, _⟩ | ⟨_, _, _, ff⟩ | ⟨_, _, ff⟩
        · exact tm
        · have := ff.1; omega
        · have := ff.1; omega
      have tm' : TM (yset τ 107 (6 * b + m) r) t n (tkE t n p) := TM_set tm (by omega) (by decide)
      rw [isW_empty tm', bndO_s, Ok_ite, ite01_0]
      exact ⟨fun q2 => hx 0 ⟨Or.inl rfl, fun q3 => by omega, fun _ _ => q2⟩, fun q2 => hx 1 ⟨Or.inr rfl, fun _ => ⟨tm, gg, Classical.not_not.mp q2⟩, fun _ q3 => by omega⟩⟩
  · rw [Ok_ite]
    exact ⟨fun q => hx 0 (Or.inl ⟨rfl, by omega⟩), fun q => hx 1 (Or.inr ⟨rfl, by omega⟩)⟩
