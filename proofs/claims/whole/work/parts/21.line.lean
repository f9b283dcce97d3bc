/-! lines "hour" and "strokes", and what both sides of a line come to -/
theorem Ok_swap {α β : Type} {x : Option α} {y : Option β} {R : α → β → Prop} : Ok x (fun a => Ok y (fun b => R a b)) ↔ Ok y (fun b => Ok x (fun a => R a b)) :=
  ⟨fun ⟨a, h1, b, h2, h3⟩ => ⟨b, h2, a, h1, h3⟩, fun ⟨b, h2, a, h1, h3⟩ => ⟨a, h1, b, h2, h3⟩⟩
/-- both stand at the token behind p, and nothing is wrong -/
def RT (σ τ : ySt) (t : Nat → Int) (n p : Nat) : Prop := TC σ t n p ∧ TM τ t n p ∧ FC σ 0 (-1) ∧ FM τ 0 (-1)
/-- both have found the same fault -/
def RB (σ τ : ySt) (t : Nat → Int) (n : Nat) : Prop := (∃ p, TM τ t n p) ∧ σ 1 6 = τ 92 4 ∧ σ 1 7 = τ 92 5 ∧ τ 92 4 ≠ 0
theorem RB_of {σ τ : ySt} {t : Nat → Int} {n p : Nat} {f w : Int} (h : TM τ t n p) (hc : FC σ f w) (hm : FM τ f w) (hf : f ≠ 0) : RB σ τ t n := ⟨⟨p, h⟩, by rw [hc.1, hm.1], by rw [hc.2, hm.2], by rw [hm.1]; exact hf⟩
theorem bdK_0 (t : Nat → Int) (n p : Nat) : bdK t n p ≠ 0 := by
  have := bdK_rg t n p
  omega
/-- the class's store, its tape apart -/
def eqC (σ ρ : ySt) : Prop := ∀ i, i ≠ 1 → σ i = ρ i
theorem eqC_of {σ τ : ySt} (h : offC σ τ) : eqC τ σ := h.1
theorem eqC_tr {σ τ ρ : ySt} (h : eqC σ τ) (g : eqC τ ρ) : eqC σ ρ := fun i q => (h i q).trans (g i q)
theorem eqC_rfl (σ : ySt) : eqC σ σ := fun _ _ => rfl
theorem eqC_set {σ ρ : ySt} (h : eqC σ ρ) {i k : Nat} {z : Int} : eqC (yset σ i k z) (yset ρ i k z) := by
  intro j hj
  funext x
  unfold yset
  rw [h j hj]
theorem FC_set {σ : ySt} {f w : Int} (h : FC σ f w) {i k : Nat} {z : Int} (hi : i ≠ 1) : FC (yset σ i k z) f w := by
  unfold FC at h ⊢
  rw [yset_off 1 (Ne.symm hi)]
  exact h
theorem FM_set {σ : ySt} {f w : Int} (h : FM σ f w) {i k : Nat} {z : Int} (hi : i ≠ 92 ∨ (k ≠ 4 ∧ k ≠ 5)) : FM (yset σ i k z) f w := by
  unfold FM at h ⊢
  rw [yset_ne (by omega), yset_ne (by omega)]
  exact h
theorem FC_of {σ τ : ySt} {f w : Int} (h : FC σ f w) (h6 : τ 1 6 = σ 1 6) (h7 : τ 1 7 = σ 1 7) : FC τ f w := ⟨h6.trans h.1, h7.trans h.2⟩
theorem cRd_readHour_ok {N n p T : Nat} {σ : ySt} {t : Nat → Int} (hN : 100000 ≤ N) (h : TC σ t n p) (hT : T = 13 ∨ T = 33) (h53 : σ 53 1 = T + 1) (hf : σ 53 2 = 0) :
    Ok (cRd_readHour N σ) (fun r => (r.1 = 1 ∧ tkK t n (tkE t n p) = 2 ∧ 1 ≤ tkV t n (tkE t n p) ∧ tkV t n (tkE t n p) ≤ 999 ∧ TC r.2 t n (tkE t n (tkE t n p)) ∧ eqC r.2 (yset (yset σ 53 2 1) T 16 (tkV t n (tkE t n p))) ∧ r.2 1 6 = σ 1 6 ∧ r.2 1 7 = σ 1 7) ∨ (r.1 = 0 ∧ ((tkK t n (tkE t n p) = 2 ∧ ¬ (1 ≤ tkV t n (tkE t n p) ∧ tkV t n (tkE t n p) ≤ 999) ∧ FC r.2 4 (tkA t n (tkE t n p))) ∨ (tkK t n (tkE t n p) ≠ 2 ∧ FC r.2 (bdK t n (tkE t n p)) (tkA t n (tkE t n p)))) ∧ eqC r.2 (yset (yset σ 53 2 1) T 16 (-1)))) := by
  unfold cRd_readHour
  rw [hf, Ok_bndR]
  refine (cRd_start_ok hN h).mono ?_
  rintro ⟨r1, σ1⟩ ⟨a1, a2, a3, a4, a5⟩
  dsimp only at a1 a2 a3 a4 a5 ⊢
  subst a1
  have h53' : yset σ1 53 2 1 53 1 = T + 1 := by
    rw [yset_ne (by omega), a2.1 53 (by decide)]
    exact h53
  rw [if_pos (by decide), Ok_bnd, Ok_chkT_eq (T := T) hT h53', Ok_bndR]
  refine (cTp_passNumber_ok hN (TC_set a3 (by decide) (by decide)) 1 999 (by decide)).mono ?_
  rintro ⟨r2, σ2⟩ ⟨b1, b2⟩
  dsimp only at b1 b2 ⊢
  have h53'' : yset σ2 T 16 r2 53 1 = T + 1 := by
    rw [yset_ne (by omega), b1.1 53 (by decide)]
    exact h53'
  have heq : eqC (yset σ2 T 16 r2) (yset (yset σ 53 2 1) T 16 r2) := eqC_set (eqC_tr (eqC_of b1) (eqC_set (eqC_of a2)))
  rw [Ok_bnd, Ok_chkT_eq (T := T) hT h53'', yset_at, Ok_ite, Ok_some, Ok_some]
  rcases b2 with ⟨k, v1, v2, e, tc, f6, f7⟩ | ⟨k, v, e, f⟩ | ⟨k, e, f⟩
  · refine ⟨fun q => by omega, fun _ => Or.inl ⟨rfl, k, v1, v2, TC_set tc (by omega) (by omega), by rw [← e]; exact heq, ?_, ?_⟩⟩
    · show yset σ2 T 16 r2 1 6 = _
      rw [yset_ne (by omega), f6, yset_ne (by omega), a4]
    · show yset σ2 T 16 r2 1 7 = _
      rw [yset_ne (by omega), f7, yset_ne (by omega), a5]
  · exact ⟨fun q => Or.inr ⟨rfl, Or.inl ⟨k, v, FC_set f (by omega)⟩, by rw [← e]; exact heq⟩, fun q => absurd e q⟩
  · exact ⟨fun q => Or.inr ⟨rfl, Or.inr ⟨k, FC_set f (by omega)⟩, by rw [← e]; exact heq⟩, fun q => absurd e q⟩
theorem cRd_readStrokes_ok {N n p T : Nat} {σ : ySt} {t : Nat → Int} (hN : 100000 ≤ N) (h : TC σ t n p) (hT : T = 13 ∨ T = 33) (h53 : σ 53 1 = T + 1) (hf : σ 53 3 = 0) :
    Ok (cRd_readStrokes N σ) (fun r => (r.1 = 1 ∧ tkK t n (tkE t n p) = 2 ∧ 1 ≤ tkV t n (tkE t n p) ∧ tkV t n (tkE t n p) ≤ 8 ∧ TC r.2 t n (tkE t n (tkE t n p)) ∧ eqC r.2 (yset (yset σ 53 3 1) T 17 (tkV t n (tkE t n p))) ∧ r.2 1 6 = σ 1 6 ∧ r.2 1 7 = σ 1 7) ∨ (r.1 = 0 ∧ ((tkK t n (tkE t n p) = 2 ∧ ¬ (1 ≤ tkV t n (tkE t n p) ∧ tkV t n (tkE t n p) ≤ 8) ∧ FC r.2 4 (tkA t n (tkE t n p))) ∨ (tkK t n (tkE t n p) ≠ 2 ∧ FC r.2 (bdK t n (tkE t n p)) (tkA t n (tkE t n p)))) ∧ eqC r.2 (yset (yset σ 53 3 1) T 17 (-1)))) := by
  unfold cRd_readStrokes
  rw [hf, Ok_bndR]
  refine (cRd_start_ok hN h).mono ?_
  rintro ⟨r1, σ1⟩ ⟨a1, a2, a3, a4, a5⟩
  dsimp only at a1 a2 a3 a4 a5 ⊢
  subst a1
  have h53' : yset σ1 53 3 1 53 1 = T + 1 := by
    rw [yset_ne (by omega), a2.1 53 (by decide)]
    exact h53
  rw [if_pos (by decide), Ok_bnd, Ok_chkT_eq (T := T) hT h53', Ok_bndR]
  refine (cTp_passNumber_ok hN (TC_set a3 (by decide) (by decide)) 1 8 (by decide)).mono ?_
  rintro ⟨r2, σ2⟩ ⟨b1, b2⟩
  dsimp only at b1 b2 ⊢
  have h53'' : yset σ2 T 17 r2 53 1 = T + 1 := by
    rw [yset_ne (by omega), b1.1 53 (by decide)]
    exact h53'
  have heq : eqC (yset σ2 T 17 r2) (yset (yset σ 53 3 1) T 17 r2) := eqC_set (eqC_tr (eqC_of b1) (eqC_set (eqC_of a2)))
  rw [Ok_bnd, Ok_chkT_eq (T := T) hT h53'', yset_at, Ok_ite, Ok_some, Ok_some]
  rcases b2 with ⟨k, v1, v2, e, tc, f6, f7⟩ | ⟨k, v, e, f⟩ | ⟨k, e, f⟩
  · refine ⟨fun q => by omega, fun _ => Or.inl ⟨rfl, k, v1, v2, TC_set tc (by omega) (by omega), by rw [← e]; exact heq, ?_, ?_⟩⟩
    · show yset σ2 T 17 r2 1 6 = _
      rw [yset_ne (by omega), f6, yset_ne (by omega), a4]
    · show yset σ2 T 17 r2 1 7 = _
      rw [yset_ne (by omega), f7, yset_ne (by omega), a5]
  · exact ⟨fun q => Or.inr ⟨rfl, Or.inl ⟨k, v, FC_set f (by omega)⟩, by rw [← e]; exact heq⟩, fun q => absurd e q⟩
  · exact ⟨fun q => Or.inr ⟨rfl, Or.inr ⟨k, FC_set f (by omega)⟩, by rw [← e]; exact heq⟩, fun q => absurd e q⟩
