/-! a line "place" -/
theorem Ok_chkT_eq {α : Type} {z : Int} {T : Nat} {k : Nat → Option α} {P : α → Prop} (hT : T = 13 ∨ T = 33) (h : z = (T : Int) + 1) : Ok (chkT z k) P ↔ Ok (k T) P := by
  rw [Ok_chkT]
  have e : z.toNat - 1 = T := by omega
  rw [e]
  exact ⟨fun q => q.2, fun q => ⟨by omega, q⟩⟩
theorem cNm_isFull_ok {o m : Nat} {σ : ySt} (ho : o = 14 ∨ o = 16 ∨ o = 18 ∨ o = 34 ∨ o = 36 ∨ o = 38) (h : σ o 1 = m) : cNm_isFull o σ = some (if m < (yKd (o + 1)).2 then 0 else 1) := by
  unfold cNm_isFull chk
  rw [if_pos ho, h]
  by_cases q : m < (yKd (o + 1)).2
  · rw [if_pos (by omega), if_pos q]
  · rw [if_neg (by omega), if_neg q]
theorem cNm_add_ok {o m : Nat} {σ : ySt} {x : Int} (ho : o = 14 ∨ o = 16 ∨ o = 18 ∨ o = 34 ∨ o = 36 ∨ o = 38) (h : σ o 1 = m) (hm : m < (yKd (o + 1)).2) (hl : (yKd (o + 1)).2 ≤ 1000) : cNm_add o x σ = some ((m : Int), yset (yset σ (o + 1) m x) o 1 (m + 1)) := by
  apply Ok_eq
  unfold cNm_add
  have e : yset σ (o + 1) m x o 1 = m := by rw [yset_ne (Or.inl (by omega))]; exact h
  rw [Ok_chk, cNm_isFull_ok ho h, bndO_s, if_pos hm, if_pos rfl, Ok_chkA, Ok_bnd, h]
  refine ⟨ho, by omega, ?_⟩
  rw [show ((m : Int)).toNat = m by omega, Ok_chkI, Ok_bnd, Ok_chkI, Ok_some, e, yset_at]
  refine ⟨by omega, by omega, ?_⟩
  rw [Int.add_sub_cancel]
theorem cRd_start_ok {N n p : Nat} {σ : ySt} {t : Nat → Int} (hN : 100000 ≤ N) (h : TC σ t n p) :
    Ok (cRd_startLine N 0 σ) (fun r => r.1 = 1 ∧ offC σ r.2 ∧ TC r.2 t n (tkE t n p) ∧ r.2 1 6 = σ 1 6 ∧ r.2 1 7 = σ 1 7) := by
  unfold cRd_startLine
  rw [if_pos rfl, Ok_bndO]
  refine (TC_go hN h).mono ?_
  rintro τ ⟨h1, h2, h3, h4⟩
  rw [Ok_some]
  exact ⟨rfl, h1, h2, h3, h4⟩
theorem cRd_stop_ok {N n p : Nat} {σ : ySt} {t : Nat → Int} (h : TC σ t n p) :
    Ok (cRd_startLine N 1 σ) (fun r => r.1 = 0 ∧ offC σ r.2 ∧ FC r.2 2 (tkA t n p)) := by
  unfold cRd_startLine
  rw [if_neg (by decide), Ok_bndR]
  refine (cTp_blame_ok h 2).mono ?_
  rintro ⟨r, τ⟩ ⟨h1, h2, h3⟩
  simp only at h1 h2 h3
  rw [Ok_chk, Ok_some]
  exact ⟨Or.inl h1, h1, h2, h3⟩
/-- the tape of the class apart from the rest: what a set elsewhere leaves -/
theorem TC_set {σ : ySt} {t : Nat → Int} {n p i k : Nat} {z : Int} (h : TC σ t n p) (h1 : i ≠ 1) (h2 : i ≠ 2) : TC (yset σ i k z) t n p := by
  unfold TC at h ⊢
  rw [yset_off 1 (Ne.symm h1), yset_off 2 (Ne.symm h2)]
  exact h
theorem TM_set {σ : ySt} {t : Nat → Int} {n p i k : Nat} {z : Int} (h : TM σ t n p) (h1 : i ≠ 92 ∨ (k ≠ 3 ∧ (k < 6 ∨ 10 < k))) (h2 : i ≠ 94) : TM (yset σ i k z) t n p := by
  unfold TM at h ⊢
  rw [yset_off 94 (Ne.symm h2), yset_ne (by omega), yset_ne (by omega), yset_ne (by omega), yset_ne (by omega), yset_ne (by omega), yset_ne (by omega)]
  exact h
theorem yKd_nm : ∀ T : Nat, (T = 13 ∨ T = 33) → (yKd (T + 1 + 1)).2 = 6 ∧ (yKd (T + 3 + 1)).2 = 5 ∧ (yKd (T + 5 + 1)).2 = 3 := by
  rintro T (rfl | rfl) <;> decide
/-- the class's town with one more place -/
def updPl (σ : ySt) (T m : Nat) (x z : Int) : ySt := yset (yset (yset σ (T + 2) m x) (T + 1) 1 (m + 1)) (T + 7) m z
theorem cRd_readPlace_ok {N n p T m : Nat} {σ : ySt} {t : Nat → Int} (hN : 100000 ≤ N) (h : TC σ t n p) (hT : T = 13 ∨ T = 33) (h53 : σ 53 1 = T + 1) (hc : σ (T + 1) 1 = m) (hm : m < 6) :
    Ok (cRd_readPlace N σ) (fun r => (r.1 = 1 ∧ tkK t n (tkE t n p) = 3 ∧ nf (fun k => decide (σ (T + 2) k = enc5 (tkW t n (tkE t n p)))) m = -1 ∧ (∃ (q : Nat) (z : Int), ((tkK t n (tkE t n (tkE t n p)) = 101 ∧ z = 1 ∧ q = tkE t n (tkE t n (tkE t n p))) ∨ (tkK t n (tkE t n (tkE t n p)) ≠ 101 ∧ z = 0 ∧ q = tkE t n (tkE t n p))) ∧ TC r.2 t n q ∧ ∀ i, i ≠ 1 → r.2 i = updPl σ T m (enc5 (tkW t n (tkE t n p))) z i) ∧ r.2 1 6 = σ 1 6 ∧ r.2 1 7 = σ 1 7) ∨ (r.1 = 0 ∧ ((tkK t n (tkE t n p) = 3 ∧ 0 ≤ nf (fun k => decide (σ (T + 2) k = enc5 (tkW t n (tkE t n p)))) m ∧ FC r.2 3 (tkA t n (tkE t n p))) ∨ (tkK t n (tkE t n p) ≠ 3 ∧ FC r.2 (bdK t n (tkE t n p)) (tkA t n (tkE t n p)))) ∧ ∀ i, i ≠ 1 → r.2 i = σ i)) := by
  have hkd := (yKd_nm T hT).1
  have ho : T + 1 = 14 ∨ T + 1 = 16 ∨ T + 1 = 18 ∨ T + 1 = 34 ∨ T + 1 = 36 ∨ T + 1 = 38 := by omega
  have h1' : T + 1 ≠ 1 := by omega
  unfold cRd_readPlace
  rw [Ok_chkT_eq hT h53, cNm_isFull_ok ho hc, bndO_s, if_pos (by omega), Ok_bndR]
  refine (cRd_start_ok hN h).mono ?_
  rintro ⟨r1, σ1⟩ ⟨a1, a2, a3, a4, a5⟩
  simp only at a1 a2 a3 a4 a5
  subst a1
  dsimp only
  rw [if_neg (by decide), Ok_chkT_eq (T := T) hT (by rw [a2.1 53 (by decide)]; exact h53), Ok_bndR]
  have hc1 : σ1 (T + 1) 1 = m := by rw [a2.1 _ h1']; exact hc
  have e2 : σ1 (T + 2) = σ (T + 2) := a2.1 _ (by omega)
  refine (cRd_isNew_ok hN a3 ho hc1 (by omega) (by omega)).mono ?_
  rintro ⟨r2, σ2⟩ ⟨b1, b2⟩
  simp only at b1 b2
  dsimp only
  rw [show T + 1 + 1 = T + 2 by omega, e2] at b2
  have bad : r2 = 0 → ((tkK t n (tkE t n p) = 3 ∧ 0 ≤ nf (fun k => decide (σ (T + 2) k = enc5 (tkW t n (tkE t n p)))) m ∧ FC σ2 3 (tkA t n (tkE t n p))) ∨ (tkK t n (tkE t n p) ≠ 3 ∧ FC σ2 (bdK t n (tkE t n p)) (tkA t n (tkE t n p)))) → Ok (some ((0 : Int), σ2)) (fun r => (r.1 = 1 ∧ tkK t n (tkE t n p) = 3 ∧ nf (fun k => decide (σ (T + 2) k = enc5 (tkW t n (tkE t n p)))) m = -1 ∧ (∃ (q : Nat) (z : Int), ((tkK t n (tkE t n (tkE t n p)) = 101 ∧ z = 1 ∧ q = tkE t n (tkE t n (tkE t n p))) ∨ (tkK t n (tkE t n (tkE t n p)) ≠ 101 ∧ z = 0 ∧ q = tkE t n (tkE t n p))) ∧ TC r.2 t n q ∧ ∀ i, i ≠ 1 → r.2 i = updPl σ T m (enc5 (tkW t n (tkE t n p))) z i) ∧ r.2 1 6 = σ 1 6 ∧ r.2 1 7 = σ 1 7) ∨ (r.1 = 0 ∧ ((tkK t n (tkE t n p) = 3 ∧ 0 ≤ nf (fun k => decide (σ (T + 2) k = enc5 (tkW t n (tkE t n p)))) m ∧ FC r.2 3 (tkA t n (tkE t n p))) ∨ (tkK t n (tkE t n p) ≠ 3 ∧ FC r.2 (bdK t n (tkE t n p)) (tkA t n (tkE t n p)))) ∧ ∀ i, i ≠ 1 → r.2 i = σ i)) := by
    intro _ q
    rw [Ok_some]
    exact Or.inr ⟨rfl, q, fun i hi => (b1.1 i hi).trans (a2.1 i hi)⟩
  rcases b2 with ⟨k3, nfn, e⟩ | ⟨k3, nfp, rr, f⟩ | ⟨k3, rr, f⟩
  · injection e with e e'
    subst e e'
    have hw : σ2 1 4 = enc5 (tkW t n (tkE t n p)) := a3.2.2.2.2.2.2.2.2.1 k3
    rw [if_pos (by decide), Ok_chkT_eq (T := T) hT (by rw [a2.1 53 (by decide)]; exact h53), Ok_bndR, cNm_add_ok ho hc1 (by omega) (by omega), Ok_some, hw]
    dsimp only
    rw [Ok_bndO]
    have tc : TC (yset (yset σ2 (T + 1 + 1) m (enc5 (tkW t n (tkE t n p)))) (T + 1) 1 ((m : Int) + 1)) t n (tkE t n p) := TC_set (TC_set a3 (by omega) (by omega)) (by omega) (by omega)
    refine (TC_go hN tc).mono ?_
    rintro σ3 ⟨c1, c2, c3, c4⟩
    have k3eq : σ3 1 3 = tkK t n (tkE t n (tkE t n p)) := c2.2.2.2.2.2.2.1
    have h53' : σ3 53 1 = T + 1 := by
      rw [c1.1 53 (by decide), yset_off 53 (by omega), yset_off 53 (by omega), a2.1 53 (by decide)]
      exact h53
    rw [if_pos (by omega), Ok_chkT_eq (T := T) hT h53']
    have c3' : σ3 1 6 = σ 1 6 := by rw [c3, yset_off 1 (by omega), yset_off 1 (by omega), a4]
    have c4' : σ3 1 7 = σ 1 7 := by rw [c4, yset_off 1 (by omega), yset_off 1 (by omega), a5]
    refine Ok_jq1 (fun y => y = if tkK t n (tkE t n (tkE t n p)) = 101 then 1 else 0) (fun y hy => ?_) (fun x hx => ?_)
    · have h53'' : yset σ3 (T + 7) m y 53 1 = T + 1 := by rw [yset_off 53 (by omega)]; exact h53'
      have tc2 : TC (yset σ3 (T + 7) m y) t n (tkE t n (tkE t n p)) := TC_set c2 (by omega) (by omega)
      have eqv : ∀ i, i ≠ 1 → yset σ3 (T + 7) m y i = updPl σ T m (enc5 (tkW t n (tkE t n p))) y i := by
        intro i hi
        unfold updPl
        have : σ3 i = yset (yset σ (T + 2) m (enc5 (tkW t n (tkE t n p)))) (T + 1) 1 ((m : Int) + 1) i := by
          rw [c1.1 i hi]
          funext j
          unfold yset
          rw [a2.1 i hi]
        funext j
        unfold yset at this ⊢
        rw [this]
      rw [Ok_chk, Ok_chkA, Ok_bnd, show ((m : Int)).toNat = m by omega, Ok_chkT_eq (T := T) hT h53'', Ok_chkA, yset_at, Ok_ite]
      refine ⟨by rw [hy]; split <;> omega, by omega, by omega, fun q => ?_, fun q => ?_⟩
      · rw [Ok_some]
        refine Or.inl ⟨rfl, k3, nfn, ⟨_, y, Or.inr ⟨?_, q, rfl⟩, tc2, eqv⟩, ?_, ?_⟩
        · intro q2; rw [if_pos q2] at hy; omega
        · show yset σ3 (T + 7) m y 1 6 = _
          rw [yset_off 1 (by omega)]; exact c3'
        · show yset σ3 (T + 7) m y 1 7 = _
          rw [yset_off 1 (by omega)]; exact c4'
      · rw [Ok_bndO]
        refine (TC_go hN tc2).mono ?_
        rintro σ4 ⟨d1, d2, d3, d4⟩
        rw [Ok_some]
        have hy1 : tkK t n (tkE t n (tkE t n p)) = 101 := by
          by_cases q2 : tkK t n (tkE t n (tkE t n p)) = 101
          · exact q2
          · rw [if_neg q2] at hy; exact absurd hy q
        refine Or.inl ⟨rfl, k3, nfn, ⟨_, y, Or.inl ⟨hy1, by rw [hy, if_pos hy1], rfl⟩, d2, fun i hi => (d1.1 i hi).trans (eqv i hi)⟩, ?_, ?_⟩
        · show σ4 1 6 = _
          rw [d3, yset_off 1 (by omega)]; exact c3'
        · show σ4 1 7 = _
          rw [d4, yset_off 1 (by omega)]; exact c4'
    · rw [Ok_ite, k3eq]
      exact ⟨fun q => hx 0 (by rw [if_neg q]), fun q => hx 1 (by rw [if_pos (Classical.not_not.mp q)])⟩
  · rw [rr, if_neg (by decide)]
    exact bad rr (Or.inl ⟨k3, nfp, f⟩)
  · rw [rr, if_neg (by decide)]
    exact bad rr (Or.inr ⟨k3, f⟩)
