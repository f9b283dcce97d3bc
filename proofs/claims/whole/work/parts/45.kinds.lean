/-! each kind of line -/
theorem L_place {N n p T b m : Nat} {σ τ : ySt} {t : Nat → Int} (hN : 100000 ≤ N) (hT : T = 13 ∨ T = 33) (hb : b < 2) (tc : TC σ t n p) (fc : FC σ 0 (-1)) (tm : TM τ t n (tkE t n p)) (fm : FM τ 0 (-1)) (h53 : σ 53 1 = T + 1) (h41 : τ 92 41 = b) (NP : NR σ (T + 1) τ 107 (6 * b) m) (hm : m < 6) (c95 : τ 95 b = m) :
    Ok (cRd_readPlace N σ) (fun r => Ok (mo_readPlace N τ) (fun τ' => (r.1 = 1 ∧ ∃ (w : List Int) (z : Int) (q : Nat), (∀ c ∈ w, 97 ≤ c ∧ c ≤ 122) ∧ (z = 0 ∨ z = 1) ∧ RT r.2 τ' t n q ∧ eqC r.2 (updPl σ T m (enc5 w) z) ∧ eqM τ' (updPlM τ b m (enc8 w) z)) ∨ (r.1 = 0 ∧ RB r.2 τ' t n ∧ eqC r.2 σ ∧ ∃ x z : Int, eqM τ' (updPlM τ b m x z)))) := by
  have h10 : tkK t n (tkE t n p) = 3 ∨ 100 ≤ tkK t n (tkE t n p) → τ 92 10 = enc8 (tkW t n (tkE t n p)) := tm.2.2.2.2.2.2.2.2.2.1
  have same : tkK t n (tkE t n p) = 3 → nf (fun k => decide (σ (T + 1 + 1) k = enc5 (tkW t n (tkE t n p)))) m = nf (fun k => decide (τ 92 8 = 2) && decide (τ 107 (6 * b + k) = τ 92 10)) m := fun q => NR_find NP (tkW_wd (Or.inl q)).1 ((TM_tok tm).2.2.1.mpr q) (h10 (Or.inl q))
  refine Ok2_of (cRd_readPlace_ok hN tc hT h53 NP.1 hm) (mo_readPlace_ok hN tm fm.1 hb h41 c95 hm) ?_
  rintro ⟨r, σ'⟩ τ' d1 d2
  dsimp only at d1 ⊢
  rcases d1 with ⟨r1, k3, n1, ⟨q, z, hz, tc', eq⟩, g6, g7⟩ | ⟨r0, d1, eq⟩
  · rw [same k3] at n1
    rcases d2 with ⟨_, n2, ⟨q2, z2, hz2, tm', em⟩, g4, g5⟩ | ⟨d2, _⟩
    · have hzz : z = z2 ∧ q = q2 := by
        rcases hz with ⟨a1, a2, a3⟩ | ⟨a1, a2, a3⟩
        · rcases hz2 with ⟨b1, b2, b3⟩ | ⟨b1, b2, b3⟩
          · exact ⟨by omega, by omega⟩
          · exact absurd a1 b1
        · rcases hz2 with ⟨b1, b2, b3⟩ | ⟨b1, b2, b3⟩
          · exact absurd b1 a1
          · exact ⟨by omega, by omega⟩
      obtain ⟨e1, e2⟩ := hzz
      subst e1
      subst e2
      exact Or.inl ⟨r1, tkW t n (tkE t n p), z, q, (tkW_wd (Or.inl k3)).1, by omega, ⟨tc', tm', FC_of fc g6 g7, g4, g5.trans fm.2⟩, eq, em⟩
    · rcases d2 with ⟨_, w, _⟩ | ⟨w, _⟩
      · omega
      · exact absurd k3 w
  · refine Or.inr ⟨r0, ?_, eq, ?_⟩
    · rcases d2 with ⟨k3, n2, ⟨q2, z2, hz2, tm', em⟩, g4, g5⟩ | ⟨d2, tm', x, z, _, em⟩
      · rcases d1 with ⟨_, w, _⟩ | ⟨w, _⟩
        · rw [same k3] at w
          omega
        · exact absurd k3 w
      · rcases d1 with ⟨k3, w, f⟩ | ⟨k3, f⟩
        · rcases d2 with ⟨_, _, f2⟩ | ⟨w2, _⟩
          · exact RB_of tm' f f2 (by decide)
          · exact absurd k3 w2
        · rcases d2 with ⟨w2, _⟩ | ⟨_, f2⟩
          · exact absurd w2 k3
          · exact RB_of tm' f f2 (bdK_0 _ _ _)
    · rcases d2 with ⟨k3, n2, ⟨q2, z2, hz2, tm', em⟩, g4, g5⟩ | ⟨d2, tm', x, z, _, em⟩
      · exact ⟨_, _, em⟩
      · exact ⟨x, z, em⟩
theorem FrB_eq2 {b : Nat} {τ τ' ρ : ySt} (h : eqM τ' ρ) (g : FrB b ρ τ) : FrB b τ' τ := FrB_tr g (FrB_eqM h)
theorem FrT_eq2 {T : Nat} {σ σ' ρ : ySt} (h : eqC σ' ρ) (g : FrT T ρ σ) : FrT T σ' σ := FrT_tr g (FrT_eqC h)
theorem st_1 {i : Nat} (h : i = 95 ∨ i = 96 ∨ i = 97 ∨ i = 98 ∨ i = 99 ∨ i = 100 ∨ i = 101 ∨ i = 102 ∨ i = 118) : st i = 1 := by
  rcases h with rfl | rfl | rfl | rfl | rfl | rfl | rfl | rfl | rfl <;> rfl
theorem FrB_1 {b i : Nat} {z : Int} {τ : ySt} (h : i = 95 ∨ i = 96 ∨ i = 97 ∨ i = 98 ∨ i = 99 ∨ i = 100 ∨ i = 101 ∨ i = 102 ∨ i = 118) : FrB b (yset τ i b z) τ := by
  have := st_1 h
  exact FrB_set (by omega) (by omega) (by rw [this]; omega) (by rw [this]; omega)
theorem FrB_pl {τ : ySt} {b m : Nat} {x z : Int} (hm : m < 6) : FrB b (updPlM τ b m x z) τ := by
  unfold updPlM
  exact FrB_tr (FrB_tr (FrB_set (by decide) (by decide) (by rw [show st 107 = 6 from rfl]; omega) (by rw [show st 107 = 6 from rfl]; omega)) (FrB_set (by decide) (by decide) (by rw [show st 106 = 6 from rfl]; omega) (by rw [show st 106 = 6 from rfl]; omega))) (FrB_1 (by omega))
theorem FrB_pe {τ : ySt} {b m : Nat} {y w v : Int} (hm : m < 5) : FrB b (updPerM τ b m y w v) τ := by
  unfold updPerM
  exact FrB_tr (FrB_tr (FrB_tr (FrB_set (by decide) (by decide) (by rw [show st 108 = 5 from rfl]; omega) (by rw [show st 108 = 5 from rfl]; omega)) (FrB_set (by decide) (by decide) (by rw [show st 111 = 5 from rfl]; omega) (by rw [show st 111 = 5 from rfl]; omega))) (FrB_set (by decide) (by decide) (by rw [show st 112 = 5 from rfl]; omega) (by rw [show st 112 = 5 from rfl]; omega))) (FrB_1 (by omega))
theorem FrB_do {τ : ySt} {b m w : Nat} {y c : Int} (hm : m < 3) (hw : w < 6) : FrB b (updDogM τ b m y w c) τ := by
  unfold updDogM
  have h1 : FrB b (yset τ 109 (3 * b + m) y) τ := FrB_set (by decide) (by decide) (by rw [show st 109 = 3 from rfl]; omega) (by rw [show st 109 = 3 from rfl]; omega)
  have h2 : ∀ ρ : ySt, FrB b (yset ρ 113 (6 * b + w) (τ 113 (6 * b + w) + c)) ρ := fun ρ => FrB_set (by decide) (by decide) (by rw [show st 113 = 6 from rfl]; omega) (by rw [show st 113 = 6 from rfl]; omega)
  exact FrB_tr (FrB_tr h1 (h2 _)) (FrB_1 (by omega))
theorem FrB_wa {τ : ySt} {b m a c : Nat} {v : Int} (ha : a < 6) (hc : c < 6) : FrB b (updWayM τ b a c m v) τ := by
  unfold updWayM
  exact FrB_tr (FrB_tr (FrB_set (by decide) (by decide) (by rw [show st 110 = 36 from rfl]; omega) (by rw [show st 110 = 36 from rfl]; omega)) (FrB_set (by decide) (by decide) (by rw [show st 110 = 36 from rfl]; omega) (by rw [show st 110 = 36 from rfl]; omega))) (FrB_1 (by omega))
theorem FrB_er {τ : ySt} {b m : Nat} {w a s v : Int} (hm : m < 8) : FrB b (updErrM τ b m w a s v) τ := by
  unfold updErrM
  exact FrB_tr (FrB_tr (FrB_tr (FrB_tr (FrB_set (by decide) (by decide) (by rw [show st 114 = 8 from rfl]; omega) (by rw [show st 114 = 8 from rfl]; omega)) (FrB_set (by decide) (by decide) (by rw [show st 115 = 8 from rfl]; omega) (by rw [show st 115 = 8 from rfl]; omega))) (FrB_set (by decide) (by decide) (by rw [show st 116 = 8 from rfl]; omega) (by rw [show st 116 = 8 from rfl]; omega))) (FrB_set (by decide) (by decide) (by rw [show st 117 = 8 from rfl]; omega) (by rw [show st 117 = 8 from rfl]; omega))) (FrB_1 (by omega))
theorem FrT_pl {σ : ySt} {T m : Nat} {x z : Int} (hT : T = 13 ∨ T = 33) : FrT T (updPl σ T m x z) σ := by
  unfold updPl
  exact FrT_tr (FrT_tr (FrT_set hT (by omega) (by omega)) (FrT_set hT (by omega) (by omega))) (FrT_set hT (by omega) (by omega))
theorem FrT_ap {σ : ySt} {T m : Nat} {x : Int} (hT : T = 13 ∨ T = 33) : FrT T (addPer σ T m x) σ := by
  unfold addPer
  exact FrT_tr (FrT_set hT (by omega) (by omega)) (FrT_set hT (by omega) (by omega))
theorem FrT_pe {σ : ySt} {T m : Nat} {x w v : Int} (hT : T = 13 ∨ T = 33) : FrT T (updPer σ T m x w v) σ := by
  unfold updPer
  exact FrT_tr (FrT_tr (FrT_ap hT) (FrT_set hT (by omega) (by omega))) (FrT_set hT (by omega) (by omega))
theorem FrT_ad {σ : ySt} {T m : Nat} {x : Int} (hT : T = 13 ∨ T = 33) : FrT T (addDog σ T m x) σ := by
  unfold addDog
  exact FrT_tr (FrT_set hT (by omega) (by omega)) (FrT_set hT (by omega) (by omega))
theorem FrT_wa {σ : ySt} {T a c m : Nat} {v : Int} (hT : T = 13 ∨ T = 33) : FrT T (updWay σ T a c m v) σ := by
  unfold updWay
  exact FrT_tr (FrT_tr (FrT_set hT (by omega) (by omega)) (FrT_set hT (by omega) (by omega))) (FrT_set hT (by omega) (by omega))
theorem FrT_er {σ : ySt} {T m : Nat} {w a s v : Int} (hT : T = 13 ∨ T = 33) : FrT T (updErr σ T m w a s v) σ := by
  unfold updErr
  exact FrT_tr (FrT_tr (FrT_tr (FrT_tr (FrT_set hT (by omega) (by omega)) (FrT_set hT (by omega) (by omega))) (FrT_set hT (by omega) (by omega))) (FrT_set hT (by omega) (by omega))) (FrT_set hT (by omega) (by omega))
theorem bdK_w {t : Nat → Int} {n p : Nat} (h : 100 ≤ tkK t n p) : bdK t n p = 2 := bdK_2 (by omega)
theorem stop_Place {N n p T : Nat} {σ : ySt} {t : Nat → Int} (hT : T = 13 ∨ T = 33) (tc : TC σ t n p) (h53 : σ 53 1 = T + 1) (hc : σ (T + 1) 1 = 6) : Ok (cRd_readPlace N σ) (fun r => r.1 = 0 ∧ eqC r.2 σ ∧ FC r.2 2 (tkA t n p)) := by
  have hkd := yKd_nm T hT
  unfold cRd_readPlace
  rw [Ok_chkT_eq hT h53, cNm_isFull_ok (o := T + 1) (m := 6) (by omega) hc, bndO_s, if_neg (by omega), Ok_bndR]
  refine (cRd_stop_ok (N := N) tc).mono ?_
  rintro ⟨r, σ1⟩ ⟨a1, a2, a3⟩
  dsimp only at a1 a2 a3 ⊢
  rw [Ok_ite]
  exact ⟨fun _ => Ok_some.mpr ⟨rfl, eqC_of a2, a3⟩, fun q => absurd a1 q⟩
theorem stop_Person {N n p T : Nat} {σ : ySt} {t : Nat → Int} (hT : T = 13 ∨ T = 33) (tc : TC σ t n p) (h53 : σ 53 1 = T + 1) (hc : σ (T + 3) 1 = 5) : Ok (cRd_readPerson N σ) (fun r => r.1 = 0 ∧ eqC r.2 σ ∧ FC r.2 2 (tkA t n p)) := by
  have hkd := yKd_nm T hT
  unfold cRd_readPerson
  rw [Ok_chkT_eq hT h53, cNm_isFull_ok (o := T + 3) (m := 5) (by omega) hc, bndO_s, if_neg (by omega), Ok_bndR]
  refine (cRd_stop_ok (N := N) tc).mono ?_
  rintro ⟨r, σ1⟩ ⟨a1, a2, a3⟩
  dsimp only at a1 a2 a3 ⊢
  rw [Ok_ite]
  exact ⟨fun _ => Ok_some.mpr ⟨rfl, eqC_of a2, a3⟩, fun q => absurd a1 q⟩
theorem stop_Dog {N n p T : Nat} {σ : ySt} {t : Nat → Int} (hT : T = 13 ∨ T = 33) (tc : TC σ t n p) (h53 : σ 53 1 = T + 1) (hc : σ (T + 5) 1 = 3) : Ok (cRd_readDog N σ) (fun r => r.1 = 0 ∧ eqC r.2 σ ∧ FC r.2 2 (tkA t n p)) := by
  have hkd := yKd_nm T hT
  unfold cRd_readDog
  rw [Ok_chkT_eq hT h53, cNm_isFull_ok (o := T + 5) (m := 3) (by omega) hc, bndO_s, if_neg (by omega), Ok_bndR]
  refine (cRd_stop_ok (N := N) tc).mono ?_
  rintro ⟨r, σ1⟩ ⟨a1, a2, a3⟩
  dsimp only at a1 a2 a3 ⊢
  rw [Ok_ite]
  exact ⟨fun _ => Ok_some.mpr ⟨rfl, eqC_of a2, a3⟩, fun q => absurd a1 q⟩
theorem stop_Way {N n p T : Nat} {σ : ySt} {t : Nat → Int} (hT : T = 13 ∨ T = 33) (tc : TC σ t n p) (h53 : σ 53 1 = T + 1) (hc : σ T 15 = 15) : Ok (cRd_readWay N σ) (fun r => r.1 = 0 ∧ eqC r.2 σ ∧ FC r.2 2 (tkA t n p)) := by
  unfold cRd_readWay
  rw [Ok_chkT_eq hT h53, hc]
  simp only [Ok_bnd]
  rw [Ok_ite]
  refine ⟨fun q => absurd q (by decide), fun _ => ?_⟩
  rw [Ok_bndR]
  refine (cRd_stop_ok (N := N) tc).mono ?_
  rintro ⟨r, σ1⟩ ⟨a1, a2, a3⟩
  dsimp only at a1 a2 a3 ⊢
  rw [Ok_ite]
  exact ⟨fun q => absurd a1 q, fun _ => Ok_some.mpr ⟨rfl, eqC_of a2, a3⟩⟩
theorem stop_Errand {N n p T : Nat} {σ : ySt} {t : Nat → Int} (hT : T = 13 ∨ T = 33) (tc : TC σ t n p) (h53 : σ 53 1 = T + 1) (hc : σ T 14 = 8) : Ok (cRd_readErrand N σ) (fun r => r.1 = 0 ∧ eqC r.2 σ ∧ FC r.2 2 (tkA t n p)) := by
  unfold cRd_readErrand
  rw [Ok_chkT_eq hT h53, hc]
  simp only [Ok_bnd]
  rw [Ok_ite]
  refine ⟨fun q => absurd q (by decide), fun _ => ?_⟩
  rw [Ok_bndR]
  refine (cRd_stop_ok (N := N) tc).mono ?_
  rintro ⟨r, σ1⟩ ⟨a1, a2, a3⟩
  dsimp only at a1 a2 a3 ⊢
  rw [Ok_ite]
  exact ⟨fun q => absurd a1 q, fun _ => Ok_some.mpr ⟨rfl, eqC_of a2, a3⟩⟩
theorem stop_Hour {N n p : Nat} {σ : ySt} {t : Nat → Int} (tc : TC σ t n p) (hc : σ 53 2 = 1) : Ok (cRd_readHour N σ) (fun r => r.1 = 0 ∧ eqC r.2 σ ∧ FC r.2 2 (tkA t n p)) := by
  unfold cRd_readHour
  rw [hc, Ok_bndR]
  refine (cRd_stop_ok (N := N) tc).mono ?_
  rintro ⟨r, σ1⟩ ⟨a1, a2, a3⟩
  dsimp only at a1 a2 a3 ⊢
  rw [Ok_ite]
  exact ⟨fun q => absurd a1 q, fun _ => Ok_some.mpr ⟨rfl, eqC_of a2, a3⟩⟩
theorem stop_Strokes {N n p : Nat} {σ : ySt} {t : Nat → Int} (tc : TC σ t n p) (hc : σ 53 3 = 1) : Ok (cRd_readStrokes N σ) (fun r => r.1 = 0 ∧ eqC r.2 σ ∧ FC r.2 2 (tkA t n p)) := by
  unfold cRd_readStrokes
  rw [hc, Ok_bndR]
  refine (cRd_stop_ok (N := N) tc).mono ?_
  rintro ⟨r, σ1⟩ ⟨a1, a2, a3⟩
  dsimp only at a1 a2 a3 ⊢
  rw [Ok_ite]
  exact ⟨fun q => absurd a1 q, fun _ => Ok_some.mpr ⟨rfl, eqC_of a2, a3⟩⟩
theorem stop_Rule {N n p : Nat} {σ : ySt} {t : Nat → Int} (tc : TC σ t n p) (hc : σ 53 4 = 1) : Ok (cRd_readRule N σ) (fun r => r.1 = 0 ∧ eqC r.2 σ ∧ FC r.2 2 (tkA t n p)) := by
  unfold cRd_readRule
  rw [hc, Ok_bndR]
  refine (cRd_stop_ok (N := N) tc).mono ?_
  rintro ⟨r, σ1⟩ ⟨a1, a2, a3⟩
  dsimp only at a1 a2 a3 ⊢
  rw [Ok_ite]
  exact ⟨fun q => absurd a1 q, fun _ => Ok_some.mpr ⟨rfl, eqC_of a2, a3⟩⟩
