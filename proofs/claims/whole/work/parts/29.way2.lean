/-! a line "way", both sides -/
theorem L_way {N n p T b mp m : Nat} {σ τ : ySt} {t : Nat → Int} (hN : 100000 ≤ N) (hT : T = 13 ∨ T = 33) (hb : b < 2)
    (tc : TC σ t n p) (fc : FC σ 0 (-1)) (tm : TM τ t n (tkE t n p)) (fm : FM τ 0 (-1)) (h53 : σ 53 1 = T + 1) (h41 : τ 92 41 = b)
    (NP : NR σ (T + 1) τ 107 (6 * b) mp) (hmp : mp ≤ 6) (c95 : τ 95 b = mp) (hw : WR σ T τ b) (h15 : σ T 15 = m) (c96 : τ 96 b = m) (hm : m < 15) :
    Ok (cRd_readWay N σ) (fun r => Ok (mo_readWay N τ) (fun τ' =>
      (r.1 = 1 ∧ ∃ (a c q : Nat) (v : Int), a < mp ∧ c < mp ∧ a ≠ c ∧ (1 ≤ v ∧ v ≤ 999) ∧ RT r.2 τ' t n q ∧ eqC r.2 (updWay σ T a c m v) ∧ eqM τ' (updWayM τ b a c m v)) ∨
      (r.1 = 0 ∧ RB r.2 τ' t n ∧ eqC r.2 σ ∧ ∃ (a c : Nat) (v : Int), a < 6 ∧ c < 6 ∧ eqM τ' (updWayM τ b a c m v)))) := by
  have hkd := yKd_nm T hT
  unfold cRd_readWay
  rw [Ok_chkT_eq hT h53, h15]
  simp only [Ok_bnd]
  rw [Ok_ite]
  refine ⟨fun _ => ?_, fun q => by omega⟩
  rw [Ok_bndR]
  refine (cRd_start_ok hN tc).mono ?_
  rintro ⟨r1, σ1⟩ ⟨a1, a2, a3, a4, a5⟩
  dsimp only at a1 a2 a3 a4 a5 ⊢
  subst a1
  have k1 : eqC σ1 σ := eqC_of a2
  have rt : RT σ1 τ t n (tkE t n p) := ⟨a3, tm, FC_of fc a4 a5, fm⟩
  rw [if_pos (by decide), Ok_chkT_eq (T := T) hT (by rw [k1 53 (by decide)]; exact h53), mo_readWay_eq, mo_placeHere_ok hN hb h41 c95 hmp, bndO_s]
  refine L_RR _ (L_known2 hN rt (NR_eq NP (k1 _ (by omega)) (k1 _ (by omega)) rfl) (by omega) (by omega) (by omega)) ?_
  rintro w σ2 w' τ2 ⟨c2, m2, d2⟩
  dsimp only at c2 m2 d2 ⊢
  have k2 : eqC σ2 σ := eqC_tr c2 k1
  have z2 : τ2 92 41 = b ∧ τ2 95 b = mp ∧ τ2 96 b = m ∧ τ2 110 = τ 110 := ⟨by rw [m2.2 41 (by omega)]; exact h41, by rw [m2.1 95 (by decide)]; exact c95, by rw [m2.1 96 (by decide)]; exact c96, m2.1 110 (by decide)⟩
  rw [mo_placeHere_ok hN hb z2.1 z2.2.1 hmp, bndO_s, mo_isGood_eq, bndO_s]
  rcases d2 with ⟨w0, w1, rfl, _, rt2⟩ | ⟨w0, w1, w2, rb⟩
  · obtain ⟨a, rfl⟩ : ∃ a : Nat, w' = a := ⟨w'.toNat, by omega⟩
    rw [if_neg (by omega), Ok_bndR]
    have NP2 : NR σ2 (T + 1) τ2 107 (6 * b) mp := NR_eq NP (k2 _ (by omega)) (k2 _ (by omega)) (m2.1 107 (by decide))
    have hw2 : WR σ2 T τ2 b := by
      intro i j hi hj hne
      rw [k2 _ (by omega), z2.2.2.2]
      exact hw i j hi hj hne
    have h53' : σ2 53 1 = T + 1 := by rw [k2 53 (by decide)]; exact h53
    have tok := (TM_tok rt2.2.1).2.2.1
    have hrg := nf_rg (fun k => decide (τ2 92 8 = 2) && decide (τ2 107 (6 * b + k) = τ2 92 10)) mp
    have hnone : τ2 92 8 ≠ 2 → nf (fun k => decide (τ2 92 8 = 2) && decide (τ2 107 (6 * b + k) = τ2 92 10)) mp = -1 := fun q => here_none q
    have h6 : τ2 92 6 = tkA t n (tkE t n (tkE t n p)) := rt2.2.1.2.2.2.2.2.2.1
    have known3 := L_known2 hN rt2 NP2 (by omega) (by omega) (by omega)
    refine (L_second hN hT rt2 h53' NP2 hmp (by omega) hw2).mono ?_
    rintro ⟨r3, σ3⟩ d3
    dsimp only at d3 ⊢
    rw [Ok_swap]
    generalize hF : nf (fun k => decide (τ2 92 8 = 2) && decide (τ2 107 (6 * b + k) = τ2 92 10)) mp = F at hrg hnone known3 d3 ⊢
    have hixx : ∀ f : Nat, (((36 : Int) * (b : Int) + 6 * (a : Int)) + (f : Int)).toNat = 36 * b + 6 * a + f := by intro f; omega
    rcases d3 with ⟨e, hc⟩ | ⟨r0, c3, f3, k3, F0, hc⟩
    · injection e with e e'
      subst e e'
      rw [Ok_swap, if_pos rfl, Ok_chkT_eq hT h53', Ok_swap, if_pos rt2.2.2.2.1]
      have em : Ok (wyT N a F τ2) (fun b_1 => Ok (bndR (cTp_passKnown N (T + 1) σ3) fun r25 σ26 => if r25 = -1 then some ((0 : Int), σ26) else bndR (cTp_pass N 103 σ26) fun r29 σ30 => if ¬ r29 = 0 then bndR (cTp_passNumber N 1 999 σ30) fun r33 σ34 => if ¬ r33 = -1 then chkT (σ34 53 1) fun T36 => bndO (cTw_addWay T36 a r25 r33 σ34) fun σ40 => some ((1 : Int), σ40) else some ((0 : Int), σ34) else some ((0 : Int), σ30)) (fun r => (r.1 = 1 ∧ ∃ (a c q : Nat) (v : Int), a < mp ∧ c < mp ∧ a ≠ c ∧ (1 ≤ v ∧ v ≤ 999) ∧ RT r.2 b_1 t n q ∧ eqC r.2 (updWay σ T a c m v) ∧ eqM b_1 (updWayM τ b a c m v)) ∨ (r.1 = 0 ∧ RB r.2 b_1 t n ∧ eqC r.2 σ ∧ ∃ (a c : Nat) (v : Int), a < 6 ∧ c < 6 ∧ eqM b_1 (updWayM τ b a c m v)))) := by
        rw [Ok_swap]
        unfold wyT
        refine L_RR _ known3 ?_
        rintro w σ4 w' τ4 ⟨c4, m4, d4⟩
        dsimp only at c4 m4 d4 ⊢
        have k4 := eqC_tr c4 k2
        have n4 := eqM_tr m4 m2
        rcases d4 with ⟨w0, w1, rfl, ef, rt4⟩ | ⟨w0, w1, w2, rb⟩
        · obtain ⟨c, rfl⟩ : ∃ c : Nat, w' = c := ⟨w'.toNat, by omega⟩
          rw [if_neg (by omega)]
          unfold mo_after
          rw [isW_minutes rt4.2.1, bndO_s, bndR_bndO]
          refine L_RO _ (L_pass hN rt4 103) ?_
          rintro r5 σ5 τ5 ⟨c5, m5, d5⟩
          dsimp only at c5 m5 d5 ⊢
          have k5 := eqC_tr c5 k4
          have n5 := eqM_tr m5 n4
          have z5 : τ5 92 41 = b ∧ τ5 96 b = m := ⟨by rw [n5.2 41 (by omega)]; exact h41, by rw [n5.1 96 (by decide)]; exact c96⟩
          rcases d5 with ⟨r1, rt5⟩ | ⟨r0, rb⟩
          · rw [if_pos (by omega), bndR_bndR]
            refine L_RR _ (L_num hN rt5 1 999 (by decide)) ?_
            rintro v σ6 v' τ6 ⟨c6, m6, d6⟩
            dsimp only at c6 m6 d6 ⊢
            have k6 := eqC_tr c6 k5
            have n6 := eqM_tr m6 n5
            have z6 : τ6 92 41 = b ∧ τ6 96 b = m := ⟨by rw [n6.2 41 (by omega)]; exact h41, by rw [n6.1 96 (by decide)]; exact c96⟩
            rw [bndR_s, wyW_eq hb rfl rfl (by omega) (by omega) (by omega) z6.1 z6.2]
            rcases d6 with ⟨v0, v1, rfl, rt6⟩ | ⟨v0, v1, rb⟩
            · rw [if_pos (by omega), Ok_chkT_eq (T := T) hT (by rw [k6 53 (by decide)]; exact h53), cTw_addWay_ok hT rfl rfl (by omega) (by omega) (by rw [k6 T (by omega)]; exact h15) (by omega), bndO_s, Ok_some, Ok_some]
              have rt9 : RT (updWay σ6 T a c m v') (updWayM τ6 b a c m v') t n _ := RT_set (RT_set (RT_set (RT_setC (RT_setC (RT_setC rt6 (by omega) (by omega)) (by omega) (by omega)) (by omega) (by omega)) (by decide) (by decide)) (by decide) (by decide)) (by decide) (by decide)
              exact Or.inl ⟨rfl, a, c, _, v', by omega, by omega, by omega, ⟨v0, v1⟩, rt9, updWay_eqC k6, updWayM_eqM n6⟩
            · rw [if_neg (by omega), Ok_some, Ok_some]
              exact Or.inr ⟨rfl, RB_set (RB_set (RB_set rb (by decide) (by decide)) (by decide) (by decide)) (by decide) (by decide), k6, a, c, v', by omega, by omega, updWayM_eqM n6⟩
          · rw [if_neg (by omega), Ok_some, mo_numeral_quiet rb.2.2.2, bndR_s, bndR_s, wyW_eq hb rfl rfl (by omega) (by omega) (by omega) z5.1 z5.2, Ok_some]
            exact Or.inr ⟨rfl, RB_set (RB_set (RB_set rb (by decide) (by decide)) (by decide) (by decide)) (by decide) (by decide), k5, a, c, 1, by omega, by omega, updWayM_eqM n5⟩
        · obtain ⟨c, rfl⟩ : ∃ c : Nat, w' = c := ⟨w'.toNat, by omega⟩
          have z4 : τ4 92 41 = b ∧ τ4 96 b = m := ⟨by rw [n4.2 41 (by omega)]; exact h41, by rw [n4.1 96 (by decide)]; exact c96⟩
          rw [if_pos w0, Ok_some, mo_after_quiet rb.2.2.2, bndR_s, wyW_eq hb rfl rfl (by omega) (by omega) (by omega) z4.1 z4.2, Ok_some]
          exact Or.inr ⟨rfl, RB_set (RB_set (RB_set rb (by decide) (by decide)) (by decide) (by decide)) (by decide) (by decide), k4, a, c, 1, by omega, by omega, updWayM_eqM n4⟩
      refine Ok_jq1 (fun ρ => ρ = τ2) (fun ρ hρ => by rw [hρ]; exact em) (fun x hx => ?_)
      rw [Ok_ite, Ok_ite, Ok_ite]
      refine ⟨fun q => absurd q (by decide), fun _ => ⟨fun q => hx _ rfl, fun q => ⟨fun q2 => hx _ rfl, fun q2 => ?_⟩⟩⟩
      obtain ⟨f, rfl⟩ : ∃ f : Nat, F = f := ⟨F.toNat, by omega⟩
      rcases hc with hc | ⟨hc1, hc2⟩
      · omega
      refine Ok_jq False (fun q3 => q3.elim) (fun y hy => ?_)
      rw [Ok_ite, z2.1, hixx, Ok_chkI, Ok_chkI, Ok_chkI, Ok_chkI, Ok_chkA, Ok_ite]
      rw [Int.toNat_natCast] at hc2
      exact ⟨fun q3 => absurd q3.symm hc1, fun q3 => ⟨by omega, by omega, by omega, by omega, by omega, fun _ => hx _ rfl, fun q4 => absurd hc2 q4⟩⟩
    · rw [Ok_swap, r0, if_neg (by decide), Ok_some, if_pos rt2.2.2.2.1]
      refine Ok_jq1 (fun ρ => ρ = yset (yset τ2 92 4 3) 92 5 (τ2 92 6)) (fun ρ hρ => ?_) (fun x hx => ?_)
      · subst hρ
        have fm3 : FM (yset (yset τ2 92 4 3) 92 5 (τ2 92 6)) 3 (tkA t n (tkE t n (tkE t n p))) := ⟨by rw [yset_ne (by omega), yset_at], by rw [yset_at, h6]⟩
        have rb := RB_of (TM_F rt2.2.1) f3 fm3 (by decide)
        have n3 : eqM (yset (yset τ2 92 4 3) 92 5 (τ2 92 6)) τ := eqM_tr (eqM_of offM_F) m2
        rw [wyT_bad (a := a) (m := m) hb rfl (by omega) (by omega) (by rw [n3.2 41 (by omega)]; exact h41) (by rw [n3.1 96 (by decide)]; exact c96) rb.2.2.2, Ok_some]
        exact Or.inr ⟨rfl, RB_set (RB_set (RB_set rb (by decide) (by decide)) (by decide) (by decide)) (by decide) (by decide), eqC_tr c3 k2, a, 0, 1, by omega, by omega, updWayM_eqM n3⟩
      · rw [Ok_ite, Ok_ite, Ok_ite]
        refine ⟨fun q => absurd q (by decide), fun _ => ⟨fun q => by have := hnone q; omega, fun q => ⟨fun q2 => by omega, fun q2 => ?_⟩⟩⟩
        obtain ⟨f, rfl⟩ : ∃ f : Nat, F = f := ⟨F.toNat, by omega⟩
        rw [Int.toNat_natCast] at hc
        refine Ok_jq True (fun _ => ?_) (fun y hy => ?_)
        · rw [mo_fails_ok _ _ rt2.2.2.2.1, bndO_s]
          exact hx _ rfl
        · rw [Ok_ite, z2.1, hixx, Ok_chkI, Ok_chkI, Ok_chkI, Ok_chkI, Ok_chkA, Ok_ite]
          exact ⟨fun q3 => hy trivial, fun q3 => ⟨by omega, by omega, by omega, by omega, by omega, fun q4 => by omega, fun q4 => hy trivial⟩⟩
  · obtain ⟨a, rfl⟩ : ∃ a : Nat, w' = a := ⟨w'.toNat, by omega⟩
    rw [if_pos w0, Ok_some, if_neg rb.2.2.2, Ok_bnd, if_pos rfl]
    dsimp only
    rw [wyT_bad (a := a) (m := m) hb rfl (by omega) (by omega) z2.1 z2.2.2.1 rb.2.2.2, Ok_some]
    exact Or.inr ⟨rfl, RB_set (RB_set (RB_set rb (by decide) (by decide)) (by decide) (by decide)) (by decide) (by decide), k2, a, 0, 1, by omega, by omega, updWayM_eqM m2⟩
