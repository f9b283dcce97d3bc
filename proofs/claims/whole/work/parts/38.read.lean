/-! the rule: not, unit, and the whole descent -/
theorem bdK_2 {t : Nat → Int} {n p : Nat} (h : tkK t n p ≠ 1) : bdK t n p = 2 := by
  unfold bdK
  rw [if_neg h]
theorem cRu_readOne_ok {N b : Nat} {rec : Nat → Nat → Int → ySt → Option (Int × ySt)} (hN : 100000 ≤ N) (HR2 : b ≤ 6 → RD N rec 2 (b + 1)) (HR3 : RD N rec 3 b) : ∀ (σ τ : ySt) (t : Nat → Int) (n p o bk s U L : Nat), PR 2 b σ τ t n p o bk s U L → Ok (cRu_readOne_b rec N o b σ) (PO N 2 b σ τ t n o bk s U L) := by
  intro σ τ t n p o bk s U L pr
  have pr' := pr
  obtain ⟨⟨tc, tm, fcc, fmm⟩, ps, hs1, hs2, hb, hU0, hL0, hdp0, hdpU, htp, ho⟩ := pr'
  have hk3 : σ 1 3 = tkK t n p := tc.2.2.2.2.2.2.1
  have hlt : τ 121 (s - 1) < 4 ∨ 6 < τ 121 (s - 1) := htp.1
  simp only [sz] at hs2
  unfold cRu_readOne_b
  rw [Ok_chk, Ok_ite, hk3]
  refine ⟨ho, fun k => ?_, fun k => ?_⟩
  · obtain ⟨⟨r, τ1⟩, hx, hu⟩ := mo_unit_ok hN tm fmm ps.1 ps.2.1 (s := s) ps.2.2.2.2.2.2.1 hs1 (by omega) (b := b) ps.2.2.2.2.2.2.2.1 hb ps.2.2.2.2.1 hU0 ps.2.2.2.2.2.1 (by have := ps.1; omega)
    have hpos := PS_pos ps hs1
    rw [Ok_ite]
    refine ⟨fun hb6 => ?_, fun hb6 => ?_⟩
    · have hx' : r = 1 ∧ TM τ1 t n (tkE t n p) ∧ FM τ1 0 (-1) ∧ eqM τ1 (yset (yset (yset (yset (yset τ 102 bk U) 121 s 3) 122 s 126) 92 44 (s + 1)) 92 43 (b + 1)) := by
        rcases hu with ⟨_, _, _, _, w, _⟩ | ⟨w1, w2, ⟨w3, _, _, _, w4⟩ | ⟨_, w, _⟩ | ⟨_, w, _⟩⟩
        · exact absurd ⟨k, by omega, by omega⟩ w
        · exact ⟨w3, w1, w2, w4⟩
        · omega
        · rcases w with w | w
          · omega
          · exact absurd (nmc_0.mpr (by omega)) w
      obtain ⟨r1, tm1, fm1, he⟩ := hx'
      subst r1
      rw [Ok_bndO]
      refine (TC_go hN tc).mono ?_
      rintro σ5 ⟨o1, tc1, f6, f7⟩
      have c0 : σ5 o = σ o := o1.1 o (by omega)
      have c1 : σ5 (o + 1) = σ (o + 1) := o1.1 (o + 1) (by omega)
      obtain ⟨ps1, r121, r122, frm1, frp1⟩ := PS_open (σ' := σ5) ps he rfl (by rw [c0]) (by rw [c0]; exact ps.2.2.2.1) c1 3
      rw [Ok_chkI, Ok_bndR]
      refine ⟨by omega, ?_⟩
      have pre : PR 2 (b + 1) σ5 τ1 t n (tkE t n p) o bk (s + 1) U L := by
        refine ⟨⟨tc1, tm1, FC_of fcc f6 f7, fm1⟩, ps1, by omega, by simp only [sz]; omega, by omega, hU0, hL0, by rw [c1]; omega, by rw [c1]; omega, ⟨?_, fun q => by omega⟩, ho⟩
        rw [Nat.add_sub_cancel, r121]
        exact Or.inl (by decide)
      refine (HR2 (by omega) σ5 τ1 t n (tkE t n p) o bk (s + 1) U L pre).mono ?_
      rintro ⟨r8, σ9⟩ hpo
      dsimp only
      rw [Ok_ite]
      rcases hpo with ⟨hr, U', hrs⟩ | ⟨hr, hrf⟩
      · dsimp only at hr hrs
        refine ⟨fun q => by omega, fun _ => ?_⟩
        obtain ⟨τ2, p2, L2, M2, e2, m2, re2, rt2, ps2, u3, u4, l2, d2, mm2, ee2, fp2, fc2, fm2, tk2⟩ := hrs
        rw [c1] at d2
        simp only [cc] at l2
        simp only [mm] at mm2
        simp only [ee] at ee2
        have hL2 : L2 < 400 := by omega
        have t121 : τ2 121 s = 3 := by rw [(fp2 s (by omega)).1]; exact r121
        have t122 : τ2 122 s = 126 := by rw [(fp2 s (by omega)).2]; exact r122
        obtain ⟨ps3, d3⟩ := PS_put (x := -116) (lv := 3) (b := b) ps2 (by omega) (by rw [t121]; omega) (by rw [t121, if_pos rfl]) (by rw [t122]; exact Or.inr (Or.inr (Or.inl ⟨rfl, rfl⟩))) (fun q => absurd q (by decide)) (fun _ => by omega) (fun q => absurd q (by decide))
        rw [cRu_put_eq ho ps2.2.2.1 hL2, Ok_bndR, Ok_some, Ok_ite]
        refine ⟨fun q => absurd q (by show ¬ (1 : Int) = 0; decide), fun _ => ?_⟩
        rw [Ok_some]
        refine Or.inl ⟨rfl, U', τ2, p2, L2 + 1, M2, e2 + 1, 1 + m2, RE_tr (RE_unit fmm.1 hpos hx) re2, RT_put rt2 ho, ps3, u3, u4, by simp only [cc]; omega, ?_, by simp only [mm]; omega, by simp only [ee]; omega, FrP_tr frp1 fp2 (by omega), FrC_tr (FrC_tr (FrC_eqC (eqC_of o1)) fc2) FrC_put, FrM_tr frm1 fm2, tk2⟩
        rw [d3, d2, show dl (-116) = 0 from rfl, Int.add_zero]
      · dsimp only at hr hrf
        refine ⟨fun _ => ?_, fun q => absurd hr q⟩
        rw [Ok_some]
        obtain ⟨τ2, x, m2, U', re2, rb, u3, u4, mm2, fc2, fm2⟩ := hrf
        simp only [ff] at mm2
        exact Or.inr ⟨rfl, τ2, x, 1 + m2, U', RE_tr (RE_unit fmm.1 hpos hx) re2, rb, u3, u4, by simp only [ff]; omega, FrC_tr (FrC_eqC (eqC_of o1)) fc2, FrM_tr frm1 fm2⟩
    · have hx' : TM τ1 t n p ∧ FM τ1 (bdK t n p) (tkA t n p) ∧ eqM τ1 τ := by
        rcases hu with ⟨_, w1, w2, w3, _⟩ | ⟨w1, w2, ⟨_, _, _, w, _⟩ | ⟨_, w, _⟩ | ⟨_, w, _⟩⟩
        · exact ⟨w1, w2, w3⟩
        · omega
        · omega
        · rcases w with w | w
          · omega
          · exact absurd (nmc_0.mpr (by omega)) w
      obtain ⟨tm1, fm1, he⟩ := hx'
      rw [Ok_bndR]
      refine (cTp_blame_ok tc 2).mono ?_
      rintro ⟨r16, σ17⟩ ⟨b1, b2, b3⟩
      dsimp only at b1 b2 b3 ⊢
      rw [Ok_chk, Ok_some]
      refine ⟨Or.inl b1, Or.inr ⟨b1, τ1, r, 1, U, RE_unit fmm.1 hpos hx, ?_, Nat.le_refl U, hU0, by simp only [ff]; omega, FrC_eqC (eqC_of b2), FrM_eqM he⟩⟩
      exact RB_of tm1 b3 (by rw [← bdK_2 (t := t) (n := n) (p := p) (by omega)]; exact fm1) (by decide)
  · rw [Ok_bndR]
    refine (HR3 σ τ t n p o bk s U L (PR_up (g := 2) (by omega) pr (fun _ => k))).mono ?_
    rintro ⟨r20, σ21⟩ h3
    dsimp only
    rw [Ok_chk, Ok_some]
    rcases h3 with ⟨r1, U', hrs⟩ | ⟨r0, hrf⟩
    · dsimp only at r1 hrs
      refine ⟨Or.inr r1, Or.inl ⟨r1, U', ?_⟩⟩
      have := RS_dn (g := 2) (lv' := 3) (by omega) hb hrs (by omega)
      exact RS_q (q := 3) this (rk_rg _).2.2
    · dsimp only at r0 hrf
      exact ⟨Or.inl r0, Or.inr ⟨r0, RF_dn (g := 2) (by omega) hb hrf⟩⟩
theorem cRu_beginsUnit_eq (k : Int) (σ : ySt) : cRu_beginsUnit k σ = some (if k = 2 ∨ k = 40 ∨ nmc k ≠ 0 then 1 else 0) := by
  apply Ok_eq
  have hn := @nmc_0 k
  unfold cRu_beginsUnit
  rw [Ok_ite, Ok_some]
  refine ⟨fun q => by rw [if_pos (Or.inl q)], fun q => ?_⟩
  rw [Ok_ite, Ok_some]
  refine ⟨fun q2 => by rw [if_pos (Or.inr (Or.inl q2))], fun q2 => ?_⟩
  rw [Ok_bndO]
  have e : cRu_isName k σ = some (if nmc k = 0 then 0 else 1) := by
    unfold cRu_isName
    repeat' split
    all_goals first
      | rfl
      | omega
  rw [e, Ok_some, Ok_ite, Ok_some, Ok_some]
  by_cases c : nmc k = 0
  · rw [if_pos c]
    refine ⟨fun _ => by rw [if_neg (by omega)], fun w => absurd rfl w⟩
  · rw [if_neg c]
    refine ⟨fun w => absurd w (by decide), fun _ => by rw [if_pos (by omega)]⟩
theorem dl_nm {k : Int} (h : nmc k ≠ 0) : dl (-k) = 1 ∧ CE (-k) (nmc k) 0 := by
  have : k = 117 ∨ k = 109 ∨ k = 100 ∨ k = 118 := by
    have := @nmc_0 k
    omega
  rcases this with rfl | rfl | rfl | rfl
  · exact ⟨rfl, Or.inr (Or.inl ⟨rfl, rfl⟩)⟩
  · exact ⟨rfl, Or.inr (Or.inr (Or.inl ⟨rfl, rfl⟩))⟩
  · exact ⟨rfl, Or.inr (Or.inr (Or.inr (Or.inl ⟨rfl, rfl⟩)))⟩
  · exact ⟨rfl, Or.inr (Or.inr (Or.inr (Or.inr (Or.inl ⟨rfl, rfl⟩))))⟩
theorem cRu_readUnit_ok {N b : Nat} {rec : Nat → Nat → Int → ySt → Option (Int × ySt)} (hN : 100000 ≤ N) (HR0 : b ≤ 6 → RD N rec 0 (b + 1)) : ∀ (σ τ : ySt) (t : Nat → Int) (n p o bk s U L : Nat), PR 6 b σ τ t n p o bk s U L → Ok (cRu_readUnit_b rec N o b σ) (PO N 6 b σ τ t n o bk s U L) := by
  intro σ τ t n p o bk s U L pr
  obtain ⟨⟨tc, tm, fcc, fmm⟩, ps, hs1, hs2, hb, hU0, hL0, hdp0, hdpU, htp, ho⟩ := pr
  have hk3 : σ 1 3 = tkK t n p := tc.2.2.2.2.2.2.1
  have h116 : tkK t n p = 116 → 4 ≤ τ 121 (s - 1) ∧ τ 121 (s - 1) ≤ 6 := htp.2 (by decide)
  have hn := @nmc_0 (tkK t n p)
  have h3 : σ o 3 = U := ps.2.2.2.1
  simp only [sz] at hs2
  obtain ⟨⟨r, τ1⟩, hx, hu⟩ := mo_unit_ok hN tm fmm ps.1 ps.2.1 (s := s) ps.2.2.2.2.2.2.1 hs1 (by omega) (b := b) ps.2.2.2.2.2.2.2.1 hb ps.2.2.2.2.1 hU0 ps.2.2.2.2.2.1 (by have := ps.1; omega)
  have hpos := PS_pos ps hs1
  have re1 := RE_unit fmm.1 hpos hx
  have fail : ∀ (f : Int) (σ' : ySt), ¬ (tkK t n p = 40 ∧ b < 7 ∧ U < 40) → ¬ (isLf (tkK t n p) ∧ U < 40) → f = bdK t n p → offC σ σ' → FC σ' f (tkA t n p) → RF N 6 b σ τ t n o bk U σ' := by
    intro f σ' g1 g2 hf hof hfc
    rcases hu with ⟨_, w1, w2, w3, _⟩ | ⟨w1, w2, ⟨_, w3, w4, _⟩ | ⟨_, w3, w4, w5, _⟩ | ⟨_, w3, w4, _⟩⟩
    · exact ⟨τ1, r, 1, U, re1, RB_of w1 (by rw [← hf]; exact hfc) w2 (bdK_0 t n p), Nat.le_refl U, hU0, by simp only [ff]; omega, FrC_eqC (eqC_of hof), FrM_eqM w3⟩
    · exact absurd (h116 w3) w4
    · exact absurd ⟨w3, w4, w5⟩ g1
    · exact absurd ⟨isLf_iff.mpr w3, w4⟩ g2
  unfold cRu_readUnit_b
  rw [Ok_chk, cRu_beginsUnit_eq, bndO_s, hk3, Ok_ite]
  refine ⟨ho, fun q0 => ?_, fun q0 => ?_⟩
  · have hbeg : tkK t n p = 2 ∨ tkK t n p = 40 ∨ nmc (tkK t n p) ≠ 0 := by
      by_cases c : tkK t n p = 2 ∨ tkK t n p = 40 ∨ nmc (tkK t n p) ≠ 0
      · exact c
      · rw [if_neg c] at q0
        exact absurd rfl q0
    refine Ok_jq1 (fun y => (y = 1 ∧ tkK t n p = 40) ∨ (y = 0 ∧ tkK t n p ≠ 40)) (fun y5 hy5 => ?_) (fun x hx => ?_)
    · refine Ok_jq (40 ≤ U ∨ (y5 = 1 ∧ b = 7)) (fun c => ?_) (fun j7 hj7 => ?_)
      · rw [Ok_bndR]
        refine (cTp_blame_ok tc 2).mono ?_
        rintro ⟨r9, σ10⟩ ⟨b1, b2, b3⟩
        dsimp only at b1 b2 b3 ⊢
        rw [Ok_chk, Ok_some]
        refine ⟨Or.inl b1, Or.inr ⟨b1, fail 2 σ10 (by omega) ?_ (bdK_2 (by omega)).symm b2 b3⟩⟩
        rw [isLf_iff]
        omega
      · rw [h3, Ok_ite]
        refine ⟨fun q => hj7 (Or.inl (by omega)), fun qU => ?_⟩
        refine Ok_jq (y5 = 0 ∨ b ≤ 6) (fun hyb => ?_) (fun j13 hj13 => ?_)
        · have y13 : yset σ o 3 ((U : Int) + 1) 1 3 = tkK t n p := by rw [yset_ne (by omega)]; exact hk3
          have y15 : yset σ o 3 ((U : Int) + 1) 1 5 = σ 1 5 := yset_ne (by omega)
          rw [Ok_chkI, Ok_bnd, y13, y15]
          refine ⟨by omega, ?_⟩
          refine Ok_jq1 (fun y => y5 = 0 → y = if nmc (tkK t n p) = 0 then tkV t n p else -(tkK t n p)) (fun y17 hy17 => ?_) (fun x hx => ?_)
          · rw [Ok_bndO]
            refine (TC_go hN (TC_set tc (by omega) (by omega))).mono ?_
            rintro σ20 ⟨o1, tc1, f6, f7⟩
            have c0 : σ20 o 3 = (U : Int) + 1 := by rw [o1.1 o (by omega), yset_at]
            have c0' : σ20 o 2 = σ o 2 := by rw [o1.1 o (by omega), yset_ne (by omega)]
            have c1 : σ20 (o + 1) = σ (o + 1) := by rw [o1.1 (o + 1) (by omega), yset_off (o + 1) (by omega)]
            have fc1 : FrC o σ20 σ := FrC_tr (fun i _ h2 _ => yset_off i h2) (FrC_eqC (eqC_of o1))
            have f6' : σ20 1 6 = σ 1 6 := by rw [f6, yset_ne (by omega)]
            have f7' : σ20 1 7 = σ 1 7 := by rw [f7, yset_ne (by omega)]
            rw [Ok_ite]
            refine ⟨fun y0 => ?_, fun y0 => ?_⟩
            · have hlf : tkK t n p = 2 ∨ nmc (tkK t n p) ≠ 0 := by omega
              have hx' : r = 0 ∧ TM τ1 t n (tkE t n p) ∧ FM τ1 0 (-1) ∧ eqM τ1 (yset (yset (yset (yset τ 102 bk (U + 1)) 119 (400 * bk + L) (if nmc (tkK t n p) = 0 then 110 else nmc (tkK t n p))) 120 (400 * bk + L) (if nmc (tkK t n p) = 0 then τ 92 9 else 0)) 92 42 ((400 * bk + L : Nat) + 1)) := by
                rcases hu with ⟨_, _, _, _, _, _, w⟩ | ⟨w1, w2, ⟨_, w3, _⟩ | ⟨_, w3, _⟩ | ⟨w3, _, _, w4⟩⟩
                · exact absurd ⟨hlf, by omega⟩ w
                · omega
                · omega
                · exact ⟨w3, w1, w2, w4⟩
              obtain ⟨r0, tm1, fm1, he⟩ := hx'
              subst r0
              have hy := hy17 y0
              have hL : L < 400 := by omega
              have hv : y17 = (if nmc (tkK t n p) = 0 then tkV t n p else -(tkK t n p)) := hy
              have hCE : CE y17 (if nmc (tkK t n p) = 0 then 110 else nmc (tkK t n p)) (if nmc (tkK t n p) = 0 then τ 92 9 else 0) ∧ dl y17 = 1 := by
                by_cases c : nmc (tkK t n p) = 0
                · have k2 : tkK t n p = 2 := by omega
                  have hv9 : τ 92 9 = tkV t n p := tm.2.2.2.2.2.2.2.2.2.2 k2
                  have hvr := tkV_rg k2
                  rw [if_pos c] at hv
                  rw [if_pos c, if_pos c, hv, hv9]
                  refine ⟨Or.inl ⟨rfl, hvr.1, hvr.2, rfl⟩, ?_⟩
                  unfold dl
                  rw [if_pos hvr.1]
                · rw [if_neg c] at hv
                  rw [if_neg c, if_neg c, hv]
                  exact ⟨(dl_nm c).2, (dl_nm c).1⟩
              obtain ⟨ps3, d3, frm1, frp1⟩ := PS_leaf (σ' := σ20) ps he (by rw [c0']; exact ps.2.2.1) c0 c1 hCE.1 hCE.2 (by omega) hL 7 s
              rw [cRu_put_eq ho (by rw [c0']; exact ps.2.2.1) hL, Ok_bndR, Ok_some]
              dsimp only
              rw [Ok_chk, Ok_some]
              refine ⟨Or.inr rfl, Or.inl ⟨rfl, U + 1, τ1, tkE t n p, L + 1, L + 1, 0, 1, re1, RT_put ⟨tc1, tm1, FC_of fcc f6' f7', fm1⟩ ho, ps3, by omega, by omega, by simp only [cc]; omega, d3, by simp only [mm]; omega, by simp only [ee]; omega, frp1, FrC_tr fc1 FrC_put, frm1, Or.inl ?_⟩⟩
              have := rk_rg (tkK t n (tkE t n p))
              omega
            · have k40 : tkK t n p = 40 := by omega
              have hb6 : b ≤ 6 := by omega
              have hx' : r = 1 ∧ TM τ1 t n (tkE t n p) ∧ FM τ1 0 (-1) ∧ eqM τ1 (yset (yset (yset (yset (yset τ 102 bk (U + 1)) 121 s 7) 122 s 126) 92 44 (s + 1)) 92 43 (b + 1)) := by
                rcases hu with ⟨_, _, _, _, _, w, _⟩ | ⟨w1, w2, ⟨_, w3, _⟩ | ⟨w3, _, _, _, w4⟩ | ⟨_, w3, _⟩⟩
                · exact absurd ⟨k40, by omega, by omega⟩ w
                · omega
                · exact ⟨w3, w1, w2, w4⟩
                · omega
              obtain ⟨r1, tm1, fm1, he⟩ := hx'
              subst r1
              obtain ⟨ps1, r121, r122, frm1, frp1⟩ := PS_open (σ' := σ20) (U' := U + 1) ps he (by omega) c0' (by rw [c0]; omega) c1 1
              rw [Ok_chkI, Ok_bndR]
              refine ⟨by omega, ?_⟩
              have pre : PR 0 (b + 1) σ20 τ1 t n (tkE t n p) o bk (s + 1) (U + 1) L := by
                refine ⟨⟨tc1, tm1, FC_of fcc f6' f7', fm1⟩, ps1, by omega, by simp only [sz]; omega, by omega, by omega, by omega, by rw [c1]; omega, by rw [c1]; omega, ⟨?_, fun q => absurd q (by decide)⟩, ho⟩
                rw [Nat.add_sub_cancel, r121]
                exact Or.inr (by decide)
              refine (HR0 hb6 σ20 τ1 t n (tkE t n p) o bk (s + 1) (U + 1) L pre).mono ?_
              rintro ⟨r28, σ29⟩ hpo
              dsimp only
              rw [Ok_ite]
              rcases hpo with ⟨hr, U', hrs⟩ | ⟨hr, hrf⟩
              · dsimp only at hr hrs
                refine ⟨fun q => by omega, fun _ => ?_⟩
                obtain ⟨τ2, p2, L2, M2, e2, m2, re2, ⟨tc2, tm2, fcc2, fmm2⟩, ps2, u3, u4, l2, d2, mm2, ee2, fp2, fc2, fm2, tk2⟩ := hrs
                rw [c1] at d2
                simp only [cc] at l2
                simp only [mm] at mm2
                simp only [ee] at ee2
                have t121 : τ2 121 s = 7 := by rw [(fp2 s (by omega)).1]; exact r121
                have frp : FrP s τ2 τ := FrP_tr frp1 fp2 (by omega)
                rw [Ok_bndR]
                refine (cTp_pass_ok hN tc2 41).mono ?_
                rintro ⟨r32, σ33⟩ ⟨o3, d4⟩
                dsimp only at o3 d4 ⊢
                rw [Ok_ite]
                have bad : tkK t n p2 ≠ 41 → FC σ33 (bdK t n p2) (tkA t n p2) → RF N 6 b σ τ t n o bk U σ33 := by
                  intro k41 hfc
                  have hcl : ∃ τ3 x, RE N 1 0 τ2 x τ3 ∧ TM τ3 t n p2 ∧ FM τ3 (bdK t n p2) (tkA t n p2) ∧ FrM bk τ3 τ2 := by
                    rcases tk2 with w | ⟨_, w2, w3⟩
                    · have hr0 : rk (tkK t n p2) = 0 := by
                        have := (rk_rg (tkK t n p2)).1
                        omega
                      obtain ⟨τ3, q1, q2, q3, q4⟩ := beh_close hN tm2 fmm2 ps2 (by omega) (by omega) (by omega) t121 hr0 7
                      rcases q2 with ⟨w1, _⟩ | ⟨_, w2, w3⟩
                      · exact absurd w1 k41
                      · exact ⟨τ3, 0, q1, w2, w3, q3⟩
                    · obtain ⟨τ3, q1, q2, q3, q4⟩ := beh_cmp tm2 fmm2 (PS_pos ps2 (by omega)) w2 w3 bk
                      exact ⟨τ3, 1, q1, q2, q3, q4⟩
                  obtain ⟨τ3, x, q1, q2, q3, q4⟩ := hcl
                  exact ⟨τ3, x, 1 + (m2 + 1), U', RE_tr re1 (RE_tr re2 q1), RB_of q2 hfc q3 (bdK_0 t n p2), by omega, u4, by simp only [ff]; omega, FrC_tr (FrC_tr fc1 fc2) (FrC_eqC (eqC_of o3)), FrM_tr (FrM_tr frm1 fm2) q4⟩
                rcases d4 with ⟨k41, e, tc', g6, g7⟩ | ⟨k41, e, f⟩
                · refine ⟨fun q => by omega, fun _ => ?_⟩
                  rw [Ok_some]
                  have hr0 : rk (tkK t n p2) = 0 := by rw [k41]; rfl
                  obtain ⟨τ3, q1, q2, q3, q4⟩ := beh_close hN tm2 fmm2 ps2 (by omega) (by omega) (by omega) t121 hr0 7
                  rcases q2 with ⟨_, tm3, fm3, ps3⟩ | ⟨w1, _⟩
                  · have cc0 : σ33 o = σ29 o := o3.1 o (by omega)
                    have cc1 : σ33 (o + 1) = σ29 (o + 1) := o3.1 (o + 1) (by omega)
                    refine Or.inl ⟨rfl, U', τ3, tkE t n p2, L2, L2, 0, 1 + (m2 + 1), RE_tr re1 (RE_tr re2 q1), ⟨tc', tm3, FC_of fcc2 g6 g7, fm3⟩, PS_C ps3 cc0 cc1, by omega, u4, by simp only [cc]; omega, by dsimp only; rw [cc1]; exact d2, by simp only [mm]; omega, by simp only [ee]; omega, FrP_tr frp q4 (Nat.le_refl s), FrC_tr (FrC_tr fc1 fc2) (FrC_eqC (eqC_of o3)), FrM_tr (FrM_tr frm1 fm2) q3, Or.inl ?_⟩
                    have := rk_rg (tkK t n (tkE t n p2))
                    omega
                  · exact absurd k41 w1
                · refine ⟨fun q => ?_, fun q => absurd e q⟩
                  rw [Ok_some]
                  exact Or.inr ⟨rfl, bad k41 f⟩
              · dsimp only at hr hrf
                refine ⟨fun _ => ?_, fun q => absurd hr q⟩
                rw [Ok_some]
                obtain ⟨τ2, x, m2, U', re2, rb, u3, u4, mm2, fc2, fm2⟩ := hrf
                simp only [ff] at mm2
                exact Or.inr ⟨rfl, τ2, x, 1 + m2, U', RE_tr re1 re2, rb, by omega, u4, by simp only [ff]; omega, FrC_tr fc1 fc2, FrM_tr frm1 fm2⟩
          · rw [Ok_ite]
            refine ⟨fun q => ?_, fun q => ?_⟩
            · have := tkK_rg t n p
              rw [Ok_chkI]
              refine ⟨by omega, hx _ (fun y0 => ?_)⟩
              rw [if_neg (by omega)]
            · have k2 := Classical.not_not.mp q
              refine hx _ (fun y0 => ?_)
              rw [if_pos (by omega)]
              exact tc.2.2.2.2.2.2.2.2.2 k2
        · rw [Ok_ite]
          refine ⟨fun q => hj13 (Or.inl q), fun q => ?_⟩
          rw [Ok_ite]
          exact ⟨fun q2 => hj13 (Or.inr (by omega)), fun q2 => hj7 (Or.inr ⟨by omega, by omega⟩)⟩
    · rw [Ok_ite]
      exact ⟨fun q => hx 0 (Or.inr ⟨rfl, q⟩), fun q => hx 1 (Or.inl ⟨rfl, Classical.not_not.mp q⟩)⟩
  · have hbeg : ¬ (tkK t n p = 2 ∨ tkK t n p = 40 ∨ nmc (tkK t n p) ≠ 0) := by
      intro c
      rw [if_pos c] at q0
      exact q0 (by decide)
    rw [Ok_bndR]
    refine (cTp_refuse_ok tc).mono ?_
    rintro ⟨r41, σ42⟩ ⟨b1, b2, b3⟩
    dsimp only at b1 b2 b3 ⊢
    rw [Ok_chk, Ok_some]
    refine ⟨Or.inl b1, Or.inr ⟨b1, fail _ σ42 (by omega) ?_ rfl b2 b3⟩⟩
    rw [isLf_iff]
    omega
theorem cRu_read_ok {N : Nat} (hN : 100000 ≤ N) : ∀ (d g b : Nat), g ≤ 6 → b ≤ 7 → 7 - g + 7 * (7 - b) ≤ d → RD N (cRu_read N d) g b := by
  intro d
  induction d with
  | zero =>
    intro g b hg hb hd
    omega
  | succ d ih =>
    intro g b hg hb hd σ τ t n p o bk s U L pr
    have h7 : g = 0 ∨ g = 1 ∨ g = 2 ∨ g = 3 ∨ g = 4 ∨ g = 5 ∨ g = 6 := by omega
    unfold cRu_read
    rcases h7 with rfl | rfl | rfl | rfl | rfl | rfl | rfl
    · exact cRu_readEither_ok hN (ih 1 b (by omega) hb (by omega)) σ τ t n p o bk s U L pr
    · exact cRu_readBoth_ok hN (ih 2 b (by omega) hb (by omega)) σ τ t n p o bk s U L pr
    · exact cRu_readOne_ok hN (fun _ => ih 2 (b + 1) (by omega) (by omega) (by omega)) (ih 3 b (by omega) hb (by omega)) σ τ t n p o bk s U L pr
    · exact cRu_readRelation_ok hN (ih 4 b (by omega) hb (by omega)) σ τ t n p o bk s U L pr
    · exact cRu_readSum_ok hN (ih 5 b (by omega) hb (by omega)) σ τ t n p o bk s U L pr
    · exact cRu_readTerm_ok hN (ih 6 b (by omega) hb (by omega)) σ τ t n p o bk s U L pr
    · exact cRu_readUnit_ok hN (fun _ => ih 0 (b + 1) (by omega) (by omega) (by omega)) σ τ t n p o bk s U L pr
