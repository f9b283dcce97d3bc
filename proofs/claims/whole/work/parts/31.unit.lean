/-! the rule: the reference where a unit is due -/
theorem nmc_0 {k : Int} : nmc k = 0 ↔ ¬ (k = 117 ∨ k = 109 ∨ k = 100 ∨ k = 118) := by
  unfold nmc
  repeat' split
  all_goals omega
theorem isLf_iff {k : Int} : isLf k ↔ (k = 2 ∨ nmc k ≠ 0) := by
  unfold isLf
  have := @nmc_0 k
  omega
theorem mo_unit_ok {N n p bk s b U m : Nat} {τ : ySt} {t : Nat → Int} (hN : 100000 ≤ N) (h : TM τ t n p) (g : FM τ 0 (-1)) (hb : bk < 2) (h41 : τ 92 41 = bk) (h44 : τ 92 44 = s) (hs : 1 ≤ s) (hs2 : s < 90) (h43 : τ 92 43 = b) (hb7 : b ≤ 7) (hu : τ 102 bk = U) (hU : U ≤ 40) (h42 : τ 92 42 = m) (hm : m < 800) :
    Ok (mo_unit N τ) (fun r => (r.1 = 1 ∧ TM r.2 t n p ∧ FM r.2 (bdK t n p) (tkA t n p) ∧ eqM r.2 τ ∧ ¬ (tkK t n p = 116 ∧ ¬ (4 ≤ τ 121 (s - 1) ∧ τ 121 (s - 1) ≤ 6) ∧ b < 7) ∧ ¬ (tkK t n p = 40 ∧ b < 7 ∧ U < 40) ∧ ¬ ((tkK t n p = 2 ∨ nmc (tkK t n p) ≠ 0) ∧ U < 40)) ∨
      (TM r.2 t n (tkE t n p) ∧ FM r.2 0 (-1) ∧ (
       (r.1 = 1 ∧ tkK t n p = 116 ∧ ¬ (4 ≤ τ 121 (s - 1) ∧ τ 121 (s - 1) ≤ 6) ∧ b < 7 ∧ eqM r.2 (yset (yset (yset (yset (yset τ 102 bk U) 121 s 3) 122 s 126) 92 44 (s + 1)) 92 43 (b + 1))) ∨
       (r.1 = 1 ∧ tkK t n p = 40 ∧ b < 7 ∧ U < 40 ∧ eqM r.2 (yset (yset (yset (yset (yset τ 102 bk (U + 1)) 121 s 7) 122 s 126) 92 44 (s + 1)) 92 43 (b + 1))) ∨
       (r.1 = 0 ∧ (tkK t n p = 2 ∨ nmc (tkK t n p) ≠ 0) ∧ U < 40 ∧ eqM r.2 (yset (yset (yset (yset τ 102 bk (U + 1)) 119 m (if nmc (tkK t n p) = 0 then 110 else nmc (tkK t n p))) 120 m (if nmc (tkK t n p) = 0 then τ 92 9 else 0)) 92 42 (m + 1)))))) := by
  have h8 : τ 92 8 = 4 ↔ tkK t n p = 2 := (TM_tok h).2.2.2.1
  have hn := @nmc_0 (tkK t n p)
  unfold mo_unit
  have a1 : τ 92 44 - 1 = ((s - 1 : Nat) : Int) := by omega
  rw [a1, Int.toNat_natCast, Ok_chkI, Ok_chkA]
  refine ⟨by omega, by omega, ?_⟩
  refine Ok_jq1 (fun y => (y = 1 ∧ ¬ (4 ≤ τ 121 (s - 1) ∧ τ 121 (s - 1) ≤ 6)) ∨ (y = 0 ∧ 4 ≤ τ 121 (s - 1) ∧ τ 121 (s - 1) ≤ 6)) (fun y3 hy3 => ?_) (fun x hx => ?_)
  · refine Ok_jq1 (fun y => (y = 1 ∧ y3 = 1 ∧ tkK t n p = 116) ∨ (y = 0 ∧ (y3 = 0 ∨ tkK t n p ≠ 116))) (fun y5 hy5 => ?_) (fun x hx => ?_)
    · rw [TM_is h (by decide), bndO_s, mo_wordHere_ok h, bndO_s]
      refine Ok_jq1 (fun ρ => (ρ = τ ∧ ((y5 = 1 ∧ b < 7) ∨ (y5 = 0 ∧ U < 40 ∧ ((tkK t n p = 2 ∨ nmc (tkK t n p) ≠ 0) ∨ (tkK t n p = 40 ∧ b < 7))))) ∨ (TM ρ t n p ∧ FM ρ (bdK t n p) (tkA t n p) ∧ eqM ρ τ ∧ ¬ ((y5 = 1 ∧ b < 7) ∨ (y5 = 0 ∧ U < 40 ∧ ((tkK t n p = 2 ∨ nmc (tkK t n p) ≠ 0) ∨ (tkK t n p = 40 ∧ b < 7)))))) (fun ρ hρ => ?_) (fun j12 hj12 => ?_)
      · rw [mo_isGood_eq, bndO_s, Ok_ite, ite01_0]
        refine ⟨fun q => ?_, fun q => ?_⟩
        · have gg := Classical.not_not.mp q
          rcases hρ with ⟨e, G⟩ | ⟨_, f, _⟩
          · rw [e, Ok_chkA, h41, Int.toNat_natCast]
            refine ⟨by omega, Ok_jq1 (fun y => y = 1 - y5) (fun y17 hy17 => ?_) (fun x hx => ?_)⟩
            · rw [Ok_chkI, Ok_chkA, hu, Ok_bnd]
              refine ⟨by omega, by omega, ?_⟩
              refine Ok_jq1 (fun y => y = if nmc (tkK t n p) = 0 then τ 92 9 else 0) (fun y23 hy23 => ?_) (fun x hx => ?_)
              · rw [Ok_bndO]
                refine (TM_go hN (TM_set h (by omega) (by decide))).mono ?_
                rintro τ1 ⟨d1, d2, d3, d4⟩
                have t44 : τ1 92 44 = s := by rw [d1.2 44 (by omega), yset_ne (by omega)]; exact h44
                have t43 : τ1 92 43 = b := by rw [d1.2 43 (by omega), yset_ne (by omega)]; exact h43
                have t42 : τ1 92 42 = m := by rw [d1.2 42 (by omega), yset_ne (by omega)]; exact h42
                have fm : FM τ1 0 (-1) := ⟨by rw [d3, yset_ne (by omega)]; exact g.1, by rw [d4, yset_ne (by omega)]; exact g.2⟩
                refine Ok_jq (y5 = 1 ∨ tkK t n p = 40) (fun c => ?_) (fun j27 hj27 => ?_)
                · refine Ok_jq1 (fun y => y = if y5 = 0 then 7 else 3) (fun y28 hy28 => ?_) (fun x hx => ?_)
                  · have t43' : yset (yset (yset τ1 121 s y28) 122 s 126) 92 44 ((s : Int) + 1) 92 43 = b := by rw [yset_ne (by omega), yset_ne (by omega), yset_ne (by omega)]; exact t43
                    rw [mo_pushE_eq t44 hs2, bndO_s, t43', Ok_chkI, Ok_bnd, Ok_some]
                    refine ⟨by omega, Or.inr ⟨TM_set (TM_set (TM_set (TM_set d2 (by omega) (by decide)) (by omega) (by decide)) (by omega) (by decide)) (by omega) (by decide), FM_set (FM_set (FM_set (FM_set fm (by omega)) (by omega)) (by omega)) (by omega), ?_⟩⟩
                    have he : eqM (yset (yset (yset (yset τ1 121 s y28) 122 s 126) 92 44 ((s : Int) + 1)) 92 43 ((b : Int) + 1)) (yset (yset (yset (yset (yset τ 102 bk (U + y17)) 121 s y28) 122 s 126) 92 44 (s + 1)) 92 43 (b + 1)) := eqM_set2 (eqM_set2 (eqM_set (eqM_set (eqM_of d1) (by decide)) (by decide)))
                    by_cases y : y5 = 0
                    · rw [if_pos y] at hy28
                      rw [show (U : Int) + y17 = U + 1 from by omega, hy28] at he
                      refine Or.inr (Or.inl ⟨rfl, by omega, by omega, by omega, ?_⟩)
                      rw [hy28]
                      exact he
                    · rw [if_neg y] at hy28
                      rw [show (U : Int) + y17 = U from by omega, hy28] at he
                      refine Or.inl ⟨rfl, by omega, by omega, by omega, ?_⟩
                      rw [hy28]
                      exact he
                  · rw [Ok_ite]
                    exact ⟨fun y => hx 7 (by rw [if_pos y]), fun y => hx 3 (by rw [if_neg y])⟩
                · rw [Ok_ite]
                  refine ⟨fun y => hj27 (by omega), fun y => ?_⟩
                  rw [Ok_ite, ite01_0]
                  refine ⟨fun k40 => ?_, fun k40 => hj27 (Or.inr (Classical.not_not.mp k40))⟩
                  have yy : y5 = 0 := by omega
                  have lf : (tkK t n p = 2 ∨ nmc (tkK t n p) ≠ 0) := by omega
                  refine Ok_jq1 (fun y => y = if nmc (tkK t n p) = 0 then 110 else nmc (tkK t n p)) (fun y38 hy38 => ?_) (fun x hx => ?_)
                  · rw [mo_emit_eq t42 hm, bndO_s, Ok_some, hy38, hy23]
                    refine Or.inr ⟨TM_set (TM_set (TM_set d2 (by omega) (by decide)) (by omega) (by decide)) (by omega) (by decide), FM_set (FM_set (FM_set fm (by omega)) (by omega)) (by omega), Or.inr (Or.inr ⟨rfl, lf, by omega, ?_⟩)⟩
                    have he : eqM τ1 (yset τ 102 bk (U + 1)) := by
                      have := eqM_of d1
                      rw [show (U : Int) + y17 = U + 1 from by omega] at this
                      exact this
                    exact eqM_set2 (eqM_set (eqM_set he (by decide)) (by decide))
                  · rw [Ok_ite]
                    exact ⟨fun y => hx _ (by rw [if_neg y]), fun y => hx _ (by rw [if_pos (Classical.not_not.mp y)])⟩
              · rw [Ok_ite]
                exact ⟨fun y => hx _ (by rw [if_neg y]), fun y => hx _ (by rw [if_pos (Classical.not_not.mp y), yset_ne (by omega)])⟩
            · rw [Ok_ite]
              exact ⟨fun y => hx _ (by omega), fun y => hx _ (by omega)⟩
          · exact absurd (f.1.symm.trans gg) (bdK_0 t n p)
        · rw [Ok_some]
          rcases hρ with ⟨e, G⟩ | ⟨f1, f2, f3, f4⟩
          · rw [e] at q
            exact absurd g.1 (by omega)
          · refine Or.inl ⟨rfl, f1, f2, f3, ?_, ?_, ?_⟩ <;> omega
      · refine Ok_jq (¬ ((y5 = 1 ∧ b < 7) ∨ (y5 = 0 ∧ U < 40 ∧ ((tkK t n p = 2 ∨ nmc (tkK t n p) ≠ 0) ∨ (tkK t n p = 40 ∧ b < 7))))) (fun c => ?_) (fun j45 hj45 => ?_)
        · rw [mo_misplaced_ok h g.1, bndO_s]
          exact hj12 _ (Or.inr ⟨TM_F h, ⟨by rw [yset_ne (by omega), yset_at], yset_at⟩, eqM_of offM_F, c⟩)
        · refine Ok_jq (y5 = 1 ∨ (y5 = 0 ∧ U < 40 ∧ ((tkK t n p = 2 ∨ nmc (tkK t n p) ≠ 0) ∨ tkK t n p = 40))) (fun c => ?_) (fun j48 hj48 => ?_)
          · refine Ok_jq (y5 = 1 ∨ (y5 = 0 ∧ U < 40 ∧ tkK t n p = 40)) (fun c => ?_) (fun j49 hj49 => ?_)
            · rw [Ok_ite, h43]
              refine ⟨fun q => hj12 _ (Or.inl ⟨rfl, by omega⟩), fun q => hj45 ?_⟩
              rintro (⟨_, w⟩ | ⟨w1, _, w2 | ⟨_, w2⟩⟩)
              · omega
              · omega
              · omega
            · rw [Ok_ite]
              refine ⟨fun q => hj49 (by omega), fun q => ?_⟩
              rw [Ok_ite, ite01_0]
              refine ⟨fun q2 => hj12 _ (Or.inl ⟨rfl, ?_⟩), fun q2 => hj49 (by omega)⟩
              omega
          · rw [Ok_ite]
            refine ⟨fun q => hj48 (by omega), fun q => ?_⟩
            have yy : y5 = 0 := by omega
            refine Ok_jq (tkK t n p = 2 ∨ nmc (tkK t n p) ≠ 0 ∨ tkK t n p = 40) (fun c => ?_) (fun j54 hj54 => ?_)
            · rw [Ok_chkA, h41, Int.toNat_natCast, hu, Ok_ite]
              refine ⟨by omega, fun q2 => hj45 (by omega), fun q2 => hj48 (by omega)⟩
            · rw [Ok_ite]
              refine ⟨fun q2 => hj54 (by omega), fun q2 => ?_⟩
              rw [Ok_ite]
              refine ⟨fun q3 => hj54 (by omega), fun q3 => ?_⟩
              rw [Ok_ite, ite01_0]
              refine ⟨fun q4 => hj45 (by omega), fun q4 => hj54 (by omega)⟩
    · rw [Ok_ite]
      refine ⟨fun q => hx 0 (Or.inr ⟨rfl, Or.inl q⟩), fun q => ?_⟩
      rw [isW_not_ h, bndO_s, Ok_ite, ite01_0]
      exact ⟨fun q2 => hx 0 (Or.inr ⟨rfl, Or.inr q2⟩), fun q2 => hx 1 (Or.inl ⟨rfl, by omega, Classical.not_not.mp q2⟩)⟩
  · rw [Ok_ite]
    refine ⟨fun q => hx 1 (Or.inl ⟨rfl, by omega⟩), fun q => ?_⟩
    rw [Ok_chkI, Ok_chkA, Ok_ite]
    exact ⟨by omega, by omega, fun q2 => hx 0 (Or.inr ⟨rfl, by omega, by omega⟩), fun q2 => hx 1 (Or.inl ⟨rfl, by omega⟩)⟩
