/-! lines hour, strokes, rule, and what is no line -/
theorem TB_T {σ τ σ' τ' : ySt} {T b mp mq md mw me L L' : Nat} (h : TB σ τ T b mp mq md mw me L) (e : ∀ i, T < i → i ≤ T + 16 → σ' i = σ i) (eT : ∀ k, k ≠ 16 → k ≠ 17 → σ' T k = σ T k) (f : ∀ i, 95 ≤ i → i ≤ 117 → i ≠ 100 → i ≠ 101 → i ≠ 102 → i ≠ 103 → i ≠ 104 → i ≠ 105 → τ' i = τ i) (g6' : G6 σ' τ' T b) (ru : RU σ' τ' T b L') : TB σ' τ' T b mp mq md mw me L' := by
  obtain ⟨g1, g2, g3, g4, g5, g6, g7, g8, g9, g0⟩ := h
  have F : ∀ i, 95 ≤ i → (i < 100 ∨ (106 ≤ i ∧ i ≤ 117)) → τ' i = τ i := fun i h1 h2 => f i (by omega) (by omega) (by omega) (by omega) (by omega) (by omega) (by omega) (by omega)
  have F' : ∀ i, 95 ≤ i → (i < 100 ∨ (106 ≤ i ∧ i ≤ 117)) → τ' i b = τ i b := fun i h1 h2 => by rw [F i h1 h2]
  refine ⟨G1_of g1 (e _ (by omega) (by omega)) (e _ (by omega) (by omega)) (F _ (by omega) (by omega)) (F' _ (by omega) (by omega)), G1_of g2 (e _ (by omega) (by omega)) (e _ (by omega) (by omega)) (F _ (by omega) (by omega)) (F' _ (by omega) (by omega)), G1_of g3 (e _ (by omega) (by omega)) (e _ (by omega) (by omega)) (F _ (by omega) (by omega)) (F' _ (by omega) (by omega)), ?_, ?_, g6', ?_, ?_, ?_, ru⟩
  · exact G4_of g4 (e _ (by omega) (by omega)) (eT _ (by omega) (by omega)) (F _ (by omega) (by omega)) (F' _ (by omega) (by omega)) (Nat.le_refl mp)
  · exact G5_of g5 (eT _ (by omega) (by omega)) (e _ (by omega) (by omega)) (e _ (by omega) (by omega)) (e _ (by omega) (by omega)) (e _ (by omega) (by omega)) (F' _ (by omega) (by omega)) (F _ (by omega) (by omega)) (F _ (by omega) (by omega)) (F _ (by omega) (by omega)) (F _ (by omega) (by omega)) (Nat.le_refl mp) (Nat.le_refl mq)
  · exact G7_of g7 (e _ (by omega) (by omega)) (F _ (by omega) (by omega))
  · exact G8_of g8 (e _ (by omega) (by omega)) (e _ (by omega) (by omega)) (F _ (by omega) (by omega)) (F _ (by omega) (by omega)) (Nat.le_refl mp)
  · exact G9_of g9 (e _ (by omega) (by omega)) (F _ (by omega) (by omega)) (Nat.le_refl mp)
theorem num_fix {x : Option (Int × ySt)} {z : Int} {i k : Nat} {f : ySt → Option ySt} : (bndR x fun r σ2 => chkA 2 z <| bnd (yset σ2 k i r) fun σ3 => f σ3) = bndO (bndR x fun r σ2 => chkA 2 z <| bnd (yset σ2 k i r) fun σ3 => some σ3) f := by
  cases x with
  | none => rfl
  | some a =>
    simp only [bndR_s, bnd]
    unfold chkA
    split <;> rfl
theorem line_hour {N n p T b mp mq md mw me L f1 f2 f3 : Nat} {σ τ : ySt} {t : Nat → Int} (hN : 100000 ≤ N) (hT : T = 13 ∨ T = 33) (hb : b < 2) (rt : RT σ τ t n p) (lt : LT σ τ T b mp mq md mw me L f1 f2 f3) (fg : FLG τ b f1 f2 f3) (k : tkK t n p = 111) : Ok (cLn N (cRd_readLine N σ)) (fun r => Ok (mo_readLine N τ) (LQ T b n t σ τ (mp + mq + md + mw + me + f1 + f2 + f3) r)) := by
  obtain ⟨_, h53, h41, ⟨e1, e2, e3⟩, hf, hr0, hr1⟩ := id lt
  have hk3 : σ 1 3 = tkK t n p := rt.1.2.2.2.2.2.2.1
  have hcl : cRd_readLine N σ = bndR (cRd_readHour N σ) fun r s => chk (r = 0 ∨ r = 1) <| some (r, s) := by
    unfold cRd_readLine
    rw [if_neg (by omega), if_neg (by omega), if_neg (by omega), if_neg (by omega), if_neg (by omega), if_neg (by omega), if_neg (by omega), if_neg (by omega), if_neg (by omega), if_neg (by omega), if_neg (by omega), if_pos (by omega)]
  rw [hcl]
  have ff1 := fg.1
  have ff2 := fg.2.1
  have hful := mo_isFull_ok rt.2.1 hb h41 (by omega) (by omega)
  unfold fullV at hful
  rw [if_neg (by omega), if_neg (by omega), if_neg (by omega), if_neg (by omega), if_neg (by omega), if_pos k, ff1] at hful
  by_cases full : f1 = 1
  · refine LQ_bad rt ?_ (mo_line_bad rt.2.1 rt.2.2.2.1 (fun _ => by rw [hful, full]; rfl))
    rw [bdK_w (by omega)]
    exact Ok_chkd (stop_Hour (N := N) rt.1 (by rw [e1, full]; rfl)) (fun r hr => Or.inl hr.1)
  · have z0 : f1 = 0 := by omega
    rw [z0] at hful
    have w1 := TM_w rt.2.1 (by omega) (j := 11) (fun _ hw => kd_hour hw)
    have w2 := TM_w rt.2.1 (by omega) (j := 12) (fun _ hw => kd_strokes hw)
    have w3 := TM_w rt.2.1 (by omega) (j := 13) (fun _ hw => kd_rule hw)
    refine LQ_good (w := τ 92 10) (Y := fun ρ => bndR (mo_numeral N 1 999 ρ) fun r σ2 => chkA 2 (ρ 92 41) <| bnd (yset σ2 100 ((ρ 92 41)).toNat r) fun σ3 => some σ3) (f1 := f1) (f2 := f2) (f3 := f3) (mp' := mp) (mq' := mq) (md' := md) (mw' := mw) (me' := me) (f1' := 1) (f2' := f2) (f3' := f3) (LL := fun _ => True) hN hT hb rt hf (by omega) (fl_yes (w1.mpr (by omega))) (fl_no hf.2.1 (fun e => by have := w2.mp e; omega)) (fl_no hf.2.2 (fun e => by have := w3.mp e; omega)) (by rw [mo_line_hour rt.2.1 rt.2.2.2.1 k hful]; congr 1; funext σ7; exact num_fix) ?_
    intro τ7 e7 tm7 fm7
    have lt7 := LT_eqM lt e7
    obtain ⟨⟨q1, q2, q3, q4, q5, q6, q7, q8, q9, q0⟩, _, h41', _⟩ := id lt7
    refine Ok2_of (cRd_readHour_ok hN rt.1 hT h53 (by rw [e1, z0]; rfl)) (P' := fun τ' => ∃ τ8 v, τ' = yset τ8 100 b v ∧ eqM τ8 τ7 ∧ ((tkK t n (tkE t n p) = 2 ∧ (1 ≤ tkV t n (tkE t n p) ∧ tkV t n (tkE t n p) ≤ 999) ∧ v = tkV t n (tkE t n p) ∧ TM τ8 t n (tkE t n (tkE t n p)) ∧ FM τ8 0 (-1)) ∨ (tkK t n (tkE t n p) = 2 ∧ ¬ (1 ≤ tkV t n (tkE t n p) ∧ tkV t n (tkE t n p) ≤ 999) ∧ TM τ8 t n (tkE t n p) ∧ FM τ8 4 (tkA t n (tkE t n p))) ∨ (tkK t n (tkE t n p) ≠ 2 ∧ TM τ8 t n (tkE t n p) ∧ FM τ8 (bdK t n (tkE t n p)) (tkA t n (tkE t n p))))) ?_ ?_
    · rw [Ok_bndR]
      refine (mo_numeral_ok hN tm7 fm7.1 1 999).mono ?_
      rintro ⟨v, τ8⟩ ⟨o1, d⟩
      dsimp only at o1 d ⊢
      rw [h41', Int.toNat_natCast, Ok_chkA, Ok_bnd, Ok_some]
      refine ⟨by omega, τ8, v, rfl, eqM_of o1, ?_⟩
      rcases d with ⟨k2, v1, v2, e, tm8, g4, g5⟩ | ⟨k2, v, e, tm8, f⟩ | ⟨k2, e, tm8, f⟩
      · exact Or.inl ⟨k2, ⟨v1, v2⟩, e, tm8, g4, g5.trans fm7.2⟩
      · exact Or.inr (Or.inl ⟨k2, v, tm8, f⟩)
      · exact Or.inr (Or.inr ⟨k2, tm8, f⟩)
    · rintro ⟨r, σ'⟩ τ' d1 ⟨τ8, v, hv, e8, d2⟩
      dsimp only at d1 ⊢
      have of : ∀ i, i ≠ 92 → i ≠ 100 → τ' i = τ7 i := fun i h1 h2 => by rw [hv, yset_off i h2, e8.1 i h1]
      have o92 : ∀ k, 10 < k → τ' 92 k = τ7 92 k := fun k hk => by rw [hv, yset_ne (by omega), e8.2 k (Or.inr hk)]
      have fb : FrB b τ' τ7 := by rw [hv]; exact FrB_tr (FrB_eqM e8) (FrB_1 (by omega))
      have flg : τ' 92 41 = b ∧ τ' 103 b = (f1 : Int) ∧ τ' 104 b = (f2 : Int) ∧ τ' 105 b = (f3 : Int) := by
        rw [o92 41 (by omega), of 103 (by omega) (by omega), of 104 (by omega) (by omega), of 105 (by omega) (by omega), e7.1 103 (by omega), e7.1 104 (by omega), e7.1 105 (by omega)]
        exact ⟨h41', fg.1, fg.2.1, fg.2.2⟩
      rcases d1 with ⟨r1, k2, v1, v2, tc', ec, g6', g7'⟩ | ⟨r0, d1, ec⟩
      · have fT : FrT T σ' σ := FrT_eq2 ec (FrT_tr (FrT_53 (by omega)) (FrT_set hT (by omega) (by omega)))
        rcases d2 with ⟨_, _, vv, tm8, fm8⟩ | ⟨_, w, _⟩ | ⟨w, _⟩
        · refine ⟨fT, fb, flg, Or.inl ⟨r1, Or.inl ⟨_, ⟨tc', ?_, FC_of rt.2.2.1 g6' g7', ?_⟩, L, trivial, ?_, ?_, flg.1, ⟨(by rw [ec 53 (by omega), yset_ne (by omega), yset_at]; rfl), (by rw [ec 53 (by omega), yset_ne (by omega), yset_ne (by omega)]; exact e2), (by rw [ec 53 (by omega), yset_ne (by omega), yset_ne (by omega)]; exact e3)⟩, by omega, fun z => ?_, fun z => hr1.1 (by omega), ?_⟩⟩⟩
          · rw [hv]; exact TM_set tm8 (by omega) (by omega)
          · rw [hv]; exact FM_set fm8 (by omega)
          · have c16 : σ' T 16 = tkV t n (tkE t n p) := by rw [ec T (by omega), yset_at]
            have cT : ∀ j, j ≠ 16 → σ' T j = σ T j := fun j hj => by rw [ec T (by omega), yset_ne (by omega), yset_ne (by omega)]
            have c100 : τ' 100 b = tkV t n (tkE t n p) := by rw [hv, yset_at]; exact vv
            have e101 : τ' 101 b = τ7 101 b := by rw [of 101 (by omega) (by omega)]
            have co : ∀ i, i ≠ 1 → i ≠ 53 → i ≠ T → σ' i = σ i := fun i h1 h2 h3 => by rw [ec i h1, yset_off i h3, yset_off i h2]
            refine TB_T lt7.1 (fun i h1 h2 => co i (by omega) (by omega) (by omega)) (fun j h1 h2 => cT j (by omega)) (fun i h1 h2 h3 h4 _ _ _ _ => of i (by omega) (by omega)) ?_ (RU_of q0 (by rw [co (T + 17) (by omega) (by omega) (by omega)]) (co (T + 18) (by omega) (by omega) (by omega)) (by rw [of 118 (by omega) (by omega)]) (of 119 (by omega) (by omega)) (of 120 (by omega) (by omega)))
            exact ⟨⟨by rw [c16, c100], by rw [c16]; exact v1, by rw [c16]; exact v2⟩, by rw [cT 17 (by omega), e101]; exact q6.2⟩
          · rw [ec 53 (by omega), yset_ne (by omega), yset_ne (by omega)]; exact h53
          · have := lt7.2.2.2.2.2.1 z
            rw [ec (T + 17) (by omega), yset_ne (by omega), yset_ne (by omega), of 102 (by omega) (by omega), o92 42 (by omega)]
            exact this
          · rw [ec (T + 17) (by omega), yset_ne (by omega), yset_ne (by omega), of 102 (by omega) (by omega)]
            exact lt7.2.2.2.2.2.2.2
        · exact absurd ⟨v1, v2⟩ w
        · exact absurd k2 w
      · have fT : FrT T σ' σ := FrT_eq2 ec (FrT_tr (FrT_53 (by omega)) (FrT_set hT (by omega) (by omega)))
        refine ⟨fT, fb, flg, Or.inr ⟨r0, ?_⟩⟩
        rw [hv]
        refine RB_set ?_ (by omega) (by omega)
        rcases d1 with ⟨k2, v, f⟩ | ⟨k2, f⟩
        · rcases d2 with ⟨_, w, _⟩ | ⟨_, _, tm8, f2⟩ | ⟨w, _⟩
          · exact absurd w v
          · exact RB_of tm8 f f2 (by decide)
          · exact absurd k2 w
        · rcases d2 with ⟨w, _⟩ | ⟨w, _⟩ | ⟨_, tm8, f2⟩
          · exact absurd w k2
          · exact absurd w k2
          · exact RB_of tm8 f f2 (bdK_0 _ _ _)
theorem line_strokes {N n p T b mp mq md mw me L f1 f2 f3 : Nat} {σ τ : ySt} {t : Nat → Int} (hN : 100000 ≤ N) (hT : T = 13 ∨ T = 33) (hb : b < 2) (rt : RT σ τ t n p) (lt : LT σ τ T b mp mq md mw me L f1 f2 f3) (fg : FLG τ b f1 f2 f3) (k : tkK t n p = 112) : Ok (cLn N (cRd_readLine N σ)) (fun r => Ok (mo_readLine N τ) (LQ T b n t σ τ (mp + mq + md + mw + me + f1 + f2 + f3) r)) := by
  obtain ⟨_, h53, h41, ⟨e1, e2, e3⟩, hf, hr0, hr1⟩ := id lt
  have hk3 : σ 1 3 = tkK t n p := rt.1.2.2.2.2.2.2.1
  have hcl : cRd_readLine N σ = bndR (cRd_readStrokes N σ) fun r s => chk (r = 0 ∨ r = 1) <| some (r, s) := by
    unfold cRd_readLine
    rw [if_neg (by omega), if_neg (by omega), if_neg (by omega), if_neg (by omega), if_neg (by omega), if_neg (by omega), if_neg (by omega), if_neg (by omega), if_neg (by omega), if_neg (by omega), if_neg (by omega), if_neg (by omega), if_pos (by omega)]
  rw [hcl]
  have ff1 := fg.1
  have ff2 := fg.2.1
  have hful := mo_isFull_ok rt.2.1 hb h41 (by omega) (by omega)
  unfold fullV at hful
  rw [if_neg (by omega), if_neg (by omega), if_neg (by omega), if_neg (by omega), if_neg (by omega), if_neg (by omega), if_pos k, ff2] at hful
  by_cases full : f2 = 1
  · refine LQ_bad rt ?_ (mo_line_bad rt.2.1 rt.2.2.2.1 (fun _ => by rw [hful, full]; rfl))
    rw [bdK_w (by omega)]
    exact Ok_chkd (stop_Strokes (N := N) rt.1 (by rw [e2, full]; rfl)) (fun r hr => Or.inl hr.1)
  · have z0 : f2 = 0 := by omega
    rw [z0] at hful
    have w1 := TM_w rt.2.1 (by omega) (j := 11) (fun _ hw => kd_hour hw)
    have w2 := TM_w rt.2.1 (by omega) (j := 12) (fun _ hw => kd_strokes hw)
    have w3 := TM_w rt.2.1 (by omega) (j := 13) (fun _ hw => kd_rule hw)
    refine LQ_good (w := τ 92 10) (Y := fun ρ => bndR (mo_numeral N 1 8 ρ) fun r σ2 => chkA 2 (ρ 92 41) <| bnd (yset σ2 101 ((ρ 92 41)).toNat r) fun σ3 => some σ3) (f1 := f1) (f2 := f2) (f3 := f3) (mp' := mp) (mq' := mq) (md' := md) (mw' := mw) (me' := me) (f1' := f1) (f2' := 1) (f3' := f3) (LL := fun _ => True) hN hT hb rt hf (by omega) (fl_no hf.1 (fun e => by have := w1.mp e; omega)) (fl_yes (w2.mpr (by omega))) (fl_no hf.2.2 (fun e => by have := w3.mp e; omega)) (by rw [mo_line_strokes rt.2.1 rt.2.2.2.1 k hful]; congr 1; funext σ7; exact num_fix) ?_
    intro τ7 e7 tm7 fm7
    have lt7 := LT_eqM lt e7
    obtain ⟨⟨q1, q2, q3, q4, q5, q6, q7, q8, q9, q0⟩, _, h41', _⟩ := id lt7
    refine Ok2_of (cRd_readStrokes_ok hN rt.1 hT h53 (by rw [e2, z0]; rfl)) (P' := fun τ' => ∃ τ8 v, τ' = yset τ8 101 b v ∧ eqM τ8 τ7 ∧ ((tkK t n (tkE t n p) = 2 ∧ (1 ≤ tkV t n (tkE t n p) ∧ tkV t n (tkE t n p) ≤ 8) ∧ v = tkV t n (tkE t n p) ∧ TM τ8 t n (tkE t n (tkE t n p)) ∧ FM τ8 0 (-1)) ∨ (tkK t n (tkE t n p) = 2 ∧ ¬ (1 ≤ tkV t n (tkE t n p) ∧ tkV t n (tkE t n p) ≤ 8) ∧ TM τ8 t n (tkE t n p) ∧ FM τ8 4 (tkA t n (tkE t n p))) ∨ (tkK t n (tkE t n p) ≠ 2 ∧ TM τ8 t n (tkE t n p) ∧ FM τ8 (bdK t n (tkE t n p)) (tkA t n (tkE t n p))))) ?_ ?_
    · rw [Ok_bndR]
      refine (mo_numeral_ok hN tm7 fm7.1 1 8).mono ?_
      rintro ⟨v, τ8⟩ ⟨o1, d⟩
      dsimp only at o1 d ⊢
      rw [h41', Int.toNat_natCast, Ok_chkA, Ok_bnd, Ok_some]
      refine ⟨by omega, τ8, v, rfl, eqM_of o1, ?_⟩
      rcases d with ⟨k2, v1, v2, e, tm8, g4, g5⟩ | ⟨k2, v, e, tm8, f⟩ | ⟨k2, e, tm8, f⟩
      · exact Or.inl ⟨k2, ⟨v1, v2⟩, e, tm8, g4, g5.trans fm7.2⟩
      · exact Or.inr (Or.inl ⟨k2, v, tm8, f⟩)
      · exact Or.inr (Or.inr ⟨k2, tm8, f⟩)
    · rintro ⟨r, σ'⟩ τ' d1 ⟨τ8, v, hv, e8, d2⟩
      dsimp only at d1 ⊢
      have of : ∀ i, i ≠ 92 → i ≠ 101 → τ' i = τ7 i := fun i h1 h2 => by rw [hv, yset_off i h2, e8.1 i h1]
      have o92 : ∀ k, 10 < k → τ' 92 k = τ7 92 k := fun k hk => by rw [hv, yset_ne (by omega), e8.2 k (Or.inr hk)]
      have fb : FrB b τ' τ7 := by rw [hv]; exact FrB_tr (FrB_eqM e8) (FrB_1 (by omega))
      have flg : τ' 92 41 = b ∧ τ' 103 b = (f1 : Int) ∧ τ' 104 b = (f2 : Int) ∧ τ' 105 b = (f3 : Int) := by
        rw [o92 41 (by omega), of 103 (by omega) (by omega), of 104 (by omega) (by omega), of 105 (by omega) (by omega), e7.1 103 (by omega), e7.1 104 (by omega), e7.1 105 (by omega)]
        exact ⟨h41', fg.1, fg.2.1, fg.2.2⟩
      rcases d1 with ⟨r1, k2, v1, v2, tc', ec, g6', g7'⟩ | ⟨r0, d1, ec⟩
      · have fT : FrT T σ' σ := FrT_eq2 ec (FrT_tr (FrT_53 (by omega)) (FrT_set hT (by omega) (by omega)))
        rcases d2 with ⟨_, _, vv, tm8, fm8⟩ | ⟨_, w, _⟩ | ⟨w, _⟩
        · refine ⟨fT, fb, flg, Or.inl ⟨r1, Or.inl ⟨_, ⟨tc', ?_, FC_of rt.2.2.1 g6' g7', ?_⟩, L, trivial, ?_, ?_, flg.1, ⟨(by rw [ec 53 (by omega), yset_ne (by omega), yset_ne (by omega)]; exact e1), (by rw [ec 53 (by omega), yset_ne (by omega), yset_at]; rfl), (by rw [ec 53 (by omega), yset_ne (by omega), yset_ne (by omega)]; exact e3)⟩, by omega, fun z => ?_, fun z => hr1.1 (by omega), ?_⟩⟩⟩
          · rw [hv]; exact TM_set tm8 (by omega) (by omega)
          · rw [hv]; exact FM_set fm8 (by omega)
          · have c16 : σ' T 17 = tkV t n (tkE t n p) := by rw [ec T (by omega), yset_at]
            have cT : ∀ j, j ≠ 17 → σ' T j = σ T j := fun j hj => by rw [ec T (by omega), yset_ne (by omega), yset_ne (by omega)]
            have c100 : τ' 101 b = tkV t n (tkE t n p) := by rw [hv, yset_at]; exact vv
            have e101 : τ' 100 b = τ7 100 b := by rw [of 100 (by omega) (by omega)]
            have co : ∀ i, i ≠ 1 → i ≠ 53 → i ≠ T → σ' i = σ i := fun i h1 h2 h3 => by rw [ec i h1, yset_off i h3, yset_off i h2]
            refine TB_T lt7.1 (fun i h1 h2 => co i (by omega) (by omega) (by omega)) (fun j h1 h2 => cT j (by omega)) (fun i h1 h2 h3 h4 _ _ _ _ => of i (by omega) (by omega)) ?_ (RU_of q0 (by rw [co (T + 17) (by omega) (by omega) (by omega)]) (co (T + 18) (by omega) (by omega) (by omega)) (by rw [of 118 (by omega) (by omega)]) (of 119 (by omega) (by omega)) (of 120 (by omega) (by omega)))
            exact ⟨by rw [cT 16 (by omega), e101]; exact q6.1, by rw [c16, c100], by rw [c16]; exact v1, by rw [c16]; exact v2⟩
          · rw [ec 53 (by omega), yset_ne (by omega), yset_ne (by omega)]; exact h53
          · have := lt7.2.2.2.2.2.1 z
            rw [ec (T + 17) (by omega), yset_ne (by omega), yset_ne (by omega), of 102 (by omega) (by omega), o92 42 (by omega)]
            exact this
          · rw [ec (T + 17) (by omega), yset_ne (by omega), yset_ne (by omega), of 102 (by omega) (by omega)]
            exact lt7.2.2.2.2.2.2.2
        · exact absurd ⟨v1, v2⟩ w
        · exact absurd k2 w
      · have fT : FrT T σ' σ := FrT_eq2 ec (FrT_tr (FrT_53 (by omega)) (FrT_set hT (by omega) (by omega)))
        refine ⟨fT, fb, flg, Or.inr ⟨r0, ?_⟩⟩
        rw [hv]
        refine RB_set ?_ (by omega) (by omega)
        rcases d1 with ⟨k2, v, f⟩ | ⟨k2, f⟩
        · rcases d2 with ⟨_, w, _⟩ | ⟨_, _, tm8, f2⟩ | ⟨w, _⟩
          · exact absurd w v
          · exact RB_of tm8 f f2 (by decide)
          · exact absurd k2 w
        · rcases d2 with ⟨w, _⟩ | ⟨w, _⟩ | ⟨_, tm8, f2⟩
          · exact absurd w k2
          · exact absurd w k2
          · exact RB_of tm8 f f2 (bdK_0 _ _ _)
theorem line_rule {N n p T b mp mq md mw me L f1 f2 f3 : Nat} {σ τ : ySt} {t : Nat → Int} (hN : 100000 ≤ N) (hT : T = 13 ∨ T = 33) (hb : b < 2) (rt : RT σ τ t n p) (lt : LT σ τ T b mp mq md mw me L f1 f2 f3) (fg : FLG τ b f1 f2 f3) (k : tkK t n p = 113) : Ok (cLn N (cRd_readLine N σ)) (fun r => Ok (mo_readLine N τ) (LQ T b n t σ τ (mp + mq + md + mw + me + f1 + f2 + f3) r)) := by
  obtain ⟨_, h53, h41, ⟨e1, e2, e3⟩, hf, hr0, hr1⟩ := id lt
  have hk3 : σ 1 3 = tkK t n p := rt.1.2.2.2.2.2.2.1
  have hcl : cRd_readLine N σ = bndR (cRd_readRule N σ) fun r s => chk (r = 0 ∨ r = 1) <| some (r, s) := by
    unfold cRd_readLine
    rw [if_neg (by omega), if_neg (by omega), if_neg (by omega), if_neg (by omega), if_neg (by omega), if_neg (by omega), if_neg (by omega), if_neg (by omega), if_neg (by omega), if_neg (by omega), if_neg (by omega), if_neg (by omega), if_neg (by omega), if_pos (by omega)]
  rw [hcl]
  have ff1 := fg.1
  have ff2 := fg.2.1
  have ff3 := fg.2.2
  have hful := mo_isFull_ok rt.2.1 hb h41 (by omega) (by omega)
  unfold fullV at hful
  rw [if_neg (by omega), if_neg (by omega), if_neg (by omega), if_neg (by omega), if_neg (by omega), if_neg (by omega), if_neg (by omega), if_pos k, ff3] at hful
  by_cases full : f3 = 1
  · refine LQ_bad rt ?_ (mo_line_bad rt.2.1 rt.2.2.2.1 (fun _ => by rw [hful, if_neg (by omega)]))
    rw [bdK_w (by omega)]
    exact Ok_chkd (stop_Rule (N := N) rt.1 (by rw [e3, full]; rfl)) (fun r hr => Or.inl hr.1)
  · have z0 : f3 = 0 := by omega
    rw [if_pos (by omega)] at hful
    have w1 := TM_w rt.2.1 (by omega) (j := 11) (fun _ hw => kd_hour hw)
    have w2 := TM_w rt.2.1 (by omega) (j := 12) (fun _ hw => kd_strokes hw)
    have w3 := TM_w rt.2.1 (by omega) (j := 13) (fun _ hw => kd_rule hw)
    refine LQ_good (w := τ 92 10) (Y := fun ρ => mo_readRule N ρ) (f1 := f1) (f2 := f2) (f3 := f3) (mp' := mp) (mq' := mq) (md' := md) (mw' := mw) (me' := me) (f1' := f1) (f2' := f2) (f3' := 1) (LL := fun _ => True) hN hT hb rt hf (by omega) (fl_no hf.1 (fun e => by have := w1.mp e; omega)) (fl_no hf.2.1 (fun e => by have := w2.mp e; omega)) (fl_yes (w3.mpr (by omega))) (mo_line_rule rt.2.1 rt.2.2.2.1 k hful) ?_
    intro τ7 e7 tm7 fm7
    have lt7 := LT_eqM lt e7
    obtain ⟨⟨q1, q2, q3, q4, q5, q6, q7, q8, q9, q0⟩, _, h41', _, _, hr0', _⟩ := id lt7
    obtain ⟨hL0, hU0, h102, h42⟩ := hr0' z0
    unfold cRd_readRule
    rw [e3, z0]
    rw [Ok_bndR]
    refine (cRd_start_ok hN rt.1).mono ?_
    rintro ⟨r1, σ1⟩ ⟨a1, a2, a3, a4, a5⟩
    dsimp only at a1 a2 a3 a4 a5 ⊢
    subst a1
    have ea := eqC_of a2
    have h53' : yset σ1 53 4 1 53 1 = T + 1 := by
      rw [yset_ne (by omega), a2.1 53 (by decide)]
      exact h53
    rw [if_pos (by decide), Ok_bnd, Ok_chkT_eq (T := T) hT h53']
    have rt5 : RT (yset σ1 53 4 1) τ7 t n (tkE t n p) := ⟨TC_set a3 (by omega) (by omega), tm7, FC_set (FC_of rt.2.2.1 a4 a5) (by omega), fm7⟩
    have hLL : yset σ1 53 4 1 (T + 17) 2 = 0 := by rw [yset_ne (by omega), a2.1 (T + 17) (by omega), q0.1, hL0]; rfl
    have hUU : yset σ1 53 4 1 (T + 17) 3 = 0 := by rw [yset_ne (by omega), a2.1 (T + 17) (by omega), hU0]
    refine Ok_chkd ?_ ?_
    · refine (mo_e_ok hN rt5 (o := T + 17) (by omega) hb h41' hLL hUU h102 h42).mono ?_
      rintro ⟨r, σ'⟩ ⟨τ', ht, fc, fm, d⟩
      dsimp only at fc d ⊢
      have y41 : τ' 92 41 = b := by rw [fm.2.2.2 41 (by omega) (by omega) (by omega) (by omega)]; exact h41'
      refine Ok_of (a := yset τ' 118 b (τ' 92 42)) ?_ ?_
      · apply Ok_eq
        unfold mo_readRule
        rw [mo_isGood_eq, bndO_s, if_pos fm7.1]
        refine Ok_jq1 (fun ρ => ρ = τ') (fun ρ hρ => ?_) (fun x hx => ?_)
        · rw [hρ, y41, Int.toNat_natCast, Ok_chkA, Ok_bnd, Ok_some]
          exact ⟨by omega, rfl⟩
        · rw [if_neg (by decide), ht, bndO_s]
          exact hx _ rfl
      · have fT : FrT T σ' σ := FrT_tr (FrT_tr (FrT_eqC ea) (FrT_53 (by omega))) (FrT_FrC hT fc)
        have fb : FrB b (yset τ' 118 b (τ' 92 42)) τ7 := FrB_tr (FrB_FrM fm) (FrB_1 (by omega))
        have of : ∀ i, i ≠ 92 → i ≠ 102 → i ≠ 118 → (i < 119 ∨ 122 < i) → yset τ' 118 b (τ' 92 42) i = τ7 i := fun i h1 h2 h3 h4 => by rw [yset_off i h3, fm.1 i h1 h2 (by omega) (by omega) (by omega) (by omega)]
        refine ⟨fT, fb, ⟨by rw [yset_ne (by omega)]; exact y41, ?_, ?_, ?_⟩, ?_⟩
        · rw [of 103 (by omega) (by omega) (by omega) (by omega), e7.1 103 (by omega)]; exact fg.1
        · rw [of 104 (by omega) (by omega) (by omega) (by omega), e7.1 104 (by omega)]; exact fg.2.1
        · rw [of 105 (by omega) (by omega) (by omega) (by omega), e7.1 105 (by omega)]; have := fg.2.2; omega
        · rcases d with ⟨r1, q, L', rt', z1, z2, z3, z4, z5, z6, z7, z8, z9⟩ | ⟨r1, q, k59, tc', tm', fm'⟩ | ⟨r0, rb⟩
          · refine Or.inl ⟨r1, Or.inl ⟨q, RT_set rt' (by omega) (by omega), L', trivial, ?_, ?_, ?_, ⟨?_, ?_, ?_⟩, ⟨hf.1, hf.2.1, Nat.le_refl 1⟩, fun z => by omega, fun _ => z4, by rw [yset_ne (by omega)]; exact z9⟩⟩
            · have co : ∀ i, i ≠ 1 → i ≠ 53 → i ≠ T + 17 → i ≠ T + 18 → σ' i = σ i := fun i h1 h2 h3 h4 => by rw [fc i h1 h3 h4, yset_off i h2, ea i h1]
              refine TB_T lt7.1 (fun i h1 h2 => co i (by omega) (by omega) (by omega) (by omega)) (fun j h1 h2 => by rw [co T (by omega) (by omega) (by omega) (by omega)]) (fun i h1 h2 h3 h4 h5 _ _ _ => of i (by omega) h5 (by omega) (by omega)) (G6_of q6 (by rw [co T (by omega) (by omega) (by omega) (by omega)]) (by rw [co T (by omega) (by omega) (by omega) (by omega)]) (by rw [of 100 (by omega) (by omega) (by omega) (by omega)]) (by rw [of 101 (by omega) (by omega) (by omega) (by omega)])) ⟨z1, ?_, z5, ?_, z7, ?_⟩
              · rw [yset_at]; exact z3
              · intro i hi
                rw [yset_off 119 (by omega), yset_off 120 (by omega)]
                exact z6 i hi
              · rw [if_neg (by omega)]; exact z8
            · rw [fc 53 (by omega) (by omega) (by omega)]; exact h53'
            · rw [yset_ne (by omega)]; exact y41
            · rw [fc 53 (by omega) (by omega) (by omega), yset_ne (by omega), ea 53 (by omega)]; exact e1
            · rw [fc 53 (by omega) (by omega) (by omega), yset_ne (by omega), ea 53 (by omega)]; exact e2
            · rw [fc 53 (by omega) (by omega) (by omega), yset_at]; rfl
          · exact Or.inl ⟨r1, Or.inr ⟨q, k59, tc', TM_set tm' (by omega) (by omega), FM_set fm' (by omega)⟩⟩
          · exact Or.inr ⟨r0, RB_set rb (by omega) (by omega)⟩
    · rintro r ⟨_, _, _, _, _, h⟩
      omega
theorem line_bad {N n p T b mp mq md mw me L f1 f2 f3 : Nat} {σ τ : ySt} {t : Nat → Int} (hb : b < 2) (rt : RT σ τ t n p) (lt : LT σ τ T b mp mq md mw me L f1 f2 f3) (fg : FLG τ b f1 f2 f3) (k : ¬ (tkK t n p = 100 ∨ tkK t n p = 102 ∨ tkK t n p = 104 ∨ tkK t n p = 107 ∨ tkK t n p = 108 ∨ tkK t n p = 111 ∨ tkK t n p = 112 ∨ tkK t n p = 113)) (s : Nat) : Ok (cLn N (cRd_readLine N σ)) (fun r => Ok (mo_readLine N τ) (LQ T b n t σ τ s r)) := by
  obtain ⟨_, h53, h41, ⟨e1, e2, e3⟩, hf, hr0, hr1⟩ := id lt
  have hk3 : σ 1 3 = tkK t n p := rt.1.2.2.2.2.2.2.1
  have ff1 := fg.1
  have ff2 := fg.2.1
  have hcl : cRd_readLine N σ = bndR (cTp_refuse σ) fun r s => chk (r = 0 ∨ r = 1) <| some (r, s) := by
    unfold cRd_readLine
    rw [if_neg (by omega)]
    by_cases c1 : σ 1 3 = 101
    · rw [if_pos c1]
    rw [if_neg c1, if_neg (by omega)]
    by_cases c1 : σ 1 3 = 103
    · rw [if_pos c1]
    rw [if_neg c1, if_neg (by omega)]
    by_cases c1 : σ 1 3 = 105
    · rw [if_pos c1]
    rw [if_neg c1]
    by_cases c1 : σ 1 3 = 106
    · rw [if_pos c1]
    rw [if_neg c1, if_neg (by omega), if_neg (by omega)]
    by_cases c1 : σ 1 3 = 109
    · rw [if_pos c1]
    rw [if_neg c1]
    by_cases c1 : σ 1 3 = 110
    · rw [if_pos c1]
    rw [if_neg c1, if_neg (by omega), if_neg (by omega), if_neg (by omega)]
  rw [hcl]
  have hful := mo_isFull_ok rt.2.1 hb h41 (by omega) (by omega)
  unfold fullV at hful
  rw [if_neg (by omega), if_neg (by omega), if_neg (by omega), if_neg (by omega), if_neg (by omega), if_neg (by omega), if_neg (by omega), if_neg (by omega)] at hful
  refine LQ_bad rt ?_ (mo_line_bad rt.2.1 rt.2.2.2.1 (fun _ => hful))
  exact Ok_chkd ((cTp_refuse_ok rt.1).mono (fun r hr => ⟨hr.1, eqC_of hr.2.1, hr.2.2⟩)) (fun r hr => Or.inl hr.1)
theorem L_line {N n p T b mp mq md mw me L f1 f2 f3 : Nat} {σ τ : ySt} {t : Nat → Int} (hN : 100000 ≤ N) (hT : T = 13 ∨ T = 33) (hb : b < 2) (rt : RT σ τ t n p) (lt : LT σ τ T b mp mq md mw me L f1 f2 f3) (fg : FLG τ b f1 f2 f3) : Ok (cLn N (cRd_readLine N σ)) (fun r => Ok (mo_readLine N τ) (LQ T b n t σ τ (mp + mq + md + mw + me + f1 + f2 + f3) r)) := by
  by_cases k1 : tkK t n p = 100
  · exact line_place hN hT hb rt lt fg k1
  by_cases k2 : tkK t n p = 102
  · exact line_way hN hT hb rt lt fg k2
  by_cases k3 : tkK t n p = 104
  · exact line_person hN hT hb rt lt fg k3
  by_cases k4 : tkK t n p = 107
  · exact line_dog hN hT hb rt lt fg k4
  by_cases k5 : tkK t n p = 108
  · exact line_errand hN hT hb rt lt fg k5
  by_cases k6 : tkK t n p = 111
  · exact line_hour hN hT hb rt lt fg k6
  by_cases k7 : tkK t n p = 112
  · exact line_strokes hN hT hb rt lt fg k7
  by_cases k8 : tkK t n p = 113
  · exact line_rule hN hT hb rt lt fg k8
  exact line_bad hb rt lt fg (by omega) _
