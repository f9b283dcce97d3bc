/-! each line from its first word to its semicolon -/
theorem fl_no {f : Nat} {c : Prop} [Decidable c] (hf : f ≤ 1) (h : ¬ c) : fl f c = f := by
  unfold fl
  rw [if_neg h]
  by_cases q : (f : Int) = 1
  · rw [if_pos q, q]
  · rw [if_neg q]
    omega
theorem fl_yes {f : Int} {c : Prop} [Decidable c] (h : c) : fl f c = 1 := by
  unfold fl
  rw [if_pos h]
  by_cases q : f = 1
  · rw [if_pos q]
  · rw [if_neg q]
theorem fin_up {σ τ σ' τ' uC uM : ySt} {T b mp mq md mw me L f1 f2 f3 mp' mq' md' mw' me' : Nat} (hT : T = 13 ∨ T = 33) (lt : LT σ τ T b mp mq md mw me L f1 f2 f3) (ec : eqC σ' uC) (em : eqM τ' uM) (tb : TB uC uM T b mp' mq' md' mw' me' L) (c53 : uC 53 = σ 53) (c17 : uC (T + 17) = σ (T + 17)) (m102 : uM 102 = τ 102) (m92 : uM 92 = τ 92) : LT σ' τ' T b mp' mq' md' mw' me' L f1 f2 f3 :=
  LT_upd lt (TB_of tb (fun i h1 h2 => ec i (by omega)) (fun i h1 h2 _ _ _ _ => em.1 i (by omega))) ((ec 53 (by omega)).trans c53) ((ec (T + 17) (by omega)).trans c17) ((em.1 102 (by omega)).trans m102) ((em.2 41 (by omega)).trans (by rw [m92])) ((em.2 42 (by omega)).trans (by rw [m92]))
theorem fin_fl {τ τ0 τ' uM : ySt} {b f1 f2 f3 : Nat} (h41 : τ 92 41 = b) (fg : FLG τ0 b f1 f2 f3) (e7 : eqM τ τ0) (em : eqM τ' uM) (m92 : uM 92 = τ 92) (m103 : uM 103 = τ 103) (m104 : uM 104 = τ 104) (m105 : uM 105 = τ 105) : τ' 92 41 = b ∧ τ' 103 b = (f1 : Int) ∧ τ' 104 b = (f2 : Int) ∧ τ' 105 b = (f3 : Int) := by
  rw [em.2 41 (by omega), em.1 103 (by omega), em.1 104 (by omega), em.1 105 (by omega), m92, m103, m104, m105, e7.1 103 (by omega), e7.1 104 (by omega), e7.1 105 (by omega)]
  exact ⟨h41, fg.1, fg.2.1, fg.2.2⟩
theorem line_place {N n p T b mp mq md mw me L f1 f2 f3 : Nat} {σ τ : ySt} {t : Nat → Int} (hN : 100000 ≤ N) (hT : T = 13 ∨ T = 33) (hb : b < 2) (rt : RT σ τ t n p) (lt : LT σ τ T b mp mq md mw me L f1 f2 f3) (fg : FLG τ b f1 f2 f3) (k : tkK t n p = 100) : Ok (cLn N (cRd_readLine N σ)) (fun r => Ok (mo_readLine N τ) (LQ T b n t σ τ (mp + mq + md + mw + me + f1 + f2 + f3) r)) := by
  obtain ⟨⟨g1, g2, g3, g4, g5, g6, g7, g8, g9, g0⟩, h53, h41, ⟨e1, e2, e3⟩, hf, hr0, hr1⟩ := id lt
  have hk3 : σ 1 3 = tkK t n p := rt.1.2.2.2.2.2.2.1
  have hmp : mp ≤ 6 := g1.2.1
  have hmx : mp ≤ 6 := g1.2.1
  have hcl : cRd_readLine N σ = bndR (cRd_readPlace N σ) fun r s => chk (r = 0 ∨ r = 1) <| some (r, s) := by
    unfold cRd_readLine
    rw [if_pos (by omega)]
  rw [hcl]
  have ff1 := fg.1
  have ff2 := fg.2.1
  have hful := mo_isFull_ok rt.2.1 hb h41 (by omega) (by omega)
  have hcell : τ 95 b = mp := g1.2.2
  unfold fullV at hful
  rw [if_pos k, hcell] at hful
  by_cases full : mp = 6
  · refine LQ_bad rt ?_ (mo_line_bad rt.2.1 rt.2.2.2.1 (fun _ => by rw [hful, if_pos (by omega)]))
    rw [bdK_w (by omega)]
    exact Ok_chkd (stop_Place (N := N) hT rt.1 h53 (by rw [g1.1.1, full]; rfl)) (fun r hr => Or.inl hr.1)
  · rw [if_neg (by omega)] at hful
    have w1 := TM_w rt.2.1 (by omega) (j := 11) (fun _ hw => kd_hour hw)
    have w2 := TM_w rt.2.1 (by omega) (j := 12) (fun _ hw => kd_strokes hw)
    have w3 := TM_w rt.2.1 (by omega) (j := 13) (fun _ hw => kd_rule hw)
    refine LQ_good (w := τ 92 10) (Y := fun ρ => mo_readPlace N ρ) (f1 := f1) (f2 := f2) (f3 := f3) (mp' := mp + 1) (mq' := mq) (md' := md) (mw' := mw) (me' := me) (f1' := f1) (f2' := f2) (f3' := f3) (LL := fun _ => True) hN hT hb rt hf (by omega) (fl_no hf.1 (fun e => by have := w1.mp e; omega)) (fl_no hf.2.1 (fun e => by have := w2.mp e; omega)) (fl_no hf.2.2 (fun e => by have := w3.mp e; omega)) (mo_line_place rt.2.1 rt.2.2.2.1 k hful) ?_
    intro τ7 e7 tm7 fm7
    have lt7 := LT_eqM lt e7
    obtain ⟨⟨q1, q2, q3, q4, q5, q6, q7, q8, q9, q0⟩, _, h41', _⟩ := id lt7
    refine (L_place hN hT hb rt.1 rt.2.2.1 tm7 fm7 h53 h41' q1.1 (by omega) q1.2.2).mono ?_
    intro r h
    refine h.mono ?_
    rintro τ' (⟨r1, w, z, q, hw, hz, rt', ec, em⟩ | ⟨r0, rb, ec, x, z, em⟩)
    · have of : ∀ i, i ≠ 107 → i ≠ 106 → i ≠ 95 → updPlM τ7 b mp (enc8 w) z i = τ7 i := fun i => updPlM_off
      have oc : ∀ i, i ≠ T + 1 → i ≠ T + 2 → i ≠ T + 7 → updPl σ T mp (enc5 w) z i = σ i := fun i => updPl_off
      exact ⟨FrT_eq2 ec (FrT_pl hT), FrB_eq2 em (FrB_pl (by omega)), fin_fl h41' fg e7 em (of _ (by omega) (by omega) (by omega)) (of _ (by omega) (by omega) (by omega)) (of _ (by omega) (by omega) (by omega)) (of _ (by omega) (by omega) (by omega)), Or.inl ⟨r1, Or.inl ⟨q, rt', L, trivial, fin_up hT lt7 ec em (TB_place lt7.1 (by omega) hw hz) (oc _ (by omega) (by omega) (by omega)) (oc _ (by omega) (by omega) (by omega)) (of _ (by omega) (by omega) (by omega)) (of _ (by omega) (by omega) (by omega))⟩⟩⟩
    · have of : ∀ i, i ≠ 107 → i ≠ 106 → i ≠ 95 → updPlM τ7 b mp x z i = τ7 i := fun i => updPlM_off
      exact ⟨FrT_eqC ec, FrB_eq2 em (FrB_pl (by omega)), fin_fl h41' fg e7 em (of _ (by omega) (by omega) (by omega)) (of _ (by omega) (by omega) (by omega)) (of _ (by omega) (by omega) (by omega)) (of _ (by omega) (by omega) (by omega)), Or.inr ⟨r0, rb⟩⟩
theorem line_way {N n p T b mp mq md mw me L f1 f2 f3 : Nat} {σ τ : ySt} {t : Nat → Int} (hN : 100000 ≤ N) (hT : T = 13 ∨ T = 33) (hb : b < 2) (rt : RT σ τ t n p) (lt : LT σ τ T b mp mq md mw me L f1 f2 f3) (fg : FLG τ b f1 f2 f3) (k : tkK t n p = 102) : Ok (cLn N (cRd_readLine N σ)) (fun r => Ok (mo_readLine N τ) (LQ T b n t σ τ (mp + mq + md + mw + me + f1 + f2 + f3) r)) := by
  obtain ⟨⟨g1, g2, g3, g4, g5, g6, g7, g8, g9, g0⟩, h53, h41, ⟨e1, e2, e3⟩, hf, hr0, hr1⟩ := id lt
  have hk3 : σ 1 3 = tkK t n p := rt.1.2.2.2.2.2.2.1
  have hmp : mp ≤ 6 := g1.2.1
  have hmx : mw ≤ 15 := g4.2.2.1
  have hcl : cRd_readLine N σ = bndR (cRd_readWay N σ) fun r s => chk (r = 0 ∨ r = 1) <| some (r, s) := by
    unfold cRd_readLine
    rw [if_neg (by omega), if_neg (by omega), if_pos (by omega)]
  rw [hcl]
  have ff1 := fg.1
  have ff2 := fg.2.1
  have hful := mo_isFull_ok rt.2.1 hb h41 (by omega) (by omega)
  have hcell : τ 96 b = mw := g4.2.2.2.1
  unfold fullV at hful
  rw [if_neg (by omega), if_pos k, hcell] at hful
  by_cases full : mw = 15
  · refine LQ_bad rt ?_ (mo_line_bad rt.2.1 rt.2.2.2.1 (fun _ => by rw [hful, if_pos (by omega)]))
    rw [bdK_w (by omega)]
    exact Ok_chkd (stop_Way (N := N) hT rt.1 h53 (by rw [g4.2.1, full]; rfl)) (fun r hr => Or.inl hr.1)
  · rw [if_neg (by omega)] at hful
    have w1 := TM_w rt.2.1 (by omega) (j := 11) (fun _ hw => kd_hour hw)
    have w2 := TM_w rt.2.1 (by omega) (j := 12) (fun _ hw => kd_strokes hw)
    have w3 := TM_w rt.2.1 (by omega) (j := 13) (fun _ hw => kd_rule hw)
    refine LQ_good (w := τ 92 10) (Y := fun ρ => mo_readWay N ρ) (f1 := f1) (f2 := f2) (f3 := f3) (mp' := mp) (mq' := mq) (md' := md) (mw' := mw + 1) (me' := me) (f1' := f1) (f2' := f2) (f3' := f3) (LL := fun _ => True) hN hT hb rt hf (by omega) (fl_no hf.1 (fun e => by have := w1.mp e; omega)) (fl_no hf.2.1 (fun e => by have := w2.mp e; omega)) (fl_no hf.2.2 (fun e => by have := w3.mp e; omega)) (mo_line_way rt.2.1 rt.2.2.2.1 k hful) ?_
    intro τ7 e7 tm7 fm7
    have lt7 := LT_eqM lt e7
    obtain ⟨⟨q1, q2, q3, q4, q5, q6, q7, q8, q9, q0⟩, _, h41', _⟩ := id lt7
    have of : ∀ (a c : Nat) (v : Int) i, i ≠ 110 → i ≠ 96 → updWayM τ7 b a c mw v i = τ7 i := by
      intro a c v i h1 h2
      unfold updWayM
      rw [yset_off i h2, yset_off i h1, yset_off i h1]
    have oc : ∀ (a c : Nat) (v : Int) i, i ≠ T + 15 → i ≠ T → updWay σ T a c mw v i = σ i := by
      intro a c v i h1 h2
      unfold updWay
      rw [yset_off i h2, yset_off i h1, yset_off i h1]
    refine (L_way hN hT hb rt.1 rt.2.2.1 tm7 fm7 h53 h41' q1.1 q1.2.1 q1.2.2 q4.1 q4.2.1 q4.2.2.2.1 (by omega)).mono ?_
    intro r h
    refine h.mono ?_
    rintro τ' (⟨r1, a, c, q, v, ha, hc, hac, hv, rt', ec, em⟩ | ⟨r0, rb, ec, a, c, v, ha, hc, em⟩)
    · exact ⟨FrT_eq2 ec (FrT_wa hT), FrB_eq2 em (FrB_wa (by omega) (by omega)), fin_fl h41' fg e7 em (of _ _ _ _ (by omega) (by omega)) (of _ _ _ _ (by omega) (by omega)) (of _ _ _ _ (by omega) (by omega)) (of _ _ _ _ (by omega) (by omega)), Or.inl ⟨r1, Or.inl ⟨q, rt', L, trivial, fin_up hT lt7 ec em (TB_way lt7.1 (by omega) ha hc hac hv) (oc _ _ _ _ (by omega) (by omega)) (oc _ _ _ _ (by omega) (by omega)) (of _ _ _ _ (by omega) (by omega)) (of _ _ _ _ (by omega) (by omega))⟩⟩⟩
    · exact ⟨FrT_eqC ec, FrB_eq2 em (FrB_wa ha hc), fin_fl h41' fg e7 em (of _ _ _ _ (by omega) (by omega)) (of _ _ _ _ (by omega) (by omega)) (of _ _ _ _ (by omega) (by omega)) (of _ _ _ _ (by omega) (by omega)), Or.inr ⟨r0, rb⟩⟩
theorem line_person {N n p T b mp mq md mw me L f1 f2 f3 : Nat} {σ τ : ySt} {t : Nat → Int} (hN : 100000 ≤ N) (hT : T = 13 ∨ T = 33) (hb : b < 2) (rt : RT σ τ t n p) (lt : LT σ τ T b mp mq md mw me L f1 f2 f3) (fg : FLG τ b f1 f2 f3) (k : tkK t n p = 104) : Ok (cLn N (cRd_readLine N σ)) (fun r => Ok (mo_readLine N τ) (LQ T b n t σ τ (mp + mq + md + mw + me + f1 + f2 + f3) r)) := by
  obtain ⟨⟨g1, g2, g3, g4, g5, g6, g7, g8, g9, g0⟩, h53, h41, ⟨e1, e2, e3⟩, hf, hr0, hr1⟩ := id lt
  have hk3 : σ 1 3 = tkK t n p := rt.1.2.2.2.2.2.2.1
  have hmp : mp ≤ 6 := g1.2.1
  have hmx : mq ≤ 5 := g2.2.1
  have hcl : cRd_readLine N σ = bndR (cRd_readPerson N σ) fun r s => chk (r = 0 ∨ r = 1) <| some (r, s) := by
    unfold cRd_readLine
    rw [if_neg (by omega), if_neg (by omega), if_neg (by omega), if_neg (by omega), if_pos (by omega)]
  rw [hcl]
  have ff1 := fg.1
  have ff2 := fg.2.1
  have hful := mo_isFull_ok rt.2.1 hb h41 (by omega) (by omega)
  have hcell : τ 97 b = mq := g2.2.2
  unfold fullV at hful
  rw [if_neg (by omega), if_neg (by omega), if_pos k, hcell] at hful
  by_cases full : mq = 5
  · refine LQ_bad rt ?_ (mo_line_bad rt.2.1 rt.2.2.2.1 (fun _ => by rw [hful, if_pos (by omega)]))
    rw [bdK_w (by omega)]
    exact Ok_chkd (stop_Person (N := N) hT rt.1 h53 (by rw [g2.1.1, full]; rfl)) (fun r hr => Or.inl hr.1)
  · rw [if_neg (by omega)] at hful
    have w1 := TM_w rt.2.1 (by omega) (j := 11) (fun _ hw => kd_hour hw)
    have w2 := TM_w rt.2.1 (by omega) (j := 12) (fun _ hw => kd_strokes hw)
    have w3 := TM_w rt.2.1 (by omega) (j := 13) (fun _ hw => kd_rule hw)
    refine LQ_good (w := τ 92 10) (Y := fun ρ => mo_readPerson N ρ) (f1 := f1) (f2 := f2) (f3 := f3) (mp' := mp) (mq' := mq + 1) (md' := md) (mw' := mw) (me' := me) (f1' := f1) (f2' := f2) (f3' := f3) (LL := fun _ => True) hN hT hb rt hf (by omega) (fl_no hf.1 (fun e => by have := w1.mp e; omega)) (fl_no hf.2.1 (fun e => by have := w2.mp e; omega)) (fl_no hf.2.2 (fun e => by have := w3.mp e; omega)) (mo_line_person rt.2.1 rt.2.2.2.1 k hful) ?_
    intro τ7 e7 tm7 fm7
    have lt7 := LT_eqM lt e7
    obtain ⟨⟨q1, q2, q3, q4, q5, q6, q7, q8, q9, q0⟩, _, h41', _⟩ := id lt7
    have of : ∀ (y w v : Int) i, i ≠ 108 → i ≠ 111 → i ≠ 112 → i ≠ 97 → updPerM τ7 b mq y w v i = τ7 i := by
      intro y w v i h1 h2 h3 h4
      unfold updPerM
      rw [yset_off i h4, yset_off i h3, yset_off i h2, yset_off i h1]
    have oc : ∀ (y w v : Int) i, i ≠ T + 3 → i ≠ T + 4 → i ≠ T + 8 → i ≠ T + 9 → updPer σ T mq y w v i = σ i := by
      intro y w v i h1 h2 h3 h4
      unfold updPer addPer
      rw [yset_off i h4, yset_off i h3, yset_off i h1, yset_off i h2]
    refine (L_person hN hT hb rt.1 rt.2.2.1 tm7 fm7 h53 h41' q1.1 q1.2.1 q1.2.2 q2.1 (by omega) q2.2.2 q3.1 q3.2.1 q3.2.2).mono ?_
    intro r h
    refine h.mono ?_
    rintro τ' (⟨r1, z, w, v, q, hz, hw, hv, rt', ec, em⟩ | ⟨r0, rb, ec, y, w, v, em⟩)
    · exact ⟨FrT_eq2 ec (FrT_pe hT), FrB_eq2 em (FrB_pe (by omega)), fin_fl h41' fg e7 em (of _ _ _ _ (by omega) (by omega) (by omega) (by omega)) (of _ _ _ _ (by omega) (by omega) (by omega) (by omega)) (of _ _ _ _ (by omega) (by omega) (by omega) (by omega)) (of _ _ _ _ (by omega) (by omega) (by omega) (by omega)), Or.inl ⟨r1, Or.inl ⟨q, rt', L, trivial, fin_up hT lt7 ec em (TB_person lt7.1 (by omega) hz hw hv) (oc _ _ _ _ (by omega) (by omega) (by omega) (by omega)) (oc _ _ _ _ (by omega) (by omega) (by omega) (by omega)) (of _ _ _ _ (by omega) (by omega) (by omega) (by omega)) (of _ _ _ _ (by omega) (by omega) (by omega) (by omega))⟩⟩⟩
    · refine ⟨?_, FrB_eq2 em (FrB_pe (by omega)), fin_fl h41' fg e7 em (of _ _ _ _ (by omega) (by omega) (by omega) (by omega)) (of _ _ _ _ (by omega) (by omega) (by omega) (by omega)) (of _ _ _ _ (by omega) (by omega) (by omega) (by omega)) (of _ _ _ _ (by omega) (by omega) (by omega) (by omega)), Or.inr ⟨r0, rb⟩⟩
      rcases ec with ec | ⟨x, ec⟩
      · exact FrT_eqC ec
      · exact FrT_eq2 ec (FrT_ap hT)
theorem line_dog {N n p T b mp mq md mw me L f1 f2 f3 : Nat} {σ τ : ySt} {t : Nat → Int} (hN : 100000 ≤ N) (hT : T = 13 ∨ T = 33) (hb : b < 2) (rt : RT σ τ t n p) (lt : LT σ τ T b mp mq md mw me L f1 f2 f3) (fg : FLG τ b f1 f2 f3) (k : tkK t n p = 107) : Ok (cLn N (cRd_readLine N σ)) (fun r => Ok (mo_readLine N τ) (LQ T b n t σ τ (mp + mq + md + mw + me + f1 + f2 + f3) r)) := by
  obtain ⟨⟨g1, g2, g3, g4, g5, g6, g7, g8, g9, g0⟩, h53, h41, ⟨e1, e2, e3⟩, hf, hr0, hr1⟩ := id lt
  have hk3 : σ 1 3 = tkK t n p := rt.1.2.2.2.2.2.2.1
  have hmp : mp ≤ 6 := g1.2.1
  have hmx : md ≤ 3 := g3.2.1
  have hcl : cRd_readLine N σ = bndR (cRd_readDog N σ) fun r s => chk (r = 0 ∨ r = 1) <| some (r, s) := by
    unfold cRd_readLine
    rw [if_neg (by omega), if_neg (by omega), if_neg (by omega), if_neg (by omega), if_neg (by omega), if_neg (by omega), if_neg (by omega), if_pos (by omega)]
  rw [hcl]
  have ff1 := fg.1
  have ff2 := fg.2.1
  have hful := mo_isFull_ok rt.2.1 hb h41 (by omega) (by omega)
  have hcell : τ 98 b = md := g3.2.2
  unfold fullV at hful
  rw [if_neg (by omega), if_neg (by omega), if_neg (by omega), if_pos k, hcell] at hful
  by_cases full : md = 3
  · refine LQ_bad rt ?_ (mo_line_bad rt.2.1 rt.2.2.2.1 (fun _ => by rw [hful, if_pos (by omega)]))
    rw [bdK_w (by omega)]
    exact Ok_chkd (stop_Dog (N := N) hT rt.1 h53 (by rw [g3.1.1, full]; rfl)) (fun r hr => Or.inl hr.1)
  · rw [if_neg (by omega)] at hful
    have w1 := TM_w rt.2.1 (by omega) (j := 11) (fun _ hw => kd_hour hw)
    have w2 := TM_w rt.2.1 (by omega) (j := 12) (fun _ hw => kd_strokes hw)
    have w3 := TM_w rt.2.1 (by omega) (j := 13) (fun _ hw => kd_rule hw)
    refine LQ_good (w := τ 92 10) (Y := fun ρ => mo_readDog N ρ) (f1 := f1) (f2 := f2) (f3 := f3) (mp' := mp) (mq' := mq) (md' := md + 1) (mw' := mw) (me' := me) (f1' := f1) (f2' := f2) (f3' := f3) (LL := fun _ => True) hN hT hb rt hf (by omega) (fl_no hf.1 (fun e => by have := w1.mp e; omega)) (fl_no hf.2.1 (fun e => by have := w2.mp e; omega)) (fl_no hf.2.2 (fun e => by have := w3.mp e; omega)) (mo_line_dog rt.2.1 rt.2.2.2.1 k hful) ?_
    intro τ7 e7 tm7 fm7
    have lt7 := LT_eqM lt e7
    obtain ⟨⟨q1, q2, q3, q4, q5, q6, q7, q8, q9, q0⟩, _, h41', _⟩ := id lt7
    have of : ∀ (y : Int) (w : Nat) (c : Int) i, i ≠ 109 → i ≠ 113 → i ≠ 98 → updDogM τ7 b md y w c i = τ7 i := by
      intro y w c i h1 h2 h3
      unfold updDogM
      rw [yset_off i h3, yset_off i h2, yset_off i h1]
    have oc : ∀ (y : Int) (w : Int) i, i ≠ T + 5 → i ≠ T + 6 → i ≠ T + 10 → yset (addDog σ T md y) (T + 10) md w i = σ i := by
      intro y w i h1 h2 h3
      unfold addDog
      rw [yset_off i h3, yset_off i h1, yset_off i h2]
    have h113 : ∀ k, k < 6 → 0 ≤ τ7 113 (6 * b + k) ∧ τ7 113 (6 * b + k) ≤ 8 := by
      intro k hk
      have := cnt_rg (σ (T + 10)) md k
      rw [q9.2 k hk]
      omega
    refine (L_dog hN hT hb rt.1 rt.2.2.1 tm7 fm7 h53 h41' q1.1 q1.2.1 q1.2.2 q2.1 q2.2.1 q2.2.2 q3.1 (by omega) q3.2.2 h113).mono ?_
    intro r h
    refine h.mono ?_
    rintro τ' (⟨r1, z, w, q, hz, hw, rt', ec, em⟩ | ⟨r0, rb, ec, y, w, c, hw, em⟩)
    · exact ⟨FrT_eq2 ec (FrT_tr (FrT_ad hT) (FrT_set hT (by omega) (by omega))), FrB_eq2 em (FrB_do (by omega) (by omega)), fin_fl h41' fg e7 em (of _ _ _ _ (by omega) (by omega) (by omega)) (of _ _ _ _ (by omega) (by omega) (by omega)) (of _ _ _ _ (by omega) (by omega) (by omega)) (of _ _ _ _ (by omega) (by omega) (by omega)), Or.inl ⟨r1, Or.inl ⟨q, rt', L, trivial, fin_up hT lt7 ec em (TB_dog lt7.1 (by omega) hz hw) (oc _ _ _ (by omega) (by omega) (by omega)) (oc _ _ _ (by omega) (by omega) (by omega)) (of _ _ _ _ (by omega) (by omega) (by omega)) (of _ _ _ _ (by omega) (by omega) (by omega))⟩⟩⟩
    · refine ⟨?_, FrB_eq2 em (FrB_do (by omega) hw), fin_fl h41' fg e7 em (of _ _ _ _ (by omega) (by omega) (by omega)) (of _ _ _ _ (by omega) (by omega) (by omega)) (of _ _ _ _ (by omega) (by omega) (by omega)) (of _ _ _ _ (by omega) (by omega) (by omega)), Or.inr ⟨r0, rb⟩⟩
      rcases ec with ec | ⟨x, ec⟩
      · exact FrT_eqC ec
      · exact FrT_eq2 ec (FrT_ad hT)
theorem line_errand {N n p T b mp mq md mw me L f1 f2 f3 : Nat} {σ τ : ySt} {t : Nat → Int} (hN : 100000 ≤ N) (hT : T = 13 ∨ T = 33) (hb : b < 2) (rt : RT σ τ t n p) (lt : LT σ τ T b mp mq md mw me L f1 f2 f3) (fg : FLG τ b f1 f2 f3) (k : tkK t n p = 108) : Ok (cLn N (cRd_readLine N σ)) (fun r => Ok (mo_readLine N τ) (LQ T b n t σ τ (mp + mq + md + mw + me + f1 + f2 + f3) r)) := by
  obtain ⟨⟨g1, g2, g3, g4, g5, g6, g7, g8, g9, g0⟩, h53, h41, ⟨e1, e2, e3⟩, hf, hr0, hr1⟩ := id lt
  have hk3 : σ 1 3 = tkK t n p := rt.1.2.2.2.2.2.2.1
  have hmp : mp ≤ 6 := g1.2.1
  have hmx : me ≤ 8 := g5.2.1
  have hcl : cRd_readLine N σ = bndR (cRd_readErrand N σ) fun r s => chk (r = 0 ∨ r = 1) <| some (r, s) := by
    unfold cRd_readLine
    rw [if_neg (by omega), if_neg (by omega), if_neg (by omega), if_neg (by omega), if_neg (by omega), if_neg (by omega), if_neg (by omega), if_neg (by omega), if_pos (by omega)]
  rw [hcl]
  have ff1 := fg.1
  have ff2 := fg.2.1
  have hful := mo_isFull_ok rt.2.1 hb h41 (by omega) (by omega)
  have hcell : τ 99 b = me := g5.2.2.1
  unfold fullV at hful
  rw [if_neg (by omega), if_neg (by omega), if_neg (by omega), if_neg (by omega), if_pos k, hcell] at hful
  by_cases full : me = 8
  · refine LQ_bad rt ?_ (mo_line_bad rt.2.1 rt.2.2.2.1 (fun _ => by rw [hful, if_pos (by omega)]))
    rw [bdK_w (by omega)]
    exact Ok_chkd (stop_Errand (N := N) hT rt.1 h53 (by rw [g5.1, full]; rfl)) (fun r hr => Or.inl hr.1)
  · rw [if_neg (by omega)] at hful
    have w1 := TM_w rt.2.1 (by omega) (j := 11) (fun _ hw => kd_hour hw)
    have w2 := TM_w rt.2.1 (by omega) (j := 12) (fun _ hw => kd_strokes hw)
    have w3 := TM_w rt.2.1 (by omega) (j := 13) (fun _ hw => kd_rule hw)
    refine LQ_good (w := τ 92 10) (Y := fun ρ => mo_readErrand N ρ) (f1 := f1) (f2 := f2) (f3 := f3) (mp' := mp) (mq' := mq) (md' := md) (mw' := mw) (me' := me + 1) (f1' := f1) (f2' := f2) (f3' := f3) (LL := fun _ => True) hN hT hb rt hf (by omega) (fl_no hf.1 (fun e => by have := w1.mp e; omega)) (fl_no hf.2.1 (fun e => by have := w2.mp e; omega)) (fl_no hf.2.2 (fun e => by have := w3.mp e; omega)) (mo_line_errand rt.2.1 rt.2.2.2.1 k hful) ?_
    intro τ7 e7 tm7 fm7
    have lt7 := LT_eqM lt e7
    obtain ⟨⟨q1, q2, q3, q4, q5, q6, q7, q8, q9, q0⟩, _, h41', _⟩ := id lt7
    have of : ∀ (w a s v : Int) i, (i < 114 ∨ 117 < i) → i ≠ 99 → updErrM τ7 b me w a s v i = τ7 i := by
      intro w a s v i h1 h2
      unfold updErrM
      rw [yset_off i h2, yset_off i (by omega), yset_off i (by omega), yset_off i (by omega), yset_off i (by omega)]
    have oc : ∀ (w a s v : Int) i, (i < T + 11 ∨ T + 14 < i) → i ≠ T → updErr σ T me w a s v i = σ i := by
      intro w a s v i h1 h2
      unfold updErr
      rw [yset_off i h2, yset_off i (by omega), yset_off i (by omega), yset_off i (by omega), yset_off i (by omega)]
    refine (L_errand hN hT hb rt.1 rt.2.2.1 tm7 fm7 h53 h41' q1.1 q1.2.1 q1.2.2 q2.1 q2.2.1 q2.2.2 q5.1 q5.2.2.1 (by omega)).mono ?_
    intro r h
    refine h.mono ?_
    rintro τ' (⟨r1, w, a, s, v, q, hw, ha, hs, hv, rt', ec, em⟩ | ⟨r0, rb, ec, w, a, s, v, em⟩)
    · exact ⟨FrT_eq2 ec (FrT_er hT), FrB_eq2 em (FrB_er (by omega)), fin_fl h41' fg e7 em (of _ _ _ _ _ (by omega) (by omega)) (of _ _ _ _ _ (by omega) (by omega)) (of _ _ _ _ _ (by omega) (by omega)) (of _ _ _ _ _ (by omega) (by omega)), Or.inl ⟨r1, Or.inl ⟨q, rt', L, trivial, fin_up hT lt7 ec em (TB_errand lt7.1 (by omega) hw ha hs hv) (oc _ _ _ _ _ (by omega) (by omega)) (oc _ _ _ _ _ (by omega) (by omega)) (of _ _ _ _ _ (by omega) (by omega)) (of _ _ _ _ _ (by omega) (by omega))⟩⟩⟩
    · exact ⟨FrT_eqC ec, FrB_eq2 em (FrB_er (by omega)), fin_fl h41' fg e7 em (of _ _ _ _ _ (by omega) (by omega)) (of _ _ _ _ _ (by omega) (by omega)) (of _ _ _ _ _ (by omega) (by omega)) (of _ _ _ _ _ (by omega) (by omega)), Or.inr ⟨r0, rb⟩⟩
