abbrev MX9_hasPlace : yM := (yX9_hasPlace, cX9_hasPlace, 2, some .boolean)
def cTw_hasPlace (o : Nat) (a : Int) (σ : ySt) : Option (Int) :=
  chk (o = 13 ∨ o = 33) <|
  if a < 0 then
    some 0
  else
    if a ≥ (σ (o + 1) 1) then
      some 0
    else
      some 1
set_option maxHeartbeats 4000000 in
set_option maxRecDepth 10000 in
theorem sh_cTw_hasPlace {E : yE} {o : Nat} {a : Int} {σ : ySt} {ρ : Int} (h : cTw_hasPlace o a σ = some ρ) : Con E MX9_hasPlace 0 0 0 [.inr (.inr (o + 1)), .inl a] 150 (ov σ) (some (.inl ρ)) (ov σ) := by
  unfold cTw_hasPlace at h
  refine Con.ofY (by decide +kernel) (by simp [yWords, yCat]) (fun hok _ => ?_)
  show Y E MX9_hasPlace (yRm 0 0 0) (yQf E (150 + 0) 0 0 (some (.inl ρ)) (ov σ)) 0 [(0, .inr (.inr (o + 1))), (1, .inl a)] [] (ov σ) 150 0 0
  obtain ⟨c1, h⟩ := chk_some h
  refine y_iload_n (show decode cX9_hasPlace 0 = .ok (.iload_n 1, 1) by decide +kernel) 1 rfl ?_
  by_cases c2 : a < 0
  · rw [if_pos c2] at h
    refine y_if_lt_t (tgt := 19) (show decode cX9_hasPlace 1 = .ok (.ifCond .lt 18, 3) by decide +kernel) rfl c2 ?_
    refine y_iconst (show decode cX9_hasPlace 19 = .ok (.iconst 0, 1) by decide +kernel) rfl ?_
    cases h
    exact y_zret (show decode cX9_hasPlace 20 = .ok (.ireturn, 1) by decide +kernel) rfl (Or.inl rfl)
  · rw [if_neg c2] at h
    refine y_if_lt_f (show decode cX9_hasPlace 1 = .ok (.ifCond .lt 18, 3) by decide +kernel) c2 (by decide) ?_
    refine y_iload_n (show decode cX9_hasPlace 4 = .ok (.iload_n 1, 1) by decide +kernel) 1 rfl ?_
    refine y_aload_n (show decode cX9_hasPlace 5 = .ok (.aload_n 0, 1) by decide +kernel) 0 rfl ?_
    refine y_getf o 9 0 14 (by omega) (by rcases c1 with rfl | rfl <;> rfl) (by decide) (by decide) q1_192 (show decode cX9_hasPlace 6 = .ok (.getfield 14, 3) by decide +kernel) (v := .inr (.inr ((o + 1) + 1))) (by rcases c1 with rfl | rfl <;> rfl) ?_
    refine y_getf (o + 1) 5 1 68 (by omega) (by rcases c1 with rfl | rfl <;> rfl) (by decide) (by decide) q1_146 (show decode cX9_hasPlace 9 = .ok (.getfield 68, 3) by decide +kernel) (v := .inl (σ (o + 1) 1)) (by rcases c1 with rfl | rfl <;> rfl) ?_
    by_cases c3 : a ≥ (σ (o + 1) 1)
    · rw [if_pos c3] at h
      refine y_icmp_ge_t (tgt := 19) (show decode cX9_hasPlace 12 = .ok (.if_icmp .ge 7, 3) by decide +kernel) rfl c3 ?_
      refine y_iconst (show decode cX9_hasPlace 19 = .ok (.iconst 0, 1) by decide +kernel) rfl ?_
      cases h
      exact y_zret (show decode cX9_hasPlace 20 = .ok (.ireturn, 1) by decide +kernel) rfl (Or.inl rfl)
    · rw [if_neg c3] at h
      refine y_icmp_ge_f (show decode cX9_hasPlace 12 = .ok (.if_icmp .ge 7, 3) by decide +kernel) c3 (by decide) ?_
      refine y_iconst (show decode cX9_hasPlace 15 = .ok (.iconst 1, 1) by decide +kernel) rfl ?_
      refine y_goto (tgt := 20) (show decode cX9_hasPlace 16 = .ok (.goto 4, 3) by decide +kernel) rfl ?_
      cases h
      exact y_zret (show decode cX9_hasPlace 20 = .ok (.ireturn, 1) by decide +kernel) rfl (Or.inr rfl)
abbrev MX9_hasPerson : yM := (yX9_hasPerson, cX9_hasPerson, 2, some .boolean)
def cTw_hasPerson (o : Nat) (a : Int) (σ : ySt) : Option (Int) :=
  chk (o = 13 ∨ o = 33) <|
  if a < 0 then
    some 0
  else
    if a ≥ (σ (o + 3) 1) then
      some 0
    else
      some 1
set_option maxHeartbeats 4000000 in
set_option maxRecDepth 10000 in
theorem sh_cTw_hasPerson {E : yE} {o : Nat} {a : Int} {σ : ySt} {ρ : Int} (h : cTw_hasPerson o a σ = some ρ) : Con E MX9_hasPerson 0 0 0 [.inr (.inr (o + 1)), .inl a] 150 (ov σ) (some (.inl ρ)) (ov σ) := by
  unfold cTw_hasPerson at h
  refine Con.ofY (by decide +kernel) (by simp [yWords, yCat]) (fun hok _ => ?_)
  show Y E MX9_hasPerson (yRm 0 0 0) (yQf E (150 + 0) 0 0 (some (.inl ρ)) (ov σ)) 0 [(0, .inr (.inr (o + 1))), (1, .inl a)] [] (ov σ) 150 0 0
  obtain ⟨c1, h⟩ := chk_some h
  refine y_iload_n (show decode cX9_hasPerson 0 = .ok (.iload_n 1, 1) by decide +kernel) 1 rfl ?_
  by_cases c2 : a < 0
  · rw [if_pos c2] at h
    refine y_if_lt_t (tgt := 19) (show decode cX9_hasPerson 1 = .ok (.ifCond .lt 18, 3) by decide +kernel) rfl c2 ?_
    refine y_iconst (show decode cX9_hasPerson 19 = .ok (.iconst 0, 1) by decide +kernel) rfl ?_
    cases h
    exact y_zret (show decode cX9_hasPerson 20 = .ok (.ireturn, 1) by decide +kernel) rfl (Or.inl rfl)
  · rw [if_neg c2] at h
    refine y_if_lt_f (show decode cX9_hasPerson 1 = .ok (.ifCond .lt 18, 3) by decide +kernel) c2 (by decide) ?_
    refine y_iload_n (show decode cX9_hasPerson 4 = .ok (.iload_n 1, 1) by decide +kernel) 1 rfl ?_
    refine y_aload_n (show decode cX9_hasPerson 5 = .ok (.aload_n 0, 1) by decide +kernel) 0 rfl ?_
    refine y_getf o 9 1 20 (by omega) (by rcases c1 with rfl | rfl <;> rfl) (by decide) (by decide) q1_200 (show decode cX9_hasPerson 6 = .ok (.getfield 20, 3) by decide +kernel) (v := .inr (.inr ((o + 3) + 1))) (by rcases c1 with rfl | rfl <;> rfl) ?_
    refine y_getf (o + 3) 5 1 68 (by omega) (by rcases c1 with rfl | rfl <;> rfl) (by decide) (by decide) q1_146 (show decode cX9_hasPerson 9 = .ok (.getfield 68, 3) by decide +kernel) (v := .inl (σ (o + 3) 1)) (by rcases c1 with rfl | rfl <;> rfl) ?_
    by_cases c3 : a ≥ (σ (o + 3) 1)
    · rw [if_pos c3] at h
      refine y_icmp_ge_t (tgt := 19) (show decode cX9_hasPerson 12 = .ok (.if_icmp .ge 7, 3) by decide +kernel) rfl c3 ?_
      refine y_iconst (show decode cX9_hasPerson 19 = .ok (.iconst 0, 1) by decide +kernel) rfl ?_
      cases h
      exact y_zret (show decode cX9_hasPerson 20 = .ok (.ireturn, 1) by decide +kernel) rfl (Or.inl rfl)
    · rw [if_neg c3] at h
      refine y_icmp_ge_f (show decode cX9_hasPerson 12 = .ok (.if_icmp .ge 7, 3) by decide +kernel) c3 (by decide) ?_
      refine y_iconst (show decode cX9_hasPerson 15 = .ok (.iconst 1, 1) by decide +kernel) rfl ?_
      refine y_goto (tgt := 20) (show decode cX9_hasPerson 16 = .ok (.goto 4, 3) by decide +kernel) rfl ?_
      cases h
      exact y_zret (show decode cX9_hasPerson 20 = .ok (.ireturn, 1) by decide +kernel) rfl (Or.inr rfl)
abbrev MX10_startLine : yM := (yX10_startLine, cX10_startLine, 2, some .boolean)
def cRd_startLine (N : Nat) (a : Int) (σ : ySt) : Option (Int × ySt) :=
  if a = 0 then
    bndO (cTp_step N σ) fun σ3 =>
    some (1, σ3)
  else
    bndR (cTp_blame 2 σ) fun r5 σ6 =>
    chk (r5 = 0 ∨ r5 = 1) <|
    some (r5, σ6)
set_option maxHeartbeats 4000000 in
set_option maxRecDepth 10000 in
theorem sh_cRd_startLine {E : yE} {N : Nat} {a : Int} {σ : ySt} {ρ : Int} {τ : ySt} (h : cRd_startLine N a σ = some (ρ, τ)) : Con E MX10_startLine 9 0 0 [.inr (.inr (53 + 1)), .inl a] 150 (ov σ) (some (.inl ρ)) (ov τ) := by
  unfold cRd_startLine at h
  refine Con.ofY (by decide +kernel) (by simp [yWords, yCat]) (fun hok _ => ?_)
  show Y E MX10_startLine (yRm 9 0 0) (yQf E (150 + 0) 0 0 (some (.inl ρ)) (ov τ)) 0 [(0, .inr (.inr (53 + 1))), (1, .inl a)] [] (ov σ) 150 0 0
  refine y_iload_n (show decode cX10_startLine 0 = .ok (.iload_n 1, 1) by decide +kernel) 1 rfl ?_
  by_cases c1 : a = 0
  · rw [if_pos c1] at h
    refine y_if_eq_t (tgt := 13) (show decode cX10_startLine 1 = .ok (.ifCond .eq 12, 3) by decide +kernel) rfl c1 ?_
    refine y_aload_n (show decode cX10_startLine 13 = .ok (.aload_n 0, 1) by decide +kernel) 0 rfl ?_
    refine y_getf 53 10 0 9 (by decide) rfl (by decide) (by decide) q2_68 (show decode cX10_startLine 14 = .ok (.getfield 9, 3) by decide +kernel) (v := .inr (.inr (1 + 1))) rfl ?_
    obtain ⟨σ3, e2, h⟩ := bndO_some h
    refine y_callV (np := 0) (st := []) (as := []) 1 8 (sh_cTp_step e2) q3_90 q3_236 q3_88 q3_89 q1_2 (by decide) rfl (by decide) rfl (by decide) (by decide +kernel) (by decide) rfl (Nat.le_of_ble_eq_true rfl) (show decode cX10_startLine 17 = .ok (.invokevirtual 84, 3) by decide +kernel) rfl ?_
    refine y_iconst (show decode cX10_startLine 20 = .ok (.iconst 1, 1) by decide +kernel) rfl ?_
    cases h
    exact y_zret (show decode cX10_startLine 21 = .ok (.ireturn, 1) by decide +kernel) rfl (Or.inr rfl)
  · rw [if_neg c1] at h
    refine y_if_eq_f (show decode cX10_startLine 1 = .ok (.ifCond .eq 12, 3) by decide +kernel) c1 (by decide) ?_
    refine y_aload_n (show decode cX10_startLine 4 = .ok (.aload_n 0, 1) by decide +kernel) 0 rfl ?_
    refine y_getf 53 10 0 9 (by decide) rfl (by decide) (by decide) q2_68 (show decode cX10_startLine 5 = .ok (.getfield 9, 3) by decide +kernel) (v := .inr (.inr (1 + 1))) rfl ?_
    refine y_iconst (show decode cX10_startLine 8 = .ok (.iconst 2, 1) by decide +kernel) rfl ?_
    obtain ⟨r5, σ6, e4, h⟩ := bndR_some h
    refine y_callV (np := 1) (st := []) (as := [.inl 2]) 1 8 (sh_cTp_blame e4) q3_235 q3_232 q3_233 q3_234 q1_2 (by decide) rfl (by decide) rfl (by decide) (by decide +kernel) (by decide) rfl (Nat.le_of_ble_eq_true rfl) (show decode cX10_startLine 9 = .ok (.invokevirtual 81, 3) by decide +kernel) rfl ?_
    obtain ⟨c7, h⟩ := chk_some h
    cases h
    exact y_zret (show decode cX10_startLine 12 = .ok (.ireturn, 1) by decide +kernel) rfl c7
abbrev MX10_isNew : yM := (yX10_isNew, cX10_isNew, 2, some .boolean)
def cRd_isNew (N : Nat) (a : Nat) (σ : ySt) : Option (Int × ySt) :=
  chk (a = 14 ∨ a = 16 ∨ a = 18 ∨ a = 34 ∨ a = 36 ∨ a = 38) <|
  if (σ 1 3) = 3 then
    bndO (cNm_find N a (σ 1 4) σ) fun r4 =>
    if r4 = (-1) then
      some (1, σ)
    else
      bndR (cTp_blame 3 σ) fun r7 σ8 =>
      chk (r7 = 0 ∨ r7 = 1) <|
      some (r7, σ8)
  else
    bndR (cTp_refuse σ) fun r11 σ12 =>
    chk (r11 = 0 ∨ r11 = 1) <|
    some (r11, σ12)
set_option maxHeartbeats 4000000 in
set_option maxRecDepth 10000 in
theorem sh_cRd_isNew {E : yE} {N : Nat} {a : Nat} {σ : ySt} {ρ : Int} {τ : ySt} (h : cRd_isNew N a σ = some (ρ, τ)) : Con E MX10_isNew 2 0 0 [.inr (.inr (53 + 1)), .inr (.inr (a + 1))] 150 (ov σ) (some (.inl ρ)) (ov τ) := by
  unfold cRd_isNew at h
  refine Con.ofY (by decide +kernel) (by simp [yWords, yCat]) (fun hok _ => ?_)
  show Y E MX10_isNew (yRm 2 0 0) (yQf E (150 + 0) 0 0 (some (.inl ρ)) (ov τ)) 0 [(0, .inr (.inr (53 + 1))), (1, .inr (.inr (a + 1)))] [] (ov σ) 150 0 0
  obtain ⟨c1, h⟩ := chk_some h
  refine y_aload_n (show decode cX10_isNew 0 = .ok (.aload_n 0, 1) by decide +kernel) 0 rfl ?_
  refine y_getf 53 10 0 9 (by decide) rfl (by decide) (by decide) q2_68 (show decode cX10_isNew 1 = .ok (.getfield 9, 3) by decide +kernel) (v := .inr (.inr (1 + 1))) rfl ?_
  refine y_getf 1 8 3 39 (by decide) rfl (by decide) (by decide) q1_40 (show decode cX10_isNew 4 = .ok (.getfield 39, 3) by decide +kernel) (v := .inl (σ 1 3)) rfl ?_
  refine y_iconst (show decode cX10_isNew 7 = .ok (.iconst 3, 1) by decide +kernel) rfl ?_
  by_cases c2 : (σ 1 3) = 3
  · rw [if_pos c2] at h
    refine y_icmp_eq_t (tgt := 19) (show decode cX10_isNew 8 = .ok (.if_icmp .eq 11, 3) by decide +kernel) rfl c2 ?_
    refine y_aload_n (show decode cX10_isNew 19 = .ok (.aload_n 1, 1) by decide +kernel) 1 rfl ?_
    refine y_aload_n (show decode cX10_isNew 20 = .ok (.aload_n 0, 1) by decide +kernel) 0 rfl ?_
    refine y_getf 53 10 0 9 (by decide) rfl (by decide) (by decide) q2_68 (show decode cX10_isNew 21 = .ok (.getfield 9, 3) by decide +kernel) (v := .inr (.inr (1 + 1))) rfl ?_
    refine y_getf 1 8 4 87 (by decide) rfl (by decide) (by decide) q1_45 (show decode cX10_isNew 24 = .ok (.getfield 87, 3) by decide +kernel) (v := .inr (.inl (σ 1 4))) rfl ?_
    obtain ⟨r4, e3, h⟩ := bndO_some h
    refine y_callV (np := 1) (st := []) (as := [.inr (.inl (σ 1 4))]) a 5 (sh_cNm_find e3) q4_9 q4_6 q4_7 q4_8 q1_6 (by omega) (by rcases c1 with rfl | rfl | rfl | rfl | rfl | rfl <;> rfl) (by decide) rfl (by decide) (by decide +kernel) (by decide) rfl (Nat.le_of_ble_eq_true rfl) (show decode cX10_isNew 27 = .ok (.invokevirtual 91, 3) by decide +kernel) rfl ?_
    refine y_iconst (show decode cX10_isNew 30 = .ok (.iconst (-1), 1) by decide +kernel) rfl ?_
    by_cases c5 : r4 = (-1)
    · rw [if_pos c5] at h
      refine y_icmp_eq_t (tgt := 43) (show decode cX10_isNew 31 = .ok (.if_icmp .eq 12, 3) by decide +kernel) rfl c5 ?_
      refine y_iconst (show decode cX10_isNew 43 = .ok (.iconst 1, 1) by decide +kernel) rfl ?_
      cases h
      exact y_zret (show decode cX10_isNew 44 = .ok (.ireturn, 1) by decide +kernel) rfl (Or.inr rfl)
    · rw [if_neg c5] at h
      refine y_icmp_eq_f (show decode cX10_isNew 31 = .ok (.if_icmp .eq 12, 3) by decide +kernel) c5 (by decide) ?_
      refine y_aload_n (show decode cX10_isNew 34 = .ok (.aload_n 0, 1) by decide +kernel) 0 rfl ?_
      refine y_getf 53 10 0 9 (by decide) rfl (by decide) (by decide) q2_68 (show decode cX10_isNew 35 = .ok (.getfield 9, 3) by decide +kernel) (v := .inr (.inr (1 + 1))) rfl ?_
      refine y_iconst (show decode cX10_isNew 38 = .ok (.iconst 3, 1) by decide +kernel) rfl ?_
      obtain ⟨r7, σ8, e6, h⟩ := bndR_some h
      refine y_callV (np := 1) (st := []) (as := [.inl 3]) 1 8 (sh_cTp_blame e6) q3_235 q3_232 q3_233 q3_234 q1_2 (by decide) rfl (by decide) rfl (by decide) (by decide +kernel) (by decide) rfl (Nat.le_of_ble_eq_true rfl) (show decode cX10_isNew 39 = .ok (.invokevirtual 81, 3) by decide +kernel) rfl ?_
      obtain ⟨c9, h⟩ := chk_some h
      cases h
      exact y_zret (show decode cX10_isNew 42 = .ok (.ireturn, 1) by decide +kernel) rfl c9
  · rw [if_neg c2] at h
    refine y_icmp_eq_f (show decode cX10_isNew 8 = .ok (.if_icmp .eq 11, 3) by decide +kernel) c2 (by decide) ?_
    refine y_aload_n (show decode cX10_isNew 11 = .ok (.aload_n 0, 1) by decide +kernel) 0 rfl ?_
    refine y_getf 53 10 0 9 (by decide) rfl (by decide) (by decide) q2_68 (show decode cX10_isNew 12 = .ok (.getfield 9, 3) by decide +kernel) (v := .inr (.inr (1 + 1))) rfl ?_
    obtain ⟨r11, σ12, e10, h⟩ := bndR_some h
    refine y_callV (np := 0) (st := []) (as := []) 1 8 (sh_cTp_refuse e10) q4_4 q4_1 q4_2 q4_3 q1_2 (by decide) rfl (by decide) rfl (by decide) (by decide +kernel) (by decide) rfl (Nat.le_of_ble_eq_true rfl) (show decode cX10_isNew 15 = .ok (.invokevirtual 78, 3) by decide +kernel) rfl ?_
    obtain ⟨c13, h⟩ := chk_some h
    cases h
    exact y_zret (show decode cX10_isNew 18 = .ok (.ireturn, 1) by decide +kernel) rfl c13
abbrev MX10_readPlace : yM := (yX10_readPlace, cX10_readPlace, 2, some .boolean)
def cRd_readPlace (N : Nat) (σ : ySt) : Option (Int × ySt) :=
  chkT (σ 53 1) fun T1 =>
  bndO (cNm_isFull (T1 + 1) σ) fun r5 =>
  bndR (cRd_startLine N r5 σ) fun r7 σ8 =>
  if r7 = 0 then
    some (0, σ8)
  else
    chkT (σ8 53 1) fun T10 =>
    bndR (cRd_isNew N (T10 + 1) σ8) fun r14 σ15 =>
    if ¬ r14 = 0 then
      chkT (σ15 53 1) fun T17 =>
      bndR (cNm_add (T17 + 1) (σ15 1 4) σ15) fun r21 σ22 =>
      bndO (cTp_step N σ22) fun σ24 =>
      if ¬ r21 = (-1) then
        chkT (σ24 53 1) fun T26 =>
        bnd (fun (y29 : Int) =>
          chk (y29 = 0 ∨ y29 = 1) <|
          chkA 6 r21 <|
          bnd (yset σ24 (T26 + 7) (r21).toNat y29) fun σ33 =>
          chkT (σ33 53 1) fun T35 =>
          chkA 6 r21 <|
          if (σ33 (T35 + 7) (r21).toNat) = 0 then
            some (1, σ33)
          else
            bndO (cTp_step N σ33) fun σ41 =>
            some (1, σ41)) fun j30 =>
        if ¬ (σ24 1 3) = 101 then
          j30 0
        else
          j30 1
      else
        some (0, σ24)
    else
      some (0, σ15)
set_option maxHeartbeats 4000000 in
set_option maxRecDepth 10000 in
theorem sh_cRd_readPlace {E : yE} {N : Nat} {σ : ySt} {ρ : Int} {τ : ySt} (h : cRd_readPlace N σ = some (ρ, τ)) : Con E MX10_readPlace 10 0 0 [.inr (.inr (53 + 1))] 150 (ov σ) (some (.inl ρ)) (ov τ) := by
  unfold cRd_readPlace at h
  refine Con.ofY (by decide +kernel) (by simp [yWords, yCat]) (fun hok _ => ?_)
  show Y E MX10_readPlace (yRm 10 0 0) (yQf E (150 + 0) 0 0 (some (.inl ρ)) (ov τ)) 0 [(0, .inr (.inr (53 + 1)))] [] (ov σ) 150 0 0
  refine y_aload_n (show decode cX10_readPlace 0 = .ok (.aload_n 0, 1) by decide +kernel) 0 rfl ?_
  refine y_aload_n (show decode cX10_readPlace 1 = .ok (.aload_n 0, 1) by decide +kernel) 0 rfl ?_
  obtain ⟨T1, c2, c3, h⟩ := chkT_some h
  refine y_getf 53 10 1 15 (by decide) rfl (by decide) (by decide) q2_69 (show decode cX10_readPlace 2 = .ok (.getfield 15, 3) by decide +kernel) (v := .inr (.inr (T1 + 1))) (by rw [← c3]; rfl) ?_
  refine y_getf T1 9 0 97 (by omega) (by rcases c2 with rfl | rfl <;> rfl) (by decide) (by decide) q1_197 (show decode cX10_readPlace 5 = .ok (.getfield 97, 3) by decide +kernel) (v := .inr (.inr ((T1 + 1) + 1))) (by rcases c2 with rfl | rfl <;> rfl) ?_
  obtain ⟨r5, e4, h⟩ := bndO_some h
  refine y_callV (np := 0) (st := [.inr (.inr (53 + 1))]) (as := []) (T1 + 1) 5 (sh_cNm_isFull e4) q3_227 q3_224 q3_225 q3_226 q1_6 (by omega) (by rcases c2 with rfl | rfl <;> rfl) (by decide) rfl (by decide) (by decide +kernel) (by decide) rfl (Nat.le_of_ble_eq_true rfl) (show decode cX10_readPlace 8 = .ok (.invokevirtual 101, 3) by decide +kernel) rfl ?_
  obtain ⟨r7, σ8, e6, h⟩ := bndR_some h
  refine y_callV (np := 1) (st := []) (as := [.inl r5]) 53 10 (sh_cRd_startLine e6) q3_231 q3_228 q3_230 qs1_7 q1_9 (by decide) rfl (by decide) rfl (by decide) (by decide +kernel) (by decide) rfl (Nat.le_of_ble_eq_true rfl) (show decode cX10_readPlace 11 = .ok (.invokevirtual 104, 3) by decide +kernel) rfl ?_
  by_cases c9 : r7 = 0
  · rw [if_pos c9] at h
    refine y_if_eq_t (tgt := 31) (show decode cX10_readPlace 14 = .ok (.ifCond .eq 17, 3) by decide +kernel) rfl c9 ?_
    refine y_iconst (show decode cX10_readPlace 31 = .ok (.iconst 0, 1) by decide +kernel) rfl ?_
    cases h
    exact y_zret (show decode cX10_readPlace 32 = .ok (.ireturn, 1) by decide +kernel) rfl (Or.inl rfl)
  · rw [if_neg c9] at h
    refine y_if_eq_f (show decode cX10_readPlace 14 = .ok (.ifCond .eq 17, 3) by decide +kernel) c9 (by decide) ?_
    refine y_aload_n (show decode cX10_readPlace 17 = .ok (.aload_n 0, 1) by decide +kernel) 0 rfl ?_
    refine y_aload_n (show decode cX10_readPlace 18 = .ok (.aload_n 0, 1) by decide +kernel) 0 rfl ?_
    obtain ⟨T10, c11, c12, h⟩ := chkT_some h
    refine y_getf 53 10 1 15 (by decide) rfl (by decide) (by decide) q2_69 (show decode cX10_readPlace 19 = .ok (.getfield 15, 3) by decide +kernel) (v := .inr (.inr (T10 + 1))) (by rw [← c12]; rfl) ?_
    refine y_getf T10 9 0 97 (by omega) (by rcases c11 with rfl | rfl <;> rfl) (by decide) (by decide) q1_197 (show decode cX10_readPlace 22 = .ok (.getfield 97, 3) by decide +kernel) (v := .inr (.inr ((T10 + 1) + 1))) (by rcases c11 with rfl | rfl <;> rfl) ?_
    obtain ⟨r14, σ15, e13, h⟩ := bndR_some h
    refine y_callV (np := 1) (st := []) (as := [.inr (.inr ((T10 + 1) + 1))]) 53 10 (sh_cRd_isNew e13) q4_0 q3_237 q3_239 qs1_8 q1_9 (by decide) rfl (by decide) rfl (by decide) (by decide +kernel) (by decide) rfl (Nat.le_of_ble_eq_true rfl) (show decode cX10_readPlace 25 = .ok (.invokevirtual 108, 3) by decide +kernel) rfl ?_
    by_cases c16 : ¬ r14 = 0
    · rw [if_pos c16] at h
      refine y_if_ne_t (tgt := 33) (show decode cX10_readPlace 28 = .ok (.ifCond .ne 5, 3) by decide +kernel) rfl c16 ?_
      refine y_aload_n (show decode cX10_readPlace 33 = .ok (.aload_n 0, 1) by decide +kernel) 0 rfl ?_
      obtain ⟨T17, c18, c19, h⟩ := chkT_some h
      refine y_getf 53 10 1 15 (by decide) rfl (by decide) (by decide) q2_69 (show decode cX10_readPlace 34 = .ok (.getfield 15, 3) by decide +kernel) (v := .inr (.inr (T17 + 1))) (by rw [← c19]; rfl) ?_
      refine y_getf T17 9 0 97 (by omega) (by rcases c18 with rfl | rfl <;> rfl) (by decide) (by decide) q1_197 (show decode cX10_readPlace 37 = .ok (.getfield 97, 3) by decide +kernel) (v := .inr (.inr ((T17 + 1) + 1))) (by rcases c18 with rfl | rfl <;> rfl) ?_
      refine y_aload_n (show decode cX10_readPlace 40 = .ok (.aload_n 0, 1) by decide +kernel) 0 rfl ?_
      refine y_getf 53 10 0 9 (by decide) rfl (by decide) (by decide) q2_68 (show decode cX10_readPlace 41 = .ok (.getfield 9, 3) by decide +kernel) (v := .inr (.inr (1 + 1))) rfl ?_
      refine y_getf 1 8 4 87 (by decide) rfl (by decide) (by decide) q1_45 (show decode cX10_readPlace 44 = .ok (.getfield 87, 3) by decide +kernel) (v := .inr (.inl (σ15 1 4))) rfl ?_
      obtain ⟨r21, σ22, e20, h⟩ := bndR_some h
      refine y_callV (np := 1) (st := []) (as := [.inr (.inl (σ15 1 4))]) (T17 + 1) 5 (sh_cNm_add e20) q4_13 q4_10 q4_11 q4_12 q1_6 (by omega) (by rcases c18 with rfl | rfl <;> rfl) (by decide) rfl (by decide) (by decide +kernel) (by decide) rfl (Nat.le_of_ble_eq_true rfl) (show decode cX10_readPlace 47 = .ok (.invokevirtual 112, 3) by decide +kernel) rfl ?_
      refine y_istore_n (show decode cX10_readPlace 50 = .ok (.istore_n 1, 1) by decide +kernel) rfl (L1 := [(1, .inl r21), (0, .inr (.inr (53 + 1)))]) rfl ?_
      refine y_aload_n (show decode cX10_readPlace 51 = .ok (.aload_n 0, 1) by decide +kernel) 1 rfl ?_
      refine y_getf 53 10 0 9 (by decide) rfl (by decide) (by decide) q2_68 (show decode cX10_readPlace 52 = .ok (.getfield 9, 3) by decide +kernel) (v := .inr (.inr (1 + 1))) rfl ?_
      obtain ⟨σ24, e23, h⟩ := bndO_some h
      refine y_callV (np := 0) (st := []) (as := []) 1 8 (sh_cTp_step e23) q3_90 q3_236 q3_88 q3_89 q1_2 (by decide) rfl (by decide) rfl (by decide) (by decide +kernel) (by decide) rfl (Nat.le_of_ble_eq_true rfl) (show decode cX10_readPlace 55 = .ok (.invokevirtual 84, 3) by decide +kernel) rfl ?_
      refine y_iload_n (show decode cX10_readPlace 58 = .ok (.iload_n 1, 1) by decide +kernel) 0 rfl ?_
      refine y_iconst (show decode cX10_readPlace 59 = .ok (.iconst (-1), 1) by decide +kernel) rfl ?_
      by_cases c25 : ¬ r21 = (-1)
      · rw [if_pos c25] at h
        refine y_icmp_ne_t (tgt := 65) (show decode cX10_readPlace 60 = .ok (.if_icmp .ne 5, 3) by decide +kernel) rfl c25 ?_
        refine y_aload_n (show decode cX10_readPlace 65 = .ok (.aload_n 0, 1) by decide +kernel) 1 rfl ?_
        obtain ⟨T26, c27, c28, h⟩ := chkT_some h
        refine y_getf 53 10 1 15 (by decide) rfl (by decide) (by decide) q2_69 (show decode cX10_readPlace 66 = .ok (.getfield 15, 3) by decide +kernel) (v := .inr (.inr (T26 + 1))) (by rw [← c28]; rfl) ?_
        refine y_getf T26 9 3 115 (by omega) (by rcases c27 with rfl | rfl <;> rfl) (by decide) (by decide) q1_210 (show decode cX10_readPlace 69 = .ok (.getfield 115, 3) by decide +kernel) (v := .inr (.inr ((T26 + 7) + 1))) (by rcases c27 with rfl | rfl <;> rfl) ?_
        refine y_iload_n (show decode cX10_readPlace 72 = .ok (.iload_n 1, 1) by decide +kernel) 0 rfl ?_
        refine y_aload_n (show decode cX10_readPlace 73 = .ok (.aload_n 0, 1) by decide +kernel) 1 rfl ?_
        refine y_getf 53 10 0 9 (by decide) rfl (by decide) (by decide) q2_68 (show decode cX10_readPlace 74 = .ok (.getfield 9, 3) by decide +kernel) (v := .inr (.inr (1 + 1))) rfl ?_
        refine y_getf 1 8 3 39 (by decide) rfl (by decide) (by decide) q1_40 (show decode cX10_readPlace 77 = .ok (.getfield 39, 3) by decide +kernel) (v := .inl (σ24 1 3)) rfl ?_
        refine y_bipush (show decode cX10_readPlace 80 = .ok (.bipush 101, 2) by decide +kernel) rfl rfl ?_
        refine bnd_j (Q := fun j30 => ∀ (y29 : Int), j30 y29 = some (ρ, τ) → Y E MX10_readPlace (yRm 10 0 0) (yQf E (150 + 0) 0 0 (some (.inl ρ)) (ov τ)) 90 [(0, .inr (.inr (53 + 1))), (1, .inl r21)] [.inl y29, .inl r21, .inr (.inr ((T26 + 7) + 1))] (ov σ24) 150 0 0) (fun y29 h => ?_) (fun j30 hj30 h => ?_) h
        · dsimp only at h
          obtain ⟨c31, h⟩ := chk_some h
          obtain ⟨c32, h⟩ := chkA_some h
          obtain ⟨σ33, e34, h⟩ := bnd_i h
          refine yo_zast (T26 + 7) 6 (by omega) (by rcases c27 with rfl | rfl <;> rfl) c32 c31 (ov_set1 e34 (by rcases c27 with rfl | rfl <;> rfl)) (show decode cX10_readPlace 90 = .ok (.bastore, 1) by decide +kernel) ?_
          refine y_aload_n (show decode cX10_readPlace 91 = .ok (.aload_n 0, 1) by decide +kernel) 0 rfl ?_
          obtain ⟨T35, c36, c37, h⟩ := chkT_some h
          refine y_getf 53 10 1 15 (by decide) rfl (by decide) (by decide) q2_69 (show decode cX10_readPlace 92 = .ok (.getfield 15, 3) by decide +kernel) (v := .inr (.inr (T35 + 1))) (by rw [← c37]; rfl) ?_
          refine y_getf T35 9 3 115 (by omega) (by rcases c36 with rfl | rfl <;> rfl) (by decide) (by decide) q1_210 (show decode cX10_readPlace 95 = .ok (.getfield 115, 3) by decide +kernel) (v := .inr (.inr ((T35 + 7) + 1))) (by rcases c36 with rfl | rfl <;> rfl) ?_
          refine y_iload_n (show decode cX10_readPlace 98 = .ok (.iload_n 1, 1) by decide +kernel) 1 rfl ?_
          obtain ⟨c38, h⟩ := chkA_some h
          refine yo_zald (T35 + 7) 6 (by omega) (by rcases c36 with rfl | rfl <;> rfl) c38 (ov_at (by rcases c36 with rfl | rfl <;> rfl)) (show decode cX10_readPlace 99 = .ok (.baload, 1) by decide +kernel) ?_
          by_cases c39 : (σ33 (T35 + 7) (r21).toNat) = 0
          · rw [if_pos c39] at h
            refine y_if_eq_t (tgt := 110) (show decode cX10_readPlace 100 = .ok (.ifCond .eq 10, 3) by decide +kernel) rfl c39 ?_
            refine y_iconst (show decode cX10_readPlace 110 = .ok (.iconst 1, 1) by decide +kernel) rfl ?_
            cases h
            exact y_zret (show decode cX10_readPlace 111 = .ok (.ireturn, 1) by decide +kernel) rfl (Or.inr rfl)
          · rw [if_neg c39] at h
            refine y_if_eq_f (show decode cX10_readPlace 100 = .ok (.ifCond .eq 10, 3) by decide +kernel) c39 (by decide) ?_
            refine y_aload_n (show decode cX10_readPlace 103 = .ok (.aload_n 0, 1) by decide +kernel) 0 rfl ?_
            refine y_getf 53 10 0 9 (by decide) rfl (by decide) (by decide) q2_68 (show decode cX10_readPlace 104 = .ok (.getfield 9, 3) by decide +kernel) (v := .inr (.inr (1 + 1))) rfl ?_
            obtain ⟨σ41, e40, h⟩ := bndO_some h
            refine y_callV (np := 0) (st := []) (as := []) 1 8 (sh_cTp_step e40) q3_90 q3_236 q3_88 q3_89 q1_2 (by decide) rfl (by decide) rfl (by decide) (by decide +kernel) (by decide) rfl (Nat.le_of_ble_eq_true rfl) (show decode cX10_readPlace 107 = .ok (.invokevirtual 84, 3) by decide +kernel) rfl ?_
            refine y_iconst (show decode cX10_readPlace 110 = .ok (.iconst 1, 1) by decide +kernel) rfl ?_
            cases h
            exact y_zret (show decode cX10_readPlace 111 = .ok (.ireturn, 1) by decide +kernel) rfl (Or.inr rfl)
        by_cases c42 : ¬ (σ24 1 3) = 101
        · rw [if_pos c42] at h
          refine y_icmp_ne_t (tgt := 89) (show decode cX10_readPlace 82 = .ok (.if_icmp .ne 7, 3) by decide +kernel) rfl c42 ?_
          refine y_iconst (show decode cX10_readPlace 89 = .ok (.iconst 0, 1) by decide +kernel) rfl ?_
          refine y_pick [1, 0] rfl ?_
          exact hj30 _ h
        · rw [if_neg c42] at h
          refine y_icmp_ne_f (show decode cX10_readPlace 82 = .ok (.if_icmp .ne 7, 3) by decide +kernel) c42 (by decide) ?_
          refine y_iconst (show decode cX10_readPlace 85 = .ok (.iconst 1, 1) by decide +kernel) rfl ?_
          refine y_goto (tgt := 90) (show decode cX10_readPlace 86 = .ok (.goto 4, 3) by decide +kernel) rfl ?_
          refine y_pick [1, 0] rfl ?_
          exact hj30 _ h
      · rw [if_neg c25] at h
        refine y_icmp_ne_f (show decode cX10_readPlace 60 = .ok (.if_icmp .ne 5, 3) by decide +kernel) c25 (by decide) ?_
        refine y_iconst (show decode cX10_readPlace 63 = .ok (.iconst 0, 1) by decide +kernel) rfl ?_
        cases h
        exact y_zret (show decode cX10_readPlace 64 = .ok (.ireturn, 1) by decide +kernel) rfl (Or.inl rfl)
    · rw [if_neg c16] at h
      refine y_if_ne_f (show decode cX10_readPlace 28 = .ok (.ifCond .ne 5, 3) by decide +kernel) c16 (by decide) ?_
      refine y_iconst (show decode cX10_readPlace 31 = .ok (.iconst 0, 1) by decide +kernel) rfl ?_
      cases h
      exact y_zret (show decode cX10_readPlace 32 = .ok (.ireturn, 1) by decide +kernel) rfl (Or.inl rfl)
abbrev MX10_isToldSecond : yM := (yX10_isToldSecond, cX10_isToldSecond, 3, some .boolean)
def cRd_isToldSecond (N : Nat) (a : Int) (σ : ySt) : Option (Int × ySt) :=
  bnd (fun (y1 : Int) =>
    if y1 = (-1) then
      some (0, σ)
    else
      bnd (bndR (cTp_blame 3 σ) fun r6 σ7 =>
        some (1, σ7)) fun j4 =>
      if y1 = a then
        j4
      else
        chkT (σ 53 1) fun T9 =>
        chkI (a * 6) <|
        chkI ((a * 6) + y1) <|
        chkA 36 ((a * 6) + y1) <|
        if (σ (T9 + 15) (((a * 6) + y1)).toNat) < 1000000 then
          j4
        else
          some (0, σ)) fun j2 =>
  if ¬ (σ 1 3) = 3 then
    j2 (-1)
  else
    chkT (σ 53 1) fun T17 =>
    bndO (cNm_find N (T17 + 1) (σ 1 4) σ) fun r21 =>
    j2 r21
set_option maxHeartbeats 4000000 in
set_option maxRecDepth 10000 in
theorem sh_cRd_isToldSecond {E : yE} {N : Nat} {a : Int} {σ : ySt} {ρ : Int} {τ : ySt} (h : cRd_isToldSecond N a σ = some (ρ, τ)) : Con E MX10_isToldSecond 1 0 0 [.inr (.inr (53 + 1)), .inl a] 150 (ov σ) (some (.inl ρ)) (ov τ) := by
  unfold cRd_isToldSecond at h
  refine Con.ofY (by decide +kernel) (by simp [yWords, yCat]) (fun hok _ => ?_)
  show Y E MX10_isToldSecond (yRm 1 0 0) (yQf E (150 + 0) 0 0 (some (.inl ρ)) (ov τ)) 0 [(0, .inr (.inr (53 + 1))), (1, .inl a)] [] (ov σ) 150 0 0
  refine y_aload_n (show decode cX10_isToldSecond 0 = .ok (.aload_n 0, 1) by decide +kernel) 0 rfl ?_
  refine y_getf 53 10 0 9 (by decide) rfl (by decide) (by decide) q2_68 (show decode cX10_isToldSecond 1 = .ok (.getfield 9, 3) by decide +kernel) (v := .inr (.inr (1 + 1))) rfl ?_
  refine y_getf 1 8 3 39 (by decide) rfl (by decide) (by decide) q1_40 (show decode cX10_isToldSecond 4 = .ok (.getfield 39, 3) by decide +kernel) (v := .inl (σ 1 3)) rfl ?_
  refine y_iconst (show decode cX10_isToldSecond 7 = .ok (.iconst 3, 1) by decide +kernel) rfl ?_
  refine bnd_j (Q := fun j2 => ∀ (y1 : Int), j2 y1 = some (ρ, τ) → Y E MX10_isToldSecond (yRm 1 0 0) (yQf E (150 + 0) 0 0 (some (.inl ρ)) (ov τ)) 32 [(0, .inr (.inr (53 + 1))), (1, .inl a)] [.inl y1] (ov σ) 150 0 0) (fun y1 h => ?_) (fun j2 hj2 h => ?_) h
  · dsimp only at h
    refine y_istore_n (show decode cX10_isToldSecond 32 = .ok (.istore_n 2, 1) by decide +kernel) rfl (L1 := [(2, .inl y1), (0, .inr (.inr (53 + 1))), (1, .inl a)]) rfl ?_
    refine y_iload_n (show decode cX10_isToldSecond 33 = .ok (.iload_n 2, 1) by decide +kernel) 0 rfl ?_
    refine y_iconst (show decode cX10_isToldSecond 34 = .ok (.iconst (-1), 1) by decide +kernel) rfl ?_
    by_cases c3 : y1 = (-1)
    · rw [if_pos c3] at h
      refine y_icmp_eq_t (tgt := 62) (show decode cX10_isToldSecond 35 = .ok (.if_icmp .eq 27, 3) by decide +kernel) rfl c3 ?_
      refine y_iconst (show decode cX10_isToldSecond 62 = .ok (.iconst 0, 1) by decide +kernel) rfl ?_
      cases h
      exact y_zret (show decode cX10_isToldSecond 63 = .ok (.ireturn, 1) by decide +kernel) rfl (Or.inl rfl)
    · rw [if_neg c3] at h
      refine y_icmp_eq_f (show decode cX10_isToldSecond 35 = .ok (.if_icmp .eq 27, 3) by decide +kernel) c3 (by decide) ?_
      refine y_iload_n (show decode cX10_isToldSecond 38 = .ok (.iload_n 2, 1) by decide +kernel) 0 rfl ?_
      refine y_iload_n (show decode cX10_isToldSecond 39 = .ok (.iload_n 1, 1) by decide +kernel) 2 rfl ?_
      refine bnd_j (Q := fun j4 => j4 = some (ρ, τ) → Y E MX10_isToldSecond (yRm 1 0 0) (yQf E (150 + 0) 0 0 (some (.inl ρ)) (ov τ)) 64 [(0, .inr (.inr (53 + 1)))] [] (ov σ) 150 0 0) (fun h => ?_) (fun j4 hj4 h => ?_) h
      · refine y_aload_n (show decode cX10_isToldSecond 64 = .ok (.aload_n 0, 1) by decide +kernel) 0 rfl ?_
        refine y_getf 53 10 0 9 (by decide) rfl (by decide) (by decide) q2_68 (show decode cX10_isToldSecond 65 = .ok (.getfield 9, 3) by decide +kernel) (v := .inr (.inr (1 + 1))) rfl ?_
        refine y_iconst (show decode cX10_isToldSecond 68 = .ok (.iconst 3, 1) by decide +kernel) rfl ?_
        obtain ⟨r6, σ7, e5, h⟩ := bndR_some h
        refine y_callV (np := 1) (st := []) (as := [.inl 3]) 1 8 (sh_cTp_blame e5) q3_235 q3_232 q3_233 q3_234 q1_2 (by decide) rfl (by decide) rfl (by decide) (by decide +kernel) (by decide) rfl (Nat.le_of_ble_eq_true rfl) (show decode cX10_isToldSecond 69 = .ok (.invokevirtual 81, 3) by decide +kernel) rfl ?_
        refine y_pop (show decode cX10_isToldSecond 72 = .ok (.pop, 1) by decide +kernel) rfl ?_
        refine y_iconst (show decode cX10_isToldSecond 73 = .ok (.iconst 1, 1) by decide +kernel) rfl ?_
        cases h
        exact y_zret (show decode cX10_isToldSecond 74 = .ok (.ireturn, 1) by decide +kernel) rfl (Or.inr rfl)
      by_cases c8 : y1 = a
      · rw [if_pos c8] at h
        refine y_icmp_eq_t (tgt := 64) (show decode cX10_isToldSecond 40 = .ok (.if_icmp .eq 24, 3) by decide +kernel) rfl c8 ?_
        refine y_pick [1] rfl ?_
        exact hj4 h
      · rw [if_neg c8] at h
        refine y_icmp_eq_f (show decode cX10_isToldSecond 40 = .ok (.if_icmp .eq 24, 3) by decide +kernel) c8 (by decide) ?_
        refine y_aload_n (show decode cX10_isToldSecond 43 = .ok (.aload_n 0, 1) by decide +kernel) 1 rfl ?_
        obtain ⟨T9, c10, c11, h⟩ := chkT_some h
        refine y_getf 53 10 1 15 (by decide) rfl (by decide) (by decide) q2_69 (show decode cX10_isToldSecond 44 = .ok (.getfield 15, 3) by decide +kernel) (v := .inr (.inr (T9 + 1))) (by rw [← c11]; rfl) ?_
        refine y_getf T9 9 11 137 (by omega) (by rcases c10 with rfl | rfl <;> rfl) (by decide) (by decide) q2_1 (show decode cX10_isToldSecond 47 = .ok (.getfield 137, 3) by decide +kernel) (v := .inr (.inr ((T9 + 15) + 1))) (by rcases c10 with rfl | rfl <;> rfl) ?_
        refine y_iload_n (show decode cX10_isToldSecond 50 = .ok (.iload_n 1, 1) by decide +kernel) 2 rfl ?_
        refine y_bipush (show decode cX10_isToldSecond 51 = .ok (.bipush 6, 2) by decide +kernel) rfl rfl ?_
        obtain ⟨c12, h⟩ := chkI_some h
        refine y_imul (show decode cX10_isToldSecond 53 = .ok (.imul, 1) by decide +kernel) c12 ?_
        refine y_iload_n (show decode cX10_isToldSecond 54 = .ok (.iload_n 2, 1) by decide +kernel) 0 rfl ?_
        obtain ⟨c13, h⟩ := chkI_some h
        refine y_iadd (show decode cX10_isToldSecond 55 = .ok (.iadd, 1) by decide +kernel) c13 ?_
        obtain ⟨c14, h⟩ := chkA_some h
        refine yo_iald (T9 + 15) 36 (by omega) (by rcases c10 with rfl | rfl <;> rfl) c14 (ov_at (by rcases c10 with rfl | rfl <;> rfl)) (show decode cX10_isToldSecond 56 = .ok (.iaload, 1) by decide +kernel) ?_
        refine y_ldc (k := 1000000) (show decode cX10_isToldSecond 57 = .ok (.ldc 141, 2) by decide +kernel) q4_29 rfl rfl ?_
        by_cases c15 : (σ (T9 + 15) (((a * 6) + y1)).toNat) < 1000000
        · rw [if_pos c15] at h
          refine y_icmp_lt_t (tgt := 64) (show decode cX10_isToldSecond 59 = .ok (.if_icmp .lt 5, 3) by decide +kernel) rfl c15 ?_
          refine y_pick [1] rfl ?_
          exact hj4 h
        · rw [if_neg c15] at h
          refine y_icmp_lt_f (show decode cX10_isToldSecond 59 = .ok (.if_icmp .lt 5, 3) by decide +kernel) c15 (by decide) ?_
          refine y_iconst (show decode cX10_isToldSecond 62 = .ok (.iconst 0, 1) by decide +kernel) rfl ?_
          cases h
          exact y_zret (show decode cX10_isToldSecond 63 = .ok (.ireturn, 1) by decide +kernel) rfl (Or.inl rfl)
  by_cases c16 : ¬ (σ 1 3) = 3
  · rw [if_pos c16] at h
    refine y_icmp_ne_t (tgt := 31) (show decode cX10_isToldSecond 8 = .ok (.if_icmp .ne 23, 3) by decide +kernel) rfl c16 ?_
    refine y_iconst (show decode cX10_isToldSecond 31 = .ok (.iconst (-1), 1) by decide +kernel) rfl ?_
    refine y_pick [0, 1] rfl ?_
    exact hj2 _ h
  · rw [if_neg c16] at h
    refine y_icmp_ne_f (show decode cX10_isToldSecond 8 = .ok (.if_icmp .ne 23, 3) by decide +kernel) c16 (by decide) ?_
    refine y_aload_n (show decode cX10_isToldSecond 11 = .ok (.aload_n 0, 1) by decide +kernel) 0 rfl ?_
    obtain ⟨T17, c18, c19, h⟩ := chkT_some h
    refine y_getf 53 10 1 15 (by decide) rfl (by decide) (by decide) q2_69 (show decode cX10_isToldSecond 12 = .ok (.getfield 15, 3) by decide +kernel) (v := .inr (.inr (T17 + 1))) (by rw [← c19]; rfl) ?_
    refine y_getf T17 9 0 97 (by omega) (by rcases c18 with rfl | rfl <;> rfl) (by decide) (by decide) q1_197 (show decode cX10_isToldSecond 15 = .ok (.getfield 97, 3) by decide +kernel) (v := .inr (.inr ((T17 + 1) + 1))) (by rcases c18 with rfl | rfl <;> rfl) ?_
    refine y_aload_n (show decode cX10_isToldSecond 18 = .ok (.aload_n 0, 1) by decide +kernel) 0 rfl ?_
    refine y_getf 53 10 0 9 (by decide) rfl (by decide) (by decide) q2_68 (show decode cX10_isToldSecond 19 = .ok (.getfield 9, 3) by decide +kernel) (v := .inr (.inr (1 + 1))) rfl ?_
    refine y_getf 1 8 4 87 (by decide) rfl (by decide) (by decide) q1_45 (show decode cX10_isToldSecond 22 = .ok (.getfield 87, 3) by decide +kernel) (v := .inr (.inl (σ 1 4))) rfl ?_
    obtain ⟨r21, e20, h⟩ := bndO_some h
    refine y_callV (np := 1) (st := []) (as := [.inr (.inl (σ 1 4))]) (T17 + 1) 5 (sh_cNm_find e20) q4_9 q4_6 q4_7 q4_8 q1_6 (by omega) (by rcases c18 with rfl | rfl <;> rfl) (by decide) rfl (by decide) (by decide +kernel) (by decide) rfl (Nat.le_of_ble_eq_true rfl) (show decode cX10_isToldSecond 25 = .ok (.invokevirtual 91, 3) by decide +kernel) rfl ?_
    refine y_goto (tgt := 32) (show decode cX10_isToldSecond 28 = .ok (.goto 4, 3) by decide +kernel) rfl ?_
    refine y_pick [0, 1] rfl ?_
    exact hj2 _ h
abbrev MX10_readWay : yM := (yX10_readWay, cX10_readWay, 4, some .boolean)
def cRd_readWay (N : Nat) (σ : ySt) : Option (Int × ySt) :=
  chkT (σ 53 1) fun T1 =>
  bnd (fun (y4 : Int) =>
    bndR (cRd_startLine N y4 σ) fun r7 σ8 =>
    if ¬ r7 = 0 then
      chkT (σ8 53 1) fun T10 =>
      bndR (cTp_passKnown N (T10 + 1) σ8) fun r14 σ15 =>
      if r14 = (-1) then
        some (0, σ15)
      else
        bndR (cRd_isToldSecond N r14 σ15) fun r18 σ19 =>
        if r18 = 0 then
          chkT (σ19 53 1) fun T21 =>
          bndR (cTp_passKnown N (T21 + 1) σ19) fun r25 σ26 =>
          if r25 = (-1) then
            some (0, σ26)
          else
            bndR (cTp_pass N 103 σ26) fun r29 σ30 =>
            if ¬ r29 = 0 then
              bndR (cTp_passNumber N 1 999 σ30) fun r33 σ34 =>
              if ¬ r33 = (-1) then
                chkT (σ34 53 1) fun T36 =>
                bndO (cTw_addWay T36 r14 r25 r33 σ34) fun σ40 =>
                some (1, σ40)
              else
                some (0, σ34)
            else
              some (0, σ30)
        else
          some (0, σ19)
    else
      some (0, σ8)) fun j5 =>
  if (σ T1 15) < 15 then
    j5 0
  else
    j5 1
set_option maxHeartbeats 4000000 in
set_option maxRecDepth 10000 in
theorem sh_cRd_readWay {E : yE} {N : Nat} {σ : ySt} {ρ : Int} {τ : ySt} (h : cRd_readWay N σ = some (ρ, τ)) : Con E MX10_readWay 10 0 0 [.inr (.inr (53 + 1))] 150 (ov σ) (some (.inl ρ)) (ov τ) := by
  unfold cRd_readWay at h
  refine Con.ofY (by decide +kernel) (by simp [yWords, yCat]) (fun hok _ => ?_)
  show Y E MX10_readWay (yRm 10 0 0) (yQf E (150 + 0) 0 0 (some (.inl ρ)) (ov τ)) 0 [(0, .inr (.inr (53 + 1)))] [] (ov σ) 150 0 0
  refine y_aload_n (show decode cX10_readWay 0 = .ok (.aload_n 0, 1) by decide +kernel) 0 rfl ?_
  refine y_aload_n (show decode cX10_readWay 1 = .ok (.aload_n 0, 1) by decide +kernel) 0 rfl ?_
  obtain ⟨T1, c2, c3, h⟩ := chkT_some h
  refine y_getf 53 10 1 15 (by decide) rfl (by decide) (by decide) q2_69 (show decode cX10_readWay 2 = .ok (.getfield 15, 3) by decide +kernel) (v := .inr (.inr (T1 + 1))) (by rw [← c3]; rfl) ?_
  refine y_getf T1 9 15 119 (by omega) (by rcases c2 with rfl | rfl <;> rfl) (by decide) (by decide) q2_13 (show decode cX10_readWay 5 = .ok (.getfield 119, 3) by decide +kernel) (v := .inl (σ T1 15)) (by rcases c2 with rfl | rfl <;> rfl) ?_
  refine y_bipush (show decode cX10_readWay 8 = .ok (.bipush 15, 2) by decide +kernel) rfl rfl ?_
  refine bnd_j (Q := fun j5 => ∀ (y4 : Int), j5 y4 = some (ρ, τ) → Y E MX10_readWay (yRm 10 0 0) (yQf E (150 + 0) 0 0 (some (.inl ρ)) (ov τ)) 18 [(0, .inr (.inr (53 + 1)))] [.inl y4, .inr (.inr (53 + 1))] (ov σ) 150 0 0) (fun y4 h => ?_) (fun j5 hj5 h => ?_) h
  · dsimp only at h
    obtain ⟨r7, σ8, e6, h⟩ := bndR_some h
    refine y_callV (np := 1) (st := []) (as := [.inl y4]) 53 10 (sh_cRd_startLine e6) q3_231 q3_228 q3_230 qs1_7 q1_9 (by decide) rfl (by decide) rfl (by decide) (by decide +kernel) (by decide) rfl (Nat.le_of_ble_eq_true rfl) (show decode cX10_readWay 18 = .ok (.invokevirtual 104, 3) by decide +kernel) rfl ?_
    by_cases c9 : ¬ r7 = 0
    · rw [if_pos c9] at h
      refine y_if_ne_t (tgt := 26) (show decode cX10_readWay 21 = .ok (.ifCond .ne 5, 3) by decide +kernel) rfl c9 ?_
      refine y_aload_n (show decode cX10_readWay 26 = .ok (.aload_n 0, 1) by decide +kernel) 0 rfl ?_
      refine y_getf 53 10 0 9 (by decide) rfl (by decide) (by decide) q2_68 (show decode cX10_readWay 27 = .ok (.getfield 9, 3) by decide +kernel) (v := .inr (.inr (1 + 1))) rfl ?_
      refine y_aload_n (show decode cX10_readWay 30 = .ok (.aload_n 0, 1) by decide +kernel) 0 rfl ?_
      obtain ⟨T10, c11, c12, h⟩ := chkT_some h
      refine y_getf 53 10 1 15 (by decide) rfl (by decide) (by decide) q2_69 (show decode cX10_readWay 31 = .ok (.getfield 15, 3) by decide +kernel) (v := .inr (.inr (T10 + 1))) (by rw [← c12]; rfl) ?_
      refine y_getf T10 9 0 97 (by omega) (by rcases c11 with rfl | rfl <;> rfl) (by decide) (by decide) q1_197 (show decode cX10_readWay 34 = .ok (.getfield 97, 3) by decide +kernel) (v := .inr (.inr ((T10 + 1) + 1))) (by rcases c11 with rfl | rfl <;> rfl) ?_
      obtain ⟨r14, σ15, e13, h⟩ := bndR_some h
      refine y_callV (np := 1) (st := []) (as := [.inr (.inr ((T10 + 1) + 1))]) 1 8 (sh_cTp_passKnown e13) q4_22 q4_19 q4_20 q4_21 q1_2 (by decide) rfl (by decide) rfl (by decide) (by decide +kernel) (by decide) rfl (Nat.le_of_ble_eq_true rfl) (show decode cX10_readWay 37 = .ok (.invokevirtual 122, 3) by decide +kernel) rfl ?_
      refine y_istore_n (show decode cX10_readWay 40 = .ok (.istore_n 1, 1) by decide +kernel) rfl (L1 := [(1, .inl r14), (0, .inr (.inr (53 + 1)))]) rfl ?_
      refine y_iload_n (show decode cX10_readWay 41 = .ok (.iload_n 1, 1) by decide +kernel) 0 rfl ?_
      refine y_iconst (show decode cX10_readWay 42 = .ok (.iconst (-1), 1) by decide +kernel) rfl ?_
      by_cases c16 : r14 = (-1)
      · rw [if_pos c16] at h
        refine y_icmp_eq_t (tgt := 54) (show decode cX10_readWay 43 = .ok (.if_icmp .eq 11, 3) by decide +kernel) rfl c16 ?_
        refine y_iconst (show decode cX10_readWay 54 = .ok (.iconst 0, 1) by decide +kernel) rfl ?_
        cases h
        exact y_zret (show decode cX10_readWay 55 = .ok (.ireturn, 1) by decide +kernel) rfl (Or.inl rfl)
      · rw [if_neg c16] at h
        refine y_icmp_eq_f (show decode cX10_readWay 43 = .ok (.if_icmp .eq 11, 3) by decide +kernel) c16 (by decide) ?_
        refine y_aload_n (show decode cX10_readWay 46 = .ok (.aload_n 0, 1) by decide +kernel) 1 rfl ?_
        refine y_iload_n (show decode cX10_readWay 47 = .ok (.iload_n 1, 1) by decide +kernel) 0 rfl ?_
        obtain ⟨r18, σ19, e17, h⟩ := bndR_some h
        refine y_callV (np := 1) (st := []) (as := [.inl r14]) 53 10 (sh_cRd_isToldSecond e17) q4_28 q4_25 q4_27 qs1_10 q1_9 (by decide) rfl (by decide) rfl (by decide) (by decide +kernel) (by decide) rfl (Nat.le_of_ble_eq_true rfl) (show decode cX10_readWay 48 = .ok (.invokevirtual 126, 3) by decide +kernel) rfl ?_
        by_cases c20 : r18 = 0
        · rw [if_pos c20] at h
          refine y_if_eq_t (tgt := 56) (show decode cX10_readWay 51 = .ok (.ifCond .eq 5, 3) by decide +kernel) rfl c20 ?_
          refine y_aload_n (show decode cX10_readWay 56 = .ok (.aload_n 0, 1) by decide +kernel) 1 rfl ?_
          refine y_getf 53 10 0 9 (by decide) rfl (by decide) (by decide) q2_68 (show decode cX10_readWay 57 = .ok (.getfield 9, 3) by decide +kernel) (v := .inr (.inr (1 + 1))) rfl ?_
          refine y_aload_n (show decode cX10_readWay 60 = .ok (.aload_n 0, 1) by decide +kernel) 1 rfl ?_
          obtain ⟨T21, c22, c23, h⟩ := chkT_some h
          refine y_getf 53 10 1 15 (by decide) rfl (by decide) (by decide) q2_69 (show decode cX10_readWay 61 = .ok (.getfield 15, 3) by decide +kernel) (v := .inr (.inr (T21 + 1))) (by rw [← c23]; rfl) ?_
          refine y_getf T21 9 0 97 (by omega) (by rcases c22 with rfl | rfl <;> rfl) (by decide) (by decide) q1_197 (show decode cX10_readWay 64 = .ok (.getfield 97, 3) by decide +kernel) (v := .inr (.inr ((T21 + 1) + 1))) (by rcases c22 with rfl | rfl <;> rfl) ?_
          obtain ⟨r25, σ26, e24, h⟩ := bndR_some h
          refine y_callV (np := 1) (st := []) (as := [.inr (.inr ((T21 + 1) + 1))]) 1 8 (sh_cTp_passKnown e24) q4_22 q4_19 q4_20 q4_21 q1_2 (by decide) rfl (by decide) rfl (by decide) (by decide +kernel) (by decide) rfl (Nat.le_of_ble_eq_true rfl) (show decode cX10_readWay 67 = .ok (.invokevirtual 122, 3) by decide +kernel) rfl ?_
          refine y_istore_n (show decode cX10_readWay 70 = .ok (.istore_n 2, 1) by decide +kernel) rfl (L1 := [(2, .inl r25), (1, .inl r14), (0, .inr (.inr (53 + 1)))]) rfl ?_
          refine y_iload_n (show decode cX10_readWay 71 = .ok (.iload_n 2, 1) by decide +kernel) 0 rfl ?_
          refine y_iconst (show decode cX10_readWay 72 = .ok (.iconst (-1), 1) by decide +kernel) rfl ?_
          by_cases c27 : r25 = (-1)
          · rw [if_pos c27] at h
            refine y_icmp_eq_t (tgt := 88) (show decode cX10_readWay 73 = .ok (.if_icmp .eq 15, 3) by decide +kernel) rfl c27 ?_
            refine y_iconst (show decode cX10_readWay 88 = .ok (.iconst 0, 1) by decide +kernel) rfl ?_
            cases h
            exact y_zret (show decode cX10_readWay 89 = .ok (.ireturn, 1) by decide +kernel) rfl (Or.inl rfl)
          · rw [if_neg c27] at h
            refine y_icmp_eq_f (show decode cX10_readWay 73 = .ok (.if_icmp .eq 15, 3) by decide +kernel) c27 (by decide) ?_
            refine y_aload_n (show decode cX10_readWay 76 = .ok (.aload_n 0, 1) by decide +kernel) 2 rfl ?_
            refine y_getf 53 10 0 9 (by decide) rfl (by decide) (by decide) q2_68 (show decode cX10_readWay 77 = .ok (.getfield 9, 3) by decide +kernel) (v := .inr (.inr (1 + 1))) rfl ?_
            refine y_bipush (show decode cX10_readWay 80 = .ok (.bipush 103, 2) by decide +kernel) rfl rfl ?_
            obtain ⟨r29, σ30, e28, h⟩ := bndR_some h
            refine y_callV (np := 1) (st := []) (as := [.inl 103]) 1 8 (sh_cTp_pass e28) q4_33 q4_30 q4_31 q4_32 q1_2 (by decide) rfl (by decide) rfl (by decide) (by decide +kernel) (by decide) rfl (Nat.le_of_ble_eq_true rfl) (show decode cX10_readWay 82 = .ok (.invokevirtual 47, 3) by decide +kernel) rfl ?_
            by_cases c31 : ¬ r29 = 0
            · rw [if_pos c31] at h
              refine y_if_ne_t (tgt := 90) (show decode cX10_readWay 85 = .ok (.ifCond .ne 5, 3) by decide +kernel) rfl c31 ?_
              refine y_aload_n (show decode cX10_readWay 90 = .ok (.aload_n 0, 1) by decide +kernel) 2 rfl ?_
              refine y_getf 53 10 0 9 (by decide) rfl (by decide) (by decide) q2_68 (show decode cX10_readWay 91 = .ok (.getfield 9, 3) by decide +kernel) (v := .inr (.inr (1 + 1))) rfl ?_
              refine y_iconst (show decode cX10_readWay 94 = .ok (.iconst 1, 1) by decide +kernel) rfl ?_
              refine y_sipush (show decode cX10_readWay 95 = .ok (.sipush 999, 3) by decide +kernel) rfl rfl ?_
              obtain ⟨r33, σ34, e32, h⟩ := bndR_some h
              refine y_callV (np := 2) (st := []) (as := [.inl 1, .inl 999]) 1 8 (sh_cTp_passNumber e32) q4_37 q4_34 q4_35 q4_36 q1_2 (by decide) rfl (by decide) rfl (by decide) (by decide +kernel) (by decide) rfl (Nat.le_of_ble_eq_true rfl) (show decode cX10_readWay 98 = .ok (.invokevirtual 129, 3) by decide +kernel) rfl ?_
              refine y_istore_n (show decode cX10_readWay 101 = .ok (.istore_n 3, 1) by decide +kernel) rfl (L1 := [(3, .inl r33), (2, .inl r25), (1, .inl r14), (0, .inr (.inr (53 + 1)))]) rfl ?_
              refine y_iload_n (show decode cX10_readWay 102 = .ok (.iload_n 3, 1) by decide +kernel) 0 rfl ?_
              refine y_iconst (show decode cX10_readWay 103 = .ok (.iconst (-1), 1) by decide +kernel) rfl ?_
              by_cases c35 : ¬ r33 = (-1)
              · rw [if_pos c35] at h
                refine y_icmp_ne_t (tgt := 109) (show decode cX10_readWay 104 = .ok (.if_icmp .ne 5, 3) by decide +kernel) rfl c35 ?_
                refine y_aload_n (show decode cX10_readWay 109 = .ok (.aload_n 0, 1) by decide +kernel) 3 rfl ?_
                obtain ⟨T36, c37, c38, h⟩ := chkT_some h
                refine y_getf 53 10 1 15 (by decide) rfl (by decide) (by decide) q2_69 (show decode cX10_readWay 110 = .ok (.getfield 15, 3) by decide +kernel) (v := .inr (.inr (T36 + 1))) (by rw [← c38]; rfl) ?_
                refine y_iload_n (show decode cX10_readWay 113 = .ok (.iload_n 1, 1) by decide +kernel) 2 rfl ?_
                refine y_iload_n (show decode cX10_readWay 114 = .ok (.iload_n 2, 1) by decide +kernel) 1 rfl ?_
                refine y_iload_n (show decode cX10_readWay 115 = .ok (.iload_n 3, 1) by decide +kernel) 0 rfl ?_
                obtain ⟨σ40, e39, h⟩ := bndO_some h
                refine y_callV (np := 3) (st := []) (as := [.inl r14, .inl r25, .inl r33]) T36 9 (sh_cTw_addWay e39) q4_41 q4_38 q4_39 q4_40 q1_5 (by omega) (by rcases c37 with rfl | rfl <;> rfl) (by decide) rfl (by decide) (by decide +kernel) (by decide) rfl (Nat.le_of_ble_eq_true rfl) (show decode cX10_readWay 116 = .ok (.invokevirtual 133, 3) by decide +kernel) rfl ?_
                refine y_iconst (show decode cX10_readWay 119 = .ok (.iconst 1, 1) by decide +kernel) rfl ?_
                cases h
                exact y_zret (show decode cX10_readWay 120 = .ok (.ireturn, 1) by decide +kernel) rfl (Or.inr rfl)
              · rw [if_neg c35] at h
                refine y_icmp_ne_f (show decode cX10_readWay 104 = .ok (.if_icmp .ne 5, 3) by decide +kernel) c35 (by decide) ?_
                refine y_iconst (show decode cX10_readWay 107 = .ok (.iconst 0, 1) by decide +kernel) rfl ?_
                cases h
                exact y_zret (show decode cX10_readWay 108 = .ok (.ireturn, 1) by decide +kernel) rfl (Or.inl rfl)
            · rw [if_neg c31] at h
              refine y_if_ne_f (show decode cX10_readWay 85 = .ok (.ifCond .ne 5, 3) by decide +kernel) c31 (by decide) ?_
              refine y_iconst (show decode cX10_readWay 88 = .ok (.iconst 0, 1) by decide +kernel) rfl ?_
              cases h
              exact y_zret (show decode cX10_readWay 89 = .ok (.ireturn, 1) by decide +kernel) rfl (Or.inl rfl)
        · rw [if_neg c20] at h
          refine y_if_eq_f (show decode cX10_readWay 51 = .ok (.ifCond .eq 5, 3) by decide +kernel) c20 (by decide) ?_
          refine y_iconst (show decode cX10_readWay 54 = .ok (.iconst 0, 1) by decide +kernel) rfl ?_
          cases h
          exact y_zret (show decode cX10_readWay 55 = .ok (.ireturn, 1) by decide +kernel) rfl (Or.inl rfl)
    · rw [if_neg c9] at h
      refine y_if_ne_f (show decode cX10_readWay 21 = .ok (.ifCond .ne 5, 3) by decide +kernel) c9 (by decide) ?_
      refine y_iconst (show decode cX10_readWay 24 = .ok (.iconst 0, 1) by decide +kernel) rfl ?_
      cases h
      exact y_zret (show decode cX10_readWay 25 = .ok (.ireturn, 1) by decide +kernel) rfl (Or.inl rfl)
  by_cases c41 : (σ T1 15) < 15
  · rw [if_pos c41] at h
    refine y_icmp_lt_t (tgt := 17) (show decode cX10_readWay 10 = .ok (.if_icmp .lt 7, 3) by decide +kernel) rfl c41 ?_
    refine y_iconst (show decode cX10_readWay 17 = .ok (.iconst 0, 1) by decide +kernel) rfl ?_
    refine y_pick [0] rfl ?_
    exact hj5 _ h
  · rw [if_neg c41] at h
    refine y_icmp_lt_f (show decode cX10_readWay 10 = .ok (.if_icmp .lt 7, 3) by decide +kernel) c41 (by decide) ?_
    refine y_iconst (show decode cX10_readWay 13 = .ok (.iconst 1, 1) by decide +kernel) rfl ?_
    refine y_goto (tgt := 18) (show decode cX10_readWay 14 = .ok (.goto 4, 3) by decide +kernel) rfl ?_
    refine y_pick [0] rfl ?_
    exact hj5 _ h
abbrev MX10_readPerson : yM := (yX10_readPerson, cX10_readPerson, 4, some .boolean)
def cRd_readPerson (N : Nat) (σ : ySt) : Option (Int × ySt) :=
  chkT (σ 53 1) fun T1 =>
  bndO (cNm_isFull (T1 + 3) σ) fun r5 =>
  bndR (cRd_startLine N r5 σ) fun r7 σ8 =>
  if r7 = 0 then
    some (0, σ8)
  else
    chkT (σ8 53 1) fun T10 =>
    bndR (cRd_isNew N (T10 + 3) σ8) fun r14 σ15 =>
    if r14 = 0 then
      some (0, σ15)
    else
      chkT (σ15 53 1) fun T17 =>
      bndR (cRd_isNew N (T17 + 5) σ15) fun r21 σ22 =>
      if ¬ r21 = 0 then
        chkT (σ22 53 1) fun T24 =>
        bndR (cNm_add (T24 + 3) (σ22 1 4) σ22) fun r28 σ29 =>
        bndO (cTp_step N σ29) fun σ31 =>
        bndR (cTp_pass N 105 σ31) fun r33 σ34 =>
        bnd (fun (y35 : Int) (σ36 : ySt) =>
          if r28 = (-1) then
            some (0, σ36)
          else
            if y35 = (-1) then
              some (0, σ36)
            else
              bndR (cTp_pass N 106 σ36) fun r41 σ42 =>
              if ¬ r41 = 0 then
                bndR (cTp_passNumber N 0 99 σ42) fun r45 σ46 =>
                if ¬ r45 = (-1) then
                  chkT (σ46 53 1) fun T48 =>
                  chkA 5 r28 <|
                  bnd (yset σ46 (T48 + 8) (r28).toNat y35) fun σ52 =>
                  chkT (σ52 53 1) fun T54 =>
                  chkA 5 r28 <|
                  bnd (yset σ52 (T54 + 9) (r28).toNat r45) fun σ58 =>
                  some (1, σ58)
                else
                  some (0, σ46)
              else
                some (0, σ42)) fun j37 =>
        if r33 = 0 then
          j37 (-1) σ34
        else
          chkT (σ34 53 1) fun T61 =>
          bndR (cTp_passKnown N (T61 + 1) σ34) fun r65 σ66 =>
          j37 r65 σ66
      else
        some (0, σ22)
set_option maxHeartbeats 4000000 in
set_option maxRecDepth 10000 in
theorem sh_cRd_readPerson {E : yE} {N : Nat} {σ : ySt} {ρ : Int} {τ : ySt} (h : cRd_readPerson N σ = some (ρ, τ)) : Con E MX10_readPerson 10 0 0 [.inr (.inr (53 + 1))] 150 (ov σ) (some (.inl ρ)) (ov τ) := by
  unfold cRd_readPerson at h
  refine Con.ofY (by decide +kernel) (by simp [yWords, yCat]) (fun hok _ => ?_)
  show Y E MX10_readPerson (yRm 10 0 0) (yQf E (150 + 0) 0 0 (some (.inl ρ)) (ov τ)) 0 [(0, .inr (.inr (53 + 1)))] [] (ov σ) 150 0 0
  refine y_aload_n (show decode cX10_readPerson 0 = .ok (.aload_n 0, 1) by decide +kernel) 0 rfl ?_
  refine y_aload_n (show decode cX10_readPerson 1 = .ok (.aload_n 0, 1) by decide +kernel) 0 rfl ?_
  obtain ⟨T1, c2, c3, h⟩ := chkT_some h
  refine y_getf 53 10 1 15 (by decide) rfl (by decide) (by decide) q2_69 (show decode cX10_readPerson 2 = .ok (.getfield 15, 3) by decide +kernel) (v := .inr (.inr (T1 + 1))) (by rw [← c3]; rfl) ?_
  refine y_getf T1 9 1 142 (by omega) (by rcases c2 with rfl | rfl <;> rfl) (by decide) (by decide) q1_205 (show decode cX10_readPerson 5 = .ok (.getfield 142, 3) by decide +kernel) (v := .inr (.inr ((T1 + 3) + 1))) (by rcases c2 with rfl | rfl <;> rfl) ?_
  obtain ⟨r5, e4, h⟩ := bndO_some h
  refine y_callV (np := 0) (st := [.inr (.inr (53 + 1))]) (as := []) (T1 + 3) 5 (sh_cNm_isFull e4) q3_227 q3_224 q3_225 q3_226 q1_6 (by omega) (by rcases c2 with rfl | rfl <;> rfl) (by decide) rfl (by decide) (by decide +kernel) (by decide) rfl (Nat.le_of_ble_eq_true rfl) (show decode cX10_readPerson 8 = .ok (.invokevirtual 101, 3) by decide +kernel) rfl ?_
  obtain ⟨r7, σ8, e6, h⟩ := bndR_some h
  refine y_callV (np := 1) (st := []) (as := [.inl r5]) 53 10 (sh_cRd_startLine e6) q3_231 q3_228 q3_230 qs1_7 q1_9 (by decide) rfl (by decide) rfl (by decide) (by decide +kernel) (by decide) rfl (Nat.le_of_ble_eq_true rfl) (show decode cX10_readPerson 11 = .ok (.invokevirtual 104, 3) by decide +kernel) rfl ?_
  by_cases c9 : r7 = 0
  · rw [if_pos c9] at h
    refine y_if_eq_t (tgt := 45) (show decode cX10_readPerson 14 = .ok (.ifCond .eq 31, 3) by decide +kernel) rfl c9 ?_
    refine y_iconst (show decode cX10_readPerson 45 = .ok (.iconst 0, 1) by decide +kernel) rfl ?_
    cases h
    exact y_zret (show decode cX10_readPerson 46 = .ok (.ireturn, 1) by decide +kernel) rfl (Or.inl rfl)
  · rw [if_neg c9] at h
    refine y_if_eq_f (show decode cX10_readPerson 14 = .ok (.ifCond .eq 31, 3) by decide +kernel) c9 (by decide) ?_
    refine y_aload_n (show decode cX10_readPerson 17 = .ok (.aload_n 0, 1) by decide +kernel) 0 rfl ?_
    refine y_aload_n (show decode cX10_readPerson 18 = .ok (.aload_n 0, 1) by decide +kernel) 0 rfl ?_
    obtain ⟨T10, c11, c12, h⟩ := chkT_some h
    refine y_getf 53 10 1 15 (by decide) rfl (by decide) (by decide) q2_69 (show decode cX10_readPerson 19 = .ok (.getfield 15, 3) by decide +kernel) (v := .inr (.inr (T10 + 1))) (by rw [← c12]; rfl) ?_
    refine y_getf T10 9 1 142 (by omega) (by rcases c11 with rfl | rfl <;> rfl) (by decide) (by decide) q1_205 (show decode cX10_readPerson 22 = .ok (.getfield 142, 3) by decide +kernel) (v := .inr (.inr ((T10 + 3) + 1))) (by rcases c11 with rfl | rfl <;> rfl) ?_
    obtain ⟨r14, σ15, e13, h⟩ := bndR_some h
    refine y_callV (np := 1) (st := []) (as := [.inr (.inr ((T10 + 3) + 1))]) 53 10 (sh_cRd_isNew e13) q4_0 q3_237 q3_239 qs1_8 q1_9 (by decide) rfl (by decide) rfl (by decide) (by decide +kernel) (by decide) rfl (Nat.le_of_ble_eq_true rfl) (show decode cX10_readPerson 25 = .ok (.invokevirtual 108, 3) by decide +kernel) rfl ?_
    by_cases c16 : r14 = 0
    · rw [if_pos c16] at h
      refine y_if_eq_t (tgt := 45) (show decode cX10_readPerson 28 = .ok (.ifCond .eq 17, 3) by decide +kernel) rfl c16 ?_
      refine y_iconst (show decode cX10_readPerson 45 = .ok (.iconst 0, 1) by decide +kernel) rfl ?_
      cases h
      exact y_zret (show decode cX10_readPerson 46 = .ok (.ireturn, 1) by decide +kernel) rfl (Or.inl rfl)
    · rw [if_neg c16] at h
      refine y_if_eq_f (show decode cX10_readPerson 28 = .ok (.ifCond .eq 17, 3) by decide +kernel) c16 (by decide) ?_
      refine y_aload_n (show decode cX10_readPerson 31 = .ok (.aload_n 0, 1) by decide +kernel) 0 rfl ?_
      refine y_aload_n (show decode cX10_readPerson 32 = .ok (.aload_n 0, 1) by decide +kernel) 0 rfl ?_
      obtain ⟨T17, c18, c19, h⟩ := chkT_some h
      refine y_getf 53 10 1 15 (by decide) rfl (by decide) (by decide) q2_69 (show decode cX10_readPerson 33 = .ok (.getfield 15, 3) by decide +kernel) (v := .inr (.inr (T17 + 1))) (by rw [← c19]; rfl) ?_
      refine y_getf T17 9 2 145 (by omega) (by rcases c18 with rfl | rfl <;> rfl) (by decide) (by decide) q1_207 (show decode cX10_readPerson 36 = .ok (.getfield 145, 3) by decide +kernel) (v := .inr (.inr ((T17 + 5) + 1))) (by rcases c18 with rfl | rfl <;> rfl) ?_
      obtain ⟨r21, σ22, e20, h⟩ := bndR_some h
      refine y_callV (np := 1) (st := []) (as := [.inr (.inr ((T17 + 5) + 1))]) 53 10 (sh_cRd_isNew e20) q4_0 q3_237 q3_239 qs1_8 q1_9 (by decide) rfl (by decide) rfl (by decide) (by decide +kernel) (by decide) rfl (Nat.le_of_ble_eq_true rfl) (show decode cX10_readPerson 39 = .ok (.invokevirtual 108, 3) by decide +kernel) rfl ?_
      by_cases c23 : ¬ r21 = 0
      · rw [if_pos c23] at h
        refine y_if_ne_t (tgt := 47) (show decode cX10_readPerson 42 = .ok (.ifCond .ne 5, 3) by decide +kernel) rfl c23 ?_
        refine y_aload_n (show decode cX10_readPerson 47 = .ok (.aload_n 0, 1) by decide +kernel) 0 rfl ?_
        obtain ⟨T24, c25, c26, h⟩ := chkT_some h
        refine y_getf 53 10 1 15 (by decide) rfl (by decide) (by decide) q2_69 (show decode cX10_readPerson 48 = .ok (.getfield 15, 3) by decide +kernel) (v := .inr (.inr (T24 + 1))) (by rw [← c26]; rfl) ?_
        refine y_getf T24 9 1 142 (by omega) (by rcases c25 with rfl | rfl <;> rfl) (by decide) (by decide) q1_205 (show decode cX10_readPerson 51 = .ok (.getfield 142, 3) by decide +kernel) (v := .inr (.inr ((T24 + 3) + 1))) (by rcases c25 with rfl | rfl <;> rfl) ?_
        refine y_aload_n (show decode cX10_readPerson 54 = .ok (.aload_n 0, 1) by decide +kernel) 0 rfl ?_
        refine y_getf 53 10 0 9 (by decide) rfl (by decide) (by decide) q2_68 (show decode cX10_readPerson 55 = .ok (.getfield 9, 3) by decide +kernel) (v := .inr (.inr (1 + 1))) rfl ?_
        refine y_getf 1 8 4 87 (by decide) rfl (by decide) (by decide) q1_45 (show decode cX10_readPerson 58 = .ok (.getfield 87, 3) by decide +kernel) (v := .inr (.inl (σ22 1 4))) rfl ?_
        obtain ⟨r28, σ29, e27, h⟩ := bndR_some h
        refine y_callV (np := 1) (st := []) (as := [.inr (.inl (σ22 1 4))]) (T24 + 3) 5 (sh_cNm_add e27) q4_13 q4_10 q4_11 q4_12 q1_6 (by omega) (by rcases c25 with rfl | rfl <;> rfl) (by decide) rfl (by decide) (by decide +kernel) (by decide) rfl (Nat.le_of_ble_eq_true rfl) (show decode cX10_readPerson 61 = .ok (.invokevirtual 112, 3) by decide +kernel) rfl ?_
        refine y_istore_n (show decode cX10_readPerson 64 = .ok (.istore_n 1, 1) by decide +kernel) rfl (L1 := [(1, .inl r28), (0, .inr (.inr (53 + 1)))]) rfl ?_
        refine y_aload_n (show decode cX10_readPerson 65 = .ok (.aload_n 0, 1) by decide +kernel) 1 rfl ?_
        refine y_getf 53 10 0 9 (by decide) rfl (by decide) (by decide) q2_68 (show decode cX10_readPerson 66 = .ok (.getfield 9, 3) by decide +kernel) (v := .inr (.inr (1 + 1))) rfl ?_
        obtain ⟨σ31, e30, h⟩ := bndO_some h
        refine y_callV (np := 0) (st := []) (as := []) 1 8 (sh_cTp_step e30) q3_90 q3_236 q3_88 q3_89 q1_2 (by decide) rfl (by decide) rfl (by decide) (by decide +kernel) (by decide) rfl (Nat.le_of_ble_eq_true rfl) (show decode cX10_readPerson 69 = .ok (.invokevirtual 84, 3) by decide +kernel) rfl ?_
        refine y_aload_n (show decode cX10_readPerson 72 = .ok (.aload_n 0, 1) by decide +kernel) 1 rfl ?_
        refine y_getf 53 10 0 9 (by decide) rfl (by decide) (by decide) q2_68 (show decode cX10_readPerson 73 = .ok (.getfield 9, 3) by decide +kernel) (v := .inr (.inr (1 + 1))) rfl ?_
        refine y_bipush (show decode cX10_readPerson 76 = .ok (.bipush 105, 2) by decide +kernel) rfl rfl ?_
        obtain ⟨r33, σ34, e32, h⟩ := bndR_some h
        refine y_callV (np := 1) (st := []) (as := [.inl 105]) 1 8 (sh_cTp_pass e32) q4_33 q4_30 q4_31 q4_32 q1_2 (by decide) rfl (by decide) rfl (by decide) (by decide +kernel) (by decide) rfl (Nat.le_of_ble_eq_true rfl) (show decode cX10_readPerson 78 = .ok (.invokevirtual 47, 3) by decide +kernel) rfl ?_
        refine bnd_j (Q := fun j37 => ∀ (y35 : Int) (σ36 : ySt), j37 y35 σ36 = some (ρ, τ) → Y E MX10_readPerson (yRm 10 0 0) (yQf E (150 + 0) 0 0 (some (.inl ρ)) (ov τ)) 102 [(0, .inr (.inr (53 + 1))), (1, .inl r28)] [.inl y35] (ov σ36) 150 0 0) (fun y35 σ36 h => ?_) (fun j37 hj37 h => ?_) h
        · dsimp only at h
          refine y_istore_n (show decode cX10_readPerson 102 = .ok (.istore_n 2, 1) by decide +kernel) rfl (L1 := [(2, .inl y35), (0, .inr (.inr (53 + 1))), (1, .inl r28)]) rfl ?_
          refine y_iload_n (show decode cX10_readPerson 103 = .ok (.iload_n 1, 1) by decide +kernel) 2 rfl ?_
          refine y_iconst (show decode cX10_readPerson 104 = .ok (.iconst (-1), 1) by decide +kernel) rfl ?_
          by_cases c38 : r28 = (-1)
          · rw [if_pos c38] at h
            refine y_icmp_eq_t (tgt := 125) (show decode cX10_readPerson 105 = .ok (.if_icmp .eq 20, 3) by decide +kernel) rfl c38 ?_
            refine y_iconst (show decode cX10_readPerson 125 = .ok (.iconst 0, 1) by decide +kernel) rfl ?_
            cases h
            exact y_zret (show decode cX10_readPerson 126 = .ok (.ireturn, 1) by decide +kernel) rfl (Or.inl rfl)
          · rw [if_neg c38] at h
            refine y_icmp_eq_f (show decode cX10_readPerson 105 = .ok (.if_icmp .eq 20, 3) by decide +kernel) c38 (by decide) ?_
            refine y_iload_n (show decode cX10_readPerson 108 = .ok (.iload_n 2, 1) by decide +kernel) 0 rfl ?_
            refine y_iconst (show decode cX10_readPerson 109 = .ok (.iconst (-1), 1) by decide +kernel) rfl ?_
            by_cases c39 : y35 = (-1)
            · rw [if_pos c39] at h
              refine y_icmp_eq_t (tgt := 125) (show decode cX10_readPerson 110 = .ok (.if_icmp .eq 15, 3) by decide +kernel) rfl c39 ?_
              refine y_iconst (show decode cX10_readPerson 125 = .ok (.iconst 0, 1) by decide +kernel) rfl ?_
              cases h
              exact y_zret (show decode cX10_readPerson 126 = .ok (.ireturn, 1) by decide +kernel) rfl (Or.inl rfl)
            · rw [if_neg c39] at h
              refine y_icmp_eq_f (show decode cX10_readPerson 110 = .ok (.if_icmp .eq 15, 3) by decide +kernel) c39 (by decide) ?_
              refine y_aload_n (show decode cX10_readPerson 113 = .ok (.aload_n 0, 1) by decide +kernel) 1 rfl ?_
              refine y_getf 53 10 0 9 (by decide) rfl (by decide) (by decide) q2_68 (show decode cX10_readPerson 114 = .ok (.getfield 9, 3) by decide +kernel) (v := .inr (.inr (1 + 1))) rfl ?_
              refine y_bipush (show decode cX10_readPerson 117 = .ok (.bipush 106, 2) by decide +kernel) rfl rfl ?_
              obtain ⟨r41, σ42, e40, h⟩ := bndR_some h
              refine y_callV (np := 1) (st := []) (as := [.inl 106]) 1 8 (sh_cTp_pass e40) q4_33 q4_30 q4_31 q4_32 q1_2 (by decide) rfl (by decide) rfl (by decide) (by decide +kernel) (by decide) rfl (Nat.le_of_ble_eq_true rfl) (show decode cX10_readPerson 119 = .ok (.invokevirtual 47, 3) by decide +kernel) rfl ?_
              by_cases c43 : ¬ r41 = 0
              · rw [if_pos c43] at h
                refine y_if_ne_t (tgt := 127) (show decode cX10_readPerson 122 = .ok (.ifCond .ne 5, 3) by decide +kernel) rfl c43 ?_
                refine y_aload_n (show decode cX10_readPerson 127 = .ok (.aload_n 0, 1) by decide +kernel) 1 rfl ?_
                refine y_getf 53 10 0 9 (by decide) rfl (by decide) (by decide) q2_68 (show decode cX10_readPerson 128 = .ok (.getfield 9, 3) by decide +kernel) (v := .inr (.inr (1 + 1))) rfl ?_
                refine y_iconst (show decode cX10_readPerson 131 = .ok (.iconst 0, 1) by decide +kernel) rfl ?_
                refine y_bipush (show decode cX10_readPerson 132 = .ok (.bipush 99, 2) by decide +kernel) rfl rfl ?_
                obtain ⟨r45, σ46, e44, h⟩ := bndR_some h
                refine y_callV (np := 2) (st := []) (as := [.inl 0, .inl 99]) 1 8 (sh_cTp_passNumber e44) q4_37 q4_34 q4_35 q4_36 q1_2 (by decide) rfl (by decide) rfl (by decide) (by decide +kernel) (by decide) rfl (Nat.le_of_ble_eq_true rfl) (show decode cX10_readPerson 134 = .ok (.invokevirtual 129, 3) by decide +kernel) rfl ?_
                refine y_istore_n (show decode cX10_readPerson 137 = .ok (.istore_n 3, 1) by decide +kernel) rfl (L1 := [(3, .inl r45), (2, .inl y35), (0, .inr (.inr (53 + 1))), (1, .inl r28)]) rfl ?_
                refine y_iload_n (show decode cX10_readPerson 138 = .ok (.iload_n 3, 1) by decide +kernel) 0 rfl ?_
                refine y_iconst (show decode cX10_readPerson 139 = .ok (.iconst (-1), 1) by decide +kernel) rfl ?_
                by_cases c47 : ¬ r45 = (-1)
                · rw [if_pos c47] at h
                  refine y_icmp_ne_t (tgt := 145) (show decode cX10_readPerson 140 = .ok (.if_icmp .ne 5, 3) by decide +kernel) rfl c47 ?_
                  refine y_aload_n (show decode cX10_readPerson 145 = .ok (.aload_n 0, 1) by decide +kernel) 2 rfl ?_
                  obtain ⟨T48, c49, c50, h⟩ := chkT_some h
                  refine y_getf 53 10 1 15 (by decide) rfl (by decide) (by decide) q2_69 (show decode cX10_readPerson 146 = .ok (.getfield 15, 3) by decide +kernel) (v := .inr (.inr (T48 + 1))) (by rw [← c50]; rfl) ?_
                  refine y_getf T48 9 4 148 (by omega) (by rcases c49 with rfl | rfl <;> rfl) (by decide) (by decide) q1_216 (show decode cX10_readPerson 149 = .ok (.getfield 148, 3) by decide +kernel) (v := .inr (.inr ((T48 + 8) + 1))) (by rcases c49 with rfl | rfl <;> rfl) ?_
                  refine y_iload_n (show decode cX10_readPerson 152 = .ok (.iload_n 1, 1) by decide +kernel) 3 rfl ?_
                  refine y_iload_n (show decode cX10_readPerson 153 = .ok (.iload_n 2, 1) by decide +kernel) 1 rfl ?_
                  obtain ⟨c51, h⟩ := chkA_some h
                  obtain ⟨σ52, e53, h⟩ := bnd_i h
                  refine yo_iast (T48 + 8) 5 (by omega) (by rcases c49 with rfl | rfl <;> rfl) c51 (ov_set1 e53 (by rcases c49 with rfl | rfl <;> rfl)) (show decode cX10_readPerson 154 = .ok (.iastore, 1) by decide +kernel) ?_
                  refine y_aload_n (show decode cX10_readPerson 155 = .ok (.aload_n 0, 1) by decide +kernel) 2 rfl ?_
                  obtain ⟨T54, c55, c56, h⟩ := chkT_some h
                  refine y_getf 53 10 1 15 (by decide) rfl (by decide) (by decide) q2_69 (show decode cX10_readPerson 156 = .ok (.getfield 15, 3) by decide +kernel) (v := .inr (.inr (T54 + 1))) (by rw [← c56]; rfl) ?_
                  refine y_getf T54 9 5 151 (by omega) (by rcases c55 with rfl | rfl <;> rfl) (by decide) (by decide) q1_219 (show decode cX10_readPerson 159 = .ok (.getfield 151, 3) by decide +kernel) (v := .inr (.inr ((T54 + 9) + 1))) (by rcases c55 with rfl | rfl <;> rfl) ?_
                  refine y_iload_n (show decode cX10_readPerson 162 = .ok (.iload_n 1, 1) by decide +kernel) 3 rfl ?_
                  refine y_iload_n (show decode cX10_readPerson 163 = .ok (.iload_n 3, 1) by decide +kernel) 0 rfl ?_
                  obtain ⟨c57, h⟩ := chkA_some h
                  obtain ⟨σ58, e59, h⟩ := bnd_i h
                  refine yo_iast (T54 + 9) 5 (by omega) (by rcases c55 with rfl | rfl <;> rfl) c57 (ov_set1 e59 (by rcases c55 with rfl | rfl <;> rfl)) (show decode cX10_readPerson 164 = .ok (.iastore, 1) by decide +kernel) ?_
                  refine y_iconst (show decode cX10_readPerson 165 = .ok (.iconst 1, 1) by decide +kernel) rfl ?_
                  cases h
                  exact y_zret (show decode cX10_readPerson 166 = .ok (.ireturn, 1) by decide +kernel) rfl (Or.inr rfl)
                · rw [if_neg c47] at h
                  refine y_icmp_ne_f (show decode cX10_readPerson 140 = .ok (.if_icmp .ne 5, 3) by decide +kernel) c47 (by decide) ?_
                  refine y_iconst (show decode cX10_readPerson 143 = .ok (.iconst 0, 1) by decide +kernel) rfl ?_
                  cases h
                  exact y_zret (show decode cX10_readPerson 144 = .ok (.ireturn, 1) by decide +kernel) rfl (Or.inl rfl)
              · rw [if_neg c43] at h
                refine y_if_ne_f (show decode cX10_readPerson 122 = .ok (.ifCond .ne 5, 3) by decide +kernel) c43 (by decide) ?_
                refine y_iconst (show decode cX10_readPerson 125 = .ok (.iconst 0, 1) by decide +kernel) rfl ?_
                cases h
                exact y_zret (show decode cX10_readPerson 126 = .ok (.ireturn, 1) by decide +kernel) rfl (Or.inl rfl)
        by_cases c60 : r33 = 0
        · rw [if_pos c60] at h
          refine y_if_eq_t (tgt := 101) (show decode cX10_readPerson 81 = .ok (.ifCond .eq 20, 3) by decide +kernel) rfl c60 ?_
          refine y_iconst (show decode cX10_readPerson 101 = .ok (.iconst (-1), 1) by decide +kernel) rfl ?_
          refine y_pick [1, 0] rfl ?_
          exact hj37 _ _ h
        · rw [if_neg c60] at h
          refine y_if_eq_f (show decode cX10_readPerson 81 = .ok (.ifCond .eq 20, 3) by decide +kernel) c60 (by decide) ?_
          refine y_aload_n (show decode cX10_readPerson 84 = .ok (.aload_n 0, 1) by decide +kernel) 1 rfl ?_
          refine y_getf 53 10 0 9 (by decide) rfl (by decide) (by decide) q2_68 (show decode cX10_readPerson 85 = .ok (.getfield 9, 3) by decide +kernel) (v := .inr (.inr (1 + 1))) rfl ?_
          refine y_aload_n (show decode cX10_readPerson 88 = .ok (.aload_n 0, 1) by decide +kernel) 1 rfl ?_
          obtain ⟨T61, c62, c63, h⟩ := chkT_some h
          refine y_getf 53 10 1 15 (by decide) rfl (by decide) (by decide) q2_69 (show decode cX10_readPerson 89 = .ok (.getfield 15, 3) by decide +kernel) (v := .inr (.inr (T61 + 1))) (by rw [← c63]; rfl) ?_
          refine y_getf T61 9 0 97 (by omega) (by rcases c62 with rfl | rfl <;> rfl) (by decide) (by decide) q1_197 (show decode cX10_readPerson 92 = .ok (.getfield 97, 3) by decide +kernel) (v := .inr (.inr ((T61 + 1) + 1))) (by rcases c62 with rfl | rfl <;> rfl) ?_
          obtain ⟨r65, σ66, e64, h⟩ := bndR_some h
          refine y_callV (np := 1) (st := []) (as := [.inr (.inr ((T61 + 1) + 1))]) 1 8 (sh_cTp_passKnown e64) q4_22 q4_19 q4_20 q4_21 q1_2 (by decide) rfl (by decide) rfl (by decide) (by decide +kernel) (by decide) rfl (Nat.le_of_ble_eq_true rfl) (show decode cX10_readPerson 95 = .ok (.invokevirtual 122, 3) by decide +kernel) rfl ?_
          refine y_goto (tgt := 102) (show decode cX10_readPerson 98 = .ok (.goto 4, 3) by decide +kernel) rfl ?_
          refine y_pick [1, 0] rfl ?_
          exact hj37 _ _ h
      · rw [if_neg c23] at h
        refine y_if_ne_f (show decode cX10_readPerson 42 = .ok (.ifCond .ne 5, 3) by decide +kernel) c23 (by decide) ?_
        refine y_iconst (show decode cX10_readPerson 45 = .ok (.iconst 0, 1) by decide +kernel) rfl ?_
        cases h
        exact y_zret (show decode cX10_readPerson 46 = .ok (.ireturn, 1) by decide +kernel) rfl (Or.inl rfl)
abbrev MX10_readDog : yM := (yX10_readDog, cX10_readDog, 3, some .boolean)
def cRd_readDog (N : Nat) (σ : ySt) : Option (Int × ySt) :=
  chkT (σ 53 1) fun T1 =>
  bndO (cNm_isFull (T1 + 5) σ) fun r5 =>
  bndR (cRd_startLine N r5 σ) fun r7 σ8 =>
  if r7 = 0 then
    some (0, σ8)
  else
    chkT (σ8 53 1) fun T10 =>
    bndR (cRd_isNew N (T10 + 3) σ8) fun r14 σ15 =>
    if r14 = 0 then
      some (0, σ15)
    else
      chkT (σ15 53 1) fun T17 =>
      bndR (cRd_isNew N (T17 + 5) σ15) fun r21 σ22 =>
      if ¬ r21 = 0 then
        chkT (σ22 53 1) fun T24 =>
        bndR (cNm_add (T24 + 5) (σ22 1 4) σ22) fun r28 σ29 =>
        bndO (cTp_step N σ29) fun σ31 =>
        bndR (cTp_pass N 105 σ31) fun r33 σ34 =>
        bnd (fun (y35 : Int) (σ36 : ySt) =>
          if r28 = (-1) then
            some (0, σ36)
          else
            if ¬ y35 = (-1) then
              chkT (σ36 53 1) fun T40 =>
              chkA 3 r28 <|
              bnd (yset σ36 (T40 + 10) (r28).toNat y35) fun σ44 =>
              some (1, σ44)
            else
              some (0, σ36)) fun j37 =>
        if r33 = 0 then
          j37 (-1) σ34
        else
          chkT (σ34 53 1) fun T47 =>
          bndR (cTp_passKnown N (T47 + 1) σ34) fun r51 σ52 =>
          j37 r51 σ52
      else
        some (0, σ22)
set_option maxHeartbeats 4000000 in
set_option maxRecDepth 10000 in
theorem sh_cRd_readDog {E : yE} {N : Nat} {σ : ySt} {ρ : Int} {τ : ySt} (h : cRd_readDog N σ = some (ρ, τ)) : Con E MX10_readDog 10 0 0 [.inr (.inr (53 + 1))] 150 (ov σ) (some (.inl ρ)) (ov τ) := by
  unfold cRd_readDog at h
  refine Con.ofY (by decide +kernel) (by simp [yWords, yCat]) (fun hok _ => ?_)
  show Y E MX10_readDog (yRm 10 0 0) (yQf E (150 + 0) 0 0 (some (.inl ρ)) (ov τ)) 0 [(0, .inr (.inr (53 + 1)))] [] (ov σ) 150 0 0
  refine y_aload_n (show decode cX10_readDog 0 = .ok (.aload_n 0, 1) by decide +kernel) 0 rfl ?_
  refine y_aload_n (show decode cX10_readDog 1 = .ok (.aload_n 0, 1) by decide +kernel) 0 rfl ?_
  obtain ⟨T1, c2, c3, h⟩ := chkT_some h
  refine y_getf 53 10 1 15 (by decide) rfl (by decide) (by decide) q2_69 (show decode cX10_readDog 2 = .ok (.getfield 15, 3) by decide +kernel) (v := .inr (.inr (T1 + 1))) (by rw [← c3]; rfl) ?_
  refine y_getf T1 9 2 145 (by omega) (by rcases c2 with rfl | rfl <;> rfl) (by decide) (by decide) q1_207 (show decode cX10_readDog 5 = .ok (.getfield 145, 3) by decide +kernel) (v := .inr (.inr ((T1 + 5) + 1))) (by rcases c2 with rfl | rfl <;> rfl) ?_
  obtain ⟨r5, e4, h⟩ := bndO_some h
  refine y_callV (np := 0) (st := [.inr (.inr (53 + 1))]) (as := []) (T1 + 5) 5 (sh_cNm_isFull e4) q3_227 q3_224 q3_225 q3_226 q1_6 (by omega) (by rcases c2 with rfl | rfl <;> rfl) (by decide) rfl (by decide) (by decide +kernel) (by decide) rfl (Nat.le_of_ble_eq_true rfl) (show decode cX10_readDog 8 = .ok (.invokevirtual 101, 3) by decide +kernel) rfl ?_
  obtain ⟨r7, σ8, e6, h⟩ := bndR_some h
  refine y_callV (np := 1) (st := []) (as := [.inl r5]) 53 10 (sh_cRd_startLine e6) q3_231 q3_228 q3_230 qs1_7 q1_9 (by decide) rfl (by decide) rfl (by decide) (by decide +kernel) (by decide) rfl (Nat.le_of_ble_eq_true rfl) (show decode cX10_readDog 11 = .ok (.invokevirtual 104, 3) by decide +kernel) rfl ?_
  by_cases c9 : r7 = 0
  · rw [if_pos c9] at h
    refine y_if_eq_t (tgt := 45) (show decode cX10_readDog 14 = .ok (.ifCond .eq 31, 3) by decide +kernel) rfl c9 ?_
    refine y_iconst (show decode cX10_readDog 45 = .ok (.iconst 0, 1) by decide +kernel) rfl ?_
    cases h
    exact y_zret (show decode cX10_readDog 46 = .ok (.ireturn, 1) by decide +kernel) rfl (Or.inl rfl)
  · rw [if_neg c9] at h
    refine y_if_eq_f (show decode cX10_readDog 14 = .ok (.ifCond .eq 31, 3) by decide +kernel) c9 (by decide) ?_
    refine y_aload_n (show decode cX10_readDog 17 = .ok (.aload_n 0, 1) by decide +kernel) 0 rfl ?_
    refine y_aload_n (show decode cX10_readDog 18 = .ok (.aload_n 0, 1) by decide +kernel) 0 rfl ?_
    obtain ⟨T10, c11, c12, h⟩ := chkT_some h
    refine y_getf 53 10 1 15 (by decide) rfl (by decide) (by decide) q2_69 (show decode cX10_readDog 19 = .ok (.getfield 15, 3) by decide +kernel) (v := .inr (.inr (T10 + 1))) (by rw [← c12]; rfl) ?_
    refine y_getf T10 9 1 142 (by omega) (by rcases c11 with rfl | rfl <;> rfl) (by decide) (by decide) q1_205 (show decode cX10_readDog 22 = .ok (.getfield 142, 3) by decide +kernel) (v := .inr (.inr ((T10 + 3) + 1))) (by rcases c11 with rfl | rfl <;> rfl) ?_
    obtain ⟨r14, σ15, e13, h⟩ := bndR_some h
    refine y_callV (np := 1) (st := []) (as := [.inr (.inr ((T10 + 3) + 1))]) 53 10 (sh_cRd_isNew e13) q4_0 q3_237 q3_239 qs1_8 q1_9 (by decide) rfl (by decide) rfl (by decide) (by decide +kernel) (by decide) rfl (Nat.le_of_ble_eq_true rfl) (show decode cX10_readDog 25 = .ok (.invokevirtual 108, 3) by decide +kernel) rfl ?_
    by_cases c16 : r14 = 0
    · rw [if_pos c16] at h
      refine y_if_eq_t (tgt := 45) (show decode cX10_readDog 28 = .ok (.ifCond .eq 17, 3) by decide +kernel) rfl c16 ?_
      refine y_iconst (show decode cX10_readDog 45 = .ok (.iconst 0, 1) by decide +kernel) rfl ?_
      cases h
      exact y_zret (show decode cX10_readDog 46 = .ok (.ireturn, 1) by decide +kernel) rfl (Or.inl rfl)
    · rw [if_neg c16] at h
      refine y_if_eq_f (show decode cX10_readDog 28 = .ok (.ifCond .eq 17, 3) by decide +kernel) c16 (by decide) ?_
      refine y_aload_n (show decode cX10_readDog 31 = .ok (.aload_n 0, 1) by decide +kernel) 0 rfl ?_
      refine y_aload_n (show decode cX10_readDog 32 = .ok (.aload_n 0, 1) by decide +kernel) 0 rfl ?_
      obtain ⟨T17, c18, c19, h⟩ := chkT_some h
      refine y_getf 53 10 1 15 (by decide) rfl (by decide) (by decide) q2_69 (show decode cX10_readDog 33 = .ok (.getfield 15, 3) by decide +kernel) (v := .inr (.inr (T17 + 1))) (by rw [← c19]; rfl) ?_
      refine y_getf T17 9 2 145 (by omega) (by rcases c18 with rfl | rfl <;> rfl) (by decide) (by decide) q1_207 (show decode cX10_readDog 36 = .ok (.getfield 145, 3) by decide +kernel) (v := .inr (.inr ((T17 + 5) + 1))) (by rcases c18 with rfl | rfl <;> rfl) ?_
      obtain ⟨r21, σ22, e20, h⟩ := bndR_some h
      refine y_callV (np := 1) (st := []) (as := [.inr (.inr ((T17 + 5) + 1))]) 53 10 (sh_cRd_isNew e20) q4_0 q3_237 q3_239 qs1_8 q1_9 (by decide) rfl (by decide) rfl (by decide) (by decide +kernel) (by decide) rfl (Nat.le_of_ble_eq_true rfl) (show decode cX10_readDog 39 = .ok (.invokevirtual 108, 3) by decide +kernel) rfl ?_
      by_cases c23 : ¬ r21 = 0
      · rw [if_pos c23] at h
        refine y_if_ne_t (tgt := 47) (show decode cX10_readDog 42 = .ok (.ifCond .ne 5, 3) by decide +kernel) rfl c23 ?_
        refine y_aload_n (show decode cX10_readDog 47 = .ok (.aload_n 0, 1) by decide +kernel) 0 rfl ?_
        obtain ⟨T24, c25, c26, h⟩ := chkT_some h
        refine y_getf 53 10 1 15 (by decide) rfl (by decide) (by decide) q2_69 (show decode cX10_readDog 48 = .ok (.getfield 15, 3) by decide +kernel) (v := .inr (.inr (T24 + 1))) (by rw [← c26]; rfl) ?_
        refine y_getf T24 9 2 145 (by omega) (by rcases c25 with rfl | rfl <;> rfl) (by decide) (by decide) q1_207 (show decode cX10_readDog 51 = .ok (.getfield 145, 3) by decide +kernel) (v := .inr (.inr ((T24 + 5) + 1))) (by rcases c25 with rfl | rfl <;> rfl) ?_
        refine y_aload_n (show decode cX10_readDog 54 = .ok (.aload_n 0, 1) by decide +kernel) 0 rfl ?_
        refine y_getf 53 10 0 9 (by decide) rfl (by decide) (by decide) q2_68 (show decode cX10_readDog 55 = .ok (.getfield 9, 3) by decide +kernel) (v := .inr (.inr (1 + 1))) rfl ?_
        refine y_getf 1 8 4 87 (by decide) rfl (by decide) (by decide) q1_45 (show decode cX10_readDog 58 = .ok (.getfield 87, 3) by decide +kernel) (v := .inr (.inl (σ22 1 4))) rfl ?_
        obtain ⟨r28, σ29, e27, h⟩ := bndR_some h
        refine y_callV (np := 1) (st := []) (as := [.inr (.inl (σ22 1 4))]) (T24 + 5) 5 (sh_cNm_add e27) q4_13 q4_10 q4_11 q4_12 q1_6 (by omega) (by rcases c25 with rfl | rfl <;> rfl) (by decide) rfl (by decide) (by decide +kernel) (by decide) rfl (Nat.le_of_ble_eq_true rfl) (show decode cX10_readDog 61 = .ok (.invokevirtual 112, 3) by decide +kernel) rfl ?_
        refine y_istore_n (show decode cX10_readDog 64 = .ok (.istore_n 1, 1) by decide +kernel) rfl (L1 := [(1, .inl r28), (0, .inr (.inr (53 + 1)))]) rfl ?_
        refine y_aload_n (show decode cX10_readDog 65 = .ok (.aload_n 0, 1) by decide +kernel) 1 rfl ?_
        refine y_getf 53 10 0 9 (by decide) rfl (by decide) (by decide) q2_68 (show decode cX10_readDog 66 = .ok (.getfield 9, 3) by decide +kernel) (v := .inr (.inr (1 + 1))) rfl ?_
        obtain ⟨σ31, e30, h⟩ := bndO_some h
        refine y_callV (np := 0) (st := []) (as := []) 1 8 (sh_cTp_step e30) q3_90 q3_236 q3_88 q3_89 q1_2 (by decide) rfl (by decide) rfl (by decide) (by decide +kernel) (by decide) rfl (Nat.le_of_ble_eq_true rfl) (show decode cX10_readDog 69 = .ok (.invokevirtual 84, 3) by decide +kernel) rfl ?_
        refine y_aload_n (show decode cX10_readDog 72 = .ok (.aload_n 0, 1) by decide +kernel) 1 rfl ?_
        refine y_getf 53 10 0 9 (by decide) rfl (by decide) (by decide) q2_68 (show decode cX10_readDog 73 = .ok (.getfield 9, 3) by decide +kernel) (v := .inr (.inr (1 + 1))) rfl ?_
        refine y_bipush (show decode cX10_readDog 76 = .ok (.bipush 105, 2) by decide +kernel) rfl rfl ?_
        obtain ⟨r33, σ34, e32, h⟩ := bndR_some h
        refine y_callV (np := 1) (st := []) (as := [.inl 105]) 1 8 (sh_cTp_pass e32) q4_33 q4_30 q4_31 q4_32 q1_2 (by decide) rfl (by decide) rfl (by decide) (by decide +kernel) (by decide) rfl (Nat.le_of_ble_eq_true rfl) (show decode cX10_readDog 78 = .ok (.invokevirtual 47, 3) by decide +kernel) rfl ?_
        refine bnd_j (Q := fun j37 => ∀ (y35 : Int) (σ36 : ySt), j37 y35 σ36 = some (ρ, τ) → Y E MX10_readDog (yRm 10 0 0) (yQf E (150 + 0) 0 0 (some (.inl ρ)) (ov τ)) 102 [(0, .inr (.inr (53 + 1))), (1, .inl r28)] [.inl y35] (ov σ36) 150 0 0) (fun y35 σ36 h => ?_) (fun j37 hj37 h => ?_) h
        · dsimp only at h
          refine y_istore_n (show decode cX10_readDog 102 = .ok (.istore_n 2, 1) by decide +kernel) rfl (L1 := [(2, .inl y35), (0, .inr (.inr (53 + 1))), (1, .inl r28)]) rfl ?_
          refine y_iload_n (show decode cX10_readDog 103 = .ok (.iload_n 1, 1) by decide +kernel) 2 rfl ?_
          refine y_iconst (show decode cX10_readDog 104 = .ok (.iconst (-1), 1) by decide +kernel) rfl ?_
          by_cases c38 : r28 = (-1)
          · rw [if_pos c38] at h
            refine y_icmp_eq_t (tgt := 113) (show decode cX10_readDog 105 = .ok (.if_icmp .eq 8, 3) by decide +kernel) rfl c38 ?_
            refine y_iconst (show decode cX10_readDog 113 = .ok (.iconst 0, 1) by decide +kernel) rfl ?_
            cases h
            exact y_zret (show decode cX10_readDog 114 = .ok (.ireturn, 1) by decide +kernel) rfl (Or.inl rfl)
          · rw [if_neg c38] at h
            refine y_icmp_eq_f (show decode cX10_readDog 105 = .ok (.if_icmp .eq 8, 3) by decide +kernel) c38 (by decide) ?_
            refine y_iload_n (show decode cX10_readDog 108 = .ok (.iload_n 2, 1) by decide +kernel) 0 rfl ?_
            refine y_iconst (show decode cX10_readDog 109 = .ok (.iconst (-1), 1) by decide +kernel) rfl ?_
            by_cases c39 : ¬ y35 = (-1)
            · rw [if_pos c39] at h
              refine y_icmp_ne_t (tgt := 115) (show decode cX10_readDog 110 = .ok (.if_icmp .ne 5, 3) by decide +kernel) rfl c39 ?_
              refine y_aload_n (show decode cX10_readDog 115 = .ok (.aload_n 0, 1) by decide +kernel) 1 rfl ?_
              obtain ⟨T40, c41, c42, h⟩ := chkT_some h
              refine y_getf 53 10 1 15 (by decide) rfl (by decide) (by decide) q2_69 (show decode cX10_readDog 116 = .ok (.getfield 15, 3) by decide +kernel) (v := .inr (.inr (T40 + 1))) (by rw [← c42]; rfl) ?_
              refine y_getf T40 9 6 154 (by omega) (by rcases c41 with rfl | rfl <;> rfl) (by decide) (by decide) q1_221 (show decode cX10_readDog 119 = .ok (.getfield 154, 3) by decide +kernel) (v := .inr (.inr ((T40 + 10) + 1))) (by rcases c41 with rfl | rfl <;> rfl) ?_
              refine y_iload_n (show decode cX10_readDog 122 = .ok (.iload_n 1, 1) by decide +kernel) 2 rfl ?_
              refine y_iload_n (show decode cX10_readDog 123 = .ok (.iload_n 2, 1) by decide +kernel) 0 rfl ?_
              obtain ⟨c43, h⟩ := chkA_some h
              obtain ⟨σ44, e45, h⟩ := bnd_i h
              refine yo_iast (T40 + 10) 3 (by omega) (by rcases c41 with rfl | rfl <;> rfl) c43 (ov_set1 e45 (by rcases c41 with rfl | rfl <;> rfl)) (show decode cX10_readDog 124 = .ok (.iastore, 1) by decide +kernel) ?_
              refine y_iconst (show decode cX10_readDog 125 = .ok (.iconst 1, 1) by decide +kernel) rfl ?_
              cases h
              exact y_zret (show decode cX10_readDog 126 = .ok (.ireturn, 1) by decide +kernel) rfl (Or.inr rfl)
            · rw [if_neg c39] at h
              refine y_icmp_ne_f (show decode cX10_readDog 110 = .ok (.if_icmp .ne 5, 3) by decide +kernel) c39 (by decide) ?_
              refine y_iconst (show decode cX10_readDog 113 = .ok (.iconst 0, 1) by decide +kernel) rfl ?_
              cases h
              exact y_zret (show decode cX10_readDog 114 = .ok (.ireturn, 1) by decide +kernel) rfl (Or.inl rfl)
        by_cases c46 : r33 = 0
        · rw [if_pos c46] at h
          refine y_if_eq_t (tgt := 101) (show decode cX10_readDog 81 = .ok (.ifCond .eq 20, 3) by decide +kernel) rfl c46 ?_
          refine y_iconst (show decode cX10_readDog 101 = .ok (.iconst (-1), 1) by decide +kernel) rfl ?_
          refine y_pick [1, 0] rfl ?_
          exact hj37 _ _ h
        · rw [if_neg c46] at h
          refine y_if_eq_f (show decode cX10_readDog 81 = .ok (.ifCond .eq 20, 3) by decide +kernel) c46 (by decide) ?_
          refine y_aload_n (show decode cX10_readDog 84 = .ok (.aload_n 0, 1) by decide +kernel) 1 rfl ?_
          refine y_getf 53 10 0 9 (by decide) rfl (by decide) (by decide) q2_68 (show decode cX10_readDog 85 = .ok (.getfield 9, 3) by decide +kernel) (v := .inr (.inr (1 + 1))) rfl ?_
          refine y_aload_n (show decode cX10_readDog 88 = .ok (.aload_n 0, 1) by decide +kernel) 1 rfl ?_
          obtain ⟨T47, c48, c49, h⟩ := chkT_some h
          refine y_getf 53 10 1 15 (by decide) rfl (by decide) (by decide) q2_69 (show decode cX10_readDog 89 = .ok (.getfield 15, 3) by decide +kernel) (v := .inr (.inr (T47 + 1))) (by rw [← c49]; rfl) ?_
          refine y_getf T47 9 0 97 (by omega) (by rcases c48 with rfl | rfl <;> rfl) (by decide) (by decide) q1_197 (show decode cX10_readDog 92 = .ok (.getfield 97, 3) by decide +kernel) (v := .inr (.inr ((T47 + 1) + 1))) (by rcases c48 with rfl | rfl <;> rfl) ?_
          obtain ⟨r51, σ52, e50, h⟩ := bndR_some h
          refine y_callV (np := 1) (st := []) (as := [.inr (.inr ((T47 + 1) + 1))]) 1 8 (sh_cTp_passKnown e50) q4_22 q4_19 q4_20 q4_21 q1_2 (by decide) rfl (by decide) rfl (by decide) (by decide +kernel) (by decide) rfl (Nat.le_of_ble_eq_true rfl) (show decode cX10_readDog 95 = .ok (.invokevirtual 122, 3) by decide +kernel) rfl ?_
          refine y_goto (tgt := 102) (show decode cX10_readDog 98 = .ok (.goto 4, 3) by decide +kernel) rfl ?_
          refine y_pick [1, 0] rfl ?_
          exact hj37 _ _ h
      · rw [if_neg c23] at h
        refine y_if_ne_f (show decode cX10_readDog 42 = .ok (.ifCond .ne 5, 3) by decide +kernel) c23 (by decide) ?_
        refine y_iconst (show decode cX10_readDog 45 = .ok (.iconst 0, 1) by decide +kernel) rfl ?_
        cases h
        exact y_zret (show decode cX10_readDog 46 = .ok (.ireturn, 1) by decide +kernel) rfl (Or.inl rfl)
abbrev MX10_readErrand : yM := (yX10_readErrand, cX10_readErrand, 5, some .boolean)
def cRd_readErrand (N : Nat) (σ : ySt) : Option (Int × ySt) :=
  chkT (σ 53 1) fun T1 =>
  bnd (fun (y4 : Int) =>
    bndR (cRd_startLine N y4 σ) fun r7 σ8 =>
    if ¬ r7 = 0 then
      chkT (σ8 53 1) fun T10 =>
      bndR (cTp_passKnown N (T10 + 3) σ8) fun r14 σ15 =>
      if r14 = (-1) then
        some (0, σ15)
      else
        bndR (cTp_pass N 105 σ15) fun r18 σ19 =>
        if ¬ r18 = 0 then
          chkT (σ19 53 1) fun T21 =>
          bndR (cTp_passKnown N (T21 + 1) σ19) fun r25 σ26 =>
          if r25 = (-1) then
            some (0, σ26)
          else
            bndR (cTp_pass N 109 σ26) fun r29 σ30 =>
            if ¬ r29 = 0 then
              bndR (cTp_passNumber N 1 8 σ30) fun r33 σ34 =>
              if r33 = (-1) then
                some (0, σ34)
              else
                bndR (cTp_pass N 110 σ34) fun r37 σ38 =>
                if ¬ r37 = 0 then
                  bndR (cTp_passNumber N 0 999 σ38) fun r41 σ42 =>
                  if ¬ r41 = (-1) then
                    chkT (σ42 53 1) fun T44 =>
                    chkT (σ42 53 1) fun T47 =>
                    chkA 8 (σ42 T47 14) <|
                    bnd (yset σ42 (T44 + 11) ((σ42 T47 14)).toNat r14) fun σ51 =>
                    chkT (σ51 53 1) fun T53 =>
                    chkT (σ51 53 1) fun T56 =>
                    chkA 8 (σ51 T56 14) <|
                    bnd (yset σ51 (T53 + 12) ((σ51 T56 14)).toNat r25) fun σ60 =>
                    chkT (σ60 53 1) fun T62 =>
                    chkT (σ60 53 1) fun T65 =>
                    chkA 8 (σ60 T65 14) <|
                    bnd (yset σ60 (T62 + 13) ((σ60 T65 14)).toNat r33) fun σ69 =>
                    chkT (σ69 53 1) fun T71 =>
                    chkT (σ69 53 1) fun T74 =>
                    chkA 8 (σ69 T74 14) <|
                    bnd (yset σ69 (T71 + 14) ((σ69 T74 14)).toNat r41) fun σ78 =>
                    chkT (σ78 53 1) fun T80 =>
                    chkI ((σ78 T80 14) + 1) <|
                    bnd (yset σ78 T80 14 ((σ78 T80 14) + 1)) fun σ84 =>
                    some (1, σ84)
                  else
                    some (0, σ42)
                else
                  some (0, σ38)
            else
              some (0, σ30)
        else
          some (0, σ19)
    else
      some (0, σ8)) fun j5 =>
  if (σ T1 14) < 8 then
    j5 0
  else
    j5 1
set_option maxHeartbeats 4000000 in
set_option maxRecDepth 10000 in
theorem sh_cRd_readErrand {E : yE} {N : Nat} {σ : ySt} {ρ : Int} {τ : ySt} (h : cRd_readErrand N σ = some (ρ, τ)) : Con E MX10_readErrand 10 0 0 [.inr (.inr (53 + 1))] 150 (ov σ) (some (.inl ρ)) (ov τ) := by
  unfold cRd_readErrand at h
  refine Con.ofY (by decide +kernel) (by simp [yWords, yCat]) (fun hok _ => ?_)
  show Y E MX10_readErrand (yRm 10 0 0) (yQf E (150 + 0) 0 0 (some (.inl ρ)) (ov τ)) 0 [(0, .inr (.inr (53 + 1)))] [] (ov σ) 150 0 0
  refine y_aload_n (show decode cX10_readErrand 0 = .ok (.aload_n 0, 1) by decide +kernel) 0 rfl ?_
  refine y_aload_n (show decode cX10_readErrand 1 = .ok (.aload_n 0, 1) by decide +kernel) 0 rfl ?_
  obtain ⟨T1, c2, c3, h⟩ := chkT_some h
  refine y_getf 53 10 1 15 (by decide) rfl (by decide) (by decide) q2_69 (show decode cX10_readErrand 2 = .ok (.getfield 15, 3) by decide +kernel) (v := .inr (.inr (T1 + 1))) (by rw [← c3]; rfl) ?_
  refine y_getf T1 9 14 157 (by omega) (by rcases c2 with rfl | rfl <;> rfl) (by decide) (by decide) q2_10 (show decode cX10_readErrand 5 = .ok (.getfield 157, 3) by decide +kernel) (v := .inl (σ T1 14)) (by rcases c2 with rfl | rfl <;> rfl) ?_
  refine y_bipush (show decode cX10_readErrand 8 = .ok (.bipush 8, 2) by decide +kernel) rfl rfl ?_
  refine bnd_j (Q := fun j5 => ∀ (y4 : Int), j5 y4 = some (ρ, τ) → Y E MX10_readErrand (yRm 10 0 0) (yQf E (150 + 0) 0 0 (some (.inl ρ)) (ov τ)) 18 [(0, .inr (.inr (53 + 1)))] [.inl y4, .inr (.inr (53 + 1))] (ov σ) 150 0 0) (fun y4 h => ?_) (fun j5 hj5 h => ?_) h
  · dsimp only at h
    obtain ⟨r7, σ8, e6, h⟩ := bndR_some h
    refine y_callV (np := 1) (st := []) (as := [.inl y4]) 53 10 (sh_cRd_startLine e6) q3_231 q3_228 q3_230 qs1_7 q1_9 (by decide) rfl (by decide) rfl (by decide) (by decide +kernel) (by decide) rfl (Nat.le_of_ble_eq_true rfl) (show decode cX10_readErrand 18 = .ok (.invokevirtual 104, 3) by decide +kernel) rfl ?_
    by_cases c9 : ¬ r7 = 0
    · rw [if_pos c9] at h
      refine y_if_ne_t (tgt := 26) (show decode cX10_readErrand 21 = .ok (.ifCond .ne 5, 3) by decide +kernel) rfl c9 ?_
      refine y_aload_n (show decode cX10_readErrand 26 = .ok (.aload_n 0, 1) by decide +kernel) 0 rfl ?_
      refine y_getf 53 10 0 9 (by decide) rfl (by decide) (by decide) q2_68 (show decode cX10_readErrand 27 = .ok (.getfield 9, 3) by decide +kernel) (v := .inr (.inr (1 + 1))) rfl ?_
      refine y_aload_n (show decode cX10_readErrand 30 = .ok (.aload_n 0, 1) by decide +kernel) 0 rfl ?_
      obtain ⟨T10, c11, c12, h⟩ := chkT_some h
      refine y_getf 53 10 1 15 (by decide) rfl (by decide) (by decide) q2_69 (show decode cX10_readErrand 31 = .ok (.getfield 15, 3) by decide +kernel) (v := .inr (.inr (T10 + 1))) (by rw [← c12]; rfl) ?_
      refine y_getf T10 9 1 142 (by omega) (by rcases c11 with rfl | rfl <;> rfl) (by decide) (by decide) q1_205 (show decode cX10_readErrand 34 = .ok (.getfield 142, 3) by decide +kernel) (v := .inr (.inr ((T10 + 3) + 1))) (by rcases c11 with rfl | rfl <;> rfl) ?_
      obtain ⟨r14, σ15, e13, h⟩ := bndR_some h
      refine y_callV (np := 1) (st := []) (as := [.inr (.inr ((T10 + 3) + 1))]) 1 8 (sh_cTp_passKnown e13) q4_22 q4_19 q4_20 q4_21 q1_2 (by decide) rfl (by decide) rfl (by decide) (by decide +kernel) (by decide) rfl (Nat.le_of_ble_eq_true rfl) (show decode cX10_readErrand 37 = .ok (.invokevirtual 122, 3) by decide +kernel) rfl ?_
      refine y_istore_n (show decode cX10_readErrand 40 = .ok (.istore_n 1, 1) by decide +kernel) rfl (L1 := [(1, .inl r14), (0, .inr (.inr (53 + 1)))]) rfl ?_
      refine y_iload_n (show decode cX10_readErrand 41 = .ok (.iload_n 1, 1) by decide +kernel) 0 rfl ?_
      refine y_iconst (show decode cX10_readErrand 42 = .ok (.iconst (-1), 1) by decide +kernel) rfl ?_
      by_cases c16 : r14 = (-1)
      · rw [if_pos c16] at h
        refine y_icmp_eq_t (tgt := 58) (show decode cX10_readErrand 43 = .ok (.if_icmp .eq 15, 3) by decide +kernel) rfl c16 ?_
        refine y_iconst (show decode cX10_readErrand 58 = .ok (.iconst 0, 1) by decide +kernel) rfl ?_
        cases h
        exact y_zret (show decode cX10_readErrand 59 = .ok (.ireturn, 1) by decide +kernel) rfl (Or.inl rfl)
      · rw [if_neg c16] at h
        refine y_icmp_eq_f (show decode cX10_readErrand 43 = .ok (.if_icmp .eq 15, 3) by decide +kernel) c16 (by decide) ?_
        refine y_aload_n (show decode cX10_readErrand 46 = .ok (.aload_n 0, 1) by decide +kernel) 1 rfl ?_
        refine y_getf 53 10 0 9 (by decide) rfl (by decide) (by decide) q2_68 (show decode cX10_readErrand 47 = .ok (.getfield 9, 3) by decide +kernel) (v := .inr (.inr (1 + 1))) rfl ?_
        refine y_bipush (show decode cX10_readErrand 50 = .ok (.bipush 105, 2) by decide +kernel) rfl rfl ?_
        obtain ⟨r18, σ19, e17, h⟩ := bndR_some h
        refine y_callV (np := 1) (st := []) (as := [.inl 105]) 1 8 (sh_cTp_pass e17) q4_33 q4_30 q4_31 q4_32 q1_2 (by decide) rfl (by decide) rfl (by decide) (by decide +kernel) (by decide) rfl (Nat.le_of_ble_eq_true rfl) (show decode cX10_readErrand 52 = .ok (.invokevirtual 47, 3) by decide +kernel) rfl ?_
        by_cases c20 : ¬ r18 = 0
        · rw [if_pos c20] at h
          refine y_if_ne_t (tgt := 60) (show decode cX10_readErrand 55 = .ok (.ifCond .ne 5, 3) by decide +kernel) rfl c20 ?_
          refine y_aload_n (show decode cX10_readErrand 60 = .ok (.aload_n 0, 1) by decide +kernel) 1 rfl ?_
          refine y_getf 53 10 0 9 (by decide) rfl (by decide) (by decide) q2_68 (show decode cX10_readErrand 61 = .ok (.getfield 9, 3) by decide +kernel) (v := .inr (.inr (1 + 1))) rfl ?_
          refine y_aload_n (show decode cX10_readErrand 64 = .ok (.aload_n 0, 1) by decide +kernel) 1 rfl ?_
          obtain ⟨T21, c22, c23, h⟩ := chkT_some h
          refine y_getf 53 10 1 15 (by decide) rfl (by decide) (by decide) q2_69 (show decode cX10_readErrand 65 = .ok (.getfield 15, 3) by decide +kernel) (v := .inr (.inr (T21 + 1))) (by rw [← c23]; rfl) ?_
          refine y_getf T21 9 0 97 (by omega) (by rcases c22 with rfl | rfl <;> rfl) (by decide) (by decide) q1_197 (show decode cX10_readErrand 68 = .ok (.getfield 97, 3) by decide +kernel) (v := .inr (.inr ((T21 + 1) + 1))) (by rcases c22 with rfl | rfl <;> rfl) ?_
          obtain ⟨r25, σ26, e24, h⟩ := bndR_some h
          refine y_callV (np := 1) (st := []) (as := [.inr (.inr ((T21 + 1) + 1))]) 1 8 (sh_cTp_passKnown e24) q4_22 q4_19 q4_20 q4_21 q1_2 (by decide) rfl (by decide) rfl (by decide) (by decide +kernel) (by decide) rfl (Nat.le_of_ble_eq_true rfl) (show decode cX10_readErrand 71 = .ok (.invokevirtual 122, 3) by decide +kernel) rfl ?_
          refine y_istore_n (show decode cX10_readErrand 74 = .ok (.istore_n 2, 1) by decide +kernel) rfl (L1 := [(2, .inl r25), (1, .inl r14), (0, .inr (.inr (53 + 1)))]) rfl ?_
          refine y_iload_n (show decode cX10_readErrand 75 = .ok (.iload_n 2, 1) by decide +kernel) 0 rfl ?_
          refine y_iconst (show decode cX10_readErrand 76 = .ok (.iconst (-1), 1) by decide +kernel) rfl ?_
          by_cases c27 : r25 = (-1)
          · rw [if_pos c27] at h
            refine y_icmp_eq_t (tgt := 92) (show decode cX10_readErrand 77 = .ok (.if_icmp .eq 15, 3) by decide +kernel) rfl c27 ?_
            refine y_iconst (show decode cX10_readErrand 92 = .ok (.iconst 0, 1) by decide +kernel) rfl ?_
            cases h
            exact y_zret (show decode cX10_readErrand 93 = .ok (.ireturn, 1) by decide +kernel) rfl (Or.inl rfl)
          · rw [if_neg c27] at h
            refine y_icmp_eq_f (show decode cX10_readErrand 77 = .ok (.if_icmp .eq 15, 3) by decide +kernel) c27 (by decide) ?_
            refine y_aload_n (show decode cX10_readErrand 80 = .ok (.aload_n 0, 1) by decide +kernel) 2 rfl ?_
            refine y_getf 53 10 0 9 (by decide) rfl (by decide) (by decide) q2_68 (show decode cX10_readErrand 81 = .ok (.getfield 9, 3) by decide +kernel) (v := .inr (.inr (1 + 1))) rfl ?_
            refine y_bipush (show decode cX10_readErrand 84 = .ok (.bipush 109, 2) by decide +kernel) rfl rfl ?_
            obtain ⟨r29, σ30, e28, h⟩ := bndR_some h
            refine y_callV (np := 1) (st := []) (as := [.inl 109]) 1 8 (sh_cTp_pass e28) q4_33 q4_30 q4_31 q4_32 q1_2 (by decide) rfl (by decide) rfl (by decide) (by decide +kernel) (by decide) rfl (Nat.le_of_ble_eq_true rfl) (show decode cX10_readErrand 86 = .ok (.invokevirtual 47, 3) by decide +kernel) rfl ?_
            by_cases c31 : ¬ r29 = 0
            · rw [if_pos c31] at h
              refine y_if_ne_t (tgt := 94) (show decode cX10_readErrand 89 = .ok (.ifCond .ne 5, 3) by decide +kernel) rfl c31 ?_
              refine y_aload_n (show decode cX10_readErrand 94 = .ok (.aload_n 0, 1) by decide +kernel) 2 rfl ?_
              refine y_getf 53 10 0 9 (by decide) rfl (by decide) (by decide) q2_68 (show decode cX10_readErrand 95 = .ok (.getfield 9, 3) by decide +kernel) (v := .inr (.inr (1 + 1))) rfl ?_
              refine y_iconst (show decode cX10_readErrand 98 = .ok (.iconst 1, 1) by decide +kernel) rfl ?_
              refine y_bipush (show decode cX10_readErrand 99 = .ok (.bipush 8, 2) by decide +kernel) rfl rfl ?_
              obtain ⟨r33, σ34, e32, h⟩ := bndR_some h
              refine y_callV (np := 2) (st := []) (as := [.inl 1, .inl 8]) 1 8 (sh_cTp_passNumber e32) q4_37 q4_34 q4_35 q4_36 q1_2 (by decide) rfl (by decide) rfl (by decide) (by decide +kernel) (by decide) rfl (Nat.le_of_ble_eq_true rfl) (show decode cX10_readErrand 101 = .ok (.invokevirtual 129, 3) by decide +kernel) rfl ?_
              refine y_istore_n (show decode cX10_readErrand 104 = .ok (.istore_n 3, 1) by decide +kernel) rfl (L1 := [(3, .inl r33), (2, .inl r25), (1, .inl r14), (0, .inr (.inr (53 + 1)))]) rfl ?_
              refine y_iload_n (show decode cX10_readErrand 105 = .ok (.iload_n 3, 1) by decide +kernel) 0 rfl ?_
              refine y_iconst (show decode cX10_readErrand 106 = .ok (.iconst (-1), 1) by decide +kernel) rfl ?_
              by_cases c35 : r33 = (-1)
              · rw [if_pos c35] at h
                refine y_icmp_eq_t (tgt := 122) (show decode cX10_readErrand 107 = .ok (.if_icmp .eq 15, 3) by decide +kernel) rfl c35 ?_
                refine y_iconst (show decode cX10_readErrand 122 = .ok (.iconst 0, 1) by decide +kernel) rfl ?_
                cases h
                exact y_zret (show decode cX10_readErrand 123 = .ok (.ireturn, 1) by decide +kernel) rfl (Or.inl rfl)
              · rw [if_neg c35] at h
                refine y_icmp_eq_f (show decode cX10_readErrand 107 = .ok (.if_icmp .eq 15, 3) by decide +kernel) c35 (by decide) ?_
                refine y_aload_n (show decode cX10_readErrand 110 = .ok (.aload_n 0, 1) by decide +kernel) 3 rfl ?_
                refine y_getf 53 10 0 9 (by decide) rfl (by decide) (by decide) q2_68 (show decode cX10_readErrand 111 = .ok (.getfield 9, 3) by decide +kernel) (v := .inr (.inr (1 + 1))) rfl ?_
                refine y_bipush (show decode cX10_readErrand 114 = .ok (.bipush 110, 2) by decide +kernel) rfl rfl ?_
                obtain ⟨r37, σ38, e36, h⟩ := bndR_some h
                refine y_callV (np := 1) (st := []) (as := [.inl 110]) 1 8 (sh_cTp_pass e36) q4_33 q4_30 q4_31 q4_32 q1_2 (by decide) rfl (by decide) rfl (by decide) (by decide +kernel) (by decide) rfl (Nat.le_of_ble_eq_true rfl) (show decode cX10_readErrand 116 = .ok (.invokevirtual 47, 3) by decide +kernel) rfl ?_
                by_cases c39 : ¬ r37 = 0
                · rw [if_pos c39] at h
                  refine y_if_ne_t (tgt := 124) (show decode cX10_readErrand 119 = .ok (.ifCond .ne 5, 3) by decide +kernel) rfl c39 ?_
                  refine y_aload_n (show decode cX10_readErrand 124 = .ok (.aload_n 0, 1) by decide +kernel) 3 rfl ?_
                  refine y_getf 53 10 0 9 (by decide) rfl (by decide) (by decide) q2_68 (show decode cX10_readErrand 125 = .ok (.getfield 9, 3) by decide +kernel) (v := .inr (.inr (1 + 1))) rfl ?_
                  refine y_iconst (show decode cX10_readErrand 128 = .ok (.iconst 0, 1) by decide +kernel) rfl ?_
                  refine y_sipush (show decode cX10_readErrand 129 = .ok (.sipush 999, 3) by decide +kernel) rfl rfl ?_
                  obtain ⟨r41, σ42, e40, h⟩ := bndR_some h
                  refine y_callV (np := 2) (st := []) (as := [.inl 0, .inl 999]) 1 8 (sh_cTp_passNumber e40) q4_37 q4_34 q4_35 q4_36 q1_2 (by decide) rfl (by decide) rfl (by decide) (by decide +kernel) (by decide) rfl (Nat.le_of_ble_eq_true rfl) (show decode cX10_readErrand 132 = .ok (.invokevirtual 129, 3) by decide +kernel) rfl ?_
                  refine y_istore (show decode cX10_readErrand 135 = .ok (.istore 4, 2) by decide +kernel) rfl (L1 := [(4, .inl r41), (3, .inl r33), (2, .inl r25), (1, .inl r14), (0, .inr (.inr (53 + 1)))]) rfl ?_
                  refine y_iload (show decode cX10_readErrand 137 = .ok (.iload 4, 2) by decide +kernel) 0 rfl ?_
                  refine y_iconst (show decode cX10_readErrand 139 = .ok (.iconst (-1), 1) by decide +kernel) rfl ?_
                  by_cases c43 : ¬ r41 = (-1)
                  · rw [if_pos c43] at h
                    refine y_icmp_ne_t (tgt := 145) (show decode cX10_readErrand 140 = .ok (.if_icmp .ne 5, 3) by decide +kernel) rfl c43 ?_
                    refine y_aload_n (show decode cX10_readErrand 145 = .ok (.aload_n 0, 1) by decide +kernel) 4 rfl ?_
                    obtain ⟨T44, c45, c46, h⟩ := chkT_some h
                    refine y_getf 53 10 1 15 (by decide) rfl (by decide) (by decide) q2_69 (show decode cX10_readErrand 146 = .ok (.getfield 15, 3) by decide +kernel) (v := .inr (.inr (T44 + 1))) (by rw [← c46]; rfl) ?_
                    refine y_getf T44 9 7 160 (by omega) (by rcases c45 with rfl | rfl <;> rfl) (by decide) (by decide) q1_225 (show decode cX10_readErrand 149 = .ok (.getfield 160, 3) by decide +kernel) (v := .inr (.inr ((T44 + 11) + 1))) (by rcases c45 with rfl | rfl <;> rfl) ?_
                    refine y_aload_n (show decode cX10_readErrand 152 = .ok (.aload_n 0, 1) by decide +kernel) 4 rfl ?_
                    obtain ⟨T47, c48, c49, h⟩ := chkT_some h
                    refine y_getf 53 10 1 15 (by decide) rfl (by decide) (by decide) q2_69 (show decode cX10_readErrand 153 = .ok (.getfield 15, 3) by decide +kernel) (v := .inr (.inr (T47 + 1))) (by rw [← c49]; rfl) ?_
                    refine y_getf T47 9 14 157 (by omega) (by rcases c48 with rfl | rfl <;> rfl) (by decide) (by decide) q2_10 (show decode cX10_readErrand 156 = .ok (.getfield 157, 3) by decide +kernel) (v := .inl (σ42 T47 14)) (by rcases c48 with rfl | rfl <;> rfl) ?_
                    refine y_iload_n (show decode cX10_readErrand 159 = .ok (.iload_n 1, 1) by decide +kernel) 3 rfl ?_
                    obtain ⟨c50, h⟩ := chkA_some h
                    obtain ⟨σ51, e52, h⟩ := bnd_i h
                    refine yo_iast (T44 + 11) 8 (by omega) (by rcases c45 with rfl | rfl <;> rfl) c50 (ov_set1 e52 (by rcases c45 with rfl | rfl <;> rfl)) (show decode cX10_readErrand 160 = .ok (.iastore, 1) by decide +kernel) ?_
                    refine y_aload_n (show decode cX10_readErrand 161 = .ok (.aload_n 0, 1) by decide +kernel) 4 rfl ?_
                    obtain ⟨T53, c54, c55, h⟩ := chkT_some h
                    refine y_getf 53 10 1 15 (by decide) rfl (by decide) (by decide) q2_69 (show decode cX10_readErrand 162 = .ok (.getfield 15, 3) by decide +kernel) (v := .inr (.inr (T53 + 1))) (by rw [← c55]; rfl) ?_
                    refine y_getf T53 9 8 163 (by omega) (by rcases c54 with rfl | rfl <;> rfl) (by decide) (by decide) q1_229 (show decode cX10_readErrand 165 = .ok (.getfield 163, 3) by decide +kernel) (v := .inr (.inr ((T53 + 12) + 1))) (by rcases c54 with rfl | rfl <;> rfl) ?_
                    refine y_aload_n (show decode cX10_readErrand 168 = .ok (.aload_n 0, 1) by decide +kernel) 4 rfl ?_
                    obtain ⟨T56, c57, c58, h⟩ := chkT_some h
                    refine y_getf 53 10 1 15 (by decide) rfl (by decide) (by decide) q2_69 (show decode cX10_readErrand 169 = .ok (.getfield 15, 3) by decide +kernel) (v := .inr (.inr (T56 + 1))) (by rw [← c58]; rfl) ?_
                    refine y_getf T56 9 14 157 (by omega) (by rcases c57 with rfl | rfl <;> rfl) (by decide) (by decide) q2_10 (show decode cX10_readErrand 172 = .ok (.getfield 157, 3) by decide +kernel) (v := .inl (σ51 T56 14)) (by rcases c57 with rfl | rfl <;> rfl) ?_
                    refine y_iload_n (show decode cX10_readErrand 175 = .ok (.iload_n 2, 1) by decide +kernel) 2 rfl ?_
                    obtain ⟨c59, h⟩ := chkA_some h
                    obtain ⟨σ60, e61, h⟩ := bnd_i h
                    refine yo_iast (T53 + 12) 8 (by omega) (by rcases c54 with rfl | rfl <;> rfl) c59 (ov_set1 e61 (by rcases c54 with rfl | rfl <;> rfl)) (show decode cX10_readErrand 176 = .ok (.iastore, 1) by decide +kernel) ?_
                    refine y_aload_n (show decode cX10_readErrand 177 = .ok (.aload_n 0, 1) by decide +kernel) 4 rfl ?_
                    obtain ⟨T62, c63, c64, h⟩ := chkT_some h
                    refine y_getf 53 10 1 15 (by decide) rfl (by decide) (by decide) q2_69 (show decode cX10_readErrand 178 = .ok (.getfield 15, 3) by decide +kernel) (v := .inr (.inr (T62 + 1))) (by rw [← c64]; rfl) ?_
                    refine y_getf T62 9 9 166 (by omega) (by rcases c63 with rfl | rfl <;> rfl) (by decide) (by decide) q1_233 (show decode cX10_readErrand 181 = .ok (.getfield 166, 3) by decide +kernel) (v := .inr (.inr ((T62 + 13) + 1))) (by rcases c63 with rfl | rfl <;> rfl) ?_
                    refine y_aload_n (show decode cX10_readErrand 184 = .ok (.aload_n 0, 1) by decide +kernel) 4 rfl ?_
                    obtain ⟨T65, c66, c67, h⟩ := chkT_some h
                    refine y_getf 53 10 1 15 (by decide) rfl (by decide) (by decide) q2_69 (show decode cX10_readErrand 185 = .ok (.getfield 15, 3) by decide +kernel) (v := .inr (.inr (T65 + 1))) (by rw [← c67]; rfl) ?_
                    refine y_getf T65 9 14 157 (by omega) (by rcases c66 with rfl | rfl <;> rfl) (by decide) (by decide) q2_10 (show decode cX10_readErrand 188 = .ok (.getfield 157, 3) by decide +kernel) (v := .inl (σ60 T65 14)) (by rcases c66 with rfl | rfl <;> rfl) ?_
                    refine y_iload_n (show decode cX10_readErrand 191 = .ok (.iload_n 3, 1) by decide +kernel) 1 rfl ?_
                    obtain ⟨c68, h⟩ := chkA_some h
                    obtain ⟨σ69, e70, h⟩ := bnd_i h
                    refine yo_iast (T62 + 13) 8 (by omega) (by rcases c63 with rfl | rfl <;> rfl) c68 (ov_set1 e70 (by rcases c63 with rfl | rfl <;> rfl)) (show decode cX10_readErrand 192 = .ok (.iastore, 1) by decide +kernel) ?_
                    refine y_aload_n (show decode cX10_readErrand 193 = .ok (.aload_n 0, 1) by decide +kernel) 4 rfl ?_
                    obtain ⟨T71, c72, c73, h⟩ := chkT_some h
                    refine y_getf 53 10 1 15 (by decide) rfl (by decide) (by decide) q2_69 (show decode cX10_readErrand 194 = .ok (.getfield 15, 3) by decide +kernel) (v := .inr (.inr (T71 + 1))) (by rw [← c73]; rfl) ?_
                    refine y_getf T71 9 10 169 (by omega) (by rcases c72 with rfl | rfl <;> rfl) (by decide) (by decide) q1_236 (show decode cX10_readErrand 197 = .ok (.getfield 169, 3) by decide +kernel) (v := .inr (.inr ((T71 + 14) + 1))) (by rcases c72 with rfl | rfl <;> rfl) ?_
                    refine y_aload_n (show decode cX10_readErrand 200 = .ok (.aload_n 0, 1) by decide +kernel) 4 rfl ?_
                    obtain ⟨T74, c75, c76, h⟩ := chkT_some h
                    refine y_getf 53 10 1 15 (by decide) rfl (by decide) (by decide) q2_69 (show decode cX10_readErrand 201 = .ok (.getfield 15, 3) by decide +kernel) (v := .inr (.inr (T74 + 1))) (by rw [← c76]; rfl) ?_
                    refine y_getf T74 9 14 157 (by omega) (by rcases c75 with rfl | rfl <;> rfl) (by decide) (by decide) q2_10 (show decode cX10_readErrand 204 = .ok (.getfield 157, 3) by decide +kernel) (v := .inl (σ69 T74 14)) (by rcases c75 with rfl | rfl <;> rfl) ?_
                    refine y_iload (show decode cX10_readErrand 207 = .ok (.iload 4, 2) by decide +kernel) 0 rfl ?_
                    obtain ⟨c77, h⟩ := chkA_some h
                    obtain ⟨σ78, e79, h⟩ := bnd_i h
                    refine yo_iast (T71 + 14) 8 (by omega) (by rcases c72 with rfl | rfl <;> rfl) c77 (ov_set1 e79 (by rcases c72 with rfl | rfl <;> rfl)) (show decode cX10_readErrand 209 = .ok (.iastore, 1) by decide +kernel) ?_
                    refine y_aload_n (show decode cX10_readErrand 210 = .ok (.aload_n 0, 1) by decide +kernel) 4 rfl ?_
                    obtain ⟨T80, c81, c82, h⟩ := chkT_some h
                    refine y_getf 53 10 1 15 (by decide) rfl (by decide) (by decide) q2_69 (show decode cX10_readErrand 211 = .ok (.getfield 15, 3) by decide +kernel) (v := .inr (.inr (T80 + 1))) (by rw [← c82]; rfl) ?_
                    refine y_dup (show decode cX10_readErrand 214 = .ok (.dup, 1) by decide +kernel) rfl ?_
                    refine y_getf T80 9 14 157 (by omega) (by rcases c81 with rfl | rfl <;> rfl) (by decide) (by decide) q2_10 (show decode cX10_readErrand 215 = .ok (.getfield 157, 3) by decide +kernel) (v := .inl (σ78 T80 14)) (by rcases c81 with rfl | rfl <;> rfl) ?_
                    refine y_iconst (show decode cX10_readErrand 218 = .ok (.iconst 1, 1) by decide +kernel) rfl ?_
                    obtain ⟨c83, h⟩ := chkI_some h
                    refine y_iadd (show decode cX10_readErrand 219 = .ok (.iadd, 1) by decide +kernel) c83 ?_
                    obtain ⟨σ84, e85, h⟩ := bnd_i h
                    refine yo_putI T80 9 14 157 (by omega) (by rcases c81 with rfl | rfl <;> rfl) (by decide) (by decide) q2_10 rfl (show decode cX10_readErrand 220 = .ok (.putfield 157, 3) by decide +kernel) rfl rfl (ov_set1 e85 (by rcases c81 with rfl | rfl <;> rfl)) ?_
                    refine y_iconst (show decode cX10_readErrand 223 = .ok (.iconst 1, 1) by decide +kernel) rfl ?_
                    cases h
                    exact y_zret (show decode cX10_readErrand 224 = .ok (.ireturn, 1) by decide +kernel) rfl (Or.inr rfl)
                  · rw [if_neg c43] at h
                    refine y_icmp_ne_f (show decode cX10_readErrand 140 = .ok (.if_icmp .ne 5, 3) by decide +kernel) c43 (by decide) ?_
                    refine y_iconst (show decode cX10_readErrand 143 = .ok (.iconst 0, 1) by decide +kernel) rfl ?_
                    cases h
                    exact y_zret (show decode cX10_readErrand 144 = .ok (.ireturn, 1) by decide +kernel) rfl (Or.inl rfl)
                · rw [if_neg c39] at h
                  refine y_if_ne_f (show decode cX10_readErrand 119 = .ok (.ifCond .ne 5, 3) by decide +kernel) c39 (by decide) ?_
                  refine y_iconst (show decode cX10_readErrand 122 = .ok (.iconst 0, 1) by decide +kernel) rfl ?_
                  cases h
                  exact y_zret (show decode cX10_readErrand 123 = .ok (.ireturn, 1) by decide +kernel) rfl (Or.inl rfl)
            · rw [if_neg c31] at h
              refine y_if_ne_f (show decode cX10_readErrand 89 = .ok (.ifCond .ne 5, 3) by decide +kernel) c31 (by decide) ?_
              refine y_iconst (show decode cX10_readErrand 92 = .ok (.iconst 0, 1) by decide +kernel) rfl ?_
              cases h
              exact y_zret (show decode cX10_readErrand 93 = .ok (.ireturn, 1) by decide +kernel) rfl (Or.inl rfl)
        · rw [if_neg c20] at h
          refine y_if_ne_f (show decode cX10_readErrand 55 = .ok (.ifCond .ne 5, 3) by decide +kernel) c20 (by decide) ?_
          refine y_iconst (show decode cX10_readErrand 58 = .ok (.iconst 0, 1) by decide +kernel) rfl ?_
          cases h
          exact y_zret (show decode cX10_readErrand 59 = .ok (.ireturn, 1) by decide +kernel) rfl (Or.inl rfl)
    · rw [if_neg c9] at h
      refine y_if_ne_f (show decode cX10_readErrand 21 = .ok (.ifCond .ne 5, 3) by decide +kernel) c9 (by decide) ?_
      refine y_iconst (show decode cX10_readErrand 24 = .ok (.iconst 0, 1) by decide +kernel) rfl ?_
      cases h
      exact y_zret (show decode cX10_readErrand 25 = .ok (.ireturn, 1) by decide +kernel) rfl (Or.inl rfl)
  by_cases c86 : (σ T1 14) < 8
  · rw [if_pos c86] at h
    refine y_icmp_lt_t (tgt := 17) (show decode cX10_readErrand 10 = .ok (.if_icmp .lt 7, 3) by decide +kernel) rfl c86 ?_
    refine y_iconst (show decode cX10_readErrand 17 = .ok (.iconst 0, 1) by decide +kernel) rfl ?_
    refine y_pick [0] rfl ?_
    exact hj5 _ h
  · rw [if_neg c86] at h
    refine y_icmp_lt_f (show decode cX10_readErrand 10 = .ok (.if_icmp .lt 7, 3) by decide +kernel) c86 (by decide) ?_
    refine y_iconst (show decode cX10_readErrand 13 = .ok (.iconst 1, 1) by decide +kernel) rfl ?_
    refine y_goto (tgt := 18) (show decode cX10_readErrand 14 = .ok (.goto 4, 3) by decide +kernel) rfl ?_
    refine y_pick [0] rfl ?_
    exact hj5 _ h
abbrev MX10_readHour : yM := (yX10_readHour, cX10_readHour, 1, some .boolean)
def cRd_readHour (N : Nat) (σ : ySt) : Option (Int × ySt) :=
  bndR (cRd_startLine N (σ 53 2) σ) fun r2 σ3 =>
  if ¬ r2 = 0 then
    bnd (yset σ3 53 2 1) fun σ5 =>
    chkT (σ5 53 1) fun T7 =>
    bndR (cTp_passNumber N 1 999 σ5) fun r11 σ12 =>
    bnd (yset σ12 T7 16 r11) fun σ13 =>
    chkT (σ13 53 1) fun T15 =>
    if (σ13 T15 16) = (-1) then
      some (0, σ13)
    else
      some (1, σ13)
  else
    some (0, σ3)
set_option maxHeartbeats 4000000 in
set_option maxRecDepth 10000 in
theorem sh_cRd_readHour {E : yE} {N : Nat} {σ : ySt} {ρ : Int} {τ : ySt} (h : cRd_readHour N σ = some (ρ, τ)) : Con E MX10_readHour 10 0 0 [.inr (.inr (53 + 1))] 150 (ov σ) (some (.inl ρ)) (ov τ) := by
  unfold cRd_readHour at h
  refine Con.ofY (by decide +kernel) (by simp [yWords, yCat]) (fun hok _ => ?_)
  show Y E MX10_readHour (yRm 10 0 0) (yQf E (150 + 0) 0 0 (some (.inl ρ)) (ov τ)) 0 [(0, .inr (.inr (53 + 1)))] [] (ov σ) 150 0 0
  refine y_aload_n (show decode cX10_readHour 0 = .ok (.aload_n 0, 1) by decide +kernel) 0 rfl ?_
  refine y_aload_n (show decode cX10_readHour 1 = .ok (.aload_n 0, 1) by decide +kernel) 0 rfl ?_
  refine y_getf 53 10 2 24 (by decide) rfl (by decide) (by decide) q2_70 (show decode cX10_readHour 2 = .ok (.getfield 24, 3) by decide +kernel) (v := .inl (σ 53 2)) rfl ?_
  obtain ⟨r2, σ3, e1, h⟩ := bndR_some h
  refine y_callV (np := 1) (st := []) (as := [.inl (σ 53 2)]) 53 10 (sh_cRd_startLine e1) q3_231 q3_228 q3_230 qs1_7 q1_9 (by decide) rfl (by decide) rfl (by decide) (by decide +kernel) (by decide) rfl (Nat.le_of_ble_eq_true rfl) (show decode cX10_readHour 5 = .ok (.invokevirtual 104, 3) by decide +kernel) rfl ?_
  by_cases c4 : ¬ r2 = 0
  · rw [if_pos c4] at h
    refine y_if_ne_t (tgt := 13) (show decode cX10_readHour 8 = .ok (.ifCond .ne 5, 3) by decide +kernel) rfl c4 ?_
    refine y_aload_n (show decode cX10_readHour 13 = .ok (.aload_n 0, 1) by decide +kernel) 0 rfl ?_
    refine y_iconst (show decode cX10_readHour 14 = .ok (.iconst 1, 1) by decide +kernel) rfl ?_
    obtain ⟨σ5, e6, h⟩ := bnd_i h
    refine yo_putZ 53 10 2 24 (by decide) rfl (by decide) (by decide) q2_70 rfl (show decode cX10_readHour 15 = .ok (.putfield 24, 3) by decide +kernel) rfl rfl (Or.inr rfl) (ov_set1 e6 rfl) ?_
    refine y_aload_n (show decode cX10_readHour 18 = .ok (.aload_n 0, 1) by decide +kernel) 0 rfl ?_
    obtain ⟨T7, c8, c9, h⟩ := chkT_some h
    refine y_getf 53 10 1 15 (by decide) rfl (by decide) (by decide) q2_69 (show decode cX10_readHour 19 = .ok (.getfield 15, 3) by decide +kernel) (v := .inr (.inr (T7 + 1))) (by rw [← c9]; rfl) ?_
    refine y_aload_n (show decode cX10_readHour 22 = .ok (.aload_n 0, 1) by decide +kernel) 0 rfl ?_
    refine y_getf 53 10 0 9 (by decide) rfl (by decide) (by decide) q2_68 (show decode cX10_readHour 23 = .ok (.getfield 9, 3) by decide +kernel) (v := .inr (.inr (1 + 1))) rfl ?_
    refine y_iconst (show decode cX10_readHour 26 = .ok (.iconst 1, 1) by decide +kernel) rfl ?_
    refine y_sipush (show decode cX10_readHour 27 = .ok (.sipush 999, 3) by decide +kernel) rfl rfl ?_
    obtain ⟨r11, σ12, e10, h⟩ := bndR_some h
    refine y_callV (np := 2) (st := [.inr (.inr (T7 + 1))]) (as := [.inl 1, .inl 999]) 1 8 (sh_cTp_passNumber e10) q4_37 q4_34 q4_35 q4_36 q1_2 (by decide) rfl (by decide) rfl (by decide) (by decide +kernel) (by decide) rfl (Nat.le_of_ble_eq_true rfl) (show decode cX10_readHour 30 = .ok (.invokevirtual 129, 3) by decide +kernel) rfl ?_
    obtain ⟨σ13, e14, h⟩ := bnd_i h
    refine yo_putI T7 9 16 172 (by omega) (by rcases c8 with rfl | rfl <;> rfl) (by decide) (by decide) q2_17 rfl (show decode cX10_readHour 33 = .ok (.putfield 172, 3) by decide +kernel) rfl rfl (ov_set1 e14 (by rcases c8 with rfl | rfl <;> rfl)) ?_
    refine y_aload_n (show decode cX10_readHour 36 = .ok (.aload_n 0, 1) by decide +kernel) 0 rfl ?_
    obtain ⟨T15, c16, c17, h⟩ := chkT_some h
    refine y_getf 53 10 1 15 (by decide) rfl (by decide) (by decide) q2_69 (show decode cX10_readHour 37 = .ok (.getfield 15, 3) by decide +kernel) (v := .inr (.inr (T15 + 1))) (by rw [← c17]; rfl) ?_
    refine y_getf T15 9 16 172 (by omega) (by rcases c16 with rfl | rfl <;> rfl) (by decide) (by decide) q2_17 (show decode cX10_readHour 40 = .ok (.getfield 172, 3) by decide +kernel) (v := .inl (σ13 T15 16)) (by rcases c16 with rfl | rfl <;> rfl) ?_
    refine y_iconst (show decode cX10_readHour 43 = .ok (.iconst (-1), 1) by decide +kernel) rfl ?_
    by_cases c18 : (σ13 T15 16) = (-1)
    · rw [if_pos c18] at h
      refine y_icmp_eq_t (tgt := 51) (show decode cX10_readHour 44 = .ok (.if_icmp .eq 7, 3) by decide +kernel) rfl c18 ?_
      refine y_iconst (show decode cX10_readHour 51 = .ok (.iconst 0, 1) by decide +kernel) rfl ?_
      cases h
      exact y_zret (show decode cX10_readHour 52 = .ok (.ireturn, 1) by decide +kernel) rfl (Or.inl rfl)
    · rw [if_neg c18] at h
      refine y_icmp_eq_f (show decode cX10_readHour 44 = .ok (.if_icmp .eq 7, 3) by decide +kernel) c18 (by decide) ?_
      refine y_iconst (show decode cX10_readHour 47 = .ok (.iconst 1, 1) by decide +kernel) rfl ?_
      refine y_goto (tgt := 52) (show decode cX10_readHour 48 = .ok (.goto 4, 3) by decide +kernel) rfl ?_
      cases h
      exact y_zret (show decode cX10_readHour 52 = .ok (.ireturn, 1) by decide +kernel) rfl (Or.inr rfl)
  · rw [if_neg c4] at h
    refine y_if_ne_f (show decode cX10_readHour 8 = .ok (.ifCond .ne 5, 3) by decide +kernel) c4 (by decide) ?_
    refine y_iconst (show decode cX10_readHour 11 = .ok (.iconst 0, 1) by decide +kernel) rfl ?_
    cases h
    exact y_zret (show decode cX10_readHour 12 = .ok (.ireturn, 1) by decide +kernel) rfl (Or.inl rfl)
abbrev MX10_readStrokes : yM := (yX10_readStrokes, cX10_readStrokes, 1, some .boolean)
def cRd_readStrokes (N : Nat) (σ : ySt) : Option (Int × ySt) :=
  bndR (cRd_startLine N (σ 53 3) σ) fun r2 σ3 =>
  if ¬ r2 = 0 then
    bnd (yset σ3 53 3 1) fun σ5 =>
    chkT (σ5 53 1) fun T7 =>
    bndR (cTp_passNumber N 1 8 σ5) fun r11 σ12 =>
    bnd (yset σ12 T7 17 r11) fun σ13 =>
    chkT (σ13 53 1) fun T15 =>
    if (σ13 T15 17) = (-1) then
      some (0, σ13)
    else
      some (1, σ13)
  else
    some (0, σ3)
set_option maxHeartbeats 4000000 in
set_option maxRecDepth 10000 in
theorem sh_cRd_readStrokes {E : yE} {N : Nat} {σ : ySt} {ρ : Int} {τ : ySt} (h : cRd_readStrokes N σ = some (ρ, τ)) : Con E MX10_readStrokes 10 0 0 [.inr (.inr (53 + 1))] 150 (ov σ) (some (.inl ρ)) (ov τ) := by
  unfold cRd_readStrokes at h
  refine Con.ofY (by decide +kernel) (by simp [yWords, yCat]) (fun hok _ => ?_)
  show Y E MX10_readStrokes (yRm 10 0 0) (yQf E (150 + 0) 0 0 (some (.inl ρ)) (ov τ)) 0 [(0, .inr (.inr (53 + 1)))] [] (ov σ) 150 0 0
  refine y_aload_n (show decode cX10_readStrokes 0 = .ok (.aload_n 0, 1) by decide +kernel) 0 rfl ?_
  refine y_aload_n (show decode cX10_readStrokes 1 = .ok (.aload_n 0, 1) by decide +kernel) 0 rfl ?_
  refine y_getf 53 10 3 28 (by decide) rfl (by decide) (by decide) q2_71 (show decode cX10_readStrokes 2 = .ok (.getfield 28, 3) by decide +kernel) (v := .inl (σ 53 3)) rfl ?_
  obtain ⟨r2, σ3, e1, h⟩ := bndR_some h
  refine y_callV (np := 1) (st := []) (as := [.inl (σ 53 3)]) 53 10 (sh_cRd_startLine e1) q3_231 q3_228 q3_230 qs1_7 q1_9 (by decide) rfl (by decide) rfl (by decide) (by decide +kernel) (by decide) rfl (Nat.le_of_ble_eq_true rfl) (show decode cX10_readStrokes 5 = .ok (.invokevirtual 104, 3) by decide +kernel) rfl ?_
  by_cases c4 : ¬ r2 = 0
  · rw [if_pos c4] at h
    refine y_if_ne_t (tgt := 13) (show decode cX10_readStrokes 8 = .ok (.ifCond .ne 5, 3) by decide +kernel) rfl c4 ?_
    refine y_aload_n (show decode cX10_readStrokes 13 = .ok (.aload_n 0, 1) by decide +kernel) 0 rfl ?_
    refine y_iconst (show decode cX10_readStrokes 14 = .ok (.iconst 1, 1) by decide +kernel) rfl ?_
    obtain ⟨σ5, e6, h⟩ := bnd_i h
    refine yo_putZ 53 10 3 28 (by decide) rfl (by decide) (by decide) q2_71 rfl (show decode cX10_readStrokes 15 = .ok (.putfield 28, 3) by decide +kernel) rfl rfl (Or.inr rfl) (ov_set1 e6 rfl) ?_
    refine y_aload_n (show decode cX10_readStrokes 18 = .ok (.aload_n 0, 1) by decide +kernel) 0 rfl ?_
    obtain ⟨T7, c8, c9, h⟩ := chkT_some h
    refine y_getf 53 10 1 15 (by decide) rfl (by decide) (by decide) q2_69 (show decode cX10_readStrokes 19 = .ok (.getfield 15, 3) by decide +kernel) (v := .inr (.inr (T7 + 1))) (by rw [← c9]; rfl) ?_
    refine y_aload_n (show decode cX10_readStrokes 22 = .ok (.aload_n 0, 1) by decide +kernel) 0 rfl ?_
    refine y_getf 53 10 0 9 (by decide) rfl (by decide) (by decide) q2_68 (show decode cX10_readStrokes 23 = .ok (.getfield 9, 3) by decide +kernel) (v := .inr (.inr (1 + 1))) rfl ?_
    refine y_iconst (show decode cX10_readStrokes 26 = .ok (.iconst 1, 1) by decide +kernel) rfl ?_
    refine y_bipush (show decode cX10_readStrokes 27 = .ok (.bipush 8, 2) by decide +kernel) rfl rfl ?_
    obtain ⟨r11, σ12, e10, h⟩ := bndR_some h
    refine y_callV (np := 2) (st := [.inr (.inr (T7 + 1))]) (as := [.inl 1, .inl 8]) 1 8 (sh_cTp_passNumber e10) q4_37 q4_34 q4_35 q4_36 q1_2 (by decide) rfl (by decide) rfl (by decide) (by decide +kernel) (by decide) rfl (Nat.le_of_ble_eq_true rfl) (show decode cX10_readStrokes 29 = .ok (.invokevirtual 129, 3) by decide +kernel) rfl ?_
    obtain ⟨σ13, e14, h⟩ := bnd_i h
    refine yo_putI T7 9 17 175 (by omega) (by rcases c8 with rfl | rfl <;> rfl) (by decide) (by decide) q2_24 rfl (show decode cX10_readStrokes 32 = .ok (.putfield 175, 3) by decide +kernel) rfl rfl (ov_set1 e14 (by rcases c8 with rfl | rfl <;> rfl)) ?_
    refine y_aload_n (show decode cX10_readStrokes 35 = .ok (.aload_n 0, 1) by decide +kernel) 0 rfl ?_
    obtain ⟨T15, c16, c17, h⟩ := chkT_some h
    refine y_getf 53 10 1 15 (by decide) rfl (by decide) (by decide) q2_69 (show decode cX10_readStrokes 36 = .ok (.getfield 15, 3) by decide +kernel) (v := .inr (.inr (T15 + 1))) (by rw [← c17]; rfl) ?_
    refine y_getf T15 9 17 175 (by omega) (by rcases c16 with rfl | rfl <;> rfl) (by decide) (by decide) q2_24 (show decode cX10_readStrokes 39 = .ok (.getfield 175, 3) by decide +kernel) (v := .inl (σ13 T15 17)) (by rcases c16 with rfl | rfl <;> rfl) ?_
    refine y_iconst (show decode cX10_readStrokes 42 = .ok (.iconst (-1), 1) by decide +kernel) rfl ?_
    by_cases c18 : (σ13 T15 17) = (-1)
    · rw [if_pos c18] at h
      refine y_icmp_eq_t (tgt := 50) (show decode cX10_readStrokes 43 = .ok (.if_icmp .eq 7, 3) by decide +kernel) rfl c18 ?_
      refine y_iconst (show decode cX10_readStrokes 50 = .ok (.iconst 0, 1) by decide +kernel) rfl ?_
      cases h
      exact y_zret (show decode cX10_readStrokes 51 = .ok (.ireturn, 1) by decide +kernel) rfl (Or.inl rfl)
    · rw [if_neg c18] at h
      refine y_icmp_eq_f (show decode cX10_readStrokes 43 = .ok (.if_icmp .eq 7, 3) by decide +kernel) c18 (by decide) ?_
      refine y_iconst (show decode cX10_readStrokes 46 = .ok (.iconst 1, 1) by decide +kernel) rfl ?_
      refine y_goto (tgt := 51) (show decode cX10_readStrokes 47 = .ok (.goto 4, 3) by decide +kernel) rfl ?_
      cases h
      exact y_zret (show decode cX10_readStrokes 51 = .ok (.ireturn, 1) by decide +kernel) rfl (Or.inr rfl)
  · rw [if_neg c4] at h
    refine y_if_ne_f (show decode cX10_readStrokes 8 = .ok (.ifCond .ne 5, 3) by decide +kernel) c4 (by decide) ?_
    refine y_iconst (show decode cX10_readStrokes 11 = .ok (.iconst 0, 1) by decide +kernel) rfl ?_
    cases h
    exact y_zret (show decode cX10_readStrokes 12 = .ok (.ireturn, 1) by decide +kernel) rfl (Or.inl rfl)
abbrev MX10_readRule : yM := (yX10_readRule, cX10_readRule, 1, some .boolean)
def cRd_readRule (N : Nat) (σ : ySt) : Option (Int × ySt) :=
  bndR (cRd_startLine N (σ 53 4) σ) fun r2 σ3 =>
  if ¬ r2 = 0 then
    bnd (yset σ3 53 4 1) fun σ5 =>
    chkT (σ5 53 1) fun T7 =>
    bndR (cRu_read N 64 0 (T7 + 17) 0 σ5) fun r11 σ12 =>
    chk (r11 = 0 ∨ r11 = 1) <|
    some (r11, σ12)
  else
    some (0, σ3)
set_option maxHeartbeats 4000000 in
set_option maxRecDepth 10000 in
theorem sh_cRd_readRule {E : yE} {N : Nat} {σ : ySt} {ρ : Int} {τ : ySt} (h : cRd_readRule N σ = some (ρ, τ)) : Con E MX10_readRule 75 0 0 [.inr (.inr (53 + 1))] 150 (ov σ) (some (.inl ρ)) (ov τ) := by
  unfold cRd_readRule at h
  refine Con.ofY (by decide +kernel) (by simp [yWords, yCat]) (fun hok _ => ?_)
  show Y E MX10_readRule (yRm 75 0 0) (yQf E (150 + 0) 0 0 (some (.inl ρ)) (ov τ)) 0 [(0, .inr (.inr (53 + 1)))] [] (ov σ) 150 0 0
  refine y_aload_n (show decode cX10_readRule 0 = .ok (.aload_n 0, 1) by decide +kernel) 0 rfl ?_
  refine y_aload_n (show decode cX10_readRule 1 = .ok (.aload_n 0, 1) by decide +kernel) 0 rfl ?_
  refine y_getf 53 10 4 31 (by decide) rfl (by decide) (by decide) q2_72 (show decode cX10_readRule 2 = .ok (.getfield 31, 3) by decide +kernel) (v := .inl (σ 53 4)) rfl ?_
  obtain ⟨r2, σ3, e1, h⟩ := bndR_some h
  refine y_callV (np := 1) (st := []) (as := [.inl (σ 53 4)]) 53 10 (sh_cRd_startLine e1) q3_231 q3_228 q3_230 qs1_7 q1_9 (by decide) rfl (by decide) rfl (by decide) (by decide +kernel) (by decide) rfl (Nat.le_of_ble_eq_true rfl) (show decode cX10_readRule 5 = .ok (.invokevirtual 104, 3) by decide +kernel) rfl ?_
  by_cases c4 : ¬ r2 = 0
  · rw [if_pos c4] at h
    refine y_if_ne_t (tgt := 13) (show decode cX10_readRule 8 = .ok (.ifCond .ne 5, 3) by decide +kernel) rfl c4 ?_
    refine y_aload_n (show decode cX10_readRule 13 = .ok (.aload_n 0, 1) by decide +kernel) 0 rfl ?_
    refine y_iconst (show decode cX10_readRule 14 = .ok (.iconst 1, 1) by decide +kernel) rfl ?_
    obtain ⟨σ5, e6, h⟩ := bnd_i h
    refine yo_putZ 53 10 4 31 (by decide) rfl (by decide) (by decide) q2_72 rfl (show decode cX10_readRule 15 = .ok (.putfield 31, 3) by decide +kernel) rfl rfl (Or.inr rfl) (ov_set1 e6 rfl) ?_
    refine y_aload_n (show decode cX10_readRule 18 = .ok (.aload_n 0, 1) by decide +kernel) 0 rfl ?_
    obtain ⟨T7, c8, c9, h⟩ := chkT_some h
    refine y_getf 53 10 1 15 (by decide) rfl (by decide) (by decide) q2_69 (show decode cX10_readRule 19 = .ok (.getfield 15, 3) by decide +kernel) (v := .inr (.inr (T7 + 1))) (by rw [← c9]; rfl) ?_
    refine y_getf T7 9 13 178 (by omega) (by rcases c8 with rfl | rfl <;> rfl) (by decide) (by decide) q2_5 (show decode cX10_readRule 22 = .ok (.getfield 178, 3) by decide +kernel) (v := .inr (.inr ((T7 + 17) + 1))) (by rcases c8 with rfl | rfl <;> rfl) ?_
    refine y_aload_n (show decode cX10_readRule 25 = .ok (.aload_n 0, 1) by decide +kernel) 0 rfl ?_
    refine y_getf 53 10 0 9 (by decide) rfl (by decide) (by decide) q2_68 (show decode cX10_readRule 26 = .ok (.getfield 9, 3) by decide +kernel) (v := .inr (.inr (1 + 1))) rfl ?_
    refine y_iconst (show decode cX10_readRule 29 = .ok (.iconst 0, 1) by decide +kernel) rfl ?_
    obtain ⟨r11, σ12, e10, h⟩ := bndR_some h
    refine y_callVN (np := 2) (st := []) (as := [.inr (.inr (1 + 1)), .inl 0]) (T7 + 17) 7 (sh_cRu_read_readEither e10) q4_69 (List.mem_of_getElem? (i := 6) rfl) q4_68 qs2_1 q1_7 (by omega) (by rcases c8 with rfl | rfl <;> rfl) (by decide) rfl (by decide) (by decide +kernel) (by decide) rfl (Nat.le_of_ble_eq_true rfl) (show decode cX10_readRule 30 = .ok (.invokevirtual 182, 3) by decide +kernel) rfl ?_
    obtain ⟨c13, h⟩ := chk_some h
    cases h
    exact y_zret (show decode cX10_readRule 33 = .ok (.ireturn, 1) by decide +kernel) rfl c13
  · rw [if_neg c4] at h
    refine y_if_ne_f (show decode cX10_readRule 8 = .ok (.ifCond .ne 5, 3) by decide +kernel) c4 (by decide) ?_
    refine y_iconst (show decode cX10_readRule 11 = .ok (.iconst 0, 1) by decide +kernel) rfl ?_
    cases h
    exact y_zret (show decode cX10_readRule 12 = .ok (.ireturn, 1) by decide +kernel) rfl (Or.inl rfl)
abbrev MX10_readLine : yM := (yX10_readLine, cX10_readLine, 1, some .boolean)
def cRd_readLine (N : Nat) (σ : ySt) : Option (Int × ySt) :=
  if (σ 1 3) = 100 then
    bndR (cRd_readPlace N σ) fun r3 σ4 =>
    chk (r3 = 0 ∨ r3 = 1) <|
    some (r3, σ4)
  else
  if (σ 1 3) = 101 then
    bndR (cTp_refuse σ) fun r8 σ9 =>
    chk (r8 = 0 ∨ r8 = 1) <|
    some (r8, σ9)
  else
  if (σ 1 3) = 102 then
    bndR (cRd_readWay N σ) fun r13 σ14 =>
    chk (r13 = 0 ∨ r13 = 1) <|
    some (r13, σ14)
  else
  if (σ 1 3) = 103 then
    bndR (cTp_refuse σ) fun r18 σ19 =>
    chk (r18 = 0 ∨ r18 = 1) <|
    some (r18, σ19)
  else
  if (σ 1 3) = 104 then
    bndR (cRd_readPerson N σ) fun r23 σ24 =>
    chk (r23 = 0 ∨ r23 = 1) <|
    some (r23, σ24)
  else
  if (σ 1 3) = 105 then
    bndR (cTp_refuse σ) fun r28 σ29 =>
    chk (r28 = 0 ∨ r28 = 1) <|
    some (r28, σ29)
  else
  if (σ 1 3) = 106 then
    bndR (cTp_refuse σ) fun r33 σ34 =>
    chk (r33 = 0 ∨ r33 = 1) <|
    some (r33, σ34)
  else
  if (σ 1 3) = 107 then
    bndR (cRd_readDog N σ) fun r38 σ39 =>
    chk (r38 = 0 ∨ r38 = 1) <|
    some (r38, σ39)
  else
  if (σ 1 3) = 108 then
    bndR (cRd_readErrand N σ) fun r43 σ44 =>
    chk (r43 = 0 ∨ r43 = 1) <|
    some (r43, σ44)
  else
  if (σ 1 3) = 109 then
    bndR (cTp_refuse σ) fun r48 σ49 =>
    chk (r48 = 0 ∨ r48 = 1) <|
    some (r48, σ49)
  else
  if (σ 1 3) = 110 then
    bndR (cTp_refuse σ) fun r53 σ54 =>
    chk (r53 = 0 ∨ r53 = 1) <|
    some (r53, σ54)
  else
  if (σ 1 3) = 111 then
    bndR (cRd_readHour N σ) fun r58 σ59 =>
    chk (r58 = 0 ∨ r58 = 1) <|
    some (r58, σ59)
  else
  if (σ 1 3) = 112 then
    bndR (cRd_readStrokes N σ) fun r63 σ64 =>
    chk (r63 = 0 ∨ r63 = 1) <|
    some (r63, σ64)
  else
  if (σ 1 3) = 113 then
    bndR (cRd_readRule N σ) fun r68 σ69 =>
    chk (r68 = 0 ∨ r68 = 1) <|
    some (r68, σ69)
  else
  bndR (cTp_refuse σ) fun r72 σ73 =>
    chk (r72 = 0 ∨ r72 = 1) <|
    some (r72, σ73)
set_option maxHeartbeats 4000000 in
set_option maxRecDepth 10000 in
theorem sh_cRd_readLine {E : yE} {N : Nat} {σ : ySt} {ρ : Int} {τ : ySt} (h : cRd_readLine N σ = some (ρ, τ)) : Con E MX10_readLine 76 0 0 [.inr (.inr (53 + 1))] 150 (ov σ) (some (.inl ρ)) (ov τ) := by
  unfold cRd_readLine at h
  refine Con.ofY (by decide +kernel) (by simp [yWords, yCat]) (fun hok _ => ?_)
  show Y E MX10_readLine (yRm 76 0 0) (yQf E (150 + 0) 0 0 (some (.inl ρ)) (ov τ)) 0 [(0, .inr (.inr (53 + 1)))] [] (ov σ) 150 0 0
  refine y_aload_n (show decode cX10_readLine 0 = .ok (.aload_n 0, 1) by decide +kernel) 0 rfl ?_
  refine y_getf 53 10 0 9 (by decide) rfl (by decide) (by decide) q2_68 (show decode cX10_readLine 1 = .ok (.getfield 9, 3) by decide +kernel) (v := .inr (.inr (1 + 1))) rfl ?_
  refine y_getf 1 8 3 39 (by decide) rfl (by decide) (by decide) q1_40 (show decode cX10_readLine 4 = .ok (.getfield 39, 3) by decide +kernel) (v := .inl (σ 1 3)) rfl ?_
  by_cases c1 : (σ 1 3) = 100
  · rw [if_pos c1] at h
    refine y_tableIn (off := 69) (tgt := 76) (show decode cX10_readLine 7 = .ok (.tableswitch 109 100 113 #[69, 109, 74, 109, 79, 109, 109, 84, 89, 109, 109, 94, 99, 104], 69) by decide +kernel) (by omega) (by omega) (by rw [c1]; rfl) rfl ?_
    refine y_aload_n (show decode cX10_readLine 76 = .ok (.aload_n 0, 1) by decide +kernel) 0 rfl ?_
    obtain ⟨r3, σ4, e2, h⟩ := bndR_some h
    refine y_callV (np := 0) (st := []) (as := []) 53 10 (sh_cRd_readPlace e2) q3_223 q3_220 q3_222 qs1_6 q1_9 (by decide) rfl (by decide) rfl (by decide) (by decide +kernel) (by decide) rfl (Nat.le_of_ble_eq_true rfl) (show decode cX10_readLine 77 = .ok (.invokevirtual 54, 3) by decide +kernel) rfl ?_
    obtain ⟨c5, h⟩ := chk_some h
    cases h
    exact y_zret (show decode cX10_readLine 80 = .ok (.ireturn, 1) by decide +kernel) rfl c5
  rw [if_neg c1] at h
  by_cases c6 : (σ 1 3) = 101
  · rw [if_pos c6] at h
    refine y_tableIn (off := 109) (tgt := 116) (show decode cX10_readLine 7 = .ok (.tableswitch 109 100 113 #[69, 109, 74, 109, 79, 109, 109, 84, 89, 109, 109, 94, 99, 104], 69) by decide +kernel) (by omega) (by omega) (by rw [c6]; rfl) rfl ?_
    refine y_aload_n (show decode cX10_readLine 116 = .ok (.aload_n 0, 1) by decide +kernel) 0 rfl ?_
    refine y_getf 53 10 0 9 (by decide) rfl (by decide) (by decide) q2_68 (show decode cX10_readLine 117 = .ok (.getfield 9, 3) by decide +kernel) (v := .inr (.inr (1 + 1))) rfl ?_
    obtain ⟨r8, σ9, e7, h⟩ := bndR_some h
    refine y_callV (np := 0) (st := []) (as := []) 1 8 (sh_cTp_refuse e7) q4_4 q4_1 q4_2 q4_3 q1_2 (by decide) rfl (by decide) rfl (by decide) (by decide +kernel) (by decide) rfl (Nat.le_of_ble_eq_true rfl) (show decode cX10_readLine 120 = .ok (.invokevirtual 78, 3) by decide +kernel) rfl ?_
    obtain ⟨c10, h⟩ := chk_some h
    cases h
    exact y_zret (show decode cX10_readLine 123 = .ok (.ireturn, 1) by decide +kernel) rfl c10
  rw [if_neg c6] at h
  by_cases c11 : (σ 1 3) = 102
  · rw [if_pos c11] at h
    refine y_tableIn (off := 74) (tgt := 81) (show decode cX10_readLine 7 = .ok (.tableswitch 109 100 113 #[69, 109, 74, 109, 79, 109, 109, 84, 89, 109, 109, 94, 99, 104], 69) by decide +kernel) (by omega) (by omega) (by rw [c11]; rfl) rfl ?_
    refine y_aload_n (show decode cX10_readLine 81 = .ok (.aload_n 0, 1) by decide +kernel) 0 rfl ?_
    obtain ⟨r13, σ14, e12, h⟩ := bndR_some h
    refine y_callV (np := 0) (st := []) (as := []) 53 10 (sh_cRd_readWay e12) q4_18 q4_15 q4_17 qs1_9 q1_9 (by decide) rfl (by decide) rfl (by decide) (by decide +kernel) (by decide) rfl (Nat.le_of_ble_eq_true rfl) (show decode cX10_readLine 82 = .ok (.invokevirtual 57, 3) by decide +kernel) rfl ?_
    obtain ⟨c15, h⟩ := chk_some h
    cases h
    exact y_zret (show decode cX10_readLine 85 = .ok (.ireturn, 1) by decide +kernel) rfl c15
  rw [if_neg c11] at h
  by_cases c16 : (σ 1 3) = 103
  · rw [if_pos c16] at h
    refine y_tableIn (off := 109) (tgt := 116) (show decode cX10_readLine 7 = .ok (.tableswitch 109 100 113 #[69, 109, 74, 109, 79, 109, 109, 84, 89, 109, 109, 94, 99, 104], 69) by decide +kernel) (by omega) (by omega) (by rw [c16]; rfl) rfl ?_
    refine y_aload_n (show decode cX10_readLine 116 = .ok (.aload_n 0, 1) by decide +kernel) 0 rfl ?_
    refine y_getf 53 10 0 9 (by decide) rfl (by decide) (by decide) q2_68 (show decode cX10_readLine 117 = .ok (.getfield 9, 3) by decide +kernel) (v := .inr (.inr (1 + 1))) rfl ?_
    obtain ⟨r18, σ19, e17, h⟩ := bndR_some h
    refine y_callV (np := 0) (st := []) (as := []) 1 8 (sh_cTp_refuse e17) q4_4 q4_1 q4_2 q4_3 q1_2 (by decide) rfl (by decide) rfl (by decide) (by decide +kernel) (by decide) rfl (Nat.le_of_ble_eq_true rfl) (show decode cX10_readLine 120 = .ok (.invokevirtual 78, 3) by decide +kernel) rfl ?_
    obtain ⟨c20, h⟩ := chk_some h
    cases h
    exact y_zret (show decode cX10_readLine 123 = .ok (.ireturn, 1) by decide +kernel) rfl c20
  rw [if_neg c16] at h
  by_cases c21 : (σ 1 3) = 104
  · rw [if_pos c21] at h
    refine y_tableIn (off := 79) (tgt := 86) (show decode cX10_readLine 7 = .ok (.tableswitch 109 100 113 #[69, 109, 74, 109, 79, 109, 109, 84, 89, 109, 109, 94, 99, 104], 69) by decide +kernel) (by omega) (by omega) (by rw [c21]; rfl) rfl ?_
    refine y_aload_n (show decode cX10_readLine 86 = .ok (.aload_n 0, 1) by decide +kernel) 0 rfl ?_
    obtain ⟨r23, σ24, e22, h⟩ := bndR_some h
    refine y_callV (np := 0) (st := []) (as := []) 53 10 (sh_cRd_readPerson e22) q4_45 q4_42 q4_44 qs1_11 q1_9 (by decide) rfl (by decide) rfl (by decide) (by decide +kernel) (by decide) rfl (Nat.le_of_ble_eq_true rfl) (show decode cX10_readLine 87 = .ok (.invokevirtual 60, 3) by decide +kernel) rfl ?_
    obtain ⟨c25, h⟩ := chk_some h
    cases h
    exact y_zret (show decode cX10_readLine 90 = .ok (.ireturn, 1) by decide +kernel) rfl c25
  rw [if_neg c21] at h
  by_cases c26 : (σ 1 3) = 105
  · rw [if_pos c26] at h
    refine y_tableIn (off := 109) (tgt := 116) (show decode cX10_readLine 7 = .ok (.tableswitch 109 100 113 #[69, 109, 74, 109, 79, 109, 109, 84, 89, 109, 109, 94, 99, 104], 69) by decide +kernel) (by omega) (by omega) (by rw [c26]; rfl) rfl ?_
    refine y_aload_n (show decode cX10_readLine 116 = .ok (.aload_n 0, 1) by decide +kernel) 0 rfl ?_
    refine y_getf 53 10 0 9 (by decide) rfl (by decide) (by decide) q2_68 (show decode cX10_readLine 117 = .ok (.getfield 9, 3) by decide +kernel) (v := .inr (.inr (1 + 1))) rfl ?_
    obtain ⟨r28, σ29, e27, h⟩ := bndR_some h
    refine y_callV (np := 0) (st := []) (as := []) 1 8 (sh_cTp_refuse e27) q4_4 q4_1 q4_2 q4_3 q1_2 (by decide) rfl (by decide) rfl (by decide) (by decide +kernel) (by decide) rfl (Nat.le_of_ble_eq_true rfl) (show decode cX10_readLine 120 = .ok (.invokevirtual 78, 3) by decide +kernel) rfl ?_
    obtain ⟨c30, h⟩ := chk_some h
    cases h
    exact y_zret (show decode cX10_readLine 123 = .ok (.ireturn, 1) by decide +kernel) rfl c30
  rw [if_neg c26] at h
  by_cases c31 : (σ 1 3) = 106
  · rw [if_pos c31] at h
    refine y_tableIn (off := 109) (tgt := 116) (show decode cX10_readLine 7 = .ok (.tableswitch 109 100 113 #[69, 109, 74, 109, 79, 109, 109, 84, 89, 109, 109, 94, 99, 104], 69) by decide +kernel) (by omega) (by omega) (by rw [c31]; rfl) rfl ?_
    refine y_aload_n (show decode cX10_readLine 116 = .ok (.aload_n 0, 1) by decide +kernel) 0 rfl ?_
    refine y_getf 53 10 0 9 (by decide) rfl (by decide) (by decide) q2_68 (show decode cX10_readLine 117 = .ok (.getfield 9, 3) by decide +kernel) (v := .inr (.inr (1 + 1))) rfl ?_
    obtain ⟨r33, σ34, e32, h⟩ := bndR_some h
    refine y_callV (np := 0) (st := []) (as := []) 1 8 (sh_cTp_refuse e32) q4_4 q4_1 q4_2 q4_3 q1_2 (by decide) rfl (by decide) rfl (by decide) (by decide +kernel) (by decide) rfl (Nat.le_of_ble_eq_true rfl) (show decode cX10_readLine 120 = .ok (.invokevirtual 78, 3) by decide +kernel) rfl ?_
    obtain ⟨c35, h⟩ := chk_some h
    cases h
    exact y_zret (show decode cX10_readLine 123 = .ok (.ireturn, 1) by decide +kernel) rfl c35
  rw [if_neg c31] at h
  by_cases c36 : (σ 1 3) = 107
  · rw [if_pos c36] at h
    refine y_tableIn (off := 84) (tgt := 91) (show decode cX10_readLine 7 = .ok (.tableswitch 109 100 113 #[69, 109, 74, 109, 79, 109, 109, 84, 89, 109, 109, 94, 99, 104], 69) by decide +kernel) (by omega) (by omega) (by rw [c36]; rfl) rfl ?_
    refine y_aload_n (show decode cX10_readLine 91 = .ok (.aload_n 0, 1) by decide +kernel) 0 rfl ?_
    obtain ⟨r38, σ39, e37, h⟩ := bndR_some h
    refine y_callV (np := 0) (st := []) (as := []) 53 10 (sh_cRd_readDog e37) q4_49 q4_46 q4_48 qs1_12 q1_9 (by decide) rfl (by decide) rfl (by decide) (by decide +kernel) (by decide) rfl (Nat.le_of_ble_eq_true rfl) (show decode cX10_readLine 92 = .ok (.invokevirtual 63, 3) by decide +kernel) rfl ?_
    obtain ⟨c40, h⟩ := chk_some h
    cases h
    exact y_zret (show decode cX10_readLine 95 = .ok (.ireturn, 1) by decide +kernel) rfl c40
  rw [if_neg c36] at h
  by_cases c41 : (σ 1 3) = 108
  · rw [if_pos c41] at h
    refine y_tableIn (off := 89) (tgt := 96) (show decode cX10_readLine 7 = .ok (.tableswitch 109 100 113 #[69, 109, 74, 109, 79, 109, 109, 84, 89, 109, 109, 94, 99, 104], 69) by decide +kernel) (by omega) (by omega) (by rw [c41]; rfl) rfl ?_
    refine y_aload_n (show decode cX10_readLine 96 = .ok (.aload_n 0, 1) by decide +kernel) 0 rfl ?_
    obtain ⟨r43, σ44, e42, h⟩ := bndR_some h
    refine y_callV (np := 0) (st := []) (as := []) 53 10 (sh_cRd_readErrand e42) q4_53 q4_50 q4_52 qs1_13 q1_9 (by decide) rfl (by decide) rfl (by decide) (by decide +kernel) (by decide) rfl (Nat.le_of_ble_eq_true rfl) (show decode cX10_readLine 97 = .ok (.invokevirtual 66, 3) by decide +kernel) rfl ?_
    obtain ⟨c45, h⟩ := chk_some h
    cases h
    exact y_zret (show decode cX10_readLine 100 = .ok (.ireturn, 1) by decide +kernel) rfl c45
  rw [if_neg c41] at h
  by_cases c46 : (σ 1 3) = 109
  · rw [if_pos c46] at h
    refine y_tableIn (off := 109) (tgt := 116) (show decode cX10_readLine 7 = .ok (.tableswitch 109 100 113 #[69, 109, 74, 109, 79, 109, 109, 84, 89, 109, 109, 94, 99, 104], 69) by decide +kernel) (by omega) (by omega) (by rw [c46]; rfl) rfl ?_
    refine y_aload_n (show decode cX10_readLine 116 = .ok (.aload_n 0, 1) by decide +kernel) 0 rfl ?_
    refine y_getf 53 10 0 9 (by decide) rfl (by decide) (by decide) q2_68 (show decode cX10_readLine 117 = .ok (.getfield 9, 3) by decide +kernel) (v := .inr (.inr (1 + 1))) rfl ?_
    obtain ⟨r48, σ49, e47, h⟩ := bndR_some h
    refine y_callV (np := 0) (st := []) (as := []) 1 8 (sh_cTp_refuse e47) q4_4 q4_1 q4_2 q4_3 q1_2 (by decide) rfl (by decide) rfl (by decide) (by decide +kernel) (by decide) rfl (Nat.le_of_ble_eq_true rfl) (show decode cX10_readLine 120 = .ok (.invokevirtual 78, 3) by decide +kernel) rfl ?_
    obtain ⟨c50, h⟩ := chk_some h
    cases h
    exact y_zret (show decode cX10_readLine 123 = .ok (.ireturn, 1) by decide +kernel) rfl c50
  rw [if_neg c46] at h
  by_cases c51 : (σ 1 3) = 110
  · rw [if_pos c51] at h
    refine y_tableIn (off := 109) (tgt := 116) (show decode cX10_readLine 7 = .ok (.tableswitch 109 100 113 #[69, 109, 74, 109, 79, 109, 109, 84, 89, 109, 109, 94, 99, 104], 69) by decide +kernel) (by omega) (by omega) (by rw [c51]; rfl) rfl ?_
    refine y_aload_n (show decode cX10_readLine 116 = .ok (.aload_n 0, 1) by decide +kernel) 0 rfl ?_
    refine y_getf 53 10 0 9 (by decide) rfl (by decide) (by decide) q2_68 (show decode cX10_readLine 117 = .ok (.getfield 9, 3) by decide +kernel) (v := .inr (.inr (1 + 1))) rfl ?_
    obtain ⟨r53, σ54, e52, h⟩ := bndR_some h
    refine y_callV (np := 0) (st := []) (as := []) 1 8 (sh_cTp_refuse e52) q4_4 q4_1 q4_2 q4_3 q1_2 (by decide) rfl (by decide) rfl (by decide) (by decide +kernel) (by decide) rfl (Nat.le_of_ble_eq_true rfl) (show decode cX10_readLine 120 = .ok (.invokevirtual 78, 3) by decide +kernel) rfl ?_
    obtain ⟨c55, h⟩ := chk_some h
    cases h
    exact y_zret (show decode cX10_readLine 123 = .ok (.ireturn, 1) by decide +kernel) rfl c55
  rw [if_neg c51] at h
  by_cases c56 : (σ 1 3) = 111
  · rw [if_pos c56] at h
    refine y_tableIn (off := 94) (tgt := 101) (show decode cX10_readLine 7 = .ok (.tableswitch 109 100 113 #[69, 109, 74, 109, 79, 109, 109, 84, 89, 109, 109, 94, 99, 104], 69) by decide +kernel) (by omega) (by omega) (by rw [c56]; rfl) rfl ?_
    refine y_aload_n (show decode cX10_readLine 101 = .ok (.aload_n 0, 1) by decide +kernel) 0 rfl ?_
    obtain ⟨r58, σ59, e57, h⟩ := bndR_some h
    refine y_callV (np := 0) (st := []) (as := []) 53 10 (sh_cRd_readHour e57) q4_57 q4_54 q4_56 qs1_14 q1_9 (by decide) rfl (by decide) rfl (by decide) (by decide +kernel) (by decide) rfl (Nat.le_of_ble_eq_true rfl) (show decode cX10_readLine 102 = .ok (.invokevirtual 69, 3) by decide +kernel) rfl ?_
    obtain ⟨c60, h⟩ := chk_some h
    cases h
    exact y_zret (show decode cX10_readLine 105 = .ok (.ireturn, 1) by decide +kernel) rfl c60
  rw [if_neg c56] at h
  by_cases c61 : (σ 1 3) = 112
  · rw [if_pos c61] at h
    refine y_tableIn (off := 99) (tgt := 106) (show decode cX10_readLine 7 = .ok (.tableswitch 109 100 113 #[69, 109, 74, 109, 79, 109, 109, 84, 89, 109, 109, 94, 99, 104], 69) by decide +kernel) (by omega) (by omega) (by rw [c61]; rfl) rfl ?_
    refine y_aload_n (show decode cX10_readLine 106 = .ok (.aload_n 0, 1) by decide +kernel) 0 rfl ?_
    obtain ⟨r63, σ64, e62, h⟩ := bndR_some h
    refine y_callV (np := 0) (st := []) (as := []) 53 10 (sh_cRd_readStrokes e62) q4_61 q4_58 q4_60 qs1_15 q1_9 (by decide) rfl (by decide) rfl (by decide) (by decide +kernel) (by decide) rfl (Nat.le_of_ble_eq_true rfl) (show decode cX10_readLine 107 = .ok (.invokevirtual 72, 3) by decide +kernel) rfl ?_
    obtain ⟨c65, h⟩ := chk_some h
    cases h
    exact y_zret (show decode cX10_readLine 110 = .ok (.ireturn, 1) by decide +kernel) rfl c65
  rw [if_neg c61] at h
  by_cases c66 : (σ 1 3) = 113
  · rw [if_pos c66] at h
    refine y_tableIn (off := 104) (tgt := 111) (show decode cX10_readLine 7 = .ok (.tableswitch 109 100 113 #[69, 109, 74, 109, 79, 109, 109, 84, 89, 109, 109, 94, 99, 104], 69) by decide +kernel) (by omega) (by omega) (by rw [c66]; rfl) rfl ?_
    refine y_aload_n (show decode cX10_readLine 111 = .ok (.aload_n 0, 1) by decide +kernel) 0 rfl ?_
    obtain ⟨r68, σ69, e67, h⟩ := bndR_some h
    refine y_callV (np := 0) (st := []) (as := []) 53 10 (sh_cRd_readRule e67) q4_65 q4_62 q4_64 qs2_0 q1_9 (by decide) rfl (by decide) rfl (by decide) (by decide +kernel) (by decide) rfl (Nat.le_of_ble_eq_true rfl) (show decode cX10_readLine 112 = .ok (.invokevirtual 75, 3) by decide +kernel) rfl ?_
    obtain ⟨c70, h⟩ := chk_some h
    cases h
    exact y_zret (show decode cX10_readLine 115 = .ok (.ireturn, 1) by decide +kernel) rfl c70
  rw [if_neg c66] at h
  refine y_tableOut (tgt := 116) (show decode cX10_readLine 7 = .ok (.tableswitch 109 100 113 #[69, 109, 74, 109, 79, 109, 109, 84, 89, 109, 109, 94, 99, 104], 69) by decide +kernel) (by omega) rfl ?_
  refine y_aload_n (show decode cX10_readLine 116 = .ok (.aload_n 0, 1) by decide +kernel) 0 rfl ?_
  refine y_getf 53 10 0 9 (by decide) rfl (by decide) (by decide) q2_68 (show decode cX10_readLine 117 = .ok (.getfield 9, 3) by decide +kernel) (v := .inr (.inr (1 + 1))) rfl ?_
  obtain ⟨r72, σ73, e71, h⟩ := bndR_some h
  refine y_callV (np := 0) (st := []) (as := []) 1 8 (sh_cTp_refuse e71) q4_4 q4_1 q4_2 q4_3 q1_2 (by decide) rfl (by decide) rfl (by decide) (by decide +kernel) (by decide) rfl (Nat.le_of_ble_eq_true rfl) (show decode cX10_readLine 120 = .ok (.invokevirtual 78, 3) by decide +kernel) rfl ?_
  obtain ⟨c74, h⟩ := chk_some h
  cases h
  exact y_zret (show decode cX10_readLine 123 = .ok (.ireturn, 1) by decide +kernel) rfl c74
abbrev MX10_readInto : yM := (yX10_readInto, cX10_readInto, 4, some .boolean)
def cRd_readInto (N : Nat) (a : Nat) (σ : ySt) : Option (Int × ySt) :=
  chk (a = 13 ∨ a = 33) <|
  bnd (yset σ 53 1 ((a : Nat) + 1 : Int)) fun σ2 =>
  chkT (σ2 53 1) fun T4 =>
  bndO (cTw_clear N T4 σ2) fun σ8 =>
  bnd (yset σ8 53 2 0) fun σ9 =>
  bnd (yset σ9 53 3 0) fun σ11 =>
  bnd (yset σ11 53 4 0) fun σ13 =>
  bndO (cTp_begin N σ13) fun σ16 =>
  loopS2 (fun k20 x17 x18 σ19 =>
    bnd (if x17 = 0 then
        chk (x17 = 0 ∨ x17 = 1) <|
        some (x17, σ19)
      else
        chkT (σ19 53 1) fun T24 =>
        bndO (cTw_finish N T24 σ19) fun σ28 =>
        chk (x17 = 0 ∨ x17 = 1) <|
        some (x17, σ28)) fun j21 =>
    if x18 ≥ 1600 then
      j21
    else
      if x17 = 0 then
        j21
      else
        if (σ19 1 3) = 0 then
          j21
        else
          bndR (cRd_readLine N σ19) fun r34 σ35 =>
          bnd (fun (y36 : Int) (σ37 : ySt) =>
            chkI (x18 + 1) <|
            k20 y36 (x18 + 1) σ37) fun j38 =>
          if r34 = 0 then
            j38 0 σ35
          else
            bndR (cTp_pass N 59 σ35) fun r42 σ43 =>
            if r42 = 0 then
              j38 0 σ43
            else
              j38 1 σ43) N 1 0 σ16
set_option maxHeartbeats 4000000 in
set_option maxRecDepth 10000 in
theorem sh_cRd_readInto {E : yE} {N : Nat} {a : Nat} {σ : ySt} {ρ : Int} {τ : ySt} (h : cRd_readInto N a σ = some (ρ, τ)) : Con E MX10_readInto 77 0 0 [.inr (.inr (53 + 1)), .inr (.inr (a + 1))] 150 (ov σ) (some (.inl ρ)) (ov τ) := by
  unfold cRd_readInto at h
  refine Con.ofY (by decide +kernel) (by simp [yWords, yCat]) (fun hok _ => ?_)
  show Y E MX10_readInto (yRm 77 0 0) (yQf E (150 + 0) 0 0 (some (.inl ρ)) (ov τ)) 0 [(0, .inr (.inr (53 + 1))), (1, .inr (.inr (a + 1)))] [] (ov σ) 150 0 0
  obtain ⟨c1, h⟩ := chk_some h
  refine y_aload_n (show decode cX10_readInto 0 = .ok (.aload_n 0, 1) by decide +kernel) 0 rfl ?_
  refine y_aload_n (show decode cX10_readInto 1 = .ok (.aload_n 1, 1) by decide +kernel) 1 rfl ?_
  obtain ⟨σ2, e3, h⟩ := bnd_i h
  refine yo_putR 53 10 1 15 a (by decide) rfl (by decide) (by decide) q2_69 rfl (show decode cX10_readInto 2 = .ok (.putfield 15, 3) by decide +kernel) rfl rfl (ov_set1 e3 rfl) ?_
  refine y_aload_n (show decode cX10_readInto 5 = .ok (.aload_n 0, 1) by decide +kernel) 0 rfl ?_
  obtain ⟨T4, c5, c6, h⟩ := chkT_some h
  refine y_getf 53 10 1 15 (by decide) rfl (by decide) (by decide) q2_69 (show decode cX10_readInto 6 = .ok (.getfield 15, 3) by decide +kernel) (v := .inr (.inr (T4 + 1))) (by rw [← c6]; rfl) ?_
  obtain ⟨σ8, e7, h⟩ := bndO_some h
  refine y_callV (np := 0) (st := []) (as := []) T4 9 (sh_cTw_clear e7) q1_183 q3_82 q1_181 q1_182 q1_5 (by omega) (by rcases c5 with rfl | rfl <;> rfl) (by decide) rfl (by decide) (by decide +kernel) (by decide) rfl (Nat.le_of_ble_eq_true rfl) (show decode cX10_readInto 9 = .ok (.invokevirtual 19, 3) by decide +kernel) rfl ?_
  refine y_aload_n (show decode cX10_readInto 12 = .ok (.aload_n 0, 1) by decide +kernel) 0 rfl ?_
  refine y_iconst (show decode cX10_readInto 13 = .ok (.iconst 0, 1) by decide +kernel) rfl ?_
  obtain ⟨σ9, e10, h⟩ := bnd_i h
  refine yo_putZ 53 10 2 24 (by decide) rfl (by decide) (by decide) q2_70 rfl (show decode cX10_readInto 14 = .ok (.putfield 24, 3) by decide +kernel) rfl rfl (Or.inl rfl) (ov_set1 e10 rfl) ?_
  refine y_aload_n (show decode cX10_readInto 17 = .ok (.aload_n 0, 1) by decide +kernel) 0 rfl ?_
  refine y_iconst (show decode cX10_readInto 18 = .ok (.iconst 0, 1) by decide +kernel) rfl ?_
  obtain ⟨σ11, e12, h⟩ := bnd_i h
  refine yo_putZ 53 10 3 28 (by decide) rfl (by decide) (by decide) q2_71 rfl (show decode cX10_readInto 19 = .ok (.putfield 28, 3) by decide +kernel) rfl rfl (Or.inl rfl) (ov_set1 e12 rfl) ?_
  refine y_aload_n (show decode cX10_readInto 22 = .ok (.aload_n 0, 1) by decide +kernel) 0 rfl ?_
  refine y_iconst (show decode cX10_readInto 23 = .ok (.iconst 0, 1) by decide +kernel) rfl ?_
  obtain ⟨σ13, e14, h⟩ := bnd_i h
  refine yo_putZ 53 10 4 31 (by decide) rfl (by decide) (by decide) q2_72 rfl (show decode cX10_readInto 24 = .ok (.putfield 31, 3) by decide +kernel) rfl rfl (Or.inl rfl) (ov_set1 e14 rfl) ?_
  refine y_aload_n (show decode cX10_readInto 27 = .ok (.aload_n 0, 1) by decide +kernel) 0 rfl ?_
  refine y_getf 53 10 0 9 (by decide) rfl (by decide) (by decide) q2_68 (show decode cX10_readInto 28 = .ok (.getfield 9, 3) by decide +kernel) (v := .inr (.inr (1 + 1))) rfl ?_
  obtain ⟨σ16, e15, h⟩ := bndO_some h
  refine y_callV (np := 0) (st := []) (as := []) 1 8 (sh_cTp_begin e15) q3_86 q3_83 q3_84 q3_85 q1_2 (by decide) rfl (by decide) rfl (by decide) (by decide +kernel) (by decide) rfl (Nat.le_of_ble_eq_true rfl) (show decode cX10_readInto 31 = .ok (.invokevirtual 34, 3) by decide +kernel) rfl ?_
  refine y_iconst (show decode cX10_readInto 34 = .ok (.iconst 1, 1) by decide +kernel) rfl ?_
  refine y_istore_n (show decode cX10_readInto 35 = .ok (.istore_n 2, 1) by decide +kernel) rfl (L1 := [(2, .inl 1), (0, .inr (.inr (53 + 1))), (1, .inr (.inr (a + 1)))]) rfl ?_
  refine y_iconst (show decode cX10_readInto 36 = .ok (.iconst 0, 1) by decide +kernel) rfl ?_
  refine y_istore_n (show decode cX10_readInto 37 = .ok (.istore_n 3, 1) by decide +kernel) rfl (L1 := [(3, .inl 0), (2, .inl 1), (0, .inr (.inr (53 + 1))), (1, .inr (.inr (a + 1)))]) rfl ?_
  refine y_pick [2, 1, 0] rfl ?_
  refine loopS2_ind (P := fun x17 x18 σ19 => Y E MX10_readInto (yRm 77 0 0) (yQf E (150 + 0) 0 0 (some (.inl ρ)) (ov τ)) 38 [(0, .inr (.inr (53 + 1))), (2, .inl x17), (3, .inl x18)] [] (ov σ19) 150 0 0) (fun k20 hk20 x17 x18 σ19 h => ?_) _ _ _ _  h
  refine y_iload_n (show decode cX10_readInto 38 = .ok (.iload_n 3, 1) by decide +kernel) 2 rfl ?_
  refine y_sipush (show decode cX10_readInto 39 = .ok (.sipush 1600, 3) by decide +kernel) rfl rfl ?_
  refine bnd_j (Q := fun j21 => j21 = some (ρ, τ) → Y E MX10_readInto (yRm 77 0 0) (yQf E (150 + 0) 0 0 (some (.inl ρ)) (ov τ)) 90 [(0, .inr (.inr (53 + 1))), (2, .inl x17)] [] (ov σ19) 150 0 0) (fun h => ?_) (fun j21 hj21 h => ?_) h
  · refine y_iload_n (show decode cX10_readInto 90 = .ok (.iload_n 2, 1) by decide +kernel) 1 rfl ?_
    by_cases c22 : x17 = 0
    · rw [if_pos c22] at h
      refine y_if_eq_t (tgt := 101) (show decode cX10_readInto 91 = .ok (.ifCond .eq 10, 3) by decide +kernel) rfl c22 ?_
      refine y_iload_n (show decode cX10_readInto 101 = .ok (.iload_n 2, 1) by decide +kernel) 1 rfl ?_
      obtain ⟨c23, h⟩ := chk_some h
      cases h
      exact y_zret (show decode cX10_readInto 102 = .ok (.ireturn, 1) by decide +kernel) rfl c23
    · rw [if_neg c22] at h
      refine y_if_eq_f (show decode cX10_readInto 91 = .ok (.ifCond .eq 10, 3) by decide +kernel) c22 (by decide) ?_
      refine y_aload_n (show decode cX10_readInto 94 = .ok (.aload_n 0, 1) by decide +kernel) 0 rfl ?_
      obtain ⟨T24, c25, c26, h⟩ := chkT_some h
      refine y_getf 53 10 1 15 (by decide) rfl (by decide) (by decide) q2_69 (show decode cX10_readInto 95 = .ok (.getfield 15, 3) by decide +kernel) (v := .inr (.inr (T24 + 1))) (by rw [← c26]; rfl) ?_
      obtain ⟨σ28, e27, h⟩ := bndO_some h
      refine y_callV (np := 0) (st := []) (as := []) T24 9 (sh_cTw_finish e27) q2_109 q4_106 q2_107 q2_108 q1_5 (by omega) (by rcases c25 with rfl | rfl <;> rfl) (by decide) rfl (by decide) (by decide +kernel) (by decide) rfl (Nat.le_of_ble_eq_true rfl) (show decode cX10_readInto 98 = .ok (.invokevirtual 51, 3) by decide +kernel) rfl ?_
      refine y_iload_n (show decode cX10_readInto 101 = .ok (.iload_n 2, 1) by decide +kernel) 1 rfl ?_
      obtain ⟨c29, h⟩ := chk_some h
      cases h
      exact y_zret (show decode cX10_readInto 102 = .ok (.ireturn, 1) by decide +kernel) rfl c29
  by_cases c30 : x18 ≥ 1600
  · rw [if_pos c30] at h
    refine y_icmp_ge_t (tgt := 90) (show decode cX10_readInto 42 = .ok (.if_icmp .ge 48, 3) by decide +kernel) rfl c30 ?_
    refine y_pick [0, 1] rfl ?_
    exact hj21 h
  · rw [if_neg c30] at h
    refine y_icmp_ge_f (show decode cX10_readInto 42 = .ok (.if_icmp .ge 48, 3) by decide +kernel) c30 (by decide) ?_
    refine y_iload_n (show decode cX10_readInto 45 = .ok (.iload_n 2, 1) by decide +kernel) 1 rfl ?_
    by_cases c31 : x17 = 0
    · rw [if_pos c31] at h
      refine y_if_eq_t (tgt := 90) (show decode cX10_readInto 46 = .ok (.ifCond .eq 44, 3) by decide +kernel) rfl c31 ?_
      refine y_pick [0, 1] rfl ?_
      exact hj21 h
    · rw [if_neg c31] at h
      refine y_if_eq_f (show decode cX10_readInto 46 = .ok (.ifCond .eq 44, 3) by decide +kernel) c31 (by decide) ?_
      refine y_aload_n (show decode cX10_readInto 49 = .ok (.aload_n 0, 1) by decide +kernel) 0 rfl ?_
      refine y_getf 53 10 0 9 (by decide) rfl (by decide) (by decide) q2_68 (show decode cX10_readInto 50 = .ok (.getfield 9, 3) by decide +kernel) (v := .inr (.inr (1 + 1))) rfl ?_
      refine y_getf 1 8 3 39 (by decide) rfl (by decide) (by decide) q1_40 (show decode cX10_readInto 53 = .ok (.getfield 39, 3) by decide +kernel) (v := .inl (σ19 1 3)) rfl ?_
      by_cases c32 : (σ19 1 3) = 0
      · rw [if_pos c32] at h
        refine y_if_eq_t (tgt := 90) (show decode cX10_readInto 56 = .ok (.ifCond .eq 34, 3) by decide +kernel) rfl c32 ?_
        refine y_pick [0, 1] rfl ?_
        exact hj21 h
      · rw [if_neg c32] at h
        refine y_if_eq_f (show decode cX10_readInto 56 = .ok (.ifCond .eq 34, 3) by decide +kernel) c32 (by decide) ?_
        refine y_aload_n (show decode cX10_readInto 59 = .ok (.aload_n 0, 1) by decide +kernel) 0 rfl ?_
        obtain ⟨r34, σ35, e33, h⟩ := bndR_some h
        refine y_callV (np := 0) (st := []) (as := []) 53 10 (sh_cRd_readLine e33) q3_219 q3_216 q3_218 qs1_5 q1_9 (by decide) rfl (by decide) rfl (by decide) (by decide +kernel) (by decide) rfl (Nat.le_of_ble_eq_true rfl) (show decode cX10_readInto 60 = .ok (.invokevirtual 43, 3) by decide +kernel) rfl ?_
        refine bnd_j (Q := fun j38 => ∀ (y36 : Int) (σ37 : ySt), j38 y36 σ37 = some (ρ, τ) → Y E MX10_readInto (yRm 77 0 0) (yQf E (150 + 0) 0 0 (some (.inl ρ)) (ov τ)) 83 [(0, .inr (.inr (53 + 1))), (3, .inl x18)] [.inl y36] (ov σ37) 150 0 0) (fun y36 σ37 h => ?_) (fun j38 hj38 h => ?_) h
        · dsimp only at h
          refine y_istore_n (show decode cX10_readInto 83 = .ok (.istore_n 2, 1) by decide +kernel) rfl (L1 := [(2, .inl y36), (0, .inr (.inr (53 + 1))), (3, .inl x18)]) rfl ?_
          obtain ⟨c39, h⟩ := chkI_some h
          refine y_iinc (show decode cX10_readInto 84 = .ok (.iinc 3 1, 3) by decide +kernel) 2 rfl c39 rfl (L1 := [(3, .inl (x18 + 1)), (2, .inl y36), (0, .inr (.inr (53 + 1)))]) rfl ?_
          refine y_goto (tgt := 38) (show decode cX10_readInto 87 = .ok (.goto (-49), 3) by decide +kernel) rfl ?_
          refine y_pick [2, 1, 0] rfl ?_
          exact hk20 _ _ _ h
        by_cases c40 : r34 = 0
        · rw [if_pos c40] at h
          refine y_if_eq_t (tgt := 82) (show decode cX10_readInto 63 = .ok (.ifCond .eq 19, 3) by decide +kernel) rfl c40 ?_
          refine y_iconst (show decode cX10_readInto 82 = .ok (.iconst 0, 1) by decide +kernel) rfl ?_
          refine y_pick [0, 2] rfl ?_
          exact hj38 _ _ h
        · rw [if_neg c40] at h
          refine y_if_eq_f (show decode cX10_readInto 63 = .ok (.ifCond .eq 19, 3) by decide +kernel) c40 (by decide) ?_
          refine y_aload_n (show decode cX10_readInto 66 = .ok (.aload_n 0, 1) by decide +kernel) 0 rfl ?_
          refine y_getf 53 10 0 9 (by decide) rfl (by decide) (by decide) q2_68 (show decode cX10_readInto 67 = .ok (.getfield 9, 3) by decide +kernel) (v := .inr (.inr (1 + 1))) rfl ?_
          refine y_bipush (show decode cX10_readInto 70 = .ok (.bipush 59, 2) by decide +kernel) rfl rfl ?_
          obtain ⟨r42, σ43, e41, h⟩ := bndR_some h
          refine y_callV (np := 1) (st := []) (as := [.inl 59]) 1 8 (sh_cTp_pass e41) q4_33 q4_30 q4_31 q4_32 q1_2 (by decide) rfl (by decide) rfl (by decide) (by decide +kernel) (by decide) rfl (Nat.le_of_ble_eq_true rfl) (show decode cX10_readInto 72 = .ok (.invokevirtual 47, 3) by decide +kernel) rfl ?_
          by_cases c44 : r42 = 0
          · rw [if_pos c44] at h
            refine y_if_eq_t (tgt := 82) (show decode cX10_readInto 75 = .ok (.ifCond .eq 7, 3) by decide +kernel) rfl c44 ?_
            refine y_iconst (show decode cX10_readInto 82 = .ok (.iconst 0, 1) by decide +kernel) rfl ?_
            refine y_pick [0, 2] rfl ?_
            exact hj38 _ _ h
          · rw [if_neg c44] at h
            refine y_if_eq_f (show decode cX10_readInto 75 = .ok (.ifCond .eq 7, 3) by decide +kernel) c44 (by decide) ?_
            refine y_iconst (show decode cX10_readInto 78 = .ok (.iconst 1, 1) by decide +kernel) rfl ?_
            refine y_goto (tgt := 83) (show decode cX10_readInto 79 = .ok (.goto 4, 3) by decide +kernel) rfl ?_
            refine y_pick [0, 2] rfl ?_
            exact hj38 _ _ h
abbrev MX11_feed : yM := (yX11_feed, cX11_feed, 6, some .int)
def cE_feed (N : Nat) (a : Int) (b : Int) (c : Int) (d : Int) (e : Int) (σ : ySt) : Option (Int × ySt) :=
  bndO (cTp_hasRoom 20 σ) fun r2 =>
  if ¬ r2 = 0 then
    bndO (cTp_putFour N a σ) fun σ5 =>
    bndO (cTp_putFour N b σ5) fun σ7 =>
    bndO (cTp_putFour N c σ7) fun σ9 =>
    bndO (cTp_putFour N d σ9) fun σ11 =>
    bndO (cTp_putFour N e σ11) fun σ13 =>
    some ((σ13 1 1), σ13)
  else
    some ((-1), σ)
set_option maxHeartbeats 4000000 in
set_option maxRecDepth 10000 in
theorem sh_cE_feed {E : yE} {N : Nat} {a : Int} {b : Int} {c : Int} {d : Int} {e : Int} {σ : ySt} {ρ : Int} {τ : ySt} (h : cE_feed N a b c d e σ = some (ρ, τ)) : Con E MX11_feed 1 0 0 [.inr (.inr (0 + 1)), .inl a, .inl b, .inl c, .inl d, .inl e] 150 (ov σ) (some (.inl ρ)) (ov τ) := by
  unfold cE_feed at h
  refine Con.ofY (by decide +kernel) (by simp [yWords, yCat]) (fun hok _ => ?_)
  show Y E MX11_feed (yRm 1 0 0) (yQf E (150 + 0) 0 0 (some (.inl ρ)) (ov τ)) 0 [(0, .inr (.inr (0 + 1))), (1, .inl a), (2, .inl b), (3, .inl c), (4, .inl d), (5, .inl e)] [] (ov σ) 150 0 0
  refine y_aload_n (show decode cX11_feed 0 = .ok (.aload_n 0, 1) by decide +kernel) 0 rfl ?_
  refine y_getf 0 11 0 12 (by decide) rfl (by decide) (by decide) q3_27 (show decode cX11_feed 1 = .ok (.getfield 12, 3) by decide +kernel) (v := .inr (.inr (1 + 1))) rfl ?_
  refine y_bipush (show decode cX11_feed 4 = .ok (.bipush 20, 2) by decide +kernel) rfl rfl ?_
  obtain ⟨r2, e1, h⟩ := bndO_some h
  refine y_callV (np := 1) (st := []) (as := [.inl 20]) 1 8 (sh_cTp_hasRoom e1) q3_65 q3_62 q3_63 q3_64 q1_2 (by decide) rfl (by decide) rfl (by decide) (by decide +kernel) (by decide) rfl (Nat.le_of_ble_eq_true rfl) (show decode cX11_feed 6 = .ok (.invokevirtual 75, 3) by decide +kernel) rfl ?_
  by_cases c3 : ¬ r2 = 0
  · rw [if_pos c3] at h
    refine y_if_ne_t (tgt := 14) (show decode cX11_feed 9 = .ok (.ifCond .ne 5, 3) by decide +kernel) rfl c3 ?_
    refine y_aload_n (show decode cX11_feed 14 = .ok (.aload_n 0, 1) by decide +kernel) 0 rfl ?_
    refine y_getf 0 11 0 12 (by decide) rfl (by decide) (by decide) q3_27 (show decode cX11_feed 15 = .ok (.getfield 12, 3) by decide +kernel) (v := .inr (.inr (1 + 1))) rfl ?_
    refine y_iload_n (show decode cX11_feed 18 = .ok (.iload_n 1, 1) by decide +kernel) 1 rfl ?_
    obtain ⟨σ5, e4, h⟩ := bndO_some h
    refine y_callV (np := 1) (st := []) (as := [.inl a]) 1 8 (sh_cTp_putFour e4) q3_69 q3_66 q3_67 q3_68 q1_2 (by decide) rfl (by decide) rfl (by decide) (by decide +kernel) (by decide) rfl (Nat.le_of_ble_eq_true rfl) (show decode cX11_feed 19 = .ok (.invokevirtual 79, 3) by decide +kernel) rfl ?_
    refine y_aload_n (show decode cX11_feed 22 = .ok (.aload_n 0, 1) by decide +kernel) 0 rfl ?_
    refine y_getf 0 11 0 12 (by decide) rfl (by decide) (by decide) q3_27 (show decode cX11_feed 23 = .ok (.getfield 12, 3) by decide +kernel) (v := .inr (.inr (1 + 1))) rfl ?_
    refine y_iload_n (show decode cX11_feed 26 = .ok (.iload_n 2, 1) by decide +kernel) 2 rfl ?_
    obtain ⟨σ7, e6, h⟩ := bndO_some h
    refine y_callV (np := 1) (st := []) (as := [.inl b]) 1 8 (sh_cTp_putFour e6) q3_69 q3_66 q3_67 q3_68 q1_2 (by decide) rfl (by decide) rfl (by decide) (by decide +kernel) (by decide) rfl (Nat.le_of_ble_eq_true rfl) (show decode cX11_feed 27 = .ok (.invokevirtual 79, 3) by decide +kernel) rfl ?_
    refine y_aload_n (show decode cX11_feed 30 = .ok (.aload_n 0, 1) by decide +kernel) 0 rfl ?_
    refine y_getf 0 11 0 12 (by decide) rfl (by decide) (by decide) q3_27 (show decode cX11_feed 31 = .ok (.getfield 12, 3) by decide +kernel) (v := .inr (.inr (1 + 1))) rfl ?_
    refine y_iload_n (show decode cX11_feed 34 = .ok (.iload_n 3, 1) by decide +kernel) 3 rfl ?_
    obtain ⟨σ9, e8, h⟩ := bndO_some h
    refine y_callV (np := 1) (st := []) (as := [.inl c]) 1 8 (sh_cTp_putFour e8) q3_69 q3_66 q3_67 q3_68 q1_2 (by decide) rfl (by decide) rfl (by decide) (by decide +kernel) (by decide) rfl (Nat.le_of_ble_eq_true rfl) (show decode cX11_feed 35 = .ok (.invokevirtual 79, 3) by decide +kernel) rfl ?_
    refine y_aload_n (show decode cX11_feed 38 = .ok (.aload_n 0, 1) by decide +kernel) 0 rfl ?_
    refine y_getf 0 11 0 12 (by decide) rfl (by decide) (by decide) q3_27 (show decode cX11_feed 39 = .ok (.getfield 12, 3) by decide +kernel) (v := .inr (.inr (1 + 1))) rfl ?_
    refine y_iload (show decode cX11_feed 42 = .ok (.iload 4, 2) by decide +kernel) 4 rfl ?_
    obtain ⟨σ11, e10, h⟩ := bndO_some h
    refine y_callV (np := 1) (st := []) (as := [.inl d]) 1 8 (sh_cTp_putFour e10) q3_69 q3_66 q3_67 q3_68 q1_2 (by decide) rfl (by decide) rfl (by decide) (by decide +kernel) (by decide) rfl (Nat.le_of_ble_eq_true rfl) (show decode cX11_feed 44 = .ok (.invokevirtual 79, 3) by decide +kernel) rfl ?_
    refine y_aload_n (show decode cX11_feed 47 = .ok (.aload_n 0, 1) by decide +kernel) 0 rfl ?_
    refine y_getf 0 11 0 12 (by decide) rfl (by decide) (by decide) q3_27 (show decode cX11_feed 48 = .ok (.getfield 12, 3) by decide +kernel) (v := .inr (.inr (1 + 1))) rfl ?_
    refine y_iload (show decode cX11_feed 51 = .ok (.iload 5, 2) by decide +kernel) 5 rfl ?_
    obtain ⟨σ13, e12, h⟩ := bndO_some h
    refine y_callV (np := 1) (st := []) (as := [.inl e]) 1 8 (sh_cTp_putFour e12) q3_69 q3_66 q3_67 q3_68 q1_2 (by decide) rfl (by decide) rfl (by decide) (by decide +kernel) (by decide) rfl (Nat.le_of_ble_eq_true rfl) (show decode cX11_feed 53 = .ok (.invokevirtual 79, 3) by decide +kernel) rfl ?_
    refine y_aload_n (show decode cX11_feed 56 = .ok (.aload_n 0, 1) by decide +kernel) 0 rfl ?_
    refine y_getf 0 11 0 12 (by decide) rfl (by decide) (by decide) q3_27 (show decode cX11_feed 57 = .ok (.getfield 12, 3) by decide +kernel) (v := .inr (.inr (1 + 1))) rfl ?_
    refine y_getf 1 8 1 83 (by decide) rfl (by decide) (by decide) q1_38 (show decode cX11_feed 60 = .ok (.getfield 83, 3) by decide +kernel) (v := .inl (σ13 1 1)) rfl ?_
    cases h
    exact y_iret (show decode cX11_feed 63 = .ok (.ireturn, 1) by decide +kernel) rfl
  · rw [if_neg c3] at h
    refine y_if_ne_f (show decode cX11_feed 9 = .ok (.ifCond .ne 5, 3) by decide +kernel) c3 (by decide) ?_
    refine y_iconst (show decode cX11_feed 12 = .ok (.iconst (-1), 1) by decide +kernel) rfl ?_
    cases h
    exact y_iret (show decode cX11_feed 13 = .ok (.ireturn, 1) by decide +kernel) rfl
abbrev MX11_end : yM := (yX11_end, cX11_end, 2, some .int)
def cE_end (a : Int) (σ : ySt) : Option (Int × ySt) :=
  if a < 0 then
    some ((-1), σ)
  else
    if a ≤ (σ 1 1) then
      bnd (yset σ 1 1 a) fun σ3 =>
      some (a, σ3)
    else
      some ((-1), σ)
set_option maxHeartbeats 4000000 in
set_option maxRecDepth 10000 in
theorem sh_cE_end {E : yE} {a : Int} {σ : ySt} {ρ : Int} {τ : ySt} (h : cE_end a σ = some (ρ, τ)) : Con E MX11_end 0 0 0 [.inr (.inr (0 + 1)), .inl a] 150 (ov σ) (some (.inl ρ)) (ov τ) := by
  unfold cE_end at h
  refine Con.ofY (by decide +kernel) (by simp [yWords, yCat]) (fun hok _ => ?_)
  show Y E MX11_end (yRm 0 0 0) (yQf E (150 + 0) 0 0 (some (.inl ρ)) (ov τ)) 0 [(0, .inr (.inr (0 + 1))), (1, .inl a)] [] (ov σ) 150 0 0
  refine y_iload_n (show decode cX11_end 0 = .ok (.iload_n 1, 1) by decide +kernel) 1 rfl ?_
  by_cases c1 : a < 0
  · rw [if_pos c1] at h
    refine y_if_lt_t (tgt := 15) (show decode cX11_end 1 = .ok (.ifCond .lt 14, 3) by decide +kernel) rfl c1 ?_
    refine y_iconst (show decode cX11_end 15 = .ok (.iconst (-1), 1) by decide +kernel) rfl ?_
    cases h
    exact y_iret (show decode cX11_end 16 = .ok (.ireturn, 1) by decide +kernel) rfl
  · rw [if_neg c1] at h
    refine y_if_lt_f (show decode cX11_end 1 = .ok (.ifCond .lt 14, 3) by decide +kernel) c1 (by decide) ?_
    refine y_iload_n (show decode cX11_end 4 = .ok (.iload_n 1, 1) by decide +kernel) 1 rfl ?_
    refine y_aload_n (show decode cX11_end 5 = .ok (.aload_n 0, 1) by decide +kernel) 0 rfl ?_
    refine y_getf 0 11 0 12 (by decide) rfl (by decide) (by decide) q3_27 (show decode cX11_end 6 = .ok (.getfield 12, 3) by decide +kernel) (v := .inr (.inr (1 + 1))) rfl ?_
    refine y_getf 1 8 1 83 (by decide) rfl (by decide) (by decide) q1_38 (show decode cX11_end 9 = .ok (.getfield 83, 3) by decide +kernel) (v := .inl (σ 1 1)) rfl ?_
    by_cases c2 : a ≤ (σ 1 1)
    · rw [if_pos c2] at h
      refine y_icmp_le_t (tgt := 17) (show decode cX11_end 12 = .ok (.if_icmp .le 5, 3) by decide +kernel) rfl c2 ?_
      refine y_aload_n (show decode cX11_end 17 = .ok (.aload_n 0, 1) by decide +kernel) 0 rfl ?_
      refine y_getf 0 11 0 12 (by decide) rfl (by decide) (by decide) q3_27 (show decode cX11_end 18 = .ok (.getfield 12, 3) by decide +kernel) (v := .inr (.inr (1 + 1))) rfl ?_
      refine y_iload_n (show decode cX11_end 21 = .ok (.iload_n 1, 1) by decide +kernel) 1 rfl ?_
      obtain ⟨σ3, e4, h⟩ := bnd_i h
      refine yo_putI 1 8 1 83 (by decide) rfl (by decide) (by decide) q1_38 rfl (show decode cX11_end 22 = .ok (.putfield 83, 3) by decide +kernel) rfl rfl (ov_set1 e4 rfl) ?_
      refine y_iload_n (show decode cX11_end 25 = .ok (.iload_n 1, 1) by decide +kernel) 1 rfl ?_
      cases h
      exact y_iret (show decode cX11_end 26 = .ok (.ireturn, 1) by decide +kernel) rfl
    · rw [if_neg c2] at h
      refine y_icmp_le_f (show decode cX11_end 12 = .ok (.if_icmp .le 5, 3) by decide +kernel) c2 (by decide) ?_
      refine y_iconst (show decode cX11_end 15 = .ok (.iconst (-1), 1) by decide +kernel) rfl ?_
      cases h
      exact y_iret (show decode cX11_end 16 = .ok (.ireturn, 1) by decide +kernel) rfl
abbrev MX11_town : yM := (yX11_town, cX11_town, 4, some .int)
def cE_town (N : Nat) (σ : ySt) : Option (Int × ySt) :=
  chkT (σ 0 6) fun T1 =>
  bndR (cRd_readInto N T1 σ) fun r5 σ6 =>
  bnd (yset σ6 1 1 0) fun σ7 =>
  if ¬ r5 = 0 then
    chkT (σ7 0 5) fun T10 =>
    chkT (σ7 0 6) fun T13 =>
    bnd (yset σ7 0 5 ((T13 : Nat) + 1 : Int)) fun σ16 =>
    bnd (yset σ16 0 6 ((T10 : Nat) + 1 : Int)) fun σ18 =>
    chkT (σ18 0 5) fun T20 =>
    bndO (cAn_turnTo N T20 σ18) fun σ24 =>
    chkP (σ24 0 8) fun T25 =>
    chkT (σ24 0 5) fun T28 =>
    bndO (cPl_stayHome N T25 T28 σ24) fun σ32 =>
    chkT (σ32 0 5) fun T33 =>
    bndO (cEa_begin 9 T33 σ32) fun σ37 =>
    bnd (yset σ37 3 5 0) fun σ38 =>
    loopS1 (fun k42 x40 σ41 =>
      if x40 ≥ 3 then
        chkT (σ41 0 5) fun T44 =>
        some ((σ41 (T44 + 3) 1), σ41)
      else
        chkB x40 fun T47 =>
        bnd (yset σ41 T47 4 0) fun σ52 =>
        chkI (x40 + 1) <|
        k42 (x40 + 1) σ52) N 0 σ38
  else
    some ((-1), σ7)
set_option maxHeartbeats 4000000 in
set_option maxRecDepth 10000 in
theorem sh_cE_town {E : yE} {N : Nat} {σ : ySt} {ρ : Int} {τ : ySt} (h : cE_town N σ = some (ρ, τ)) : Con E MX11_town 78 0 0 [.inr (.inr (0 + 1))] 150 (ov σ) (some (.inl ρ)) (ov τ) := by
  unfold cE_town at h
  refine Con.ofY (by decide +kernel) (by simp [yWords, yCat]) (fun hok _ => ?_)
  show Y E MX11_town (yRm 78 0 0) (yQf E (150 + 0) 0 0 (some (.inl ρ)) (ov τ)) 0 [(0, .inr (.inr (0 + 1)))] [] (ov σ) 150 0 0
  refine y_aload_n (show decode cX11_town 0 = .ok (.aload_n 0, 1) by decide +kernel) 0 rfl ?_
  refine y_getf 0 11 7 49 (by decide) rfl (by decide) (by decide) q3_34 (show decode cX11_town 1 = .ok (.getfield 49, 3) by decide +kernel) (v := .inr (.inr (53 + 1))) rfl ?_
  refine y_aload_n (show decode cX11_town 4 = .ok (.aload_n 0, 1) by decide +kernel) 0 rfl ?_
  obtain ⟨T1, c2, c3, h⟩ := chkT_some h
  refine y_getf 0 11 6 41 (by decide) rfl (by decide) (by decide) q3_33 (show decode cX11_town 5 = .ok (.getfield 41, 3) by decide +kernel) (v := .inr (.inr (T1 + 1))) (by rw [← c3]; rfl) ?_
  obtain ⟨r5, σ6, e4, h⟩ := bndR_some h
  refine y_callV (np := 1) (st := []) (as := [.inr (.inr (T1 + 1))]) 53 10 (sh_cRd_readInto e4) q3_81 q3_78 q3_79 q3_80 q1_9 (by decide) rfl (by decide) rfl (by decide) (by decide +kernel) (by decide) rfl (Nat.le_of_ble_eq_true rfl) (show decode cX11_town 8 = .ok (.invokevirtual 87, 3) by decide +kernel) rfl ?_
  refine y_istore_n (show decode cX11_town 11 = .ok (.istore_n 1, 1) by decide +kernel) rfl (L1 := [(1, .inl r5), (0, .inr (.inr (0 + 1)))]) rfl ?_
  refine y_aload_n (show decode cX11_town 12 = .ok (.aload_n 0, 1) by decide +kernel) 1 rfl ?_
  refine y_getf 0 11 0 12 (by decide) rfl (by decide) (by decide) q3_27 (show decode cX11_town 13 = .ok (.getfield 12, 3) by decide +kernel) (v := .inr (.inr (1 + 1))) rfl ?_
  refine y_iconst (show decode cX11_town 16 = .ok (.iconst 0, 1) by decide +kernel) rfl ?_
  obtain ⟨σ7, e8, h⟩ := bnd_i h
  refine yo_putI 1 8 1 83 (by decide) rfl (by decide) (by decide) q1_38 rfl (show decode cX11_town 17 = .ok (.putfield 83, 3) by decide +kernel) rfl rfl (ov_set1 e8 rfl) ?_
  refine y_iload_n (show decode cX11_town 20 = .ok (.iload_n 1, 1) by decide +kernel) 0 rfl ?_
  by_cases c9 : ¬ r5 = 0
  · rw [if_pos c9] at h
    refine y_if_ne_t (tgt := 26) (show decode cX11_town 21 = .ok (.ifCond .ne 5, 3) by decide +kernel) rfl c9 ?_
    refine y_aload_n (show decode cX11_town 26 = .ok (.aload_n 0, 1) by decide +kernel) 1 rfl ?_
    obtain ⟨T10, c11, c12, h⟩ := chkT_some h
    refine y_getf 0 11 5 37 (by decide) rfl (by decide) (by decide) q3_32 (show decode cX11_town 27 = .ok (.getfield 37, 3) by decide +kernel) (v := .inr (.inr (T10 + 1))) (by rw [← c12]; rfl) ?_
    refine y_astore_n (show decode cX11_town 30 = .ok (.astore_n 2, 1) by decide +kernel) rfl (L1 := [(2, .inr (.inr (T10 + 1))), (1, .inl r5), (0, .inr (.inr (0 + 1)))]) rfl ?_
    refine y_aload_n (show decode cX11_town 31 = .ok (.aload_n 0, 1) by decide +kernel) 2 rfl ?_
    refine y_aload_n (show decode cX11_town 32 = .ok (.aload_n 0, 1) by decide +kernel) 2 rfl ?_
    obtain ⟨T13, c14, c15, h⟩ := chkT_some h
    refine y_getf 0 11 6 41 (by decide) rfl (by decide) (by decide) q3_33 (show decode cX11_town 33 = .ok (.getfield 41, 3) by decide +kernel) (v := .inr (.inr (T13 + 1))) (by rw [← c15]; rfl) ?_
    obtain ⟨σ16, e17, h⟩ := bnd_i h
    refine yo_putR 0 11 5 37 T13 (by decide) rfl (by decide) (by decide) q3_32 rfl (show decode cX11_town 36 = .ok (.putfield 37, 3) by decide +kernel) rfl rfl (ov_set1 e17 rfl) ?_
    refine y_aload_n (show decode cX11_town 39 = .ok (.aload_n 0, 1) by decide +kernel) 2 rfl ?_
    refine y_aload_n (show decode cX11_town 40 = .ok (.aload_n 2, 1) by decide +kernel) 0 rfl ?_
    obtain ⟨σ18, e19, h⟩ := bnd_i h
    refine yo_putR 0 11 6 41 T10 (by decide) rfl (by decide) (by decide) q3_33 rfl (show decode cX11_town 41 = .ok (.putfield 41, 3) by decide +kernel) rfl rfl (ov_set1 e19 rfl) ?_
    refine y_aload_n (show decode cX11_town 44 = .ok (.aload_n 0, 1) by decide +kernel) 2 rfl ?_
    refine y_getf 0 11 2 71 (by decide) rfl (by decide) (by decide) q3_29 (show decode cX11_town 45 = .ok (.getfield 71, 3) by decide +kernel) (v := .inr (.inr (58 + 1))) rfl ?_
    refine y_aload_n (show decode cX11_town 48 = .ok (.aload_n 0, 1) by decide +kernel) 2 rfl ?_
    obtain ⟨T20, c21, c22, h⟩ := chkT_some h
    refine y_getf 0 11 5 37 (by decide) rfl (by decide) (by decide) q3_32 (show decode cX11_town 49 = .ok (.getfield 37, 3) by decide +kernel) (v := .inr (.inr (T20 + 1))) (by rw [← c22]; rfl) ?_
    obtain ⟨σ24, e23, h⟩ := bndO_some h
    refine y_callV (np := 1) (st := []) (as := [.inr (.inr (T20 + 1))]) 58 0 (sh_cAn_turnTo e23) q4_110 q4_107 q4_108 q4_109 q1_12 (by decide) rfl (by decide) rfl (by decide) (by decide +kernel) (by decide) rfl (Nat.le_of_ble_eq_true rfl) (show decode cX11_town 52 = .ok (.invokevirtual 91, 3) by decide +kernel) rfl ?_
    refine y_aload_n (show decode cX11_town 55 = .ok (.aload_n 0, 1) by decide +kernel) 2 rfl ?_
    obtain ⟨T25, c26, c27, h⟩ := chkP_some h
    refine y_getf 0 11 8 56 (by decide) rfl (by decide) (by decide) q3_35 (show decode cX11_town 56 = .ok (.getfield 56, 3) by decide +kernel) (v := .inr (.inr (T25 + 1))) (by rw [← c27]; rfl) ?_
    refine y_aload_n (show decode cX11_town 59 = .ok (.aload_n 0, 1) by decide +kernel) 2 rfl ?_
    obtain ⟨T28, c29, c30, h⟩ := chkT_some h
    refine y_getf 0 11 5 37 (by decide) rfl (by decide) (by decide) q3_32 (show decode cX11_town 60 = .ok (.getfield 37, 3) by decide +kernel) (v := .inr (.inr (T28 + 1))) (by rw [← c30]; rfl) ?_
    obtain ⟨σ32, e31, h⟩ := bndO_some h
    refine y_callV (np := 1) (st := []) (as := [.inr (.inr (T28 + 1))]) T25 6 (sh_cPl_stayHome e31) q4_114 q4_111 q4_112 q4_113 q1_10 (by omega) (by rcases c26 with rfl | rfl <;> rfl) (by decide) rfl (by decide) (by decide +kernel) (by decide) rfl (Nat.le_of_ble_eq_true rfl) (show decode cX11_town 63 = .ok (.invokevirtual 94, 3) by decide +kernel) rfl ?_
    refine y_aload_n (show decode cX11_town 66 = .ok (.aload_n 0, 1) by decide +kernel) 2 rfl ?_
    refine y_getf 0 11 3 26 (by decide) rfl (by decide) (by decide) q3_30 (show decode cX11_town 67 = .ok (.getfield 26, 3) by decide +kernel) (v := .inr (.inr (9 + 1))) rfl ?_
    refine y_aload_n (show decode cX11_town 70 = .ok (.aload_n 0, 1) by decide +kernel) 2 rfl ?_
    obtain ⟨T33, c34, c35, h⟩ := chkT_some h
    refine y_getf 0 11 5 37 (by decide) rfl (by decide) (by decide) q3_32 (show decode cX11_town 71 = .ok (.getfield 37, 3) by decide +kernel) (v := .inr (.inr (T33 + 1))) (by rw [← c35]; rfl) ?_
    obtain ⟨σ37, e36, h⟩ := bndO_some h
    refine y_callV (np := 1) (st := []) (as := [.inr (.inr (T33 + 1))]) 9 4 (sh_cEa_begin e36) q4_122 q4_119 q4_120 q4_121 q1_4 (by decide) rfl (by decide) rfl (by decide) (by decide +kernel) (by decide) rfl (Nat.le_of_ble_eq_true rfl) (show decode cX11_town 74 = .ok (.invokevirtual 97, 3) by decide +kernel) rfl ?_
    refine y_aload_n (show decode cX11_town 77 = .ok (.aload_n 0, 1) by decide +kernel) 2 rfl ?_
    refine y_getf 0 11 1 19 (by decide) rfl (by decide) (by decide) q3_28 (show decode cX11_town 78 = .ok (.getfield 19, 3) by decide +kernel) (v := .inr (.inr (3 + 1))) rfl ?_
    refine y_iconst (show decode cX11_town 81 = .ok (.iconst 0, 1) by decide +kernel) rfl ?_
    obtain ⟨σ38, e39, h⟩ := bnd_i h
    refine yo_putI 3 1 5 100 (by decide) rfl (by decide) (by decide) q1_86 rfl (show decode cX11_town 82 = .ok (.putfield 100, 3) by decide +kernel) rfl rfl (ov_set1 e39 rfl) ?_
    refine y_iconst (show decode cX11_town 85 = .ok (.iconst 0, 1) by decide +kernel) rfl ?_
    refine y_istore_n (show decode cX11_town 86 = .ok (.istore_n 3, 1) by decide +kernel) rfl (L1 := [(3, .inl 0), (2, .inr (.inr (T10 + 1))), (1, .inl r5), (0, .inr (.inr (0 + 1)))]) rfl ?_
    refine y_pick [3, 0] rfl ?_
    refine loopS1_ind (P := fun x40 σ41 => Y E MX11_town (yRm 78 0 0) (yQf E (150 + 0) 0 0 (some (.inl ρ)) (ov τ)) 87 [(0, .inr (.inr (0 + 1))), (3, .inl x40)] [] (ov σ41) 150 0 0) (fun k42 hk42 x40 σ41 h => ?_) _ _ _  h
    refine y_iload_n (show decode cX11_town 87 = .ok (.iload_n 3, 1) by decide +kernel) 1 rfl ?_
    refine y_iconst (show decode cX11_town 88 = .ok (.iconst 3, 1) by decide +kernel) rfl ?_
    by_cases c43 : x40 ≥ 3
    · rw [if_pos c43] at h
      refine y_icmp_ge_t (tgt := 108) (show decode cX11_town 89 = .ok (.if_icmp .ge 19, 3) by decide +kernel) rfl c43 ?_
      refine y_aload_n (show decode cX11_town 108 = .ok (.aload_n 0, 1) by decide +kernel) 0 rfl ?_
      obtain ⟨T44, c45, c46, h⟩ := chkT_some h
      refine y_getf 0 11 5 37 (by decide) rfl (by decide) (by decide) q3_32 (show decode cX11_town 109 = .ok (.getfield 37, 3) by decide +kernel) (v := .inr (.inr (T44 + 1))) (by rw [← c46]; rfl) ?_
      refine y_getf T44 9 1 107 (by omega) (by rcases c45 with rfl | rfl <;> rfl) (by decide) (by decide) q1_204 (show decode cX11_town 112 = .ok (.getfield 107, 3) by decide +kernel) (v := .inr (.inr ((T44 + 3) + 1))) (by rcases c45 with rfl | rfl <;> rfl) ?_
      refine y_getf (T44 + 3) 5 1 111 (by omega) (by rcases c45 with rfl | rfl <;> rfl) (by decide) (by decide) q1_151 (show decode cX11_town 115 = .ok (.getfield 111, 3) by decide +kernel) (v := .inl (σ41 (T44 + 3) 1)) (by rcases c45 with rfl | rfl <;> rfl) ?_
      cases h
      exact y_iret (show decode cX11_town 118 = .ok (.ireturn, 1) by decide +kernel) rfl
    · rw [if_neg c43] at h
      refine y_icmp_ge_f (show decode cX11_town 89 = .ok (.if_icmp .ge 19, 3) by decide +kernel) c43 (by decide) ?_
      refine y_aload_n (show decode cX11_town 92 = .ok (.aload_n 0, 1) by decide +kernel) 0 rfl ?_
      refine y_getf 0 11 4 30 (by decide) rfl (by decide) (by decide) q3_31 (show decode cX11_town 93 = .ok (.getfield 30, 3) by decide +kernel) (v := .inr (.inr (12 + 1))) rfl ?_
      refine y_iload_n (show decode cX11_town 96 = .ok (.iload_n 3, 1) by decide +kernel) 1 rfl ?_
      obtain ⟨T47, c48, c49, c50, c51, h⟩ := chkB_some h
      refine y_aald 12 24 3 (by decide) rfl (by decide) c50 c51 (show decode cX11_town 97 = .ok (.aaload, 1) by decide +kernel) (v := .inr (.inr (T47 + 1))) (by rw [c49]) ?_
      refine y_iconst (show decode cX11_town 98 = .ok (.iconst 0, 1) by decide +kernel) rfl ?_
      obtain ⟨σ52, e53, h⟩ := bnd_i h
      refine yo_putZ T47 4 4 103 (by omega) (by rcases c48 with rfl | rfl | rfl | rfl <;> rfl) (by decide) (by decide) q1_119 rfl (show decode cX11_town 99 = .ok (.putfield 103, 3) by decide +kernel) rfl rfl (Or.inl rfl) (ov_set1 e53 (by rcases c48 with rfl | rfl | rfl | rfl <;> rfl)) ?_
      obtain ⟨c54, h⟩ := chkI_some h
      refine y_iinc (show decode cX11_town 102 = .ok (.iinc 3 1, 3) by decide +kernel) 1 rfl c54 rfl (L1 := [(3, .inl (x40 + 1)), (0, .inr (.inr (0 + 1)))]) rfl ?_
      refine y_goto (tgt := 87) (show decode cX11_town 105 = .ok (.goto (-18), 3) by decide +kernel) rfl ?_
      refine y_pick [1, 0] rfl ?_
      exact hk42 _ _ h
  · rw [if_neg c9] at h
    refine y_if_ne_f (show decode cX11_town 21 = .ok (.ifCond .ne 5, 3) by decide +kernel) c9 (by decide) ?_
    refine y_iconst (show decode cX11_town 24 = .ok (.iconst (-1), 1) by decide +kernel) rfl ?_
    cases h
    exact y_iret (show decode cX11_town 25 = .ok (.ireturn, 1) by decide +kernel) rfl
abbrev MX11_plan : yM := (yX11_plan, cX11_plan, 3, some .int)
def cE_plan (N : Nat) (σ : ySt) : Option (Int × ySt) :=
  if (σ 1 1) ≤ 400 then
    chkP (σ 0 9) fun T2 =>
    chkT (σ 0 5) fun T5 =>
    bndR (cPl_readFrom N T2 T5 σ) fun r9 σ10 =>
    bnd (yset σ10 1 1 0) fun σ11 =>
    if ¬ r9 = (-1) then
      chkP (σ11 0 8) fun T14 =>
      chkP (σ11 0 9) fun T17 =>
      bnd (yset σ11 0 8 ((T17 : Nat) + 1 : Int)) fun σ20 =>
      bnd (yset σ20 0 9 ((T14 : Nat) + 1 : Int)) fun σ22 =>
      some (r9, σ22)
    else
      some ((-1), σ11)
  else
    some ((-2), σ)
set_option maxHeartbeats 4000000 in
set_option maxRecDepth 10000 in
theorem sh_cE_plan {E : yE} {N : Nat} {σ : ySt} {ρ : Int} {τ : ySt} (h : cE_plan N σ = some (ρ, τ)) : Con E MX11_plan 12 0 0 [.inr (.inr (0 + 1))] 150 (ov σ) (some (.inl ρ)) (ov τ) := by
  unfold cE_plan at h
  refine Con.ofY (by decide +kernel) (by simp [yWords, yCat]) (fun hok _ => ?_)
  show Y E MX11_plan (yRm 12 0 0) (yQf E (150 + 0) 0 0 (some (.inl ρ)) (ov τ)) 0 [(0, .inr (.inr (0 + 1)))] [] (ov σ) 150 0 0
  refine y_aload_n (show decode cX11_plan 0 = .ok (.aload_n 0, 1) by decide +kernel) 0 rfl ?_
  refine y_getf 0 11 0 12 (by decide) rfl (by decide) (by decide) q3_27 (show decode cX11_plan 1 = .ok (.getfield 12, 3) by decide +kernel) (v := .inr (.inr (1 + 1))) rfl ?_
  refine y_getf 1 8 1 83 (by decide) rfl (by decide) (by decide) q1_38 (show decode cX11_plan 4 = .ok (.getfield 83, 3) by decide +kernel) (v := .inl (σ 1 1)) rfl ?_
  refine y_sipush (show decode cX11_plan 7 = .ok (.sipush 400, 3) by decide +kernel) rfl rfl ?_
  by_cases c1 : (σ 1 1) ≤ 400
  · rw [if_pos c1] at h
    refine y_icmp_le_t (tgt := 16) (show decode cX11_plan 10 = .ok (.if_icmp .le 6, 3) by decide +kernel) rfl c1 ?_
    refine y_aload_n (show decode cX11_plan 16 = .ok (.aload_n 0, 1) by decide +kernel) 0 rfl ?_
    obtain ⟨T2, c3, c4, h⟩ := chkP_some h
    refine y_getf 0 11 9 60 (by decide) rfl (by decide) (by decide) q3_36 (show decode cX11_plan 17 = .ok (.getfield 60, 3) by decide +kernel) (v := .inr (.inr (T2 + 1))) (by rw [← c4]; rfl) ?_
    refine y_aload_n (show decode cX11_plan 20 = .ok (.aload_n 0, 1) by decide +kernel) 0 rfl ?_
    refine y_getf 0 11 0 12 (by decide) rfl (by decide) (by decide) q3_27 (show decode cX11_plan 21 = .ok (.getfield 12, 3) by decide +kernel) (v := .inr (.inr (1 + 1))) rfl ?_
    refine y_aload_n (show decode cX11_plan 24 = .ok (.aload_n 0, 1) by decide +kernel) 0 rfl ?_
    obtain ⟨T5, c6, c7, h⟩ := chkT_some h
    refine y_getf 0 11 5 37 (by decide) rfl (by decide) (by decide) q3_32 (show decode cX11_plan 25 = .ok (.getfield 37, 3) by decide +kernel) (v := .inr (.inr (T5 + 1))) (by rw [← c7]; rfl) ?_
    obtain ⟨r9, σ10, e8, h⟩ := bndR_some h
    refine y_callV (np := 2) (st := []) (as := [.inr (.inr (1 + 1)), .inr (.inr (T5 + 1))]) T2 6 (sh_cPl_readFrom e8) q4_133 q4_130 q4_131 q4_132 q1_10 (by omega) (by rcases c3 with rfl | rfl <;> rfl) (by decide) rfl (by decide) (by decide +kernel) (by decide) rfl (Nat.le_of_ble_eq_true rfl) (show decode cX11_plan 28 = .ok (.invokevirtual 114, 3) by decide +kernel) rfl ?_
    refine y_istore_n (show decode cX11_plan 31 = .ok (.istore_n 1, 1) by decide +kernel) rfl (L1 := [(1, .inl r9), (0, .inr (.inr (0 + 1)))]) rfl ?_
    refine y_aload_n (show decode cX11_plan 32 = .ok (.aload_n 0, 1) by decide +kernel) 1 rfl ?_
    refine y_getf 0 11 0 12 (by decide) rfl (by decide) (by decide) q3_27 (show decode cX11_plan 33 = .ok (.getfield 12, 3) by decide +kernel) (v := .inr (.inr (1 + 1))) rfl ?_
    refine y_iconst (show decode cX11_plan 36 = .ok (.iconst 0, 1) by decide +kernel) rfl ?_
    obtain ⟨σ11, e12, h⟩ := bnd_i h
    refine yo_putI 1 8 1 83 (by decide) rfl (by decide) (by decide) q1_38 rfl (show decode cX11_plan 37 = .ok (.putfield 83, 3) by decide +kernel) rfl rfl (ov_set1 e12 rfl) ?_
    refine y_iload_n (show decode cX11_plan 40 = .ok (.iload_n 1, 1) by decide +kernel) 0 rfl ?_
    refine y_iconst (show decode cX11_plan 41 = .ok (.iconst (-1), 1) by decide +kernel) rfl ?_
    by_cases c13 : ¬ r9 = (-1)
    · rw [if_pos c13] at h
      refine y_icmp_ne_t (tgt := 47) (show decode cX11_plan 42 = .ok (.if_icmp .ne 5, 3) by decide +kernel) rfl c13 ?_
      refine y_aload_n (show decode cX11_plan 47 = .ok (.aload_n 0, 1) by decide +kernel) 1 rfl ?_
      obtain ⟨T14, c15, c16, h⟩ := chkP_some h
      refine y_getf 0 11 8 56 (by decide) rfl (by decide) (by decide) q3_35 (show decode cX11_plan 48 = .ok (.getfield 56, 3) by decide +kernel) (v := .inr (.inr (T14 + 1))) (by rw [← c16]; rfl) ?_
      refine y_astore_n (show decode cX11_plan 51 = .ok (.astore_n 2, 1) by decide +kernel) rfl (L1 := [(2, .inr (.inr (T14 + 1))), (1, .inl r9), (0, .inr (.inr (0 + 1)))]) rfl ?_
      refine y_aload_n (show decode cX11_plan 52 = .ok (.aload_n 0, 1) by decide +kernel) 2 rfl ?_
      refine y_aload_n (show decode cX11_plan 53 = .ok (.aload_n 0, 1) by decide +kernel) 2 rfl ?_
      obtain ⟨T17, c18, c19, h⟩ := chkP_some h
      refine y_getf 0 11 9 60 (by decide) rfl (by decide) (by decide) q3_36 (show decode cX11_plan 54 = .ok (.getfield 60, 3) by decide +kernel) (v := .inr (.inr (T17 + 1))) (by rw [← c19]; rfl) ?_
      obtain ⟨σ20, e21, h⟩ := bnd_i h
      refine yo_putR 0 11 8 56 T17 (by decide) rfl (by decide) (by decide) q3_35 rfl (show decode cX11_plan 57 = .ok (.putfield 56, 3) by decide +kernel) rfl rfl (ov_set1 e21 rfl) ?_
      refine y_aload_n (show decode cX11_plan 60 = .ok (.aload_n 0, 1) by decide +kernel) 2 rfl ?_
      refine y_aload_n (show decode cX11_plan 61 = .ok (.aload_n 2, 1) by decide +kernel) 0 rfl ?_
      obtain ⟨σ22, e23, h⟩ := bnd_i h
      refine yo_putR 0 11 9 60 T14 (by decide) rfl (by decide) (by decide) q3_36 rfl (show decode cX11_plan 62 = .ok (.putfield 60, 3) by decide +kernel) rfl rfl (ov_set1 e23 rfl) ?_
      refine y_iload_n (show decode cX11_plan 65 = .ok (.iload_n 1, 1) by decide +kernel) 1 rfl ?_
      cases h
      exact y_iret (show decode cX11_plan 66 = .ok (.ireturn, 1) by decide +kernel) rfl
    · rw [if_neg c13] at h
      refine y_icmp_ne_f (show decode cX11_plan 42 = .ok (.if_icmp .ne 5, 3) by decide +kernel) c13 (by decide) ?_
      refine y_iconst (show decode cX11_plan 45 = .ok (.iconst (-1), 1) by decide +kernel) rfl ?_
      cases h
      exact y_iret (show decode cX11_plan 46 = .ok (.ireturn, 1) by decide +kernel) rfl
  · rw [if_neg c1] at h
    refine y_icmp_le_f (show decode cX11_plan 10 = .ok (.if_icmp .le 6, 3) by decide +kernel) c1 (by decide) ?_
    refine y_bipush (show decode cX11_plan 13 = .ok (.bipush (-2), 2) by decide +kernel) rfl rfl ?_
    cases h
    exact y_iret (show decode cX11_plan 15 = .ok (.ireturn, 1) by decide +kernel) rfl
abbrev MX11_fault : yM := (yX11_fault, cX11_fault, 2, some .int)
def cE_fault (a : Int) (σ : ySt) : Option (Int) :=
  if ¬ a = 0 then
    if ¬ a = 1 then
      some (-1)
    else
      some (σ 1 7)
  else
    some (σ 1 6)
set_option maxHeartbeats 4000000 in
set_option maxRecDepth 10000 in
theorem sh_cE_fault {E : yE} {a : Int} {σ : ySt} {ρ : Int} (h : cE_fault a σ = some ρ) : Con E MX11_fault 0 0 0 [.inr (.inr (0 + 1)), .inl a] 150 (ov σ) (some (.inl ρ)) (ov σ) := by
  unfold cE_fault at h
  refine Con.ofY (by decide +kernel) (by simp [yWords, yCat]) (fun hok _ => ?_)
  show Y E MX11_fault (yRm 0 0 0) (yQf E (150 + 0) 0 0 (some (.inl ρ)) (ov σ)) 0 [(0, .inr (.inr (0 + 1))), (1, .inl a)] [] (ov σ) 150 0 0
  refine y_iload_n (show decode cX11_fault 0 = .ok (.iload_n 1, 1) by decide +kernel) 1 rfl ?_
  by_cases c1 : ¬ a = 0
  · rw [if_pos c1] at h
    refine y_if_ne_t (tgt := 14) (show decode cX11_fault 1 = .ok (.ifCond .ne 13, 3) by decide +kernel) rfl c1 ?_
    refine y_iload_n (show decode cX11_fault 14 = .ok (.iload_n 1, 1) by decide +kernel) 1 rfl ?_
    refine y_iconst (show decode cX11_fault 15 = .ok (.iconst 1, 1) by decide +kernel) rfl ?_
    by_cases c2 : ¬ a = 1
    · rw [if_pos c2] at h
      refine y_icmp_ne_t (tgt := 29) (show decode cX11_fault 16 = .ok (.if_icmp .ne 13, 3) by decide +kernel) rfl c2 ?_
      refine y_iconst (show decode cX11_fault 29 = .ok (.iconst (-1), 1) by decide +kernel) rfl ?_
      cases h
      exact y_iret (show decode cX11_fault 30 = .ok (.ireturn, 1) by decide +kernel) rfl
    · rw [if_neg c2] at h
      refine y_icmp_ne_f (show decode cX11_fault 16 = .ok (.if_icmp .ne 13, 3) by decide +kernel) c2 (by decide) ?_
      refine y_aload_n (show decode cX11_fault 19 = .ok (.aload_n 0, 1) by decide +kernel) 0 rfl ?_
      refine y_getf 0 11 0 12 (by decide) rfl (by decide) (by decide) q3_27 (show decode cX11_fault 20 = .ok (.getfield 12, 3) by decide +kernel) (v := .inr (.inr (1 + 1))) rfl ?_
      refine y_getf 1 8 7 121 (by decide) rfl (by decide) (by decide) q1_52 (show decode cX11_fault 23 = .ok (.getfield 121, 3) by decide +kernel) (v := .inl (σ 1 7)) rfl ?_
      refine y_goto (tgt := 30) (show decode cX11_fault 26 = .ok (.goto 4, 3) by decide +kernel) rfl ?_
      cases h
      exact y_iret (show decode cX11_fault 30 = .ok (.ireturn, 1) by decide +kernel) rfl
  · rw [if_neg c1] at h
    refine y_if_ne_f (show decode cX11_fault 1 = .ok (.ifCond .ne 13, 3) by decide +kernel) c1 (by decide) ?_
    refine y_aload_n (show decode cX11_fault 4 = .ok (.aload_n 0, 1) by decide +kernel) 0 rfl ?_
    refine y_getf 0 11 0 12 (by decide) rfl (by decide) (by decide) q3_27 (show decode cX11_fault 5 = .ok (.getfield 12, 3) by decide +kernel) (v := .inr (.inr (1 + 1))) rfl ?_
    refine y_getf 1 8 6 118 (by decide) rfl (by decide) (by decide) q1_50 (show decode cX11_fault 8 = .ok (.getfield 118, 3) by decide +kernel) (v := .inl (σ 1 6)) rfl ?_
    refine y_goto (tgt := 30) (show decode cX11_fault 11 = .ok (.goto 19, 3) by decide +kernel) rfl ?_
    cases h
    exact y_iret (show decode cX11_fault 30 = .ok (.ireturn, 1) by decide +kernel) rfl
abbrev MX11_minutes : yM := (yX11_minutes, cX11_minutes, 4, some .int)
def cE_minutes (a : Int) (b : Int) (σ : ySt) : Option (Int) :=
  chkT (σ 0 5) fun T1 =>
  bndO (cTw_hasPlace T1 a σ) fun r5 =>
  if r5 = 0 then
    some (-1)
  else
    chkT (σ 0 5) fun T7 =>
    bndO (cTw_hasPlace T7 b σ) fun r11 =>
    if ¬ r11 = 0 then
      chkT (σ 0 5) fun T13 =>
      chkI (a * 6) <|
      chkI ((a * 6) + b) <|
      chkA 36 ((a * 6) + b) <|
      if (σ (T13 + 15) (((a * 6) + b)).toNat) ≥ 1000000 then
        some (-1)
      else
        some (σ (T13 + 15) (((a * 6) + b)).toNat)
    else
      some (-1)
set_option maxHeartbeats 4000000 in
set_option maxRecDepth 10000 in
theorem sh_cE_minutes {E : yE} {a : Int} {b : Int} {σ : ySt} {ρ : Int} (h : cE_minutes a b σ = some ρ) : Con E MX11_minutes 1 0 0 [.inr (.inr (0 + 1)), .inl a, .inl b] 150 (ov σ) (some (.inl ρ)) (ov σ) := by
  unfold cE_minutes at h
  refine Con.ofY (by decide +kernel) (by simp [yWords, yCat]) (fun hok _ => ?_)
  show Y E MX11_minutes (yRm 1 0 0) (yQf E (150 + 0) 0 0 (some (.inl ρ)) (ov σ)) 0 [(0, .inr (.inr (0 + 1))), (1, .inl a), (2, .inl b)] [] (ov σ) 150 0 0
  refine y_aload_n (show decode cX11_minutes 0 = .ok (.aload_n 0, 1) by decide +kernel) 0 rfl ?_
  obtain ⟨T1, c2, c3, h⟩ := chkT_some h
  refine y_getf 0 11 5 37 (by decide) rfl (by decide) (by decide) q3_32 (show decode cX11_minutes 1 = .ok (.getfield 37, 3) by decide +kernel) (v := .inr (.inr (T1 + 1))) (by rw [← c3]; rfl) ?_
  refine y_iload_n (show decode cX11_minutes 4 = .ok (.iload_n 1, 1) by decide +kernel) 1 rfl ?_
  obtain ⟨r5, e4, h⟩ := bndO_some h
  refine y_callV (np := 1) (st := []) (as := [.inl a]) T1 9 (sh_cTw_hasPlace e4) q4_156 q4_153 q4_154 q4_155 q1_5 (by omega) (by rcases c2 with rfl | rfl <;> rfl) (by decide) rfl (by decide) (by decide +kernel) (by decide) rfl (Nat.le_of_ble_eq_true rfl) (show decode cX11_minutes 5 = .ok (.invokevirtual 124, 3) by decide +kernel) rfl ?_
  by_cases c6 : r5 = 0
  · rw [if_pos c6] at h
    refine y_if_eq_t (tgt := 22) (show decode cX11_minutes 8 = .ok (.ifCond .eq 14, 3) by decide +kernel) rfl c6 ?_
    refine y_iconst (show decode cX11_minutes 22 = .ok (.iconst (-1), 1) by decide +kernel) rfl ?_
    cases h
    exact y_iret (show decode cX11_minutes 23 = .ok (.ireturn, 1) by decide +kernel) rfl
  · rw [if_neg c6] at h
    refine y_if_eq_f (show decode cX11_minutes 8 = .ok (.ifCond .eq 14, 3) by decide +kernel) c6 (by decide) ?_
    refine y_aload_n (show decode cX11_minutes 11 = .ok (.aload_n 0, 1) by decide +kernel) 0 rfl ?_
    obtain ⟨T7, c8, c9, h⟩ := chkT_some h
    refine y_getf 0 11 5 37 (by decide) rfl (by decide) (by decide) q3_32 (show decode cX11_minutes 12 = .ok (.getfield 37, 3) by decide +kernel) (v := .inr (.inr (T7 + 1))) (by rw [← c9]; rfl) ?_
    refine y_iload_n (show decode cX11_minutes 15 = .ok (.iload_n 2, 1) by decide +kernel) 2 rfl ?_
    obtain ⟨r11, e10, h⟩ := bndO_some h
    refine y_callV (np := 1) (st := []) (as := [.inl b]) T7 9 (sh_cTw_hasPlace e10) q4_156 q4_153 q4_154 q4_155 q1_5 (by omega) (by rcases c8 with rfl | rfl <;> rfl) (by decide) rfl (by decide) (by decide +kernel) (by decide) rfl (Nat.le_of_ble_eq_true rfl) (show decode cX11_minutes 16 = .ok (.invokevirtual 124, 3) by decide +kernel) rfl ?_
    by_cases c12 : ¬ r11 = 0
    · rw [if_pos c12] at h
      refine y_if_ne_t (tgt := 24) (show decode cX11_minutes 19 = .ok (.ifCond .ne 5, 3) by decide +kernel) rfl c12 ?_
      refine y_aload_n (show decode cX11_minutes 24 = .ok (.aload_n 0, 1) by decide +kernel) 0 rfl ?_
      obtain ⟨T13, c14, c15, h⟩ := chkT_some h
      refine y_getf 0 11 5 37 (by decide) rfl (by decide) (by decide) q3_32 (show decode cX11_minutes 25 = .ok (.getfield 37, 3) by decide +kernel) (v := .inr (.inr (T13 + 1))) (by rw [← c15]; rfl) ?_
      refine y_getf T13 9 11 127 (by omega) (by rcases c14 with rfl | rfl <;> rfl) (by decide) (by decide) q2_0 (show decode cX11_minutes 28 = .ok (.getfield 127, 3) by decide +kernel) (v := .inr (.inr ((T13 + 15) + 1))) (by rcases c14 with rfl | rfl <;> rfl) ?_
      refine y_iload_n (show decode cX11_minutes 31 = .ok (.iload_n 1, 1) by decide +kernel) 1 rfl ?_
      refine y_bipush (show decode cX11_minutes 32 = .ok (.bipush 6, 2) by decide +kernel) rfl rfl ?_
      obtain ⟨c16, h⟩ := chkI_some h
      refine y_imul (show decode cX11_minutes 34 = .ok (.imul, 1) by decide +kernel) c16 ?_
      refine y_iload_n (show decode cX11_minutes 35 = .ok (.iload_n 2, 1) by decide +kernel) 2 rfl ?_
      obtain ⟨c17, h⟩ := chkI_some h
      refine y_iadd (show decode cX11_minutes 36 = .ok (.iadd, 1) by decide +kernel) c17 ?_
      obtain ⟨c18, h⟩ := chkA_some h
      refine yo_iald (T13 + 15) 36 (by omega) (by rcases c14 with rfl | rfl <;> rfl) c18 (ov_at (by rcases c14 with rfl | rfl <;> rfl)) (show decode cX11_minutes 37 = .ok (.iaload, 1) by decide +kernel) ?_
      refine y_istore_n (show decode cX11_minutes 38 = .ok (.istore_n 3, 1) by decide +kernel) rfl (L1 := [(3, .inl (σ (T13 + 15) (((a * 6) + b)).toNat)), (0, .inr (.inr (0 + 1))), (1, .inl a), (2, .inl b)]) rfl ?_
      refine y_iload_n (show decode cX11_minutes 39 = .ok (.iload_n 3, 1) by decide +kernel) 0 rfl ?_
      refine y_ldc (k := 1000000) (show decode cX11_minutes 40 = .ok (.ldc 131, 2) by decide +kernel) q4_157 rfl rfl ?_
      by_cases c19 : (σ (T13 + 15) (((a * 6) + b)).toNat) ≥ 1000000
      · rw [if_pos c19] at h
        refine y_icmp_ge_t (tgt := 49) (show decode cX11_minutes 42 = .ok (.if_icmp .ge 7, 3) by decide +kernel) rfl c19 ?_
        refine y_iconst (show decode cX11_minutes 49 = .ok (.iconst (-1), 1) by decide +kernel) rfl ?_
        cases h
        exact y_iret (show decode cX11_minutes 50 = .ok (.ireturn, 1) by decide +kernel) rfl
      · rw [if_neg c19] at h
        refine y_icmp_ge_f (show decode cX11_minutes 42 = .ok (.if_icmp .ge 7, 3) by decide +kernel) c19 (by decide) ?_
        refine y_iload_n (show decode cX11_minutes 45 = .ok (.iload_n 3, 1) by decide +kernel) 0 rfl ?_
        refine y_goto (tgt := 50) (show decode cX11_minutes 46 = .ok (.goto 4, 3) by decide +kernel) rfl ?_
        cases h
        exact y_iret (show decode cX11_minutes 50 = .ok (.ireturn, 1) by decide +kernel) rfl
    · rw [if_neg c12] at h
      refine y_if_ne_f (show decode cX11_minutes 19 = .ok (.ifCond .ne 5, 3) by decide +kernel) c12 (by decide) ?_
      refine y_iconst (show decode cX11_minutes 22 = .ok (.iconst (-1), 1) by decide +kernel) rfl ?_
      cases h
      exact y_iret (show decode cX11_minutes 23 = .ok (.ireturn, 1) by decide +kernel) rfl
abbrev MX11_isStroke : yM := (yX11_isStroke, cX11_isStroke, 2, some .boolean)
def cE_isStroke (a : Int) (b : Int) (σ : ySt) : Option (Int) :=
  if a < 1 then
    some 0
  else
    if a > b then
      some 0
    else
      some 1
set_option maxHeartbeats 4000000 in
set_option maxRecDepth 10000 in
theorem sh_cE_isStroke {E : yE} {a : Int} {b : Int} {σ : ySt} {ρ : Int} (h : cE_isStroke a b σ = some ρ) : Con E MX11_isStroke 0 0 0 [.inl a, .inl b] 150 (ov σ) (some (.inl ρ)) (ov σ) := by
  unfold cE_isStroke at h
  refine Con.ofY (by decide +kernel) (by simp [yWords, yCat]) (fun hok _ => ?_)
  show Y E MX11_isStroke (yRm 0 0 0) (yQf E (150 + 0) 0 0 (some (.inl ρ)) (ov σ)) 0 [(0, .inl a), (1, .inl b)] [] (ov σ) 150 0 0
  refine y_iload_n (show decode cX11_isStroke 0 = .ok (.iload_n 0, 1) by decide +kernel) 0 rfl ?_
  refine y_iconst (show decode cX11_isStroke 1 = .ok (.iconst 1, 1) by decide +kernel) rfl ?_
  by_cases c1 : a < 1
  · rw [if_pos c1] at h
    refine y_icmp_lt_t (tgt := 14) (show decode cX11_isStroke 2 = .ok (.if_icmp .lt 12, 3) by decide +kernel) rfl c1 ?_
    refine y_iconst (show decode cX11_isStroke 14 = .ok (.iconst 0, 1) by decide +kernel) rfl ?_
    cases h
    exact y_zret (show decode cX11_isStroke 15 = .ok (.ireturn, 1) by decide +kernel) rfl (Or.inl rfl)
  · rw [if_neg c1] at h
    refine y_icmp_lt_f (show decode cX11_isStroke 2 = .ok (.if_icmp .lt 12, 3) by decide +kernel) c1 (by decide) ?_
    refine y_iload_n (show decode cX11_isStroke 5 = .ok (.iload_n 0, 1) by decide +kernel) 0 rfl ?_
    refine y_iload_n (show decode cX11_isStroke 6 = .ok (.iload_n 1, 1) by decide +kernel) 1 rfl ?_
    by_cases c2 : a > b
    · rw [if_pos c2] at h
      refine y_icmp_gt_t (tgt := 14) (show decode cX11_isStroke 7 = .ok (.if_icmp .gt 7, 3) by decide +kernel) rfl c2 ?_
      refine y_iconst (show decode cX11_isStroke 14 = .ok (.iconst 0, 1) by decide +kernel) rfl ?_
      cases h
      exact y_zret (show decode cX11_isStroke 15 = .ok (.ireturn, 1) by decide +kernel) rfl (Or.inl rfl)
    · rw [if_neg c2] at h
      refine y_icmp_gt_f (show decode cX11_isStroke 7 = .ok (.if_icmp .gt 7, 3) by decide +kernel) c2 (by decide) ?_
      refine y_iconst (show decode cX11_isStroke 10 = .ok (.iconst 1, 1) by decide +kernel) rfl ?_
      refine y_goto (tgt := 15) (show decode cX11_isStroke 11 = .ok (.goto 4, 3) by decide +kernel) rfl ?_
      cases h
      exact y_zret (show decode cX11_isStroke 15 = .ok (.ireturn, 1) by decide +kernel) rfl (Or.inr rfl)
abbrev MX11_right : yM := (yX11_right, cX11_right, 4, some .int)
def cE_right (a : Int) (b : Int) (c : Int) (σ : ySt) : Option (Int) :=
  chkT (σ 0 5) fun T1 =>
  bndO (cTw_hasPlace T1 a σ) fun r5 =>
  if r5 = 0 then
    some (-1)
  else
    if b < 0 then
      some (-1)
    else
      if b ≥ 6 then
        some (-1)
      else
        bndO (cE_isStroke c 8 σ) fun r10 =>
        if ¬ r10 = 0 then
          chkT (σ 0 5) fun T12 =>
          bndO (cTw_isRight T12 a b c σ) fun r16 =>
          if r16 = 0 then
            some 0
          else
            some 1
        else
          some (-1)
set_option maxHeartbeats 4000000 in
set_option maxRecDepth 10000 in
theorem sh_cE_right {E : yE} {a : Int} {b : Int} {c : Int} {σ : ySt} {ρ : Int} (h : cE_right a b c σ = some ρ) : Con E MX11_right 1 0 0 [.inr (.inr (0 + 1)), .inl a, .inl b, .inl c] 150 (ov σ) (some (.inl ρ)) (ov σ) := by
  unfold cE_right at h
  refine Con.ofY (by decide +kernel) (by simp [yWords, yCat]) (fun hok _ => ?_)
  show Y E MX11_right (yRm 1 0 0) (yQf E (150 + 0) 0 0 (some (.inl ρ)) (ov σ)) 0 [(0, .inr (.inr (0 + 1))), (1, .inl a), (2, .inl b), (3, .inl c)] [] (ov σ) 150 0 0
  refine y_aload_n (show decode cX11_right 0 = .ok (.aload_n 0, 1) by decide +kernel) 0 rfl ?_
  obtain ⟨T1, c2, c3, h⟩ := chkT_some h
  refine y_getf 0 11 5 37 (by decide) rfl (by decide) (by decide) q3_32 (show decode cX11_right 1 = .ok (.getfield 37, 3) by decide +kernel) (v := .inr (.inr (T1 + 1))) (by rw [← c3]; rfl) ?_
  refine y_iload_n (show decode cX11_right 4 = .ok (.iload_n 1, 1) by decide +kernel) 1 rfl ?_
  obtain ⟨r5, e4, h⟩ := bndO_some h
  refine y_callV (np := 1) (st := []) (as := [.inl a]) T1 9 (sh_cTw_hasPlace e4) q4_156 q4_153 q4_154 q4_155 q1_5 (by omega) (by rcases c2 with rfl | rfl <;> rfl) (by decide) rfl (by decide) (by decide +kernel) (by decide) rfl (Nat.le_of_ble_eq_true rfl) (show decode cX11_right 5 = .ok (.invokevirtual 124, 3) by decide +kernel) rfl ?_
  by_cases c6 : r5 = 0
  · rw [if_pos c6] at h
    refine y_if_eq_t (tgt := 30) (show decode cX11_right 8 = .ok (.ifCond .eq 22, 3) by decide +kernel) rfl c6 ?_
    refine y_iconst (show decode cX11_right 30 = .ok (.iconst (-1), 1) by decide +kernel) rfl ?_
    cases h
    exact y_iret (show decode cX11_right 31 = .ok (.ireturn, 1) by decide +kernel) rfl
  · rw [if_neg c6] at h
    refine y_if_eq_f (show decode cX11_right 8 = .ok (.ifCond .eq 22, 3) by decide +kernel) c6 (by decide) ?_
    refine y_iload_n (show decode cX11_right 11 = .ok (.iload_n 2, 1) by decide +kernel) 2 rfl ?_
    by_cases c7 : b < 0
    · rw [if_pos c7] at h
      refine y_if_lt_t (tgt := 30) (show decode cX11_right 12 = .ok (.ifCond .lt 18, 3) by decide +kernel) rfl c7 ?_
      refine y_iconst (show decode cX11_right 30 = .ok (.iconst (-1), 1) by decide +kernel) rfl ?_
      cases h
      exact y_iret (show decode cX11_right 31 = .ok (.ireturn, 1) by decide +kernel) rfl
    · rw [if_neg c7] at h
      refine y_if_lt_f (show decode cX11_right 12 = .ok (.ifCond .lt 18, 3) by decide +kernel) c7 (by decide) ?_
      refine y_iload_n (show decode cX11_right 15 = .ok (.iload_n 2, 1) by decide +kernel) 2 rfl ?_
      refine y_bipush (show decode cX11_right 16 = .ok (.bipush 6, 2) by decide +kernel) rfl rfl ?_
      by_cases c8 : b ≥ 6
      · rw [if_pos c8] at h
        refine y_icmp_ge_t (tgt := 30) (show decode cX11_right 18 = .ok (.if_icmp .ge 12, 3) by decide +kernel) rfl c8 ?_
        refine y_iconst (show decode cX11_right 30 = .ok (.iconst (-1), 1) by decide +kernel) rfl ?_
        cases h
        exact y_iret (show decode cX11_right 31 = .ok (.ireturn, 1) by decide +kernel) rfl
      · rw [if_neg c8] at h
        refine y_icmp_ge_f (show decode cX11_right 18 = .ok (.if_icmp .ge 12, 3) by decide +kernel) c8 (by decide) ?_
        refine y_iload_n (show decode cX11_right 21 = .ok (.iload_n 3, 1) by decide +kernel) 3 rfl ?_
        refine y_bipush (show decode cX11_right 22 = .ok (.bipush 8, 2) by decide +kernel) rfl rfl ?_
        obtain ⟨r10, e9, h⟩ := bndO_some h
        refine y_callS (np := 2) (st := []) (as := [.inl c, .inl 8]) (sh_cE_isStroke e9) q4_164 q4_162 q4_163 q1_1 (by decide) (by decide +kernel) (by decide) rfl (Nat.le_of_ble_eq_true rfl) (show decode cX11_right 24 = .ok (.invokestatic 132, 3) by decide +kernel) rfl ?_
        by_cases c11 : ¬ r10 = 0
        · rw [if_pos c11] at h
          refine y_if_ne_t (tgt := 32) (show decode cX11_right 27 = .ok (.ifCond .ne 5, 3) by decide +kernel) rfl c11 ?_
          refine y_aload_n (show decode cX11_right 32 = .ok (.aload_n 0, 1) by decide +kernel) 0 rfl ?_
          obtain ⟨T12, c13, c14, h⟩ := chkT_some h
          refine y_getf 0 11 5 37 (by decide) rfl (by decide) (by decide) q3_32 (show decode cX11_right 33 = .ok (.getfield 37, 3) by decide +kernel) (v := .inr (.inr (T12 + 1))) (by rw [← c14]; rfl) ?_
          refine y_iload_n (show decode cX11_right 36 = .ok (.iload_n 1, 1) by decide +kernel) 1 rfl ?_
          refine y_iload_n (show decode cX11_right 37 = .ok (.iload_n 2, 1) by decide +kernel) 2 rfl ?_
          refine y_iload_n (show decode cX11_right 38 = .ok (.iload_n 3, 1) by decide +kernel) 3 rfl ?_
          obtain ⟨r16, e15, h⟩ := bndO_some h
          refine y_callV (np := 3) (st := []) (as := [.inl a, .inl b, .inl c]) T12 9 (sh_cTw_isRight e15) q4_168 q4_165 q4_166 q4_167 q1_5 (by omega) (by rcases c13 with rfl | rfl <;> rfl) (by decide) rfl (by decide) (by decide +kernel) (by decide) rfl (Nat.le_of_ble_eq_true rfl) (show decode cX11_right 39 = .ok (.invokevirtual 136, 3) by decide +kernel) rfl ?_
          by_cases c17 : r16 = 0
          · rw [if_pos c17] at h
            refine y_if_eq_t (tgt := 49) (show decode cX11_right 42 = .ok (.ifCond .eq 7, 3) by decide +kernel) rfl c17 ?_
            refine y_iconst (show decode cX11_right 49 = .ok (.iconst 0, 1) by decide +kernel) rfl ?_
            cases h
            exact y_iret (show decode cX11_right 50 = .ok (.ireturn, 1) by decide +kernel) rfl
          · rw [if_neg c17] at h
            refine y_if_eq_f (show decode cX11_right 42 = .ok (.ifCond .eq 7, 3) by decide +kernel) c17 (by decide) ?_
            refine y_iconst (show decode cX11_right 45 = .ok (.iconst 1, 1) by decide +kernel) rfl ?_
            refine y_goto (tgt := 50) (show decode cX11_right 46 = .ok (.goto 4, 3) by decide +kernel) rfl ?_
            cases h
            exact y_iret (show decode cX11_right 50 = .ok (.ireturn, 1) by decide +kernel) rfl
        · rw [if_neg c11] at h
          refine y_if_ne_f (show decode cX11_right 27 = .ok (.ifCond .ne 5, 3) by decide +kernel) c11 (by decide) ?_
          refine y_iconst (show decode cX11_right 30 = .ok (.iconst (-1), 1) by decide +kernel) rfl ?_
          cases h
          exact y_iret (show decode cX11_right 31 = .ok (.ireturn, 1) by decide +kernel) rfl
abbrev MX11_judge : yM := (yX11_judge, cX11_judge, 2, some .int)
def cE_judge (N : Nat) (a : Int) (σ : ySt) : Option (Int × ySt) :=
  if a < 0 then
    some ((-1), σ)
  else
    if a ≤ 2 then
      chkP (σ 0 8) fun T3 =>
      chkT (σ 0 5) fun T6 =>
      bndO (cPl_judgeIn N T3 T6 σ) fun σ10 =>
      if ¬ a = 0 then
        if ¬ a = 1 then
          chkP (σ10 0 8) fun T13 =>
          some ((σ10 T13 3), σ10)
        else
          chkP (σ10 0 8) fun T16 =>
          some ((σ10 T16 2), σ10)
      else
        chkP (σ10 0 8) fun T19 =>
        some ((σ10 T19 1), σ10)
    else
      some ((-1), σ)
set_option maxHeartbeats 4000000 in
set_option maxRecDepth 10000 in
theorem sh_cE_judge {E : yE} {N : Nat} {a : Int} {σ : ySt} {ρ : Int} {τ : ySt} (h : cE_judge N a σ = some (ρ, τ)) : Con E MX11_judge 3 0 0 [.inr (.inr (0 + 1)), .inl a] 150 (ov σ) (some (.inl ρ)) (ov τ) := by
  unfold cE_judge at h
  refine Con.ofY (by decide +kernel) (by simp [yWords, yCat]) (fun hok _ => ?_)
  show Y E MX11_judge (yRm 3 0 0) (yQf E (150 + 0) 0 0 (some (.inl ρ)) (ov τ)) 0 [(0, .inr (.inr (0 + 1))), (1, .inl a)] [] (ov σ) 150 0 0
  refine y_iload_n (show decode cX11_judge 0 = .ok (.iload_n 1, 1) by decide +kernel) 1 rfl ?_
  by_cases c1 : a < 0
  · rw [if_pos c1] at h
    refine y_if_lt_t (tgt := 9) (show decode cX11_judge 1 = .ok (.ifCond .lt 8, 3) by decide +kernel) rfl c1 ?_
    refine y_iconst (show decode cX11_judge 9 = .ok (.iconst (-1), 1) by decide +kernel) rfl ?_
    cases h
    exact y_iret (show decode cX11_judge 10 = .ok (.ireturn, 1) by decide +kernel) rfl
  · rw [if_neg c1] at h
    refine y_if_lt_f (show decode cX11_judge 1 = .ok (.ifCond .lt 8, 3) by decide +kernel) c1 (by decide) ?_
    refine y_iload_n (show decode cX11_judge 4 = .ok (.iload_n 1, 1) by decide +kernel) 1 rfl ?_
    refine y_iconst (show decode cX11_judge 5 = .ok (.iconst 2, 1) by decide +kernel) rfl ?_
    by_cases c2 : a ≤ 2
    · rw [if_pos c2] at h
      refine y_icmp_le_t (tgt := 11) (show decode cX11_judge 6 = .ok (.if_icmp .le 5, 3) by decide +kernel) rfl c2 ?_
      refine y_aload_n (show decode cX11_judge 11 = .ok (.aload_n 0, 1) by decide +kernel) 0 rfl ?_
      obtain ⟨T3, c4, c5, h⟩ := chkP_some h
      refine y_getf 0 11 8 56 (by decide) rfl (by decide) (by decide) q3_35 (show decode cX11_judge 12 = .ok (.getfield 56, 3) by decide +kernel) (v := .inr (.inr (T3 + 1))) (by rw [← c5]; rfl) ?_
      refine y_aload_n (show decode cX11_judge 15 = .ok (.aload_n 0, 1) by decide +kernel) 0 rfl ?_
      obtain ⟨T6, c7, c8, h⟩ := chkT_some h
      refine y_getf 0 11 5 37 (by decide) rfl (by decide) (by decide) q3_32 (show decode cX11_judge 16 = .ok (.getfield 37, 3) by decide +kernel) (v := .inr (.inr (T6 + 1))) (by rw [← c8]; rfl) ?_
      obtain ⟨σ10, e9, h⟩ := bndO_some h
      refine y_callV (np := 1) (st := []) (as := [.inr (.inr (T6 + 1))]) T3 6 (sh_cPl_judgeIn e9) q4_176 q4_173 q4_174 q4_175 q1_10 (by omega) (by rcases c4 with rfl | rfl <;> rfl) (by decide) rfl (by decide) (by decide +kernel) (by decide) rfl (Nat.le_of_ble_eq_true rfl) (show decode cX11_judge 19 = .ok (.invokevirtual 140, 3) by decide +kernel) rfl ?_
      refine y_iload_n (show decode cX11_judge 22 = .ok (.iload_n 1, 1) by decide +kernel) 1 rfl ?_
      by_cases c11 : ¬ a = 0
      · rw [if_pos c11] at h
        refine y_if_ne_t (tgt := 36) (show decode cX11_judge 23 = .ok (.ifCond .ne 13, 3) by decide +kernel) rfl c11 ?_
        refine y_iload_n (show decode cX11_judge 36 = .ok (.iload_n 1, 1) by decide +kernel) 1 rfl ?_
        refine y_iconst (show decode cX11_judge 37 = .ok (.iconst 1, 1) by decide +kernel) rfl ?_
        by_cases c12 : ¬ a = 1
        · rw [if_pos c12] at h
          refine y_icmp_ne_t (tgt := 51) (show decode cX11_judge 38 = .ok (.if_icmp .ne 13, 3) by decide +kernel) rfl c12 ?_
          refine y_aload_n (show decode cX11_judge 51 = .ok (.aload_n 0, 1) by decide +kernel) 0 rfl ?_
          obtain ⟨T13, c14, c15, h⟩ := chkP_some h
          refine y_getf 0 11 8 56 (by decide) rfl (by decide) (by decide) q3_35 (show decode cX11_judge 52 = .ok (.getfield 56, 3) by decide +kernel) (v := .inr (.inr (T13 + 1))) (by rw [← c15]; rfl) ?_
          refine y_getf T13 6 3 149 (by omega) (by rcases c14 with rfl | rfl <;> rfl) (by decide) (by decide) q2_96 (show decode cX11_judge 55 = .ok (.getfield 149, 3) by decide +kernel) (v := .inl (σ10 T13 3)) (by rcases c14 with rfl | rfl <;> rfl) ?_
          cases h
          exact y_iret (show decode cX11_judge 58 = .ok (.ireturn, 1) by decide +kernel) rfl
        · rw [if_neg c12] at h
          refine y_icmp_ne_f (show decode cX11_judge 38 = .ok (.if_icmp .ne 13, 3) by decide +kernel) c12 (by decide) ?_
          refine y_aload_n (show decode cX11_judge 41 = .ok (.aload_n 0, 1) by decide +kernel) 0 rfl ?_
          obtain ⟨T16, c17, c18, h⟩ := chkP_some h
          refine y_getf 0 11 8 56 (by decide) rfl (by decide) (by decide) q3_35 (show decode cX11_judge 42 = .ok (.getfield 56, 3) by decide +kernel) (v := .inr (.inr (T16 + 1))) (by rw [← c18]; rfl) ?_
          refine y_getf T16 6 2 146 (by omega) (by rcases c17 with rfl | rfl <;> rfl) (by decide) (by decide) q2_94 (show decode cX11_judge 45 = .ok (.getfield 146, 3) by decide +kernel) (v := .inl (σ10 T16 2)) (by rcases c17 with rfl | rfl <;> rfl) ?_
          refine y_goto (tgt := 58) (show decode cX11_judge 48 = .ok (.goto 10, 3) by decide +kernel) rfl ?_
          cases h
          exact y_iret (show decode cX11_judge 58 = .ok (.ireturn, 1) by decide +kernel) rfl
      · rw [if_neg c11] at h
        refine y_if_ne_f (show decode cX11_judge 23 = .ok (.ifCond .ne 13, 3) by decide +kernel) c11 (by decide) ?_
        refine y_aload_n (show decode cX11_judge 26 = .ok (.aload_n 0, 1) by decide +kernel) 0 rfl ?_
        obtain ⟨T19, c20, c21, h⟩ := chkP_some h
        refine y_getf 0 11 8 56 (by decide) rfl (by decide) (by decide) q3_35 (show decode cX11_judge 27 = .ok (.getfield 56, 3) by decide +kernel) (v := .inr (.inr (T19 + 1))) (by rw [← c21]; rfl) ?_
        refine y_getf T19 6 1 143 (by omega) (by rcases c20 with rfl | rfl <;> rfl) (by decide) (by decide) q2_92 (show decode cX11_judge 30 = .ok (.getfield 143, 3) by decide +kernel) (v := .inl (σ10 T19 1)) (by rcases c20 with rfl | rfl <;> rfl) ?_
        refine y_goto (tgt := 58) (show decode cX11_judge 33 = .ok (.goto 25, 3) by decide +kernel) rfl ?_
        cases h
        exact y_iret (show decode cX11_judge 58 = .ok (.ireturn, 1) by decide +kernel) rfl
    · rw [if_neg c2] at h
      refine y_icmp_le_f (show decode cX11_judge 6 = .ok (.if_icmp .le 5, 3) by decide +kernel) c2 (by decide) ?_
      refine y_iconst (show decode cX11_judge 9 = .ok (.iconst (-1), 1) by decide +kernel) rfl ?_
      cases h
      exact y_iret (show decode cX11_judge 10 = .ok (.ireturn, 1) by decide +kernel) rfl
abbrev MX11_isSort : yM := (yX11_isSort, cX11_isSort, 1, some .boolean)
def cE_isSort (a : Int) (σ : ySt) : Option (Int) :=
  if a < 0 then
    some 0
  else
    if a ≥ 3 then
      some 0
    else
      some 1
set_option maxHeartbeats 4000000 in
set_option maxRecDepth 10000 in
theorem sh_cE_isSort {E : yE} {a : Int} {σ : ySt} {ρ : Int} (h : cE_isSort a σ = some ρ) : Con E MX11_isSort 0 0 0 [.inl a] 150 (ov σ) (some (.inl ρ)) (ov σ) := by
  unfold cE_isSort at h
  refine Con.ofY (by decide +kernel) (by simp [yWords, yCat]) (fun hok _ => ?_)
  show Y E MX11_isSort (yRm 0 0 0) (yQf E (150 + 0) 0 0 (some (.inl ρ)) (ov σ)) 0 [(0, .inl a)] [] (ov σ) 150 0 0
  refine y_iload_n (show decode cX11_isSort 0 = .ok (.iload_n 0, 1) by decide +kernel) 0 rfl ?_
  by_cases c1 : a < 0
  · rw [if_pos c1] at h
    refine y_if_lt_t (tgt := 13) (show decode cX11_isSort 1 = .ok (.ifCond .lt 12, 3) by decide +kernel) rfl c1 ?_
    refine y_iconst (show decode cX11_isSort 13 = .ok (.iconst 0, 1) by decide +kernel) rfl ?_
    cases h
    exact y_zret (show decode cX11_isSort 14 = .ok (.ireturn, 1) by decide +kernel) rfl (Or.inl rfl)
  · rw [if_neg c1] at h
    refine y_if_lt_f (show decode cX11_isSort 1 = .ok (.ifCond .lt 12, 3) by decide +kernel) c1 (by decide) ?_
    refine y_iload_n (show decode cX11_isSort 4 = .ok (.iload_n 0, 1) by decide +kernel) 0 rfl ?_
    refine y_iconst (show decode cX11_isSort 5 = .ok (.iconst 3, 1) by decide +kernel) rfl ?_
    by_cases c2 : a ≥ 3
    · rw [if_pos c2] at h
      refine y_icmp_ge_t (tgt := 13) (show decode cX11_isSort 6 = .ok (.if_icmp .ge 7, 3) by decide +kernel) rfl c2 ?_
      refine y_iconst (show decode cX11_isSort 13 = .ok (.iconst 0, 1) by decide +kernel) rfl ?_
      cases h
      exact y_zret (show decode cX11_isSort 14 = .ok (.ireturn, 1) by decide +kernel) rfl (Or.inl rfl)
    · rw [if_neg c2] at h
      refine y_icmp_ge_f (show decode cX11_isSort 6 = .ok (.if_icmp .ge 7, 3) by decide +kernel) c2 (by decide) ?_
      refine y_iconst (show decode cX11_isSort 9 = .ok (.iconst 1, 1) by decide +kernel) rfl ?_
      refine y_goto (tgt := 14) (show decode cX11_isSort 10 = .ok (.goto 4, 3) by decide +kernel) rfl ?_
      cases h
      exact y_zret (show decode cX11_isSort 14 = .ok (.ireturn, 1) by decide +kernel) rfl (Or.inr rfl)
abbrev MX11_value : yM := (yX11_value, cX11_value, 2, some .int)
def cE_value (N : Nat) (a : Int) (σ : ySt) : Option (Int × ySt) :=
  bndO (cE_isSort a σ) fun r2 =>
  if r2 = 0 then
    some ((-1000000), σ)
  else
    chkP (σ 0 8) fun T4 =>
    bndR (cAn_worthOfPlan N a T4 σ) fun r8 σ9 =>
    some (r8, σ9)
set_option maxHeartbeats 4000000 in
set_option maxRecDepth 10000 in
theorem sh_cE_value {E : yE} {N : Nat} {a : Int} {σ : ySt} {ρ : Int} {τ : ySt} (h : cE_value N a σ = some (ρ, τ)) : Con E MX11_value 4 0 0 [.inr (.inr (0 + 1)), .inl a] 150 (ov σ) (some (.inl ρ)) (ov τ) := by
  unfold cE_value at h
  refine Con.ofY (by decide +kernel) (by simp [yWords, yCat]) (fun hok _ => ?_)
  show Y E MX11_value (yRm 4 0 0) (yQf E (150 + 0) 0 0 (some (.inl ρ)) (ov τ)) 0 [(0, .inr (.inr (0 + 1))), (1, .inl a)] [] (ov σ) 150 0 0
  refine y_iload_n (show decode cX11_value 0 = .ok (.iload_n 1, 1) by decide +kernel) 1 rfl ?_
  obtain ⟨r2, e1, h⟩ := bndO_some h
  refine y_callS (np := 1) (st := []) (as := [.inl a]) (sh_cE_isSort e1) q4_212 q4_210 q4_211 q1_1 (by decide) (by decide +kernel) (by decide) rfl (Nat.le_of_ble_eq_true rfl) (show decode cX11_value 1 = .ok (.invokestatic 152, 3) by decide +kernel) rfl ?_
  by_cases c3 : r2 = 0
  · rw [if_pos c3] at h
    refine y_if_eq_t (tgt := 22) (show decode cX11_value 4 = .ok (.ifCond .eq 18, 3) by decide +kernel) rfl c3 ?_
    refine y_ldc (k := -1000000) (show decode cX11_value 22 = .ok (.ldc 159, 2) by decide +kernel) q5_13 rfl rfl ?_
    cases h
    exact y_iret (show decode cX11_value 24 = .ok (.ireturn, 1) by decide +kernel) rfl
  · rw [if_neg c3] at h
    refine y_if_eq_f (show decode cX11_value 4 = .ok (.ifCond .eq 18, 3) by decide +kernel) c3 (by decide) ?_
    refine y_aload_n (show decode cX11_value 7 = .ok (.aload_n 0, 1) by decide +kernel) 0 rfl ?_
    refine y_getf 0 11 2 71 (by decide) rfl (by decide) (by decide) q3_29 (show decode cX11_value 8 = .ok (.getfield 71, 3) by decide +kernel) (v := .inr (.inr (58 + 1))) rfl ?_
    refine y_iload_n (show decode cX11_value 11 = .ok (.iload_n 1, 1) by decide +kernel) 1 rfl ?_
    refine y_aload_n (show decode cX11_value 12 = .ok (.aload_n 0, 1) by decide +kernel) 0 rfl ?_
    obtain ⟨T4, c5, c6, h⟩ := chkP_some h
    refine y_getf 0 11 8 56 (by decide) rfl (by decide) (by decide) q3_35 (show decode cX11_value 13 = .ok (.getfield 56, 3) by decide +kernel) (v := .inr (.inr (T4 + 1))) (by rw [← c6]; rfl) ?_
    obtain ⟨r8, σ9, e7, h⟩ := bndR_some h
    refine y_callV (np := 2) (st := []) (as := [.inl a, .inr (.inr (T4 + 1))]) 58 0 (sh_cAn_worthOfPlan e7) q4_216 q4_213 q4_214 q4_215 q1_12 (by decide) rfl (by decide) rfl (by decide) (by decide +kernel) (by decide) rfl (Nat.le_of_ble_eq_true rfl) (show decode cX11_value 16 = .ok (.invokevirtual 155, 3) by decide +kernel) rfl ?_
    refine y_goto (tgt := 24) (show decode cX11_value 19 = .ok (.goto 5, 3) by decide +kernel) rfl ?_
    cases h
    exact y_iret (show decode cX11_value 24 = .ok (.ireturn, 1) by decide +kernel) rfl
