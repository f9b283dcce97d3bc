abbrev MX12_personHere : yM := (yX12_personHere, cX12_personHere, 1, some .int)
def mo_personHere (N : Nat) (σ : ySt) : Option (Int) :=
  chkI (5 * (σ 92 41)) <|
  chkA 2 (σ 92 41) <|
  bndO (mo_here N 108 (5 * (σ 92 41)) (σ 97 ((σ 92 41)).toNat) σ) fun r4 =>
  some r4
set_option maxHeartbeats 4000000 in
set_option maxRecDepth 10000 in
theorem sh_mo_personHere {E : yE} {N : Nat} {σ : ySt} {ρ : Int} (h : mo_personHere N σ = some ρ) : Con E MX12_personHere 1 0 0 [.inr (.inr (92 + 1))] 150 (ov σ) (some (.inl ρ)) (ov σ) := by
  unfold mo_personHere at h
  refine Con.ofY (by decide +kernel) (by simp [yWords, yCat]) (fun hok _ => ?_)
  show Y E MX12_personHere (yRm 1 0 0) (yQf E (150 + 0) 0 0 (some (.inl ρ)) (ov σ)) 0 [(0, .inr (.inr (92 + 1)))] [] (ov σ) 150 0 0
  refine y_aload_n (show decode cX12_personHere 0 = .ok (.aload_n 0, 1) by decide +kernel) 0 rfl ?_
  refine y_aload_n (show decode cX12_personHere 1 = .ok (.aload_n 0, 1) by decide +kernel) 0 rfl ?_
  refine y_getf 92 12 24 62 (by decide) rfl (by decide) (by decide) q6_71 (show decode cX12_personHere 2 = .ok (.getfield 62, 3) by decide +kernel) (v := .inr (.inr (108 + 1))) rfl ?_
  refine y_iconst (show decode cX12_personHere 5 = .ok (.iconst 5, 1) by decide +kernel) rfl ?_
  refine y_aload_n (show decode cX12_personHere 6 = .ok (.aload_n 0, 1) by decide +kernel) 0 rfl ?_
  refine y_getf 92 12 41 301 (by decide) rfl (by decide) (by decide) q6_88 (show decode cX12_personHere 7 = .ok (.getfield 301, 3) by decide +kernel) (v := .inl (σ 92 41)) rfl ?_
  obtain ⟨c1, h⟩ := chkI_some h
  refine y_imul (show decode cX12_personHere 10 = .ok (.imul, 1) by decide +kernel) c1 ?_
  refine y_aload_n (show decode cX12_personHere 11 = .ok (.aload_n 0, 1) by decide +kernel) 0 rfl ?_
  refine y_getf 92 12 13 27 (by decide) rfl (by decide) (by decide) q6_60 (show decode cX12_personHere 12 = .ok (.getfield 27, 3) by decide +kernel) (v := .inr (.inr (97 + 1))) rfl ?_
  refine y_aload_n (show decode cX12_personHere 15 = .ok (.aload_n 0, 1) by decide +kernel) 0 rfl ?_
  refine y_getf 92 12 41 301 (by decide) rfl (by decide) (by decide) q6_88 (show decode cX12_personHere 16 = .ok (.getfield 301, 3) by decide +kernel) (v := .inl (σ 92 41)) rfl ?_
  obtain ⟨c2, h⟩ := chkA_some h
  refine yo_iald 97 2 (by decide) rfl c2 (ov_at rfl) (show decode cX12_personHere 19 = .ok (.iaload, 1) by decide +kernel) ?_
  obtain ⟨r4, e3, h⟩ := bndO_some h
  refine y_callV (np := 3) (st := []) (as := [.inr (.inr (108 + 1)), .inl (5 * (σ 92 41)), .inl (σ 97 ((σ 92 41)).toNat)]) 92 12 (sh_mo_here e3) q7_151 q7_148 q7_150 qs4_14 q1_15 (by decide) rfl (by decide) rfl (by decide) (by decide +kernel) (by decide) rfl (Nat.le_of_ble_eq_true rfl) (show decode cX12_personHere 20 = .ok (.invokevirtual 344, 3) by decide +kernel) rfl ?_
  cases h
  exact y_iret (show decode cX12_personHere 23 = .ok (.ireturn, 1) by decide +kernel) rfl
abbrev MX12_being : yM := (yX12_being, cX12_being, 1, some .long)
def mo_being (N : Nat) (σ : ySt) : Option (Int × ySt) :=
  bndO (mo_personHere N σ) fun r2 =>
  bnd (fun (y3 : Int) =>
    bndR (mo_fresh N y3 σ) fun r6 σ7 =>
    some (r6, σ7)) fun j4 =>
  if r2 ≥ 0 then
    j4 1
  else
    chkI (3 * (σ 92 41)) <|
    chkA 2 (σ 92 41) <|
    bndO (mo_here N 109 (3 * (σ 92 41)) (σ 98 ((σ 92 41)).toNat) σ) fun r12 =>
    if r12 < 0 then
      j4 0
    else
      j4 1
set_option maxHeartbeats 4000000 in
set_option maxRecDepth 10000 in
theorem sh_mo_being {E : yE} {N : Nat} {σ : ySt} {ρ : Int} {τ : ySt} (h : mo_being N σ = some (ρ, τ)) : Con E MX12_being 3 0 0 [.inr (.inr (92 + 1))] 150 (ov σ) (some (.inr (.inl ρ))) (ov τ) := by
  unfold mo_being at h
  refine Con.ofY (by decide +kernel) (by simp [yWords, yCat]) (fun hok _ => ?_)
  show Y E MX12_being (yRm 3 0 0) (yQf E (150 + 0) 0 0 (some (.inr (.inl ρ))) (ov τ)) 0 [(0, .inr (.inr (92 + 1)))] [] (ov σ) 150 0 0
  refine y_aload_n (show decode cX12_being 0 = .ok (.aload_n 0, 1) by decide +kernel) 0 rfl ?_
  refine y_aload_n (show decode cX12_being 1 = .ok (.aload_n 0, 1) by decide +kernel) 0 rfl ?_
  obtain ⟨r2, e1, h⟩ := bndO_some h
  refine y_callV (np := 0) (st := [.inr (.inr (92 + 1))]) (as := []) 92 12 (sh_mo_personHere e1) q7_187 q7_184 q7_186 qs5_7 q1_15 (by decide) rfl (by decide) rfl (by decide) (by decide +kernel) (by decide) rfl (Nat.le_of_ble_eq_true rfl) (show decode cX12_being 2 = .ok (.invokevirtual 363, 3) by decide +kernel) rfl ?_
  refine bnd_j (Q := fun j4 => ∀ (y3 : Int), j4 y3 = some (ρ, τ) → Y E MX12_being (yRm 3 0 0) (yQf E (150 + 0) 0 0 (some (.inr (.inl ρ))) (ov τ)) 39 [] [.inl y3, .inr (.inr (92 + 1))] (ov σ) 150 0 0) (fun y3 h => ?_) (fun j4 hj4 h => ?_) h
  · dsimp only at h
    obtain ⟨r6, σ7, e5, h⟩ := bndR_some h
    refine y_callV (np := 1) (st := []) (as := [.inl y3]) 92 12 (sh_mo_fresh e5) q7_155 q7_152 q7_154 qs4_15 q1_15 (by decide) rfl (by decide) rfl (by decide) (by decide +kernel) (by decide) rfl (Nat.le_of_ble_eq_true rfl) (show decode cX12_being 39 = .ok (.invokevirtual 352, 3) by decide +kernel) rfl ?_
    cases h
    exact y_lret (show decode cX12_being 42 = .ok (.lreturn, 1) by decide +kernel) rfl
  by_cases c8 : r2 ≥ 0
  · rw [if_pos c8] at h
    refine y_if_ge_t (tgt := 34) (show decode cX12_being 5 = .ok (.ifCond .ge 29, 3) by decide +kernel) rfl c8 ?_
    refine y_iconst (show decode cX12_being 34 = .ok (.iconst 1, 1) by decide +kernel) rfl ?_
    refine y_goto (tgt := 39) (show decode cX12_being 35 = .ok (.goto 4, 3) by decide +kernel) rfl ?_
    refine y_pick [] rfl ?_
    exact hj4 _ h
  · rw [if_neg c8] at h
    refine y_if_ge_f (show decode cX12_being 5 = .ok (.ifCond .ge 29, 3) by decide +kernel) c8 (by decide) ?_
    refine y_aload_n (show decode cX12_being 8 = .ok (.aload_n 0, 1) by decide +kernel) 0 rfl ?_
    refine y_aload_n (show decode cX12_being 9 = .ok (.aload_n 0, 1) by decide +kernel) 0 rfl ?_
    refine y_getf 92 12 25 65 (by decide) rfl (by decide) (by decide) q6_72 (show decode cX12_being 10 = .ok (.getfield 65, 3) by decide +kernel) (v := .inr (.inr (109 + 1))) rfl ?_
    refine y_iconst (show decode cX12_being 13 = .ok (.iconst 3, 1) by decide +kernel) rfl ?_
    refine y_aload_n (show decode cX12_being 14 = .ok (.aload_n 0, 1) by decide +kernel) 0 rfl ?_
    refine y_getf 92 12 41 301 (by decide) rfl (by decide) (by decide) q6_88 (show decode cX12_being 15 = .ok (.getfield 301, 3) by decide +kernel) (v := .inl (σ 92 41)) rfl ?_
    obtain ⟨c9, h⟩ := chkI_some h
    refine y_imul (show decode cX12_being 18 = .ok (.imul, 1) by decide +kernel) c9 ?_
    refine y_aload_n (show decode cX12_being 19 = .ok (.aload_n 0, 1) by decide +kernel) 0 rfl ?_
    refine y_getf 92 12 14 30 (by decide) rfl (by decide) (by decide) q6_61 (show decode cX12_being 20 = .ok (.getfield 30, 3) by decide +kernel) (v := .inr (.inr (98 + 1))) rfl ?_
    refine y_aload_n (show decode cX12_being 23 = .ok (.aload_n 0, 1) by decide +kernel) 0 rfl ?_
    refine y_getf 92 12 41 301 (by decide) rfl (by decide) (by decide) q6_88 (show decode cX12_being 24 = .ok (.getfield 301, 3) by decide +kernel) (v := .inl (σ 92 41)) rfl ?_
    obtain ⟨c10, h⟩ := chkA_some h
    refine yo_iald 98 2 (by decide) rfl c10 (ov_at rfl) (show decode cX12_being 27 = .ok (.iaload, 1) by decide +kernel) ?_
    obtain ⟨r12, e11, h⟩ := bndO_some h
    refine y_callV (np := 3) (st := [.inr (.inr (92 + 1))]) (as := [.inr (.inr (109 + 1)), .inl (3 * (σ 92 41)), .inl (σ 98 ((σ 92 41)).toNat)]) 92 12 (sh_mo_here e11) q7_151 q7_148 q7_150 qs4_14 q1_15 (by decide) rfl (by decide) rfl (by decide) (by decide +kernel) (by decide) rfl (Nat.le_of_ble_eq_true rfl) (show decode cX12_being 28 = .ok (.invokevirtual 344, 3) by decide +kernel) rfl ?_
    by_cases c13 : r12 < 0
    · rw [if_pos c13] at h
      refine y_if_lt_t (tgt := 38) (show decode cX12_being 31 = .ok (.ifCond .lt 7, 3) by decide +kernel) rfl c13 ?_
      refine y_iconst (show decode cX12_being 38 = .ok (.iconst 0, 1) by decide +kernel) rfl ?_
      refine y_pick [] rfl ?_
      exact hj4 _ h
    · rw [if_neg c13] at h
      refine y_if_lt_f (show decode cX12_being 31 = .ok (.ifCond .lt 7, 3) by decide +kernel) c13 (by decide) ?_
      refine y_iconst (show decode cX12_being 34 = .ok (.iconst 1, 1) by decide +kernel) rfl ?_
      refine y_goto (tgt := 39) (show decode cX12_being 35 = .ok (.goto 4, 3) by decide +kernel) rfl ?_
      refine y_pick [] rfl ?_
      exact hj4 _ h
abbrev MX12_placeAt : yM := (yX12_placeAt, cX12_placeAt, 1, some .int)
def mo_placeAt (N : Nat) (σ : ySt) : Option (Int × ySt) :=
  bndO (mo_isWord 24948 σ) fun r2 =>
  bndO (mo_must N r2 σ) fun σ4 =>
  bndO (mo_placeHere N σ4) fun r6 =>
  bndR (mo_told N r6 σ4) fun r8 σ9 =>
  some (r8, σ9)
set_option maxHeartbeats 4000000 in
set_option maxRecDepth 10000 in
theorem sh_mo_placeAt {E : yE} {N : Nat} {σ : ySt} {ρ : Int} {τ : ySt} (h : mo_placeAt N σ = some (ρ, τ)) : Con E MX12_placeAt 3 0 0 [.inr (.inr (92 + 1))] 150 (ov σ) (some (.inl ρ)) (ov τ) := by
  unfold mo_placeAt at h
  refine Con.ofY (by decide +kernel) (by simp [yWords, yCat]) (fun hok _ => ?_)
  show Y E MX12_placeAt (yRm 3 0 0) (yQf E (150 + 0) 0 0 (some (.inl ρ)) (ov τ)) 0 [(0, .inr (.inr (92 + 1)))] [] (ov σ) 150 0 0
  refine y_aload_n (show decode cX12_placeAt 0 = .ok (.aload_n 0, 1) by decide +kernel) 0 rfl ?_
  refine y_aload_n (show decode cX12_placeAt 1 = .ok (.aload_n 0, 1) by decide +kernel) 0 rfl ?_
  refine y_ldc2 (k := 24948) (show decode cX12_placeAt 2 = .ok (.ldc2_w 211, 3) by decide +kernel) q7_96 rfl rfl ?_
  obtain ⟨r2, e1, h⟩ := bndO_some h
  refine y_callV (np := 1) (st := [.inr (.inr (92 + 1))]) (as := [.inr (.inl 24948)]) 92 12 (sh_mo_isWord e1) q7_131 q7_128 q7_130 qs4_9 q1_15 (by decide) rfl (by decide) rfl (by decide) (by decide +kernel) (by decide) rfl (Nat.le_of_ble_eq_true rfl) (show decode cX12_placeAt 5 = .ok (.invokevirtual 287, 3) by decide +kernel) rfl ?_
  obtain ⟨σ4, e3, h⟩ := bndO_some h
  refine y_callV (np := 1) (st := []) (as := [.inl r2]) 92 12 (sh_mo_must e3) q7_171 q7_168 q7_170 qs5_3 q1_15 (by decide) rfl (by decide) rfl (by decide) (by decide +kernel) (by decide) rfl (Nat.le_of_ble_eq_true rfl) (show decode cX12_placeAt 8 = .ok (.invokevirtual 290, 3) by decide +kernel) rfl ?_
  refine y_aload_n (show decode cX12_placeAt 11 = .ok (.aload_n 0, 1) by decide +kernel) 0 rfl ?_
  refine y_aload_n (show decode cX12_placeAt 12 = .ok (.aload_n 0, 1) by decide +kernel) 0 rfl ?_
  obtain ⟨r6, e5, h⟩ := bndO_some h
  refine y_callV (np := 0) (st := [.inr (.inr (92 + 1))]) (as := []) 92 12 (sh_mo_placeHere e5) q7_147 q7_144 q7_146 qs4_13 q1_15 (by decide) rfl (by decide) rfl (by decide) (by decide +kernel) (by decide) rfl (Nat.le_of_ble_eq_true rfl) (show decode cX12_placeAt 13 = .ok (.invokevirtual 348, 3) by decide +kernel) rfl ?_
  obtain ⟨r8, σ9, e7, h⟩ := bndR_some h
  refine y_callV (np := 1) (st := []) (as := [.inl r6]) 92 12 (sh_mo_told e7) q7_163 q7_160 q7_162 qs5_1 q1_15 (by decide) rfl (by decide) rfl (by decide) (by decide +kernel) (by decide) rfl (Nat.le_of_ble_eq_true rfl) (show decode cX12_placeAt 16 = .ok (.invokevirtual 356, 3) by decide +kernel) rfl ?_
  cases h
  exact y_iret (show decode cX12_placeAt 19 = .ok (.ireturn, 1) by decide +kernel) rfl
abbrev MX12_readPerson : yM := (yX12_readPerson, cX12_readPerson, 2, none)
def mo_readPerson (N : Nat) (σ : ySt) : Option (ySt) :=
  chkI (5 * (σ 92 41)) <|
  chkA 2 (σ 92 41) <|
  chkI ((5 * (σ 92 41)) + (σ 97 ((σ 92 41)).toNat)) <|
  bndR (mo_being N σ) fun r5 σ6 =>
  chkA 10 ((5 * (σ 92 41)) + (σ 97 ((σ 92 41)).toNat)) <|
  bnd (yset σ6 108 (((5 * (σ 92 41)) + (σ 97 ((σ 92 41)).toNat))).toNat r5) fun σ8 =>
  bndR (mo_placeAt N σ8) fun r11 σ12 =>
  chkA 10 ((5 * (σ 92 41)) + (σ 97 ((σ 92 41)).toNat)) <|
  bnd (yset σ12 111 (((5 * (σ 92 41)) + (σ 97 ((σ 92 41)).toNat))).toNat r11) fun σ14 =>
  bndR (mo_after N 1751741029 0 99 σ14) fun r17 σ18 =>
  chkA 10 ((5 * (σ 92 41)) + (σ 97 ((σ 92 41)).toNat)) <|
  bnd (yset σ18 112 (((5 * (σ 92 41)) + (σ 97 ((σ 92 41)).toNat))).toNat r17) fun σ20 =>
  chkA 2 (σ20 92 41) <|
  chkI ((σ20 97 ((σ20 92 41)).toNat) + 1) <|
  chkA 2 (σ20 92 41) <|
  bnd (yset σ20 97 ((σ20 92 41)).toNat ((σ20 97 ((σ20 92 41)).toNat) + 1)) fun σ25 =>
  some σ25
set_option maxHeartbeats 4000000 in
set_option maxRecDepth 10000 in
theorem sh_mo_readPerson {E : yE} {N : Nat} {σ : ySt} {τ : ySt} (h : mo_readPerson N σ = some τ) : Con E MX12_readPerson 4 0 0 [.inr (.inr (92 + 1))] 150 (ov σ) none (ov τ) := by
  unfold mo_readPerson at h
  refine Con.ofY (by decide +kernel) (by simp [yWords, yCat]) (fun hok _ => ?_)
  show Y E MX12_readPerson (yRm 4 0 0) (yQf E (150 + 0) 0 0 none (ov τ)) 0 [(0, .inr (.inr (92 + 1)))] [] (ov σ) 150 0 0
  refine y_iconst (show decode cX12_readPerson 0 = .ok (.iconst 5, 1) by decide +kernel) rfl ?_
  refine y_aload_n (show decode cX12_readPerson 1 = .ok (.aload_n 0, 1) by decide +kernel) 0 rfl ?_
  refine y_getf 92 12 41 301 (by decide) rfl (by decide) (by decide) q6_88 (show decode cX12_readPerson 2 = .ok (.getfield 301, 3) by decide +kernel) (v := .inl (σ 92 41)) rfl ?_
  obtain ⟨c1, h⟩ := chkI_some h
  refine y_imul (show decode cX12_readPerson 5 = .ok (.imul, 1) by decide +kernel) c1 ?_
  refine y_aload_n (show decode cX12_readPerson 6 = .ok (.aload_n 0, 1) by decide +kernel) 0 rfl ?_
  refine y_getf 92 12 13 27 (by decide) rfl (by decide) (by decide) q6_60 (show decode cX12_readPerson 7 = .ok (.getfield 27, 3) by decide +kernel) (v := .inr (.inr (97 + 1))) rfl ?_
  refine y_aload_n (show decode cX12_readPerson 10 = .ok (.aload_n 0, 1) by decide +kernel) 0 rfl ?_
  refine y_getf 92 12 41 301 (by decide) rfl (by decide) (by decide) q6_88 (show decode cX12_readPerson 11 = .ok (.getfield 301, 3) by decide +kernel) (v := .inl (σ 92 41)) rfl ?_
  obtain ⟨c2, h⟩ := chkA_some h
  refine yo_iald 97 2 (by decide) rfl c2 (ov_at rfl) (show decode cX12_readPerson 14 = .ok (.iaload, 1) by decide +kernel) ?_
  obtain ⟨c3, h⟩ := chkI_some h
  refine y_iadd (show decode cX12_readPerson 15 = .ok (.iadd, 1) by decide +kernel) c3 ?_
  refine y_istore_n (show decode cX12_readPerson 16 = .ok (.istore_n 1, 1) by decide +kernel) rfl (L1 := [(1, .inl ((5 * (σ 92 41)) + (σ 97 ((σ 92 41)).toNat))), (0, .inr (.inr (92 + 1)))]) rfl ?_
  refine y_aload_n (show decode cX12_readPerson 17 = .ok (.aload_n 0, 1) by decide +kernel) 1 rfl ?_
  refine y_getf 92 12 24 62 (by decide) rfl (by decide) (by decide) q6_71 (show decode cX12_readPerson 18 = .ok (.getfield 62, 3) by decide +kernel) (v := .inr (.inr (108 + 1))) rfl ?_
  refine y_iload_n (show decode cX12_readPerson 21 = .ok (.iload_n 1, 1) by decide +kernel) 0 rfl ?_
  refine y_aload_n (show decode cX12_readPerson 22 = .ok (.aload_n 0, 1) by decide +kernel) 1 rfl ?_
  obtain ⟨r5, σ6, e4, h⟩ := bndR_some h
  refine y_callV (np := 0) (st := [.inl ((5 * (σ 92 41)) + (σ 97 ((σ 92 41)).toNat)), .inr (.inr (108 + 1))]) (as := []) 92 12 (sh_mo_being e4) q7_183 q7_180 q7_182 qs5_6 q1_15 (by decide) rfl (by decide) rfl (by decide) (by decide +kernel) (by decide) rfl (Nat.le_of_ble_eq_true rfl) (show decode cX12_readPerson 23 = .ok (.invokevirtual 366, 3) by decide +kernel) rfl ?_
  obtain ⟨c7, h⟩ := chkA_some h
  obtain ⟨σ8, e9, h⟩ := bnd_i h
  refine yo_last 108 10 (by decide) rfl c7 (ov_set1 e9 rfl) (show decode cX12_readPerson 26 = .ok (.lastore, 1) by decide +kernel) ?_
  refine y_aload_n (show decode cX12_readPerson 27 = .ok (.aload_n 0, 1) by decide +kernel) 1 rfl ?_
  refine y_getf 92 12 27 71 (by decide) rfl (by decide) (by decide) q6_74 (show decode cX12_readPerson 28 = .ok (.getfield 71, 3) by decide +kernel) (v := .inr (.inr (111 + 1))) rfl ?_
  refine y_iload_n (show decode cX12_readPerson 31 = .ok (.iload_n 1, 1) by decide +kernel) 0 rfl ?_
  refine y_aload_n (show decode cX12_readPerson 32 = .ok (.aload_n 0, 1) by decide +kernel) 1 rfl ?_
  obtain ⟨r11, σ12, e10, h⟩ := bndR_some h
  refine y_callV (np := 0) (st := [.inl ((5 * (σ 92 41)) + (σ 97 ((σ 92 41)).toNat)), .inr (.inr (111 + 1))]) (as := []) 92 12 (sh_mo_placeAt e10) q7_191 q7_188 q7_190 qs5_8 q1_15 (by decide) rfl (by decide) rfl (by decide) (by decide +kernel) (by decide) rfl (Nat.le_of_ble_eq_true rfl) (show decode cX12_readPerson 33 = .ok (.invokevirtual 370, 3) by decide +kernel) rfl ?_
  obtain ⟨c13, h⟩ := chkA_some h
  obtain ⟨σ14, e15, h⟩ := bnd_i h
  refine yo_iast 111 10 (by decide) rfl c13 (ov_set1 e15 rfl) (show decode cX12_readPerson 36 = .ok (.iastore, 1) by decide +kernel) ?_
  refine y_aload_n (show decode cX12_readPerson 37 = .ok (.aload_n 0, 1) by decide +kernel) 1 rfl ?_
  refine y_getf 92 12 28 74 (by decide) rfl (by decide) (by decide) q6_75 (show decode cX12_readPerson 38 = .ok (.getfield 74, 3) by decide +kernel) (v := .inr (.inr (112 + 1))) rfl ?_
  refine y_iload_n (show decode cX12_readPerson 41 = .ok (.iload_n 1, 1) by decide +kernel) 0 rfl ?_
  refine y_aload_n (show decode cX12_readPerson 42 = .ok (.aload_n 0, 1) by decide +kernel) 1 rfl ?_
  refine y_ldc2 (k := 1751741029) (show decode cX12_readPerson 43 = .ok (.ldc2_w 213, 3) by decide +kernel) q7_97 rfl rfl ?_
  refine y_iconst (show decode cX12_readPerson 46 = .ok (.iconst 0, 1) by decide +kernel) rfl ?_
  refine y_bipush (show decode cX12_readPerson 47 = .ok (.bipush 99, 2) by decide +kernel) rfl rfl ?_
  obtain ⟨r17, σ18, e16, h⟩ := bndR_some h
  refine y_callV (np := 3) (st := [.inl ((5 * (σ 92 41)) + (σ 97 ((σ 92 41)).toNat)), .inr (.inr (112 + 1))]) (as := [.inr (.inl 1751741029), .inl 0, .inl 99]) 92 12 (sh_mo_after e16) q7_167 q7_164 q7_166 qs5_2 q1_15 (by decide) rfl (by decide) rfl (by decide) (by decide +kernel) (by decide) rfl (Nat.le_of_ble_eq_true rfl) (show decode cX12_readPerson 49 = .ok (.invokevirtual 359, 3) by decide +kernel) rfl ?_
  obtain ⟨c19, h⟩ := chkA_some h
  obtain ⟨σ20, e21, h⟩ := bnd_i h
  refine yo_iast 112 10 (by decide) rfl c19 (ov_set1 e21 rfl) (show decode cX12_readPerson 52 = .ok (.iastore, 1) by decide +kernel) ?_
  refine y_aload_n (show decode cX12_readPerson 53 = .ok (.aload_n 0, 1) by decide +kernel) 1 rfl ?_
  refine y_getf 92 12 13 27 (by decide) rfl (by decide) (by decide) q6_60 (show decode cX12_readPerson 54 = .ok (.getfield 27, 3) by decide +kernel) (v := .inr (.inr (97 + 1))) rfl ?_
  refine y_aload_n (show decode cX12_readPerson 57 = .ok (.aload_n 0, 1) by decide +kernel) 1 rfl ?_
  refine y_getf 92 12 41 301 (by decide) rfl (by decide) (by decide) q6_88 (show decode cX12_readPerson 58 = .ok (.getfield 301, 3) by decide +kernel) (v := .inl (σ20 92 41)) rfl ?_
  refine y_dup2 (show decode cX12_readPerson 61 = .ok (.dup2, 1) by decide +kernel) rfl rfl ?_
  obtain ⟨c22, h⟩ := chkA_some h
  refine yo_iald 97 2 (by decide) rfl c22 (ov_at rfl) (show decode cX12_readPerson 62 = .ok (.iaload, 1) by decide +kernel) ?_
  refine y_iconst (show decode cX12_readPerson 63 = .ok (.iconst 1, 1) by decide +kernel) rfl ?_
  obtain ⟨c23, h⟩ := chkI_some h
  refine y_iadd (show decode cX12_readPerson 64 = .ok (.iadd, 1) by decide +kernel) c23 ?_
  obtain ⟨c24, h⟩ := chkA_some h
  obtain ⟨σ25, e26, h⟩ := bnd_i h
  refine yo_iast 97 2 (by decide) rfl c24 (ov_set1 e26 rfl) (show decode cX12_readPerson 65 = .ok (.iastore, 1) by decide +kernel) ?_
  cases h
  exact y_vret (show decode cX12_readPerson 66 = .ok (.return_, 1) by decide +kernel) rfl
abbrev MX12_readDog : yM := (yX12_readDog, cX12_readDog, 2, none)
def mo_readDog (N : Nat) (σ : ySt) : Option (ySt) :=
  chkI (3 * (σ 92 41)) <|
  chkA 2 (σ 92 41) <|
  chkI ((3 * (σ 92 41)) + (σ 98 ((σ 92 41)).toNat)) <|
  bndR (mo_being N σ) fun r5 σ6 =>
  chkA 6 ((3 * (σ 92 41)) + (σ 98 ((σ 92 41)).toNat)) <|
  bnd (yset σ6 109 (((3 * (σ 92 41)) + (σ 98 ((σ 92 41)).toNat))).toNat r5) fun σ8 =>
  bndR (mo_placeAt N σ8) fun r11 σ12 =>
  chkI (6 * (σ12 92 41)) <|
  chkI ((6 * (σ12 92 41)) + r11) <|
  chkA 12 ((6 * (σ12 92 41)) + r11) <|
  bndO (mo_isGood σ12) fun r17 =>
  bnd (fun (y18 : Int) =>
    chkI ((σ12 113 (((6 * (σ12 92 41)) + r11)).toNat) + y18) <|
    chkA 12 ((6 * (σ12 92 41)) + r11) <|
    bnd (yset σ12 113 (((6 * (σ12 92 41)) + r11)).toNat ((σ12 113 (((6 * (σ12 92 41)) + r11)).toNat) + y18)) fun σ22 =>
    chkA 2 (σ22 92 41) <|
    chkI ((σ22 98 ((σ22 92 41)).toNat) + 1) <|
    chkA 2 (σ22 92 41) <|
    bnd (yset σ22 98 ((σ22 92 41)).toNat ((σ22 98 ((σ22 92 41)).toNat) + 1)) fun σ27 =>
    some σ27) fun j19 =>
  if r17 = 0 then
    j19 0
  else
    j19 1
set_option maxHeartbeats 4000000 in
set_option maxRecDepth 10000 in
theorem sh_mo_readDog {E : yE} {N : Nat} {σ : ySt} {τ : ySt} (h : mo_readDog N σ = some τ) : Con E MX12_readDog 4 0 0 [.inr (.inr (92 + 1))] 150 (ov σ) none (ov τ) := by
  unfold mo_readDog at h
  refine Con.ofY (by decide +kernel) (by simp [yWords, yCat]) (fun hok _ => ?_)
  show Y E MX12_readDog (yRm 4 0 0) (yQf E (150 + 0) 0 0 none (ov τ)) 0 [(0, .inr (.inr (92 + 1)))] [] (ov σ) 150 0 0
  refine y_aload_n (show decode cX12_readDog 0 = .ok (.aload_n 0, 1) by decide +kernel) 0 rfl ?_
  refine y_getf 92 12 25 65 (by decide) rfl (by decide) (by decide) q6_72 (show decode cX12_readDog 1 = .ok (.getfield 65, 3) by decide +kernel) (v := .inr (.inr (109 + 1))) rfl ?_
  refine y_iconst (show decode cX12_readDog 4 = .ok (.iconst 3, 1) by decide +kernel) rfl ?_
  refine y_aload_n (show decode cX12_readDog 5 = .ok (.aload_n 0, 1) by decide +kernel) 0 rfl ?_
  refine y_getf 92 12 41 301 (by decide) rfl (by decide) (by decide) q6_88 (show decode cX12_readDog 6 = .ok (.getfield 301, 3) by decide +kernel) (v := .inl (σ 92 41)) rfl ?_
  obtain ⟨c1, h⟩ := chkI_some h
  refine y_imul (show decode cX12_readDog 9 = .ok (.imul, 1) by decide +kernel) c1 ?_
  refine y_aload_n (show decode cX12_readDog 10 = .ok (.aload_n 0, 1) by decide +kernel) 0 rfl ?_
  refine y_getf 92 12 14 30 (by decide) rfl (by decide) (by decide) q6_61 (show decode cX12_readDog 11 = .ok (.getfield 30, 3) by decide +kernel) (v := .inr (.inr (98 + 1))) rfl ?_
  refine y_aload_n (show decode cX12_readDog 14 = .ok (.aload_n 0, 1) by decide +kernel) 0 rfl ?_
  refine y_getf 92 12 41 301 (by decide) rfl (by decide) (by decide) q6_88 (show decode cX12_readDog 15 = .ok (.getfield 301, 3) by decide +kernel) (v := .inl (σ 92 41)) rfl ?_
  obtain ⟨c2, h⟩ := chkA_some h
  refine yo_iald 98 2 (by decide) rfl c2 (ov_at rfl) (show decode cX12_readDog 18 = .ok (.iaload, 1) by decide +kernel) ?_
  obtain ⟨c3, h⟩ := chkI_some h
  refine y_iadd (show decode cX12_readDog 19 = .ok (.iadd, 1) by decide +kernel) c3 ?_
  refine y_aload_n (show decode cX12_readDog 20 = .ok (.aload_n 0, 1) by decide +kernel) 0 rfl ?_
  obtain ⟨r5, σ6, e4, h⟩ := bndR_some h
  refine y_callV (np := 0) (st := [.inl ((3 * (σ 92 41)) + (σ 98 ((σ 92 41)).toNat)), .inr (.inr (109 + 1))]) (as := []) 92 12 (sh_mo_being e4) q7_183 q7_180 q7_182 qs5_6 q1_15 (by decide) rfl (by decide) rfl (by decide) (by decide +kernel) (by decide) rfl (Nat.le_of_ble_eq_true rfl) (show decode cX12_readDog 21 = .ok (.invokevirtual 366, 3) by decide +kernel) rfl ?_
  obtain ⟨c7, h⟩ := chkA_some h
  obtain ⟨σ8, e9, h⟩ := bnd_i h
  refine yo_last 109 6 (by decide) rfl c7 (ov_set1 e9 rfl) (show decode cX12_readDog 24 = .ok (.lastore, 1) by decide +kernel) ?_
  refine y_aload_n (show decode cX12_readDog 25 = .ok (.aload_n 0, 1) by decide +kernel) 0 rfl ?_
  obtain ⟨r11, σ12, e10, h⟩ := bndR_some h
  refine y_callV (np := 0) (st := []) (as := []) 92 12 (sh_mo_placeAt e10) q7_191 q7_188 q7_190 qs5_8 q1_15 (by decide) rfl (by decide) rfl (by decide) (by decide +kernel) (by decide) rfl (Nat.le_of_ble_eq_true rfl) (show decode cX12_readDog 26 = .ok (.invokevirtual 370, 3) by decide +kernel) rfl ?_
  refine y_istore_n (show decode cX12_readDog 29 = .ok (.istore_n 1, 1) by decide +kernel) rfl (L1 := [(1, .inl r11), (0, .inr (.inr (92 + 1)))]) rfl ?_
  refine y_aload_n (show decode cX12_readDog 30 = .ok (.aload_n 0, 1) by decide +kernel) 1 rfl ?_
  refine y_getf 92 12 29 77 (by decide) rfl (by decide) (by decide) q6_76 (show decode cX12_readDog 31 = .ok (.getfield 77, 3) by decide +kernel) (v := .inr (.inr (113 + 1))) rfl ?_
  refine y_bipush (show decode cX12_readDog 34 = .ok (.bipush 6, 2) by decide +kernel) rfl rfl ?_
  refine y_aload_n (show decode cX12_readDog 36 = .ok (.aload_n 0, 1) by decide +kernel) 1 rfl ?_
  refine y_getf 92 12 41 301 (by decide) rfl (by decide) (by decide) q6_88 (show decode cX12_readDog 37 = .ok (.getfield 301, 3) by decide +kernel) (v := .inl (σ12 92 41)) rfl ?_
  obtain ⟨c13, h⟩ := chkI_some h
  refine y_imul (show decode cX12_readDog 40 = .ok (.imul, 1) by decide +kernel) c13 ?_
  refine y_iload_n (show decode cX12_readDog 41 = .ok (.iload_n 1, 1) by decide +kernel) 0 rfl ?_
  obtain ⟨c14, h⟩ := chkI_some h
  refine y_iadd (show decode cX12_readDog 42 = .ok (.iadd, 1) by decide +kernel) c14 ?_
  refine y_dup2 (show decode cX12_readDog 43 = .ok (.dup2, 1) by decide +kernel) rfl rfl ?_
  obtain ⟨c15, h⟩ := chkA_some h
  refine yo_iald 113 12 (by decide) rfl c15 (ov_at rfl) (show decode cX12_readDog 44 = .ok (.iaload, 1) by decide +kernel) ?_
  refine y_aload_n (show decode cX12_readDog 45 = .ok (.aload_n 0, 1) by decide +kernel) 1 rfl ?_
  obtain ⟨r17, e16, h⟩ := bndO_some h
  refine y_callV (np := 0) (st := [.inl (σ12 113 (((6 * (σ12 92 41)) + r11)).toNat), .inl ((6 * (σ12 92 41)) + r11), .inr (.inr (113 + 1))]) (as := []) 92 12 (sh_mo_isGood e16) q7_119 q7_116 q7_118 qs4_6 q1_15 (by decide) rfl (by decide) rfl (by decide) (by decide +kernel) (by decide) rfl (Nat.le_of_ble_eq_true rfl) (show decode cX12_readDog 46 = .ok (.invokevirtual 277, 3) by decide +kernel) rfl ?_
  refine bnd_j (Q := fun j19 => ∀ (y18 : Int), j19 y18 = some τ → Y E MX12_readDog (yRm 4 0 0) (yQf E (150 + 0) 0 0 none (ov τ)) 57 [(0, .inr (.inr (92 + 1)))] [.inl y18, .inl (σ12 113 (((6 * (σ12 92 41)) + r11)).toNat), .inl ((6 * (σ12 92 41)) + r11), .inr (.inr (113 + 1))] (ov σ12) 150 0 0) (fun y18 h => ?_) (fun j19 hj19 h => ?_) h
  · dsimp only at h
    obtain ⟨c20, h⟩ := chkI_some h
    refine y_iadd (show decode cX12_readDog 57 = .ok (.iadd, 1) by decide +kernel) c20 ?_
    obtain ⟨c21, h⟩ := chkA_some h
    obtain ⟨σ22, e23, h⟩ := bnd_i h
    refine yo_iast 113 12 (by decide) rfl c21 (ov_set1 e23 rfl) (show decode cX12_readDog 58 = .ok (.iastore, 1) by decide +kernel) ?_
    refine y_aload_n (show decode cX12_readDog 59 = .ok (.aload_n 0, 1) by decide +kernel) 0 rfl ?_
    refine y_getf 92 12 14 30 (by decide) rfl (by decide) (by decide) q6_61 (show decode cX12_readDog 60 = .ok (.getfield 30, 3) by decide +kernel) (v := .inr (.inr (98 + 1))) rfl ?_
    refine y_aload_n (show decode cX12_readDog 63 = .ok (.aload_n 0, 1) by decide +kernel) 0 rfl ?_
    refine y_getf 92 12 41 301 (by decide) rfl (by decide) (by decide) q6_88 (show decode cX12_readDog 64 = .ok (.getfield 301, 3) by decide +kernel) (v := .inl (σ22 92 41)) rfl ?_
    refine y_dup2 (show decode cX12_readDog 67 = .ok (.dup2, 1) by decide +kernel) rfl rfl ?_
    obtain ⟨c24, h⟩ := chkA_some h
    refine yo_iald 98 2 (by decide) rfl c24 (ov_at rfl) (show decode cX12_readDog 68 = .ok (.iaload, 1) by decide +kernel) ?_
    refine y_iconst (show decode cX12_readDog 69 = .ok (.iconst 1, 1) by decide +kernel) rfl ?_
    obtain ⟨c25, h⟩ := chkI_some h
    refine y_iadd (show decode cX12_readDog 70 = .ok (.iadd, 1) by decide +kernel) c25 ?_
    obtain ⟨c26, h⟩ := chkA_some h
    obtain ⟨σ27, e28, h⟩ := bnd_i h
    refine yo_iast 98 2 (by decide) rfl c26 (ov_set1 e28 rfl) (show decode cX12_readDog 71 = .ok (.iastore, 1) by decide +kernel) ?_
    cases h
    exact y_vret (show decode cX12_readDog 72 = .ok (.return_, 1) by decide +kernel) rfl
  by_cases c29 : r17 = 0
  · rw [if_pos c29] at h
    refine y_if_eq_t (tgt := 56) (show decode cX12_readDog 49 = .ok (.ifCond .eq 7, 3) by decide +kernel) rfl c29 ?_
    refine y_iconst (show decode cX12_readDog 56 = .ok (.iconst 0, 1) by decide +kernel) rfl ?_
    refine y_pick [1] rfl ?_
    exact hj19 _ h
  · rw [if_neg c29] at h
    refine y_if_eq_f (show decode cX12_readDog 49 = .ok (.ifCond .eq 7, 3) by decide +kernel) c29 (by decide) ?_
    refine y_iconst (show decode cX12_readDog 52 = .ok (.iconst 1, 1) by decide +kernel) rfl ?_
    refine y_goto (tgt := 57) (show decode cX12_readDog 53 = .ok (.goto 4, 3) by decide +kernel) rfl ?_
    refine y_pick [1] rfl ?_
    exact hj19 _ h
abbrev MX12_readErrand : yM := (yX12_readErrand, cX12_readErrand, 2, none)
def mo_readErrand (N : Nat) (σ : ySt) : Option (ySt) :=
  chkI (8 * (σ 92 41)) <|
  chkA 2 (σ 92 41) <|
  chkI ((8 * (σ 92 41)) + (σ 99 ((σ 92 41)).toNat)) <|
  bndO (mo_personHere N σ) fun r5 =>
  bndR (mo_told N r5 σ) fun r7 σ8 =>
  chkA 16 ((8 * (σ 92 41)) + (σ 99 ((σ 92 41)).toNat)) <|
  bnd (yset σ8 114 (((8 * (σ 92 41)) + (σ 99 ((σ 92 41)).toNat))).toNat r7) fun σ10 =>
  bndR (mo_placeAt N σ10) fun r13 σ14 =>
  chkA 16 ((8 * (σ 92 41)) + (σ 99 ((σ 92 41)).toNat)) <|
  bnd (yset σ14 115 (((8 * (σ 92 41)) + (σ 99 ((σ 92 41)).toNat))).toNat r13) fun σ16 =>
  bndR (mo_after N 126943973305189 1 8 σ16) fun r19 σ20 =>
  chkA 16 ((8 * (σ 92 41)) + (σ 99 ((σ 92 41)).toNat)) <|
  bnd (yset σ20 116 (((8 * (σ 92 41)) + (σ 99 ((σ 92 41)).toNat))).toNat r19) fun σ22 =>
  bndR (mo_after N 512970880104 0 999 σ22) fun r25 σ26 =>
  chkA 16 ((8 * (σ 92 41)) + (σ 99 ((σ 92 41)).toNat)) <|
  bnd (yset σ26 117 (((8 * (σ 92 41)) + (σ 99 ((σ 92 41)).toNat))).toNat r25) fun σ28 =>
  chkA 2 (σ28 92 41) <|
  chkI ((σ28 99 ((σ28 92 41)).toNat) + 1) <|
  chkA 2 (σ28 92 41) <|
  bnd (yset σ28 99 ((σ28 92 41)).toNat ((σ28 99 ((σ28 92 41)).toNat) + 1)) fun σ33 =>
  some σ33
set_option maxHeartbeats 4000000 in
set_option maxRecDepth 10000 in
theorem sh_mo_readErrand {E : yE} {N : Nat} {σ : ySt} {τ : ySt} (h : mo_readErrand N σ = some τ) : Con E MX12_readErrand 4 0 0 [.inr (.inr (92 + 1))] 150 (ov σ) none (ov τ) := by
  unfold mo_readErrand at h
  refine Con.ofY (by decide +kernel) (by simp [yWords, yCat]) (fun hok _ => ?_)
  show Y E MX12_readErrand (yRm 4 0 0) (yQf E (150 + 0) 0 0 none (ov τ)) 0 [(0, .inr (.inr (92 + 1)))] [] (ov σ) 150 0 0
  refine y_bipush (show decode cX12_readErrand 0 = .ok (.bipush 8, 2) by decide +kernel) rfl rfl ?_
  refine y_aload_n (show decode cX12_readErrand 2 = .ok (.aload_n 0, 1) by decide +kernel) 0 rfl ?_
  refine y_getf 92 12 41 301 (by decide) rfl (by decide) (by decide) q6_88 (show decode cX12_readErrand 3 = .ok (.getfield 301, 3) by decide +kernel) (v := .inl (σ 92 41)) rfl ?_
  obtain ⟨c1, h⟩ := chkI_some h
  refine y_imul (show decode cX12_readErrand 6 = .ok (.imul, 1) by decide +kernel) c1 ?_
  refine y_aload_n (show decode cX12_readErrand 7 = .ok (.aload_n 0, 1) by decide +kernel) 0 rfl ?_
  refine y_getf 92 12 15 33 (by decide) rfl (by decide) (by decide) q6_62 (show decode cX12_readErrand 8 = .ok (.getfield 33, 3) by decide +kernel) (v := .inr (.inr (99 + 1))) rfl ?_
  refine y_aload_n (show decode cX12_readErrand 11 = .ok (.aload_n 0, 1) by decide +kernel) 0 rfl ?_
  refine y_getf 92 12 41 301 (by decide) rfl (by decide) (by decide) q6_88 (show decode cX12_readErrand 12 = .ok (.getfield 301, 3) by decide +kernel) (v := .inl (σ 92 41)) rfl ?_
  obtain ⟨c2, h⟩ := chkA_some h
  refine yo_iald 99 2 (by decide) rfl c2 (ov_at rfl) (show decode cX12_readErrand 15 = .ok (.iaload, 1) by decide +kernel) ?_
  obtain ⟨c3, h⟩ := chkI_some h
  refine y_iadd (show decode cX12_readErrand 16 = .ok (.iadd, 1) by decide +kernel) c3 ?_
  refine y_istore_n (show decode cX12_readErrand 17 = .ok (.istore_n 1, 1) by decide +kernel) rfl (L1 := [(1, .inl ((8 * (σ 92 41)) + (σ 99 ((σ 92 41)).toNat))), (0, .inr (.inr (92 + 1)))]) rfl ?_
  refine y_aload_n (show decode cX12_readErrand 18 = .ok (.aload_n 0, 1) by decide +kernel) 1 rfl ?_
  refine y_getf 92 12 30 80 (by decide) rfl (by decide) (by decide) q6_77 (show decode cX12_readErrand 19 = .ok (.getfield 80, 3) by decide +kernel) (v := .inr (.inr (114 + 1))) rfl ?_
  refine y_iload_n (show decode cX12_readErrand 22 = .ok (.iload_n 1, 1) by decide +kernel) 0 rfl ?_
  refine y_aload_n (show decode cX12_readErrand 23 = .ok (.aload_n 0, 1) by decide +kernel) 1 rfl ?_
  refine y_aload_n (show decode cX12_readErrand 24 = .ok (.aload_n 0, 1) by decide +kernel) 1 rfl ?_
  obtain ⟨r5, e4, h⟩ := bndO_some h
  refine y_callV (np := 0) (st := [.inr (.inr (92 + 1)), .inl ((8 * (σ 92 41)) + (σ 99 ((σ 92 41)).toNat)), .inr (.inr (114 + 1))]) (as := []) 92 12 (sh_mo_personHere e4) q7_187 q7_184 q7_186 qs5_7 q1_15 (by decide) rfl (by decide) rfl (by decide) (by decide +kernel) (by decide) rfl (Nat.le_of_ble_eq_true rfl) (show decode cX12_readErrand 25 = .ok (.invokevirtual 363, 3) by decide +kernel) rfl ?_
  obtain ⟨r7, σ8, e6, h⟩ := bndR_some h
  refine y_callV (np := 1) (st := [.inl ((8 * (σ 92 41)) + (σ 99 ((σ 92 41)).toNat)), .inr (.inr (114 + 1))]) (as := [.inl r5]) 92 12 (sh_mo_told e6) q7_163 q7_160 q7_162 qs5_1 q1_15 (by decide) rfl (by decide) rfl (by decide) (by decide +kernel) (by decide) rfl (Nat.le_of_ble_eq_true rfl) (show decode cX12_readErrand 28 = .ok (.invokevirtual 356, 3) by decide +kernel) rfl ?_
  obtain ⟨c9, h⟩ := chkA_some h
  obtain ⟨σ10, e11, h⟩ := bnd_i h
  refine yo_iast 114 16 (by decide) rfl c9 (ov_set1 e11 rfl) (show decode cX12_readErrand 31 = .ok (.iastore, 1) by decide +kernel) ?_
  refine y_aload_n (show decode cX12_readErrand 32 = .ok (.aload_n 0, 1) by decide +kernel) 1 rfl ?_
  refine y_getf 92 12 31 83 (by decide) rfl (by decide) (by decide) q6_78 (show decode cX12_readErrand 33 = .ok (.getfield 83, 3) by decide +kernel) (v := .inr (.inr (115 + 1))) rfl ?_
  refine y_iload_n (show decode cX12_readErrand 36 = .ok (.iload_n 1, 1) by decide +kernel) 0 rfl ?_
  refine y_aload_n (show decode cX12_readErrand 37 = .ok (.aload_n 0, 1) by decide +kernel) 1 rfl ?_
  obtain ⟨r13, σ14, e12, h⟩ := bndR_some h
  refine y_callV (np := 0) (st := [.inl ((8 * (σ 92 41)) + (σ 99 ((σ 92 41)).toNat)), .inr (.inr (115 + 1))]) (as := []) 92 12 (sh_mo_placeAt e12) q7_191 q7_188 q7_190 qs5_8 q1_15 (by decide) rfl (by decide) rfl (by decide) (by decide +kernel) (by decide) rfl (Nat.le_of_ble_eq_true rfl) (show decode cX12_readErrand 38 = .ok (.invokevirtual 370, 3) by decide +kernel) rfl ?_
  obtain ⟨c15, h⟩ := chkA_some h
  obtain ⟨σ16, e17, h⟩ := bnd_i h
  refine yo_iast 115 16 (by decide) rfl c15 (ov_set1 e17 rfl) (show decode cX12_readErrand 41 = .ok (.iastore, 1) by decide +kernel) ?_
  refine y_aload_n (show decode cX12_readErrand 42 = .ok (.aload_n 0, 1) by decide +kernel) 1 rfl ?_
  refine y_getf 92 12 32 86 (by decide) rfl (by decide) (by decide) q6_79 (show decode cX12_readErrand 43 = .ok (.getfield 86, 3) by decide +kernel) (v := .inr (.inr (116 + 1))) rfl ?_
  refine y_iload_n (show decode cX12_readErrand 46 = .ok (.iload_n 1, 1) by decide +kernel) 0 rfl ?_
  refine y_aload_n (show decode cX12_readErrand 47 = .ok (.aload_n 0, 1) by decide +kernel) 1 rfl ?_
  refine y_ldc2 (k := 126943973305189) (show decode cX12_readErrand 48 = .ok (.ldc2_w 219, 3) by decide +kernel) q7_100 rfl rfl ?_
  refine y_iconst (show decode cX12_readErrand 51 = .ok (.iconst 1, 1) by decide +kernel) rfl ?_
  refine y_bipush (show decode cX12_readErrand 52 = .ok (.bipush 8, 2) by decide +kernel) rfl rfl ?_
  obtain ⟨r19, σ20, e18, h⟩ := bndR_some h
  refine y_callV (np := 3) (st := [.inl ((8 * (σ 92 41)) + (σ 99 ((σ 92 41)).toNat)), .inr (.inr (116 + 1))]) (as := [.inr (.inl 126943973305189), .inl 1, .inl 8]) 92 12 (sh_mo_after e18) q7_167 q7_164 q7_166 qs5_2 q1_15 (by decide) rfl (by decide) rfl (by decide) (by decide +kernel) (by decide) rfl (Nat.le_of_ble_eq_true rfl) (show decode cX12_readErrand 54 = .ok (.invokevirtual 359, 3) by decide +kernel) rfl ?_
  obtain ⟨c21, h⟩ := chkA_some h
  obtain ⟨σ22, e23, h⟩ := bnd_i h
  refine yo_iast 116 16 (by decide) rfl c21 (ov_set1 e23 rfl) (show decode cX12_readErrand 57 = .ok (.iastore, 1) by decide +kernel) ?_
  refine y_aload_n (show decode cX12_readErrand 58 = .ok (.aload_n 0, 1) by decide +kernel) 1 rfl ?_
  refine y_getf 92 12 33 89 (by decide) rfl (by decide) (by decide) q6_80 (show decode cX12_readErrand 59 = .ok (.getfield 89, 3) by decide +kernel) (v := .inr (.inr (117 + 1))) rfl ?_
  refine y_iload_n (show decode cX12_readErrand 62 = .ok (.iload_n 1, 1) by decide +kernel) 0 rfl ?_
  refine y_aload_n (show decode cX12_readErrand 63 = .ok (.aload_n 0, 1) by decide +kernel) 1 rfl ?_
  refine y_ldc2 (k := 512970880104) (show decode cX12_readErrand 64 = .ok (.ldc2_w 221, 3) by decide +kernel) q7_101 rfl rfl ?_
  refine y_iconst (show decode cX12_readErrand 67 = .ok (.iconst 0, 1) by decide +kernel) rfl ?_
  refine y_sipush (show decode cX12_readErrand 68 = .ok (.sipush 999, 3) by decide +kernel) rfl rfl ?_
  obtain ⟨r25, σ26, e24, h⟩ := bndR_some h
  refine y_callV (np := 3) (st := [.inl ((8 * (σ 92 41)) + (σ 99 ((σ 92 41)).toNat)), .inr (.inr (117 + 1))]) (as := [.inr (.inl 512970880104), .inl 0, .inl 999]) 92 12 (sh_mo_after e24) q7_167 q7_164 q7_166 qs5_2 q1_15 (by decide) rfl (by decide) rfl (by decide) (by decide +kernel) (by decide) rfl (Nat.le_of_ble_eq_true rfl) (show decode cX12_readErrand 71 = .ok (.invokevirtual 359, 3) by decide +kernel) rfl ?_
  obtain ⟨c27, h⟩ := chkA_some h
  obtain ⟨σ28, e29, h⟩ := bnd_i h
  refine yo_iast 117 16 (by decide) rfl c27 (ov_set1 e29 rfl) (show decode cX12_readErrand 74 = .ok (.iastore, 1) by decide +kernel) ?_
  refine y_aload_n (show decode cX12_readErrand 75 = .ok (.aload_n 0, 1) by decide +kernel) 1 rfl ?_
  refine y_getf 92 12 15 33 (by decide) rfl (by decide) (by decide) q6_62 (show decode cX12_readErrand 76 = .ok (.getfield 33, 3) by decide +kernel) (v := .inr (.inr (99 + 1))) rfl ?_
  refine y_aload_n (show decode cX12_readErrand 79 = .ok (.aload_n 0, 1) by decide +kernel) 1 rfl ?_
  refine y_getf 92 12 41 301 (by decide) rfl (by decide) (by decide) q6_88 (show decode cX12_readErrand 80 = .ok (.getfield 301, 3) by decide +kernel) (v := .inl (σ28 92 41)) rfl ?_
  refine y_dup2 (show decode cX12_readErrand 83 = .ok (.dup2, 1) by decide +kernel) rfl rfl ?_
  obtain ⟨c30, h⟩ := chkA_some h
  refine yo_iald 99 2 (by decide) rfl c30 (ov_at rfl) (show decode cX12_readErrand 84 = .ok (.iaload, 1) by decide +kernel) ?_
  refine y_iconst (show decode cX12_readErrand 85 = .ok (.iconst 1, 1) by decide +kernel) rfl ?_
  obtain ⟨c31, h⟩ := chkI_some h
  refine y_iadd (show decode cX12_readErrand 86 = .ok (.iadd, 1) by decide +kernel) c31 ?_
  obtain ⟨c32, h⟩ := chkA_some h
  obtain ⟨σ33, e34, h⟩ := bnd_i h
  refine yo_iast 99 2 (by decide) rfl c32 (ov_set1 e34 rfl) (show decode cX12_readErrand 87 = .ok (.iastore, 1) by decide +kernel) ?_
  cases h
  exact y_vret (show decode cX12_readErrand 88 = .ok (.return_, 1) by decide +kernel) rfl
abbrev MX12_pushE : yM := (yX12_pushE, cX12_pushE, 3, none)
def mo_pushE (a : Int) (b : Int) (σ : ySt) : Option (ySt) :=
  chkA 90 (σ 92 44) <|
  bnd (yset σ 121 ((σ 92 44)).toNat a) fun σ2 =>
  chkA 90 (σ2 92 44) <|
  bnd (yset σ2 122 ((σ2 92 44)).toNat b) fun σ5 =>
  chkI ((σ5 92 44) + 1) <|
  bnd (yset σ5 92 44 ((σ5 92 44) + 1)) fun σ8 =>
  some σ8
set_option maxHeartbeats 4000000 in
set_option maxRecDepth 10000 in
theorem sh_mo_pushE {E : yE} {a : Int} {b : Int} {σ : ySt} {τ : ySt} (h : mo_pushE a b σ = some τ) : Con E MX12_pushE 0 0 0 [.inr (.inr (92 + 1)), .inl a, .inl b] 150 (ov σ) none (ov τ) := by
  unfold mo_pushE at h
  refine Con.ofY (by decide +kernel) (by simp [yWords, yCat]) (fun hok _ => ?_)
  show Y E MX12_pushE (yRm 0 0 0) (yQf E (150 + 0) 0 0 none (ov τ)) 0 [(0, .inr (.inr (92 + 1))), (1, .inl a), (2, .inl b)] [] (ov σ) 150 0 0
  refine y_aload_n (show decode cX12_pushE 0 = .ok (.aload_n 0, 1) by decide +kernel) 0 rfl ?_
  refine y_getf 92 12 37 101 (by decide) rfl (by decide) (by decide) q6_84 (show decode cX12_pushE 1 = .ok (.getfield 101, 3) by decide +kernel) (v := .inr (.inr (121 + 1))) rfl ?_
  refine y_aload_n (show decode cX12_pushE 4 = .ok (.aload_n 0, 1) by decide +kernel) 0 rfl ?_
  refine y_getf 92 12 44 376 (by decide) rfl (by decide) (by decide) q6_91 (show decode cX12_pushE 5 = .ok (.getfield 376, 3) by decide +kernel) (v := .inl (σ 92 44)) rfl ?_
  refine y_iload_n (show decode cX12_pushE 8 = .ok (.iload_n 1, 1) by decide +kernel) 1 rfl ?_
  obtain ⟨c1, h⟩ := chkA_some h
  obtain ⟨σ2, e3, h⟩ := bnd_i h
  refine yo_iast 121 90 (by decide) rfl c1 (ov_set1 e3 rfl) (show decode cX12_pushE 9 = .ok (.iastore, 1) by decide +kernel) ?_
  refine y_aload_n (show decode cX12_pushE 10 = .ok (.aload_n 0, 1) by decide +kernel) 0 rfl ?_
  refine y_getf 92 12 38 104 (by decide) rfl (by decide) (by decide) q6_85 (show decode cX12_pushE 11 = .ok (.getfield 104, 3) by decide +kernel) (v := .inr (.inr (122 + 1))) rfl ?_
  refine y_aload_n (show decode cX12_pushE 14 = .ok (.aload_n 0, 1) by decide +kernel) 0 rfl ?_
  refine y_getf 92 12 44 376 (by decide) rfl (by decide) (by decide) q6_91 (show decode cX12_pushE 15 = .ok (.getfield 376, 3) by decide +kernel) (v := .inl (σ2 92 44)) rfl ?_
  refine y_iload_n (show decode cX12_pushE 18 = .ok (.iload_n 2, 1) by decide +kernel) 2 rfl ?_
  obtain ⟨c4, h⟩ := chkA_some h
  obtain ⟨σ5, e6, h⟩ := bnd_i h
  refine yo_iast 122 90 (by decide) rfl c4 (ov_set1 e6 rfl) (show decode cX12_pushE 19 = .ok (.iastore, 1) by decide +kernel) ?_
  refine y_aload_n (show decode cX12_pushE 20 = .ok (.aload_n 0, 1) by decide +kernel) 0 rfl ?_
  refine y_dup (show decode cX12_pushE 21 = .ok (.dup, 1) by decide +kernel) rfl ?_
  refine y_getf 92 12 44 376 (by decide) rfl (by decide) (by decide) q6_91 (show decode cX12_pushE 22 = .ok (.getfield 376, 3) by decide +kernel) (v := .inl (σ5 92 44)) rfl ?_
  refine y_iconst (show decode cX12_pushE 25 = .ok (.iconst 1, 1) by decide +kernel) rfl ?_
  obtain ⟨c7, h⟩ := chkI_some h
  refine y_iadd (show decode cX12_pushE 26 = .ok (.iadd, 1) by decide +kernel) c7 ?_
  obtain ⟨σ8, e9, h⟩ := bnd_i h
  refine yo_putI 92 12 44 376 (by decide) rfl (by decide) (by decide) q6_91 rfl (show decode cX12_pushE 27 = .ok (.putfield 376, 3) by decide +kernel) rfl rfl (ov_set1 e9 rfl) ?_
  cases h
  exact y_vret (show decode cX12_pushE 30 = .ok (.return_, 1) by decide +kernel) rfl
abbrev MX12_wordHere : yM := (yX12_wordHere, cX12_wordHere, 1, some .int)
def mo_wordHere (σ : ySt) : Option (Int) :=
  bndO (mo_isWord 1751478885 σ) fun r2 =>
  if r2 = 0 then
    bndO (mo_isWord 126943973305189 σ) fun r5 =>
    if r5 = 0 then
      bndO (mo_isWord 482854658917 σ) fun r8 =>
      if r8 = 0 then
        bndO (mo_isWord 1685022579 σ) fun r11 =>
        if r11 = 0 then
          some 0
        else
          some 100
      else
        some 112
    else
      some 115
  else
    some 104
set_option maxHeartbeats 4000000 in
set_option maxRecDepth 10000 in
theorem sh_mo_wordHere {E : yE} {σ : ySt} {ρ : Int} (h : mo_wordHere σ = some ρ) : Con E MX12_wordHere 1 0 0 [.inr (.inr (92 + 1))] 150 (ov σ) (some (.inl ρ)) (ov σ) := by
  unfold mo_wordHere at h
  refine Con.ofY (by decide +kernel) (by simp [yWords, yCat]) (fun hok _ => ?_)
  show Y E MX12_wordHere (yRm 1 0 0) (yQf E (150 + 0) 0 0 (some (.inl ρ)) (ov σ)) 0 [(0, .inr (.inr (92 + 1)))] [] (ov σ) 150 0 0
  refine y_aload_n (show decode cX12_wordHere 0 = .ok (.aload_n 0, 1) by decide +kernel) 0 rfl ?_
  refine y_ldc2 (k := 1751478885) (show decode cX12_wordHere 1 = .ok (.ldc2_w 235, 3) by decide +kernel) q7_108 rfl rfl ?_
  obtain ⟨r2, e1, h⟩ := bndO_some h
  refine y_callV (np := 1) (st := []) (as := [.inr (.inl 1751478885)]) 92 12 (sh_mo_isWord e1) q7_131 q7_128 q7_130 qs4_9 q1_15 (by decide) rfl (by decide) rfl (by decide) (by decide +kernel) (by decide) rfl (Nat.le_of_ble_eq_true rfl) (show decode cX12_wordHere 4 = .ok (.invokevirtual 287, 3) by decide +kernel) rfl ?_
  by_cases c3 : r2 = 0
  · rw [if_pos c3] at h
    refine y_if_eq_t (tgt := 13) (show decode cX12_wordHere 7 = .ok (.ifCond .eq 6, 3) by decide +kernel) rfl c3 ?_
    refine y_aload_n (show decode cX12_wordHere 13 = .ok (.aload_n 0, 1) by decide +kernel) 0 rfl ?_
    refine y_ldc2 (k := 126943973305189) (show decode cX12_wordHere 14 = .ok (.ldc2_w 219, 3) by decide +kernel) q7_100 rfl rfl ?_
    obtain ⟨r5, e4, h⟩ := bndO_some h
    refine y_callV (np := 1) (st := []) (as := [.inr (.inl 126943973305189)]) 92 12 (sh_mo_isWord e4) q7_131 q7_128 q7_130 qs4_9 q1_15 (by decide) rfl (by decide) rfl (by decide) (by decide +kernel) (by decide) rfl (Nat.le_of_ble_eq_true rfl) (show decode cX12_wordHere 17 = .ok (.invokevirtual 287, 3) by decide +kernel) rfl ?_
    by_cases c6 : r5 = 0
    · rw [if_pos c6] at h
      refine y_if_eq_t (tgt := 26) (show decode cX12_wordHere 20 = .ok (.ifCond .eq 6, 3) by decide +kernel) rfl c6 ?_
      refine y_aload_n (show decode cX12_wordHere 26 = .ok (.aload_n 0, 1) by decide +kernel) 0 rfl ?_
      refine y_ldc2 (k := 482854658917) (show decode cX12_wordHere 27 = .ok (.ldc2_w 201, 3) by decide +kernel) q7_91 rfl rfl ?_
      obtain ⟨r8, e7, h⟩ := bndO_some h
      refine y_callV (np := 1) (st := []) (as := [.inr (.inl 482854658917)]) 92 12 (sh_mo_isWord e7) q7_131 q7_128 q7_130 qs4_9 q1_15 (by decide) rfl (by decide) rfl (by decide) (by decide +kernel) (by decide) rfl (Nat.le_of_ble_eq_true rfl) (show decode cX12_wordHere 30 = .ok (.invokevirtual 287, 3) by decide +kernel) rfl ?_
      by_cases c9 : r8 = 0
      · rw [if_pos c9] at h
        refine y_if_eq_t (tgt := 39) (show decode cX12_wordHere 33 = .ok (.ifCond .eq 6, 3) by decide +kernel) rfl c9 ?_
        refine y_aload_n (show decode cX12_wordHere 39 = .ok (.aload_n 0, 1) by decide +kernel) 0 rfl ?_
        refine y_ldc2 (k := 1685022579) (show decode cX12_wordHere 40 = .ok (.ldc2_w 237, 3) by decide +kernel) q7_109 rfl rfl ?_
        obtain ⟨r11, e10, h⟩ := bndO_some h
        refine y_callV (np := 1) (st := []) (as := [.inr (.inl 1685022579)]) 92 12 (sh_mo_isWord e10) q7_131 q7_128 q7_130 qs4_9 q1_15 (by decide) rfl (by decide) rfl (by decide) (by decide +kernel) (by decide) rfl (Nat.le_of_ble_eq_true rfl) (show decode cX12_wordHere 43 = .ok (.invokevirtual 287, 3) by decide +kernel) rfl ?_
        by_cases c12 : r11 = 0
        · rw [if_pos c12] at h
          refine y_if_eq_t (tgt := 54) (show decode cX12_wordHere 46 = .ok (.ifCond .eq 8, 3) by decide +kernel) rfl c12 ?_
          refine y_iconst (show decode cX12_wordHere 54 = .ok (.iconst 0, 1) by decide +kernel) rfl ?_
          cases h
          exact y_iret (show decode cX12_wordHere 55 = .ok (.ireturn, 1) by decide +kernel) rfl
        · rw [if_neg c12] at h
          refine y_if_eq_f (show decode cX12_wordHere 46 = .ok (.ifCond .eq 8, 3) by decide +kernel) c12 (by decide) ?_
          refine y_bipush (show decode cX12_wordHere 49 = .ok (.bipush 100, 2) by decide +kernel) rfl rfl ?_
          refine y_goto (tgt := 55) (show decode cX12_wordHere 51 = .ok (.goto 4, 3) by decide +kernel) rfl ?_
          cases h
          exact y_iret (show decode cX12_wordHere 55 = .ok (.ireturn, 1) by decide +kernel) rfl
      · rw [if_neg c9] at h
        refine y_if_eq_f (show decode cX12_wordHere 33 = .ok (.ifCond .eq 6, 3) by decide +kernel) c9 (by decide) ?_
        refine y_bipush (show decode cX12_wordHere 36 = .ok (.bipush 112, 2) by decide +kernel) rfl rfl ?_
        cases h
        exact y_iret (show decode cX12_wordHere 38 = .ok (.ireturn, 1) by decide +kernel) rfl
    · rw [if_neg c6] at h
      refine y_if_eq_f (show decode cX12_wordHere 20 = .ok (.ifCond .eq 6, 3) by decide +kernel) c6 (by decide) ?_
      refine y_bipush (show decode cX12_wordHere 23 = .ok (.bipush 115, 2) by decide +kernel) rfl rfl ?_
      cases h
      exact y_iret (show decode cX12_wordHere 25 = .ok (.ireturn, 1) by decide +kernel) rfl
  · rw [if_neg c3] at h
    refine y_if_eq_f (show decode cX12_wordHere 7 = .ok (.ifCond .eq 6, 3) by decide +kernel) c3 (by decide) ?_
    refine y_bipush (show decode cX12_wordHere 10 = .ok (.bipush 104, 2) by decide +kernel) rfl rfl ?_
    cases h
    exact y_iret (show decode cX12_wordHere 12 = .ok (.ireturn, 1) by decide +kernel) rfl
abbrev MX12_emit : yM := (yX12_emit, cX12_emit, 3, none)
def mo_emit (a : Int) (b : Int) (σ : ySt) : Option (ySt) :=
  chkA 800 (σ 92 42) <|
  bnd (yset σ 119 ((σ 92 42)).toNat a) fun σ2 =>
  chkA 800 (σ2 92 42) <|
  bnd (yset σ2 120 ((σ2 92 42)).toNat b) fun σ5 =>
  chkI ((σ5 92 42) + 1) <|
  bnd (yset σ5 92 42 ((σ5 92 42) + 1)) fun σ8 =>
  some σ8
set_option maxHeartbeats 4000000 in
set_option maxRecDepth 10000 in
theorem sh_mo_emit {E : yE} {a : Int} {b : Int} {σ : ySt} {τ : ySt} (h : mo_emit a b σ = some τ) : Con E MX12_emit 0 0 0 [.inr (.inr (92 + 1)), .inl a, .inl b] 150 (ov σ) none (ov τ) := by
  unfold mo_emit at h
  refine Con.ofY (by decide +kernel) (by simp [yWords, yCat]) (fun hok _ => ?_)
  show Y E MX12_emit (yRm 0 0 0) (yQf E (150 + 0) 0 0 none (ov τ)) 0 [(0, .inr (.inr (92 + 1))), (1, .inl a), (2, .inl b)] [] (ov σ) 150 0 0
  refine y_aload_n (show decode cX12_emit 0 = .ok (.aload_n 0, 1) by decide +kernel) 0 rfl ?_
  refine y_getf 92 12 35 95 (by decide) rfl (by decide) (by decide) q6_82 (show decode cX12_emit 1 = .ok (.getfield 95, 3) by decide +kernel) (v := .inr (.inr (119 + 1))) rfl ?_
  refine y_aload_n (show decode cX12_emit 4 = .ok (.aload_n 0, 1) by decide +kernel) 0 rfl ?_
  refine y_getf 92 12 42 304 (by decide) rfl (by decide) (by decide) q6_89 (show decode cX12_emit 5 = .ok (.getfield 304, 3) by decide +kernel) (v := .inl (σ 92 42)) rfl ?_
  refine y_iload_n (show decode cX12_emit 8 = .ok (.iload_n 1, 1) by decide +kernel) 1 rfl ?_
  obtain ⟨c1, h⟩ := chkA_some h
  obtain ⟨σ2, e3, h⟩ := bnd_i h
  refine yo_iast 119 800 (by decide) rfl c1 (ov_set1 e3 rfl) (show decode cX12_emit 9 = .ok (.iastore, 1) by decide +kernel) ?_
  refine y_aload_n (show decode cX12_emit 10 = .ok (.aload_n 0, 1) by decide +kernel) 0 rfl ?_
  refine y_getf 92 12 36 98 (by decide) rfl (by decide) (by decide) q6_83 (show decode cX12_emit 11 = .ok (.getfield 98, 3) by decide +kernel) (v := .inr (.inr (120 + 1))) rfl ?_
  refine y_aload_n (show decode cX12_emit 14 = .ok (.aload_n 0, 1) by decide +kernel) 0 rfl ?_
  refine y_getf 92 12 42 304 (by decide) rfl (by decide) (by decide) q6_89 (show decode cX12_emit 15 = .ok (.getfield 304, 3) by decide +kernel) (v := .inl (σ2 92 42)) rfl ?_
  refine y_iload_n (show decode cX12_emit 18 = .ok (.iload_n 2, 1) by decide +kernel) 2 rfl ?_
  obtain ⟨c4, h⟩ := chkA_some h
  obtain ⟨σ5, e6, h⟩ := bnd_i h
  refine yo_iast 120 800 (by decide) rfl c4 (ov_set1 e6 rfl) (show decode cX12_emit 19 = .ok (.iastore, 1) by decide +kernel) ?_
  refine y_aload_n (show decode cX12_emit 20 = .ok (.aload_n 0, 1) by decide +kernel) 0 rfl ?_
  refine y_dup (show decode cX12_emit 21 = .ok (.dup, 1) by decide +kernel) rfl ?_
  refine y_getf 92 12 42 304 (by decide) rfl (by decide) (by decide) q6_89 (show decode cX12_emit 22 = .ok (.getfield 304, 3) by decide +kernel) (v := .inl (σ5 92 42)) rfl ?_
  refine y_iconst (show decode cX12_emit 25 = .ok (.iconst 1, 1) by decide +kernel) rfl ?_
  obtain ⟨c7, h⟩ := chkI_some h
  refine y_iadd (show decode cX12_emit 26 = .ok (.iadd, 1) by decide +kernel) c7 ?_
  obtain ⟨σ8, e9, h⟩ := bnd_i h
  refine yo_putI 92 12 42 304 (by decide) rfl (by decide) (by decide) q6_89 rfl (show decode cX12_emit 27 = .ok (.putfield 304, 3) by decide +kernel) rfl rfl (ov_set1 e9 rfl) ?_
  cases h
  exact y_vret (show decode cX12_emit 30 = .ok (.return_, 1) by decide +kernel) rfl
abbrev MX12_unit : yM := (yX12_unit, cX12_unit, 6, some .boolean)
def mo_unit (N : Nat) (σ : ySt) : Option (Int × ySt) :=
  chkI ((σ 92 44) - 1) <|
  chkA 90 ((σ 92 44) - 1) <|
  bnd (fun (y3 : Int) =>
    bnd (fun (y5 : Int) =>
      bndO (mo_is 40 σ) fun r8 =>
      bndO (mo_wordHere σ) fun r10 =>
      bnd (fun (σ11 : ySt) =>
        bndO (mo_isGood σ11) fun r14 =>
        if ¬ r14 = 0 then
          chkA 2 (σ11 92 41) <|
          bnd (fun (y17 : Int) =>
            chkI ((σ11 102 ((σ11 92 41)).toNat) + y17) <|
            chkA 2 (σ11 92 41) <|
            bnd (yset σ11 102 ((σ11 92 41)).toNat ((σ11 102 ((σ11 92 41)).toNat) + y17)) fun σ21 =>
            bnd (fun (y23 : Int) =>
              bndO (mo_goOn N σ21) fun σ26 =>
              bnd (bnd (fun (y28 : Int) =>
                  bndO (mo_pushE y28 126 σ26) fun σ31 =>
                  chkI ((σ31 92 43) + 1) <|
                  bnd (yset σ31 92 43 ((σ31 92 43) + 1)) fun σ33 =>
                  some (1, σ33)) fun j29 =>
                if y5 = 0 then
                  j29 7
                else
                  j29 3) fun j27 =>
              if ¬ y5 = 0 then
                j27
              else
                if r8 = 0 then
                  bnd (fun (y38 : Int) =>
                    bndO (mo_emit y38 y23 σ26) fun σ41 =>
                    some (0, σ41)) fun j39 =>
                  if ¬ r10 = 0 then
                    j39 r10
                  else
                    j39 110
                else
                  j27) fun j24 =>
            if ¬ r10 = 0 then
              j24 0
            else
              j24 (σ21 92 9)) fun j18 =>
          if y5 = 0 then
            j18 1
          else
            j18 0
        else
          some (1, σ11)) fun j12 =>
      bnd (bndO (mo_misplaced σ) fun σ47 =>
        j12 σ47) fun j45 =>
      bnd (bnd (if ¬ (σ 92 43) = 7 then
            j12 σ
          else
            j45) fun j49 =>
        if ¬ y5 = 0 then
          j49
        else
          if r8 = 0 then
            j12 σ
          else
            j49) fun j48 =>
      if ¬ y5 = 0 then
        j48
      else
        bnd (chkA 2 (σ 92 41) <|
          if (σ 102 ((σ 92 41)).toNat) = 40 then
            j45
          else
            j48) fun j54 =>
        if ¬ r10 = 0 then
          j54
        else
          if (σ 92 8) = 4 then
            j54
          else
            if r8 = 0 then
              j45
            else
              j54) fun j6 =>
    if y3 = 0 then
      j6 0
    else
      bndO (mo_isWord 7237492 σ) fun r62 =>
      if r62 = 0 then
        j6 0
      else
        j6 1) fun j4 =>
  if (σ 121 (((σ 92 44) - 1)).toNat) ≤ 3 then
    j4 1
  else
    chkI ((σ 92 44) - 1) <|
    chkA 90 ((σ 92 44) - 1) <|
    if (σ 121 (((σ 92 44) - 1)).toNat) < 7 then
      j4 0
    else
      j4 1
set_option maxHeartbeats 4000000 in
set_option maxRecDepth 10000 in
theorem sh_mo_unit {E : yE} {N : Nat} {σ : ySt} {ρ : Int} {τ : ySt} (h : mo_unit N σ = some (ρ, τ)) : Con E MX12_unit 2 0 0 [.inr (.inr (92 + 1))] 150 (ov σ) (some (.inl ρ)) (ov τ) := by
  unfold mo_unit at h
  refine Con.ofY (by decide +kernel) (by simp [yWords, yCat]) (fun hok _ => ?_)
  show Y E MX12_unit (yRm 2 0 0) (yQf E (150 + 0) 0 0 (some (.inl ρ)) (ov τ)) 0 [(0, .inr (.inr (92 + 1)))] [] (ov σ) 150 0 0
  refine y_aload_n (show decode cX12_unit 0 = .ok (.aload_n 0, 1) by decide +kernel) 0 rfl ?_
  refine y_getf 92 12 37 101 (by decide) rfl (by decide) (by decide) q6_84 (show decode cX12_unit 1 = .ok (.getfield 101, 3) by decide +kernel) (v := .inr (.inr (121 + 1))) rfl ?_
  refine y_aload_n (show decode cX12_unit 4 = .ok (.aload_n 0, 1) by decide +kernel) 0 rfl ?_
  refine y_getf 92 12 44 376 (by decide) rfl (by decide) (by decide) q6_91 (show decode cX12_unit 5 = .ok (.getfield 376, 3) by decide +kernel) (v := .inl (σ 92 44)) rfl ?_
  refine y_iconst (show decode cX12_unit 8 = .ok (.iconst 1, 1) by decide +kernel) rfl ?_
  obtain ⟨c1, h⟩ := chkI_some h
  refine y_isub (show decode cX12_unit 9 = .ok (.isub, 1) by decide +kernel) c1 ?_
  obtain ⟨c2, h⟩ := chkA_some h
  refine yo_iald 121 90 (by decide) rfl c2 (ov_at rfl) (show decode cX12_unit 10 = .ok (.iaload, 1) by decide +kernel) ?_
  refine y_iconst (show decode cX12_unit 11 = .ok (.iconst 3, 1) by decide +kernel) rfl ?_
  refine bnd_j (Q := fun j4 => ∀ (y3 : Int), j4 y3 = some (ρ, τ) → Y E MX12_unit (yRm 2 0 0) (yQf E (150 + 0) 0 0 (some (.inl ρ)) (ov τ)) 36 [(0, .inr (.inr (92 + 1)))] [.inl y3] (ov σ) 150 0 0) (fun y3 h => ?_) (fun j4 hj4 h => ?_) h
  · dsimp only at h
    refine y_istore_n (show decode cX12_unit 36 = .ok (.istore_n 1, 1) by decide +kernel) rfl (L1 := [(1, .inl y3), (0, .inr (.inr (92 + 1)))]) rfl ?_
    refine y_iload_n (show decode cX12_unit 37 = .ok (.iload_n 1, 1) by decide +kernel) 0 rfl ?_
    refine bnd_j (Q := fun j6 => ∀ (y5 : Int), j6 y5 = some (ρ, τ) → Y E MX12_unit (yRm 2 0 0) (yQf E (150 + 0) 0 0 (some (.inl ρ)) (ov τ)) 56 [(0, .inr (.inr (92 + 1)))] [.inl y5] (ov σ) 150 0 0) (fun y5 h => ?_) (fun j6 hj6 h => ?_) h
    · dsimp only at h
      refine y_istore_n (show decode cX12_unit 56 = .ok (.istore_n 2, 1) by decide +kernel) rfl (L1 := [(2, .inl y5), (0, .inr (.inr (92 + 1)))]) rfl ?_
      refine y_aload_n (show decode cX12_unit 57 = .ok (.aload_n 0, 1) by decide +kernel) 1 rfl ?_
      refine y_bipush (show decode cX12_unit 58 = .ok (.bipush 40, 2) by decide +kernel) rfl rfl ?_
      obtain ⟨r8, e7, h⟩ := bndO_some h
      refine y_callV (np := 1) (st := []) (as := [.inl 40]) 92 12 (sh_mo_is e7) q7_219 q7_216 q7_218 qs5_15 q1_15 (by decide) rfl (by decide) rfl (by decide) (by decide +kernel) (by decide) rfl (Nat.le_of_ble_eq_true rfl) (show decode cX12_unit 60 = .ok (.invokevirtual 341, 3) by decide +kernel) rfl ?_
      refine y_istore_n (show decode cX12_unit 63 = .ok (.istore_n 3, 1) by decide +kernel) rfl (L1 := [(3, .inl r8), (2, .inl y5), (0, .inr (.inr (92 + 1)))]) rfl ?_
      refine y_aload_n (show decode cX12_unit 64 = .ok (.aload_n 0, 1) by decide +kernel) 2 rfl ?_
      obtain ⟨r10, e9, h⟩ := bndO_some h
      refine y_callV (np := 0) (st := []) (as := []) 92 12 (sh_mo_wordHere e9) q7_223 q7_220 q7_222 qs6_0 q1_15 (by decide) rfl (by decide) rfl (by decide) (by decide +kernel) (by decide) rfl (Nat.le_of_ble_eq_true rfl) (show decode cX12_unit 65 = .ok (.invokevirtual 391, 3) by decide +kernel) rfl ?_
      refine y_istore (show decode cX12_unit 68 = .ok (.istore 4, 2) by decide +kernel) rfl (L1 := [(4, .inl r10), (3, .inl r8), (2, .inl y5), (0, .inr (.inr (92 + 1)))]) rfl ?_
      refine y_iload_n (show decode cX12_unit 70 = .ok (.iload_n 2, 1) by decide +kernel) 2 rfl ?_
      refine bnd_j (Q := fun j12 => ∀ (σ11 : ySt), j12 σ11 = some (ρ, τ) → Y E MX12_unit (yRm 2 0 0) (yQf E (150 + 0) 0 0 (some (.inl ρ)) (ov τ)) 126 [(0, .inr (.inr (92 + 1))), (2, .inl y5), (3, .inl r8), (4, .inl r10)] [] (ov σ11) 150 0 0) (fun σ11 h => ?_) (fun j12 hj12 h => ?_) h
      · dsimp only at h
        refine y_aload_n (show decode cX12_unit 126 = .ok (.aload_n 0, 1) by decide +kernel) 0 rfl ?_
        obtain ⟨r14, e13, h⟩ := bndO_some h
        refine y_callV (np := 0) (st := []) (as := []) 92 12 (sh_mo_isGood e13) q7_119 q7_116 q7_118 qs4_6 q1_15 (by decide) rfl (by decide) rfl (by decide) (by decide +kernel) (by decide) rfl (Nat.le_of_ble_eq_true rfl) (show decode cX12_unit 127 = .ok (.invokevirtual 277, 3) by decide +kernel) rfl ?_
        by_cases c15 : ¬ r14 = 0
        · rw [if_pos c15] at h
          refine y_if_ne_t (tgt := 135) (show decode cX12_unit 130 = .ok (.ifCond .ne 5, 3) by decide +kernel) rfl c15 ?_
          refine y_aload_n (show decode cX12_unit 135 = .ok (.aload_n 0, 1) by decide +kernel) 0 rfl ?_
          refine y_getf 92 12 18 42 (by decide) rfl (by decide) (by decide) q6_65 (show decode cX12_unit 136 = .ok (.getfield 42, 3) by decide +kernel) (v := .inr (.inr (102 + 1))) rfl ?_
          refine y_aload_n (show decode cX12_unit 139 = .ok (.aload_n 0, 1) by decide +kernel) 0 rfl ?_
          refine y_getf 92 12 41 301 (by decide) rfl (by decide) (by decide) q6_88 (show decode cX12_unit 140 = .ok (.getfield 301, 3) by decide +kernel) (v := .inl (σ11 92 41)) rfl ?_
          refine y_dup2 (show decode cX12_unit 143 = .ok (.dup2, 1) by decide +kernel) rfl rfl ?_
          obtain ⟨c16, h⟩ := chkA_some h
          refine yo_iald 102 2 (by decide) rfl c16 (ov_at rfl) (show decode cX12_unit 144 = .ok (.iaload, 1) by decide +kernel) ?_
          refine y_iload_n (show decode cX12_unit 145 = .ok (.iload_n 2, 1) by decide +kernel) 1 rfl ?_
          refine bnd_j (Q := fun j18 => ∀ (y17 : Int), j18 y17 = some (ρ, τ) → Y E MX12_unit (yRm 2 0 0) (yQf E (150 + 0) 0 0 (some (.inl ρ)) (ov τ)) 154 [(0, .inr (.inr (92 + 1))), (2, .inl y5), (3, .inl r8), (4, .inl r10)] [.inl y17, .inl (σ11 102 ((σ11 92 41)).toNat), .inl (σ11 92 41), .inr (.inr (102 + 1))] (ov σ11) 150 0 0) (fun y17 h => ?_) (fun j18 hj18 h => ?_) h
          · dsimp only at h
            obtain ⟨c19, h⟩ := chkI_some h
            refine y_iadd (show decode cX12_unit 154 = .ok (.iadd, 1) by decide +kernel) c19 ?_
            obtain ⟨c20, h⟩ := chkA_some h
            obtain ⟨σ21, e22, h⟩ := bnd_i h
            refine yo_iast 102 2 (by decide) rfl c20 (ov_set1 e22 rfl) (show decode cX12_unit 155 = .ok (.iastore, 1) by decide +kernel) ?_
            refine y_iload (show decode cX12_unit 156 = .ok (.iload 4, 2) by decide +kernel) 3 rfl ?_
            refine bnd_j (Q := fun j24 => ∀ (y23 : Int), j24 y23 = some (ρ, τ) → Y E MX12_unit (yRm 2 0 0) (yQf E (150 + 0) 0 0 (some (.inl ρ)) (ov τ)) 169 [(0, .inr (.inr (92 + 1))), (2, .inl y5), (3, .inl r8), (4, .inl r10)] [.inl y23] (ov σ21) 150 0 0) (fun y23 h => ?_) (fun j24 hj24 h => ?_) h
            · dsimp only at h
              refine y_istore (show decode cX12_unit 169 = .ok (.istore 5, 2) by decide +kernel) rfl (L1 := [(5, .inl y23), (0, .inr (.inr (92 + 1))), (2, .inl y5), (3, .inl r8), (4, .inl r10)]) rfl ?_
              refine y_aload_n (show decode cX12_unit 171 = .ok (.aload_n 0, 1) by decide +kernel) 1 rfl ?_
              obtain ⟨σ26, e25, h⟩ := bndO_some h
              refine y_callV (np := 0) (st := []) (as := []) 92 12 (sh_mo_goOn e25) q7_80 q7_77 q7_79 qs4_4 q1_15 (by decide) rfl (by decide) rfl (by decide) (by decide +kernel) (by decide) rfl (Nat.le_of_ble_eq_true rfl) (show decode cX12_unit 172 = .ok (.invokevirtual 281, 3) by decide +kernel) rfl ?_
              refine y_iload_n (show decode cX12_unit 175 = .ok (.iload_n 2, 1) by decide +kernel) 2 rfl ?_
              refine bnd_j (Q := fun j27 => j27 = some (ρ, τ) → Y E MX12_unit (yRm 2 0 0) (yQf E (150 + 0) 0 0 (some (.inl ρ)) (ov τ)) 183 [(0, .inr (.inr (92 + 1))), (2, .inl y5)] [] (ov σ26) 150 0 0) (fun h => ?_) (fun j27 hj27 h => ?_) h
              · refine y_aload_n (show decode cX12_unit 183 = .ok (.aload_n 0, 1) by decide +kernel) 0 rfl ?_
                refine y_iload_n (show decode cX12_unit 184 = .ok (.iload_n 2, 1) by decide +kernel) 1 rfl ?_
                refine bnd_j (Q := fun j29 => ∀ (y28 : Int), j29 y28 = some (ρ, τ) → Y E MX12_unit (yRm 2 0 0) (yQf E (150 + 0) 0 0 (some (.inl ρ)) (ov τ)) 194 [(0, .inr (.inr (92 + 1)))] [.inl y28, .inr (.inr (92 + 1))] (ov σ26) 150 0 0) (fun y28 h => ?_) (fun j29 hj29 h => ?_) h
                · dsimp only at h
                  refine y_bipush (show decode cX12_unit 194 = .ok (.bipush 126, 2) by decide +kernel) rfl rfl ?_
                  obtain ⟨σ31, e30, h⟩ := bndO_some h
                  refine y_callV (np := 2) (st := []) (as := [.inl y28, .inl 126]) 92 12 (sh_mo_pushE e30) q7_211 q7_208 q7_210 qs5_13 q1_15 (by decide) rfl (by decide) rfl (by decide) (by decide +kernel) (by decide) rfl (Nat.le_of_ble_eq_true rfl) (show decode cX12_unit 196 = .ok (.invokevirtual 382, 3) by decide +kernel) rfl ?_
                  refine y_aload_n (show decode cX12_unit 199 = .ok (.aload_n 0, 1) by decide +kernel) 0 rfl ?_
                  refine y_dup (show decode cX12_unit 200 = .ok (.dup, 1) by decide +kernel) rfl ?_
                  refine y_getf 92 12 43 379 (by decide) rfl (by decide) (by decide) q6_90 (show decode cX12_unit 201 = .ok (.getfield 379, 3) by decide +kernel) (v := .inl (σ31 92 43)) rfl ?_
                  refine y_iconst (show decode cX12_unit 204 = .ok (.iconst 1, 1) by decide +kernel) rfl ?_
                  obtain ⟨c32, h⟩ := chkI_some h
                  refine y_iadd (show decode cX12_unit 205 = .ok (.iadd, 1) by decide +kernel) c32 ?_
                  obtain ⟨σ33, e34, h⟩ := bnd_i h
                  refine yo_putI 92 12 43 379 (by decide) rfl (by decide) (by decide) q6_90 rfl (show decode cX12_unit 206 = .ok (.putfield 379, 3) by decide +kernel) rfl rfl (ov_set1 e34 rfl) ?_
                  refine y_iconst (show decode cX12_unit 209 = .ok (.iconst 1, 1) by decide +kernel) rfl ?_
                  cases h
                  exact y_zret (show decode cX12_unit 210 = .ok (.ireturn, 1) by decide +kernel) rfl (Or.inr rfl)
                by_cases c35 : y5 = 0
                · rw [if_pos c35] at h
                  refine y_if_eq_t (tgt := 192) (show decode cX12_unit 185 = .ok (.ifCond .eq 7, 3) by decide +kernel) rfl c35 ?_
                  refine y_bipush (show decode cX12_unit 192 = .ok (.bipush 7, 2) by decide +kernel) rfl rfl ?_
                  refine y_pick [0] rfl ?_
                  exact hj29 _ h
                · rw [if_neg c35] at h
                  refine y_if_eq_f (show decode cX12_unit 185 = .ok (.ifCond .eq 7, 3) by decide +kernel) c35 (by decide) ?_
                  refine y_iconst (show decode cX12_unit 188 = .ok (.iconst 3, 1) by decide +kernel) rfl ?_
                  refine y_goto (tgt := 194) (show decode cX12_unit 189 = .ok (.goto 5, 3) by decide +kernel) rfl ?_
                  refine y_pick [0] rfl ?_
                  exact hj29 _ h
              by_cases c36 : ¬ y5 = 0
              · rw [if_pos c36] at h
                refine y_if_ne_t (tgt := 183) (show decode cX12_unit 176 = .ok (.ifCond .ne 7, 3) by decide +kernel) rfl c36 ?_
                refine y_pick [1, 2] rfl ?_
                exact hj27 h
              · rw [if_neg c36] at h
                refine y_if_ne_f (show decode cX12_unit 176 = .ok (.ifCond .ne 7, 3) by decide +kernel) c36 (by decide) ?_
                refine y_iload_n (show decode cX12_unit 179 = .ok (.iload_n 3, 1) by decide +kernel) 3 rfl ?_
                by_cases c37 : r8 = 0
                · rw [if_pos c37] at h
                  refine y_if_eq_t (tgt := 211) (show decode cX12_unit 180 = .ok (.ifCond .eq 31, 3) by decide +kernel) rfl c37 ?_
                  refine y_aload_n (show decode cX12_unit 211 = .ok (.aload_n 0, 1) by decide +kernel) 1 rfl ?_
                  refine y_iload (show decode cX12_unit 212 = .ok (.iload 4, 2) by decide +kernel) 4 rfl ?_
                  refine bnd_j (Q := fun j39 => ∀ (y38 : Int), j39 y38 = some (ρ, τ) → Y E MX12_unit (yRm 2 0 0) (yQf E (150 + 0) 0 0 (some (.inl ρ)) (ov τ)) 224 [(5, .inl y23)] [.inl y38, .inr (.inr (92 + 1))] (ov σ26) 150 0 0) (fun y38 h => ?_) (fun j39 hj39 h => ?_) h
                  · dsimp only at h
                    refine y_iload (show decode cX12_unit 224 = .ok (.iload 5, 2) by decide +kernel) 0 rfl ?_
                    obtain ⟨σ41, e40, h⟩ := bndO_some h
                    refine y_callV (np := 2) (st := []) (as := [.inl y38, .inl y23]) 92 12 (sh_mo_emit e40) q7_227 q7_224 q7_226 qs6_1 q1_15 (by decide) rfl (by decide) rfl (by decide) (by decide +kernel) (by decide) rfl (Nat.le_of_ble_eq_true rfl) (show decode cX12_unit 226 = .ok (.invokevirtual 394, 3) by decide +kernel) rfl ?_
                    refine y_iconst (show decode cX12_unit 229 = .ok (.iconst 0, 1) by decide +kernel) rfl ?_
                    cases h
                    exact y_zret (show decode cX12_unit 230 = .ok (.ireturn, 1) by decide +kernel) rfl (Or.inl rfl)
                  by_cases c42 : ¬ r10 = 0
                  · rw [if_pos c42] at h
                    refine y_if_ne_t (tgt := 222) (show decode cX12_unit 214 = .ok (.ifCond .ne 8, 3) by decide +kernel) rfl c42 ?_
                    refine y_iload (show decode cX12_unit 222 = .ok (.iload 4, 2) by decide +kernel) 4 rfl ?_
                    refine y_pick [0] rfl ?_
                    exact hj39 _ h
                  · rw [if_neg c42] at h
                    refine y_if_ne_f (show decode cX12_unit 214 = .ok (.ifCond .ne 8, 3) by decide +kernel) c42 (by decide) ?_
                    refine y_bipush (show decode cX12_unit 217 = .ok (.bipush 110, 2) by decide +kernel) rfl rfl ?_
                    refine y_goto (tgt := 224) (show decode cX12_unit 219 = .ok (.goto 5, 3) by decide +kernel) rfl ?_
                    refine y_pick [0] rfl ?_
                    exact hj39 _ h
                · rw [if_neg c37] at h
                  refine y_if_eq_f (show decode cX12_unit 180 = .ok (.ifCond .eq 31, 3) by decide +kernel) c37 (by decide) ?_
                  refine y_pick [1, 2] rfl ?_
                  exact hj27 h
            by_cases c43 : ¬ r10 = 0
            · rw [if_pos c43] at h
              refine y_if_ne_t (tgt := 168) (show decode cX12_unit 158 = .ok (.ifCond .ne 10, 3) by decide +kernel) rfl c43 ?_
              refine y_iconst (show decode cX12_unit 168 = .ok (.iconst 0, 1) by decide +kernel) rfl ?_
              refine y_pick [0, 1, 2, 3] rfl ?_
              exact hj24 _ h
            · rw [if_neg c43] at h
              refine y_if_ne_f (show decode cX12_unit 158 = .ok (.ifCond .ne 10, 3) by decide +kernel) c43 (by decide) ?_
              refine y_aload_n (show decode cX12_unit 161 = .ok (.aload_n 0, 1) by decide +kernel) 0 rfl ?_
              refine y_getf 92 12 9 267 (by decide) rfl (by decide) (by decide) q6_56 (show decode cX12_unit 162 = .ok (.getfield 267, 3) by decide +kernel) (v := .inl (σ21 92 9)) rfl ?_
              refine y_goto (tgt := 169) (show decode cX12_unit 165 = .ok (.goto 4, 3) by decide +kernel) rfl ?_
              refine y_pick [0, 1, 2, 3] rfl ?_
              exact hj24 _ h
          by_cases c44 : y5 = 0
          · rw [if_pos c44] at h
            refine y_if_eq_t (tgt := 153) (show decode cX12_unit 146 = .ok (.ifCond .eq 7, 3) by decide +kernel) rfl c44 ?_
            refine y_iconst (show decode cX12_unit 153 = .ok (.iconst 1, 1) by decide +kernel) rfl ?_
            refine y_pick [0, 1, 2, 3] rfl ?_
            exact hj18 _ h
          · rw [if_neg c44] at h
            refine y_if_eq_f (show decode cX12_unit 146 = .ok (.ifCond .eq 7, 3) by decide +kernel) c44 (by decide) ?_
            refine y_iconst (show decode cX12_unit 149 = .ok (.iconst 0, 1) by decide +kernel) rfl ?_
            refine y_goto (tgt := 154) (show decode cX12_unit 150 = .ok (.goto 4, 3) by decide +kernel) rfl ?_
            refine y_pick [0, 1, 2, 3] rfl ?_
            exact hj18 _ h
        · rw [if_neg c15] at h
          refine y_if_ne_f (show decode cX12_unit 130 = .ok (.ifCond .ne 5, 3) by decide +kernel) c15 (by decide) ?_
          refine y_iconst (show decode cX12_unit 133 = .ok (.iconst 1, 1) by decide +kernel) rfl ?_
          cases h
          exact y_zret (show decode cX12_unit 134 = .ok (.ireturn, 1) by decide +kernel) rfl (Or.inr rfl)
      refine bnd_j (Q := fun j45 => j45 = some (ρ, τ) → Y E MX12_unit (yRm 2 0 0) (yQf E (150 + 0) 0 0 (some (.inl ρ)) (ov τ)) 122 [(0, .inr (.inr (92 + 1))), (2, .inl y5), (3, .inl r8), (4, .inl r10)] [] (ov σ) 150 0 0) (fun h => ?_) (fun j45 hj45 h => ?_) h
      · refine y_aload_n (show decode cX12_unit 122 = .ok (.aload_n 0, 1) by decide +kernel) 0 rfl ?_
        obtain ⟨σ47, e46, h⟩ := bndO_some h
        refine y_callV (np := 0) (st := []) (as := []) 92 12 (sh_mo_misplaced e46) q7_135 q7_132 q7_134 qs4_10 q1_15 (by decide) rfl (by decide) rfl (by decide) (by decide +kernel) (by decide) rfl (Nat.le_of_ble_eq_true rfl) (show decode cX12_unit 123 = .ok (.invokevirtual 284, 3) by decide +kernel) rfl ?_
        refine y_pick [0, 1, 2, 3] rfl ?_
        exact hj12 _ h
      refine bnd_j (Q := fun j48 => j48 = some (ρ, τ) → Y E MX12_unit (yRm 2 0 0) (yQf E (150 + 0) 0 0 (some (.inl ρ)) (ov τ)) 105 [(0, .inr (.inr (92 + 1))), (2, .inl y5), (3, .inl r8), (4, .inl r10)] [] (ov σ) 150 0 0) (fun h => ?_) (fun j48 hj48 h => ?_) h
      · refine y_iload_n (show decode cX12_unit 105 = .ok (.iload_n 2, 1) by decide +kernel) 1 rfl ?_
        refine bnd_j (Q := fun j49 => j49 = some (ρ, τ) → Y E MX12_unit (yRm 2 0 0) (yQf E (150 + 0) 0 0 (some (.inl ρ)) (ov τ)) 113 [(0, .inr (.inr (92 + 1))), (2, .inl y5), (3, .inl r8), (4, .inl r10)] [] (ov σ) 150 0 0) (fun h => ?_) (fun j49 hj49 h => ?_) h
        · refine y_aload_n (show decode cX12_unit 113 = .ok (.aload_n 0, 1) by decide +kernel) 0 rfl ?_
          refine y_getf 92 12 43 379 (by decide) rfl (by decide) (by decide) q6_90 (show decode cX12_unit 114 = .ok (.getfield 379, 3) by decide +kernel) (v := .inl (σ 92 43)) rfl ?_
          refine y_bipush (show decode cX12_unit 117 = .ok (.bipush 7, 2) by decide +kernel) rfl rfl ?_
          by_cases c50 : ¬ (σ 92 43) = 7
          · rw [if_pos c50] at h
            refine y_icmp_ne_t (tgt := 126) (show decode cX12_unit 119 = .ok (.if_icmp .ne 7, 3) by decide +kernel) rfl c50 ?_
            refine y_pick [0, 1, 2, 3] rfl ?_
            exact hj12 _ h
          · rw [if_neg c50] at h
            refine y_icmp_ne_f (show decode cX12_unit 119 = .ok (.if_icmp .ne 7, 3) by decide +kernel) c50 (by decide) ?_
            refine y_pick [0, 1, 2, 3] rfl ?_
            exact hj45 h
        by_cases c51 : ¬ y5 = 0
        · rw [if_pos c51] at h
          refine y_if_ne_t (tgt := 113) (show decode cX12_unit 106 = .ok (.ifCond .ne 7, 3) by decide +kernel) rfl c51 ?_
          refine y_pick [0, 1, 2, 3] rfl ?_
          exact hj49 h
        · rw [if_neg c51] at h
          refine y_if_ne_f (show decode cX12_unit 106 = .ok (.ifCond .ne 7, 3) by decide +kernel) c51 (by decide) ?_
          refine y_iload_n (show decode cX12_unit 109 = .ok (.iload_n 3, 1) by decide +kernel) 2 rfl ?_
          by_cases c52 : r8 = 0
          · rw [if_pos c52] at h
            refine y_if_eq_t (tgt := 126) (show decode cX12_unit 110 = .ok (.ifCond .eq 16, 3) by decide +kernel) rfl c52 ?_
            refine y_pick [0, 1, 2, 3] rfl ?_
            exact hj12 _ h
          · rw [if_neg c52] at h
            refine y_if_eq_f (show decode cX12_unit 110 = .ok (.ifCond .eq 16, 3) by decide +kernel) c52 (by decide) ?_
            refine y_pick [0, 1, 2, 3] rfl ?_
            exact hj49 h
      by_cases c53 : ¬ y5 = 0
      · rw [if_pos c53] at h
        refine y_if_ne_t (tgt := 105) (show decode cX12_unit 71 = .ok (.ifCond .ne 34, 3) by decide +kernel) rfl c53 ?_
        refine y_pick [3, 2, 1, 0] rfl ?_
        exact hj48 h
      · rw [if_neg c53] at h
        refine y_if_ne_f (show decode cX12_unit 71 = .ok (.ifCond .ne 34, 3) by decide +kernel) c53 (by decide) ?_
        refine y_iload (show decode cX12_unit 74 = .ok (.iload 4, 2) by decide +kernel) 0 rfl ?_
        refine bnd_j (Q := fun j54 => j54 = some (ρ, τ) → Y E MX12_unit (yRm 2 0 0) (yQf E (150 + 0) 0 0 (some (.inl ρ)) (ov τ)) 91 [(0, .inr (.inr (92 + 1))), (2, .inl y5), (3, .inl r8), (4, .inl r10)] [] (ov σ) 150 0 0) (fun h => ?_) (fun j54 hj54 h => ?_) h
        · refine y_aload_n (show decode cX12_unit 91 = .ok (.aload_n 0, 1) by decide +kernel) 0 rfl ?_
          refine y_getf 92 12 18 42 (by decide) rfl (by decide) (by decide) q6_65 (show decode cX12_unit 92 = .ok (.getfield 42, 3) by decide +kernel) (v := .inr (.inr (102 + 1))) rfl ?_
          refine y_aload_n (show decode cX12_unit 95 = .ok (.aload_n 0, 1) by decide +kernel) 0 rfl ?_
          refine y_getf 92 12 41 301 (by decide) rfl (by decide) (by decide) q6_88 (show decode cX12_unit 96 = .ok (.getfield 301, 3) by decide +kernel) (v := .inl (σ 92 41)) rfl ?_
          obtain ⟨c55, h⟩ := chkA_some h
          refine yo_iald 102 2 (by decide) rfl c55 (ov_at rfl) (show decode cX12_unit 99 = .ok (.iaload, 1) by decide +kernel) ?_
          refine y_bipush (show decode cX12_unit 100 = .ok (.bipush 40, 2) by decide +kernel) rfl rfl ?_
          by_cases c56 : (σ 102 ((σ 92 41)).toNat) = 40
          · rw [if_pos c56] at h
            refine y_icmp_eq_t (tgt := 122) (show decode cX12_unit 102 = .ok (.if_icmp .eq 20, 3) by decide +kernel) rfl c56 ?_
            refine y_pick [0, 1, 2, 3] rfl ?_
            exact hj45 h
          · rw [if_neg c56] at h
            refine y_icmp_eq_f (show decode cX12_unit 102 = .ok (.if_icmp .eq 20, 3) by decide +kernel) c56 (by decide) ?_
            refine y_pick [0, 1, 2, 3] rfl ?_
            exact hj48 h
        by_cases c57 : ¬ r10 = 0
        · rw [if_pos c57] at h
          refine y_if_ne_t (tgt := 91) (show decode cX12_unit 76 = .ok (.ifCond .ne 15, 3) by decide +kernel) rfl c57 ?_
          refine y_pick [3, 2, 1, 0] rfl ?_
          exact hj54 h
        · rw [if_neg c57] at h
          refine y_if_ne_f (show decode cX12_unit 76 = .ok (.ifCond .ne 15, 3) by decide +kernel) c57 (by decide) ?_
          refine y_aload_n (show decode cX12_unit 79 = .ok (.aload_n 0, 1) by decide +kernel) 3 rfl ?_
          refine y_getf 92 12 8 249 (by decide) rfl (by decide) (by decide) q6_55 (show decode cX12_unit 80 = .ok (.getfield 249, 3) by decide +kernel) (v := .inl (σ 92 8)) rfl ?_
          refine y_iconst (show decode cX12_unit 83 = .ok (.iconst 4, 1) by decide +kernel) rfl ?_
          by_cases c58 : (σ 92 8) = 4
          · rw [if_pos c58] at h
            refine y_icmp_eq_t (tgt := 91) (show decode cX12_unit 84 = .ok (.if_icmp .eq 7, 3) by decide +kernel) rfl c58 ?_
            refine y_pick [3, 2, 1, 0] rfl ?_
            exact hj54 h
          · rw [if_neg c58] at h
            refine y_icmp_eq_f (show decode cX12_unit 84 = .ok (.if_icmp .eq 7, 3) by decide +kernel) c58 (by decide) ?_
            refine y_iload_n (show decode cX12_unit 87 = .ok (.iload_n 3, 1) by decide +kernel) 1 rfl ?_
            by_cases c59 : r8 = 0
            · rw [if_pos c59] at h
              refine y_if_eq_t (tgt := 122) (show decode cX12_unit 88 = .ok (.ifCond .eq 34, 3) by decide +kernel) rfl c59 ?_
              refine y_pick [3, 2, 1, 0] rfl ?_
              exact hj45 h
            · rw [if_neg c59] at h
              refine y_if_eq_f (show decode cX12_unit 88 = .ok (.ifCond .eq 34, 3) by decide +kernel) c59 (by decide) ?_
              refine y_pick [3, 2, 1, 0] rfl ?_
              exact hj54 h
    by_cases c60 : y3 = 0
    · rw [if_pos c60] at h
      refine y_if_eq_t (tgt := 55) (show decode cX12_unit 38 = .ok (.ifCond .eq 17, 3) by decide +kernel) rfl c60 ?_
      refine y_iconst (show decode cX12_unit 55 = .ok (.iconst 0, 1) by decide +kernel) rfl ?_
      refine y_pick [1] rfl ?_
      exact hj6 _ h
    · rw [if_neg c60] at h
      refine y_if_eq_f (show decode cX12_unit 38 = .ok (.ifCond .eq 17, 3) by decide +kernel) c60 (by decide) ?_
      refine y_aload_n (show decode cX12_unit 41 = .ok (.aload_n 0, 1) by decide +kernel) 1 rfl ?_
      refine y_ldc2 (k := 7237492) (show decode cX12_unit 42 = .ok (.ldc2_w 233, 3) by decide +kernel) q7_107 rfl rfl ?_
      obtain ⟨r62, e61, h⟩ := bndO_some h
      refine y_callV (np := 1) (st := []) (as := [.inr (.inl 7237492)]) 92 12 (sh_mo_isWord e61) q7_131 q7_128 q7_130 qs4_9 q1_15 (by decide) rfl (by decide) rfl (by decide) (by decide +kernel) (by decide) rfl (Nat.le_of_ble_eq_true rfl) (show decode cX12_unit 45 = .ok (.invokevirtual 287, 3) by decide +kernel) rfl ?_
      by_cases c63 : r62 = 0
      · rw [if_pos c63] at h
        refine y_if_eq_t (tgt := 55) (show decode cX12_unit 48 = .ok (.ifCond .eq 7, 3) by decide +kernel) rfl c63 ?_
        refine y_iconst (show decode cX12_unit 55 = .ok (.iconst 0, 1) by decide +kernel) rfl ?_
        refine y_pick [1] rfl ?_
        exact hj6 _ h
      · rw [if_neg c63] at h
        refine y_if_eq_f (show decode cX12_unit 48 = .ok (.ifCond .eq 7, 3) by decide +kernel) c63 (by decide) ?_
        refine y_iconst (show decode cX12_unit 51 = .ok (.iconst 1, 1) by decide +kernel) rfl ?_
        refine y_goto (tgt := 56) (show decode cX12_unit 52 = .ok (.goto 4, 3) by decide +kernel) rfl ?_
        refine y_pick [1] rfl ?_
        exact hj6 _ h
  by_cases c64 : (σ 121 (((σ 92 44) - 1)).toNat) ≤ 3
  · rw [if_pos c64] at h
    refine y_icmp_le_t (tgt := 31) (show decode cX12_unit 12 = .ok (.if_icmp .le 19, 3) by decide +kernel) rfl c64 ?_
    refine y_iconst (show decode cX12_unit 31 = .ok (.iconst 1, 1) by decide +kernel) rfl ?_
    refine y_goto (tgt := 36) (show decode cX12_unit 32 = .ok (.goto 4, 3) by decide +kernel) rfl ?_
    refine y_pick [0] rfl ?_
    exact hj4 _ h
  · rw [if_neg c64] at h
    refine y_icmp_le_f (show decode cX12_unit 12 = .ok (.if_icmp .le 19, 3) by decide +kernel) c64 (by decide) ?_
    refine y_aload_n (show decode cX12_unit 15 = .ok (.aload_n 0, 1) by decide +kernel) 0 rfl ?_
    refine y_getf 92 12 37 101 (by decide) rfl (by decide) (by decide) q6_84 (show decode cX12_unit 16 = .ok (.getfield 101, 3) by decide +kernel) (v := .inr (.inr (121 + 1))) rfl ?_
    refine y_aload_n (show decode cX12_unit 19 = .ok (.aload_n 0, 1) by decide +kernel) 0 rfl ?_
    refine y_getf 92 12 44 376 (by decide) rfl (by decide) (by decide) q6_91 (show decode cX12_unit 20 = .ok (.getfield 376, 3) by decide +kernel) (v := .inl (σ 92 44)) rfl ?_
    refine y_iconst (show decode cX12_unit 23 = .ok (.iconst 1, 1) by decide +kernel) rfl ?_
    obtain ⟨c65, h⟩ := chkI_some h
    refine y_isub (show decode cX12_unit 24 = .ok (.isub, 1) by decide +kernel) c65 ?_
    obtain ⟨c66, h⟩ := chkA_some h
    refine yo_iald 121 90 (by decide) rfl c66 (ov_at rfl) (show decode cX12_unit 25 = .ok (.iaload, 1) by decide +kernel) ?_
    refine y_bipush (show decode cX12_unit 26 = .ok (.bipush 7, 2) by decide +kernel) rfl rfl ?_
    by_cases c67 : (σ 121 (((σ 92 44) - 1)).toNat) < 7
    · rw [if_pos c67] at h
      refine y_icmp_lt_t (tgt := 35) (show decode cX12_unit 28 = .ok (.if_icmp .lt 7, 3) by decide +kernel) rfl c67 ?_
      refine y_iconst (show decode cX12_unit 35 = .ok (.iconst 0, 1) by decide +kernel) rfl ?_
      refine y_pick [0] rfl ?_
      exact hj4 _ h
    · rw [if_neg c67] at h
      refine y_icmp_lt_f (show decode cX12_unit 28 = .ok (.if_icmp .lt 7, 3) by decide +kernel) c67 (by decide) ?_
      refine y_iconst (show decode cX12_unit 31 = .ok (.iconst 1, 1) by decide +kernel) rfl ?_
      refine y_goto (tgt := 36) (show decode cX12_unit 32 = .ok (.goto 4, 3) by decide +kernel) rfl ?_
      refine y_pick [0] rfl ?_
      exact hj4 _ h
abbrev MX12_rankHere : yM := (yX12_rankHere, cX12_rankHere, 1, some .int)
def mo_rankHere (σ : ySt) : Option (Int) :=
  bndO (mo_isWord 6385252 σ) fun r2 =>
  if r2 = 0 then
    bndO (mo_isWord 28530 σ) fun r5 =>
    if r5 = 0 then
      bndO (mo_is 60 σ) fun r8 =>
      if ¬ r8 = 0 then
        some 4
      else
        bndO (mo_is 62 σ) fun r11 =>
        if ¬ r11 = 0 then
          some 4
        else
          bndO (mo_is 61 σ) fun r14 =>
          if r14 = 0 then
            bndO (mo_is 43 σ) fun r17 =>
            if ¬ r17 = 0 then
              some 5
            else
              bndO (mo_is 45 σ) fun r20 =>
              if r20 = 0 then
                bndO (mo_is 42 σ) fun r23 =>
                if ¬ r23 = 0 then
                  some 6
                else
                  bndO (mo_is 47 σ) fun r26 =>
                  if r26 = 0 then
                    some 0
                  else
                    some 6
              else
                some 5
          else
            some 4
    else
      some 1
  else
    some 2
set_option maxHeartbeats 4000000 in
set_option maxRecDepth 10000 in
theorem sh_mo_rankHere {E : yE} {σ : ySt} {ρ : Int} (h : mo_rankHere σ = some ρ) : Con E MX12_rankHere 2 0 0 [.inr (.inr (92 + 1))] 150 (ov σ) (some (.inl ρ)) (ov σ) := by
  unfold mo_rankHere at h
  refine Con.ofY (by decide +kernel) (by simp [yWords, yCat]) (fun hok _ => ?_)
  show Y E MX12_rankHere (yRm 2 0 0) (yQf E (150 + 0) 0 0 (some (.inl ρ)) (ov σ)) 0 [(0, .inr (.inr (92 + 1)))] [] (ov σ) 150 0 0
  refine y_aload_n (show decode cX12_rankHere 0 = .ok (.aload_n 0, 1) by decide +kernel) 0 rfl ?_
  refine y_ldc2 (k := 6385252) (show decode cX12_rankHere 1 = .ok (.ldc2_w 229, 3) by decide +kernel) q7_105 rfl rfl ?_
  obtain ⟨r2, e1, h⟩ := bndO_some h
  refine y_callV (np := 1) (st := []) (as := [.inr (.inl 6385252)]) 92 12 (sh_mo_isWord e1) q7_131 q7_128 q7_130 qs4_9 q1_15 (by decide) rfl (by decide) rfl (by decide) (by decide +kernel) (by decide) rfl (Nat.le_of_ble_eq_true rfl) (show decode cX12_rankHere 4 = .ok (.invokevirtual 287, 3) by decide +kernel) rfl ?_
  by_cases c3 : r2 = 0
  · rw [if_pos c3] at h
    refine y_if_eq_t (tgt := 12) (show decode cX12_rankHere 7 = .ok (.ifCond .eq 5, 3) by decide +kernel) rfl c3 ?_
    refine y_aload_n (show decode cX12_rankHere 12 = .ok (.aload_n 0, 1) by decide +kernel) 0 rfl ?_
    refine y_ldc2 (k := 28530) (show decode cX12_rankHere 13 = .ok (.ldc2_w 231, 3) by decide +kernel) q7_106 rfl rfl ?_
    obtain ⟨r5, e4, h⟩ := bndO_some h
    refine y_callV (np := 1) (st := []) (as := [.inr (.inl 28530)]) 92 12 (sh_mo_isWord e4) q7_131 q7_128 q7_130 qs4_9 q1_15 (by decide) rfl (by decide) rfl (by decide) (by decide +kernel) (by decide) rfl (Nat.le_of_ble_eq_true rfl) (show decode cX12_rankHere 16 = .ok (.invokevirtual 287, 3) by decide +kernel) rfl ?_
    by_cases c6 : r5 = 0
    · rw [if_pos c6] at h
      refine y_if_eq_t (tgt := 24) (show decode cX12_rankHere 19 = .ok (.ifCond .eq 5, 3) by decide +kernel) rfl c6 ?_
      refine y_aload_n (show decode cX12_rankHere 24 = .ok (.aload_n 0, 1) by decide +kernel) 0 rfl ?_
      refine y_bipush (show decode cX12_rankHere 25 = .ok (.bipush 60, 2) by decide +kernel) rfl rfl ?_
      obtain ⟨r8, e7, h⟩ := bndO_some h
      refine y_callV (np := 1) (st := []) (as := [.inl 60]) 92 12 (sh_mo_is e7) q7_219 q7_216 q7_218 qs5_15 q1_15 (by decide) rfl (by decide) rfl (by decide) (by decide +kernel) (by decide) rfl (Nat.le_of_ble_eq_true rfl) (show decode cX12_rankHere 27 = .ok (.invokevirtual 341, 3) by decide +kernel) rfl ?_
      by_cases c9 : ¬ r8 = 0
      · rw [if_pos c9] at h
        refine y_if_ne_t (tgt := 51) (show decode cX12_rankHere 30 = .ok (.ifCond .ne 21, 3) by decide +kernel) rfl c9 ?_
        refine y_iconst (show decode cX12_rankHere 51 = .ok (.iconst 4, 1) by decide +kernel) rfl ?_
        cases h
        exact y_iret (show decode cX12_rankHere 52 = .ok (.ireturn, 1) by decide +kernel) rfl
      · rw [if_neg c9] at h
        refine y_if_ne_f (show decode cX12_rankHere 30 = .ok (.ifCond .ne 21, 3) by decide +kernel) c9 (by decide) ?_
        refine y_aload_n (show decode cX12_rankHere 33 = .ok (.aload_n 0, 1) by decide +kernel) 0 rfl ?_
        refine y_bipush (show decode cX12_rankHere 34 = .ok (.bipush 62, 2) by decide +kernel) rfl rfl ?_
        obtain ⟨r11, e10, h⟩ := bndO_some h
        refine y_callV (np := 1) (st := []) (as := [.inl 62]) 92 12 (sh_mo_is e10) q7_219 q7_216 q7_218 qs5_15 q1_15 (by decide) rfl (by decide) rfl (by decide) (by decide +kernel) (by decide) rfl (Nat.le_of_ble_eq_true rfl) (show decode cX12_rankHere 36 = .ok (.invokevirtual 341, 3) by decide +kernel) rfl ?_
        by_cases c12 : ¬ r11 = 0
        · rw [if_pos c12] at h
          refine y_if_ne_t (tgt := 51) (show decode cX12_rankHere 39 = .ok (.ifCond .ne 12, 3) by decide +kernel) rfl c12 ?_
          refine y_iconst (show decode cX12_rankHere 51 = .ok (.iconst 4, 1) by decide +kernel) rfl ?_
          cases h
          exact y_iret (show decode cX12_rankHere 52 = .ok (.ireturn, 1) by decide +kernel) rfl
        · rw [if_neg c12] at h
          refine y_if_ne_f (show decode cX12_rankHere 39 = .ok (.ifCond .ne 12, 3) by decide +kernel) c12 (by decide) ?_
          refine y_aload_n (show decode cX12_rankHere 42 = .ok (.aload_n 0, 1) by decide +kernel) 0 rfl ?_
          refine y_bipush (show decode cX12_rankHere 43 = .ok (.bipush 61, 2) by decide +kernel) rfl rfl ?_
          obtain ⟨r14, e13, h⟩ := bndO_some h
          refine y_callV (np := 1) (st := []) (as := [.inl 61]) 92 12 (sh_mo_is e13) q7_219 q7_216 q7_218 qs5_15 q1_15 (by decide) rfl (by decide) rfl (by decide) (by decide +kernel) (by decide) rfl (Nat.le_of_ble_eq_true rfl) (show decode cX12_rankHere 45 = .ok (.invokevirtual 341, 3) by decide +kernel) rfl ?_
          by_cases c15 : r14 = 0
          · rw [if_pos c15] at h
            refine y_if_eq_t (tgt := 53) (show decode cX12_rankHere 48 = .ok (.ifCond .eq 5, 3) by decide +kernel) rfl c15 ?_
            refine y_aload_n (show decode cX12_rankHere 53 = .ok (.aload_n 0, 1) by decide +kernel) 0 rfl ?_
            refine y_bipush (show decode cX12_rankHere 54 = .ok (.bipush 43, 2) by decide +kernel) rfl rfl ?_
            obtain ⟨r17, e16, h⟩ := bndO_some h
            refine y_callV (np := 1) (st := []) (as := [.inl 43]) 92 12 (sh_mo_is e16) q7_219 q7_216 q7_218 qs5_15 q1_15 (by decide) rfl (by decide) rfl (by decide) (by decide +kernel) (by decide) rfl (Nat.le_of_ble_eq_true rfl) (show decode cX12_rankHere 56 = .ok (.invokevirtual 341, 3) by decide +kernel) rfl ?_
            by_cases c18 : ¬ r17 = 0
            · rw [if_pos c18] at h
              refine y_if_ne_t (tgt := 71) (show decode cX12_rankHere 59 = .ok (.ifCond .ne 12, 3) by decide +kernel) rfl c18 ?_
              refine y_iconst (show decode cX12_rankHere 71 = .ok (.iconst 5, 1) by decide +kernel) rfl ?_
              cases h
              exact y_iret (show decode cX12_rankHere 72 = .ok (.ireturn, 1) by decide +kernel) rfl
            · rw [if_neg c18] at h
              refine y_if_ne_f (show decode cX12_rankHere 59 = .ok (.ifCond .ne 12, 3) by decide +kernel) c18 (by decide) ?_
              refine y_aload_n (show decode cX12_rankHere 62 = .ok (.aload_n 0, 1) by decide +kernel) 0 rfl ?_
              refine y_bipush (show decode cX12_rankHere 63 = .ok (.bipush 45, 2) by decide +kernel) rfl rfl ?_
              obtain ⟨r20, e19, h⟩ := bndO_some h
              refine y_callV (np := 1) (st := []) (as := [.inl 45]) 92 12 (sh_mo_is e19) q7_219 q7_216 q7_218 qs5_15 q1_15 (by decide) rfl (by decide) rfl (by decide) (by decide +kernel) (by decide) rfl (Nat.le_of_ble_eq_true rfl) (show decode cX12_rankHere 65 = .ok (.invokevirtual 341, 3) by decide +kernel) rfl ?_
              by_cases c21 : r20 = 0
              · rw [if_pos c21] at h
                refine y_if_eq_t (tgt := 73) (show decode cX12_rankHere 68 = .ok (.ifCond .eq 5, 3) by decide +kernel) rfl c21 ?_
                refine y_aload_n (show decode cX12_rankHere 73 = .ok (.aload_n 0, 1) by decide +kernel) 0 rfl ?_
                refine y_bipush (show decode cX12_rankHere 74 = .ok (.bipush 42, 2) by decide +kernel) rfl rfl ?_
                obtain ⟨r23, e22, h⟩ := bndO_some h
                refine y_callV (np := 1) (st := []) (as := [.inl 42]) 92 12 (sh_mo_is e22) q7_219 q7_216 q7_218 qs5_15 q1_15 (by decide) rfl (by decide) rfl (by decide) (by decide +kernel) (by decide) rfl (Nat.le_of_ble_eq_true rfl) (show decode cX12_rankHere 76 = .ok (.invokevirtual 341, 3) by decide +kernel) rfl ?_
                by_cases c24 : ¬ r23 = 0
                · rw [if_pos c24] at h
                  refine y_if_ne_t (tgt := 91) (show decode cX12_rankHere 79 = .ok (.ifCond .ne 12, 3) by decide +kernel) rfl c24 ?_
                  refine y_bipush (show decode cX12_rankHere 91 = .ok (.bipush 6, 2) by decide +kernel) rfl rfl ?_
                  refine y_goto (tgt := 97) (show decode cX12_rankHere 93 = .ok (.goto 4, 3) by decide +kernel) rfl ?_
                  cases h
                  exact y_iret (show decode cX12_rankHere 97 = .ok (.ireturn, 1) by decide +kernel) rfl
                · rw [if_neg c24] at h
                  refine y_if_ne_f (show decode cX12_rankHere 79 = .ok (.ifCond .ne 12, 3) by decide +kernel) c24 (by decide) ?_
                  refine y_aload_n (show decode cX12_rankHere 82 = .ok (.aload_n 0, 1) by decide +kernel) 0 rfl ?_
                  refine y_bipush (show decode cX12_rankHere 83 = .ok (.bipush 47, 2) by decide +kernel) rfl rfl ?_
                  obtain ⟨r26, e25, h⟩ := bndO_some h
                  refine y_callV (np := 1) (st := []) (as := [.inl 47]) 92 12 (sh_mo_is e25) q7_219 q7_216 q7_218 qs5_15 q1_15 (by decide) rfl (by decide) rfl (by decide) (by decide +kernel) (by decide) rfl (Nat.le_of_ble_eq_true rfl) (show decode cX12_rankHere 85 = .ok (.invokevirtual 341, 3) by decide +kernel) rfl ?_
                  by_cases c27 : r26 = 0
                  · rw [if_pos c27] at h
                    refine y_if_eq_t (tgt := 96) (show decode cX12_rankHere 88 = .ok (.ifCond .eq 8, 3) by decide +kernel) rfl c27 ?_
                    refine y_iconst (show decode cX12_rankHere 96 = .ok (.iconst 0, 1) by decide +kernel) rfl ?_
                    cases h
                    exact y_iret (show decode cX12_rankHere 97 = .ok (.ireturn, 1) by decide +kernel) rfl
                  · rw [if_neg c27] at h
                    refine y_if_eq_f (show decode cX12_rankHere 88 = .ok (.ifCond .eq 8, 3) by decide +kernel) c27 (by decide) ?_
                    refine y_bipush (show decode cX12_rankHere 91 = .ok (.bipush 6, 2) by decide +kernel) rfl rfl ?_
                    refine y_goto (tgt := 97) (show decode cX12_rankHere 93 = .ok (.goto 4, 3) by decide +kernel) rfl ?_
                    cases h
                    exact y_iret (show decode cX12_rankHere 97 = .ok (.ireturn, 1) by decide +kernel) rfl
              · rw [if_neg c21] at h
                refine y_if_eq_f (show decode cX12_rankHere 68 = .ok (.ifCond .eq 5, 3) by decide +kernel) c21 (by decide) ?_
                refine y_iconst (show decode cX12_rankHere 71 = .ok (.iconst 5, 1) by decide +kernel) rfl ?_
                cases h
                exact y_iret (show decode cX12_rankHere 72 = .ok (.ireturn, 1) by decide +kernel) rfl
          · rw [if_neg c15] at h
            refine y_if_eq_f (show decode cX12_rankHere 48 = .ok (.ifCond .eq 5, 3) by decide +kernel) c15 (by decide) ?_
            refine y_iconst (show decode cX12_rankHere 51 = .ok (.iconst 4, 1) by decide +kernel) rfl ?_
            cases h
            exact y_iret (show decode cX12_rankHere 52 = .ok (.ireturn, 1) by decide +kernel) rfl
    · rw [if_neg c6] at h
      refine y_if_eq_f (show decode cX12_rankHere 19 = .ok (.ifCond .eq 5, 3) by decide +kernel) c6 (by decide) ?_
      refine y_iconst (show decode cX12_rankHere 22 = .ok (.iconst 1, 1) by decide +kernel) rfl ?_
      cases h
      exact y_iret (show decode cX12_rankHere 23 = .ok (.ireturn, 1) by decide +kernel) rfl
  · rw [if_neg c3] at h
    refine y_if_eq_f (show decode cX12_rankHere 7 = .ok (.ifCond .eq 5, 3) by decide +kernel) c3 (by decide) ?_
    refine y_iconst (show decode cX12_rankHere 10 = .ok (.iconst 2, 1) by decide +kernel) rfl ?_
    cases h
    exact y_iret (show decode cX12_rankHere 11 = .ok (.ireturn, 1) by decide +kernel) rfl
abbrev MX12_isCompared : yM := (yX12_isCompared, cX12_isCompared, 2, some .boolean)
def mo_isCompared (N : Nat) (σ : ySt) : Option (Int) :=
  chkI ((σ 92 44) - 1) <|
  loop1 (fun k3 x2 =>
    chkA 90 x2 <|
    bnd (chkI (x2 + (-1)) <|
      k3 (x2 + (-1))) fun j5 =>
    if (σ 121 (x2).toNat) = 5 then
      j5
    else
      chkA 90 x2 <|
      if ¬ (σ 121 (x2).toNat) = 6 then
        chkA 90 x2 <|
        if ¬ (σ 121 (x2).toNat) = 4 then
          some 0
        else
          some 1
      else
        j5) N ((σ 92 44) - 1)
set_option maxHeartbeats 4000000 in
set_option maxRecDepth 10000 in
theorem sh_mo_isCompared {E : yE} {N : Nat} {σ : ySt} {ρ : Int} (h : mo_isCompared N σ = some ρ) : Con E MX12_isCompared 0 0 0 [.inr (.inr (92 + 1))] 150 (ov σ) (some (.inl ρ)) (ov σ) := by
  unfold mo_isCompared at h
  refine Con.ofY (by decide +kernel) (by simp [yWords, yCat]) (fun hok _ => ?_)
  show Y E MX12_isCompared (yRm 0 0 0) (yQf E (150 + 0) 0 0 (some (.inl ρ)) (ov σ)) 0 [(0, .inr (.inr (92 + 1)))] [] (ov σ) 150 0 0
  refine y_aload_n (show decode cX12_isCompared 0 = .ok (.aload_n 0, 1) by decide +kernel) 0 rfl ?_
  refine y_getf 92 12 44 376 (by decide) rfl (by decide) (by decide) q6_91 (show decode cX12_isCompared 1 = .ok (.getfield 376, 3) by decide +kernel) (v := .inl (σ 92 44)) rfl ?_
  refine y_iconst (show decode cX12_isCompared 4 = .ok (.iconst 1, 1) by decide +kernel) rfl ?_
  obtain ⟨c1, h⟩ := chkI_some h
  refine y_isub (show decode cX12_isCompared 5 = .ok (.isub, 1) by decide +kernel) c1 ?_
  refine y_istore_n (show decode cX12_isCompared 6 = .ok (.istore_n 1, 1) by decide +kernel) rfl (L1 := [(1, .inl ((σ 92 44) - 1)), (0, .inr (.inr (92 + 1)))]) rfl ?_
  refine y_pick [1, 0] rfl ?_
  refine loop1_ind (P := fun x2 => Y E MX12_isCompared (yRm 0 0 0) (yQf E (150 + 0) 0 0 (some (.inl ρ)) (ov σ)) 7 [(0, .inr (.inr (92 + 1))), (1, .inl x2)] [] (ov σ) 150 0 0) (fun k3 hk3 x2 h => ?_) _ _  h
  refine y_aload_n (show decode cX12_isCompared 7 = .ok (.aload_n 0, 1) by decide +kernel) 0 rfl ?_
  refine y_getf 92 12 37 101 (by decide) rfl (by decide) (by decide) q6_84 (show decode cX12_isCompared 8 = .ok (.getfield 101, 3) by decide +kernel) (v := .inr (.inr (121 + 1))) rfl ?_
  refine y_iload_n (show decode cX12_isCompared 11 = .ok (.iload_n 1, 1) by decide +kernel) 1 rfl ?_
  obtain ⟨c4, h⟩ := chkA_some h
  refine yo_iald 121 90 (by decide) rfl c4 (ov_at rfl) (show decode cX12_isCompared 12 = .ok (.iaload, 1) by decide +kernel) ?_
  refine y_iconst (show decode cX12_isCompared 13 = .ok (.iconst 5, 1) by decide +kernel) rfl ?_
  refine bnd_j (Q := fun j5 => j5 = some ρ → Y E MX12_isCompared (yRm 0 0 0) (yQf E (150 + 0) 0 0 (some (.inl ρ)) (ov σ)) 28 [(0, .inr (.inr (92 + 1))), (1, .inl x2)] [] (ov σ) 150 0 0) (fun h => ?_) (fun j5 hj5 h => ?_) h
  · obtain ⟨c6, h⟩ := chkI_some h
    refine y_iinc (show decode cX12_isCompared 28 = .ok (.iinc 1 (-1), 3) by decide +kernel) 1 rfl c6 rfl (L1 := [(1, .inl (x2 + (-1))), (0, .inr (.inr (92 + 1)))]) rfl ?_
    refine y_goto (tgt := 7) (show decode cX12_isCompared 31 = .ok (.goto (-24), 3) by decide +kernel) rfl ?_
    refine y_pick [1, 0] rfl ?_
    exact hk3 _ h
  by_cases c7 : (σ 121 (x2).toNat) = 5
  · rw [if_pos c7] at h
    refine y_icmp_eq_t (tgt := 28) (show decode cX12_isCompared 14 = .ok (.if_icmp .eq 14, 3) by decide +kernel) rfl c7 ?_
    refine y_pick [0, 1] rfl ?_
    exact hj5 h
  · rw [if_neg c7] at h
    refine y_icmp_eq_f (show decode cX12_isCompared 14 = .ok (.if_icmp .eq 14, 3) by decide +kernel) c7 (by decide) ?_
    refine y_aload_n (show decode cX12_isCompared 17 = .ok (.aload_n 0, 1) by decide +kernel) 0 rfl ?_
    refine y_getf 92 12 37 101 (by decide) rfl (by decide) (by decide) q6_84 (show decode cX12_isCompared 18 = .ok (.getfield 101, 3) by decide +kernel) (v := .inr (.inr (121 + 1))) rfl ?_
    refine y_iload_n (show decode cX12_isCompared 21 = .ok (.iload_n 1, 1) by decide +kernel) 1 rfl ?_
    obtain ⟨c8, h⟩ := chkA_some h
    refine yo_iald 121 90 (by decide) rfl c8 (ov_at rfl) (show decode cX12_isCompared 22 = .ok (.iaload, 1) by decide +kernel) ?_
    refine y_bipush (show decode cX12_isCompared 23 = .ok (.bipush 6, 2) by decide +kernel) rfl rfl ?_
    by_cases c9 : ¬ (σ 121 (x2).toNat) = 6
    · rw [if_pos c9] at h
      refine y_icmp_ne_t (tgt := 34) (show decode cX12_isCompared 25 = .ok (.if_icmp .ne 9, 3) by decide +kernel) rfl c9 ?_
      refine y_aload_n (show decode cX12_isCompared 34 = .ok (.aload_n 0, 1) by decide +kernel) 0 rfl ?_
      refine y_getf 92 12 37 101 (by decide) rfl (by decide) (by decide) q6_84 (show decode cX12_isCompared 35 = .ok (.getfield 101, 3) by decide +kernel) (v := .inr (.inr (121 + 1))) rfl ?_
      refine y_iload_n (show decode cX12_isCompared 38 = .ok (.iload_n 1, 1) by decide +kernel) 1 rfl ?_
      obtain ⟨c10, h⟩ := chkA_some h
      refine yo_iald 121 90 (by decide) rfl c10 (ov_at rfl) (show decode cX12_isCompared 39 = .ok (.iaload, 1) by decide +kernel) ?_
      refine y_iconst (show decode cX12_isCompared 40 = .ok (.iconst 4, 1) by decide +kernel) rfl ?_
      by_cases c11 : ¬ (σ 121 (x2).toNat) = 4
      · rw [if_pos c11] at h
        refine y_icmp_ne_t (tgt := 48) (show decode cX12_isCompared 41 = .ok (.if_icmp .ne 7, 3) by decide +kernel) rfl c11 ?_
        refine y_iconst (show decode cX12_isCompared 48 = .ok (.iconst 0, 1) by decide +kernel) rfl ?_
        cases h
        exact y_zret (show decode cX12_isCompared 49 = .ok (.ireturn, 1) by decide +kernel) rfl (Or.inl rfl)
      · rw [if_neg c11] at h
        refine y_icmp_ne_f (show decode cX12_isCompared 41 = .ok (.if_icmp .ne 7, 3) by decide +kernel) c11 (by decide) ?_
        refine y_iconst (show decode cX12_isCompared 44 = .ok (.iconst 1, 1) by decide +kernel) rfl ?_
        refine y_goto (tgt := 49) (show decode cX12_isCompared 45 = .ok (.goto 4, 3) by decide +kernel) rfl ?_
        cases h
        exact y_zret (show decode cX12_isCompared 49 = .ok (.ireturn, 1) by decide +kernel) rfl (Or.inr rfl)
    · rw [if_neg c9] at h
      refine y_icmp_ne_f (show decode cX12_isCompared 25 = .ok (.if_icmp .ne 9, 3) by decide +kernel) c9 (by decide) ?_
      refine y_pick [0, 1] rfl ?_
      exact hj5 h
abbrev MX12_behindUnit : yM := (yX12_behindUnit, cX12_behindUnit, 2, some .boolean)
def mo_behindUnit (N : Nat) (σ : ySt) : Option (Int × ySt) :=
  bndO (mo_rankHere σ) fun r2 =>
  if ¬ r2 = 4 then
    loopS0 (fun k5 σ4 =>
      chkI ((σ4 92 44) - 1) <|
      chkA 90 ((σ4 92 44) - 1) <|
      bnd (if r2 ≤ 0 then
          chkI ((σ4 92 44) - 1) <|
          bnd (yset σ4 92 44 ((σ4 92 44) - 1)) fun σ11 =>
          chkA 90 (σ11 92 44) <|
          if ¬ (σ11 121 ((σ11 92 44)).toNat) = 7 then
            some (0, σ11)
          else
            chkI ((σ11 92 43) - 1) <|
            bnd (yset σ11 92 43 ((σ11 92 43) - 1)) fun σ16 =>
            bndO (mo_is 41 σ16) fun r19 =>
            bndO (mo_must N r19 σ16) fun σ21 =>
            some (0, σ21)
        else
          bnd (fun (y22 : Int) =>
            bndO (mo_pushE r2 y22 σ4) fun σ25 =>
            bndO (mo_goOn N σ25) fun σ27 =>
            some (1, σ27)) fun j23 =>
          if ¬ r2 = 2 then
            if ¬ r2 = 1 then
              bndO (mo_sign (σ4 92 6) σ4) fun r31 =>
              j23 r31
            else
              j23 124
          else
            j23 38) fun j8 =>
      if (σ4 121 (((σ4 92 44) - 1)).toNat) > 6 then
        j8
      else
        chkI ((σ4 92 44) - 1) <|
        chkA 90 ((σ4 92 44) - 1) <|
        if (σ4 121 (((σ4 92 44) - 1)).toNat) < r2 then
          j8
        else
          chkI ((σ4 92 44) - 1) <|
          bnd (yset σ4 92 44 ((σ4 92 44) - 1)) fun σ37 =>
          chkA 90 (σ37 92 44) <|
          bnd (fun (σ40 : ySt) =>
            chkA 90 (σ40 92 44) <|
            bndO (mo_emit (σ40 122 ((σ40 92 44)).toNat) 0 σ40) fun σ44 =>
            k5 σ44) fun j41 =>
          if ¬ (σ37 121 ((σ37 92 44)).toNat) = 3 then
            j41 σ37
          else
            chkI ((σ37 92 43) - 1) <|
            bnd (yset σ37 92 43 ((σ37 92 43) - 1)) fun σ47 =>
            j41 σ47) N σ
  else
    bndO (mo_isCompared N σ) fun r50 =>
    if r50 = 0 then
      loopS0 (fun k53 σ52 =>
        chkI ((σ52 92 44) - 1) <|
        chkA 90 ((σ52 92 44) - 1) <|
        bnd (if r2 ≤ 0 then
            chkI ((σ52 92 44) - 1) <|
            bnd (yset σ52 92 44 ((σ52 92 44) - 1)) fun σ59 =>
            chkA 90 (σ59 92 44) <|
            if ¬ (σ59 121 ((σ59 92 44)).toNat) = 7 then
              some (0, σ59)
            else
              chkI ((σ59 92 43) - 1) <|
              bnd (yset σ59 92 43 ((σ59 92 43) - 1)) fun σ64 =>
              bndO (mo_is 41 σ64) fun r67 =>
              bndO (mo_must N r67 σ64) fun σ69 =>
              some (0, σ69)
          else
            bnd (fun (y70 : Int) =>
              bndO (mo_pushE r2 y70 σ52) fun σ73 =>
              bndO (mo_goOn N σ73) fun σ75 =>
              some (1, σ75)) fun j71 =>
            if ¬ r2 = 2 then
              if ¬ r2 = 1 then
                bndO (mo_sign (σ52 92 6) σ52) fun r79 =>
                j71 r79
              else
                j71 124
            else
              j71 38) fun j56 =>
        if (σ52 121 (((σ52 92 44) - 1)).toNat) > 6 then
          j56
        else
          chkI ((σ52 92 44) - 1) <|
          chkA 90 ((σ52 92 44) - 1) <|
          if (σ52 121 (((σ52 92 44) - 1)).toNat) < r2 then
            j56
          else
            chkI ((σ52 92 44) - 1) <|
            bnd (yset σ52 92 44 ((σ52 92 44) - 1)) fun σ85 =>
            chkA 90 (σ85 92 44) <|
            bnd (fun (σ88 : ySt) =>
              chkA 90 (σ88 92 44) <|
              bndO (mo_emit (σ88 122 ((σ88 92 44)).toNat) 0 σ88) fun σ92 =>
              k53 σ92) fun j89 =>
            if ¬ (σ85 121 ((σ85 92 44)).toNat) = 3 then
              j89 σ85
            else
              chkI ((σ85 92 43) - 1) <|
              bnd (yset σ85 92 43 ((σ85 92 43) - 1)) fun σ95 =>
              j89 σ95) N σ
    else
      bndO (mo_misplaced σ) fun σ98 =>
      some (1, σ98)
set_option maxHeartbeats 4000000 in
set_option maxRecDepth 10000 in
theorem sh_mo_behindUnit {E : yE} {N : Nat} {σ : ySt} {ρ : Int} {τ : ySt} (h : mo_behindUnit N σ = some (ρ, τ)) : Con E MX12_behindUnit 3 0 0 [.inr (.inr (92 + 1))] 150 (ov σ) (some (.inl ρ)) (ov τ) := by
  unfold mo_behindUnit at h
  refine Con.ofY (by decide +kernel) (by simp [yWords, yCat]) (fun hok _ => ?_)
  show Y E MX12_behindUnit (yRm 3 0 0) (yQf E (150 + 0) 0 0 (some (.inl ρ)) (ov τ)) 0 [(0, .inr (.inr (92 + 1)))] [] (ov σ) 150 0 0
  refine y_aload_n (show decode cX12_behindUnit 0 = .ok (.aload_n 0, 1) by decide +kernel) 0 rfl ?_
  obtain ⟨r2, e1, h⟩ := bndO_some h
  refine y_callV (np := 0) (st := []) (as := []) 92 12 (sh_mo_rankHere e1) q7_235 q7_232 q7_234 qs6_3 q1_15 (by decide) rfl (by decide) rfl (by decide) (by decide +kernel) (by decide) rfl (Nat.le_of_ble_eq_true rfl) (show decode cX12_behindUnit 1 = .ok (.invokevirtual 397, 3) by decide +kernel) rfl ?_
  refine y_istore_n (show decode cX12_behindUnit 4 = .ok (.istore_n 1, 1) by decide +kernel) rfl (L1 := [(1, .inl r2), (0, .inr (.inr (92 + 1)))]) rfl ?_
  refine y_iload_n (show decode cX12_behindUnit 5 = .ok (.iload_n 1, 1) by decide +kernel) 0 rfl ?_
  refine y_iconst (show decode cX12_behindUnit 6 = .ok (.iconst 4, 1) by decide +kernel) rfl ?_
  by_cases c3 : ¬ r2 = 4
  · rw [if_pos c3] at h
    refine y_icmp_ne_t (tgt := 23) (show decode cX12_behindUnit 7 = .ok (.if_icmp .ne 16, 3) by decide +kernel) rfl c3 ?_
    refine y_pick [1, 0] rfl ?_
    refine loopS0_ind (P := fun σ4 => Y E MX12_behindUnit (yRm 3 0 0) (yQf E (150 + 0) 0 0 (some (.inl ρ)) (ov τ)) 23 [(0, .inr (.inr (92 + 1))), (1, .inl r2)] [] (ov σ4) 150 0 0) (fun k5 hk5 σ4 h => ?_) _ _  h
    refine y_aload_n (show decode cX12_behindUnit 23 = .ok (.aload_n 0, 1) by decide +kernel) 0 rfl ?_
    refine y_getf 92 12 37 101 (by decide) rfl (by decide) (by decide) q6_84 (show decode cX12_behindUnit 24 = .ok (.getfield 101, 3) by decide +kernel) (v := .inr (.inr (121 + 1))) rfl ?_
    refine y_aload_n (show decode cX12_behindUnit 27 = .ok (.aload_n 0, 1) by decide +kernel) 0 rfl ?_
    refine y_getf 92 12 44 376 (by decide) rfl (by decide) (by decide) q6_91 (show decode cX12_behindUnit 28 = .ok (.getfield 376, 3) by decide +kernel) (v := .inl (σ4 92 44)) rfl ?_
    refine y_iconst (show decode cX12_behindUnit 31 = .ok (.iconst 1, 1) by decide +kernel) rfl ?_
    obtain ⟨c6, h⟩ := chkI_some h
    refine y_isub (show decode cX12_behindUnit 32 = .ok (.isub, 1) by decide +kernel) c6 ?_
    obtain ⟨c7, h⟩ := chkA_some h
    refine yo_iald 121 90 (by decide) rfl c7 (ov_at rfl) (show decode cX12_behindUnit 33 = .ok (.iaload, 1) by decide +kernel) ?_
    refine y_bipush (show decode cX12_behindUnit 34 = .ok (.bipush 6, 2) by decide +kernel) rfl rfl ?_
    refine bnd_j (Q := fun j8 => j8 = some (ρ, τ) → Y E MX12_behindUnit (yRm 3 0 0) (yQf E (150 + 0) 0 0 (some (.inl ρ)) (ov τ)) 104 [(0, .inr (.inr (92 + 1))), (1, .inl r2)] [] (ov σ4) 150 0 0) (fun h => ?_) (fun j8 hj8 h => ?_) h
    · refine y_iload_n (show decode cX12_behindUnit 104 = .ok (.iload_n 1, 1) by decide +kernel) 1 rfl ?_
      by_cases c9 : r2 ≤ 0
      · rw [if_pos c9] at h
        refine y_if_le_t (tgt := 147) (show decode cX12_behindUnit 105 = .ok (.ifCond .le 42, 3) by decide +kernel) rfl c9 ?_
        refine y_aload_n (show decode cX12_behindUnit 147 = .ok (.aload_n 0, 1) by decide +kernel) 0 rfl ?_
        refine y_dup (show decode cX12_behindUnit 148 = .ok (.dup, 1) by decide +kernel) rfl ?_
        refine y_getf 92 12 44 376 (by decide) rfl (by decide) (by decide) q6_91 (show decode cX12_behindUnit 149 = .ok (.getfield 376, 3) by decide +kernel) (v := .inl (σ4 92 44)) rfl ?_
        refine y_iconst (show decode cX12_behindUnit 152 = .ok (.iconst 1, 1) by decide +kernel) rfl ?_
        obtain ⟨c10, h⟩ := chkI_some h
        refine y_isub (show decode cX12_behindUnit 153 = .ok (.isub, 1) by decide +kernel) c10 ?_
        obtain ⟨σ11, e12, h⟩ := bnd_i h
        refine yo_putI 92 12 44 376 (by decide) rfl (by decide) (by decide) q6_91 rfl (show decode cX12_behindUnit 154 = .ok (.putfield 376, 3) by decide +kernel) rfl rfl (ov_set1 e12 rfl) ?_
        refine y_aload_n (show decode cX12_behindUnit 157 = .ok (.aload_n 0, 1) by decide +kernel) 0 rfl ?_
        refine y_getf 92 12 37 101 (by decide) rfl (by decide) (by decide) q6_84 (show decode cX12_behindUnit 158 = .ok (.getfield 101, 3) by decide +kernel) (v := .inr (.inr (121 + 1))) rfl ?_
        refine y_aload_n (show decode cX12_behindUnit 161 = .ok (.aload_n 0, 1) by decide +kernel) 0 rfl ?_
        refine y_getf 92 12 44 376 (by decide) rfl (by decide) (by decide) q6_91 (show decode cX12_behindUnit 162 = .ok (.getfield 376, 3) by decide +kernel) (v := .inl (σ11 92 44)) rfl ?_
        obtain ⟨c13, h⟩ := chkA_some h
        refine yo_iald 121 90 (by decide) rfl c13 (ov_at rfl) (show decode cX12_behindUnit 165 = .ok (.iaload, 1) by decide +kernel) ?_
        refine y_bipush (show decode cX12_behindUnit 166 = .ok (.bipush 7, 2) by decide +kernel) rfl rfl ?_
        by_cases c14 : ¬ (σ11 121 ((σ11 92 44)).toNat) = 7
        · rw [if_pos c14] at h
          refine y_icmp_ne_t (tgt := 191) (show decode cX12_behindUnit 168 = .ok (.if_icmp .ne 23, 3) by decide +kernel) rfl c14 ?_
          refine y_iconst (show decode cX12_behindUnit 191 = .ok (.iconst 0, 1) by decide +kernel) rfl ?_
          cases h
          exact y_zret (show decode cX12_behindUnit 192 = .ok (.ireturn, 1) by decide +kernel) rfl (Or.inl rfl)
        · rw [if_neg c14] at h
          refine y_icmp_ne_f (show decode cX12_behindUnit 168 = .ok (.if_icmp .ne 23, 3) by decide +kernel) c14 (by decide) ?_
          refine y_aload_n (show decode cX12_behindUnit 171 = .ok (.aload_n 0, 1) by decide +kernel) 0 rfl ?_
          refine y_dup (show decode cX12_behindUnit 172 = .ok (.dup, 1) by decide +kernel) rfl ?_
          refine y_getf 92 12 43 379 (by decide) rfl (by decide) (by decide) q6_90 (show decode cX12_behindUnit 173 = .ok (.getfield 379, 3) by decide +kernel) (v := .inl (σ11 92 43)) rfl ?_
          refine y_iconst (show decode cX12_behindUnit 176 = .ok (.iconst 1, 1) by decide +kernel) rfl ?_
          obtain ⟨c15, h⟩ := chkI_some h
          refine y_isub (show decode cX12_behindUnit 177 = .ok (.isub, 1) by decide +kernel) c15 ?_
          obtain ⟨σ16, e17, h⟩ := bnd_i h
          refine yo_putI 92 12 43 379 (by decide) rfl (by decide) (by decide) q6_90 rfl (show decode cX12_behindUnit 178 = .ok (.putfield 379, 3) by decide +kernel) rfl rfl (ov_set1 e17 rfl) ?_
          refine y_aload_n (show decode cX12_behindUnit 181 = .ok (.aload_n 0, 1) by decide +kernel) 0 rfl ?_
          refine y_aload_n (show decode cX12_behindUnit 182 = .ok (.aload_n 0, 1) by decide +kernel) 0 rfl ?_
          refine y_bipush (show decode cX12_behindUnit 183 = .ok (.bipush 41, 2) by decide +kernel) rfl rfl ?_
          obtain ⟨r19, e18, h⟩ := bndO_some h
          refine y_callV (np := 1) (st := [.inr (.inr (92 + 1))]) (as := [.inl 41]) 92 12 (sh_mo_is e18) q7_219 q7_216 q7_218 qs5_15 q1_15 (by decide) rfl (by decide) rfl (by decide) (by decide +kernel) (by decide) rfl (Nat.le_of_ble_eq_true rfl) (show decode cX12_behindUnit 185 = .ok (.invokevirtual 341, 3) by decide +kernel) rfl ?_
          obtain ⟨σ21, e20, h⟩ := bndO_some h
          refine y_callV (np := 1) (st := []) (as := [.inl r19]) 92 12 (sh_mo_must e20) q7_171 q7_168 q7_170 qs5_3 q1_15 (by decide) rfl (by decide) rfl (by decide) (by decide +kernel) (by decide) rfl (Nat.le_of_ble_eq_true rfl) (show decode cX12_behindUnit 188 = .ok (.invokevirtual 290, 3) by decide +kernel) rfl ?_
          refine y_iconst (show decode cX12_behindUnit 191 = .ok (.iconst 0, 1) by decide +kernel) rfl ?_
          cases h
          exact y_zret (show decode cX12_behindUnit 192 = .ok (.ireturn, 1) by decide +kernel) rfl (Or.inl rfl)
      · rw [if_neg c9] at h
        refine y_if_le_f (show decode cX12_behindUnit 105 = .ok (.ifCond .le 42, 3) by decide +kernel) c9 (by decide) ?_
        refine y_aload_n (show decode cX12_behindUnit 108 = .ok (.aload_n 0, 1) by decide +kernel) 0 rfl ?_
        refine y_iload_n (show decode cX12_behindUnit 109 = .ok (.iload_n 1, 1) by decide +kernel) 1 rfl ?_
        refine y_iload_n (show decode cX12_behindUnit 110 = .ok (.iload_n 1, 1) by decide +kernel) 1 rfl ?_
        refine y_iconst (show decode cX12_behindUnit 111 = .ok (.iconst 2, 1) by decide +kernel) rfl ?_
        refine bnd_j (Q := fun j23 => ∀ (y22 : Int), j23 y22 = some (ρ, τ) → Y E MX12_behindUnit (yRm 3 0 0) (yQf E (150 + 0) 0 0 (some (.inl ρ)) (ov τ)) 138 [(0, .inr (.inr (92 + 1)))] [.inl y22, .inl r2, .inr (.inr (92 + 1))] (ov σ4) 150 0 0) (fun y22 h => ?_) (fun j23 hj23 h => ?_) h
        · dsimp only at h
          obtain ⟨σ25, e24, h⟩ := bndO_some h
          refine y_callV (np := 2) (st := []) (as := [.inl r2, .inl y22]) 92 12 (sh_mo_pushE e24) q7_211 q7_208 q7_210 qs5_13 q1_15 (by decide) rfl (by decide) rfl (by decide) (by decide +kernel) (by decide) rfl (Nat.le_of_ble_eq_true rfl) (show decode cX12_behindUnit 138 = .ok (.invokevirtual 382, 3) by decide +kernel) rfl ?_
          refine y_aload_n (show decode cX12_behindUnit 141 = .ok (.aload_n 0, 1) by decide +kernel) 0 rfl ?_
          obtain ⟨σ27, e26, h⟩ := bndO_some h
          refine y_callV (np := 0) (st := []) (as := []) 92 12 (sh_mo_goOn e26) q7_80 q7_77 q7_79 qs4_4 q1_15 (by decide) rfl (by decide) rfl (by decide) (by decide +kernel) (by decide) rfl (Nat.le_of_ble_eq_true rfl) (show decode cX12_behindUnit 142 = .ok (.invokevirtual 281, 3) by decide +kernel) rfl ?_
          refine y_iconst (show decode cX12_behindUnit 145 = .ok (.iconst 1, 1) by decide +kernel) rfl ?_
          cases h
          exact y_zret (show decode cX12_behindUnit 146 = .ok (.ireturn, 1) by decide +kernel) rfl (Or.inr rfl)
        by_cases c28 : ¬ r2 = 2
        · rw [if_pos c28] at h
          refine y_icmp_ne_t (tgt := 120) (show decode cX12_behindUnit 112 = .ok (.if_icmp .ne 8, 3) by decide +kernel) rfl c28 ?_
          refine y_iload_n (show decode cX12_behindUnit 120 = .ok (.iload_n 1, 1) by decide +kernel) 1 rfl ?_
          refine y_iconst (show decode cX12_behindUnit 121 = .ok (.iconst 1, 1) by decide +kernel) rfl ?_
          by_cases c29 : ¬ r2 = 1
          · rw [if_pos c29] at h
            refine y_icmp_ne_t (tgt := 130) (show decode cX12_behindUnit 122 = .ok (.if_icmp .ne 8, 3) by decide +kernel) rfl c29 ?_
            refine y_aload_n (show decode cX12_behindUnit 130 = .ok (.aload_n 0, 1) by decide +kernel) 0 rfl ?_
            refine y_aload_n (show decode cX12_behindUnit 131 = .ok (.aload_n 0, 1) by decide +kernel) 0 rfl ?_
            refine y_getf 92 12 6 242 (by decide) rfl (by decide) (by decide) q6_53 (show decode cX12_behindUnit 132 = .ok (.getfield 242, 3) by decide +kernel) (v := .inl (σ4 92 6)) rfl ?_
            obtain ⟨r31, e30, h⟩ := bndO_some h
            refine y_callV (np := 1) (st := [.inl r2, .inr (.inr (92 + 1))]) (as := [.inl (σ4 92 6)]) 92 12 (sh_mo_sign e30) q7_84 q7_81 q7_83 qs4_5 q1_15 (by decide) rfl (by decide) rfl (by decide) (by decide +kernel) (by decide) rfl (Nat.le_of_ble_eq_true rfl) (show decode cX12_behindUnit 135 = .ok (.invokevirtual 245, 3) by decide +kernel) rfl ?_
            refine y_pick [0] rfl ?_
            exact hj23 _ h
          · rw [if_neg c29] at h
            refine y_icmp_ne_f (show decode cX12_behindUnit 122 = .ok (.if_icmp .ne 8, 3) by decide +kernel) c29 (by decide) ?_
            refine y_bipush (show decode cX12_behindUnit 125 = .ok (.bipush 124, 2) by decide +kernel) rfl rfl ?_
            refine y_goto (tgt := 138) (show decode cX12_behindUnit 127 = .ok (.goto 11, 3) by decide +kernel) rfl ?_
            refine y_pick [0] rfl ?_
            exact hj23 _ h
        · rw [if_neg c28] at h
          refine y_icmp_ne_f (show decode cX12_behindUnit 112 = .ok (.if_icmp .ne 8, 3) by decide +kernel) c28 (by decide) ?_
          refine y_bipush (show decode cX12_behindUnit 115 = .ok (.bipush 38, 2) by decide +kernel) rfl rfl ?_
          refine y_goto (tgt := 138) (show decode cX12_behindUnit 117 = .ok (.goto 21, 3) by decide +kernel) rfl ?_
          refine y_pick [0] rfl ?_
          exact hj23 _ h
    by_cases c32 : (σ4 121 (((σ4 92 44) - 1)).toNat) > 6
    · rw [if_pos c32] at h
      refine y_icmp_gt_t (tgt := 104) (show decode cX12_behindUnit 36 = .ok (.if_icmp .gt 68, 3) by decide +kernel) rfl c32 ?_
      refine y_pick [0, 1] rfl ?_
      exact hj8 h
    · rw [if_neg c32] at h
      refine y_icmp_gt_f (show decode cX12_behindUnit 36 = .ok (.if_icmp .gt 68, 3) by decide +kernel) c32 (by decide) ?_
      refine y_aload_n (show decode cX12_behindUnit 39 = .ok (.aload_n 0, 1) by decide +kernel) 0 rfl ?_
      refine y_getf 92 12 37 101 (by decide) rfl (by decide) (by decide) q6_84 (show decode cX12_behindUnit 40 = .ok (.getfield 101, 3) by decide +kernel) (v := .inr (.inr (121 + 1))) rfl ?_
      refine y_aload_n (show decode cX12_behindUnit 43 = .ok (.aload_n 0, 1) by decide +kernel) 0 rfl ?_
      refine y_getf 92 12 44 376 (by decide) rfl (by decide) (by decide) q6_91 (show decode cX12_behindUnit 44 = .ok (.getfield 376, 3) by decide +kernel) (v := .inl (σ4 92 44)) rfl ?_
      refine y_iconst (show decode cX12_behindUnit 47 = .ok (.iconst 1, 1) by decide +kernel) rfl ?_
      obtain ⟨c33, h⟩ := chkI_some h
      refine y_isub (show decode cX12_behindUnit 48 = .ok (.isub, 1) by decide +kernel) c33 ?_
      obtain ⟨c34, h⟩ := chkA_some h
      refine yo_iald 121 90 (by decide) rfl c34 (ov_at rfl) (show decode cX12_behindUnit 49 = .ok (.iaload, 1) by decide +kernel) ?_
      refine y_iload_n (show decode cX12_behindUnit 50 = .ok (.iload_n 1, 1) by decide +kernel) 1 rfl ?_
      by_cases c35 : (σ4 121 (((σ4 92 44) - 1)).toNat) < r2
      · rw [if_pos c35] at h
        refine y_icmp_lt_t (tgt := 104) (show decode cX12_behindUnit 51 = .ok (.if_icmp .lt 53, 3) by decide +kernel) rfl c35 ?_
        refine y_pick [0, 1] rfl ?_
        exact hj8 h
      · rw [if_neg c35] at h
        refine y_icmp_lt_f (show decode cX12_behindUnit 51 = .ok (.if_icmp .lt 53, 3) by decide +kernel) c35 (by decide) ?_
        refine y_aload_n (show decode cX12_behindUnit 54 = .ok (.aload_n 0, 1) by decide +kernel) 0 rfl ?_
        refine y_dup (show decode cX12_behindUnit 55 = .ok (.dup, 1) by decide +kernel) rfl ?_
        refine y_getf 92 12 44 376 (by decide) rfl (by decide) (by decide) q6_91 (show decode cX12_behindUnit 56 = .ok (.getfield 376, 3) by decide +kernel) (v := .inl (σ4 92 44)) rfl ?_
        refine y_iconst (show decode cX12_behindUnit 59 = .ok (.iconst 1, 1) by decide +kernel) rfl ?_
        obtain ⟨c36, h⟩ := chkI_some h
        refine y_isub (show decode cX12_behindUnit 60 = .ok (.isub, 1) by decide +kernel) c36 ?_
        obtain ⟨σ37, e38, h⟩ := bnd_i h
        refine yo_putI 92 12 44 376 (by decide) rfl (by decide) (by decide) q6_91 rfl (show decode cX12_behindUnit 61 = .ok (.putfield 376, 3) by decide +kernel) rfl rfl (ov_set1 e38 rfl) ?_
        refine y_aload_n (show decode cX12_behindUnit 64 = .ok (.aload_n 0, 1) by decide +kernel) 0 rfl ?_
        refine y_getf 92 12 37 101 (by decide) rfl (by decide) (by decide) q6_84 (show decode cX12_behindUnit 65 = .ok (.getfield 101, 3) by decide +kernel) (v := .inr (.inr (121 + 1))) rfl ?_
        refine y_aload_n (show decode cX12_behindUnit 68 = .ok (.aload_n 0, 1) by decide +kernel) 0 rfl ?_
        refine y_getf 92 12 44 376 (by decide) rfl (by decide) (by decide) q6_91 (show decode cX12_behindUnit 69 = .ok (.getfield 376, 3) by decide +kernel) (v := .inl (σ37 92 44)) rfl ?_
        obtain ⟨c39, h⟩ := chkA_some h
        refine yo_iald 121 90 (by decide) rfl c39 (ov_at rfl) (show decode cX12_behindUnit 72 = .ok (.iaload, 1) by decide +kernel) ?_
        refine y_iconst (show decode cX12_behindUnit 73 = .ok (.iconst 3, 1) by decide +kernel) rfl ?_
        refine bnd_j (Q := fun j41 => ∀ (σ40 : ySt), j41 σ40 = some (ρ, τ) → Y E MX12_behindUnit (yRm 3 0 0) (yQf E (150 + 0) 0 0 (some (.inl ρ)) (ov τ)) 87 [(0, .inr (.inr (92 + 1))), (1, .inl r2)] [] (ov σ40) 150 0 0) (fun σ40 h => ?_) (fun j41 hj41 h => ?_) h
        · dsimp only at h
          refine y_aload_n (show decode cX12_behindUnit 87 = .ok (.aload_n 0, 1) by decide +kernel) 0 rfl ?_
          refine y_aload_n (show decode cX12_behindUnit 88 = .ok (.aload_n 0, 1) by decide +kernel) 0 rfl ?_
          refine y_getf 92 12 38 104 (by decide) rfl (by decide) (by decide) q6_85 (show decode cX12_behindUnit 89 = .ok (.getfield 104, 3) by decide +kernel) (v := .inr (.inr (122 + 1))) rfl ?_
          refine y_aload_n (show decode cX12_behindUnit 92 = .ok (.aload_n 0, 1) by decide +kernel) 0 rfl ?_
          refine y_getf 92 12 44 376 (by decide) rfl (by decide) (by decide) q6_91 (show decode cX12_behindUnit 93 = .ok (.getfield 376, 3) by decide +kernel) (v := .inl (σ40 92 44)) rfl ?_
          obtain ⟨c42, h⟩ := chkA_some h
          refine yo_iald 122 90 (by decide) rfl c42 (ov_at rfl) (show decode cX12_behindUnit 96 = .ok (.iaload, 1) by decide +kernel) ?_
          refine y_iconst (show decode cX12_behindUnit 97 = .ok (.iconst 0, 1) by decide +kernel) rfl ?_
          obtain ⟨σ44, e43, h⟩ := bndO_some h
          refine y_callV (np := 2) (st := []) (as := [.inl (σ40 122 ((σ40 92 44)).toNat), .inl 0]) 92 12 (sh_mo_emit e43) q7_227 q7_224 q7_226 qs6_1 q1_15 (by decide) rfl (by decide) rfl (by decide) (by decide +kernel) (by decide) rfl (Nat.le_of_ble_eq_true rfl) (show decode cX12_behindUnit 98 = .ok (.invokevirtual 394, 3) by decide +kernel) rfl ?_
          refine y_goto (tgt := 23) (show decode cX12_behindUnit 101 = .ok (.goto (-78), 3) by decide +kernel) rfl ?_
          refine y_pick [0, 1] rfl ?_
          exact hk5 _ h
        by_cases c45 : ¬ (σ37 121 ((σ37 92 44)).toNat) = 3
        · rw [if_pos c45] at h
          refine y_icmp_ne_t (tgt := 87) (show decode cX12_behindUnit 74 = .ok (.if_icmp .ne 13, 3) by decide +kernel) rfl c45 ?_
          refine y_pick [0, 1] rfl ?_
          exact hj41 _ h
        · rw [if_neg c45] at h
          refine y_icmp_ne_f (show decode cX12_behindUnit 74 = .ok (.if_icmp .ne 13, 3) by decide +kernel) c45 (by decide) ?_
          refine y_aload_n (show decode cX12_behindUnit 77 = .ok (.aload_n 0, 1) by decide +kernel) 0 rfl ?_
          refine y_dup (show decode cX12_behindUnit 78 = .ok (.dup, 1) by decide +kernel) rfl ?_
          refine y_getf 92 12 43 379 (by decide) rfl (by decide) (by decide) q6_90 (show decode cX12_behindUnit 79 = .ok (.getfield 379, 3) by decide +kernel) (v := .inl (σ37 92 43)) rfl ?_
          refine y_iconst (show decode cX12_behindUnit 82 = .ok (.iconst 1, 1) by decide +kernel) rfl ?_
          obtain ⟨c46, h⟩ := chkI_some h
          refine y_isub (show decode cX12_behindUnit 83 = .ok (.isub, 1) by decide +kernel) c46 ?_
          obtain ⟨σ47, e48, h⟩ := bnd_i h
          refine yo_putI 92 12 43 379 (by decide) rfl (by decide) (by decide) q6_90 rfl (show decode cX12_behindUnit 84 = .ok (.putfield 379, 3) by decide +kernel) rfl rfl (ov_set1 e48 rfl) ?_
          refine y_pick [0, 1] rfl ?_
          exact hj41 _ h
  · rw [if_neg c3] at h
    refine y_icmp_ne_f (show decode cX12_behindUnit 7 = .ok (.if_icmp .ne 16, 3) by decide +kernel) c3 (by decide) ?_
    refine y_aload_n (show decode cX12_behindUnit 10 = .ok (.aload_n 0, 1) by decide +kernel) 1 rfl ?_
    obtain ⟨r50, e49, h⟩ := bndO_some h
    refine y_callV (np := 0) (st := []) (as := []) 92 12 (sh_mo_isCompared e49) q7_239 q7_236 q7_238 qs6_4 q1_15 (by decide) rfl (by decide) rfl (by decide) (by decide +kernel) (by decide) rfl (Nat.le_of_ble_eq_true rfl) (show decode cX12_behindUnit 11 = .ok (.invokevirtual 400, 3) by decide +kernel) rfl ?_
    by_cases c51 : r50 = 0
    · rw [if_pos c51] at h
      refine y_if_eq_t (tgt := 23) (show decode cX12_behindUnit 14 = .ok (.ifCond .eq 9, 3) by decide +kernel) rfl c51 ?_
      refine y_pick [1, 0] rfl ?_
      refine loopS0_ind (P := fun σ52 => Y E MX12_behindUnit (yRm 3 0 0) (yQf E (150 + 0) 0 0 (some (.inl ρ)) (ov τ)) 23 [(0, .inr (.inr (92 + 1))), (1, .inl r2)] [] (ov σ52) 150 0 0) (fun k53 hk53 σ52 h => ?_) _ _  h
      refine y_aload_n (show decode cX12_behindUnit 23 = .ok (.aload_n 0, 1) by decide +kernel) 0 rfl ?_
      refine y_getf 92 12 37 101 (by decide) rfl (by decide) (by decide) q6_84 (show decode cX12_behindUnit 24 = .ok (.getfield 101, 3) by decide +kernel) (v := .inr (.inr (121 + 1))) rfl ?_
      refine y_aload_n (show decode cX12_behindUnit 27 = .ok (.aload_n 0, 1) by decide +kernel) 0 rfl ?_
      refine y_getf 92 12 44 376 (by decide) rfl (by decide) (by decide) q6_91 (show decode cX12_behindUnit 28 = .ok (.getfield 376, 3) by decide +kernel) (v := .inl (σ52 92 44)) rfl ?_
      refine y_iconst (show decode cX12_behindUnit 31 = .ok (.iconst 1, 1) by decide +kernel) rfl ?_
      obtain ⟨c54, h⟩ := chkI_some h
      refine y_isub (show decode cX12_behindUnit 32 = .ok (.isub, 1) by decide +kernel) c54 ?_
      obtain ⟨c55, h⟩ := chkA_some h
      refine yo_iald 121 90 (by decide) rfl c55 (ov_at rfl) (show decode cX12_behindUnit 33 = .ok (.iaload, 1) by decide +kernel) ?_
      refine y_bipush (show decode cX12_behindUnit 34 = .ok (.bipush 6, 2) by decide +kernel) rfl rfl ?_
      refine bnd_j (Q := fun j56 => j56 = some (ρ, τ) → Y E MX12_behindUnit (yRm 3 0 0) (yQf E (150 + 0) 0 0 (some (.inl ρ)) (ov τ)) 104 [(0, .inr (.inr (92 + 1))), (1, .inl r2)] [] (ov σ52) 150 0 0) (fun h => ?_) (fun j56 hj56 h => ?_) h
      · refine y_iload_n (show decode cX12_behindUnit 104 = .ok (.iload_n 1, 1) by decide +kernel) 1 rfl ?_
        by_cases c57 : r2 ≤ 0
        · rw [if_pos c57] at h
          refine y_if_le_t (tgt := 147) (show decode cX12_behindUnit 105 = .ok (.ifCond .le 42, 3) by decide +kernel) rfl c57 ?_
          refine y_aload_n (show decode cX12_behindUnit 147 = .ok (.aload_n 0, 1) by decide +kernel) 0 rfl ?_
          refine y_dup (show decode cX12_behindUnit 148 = .ok (.dup, 1) by decide +kernel) rfl ?_
          refine y_getf 92 12 44 376 (by decide) rfl (by decide) (by decide) q6_91 (show decode cX12_behindUnit 149 = .ok (.getfield 376, 3) by decide +kernel) (v := .inl (σ52 92 44)) rfl ?_
          refine y_iconst (show decode cX12_behindUnit 152 = .ok (.iconst 1, 1) by decide +kernel) rfl ?_
          obtain ⟨c58, h⟩ := chkI_some h
          refine y_isub (show decode cX12_behindUnit 153 = .ok (.isub, 1) by decide +kernel) c58 ?_
          obtain ⟨σ59, e60, h⟩ := bnd_i h
          refine yo_putI 92 12 44 376 (by decide) rfl (by decide) (by decide) q6_91 rfl (show decode cX12_behindUnit 154 = .ok (.putfield 376, 3) by decide +kernel) rfl rfl (ov_set1 e60 rfl) ?_
          refine y_aload_n (show decode cX12_behindUnit 157 = .ok (.aload_n 0, 1) by decide +kernel) 0 rfl ?_
          refine y_getf 92 12 37 101 (by decide) rfl (by decide) (by decide) q6_84 (show decode cX12_behindUnit 158 = .ok (.getfield 101, 3) by decide +kernel) (v := .inr (.inr (121 + 1))) rfl ?_
          refine y_aload_n (show decode cX12_behindUnit 161 = .ok (.aload_n 0, 1) by decide +kernel) 0 rfl ?_
          refine y_getf 92 12 44 376 (by decide) rfl (by decide) (by decide) q6_91 (show decode cX12_behindUnit 162 = .ok (.getfield 376, 3) by decide +kernel) (v := .inl (σ59 92 44)) rfl ?_
          obtain ⟨c61, h⟩ := chkA_some h
          refine yo_iald 121 90 (by decide) rfl c61 (ov_at rfl) (show decode cX12_behindUnit 165 = .ok (.iaload, 1) by decide +kernel) ?_
          refine y_bipush (show decode cX12_behindUnit 166 = .ok (.bipush 7, 2) by decide +kernel) rfl rfl ?_
          by_cases c62 : ¬ (σ59 121 ((σ59 92 44)).toNat) = 7
          · rw [if_pos c62] at h
            refine y_icmp_ne_t (tgt := 191) (show decode cX12_behindUnit 168 = .ok (.if_icmp .ne 23, 3) by decide +kernel) rfl c62 ?_
            refine y_iconst (show decode cX12_behindUnit 191 = .ok (.iconst 0, 1) by decide +kernel) rfl ?_
            cases h
            exact y_zret (show decode cX12_behindUnit 192 = .ok (.ireturn, 1) by decide +kernel) rfl (Or.inl rfl)
          · rw [if_neg c62] at h
            refine y_icmp_ne_f (show decode cX12_behindUnit 168 = .ok (.if_icmp .ne 23, 3) by decide +kernel) c62 (by decide) ?_
            refine y_aload_n (show decode cX12_behindUnit 171 = .ok (.aload_n 0, 1) by decide +kernel) 0 rfl ?_
            refine y_dup (show decode cX12_behindUnit 172 = .ok (.dup, 1) by decide +kernel) rfl ?_
            refine y_getf 92 12 43 379 (by decide) rfl (by decide) (by decide) q6_90 (show decode cX12_behindUnit 173 = .ok (.getfield 379, 3) by decide +kernel) (v := .inl (σ59 92 43)) rfl ?_
            refine y_iconst (show decode cX12_behindUnit 176 = .ok (.iconst 1, 1) by decide +kernel) rfl ?_
            obtain ⟨c63, h⟩ := chkI_some h
            refine y_isub (show decode cX12_behindUnit 177 = .ok (.isub, 1) by decide +kernel) c63 ?_
            obtain ⟨σ64, e65, h⟩ := bnd_i h
            refine yo_putI 92 12 43 379 (by decide) rfl (by decide) (by decide) q6_90 rfl (show decode cX12_behindUnit 178 = .ok (.putfield 379, 3) by decide +kernel) rfl rfl (ov_set1 e65 rfl) ?_
            refine y_aload_n (show decode cX12_behindUnit 181 = .ok (.aload_n 0, 1) by decide +kernel) 0 rfl ?_
            refine y_aload_n (show decode cX12_behindUnit 182 = .ok (.aload_n 0, 1) by decide +kernel) 0 rfl ?_
            refine y_bipush (show decode cX12_behindUnit 183 = .ok (.bipush 41, 2) by decide +kernel) rfl rfl ?_
            obtain ⟨r67, e66, h⟩ := bndO_some h
            refine y_callV (np := 1) (st := [.inr (.inr (92 + 1))]) (as := [.inl 41]) 92 12 (sh_mo_is e66) q7_219 q7_216 q7_218 qs5_15 q1_15 (by decide) rfl (by decide) rfl (by decide) (by decide +kernel) (by decide) rfl (Nat.le_of_ble_eq_true rfl) (show decode cX12_behindUnit 185 = .ok (.invokevirtual 341, 3) by decide +kernel) rfl ?_
            obtain ⟨σ69, e68, h⟩ := bndO_some h
            refine y_callV (np := 1) (st := []) (as := [.inl r67]) 92 12 (sh_mo_must e68) q7_171 q7_168 q7_170 qs5_3 q1_15 (by decide) rfl (by decide) rfl (by decide) (by decide +kernel) (by decide) rfl (Nat.le_of_ble_eq_true rfl) (show decode cX12_behindUnit 188 = .ok (.invokevirtual 290, 3) by decide +kernel) rfl ?_
            refine y_iconst (show decode cX12_behindUnit 191 = .ok (.iconst 0, 1) by decide +kernel) rfl ?_
            cases h
            exact y_zret (show decode cX12_behindUnit 192 = .ok (.ireturn, 1) by decide +kernel) rfl (Or.inl rfl)
        · rw [if_neg c57] at h
          refine y_if_le_f (show decode cX12_behindUnit 105 = .ok (.ifCond .le 42, 3) by decide +kernel) c57 (by decide) ?_
          refine y_aload_n (show decode cX12_behindUnit 108 = .ok (.aload_n 0, 1) by decide +kernel) 0 rfl ?_
          refine y_iload_n (show decode cX12_behindUnit 109 = .ok (.iload_n 1, 1) by decide +kernel) 1 rfl ?_
          refine y_iload_n (show decode cX12_behindUnit 110 = .ok (.iload_n 1, 1) by decide +kernel) 1 rfl ?_
          refine y_iconst (show decode cX12_behindUnit 111 = .ok (.iconst 2, 1) by decide +kernel) rfl ?_
          refine bnd_j (Q := fun j71 => ∀ (y70 : Int), j71 y70 = some (ρ, τ) → Y E MX12_behindUnit (yRm 3 0 0) (yQf E (150 + 0) 0 0 (some (.inl ρ)) (ov τ)) 138 [(0, .inr (.inr (92 + 1)))] [.inl y70, .inl r2, .inr (.inr (92 + 1))] (ov σ52) 150 0 0) (fun y70 h => ?_) (fun j71 hj71 h => ?_) h
          · dsimp only at h
            obtain ⟨σ73, e72, h⟩ := bndO_some h
            refine y_callV (np := 2) (st := []) (as := [.inl r2, .inl y70]) 92 12 (sh_mo_pushE e72) q7_211 q7_208 q7_210 qs5_13 q1_15 (by decide) rfl (by decide) rfl (by decide) (by decide +kernel) (by decide) rfl (Nat.le_of_ble_eq_true rfl) (show decode cX12_behindUnit 138 = .ok (.invokevirtual 382, 3) by decide +kernel) rfl ?_
            refine y_aload_n (show decode cX12_behindUnit 141 = .ok (.aload_n 0, 1) by decide +kernel) 0 rfl ?_
            obtain ⟨σ75, e74, h⟩ := bndO_some h
            refine y_callV (np := 0) (st := []) (as := []) 92 12 (sh_mo_goOn e74) q7_80 q7_77 q7_79 qs4_4 q1_15 (by decide) rfl (by decide) rfl (by decide) (by decide +kernel) (by decide) rfl (Nat.le_of_ble_eq_true rfl) (show decode cX12_behindUnit 142 = .ok (.invokevirtual 281, 3) by decide +kernel) rfl ?_
            refine y_iconst (show decode cX12_behindUnit 145 = .ok (.iconst 1, 1) by decide +kernel) rfl ?_
            cases h
            exact y_zret (show decode cX12_behindUnit 146 = .ok (.ireturn, 1) by decide +kernel) rfl (Or.inr rfl)
          by_cases c76 : ¬ r2 = 2
          · rw [if_pos c76] at h
            refine y_icmp_ne_t (tgt := 120) (show decode cX12_behindUnit 112 = .ok (.if_icmp .ne 8, 3) by decide +kernel) rfl c76 ?_
            refine y_iload_n (show decode cX12_behindUnit 120 = .ok (.iload_n 1, 1) by decide +kernel) 1 rfl ?_
            refine y_iconst (show decode cX12_behindUnit 121 = .ok (.iconst 1, 1) by decide +kernel) rfl ?_
            by_cases c77 : ¬ r2 = 1
            · rw [if_pos c77] at h
              refine y_icmp_ne_t (tgt := 130) (show decode cX12_behindUnit 122 = .ok (.if_icmp .ne 8, 3) by decide +kernel) rfl c77 ?_
              refine y_aload_n (show decode cX12_behindUnit 130 = .ok (.aload_n 0, 1) by decide +kernel) 0 rfl ?_
              refine y_aload_n (show decode cX12_behindUnit 131 = .ok (.aload_n 0, 1) by decide +kernel) 0 rfl ?_
              refine y_getf 92 12 6 242 (by decide) rfl (by decide) (by decide) q6_53 (show decode cX12_behindUnit 132 = .ok (.getfield 242, 3) by decide +kernel) (v := .inl (σ52 92 6)) rfl ?_
              obtain ⟨r79, e78, h⟩ := bndO_some h
              refine y_callV (np := 1) (st := [.inl r2, .inr (.inr (92 + 1))]) (as := [.inl (σ52 92 6)]) 92 12 (sh_mo_sign e78) q7_84 q7_81 q7_83 qs4_5 q1_15 (by decide) rfl (by decide) rfl (by decide) (by decide +kernel) (by decide) rfl (Nat.le_of_ble_eq_true rfl) (show decode cX12_behindUnit 135 = .ok (.invokevirtual 245, 3) by decide +kernel) rfl ?_
              refine y_pick [0] rfl ?_
              exact hj71 _ h
            · rw [if_neg c77] at h
              refine y_icmp_ne_f (show decode cX12_behindUnit 122 = .ok (.if_icmp .ne 8, 3) by decide +kernel) c77 (by decide) ?_
              refine y_bipush (show decode cX12_behindUnit 125 = .ok (.bipush 124, 2) by decide +kernel) rfl rfl ?_
              refine y_goto (tgt := 138) (show decode cX12_behindUnit 127 = .ok (.goto 11, 3) by decide +kernel) rfl ?_
              refine y_pick [0] rfl ?_
              exact hj71 _ h
          · rw [if_neg c76] at h
            refine y_icmp_ne_f (show decode cX12_behindUnit 112 = .ok (.if_icmp .ne 8, 3) by decide +kernel) c76 (by decide) ?_
            refine y_bipush (show decode cX12_behindUnit 115 = .ok (.bipush 38, 2) by decide +kernel) rfl rfl ?_
            refine y_goto (tgt := 138) (show decode cX12_behindUnit 117 = .ok (.goto 21, 3) by decide +kernel) rfl ?_
            refine y_pick [0] rfl ?_
            exact hj71 _ h
      by_cases c80 : (σ52 121 (((σ52 92 44) - 1)).toNat) > 6
      · rw [if_pos c80] at h
        refine y_icmp_gt_t (tgt := 104) (show decode cX12_behindUnit 36 = .ok (.if_icmp .gt 68, 3) by decide +kernel) rfl c80 ?_
        refine y_pick [0, 1] rfl ?_
        exact hj56 h
      · rw [if_neg c80] at h
        refine y_icmp_gt_f (show decode cX12_behindUnit 36 = .ok (.if_icmp .gt 68, 3) by decide +kernel) c80 (by decide) ?_
        refine y_aload_n (show decode cX12_behindUnit 39 = .ok (.aload_n 0, 1) by decide +kernel) 0 rfl ?_
        refine y_getf 92 12 37 101 (by decide) rfl (by decide) (by decide) q6_84 (show decode cX12_behindUnit 40 = .ok (.getfield 101, 3) by decide +kernel) (v := .inr (.inr (121 + 1))) rfl ?_
        refine y_aload_n (show decode cX12_behindUnit 43 = .ok (.aload_n 0, 1) by decide +kernel) 0 rfl ?_
        refine y_getf 92 12 44 376 (by decide) rfl (by decide) (by decide) q6_91 (show decode cX12_behindUnit 44 = .ok (.getfield 376, 3) by decide +kernel) (v := .inl (σ52 92 44)) rfl ?_
        refine y_iconst (show decode cX12_behindUnit 47 = .ok (.iconst 1, 1) by decide +kernel) rfl ?_
        obtain ⟨c81, h⟩ := chkI_some h
        refine y_isub (show decode cX12_behindUnit 48 = .ok (.isub, 1) by decide +kernel) c81 ?_
        obtain ⟨c82, h⟩ := chkA_some h
        refine yo_iald 121 90 (by decide) rfl c82 (ov_at rfl) (show decode cX12_behindUnit 49 = .ok (.iaload, 1) by decide +kernel) ?_
        refine y_iload_n (show decode cX12_behindUnit 50 = .ok (.iload_n 1, 1) by decide +kernel) 1 rfl ?_
        by_cases c83 : (σ52 121 (((σ52 92 44) - 1)).toNat) < r2
        · rw [if_pos c83] at h
          refine y_icmp_lt_t (tgt := 104) (show decode cX12_behindUnit 51 = .ok (.if_icmp .lt 53, 3) by decide +kernel) rfl c83 ?_
          refine y_pick [0, 1] rfl ?_
          exact hj56 h
        · rw [if_neg c83] at h
          refine y_icmp_lt_f (show decode cX12_behindUnit 51 = .ok (.if_icmp .lt 53, 3) by decide +kernel) c83 (by decide) ?_
          refine y_aload_n (show decode cX12_behindUnit 54 = .ok (.aload_n 0, 1) by decide +kernel) 0 rfl ?_
          refine y_dup (show decode cX12_behindUnit 55 = .ok (.dup, 1) by decide +kernel) rfl ?_
          refine y_getf 92 12 44 376 (by decide) rfl (by decide) (by decide) q6_91 (show decode cX12_behindUnit 56 = .ok (.getfield 376, 3) by decide +kernel) (v := .inl (σ52 92 44)) rfl ?_
          refine y_iconst (show decode cX12_behindUnit 59 = .ok (.iconst 1, 1) by decide +kernel) rfl ?_
          obtain ⟨c84, h⟩ := chkI_some h
          refine y_isub (show decode cX12_behindUnit 60 = .ok (.isub, 1) by decide +kernel) c84 ?_
          obtain ⟨σ85, e86, h⟩ := bnd_i h
          refine yo_putI 92 12 44 376 (by decide) rfl (by decide) (by decide) q6_91 rfl (show decode cX12_behindUnit 61 = .ok (.putfield 376, 3) by decide +kernel) rfl rfl (ov_set1 e86 rfl) ?_
          refine y_aload_n (show decode cX12_behindUnit 64 = .ok (.aload_n 0, 1) by decide +kernel) 0 rfl ?_
          refine y_getf 92 12 37 101 (by decide) rfl (by decide) (by decide) q6_84 (show decode cX12_behindUnit 65 = .ok (.getfield 101, 3) by decide +kernel) (v := .inr (.inr (121 + 1))) rfl ?_
          refine y_aload_n (show decode cX12_behindUnit 68 = .ok (.aload_n 0, 1) by decide +kernel) 0 rfl ?_
          refine y_getf 92 12 44 376 (by decide) rfl (by decide) (by decide) q6_91 (show decode cX12_behindUnit 69 = .ok (.getfield 376, 3) by decide +kernel) (v := .inl (σ85 92 44)) rfl ?_
          obtain ⟨c87, h⟩ := chkA_some h
          refine yo_iald 121 90 (by decide) rfl c87 (ov_at rfl) (show decode cX12_behindUnit 72 = .ok (.iaload, 1) by decide +kernel) ?_
          refine y_iconst (show decode cX12_behindUnit 73 = .ok (.iconst 3, 1) by decide +kernel) rfl ?_
          refine bnd_j (Q := fun j89 => ∀ (σ88 : ySt), j89 σ88 = some (ρ, τ) → Y E MX12_behindUnit (yRm 3 0 0) (yQf E (150 + 0) 0 0 (some (.inl ρ)) (ov τ)) 87 [(0, .inr (.inr (92 + 1))), (1, .inl r2)] [] (ov σ88) 150 0 0) (fun σ88 h => ?_) (fun j89 hj89 h => ?_) h
          · dsimp only at h
            refine y_aload_n (show decode cX12_behindUnit 87 = .ok (.aload_n 0, 1) by decide +kernel) 0 rfl ?_
            refine y_aload_n (show decode cX12_behindUnit 88 = .ok (.aload_n 0, 1) by decide +kernel) 0 rfl ?_
            refine y_getf 92 12 38 104 (by decide) rfl (by decide) (by decide) q6_85 (show decode cX12_behindUnit 89 = .ok (.getfield 104, 3) by decide +kernel) (v := .inr (.inr (122 + 1))) rfl ?_
            refine y_aload_n (show decode cX12_behindUnit 92 = .ok (.aload_n 0, 1) by decide +kernel) 0 rfl ?_
            refine y_getf 92 12 44 376 (by decide) rfl (by decide) (by decide) q6_91 (show decode cX12_behindUnit 93 = .ok (.getfield 376, 3) by decide +kernel) (v := .inl (σ88 92 44)) rfl ?_
            obtain ⟨c90, h⟩ := chkA_some h
            refine yo_iald 122 90 (by decide) rfl c90 (ov_at rfl) (show decode cX12_behindUnit 96 = .ok (.iaload, 1) by decide +kernel) ?_
            refine y_iconst (show decode cX12_behindUnit 97 = .ok (.iconst 0, 1) by decide +kernel) rfl ?_
            obtain ⟨σ92, e91, h⟩ := bndO_some h
            refine y_callV (np := 2) (st := []) (as := [.inl (σ88 122 ((σ88 92 44)).toNat), .inl 0]) 92 12 (sh_mo_emit e91) q7_227 q7_224 q7_226 qs6_1 q1_15 (by decide) rfl (by decide) rfl (by decide) (by decide +kernel) (by decide) rfl (Nat.le_of_ble_eq_true rfl) (show decode cX12_behindUnit 98 = .ok (.invokevirtual 394, 3) by decide +kernel) rfl ?_
            refine y_goto (tgt := 23) (show decode cX12_behindUnit 101 = .ok (.goto (-78), 3) by decide +kernel) rfl ?_
            refine y_pick [0, 1] rfl ?_
            exact hk53 _ h
          by_cases c93 : ¬ (σ85 121 ((σ85 92 44)).toNat) = 3
          · rw [if_pos c93] at h
            refine y_icmp_ne_t (tgt := 87) (show decode cX12_behindUnit 74 = .ok (.if_icmp .ne 13, 3) by decide +kernel) rfl c93 ?_
            refine y_pick [0, 1] rfl ?_
            exact hj89 _ h
          · rw [if_neg c93] at h
            refine y_icmp_ne_f (show decode cX12_behindUnit 74 = .ok (.if_icmp .ne 13, 3) by decide +kernel) c93 (by decide) ?_
            refine y_aload_n (show decode cX12_behindUnit 77 = .ok (.aload_n 0, 1) by decide +kernel) 0 rfl ?_
            refine y_dup (show decode cX12_behindUnit 78 = .ok (.dup, 1) by decide +kernel) rfl ?_
            refine y_getf 92 12 43 379 (by decide) rfl (by decide) (by decide) q6_90 (show decode cX12_behindUnit 79 = .ok (.getfield 379, 3) by decide +kernel) (v := .inl (σ85 92 43)) rfl ?_
            refine y_iconst (show decode cX12_behindUnit 82 = .ok (.iconst 1, 1) by decide +kernel) rfl ?_
            obtain ⟨c94, h⟩ := chkI_some h
            refine y_isub (show decode cX12_behindUnit 83 = .ok (.isub, 1) by decide +kernel) c94 ?_
            obtain ⟨σ95, e96, h⟩ := bnd_i h
            refine yo_putI 92 12 43 379 (by decide) rfl (by decide) (by decide) q6_90 rfl (show decode cX12_behindUnit 84 = .ok (.putfield 379, 3) by decide +kernel) rfl rfl (ov_set1 e96 rfl) ?_
            refine y_pick [0, 1] rfl ?_
            exact hj89 _ h
    · rw [if_neg c51] at h
      refine y_if_eq_f (show decode cX12_behindUnit 14 = .ok (.ifCond .eq 9, 3) by decide +kernel) c51 (by decide) ?_
      refine y_aload_n (show decode cX12_behindUnit 17 = .ok (.aload_n 0, 1) by decide +kernel) 1 rfl ?_
      obtain ⟨σ98, e97, h⟩ := bndO_some h
      refine y_callV (np := 0) (st := []) (as := []) 92 12 (sh_mo_misplaced e97) q7_135 q7_132 q7_134 qs4_10 q1_15 (by decide) rfl (by decide) rfl (by decide) (by decide +kernel) (by decide) rfl (Nat.le_of_ble_eq_true rfl) (show decode cX12_behindUnit 18 = .ok (.invokevirtual 284, 3) by decide +kernel) rfl ?_
      refine y_iconst (show decode cX12_behindUnit 21 = .ok (.iconst 1, 1) by decide +kernel) rfl ?_
      cases h
      exact y_zret (show decode cX12_behindUnit 22 = .ok (.ireturn, 1) by decide +kernel) rfl (Or.inr rfl)
abbrev MX12_e : yM := (yX12_e, cX12_e, 2, none)
def mo_e (N : Nat) (σ : ySt) : Option (ySt) :=
  bnd (yset σ 92 44 0) fun σ1 =>
  bnd (yset σ1 92 43 0) fun σ3 =>
  bndO (mo_pushE 8 0 σ3) fun σ6 =>
  loopS1 (fun k9 x7 σ8 =>
    bndO (mo_isGood σ8) fun r11 =>
    if r11 = 0 then
      some σ8
    else
      if (σ8 92 44) ≤ 0 then
        some σ8
      else
        bnd (fun (y14 : Int) (σ15 : ySt) =>
          k9 y14 σ15) fun j16 =>
        if x7 = 0 then
          bndR (mo_behindUnit N σ8) fun r19 σ20 =>
          j16 r19 σ20
        else
          bndR (mo_unit N σ8) fun r22 σ23 =>
          j16 r22 σ23) N 1 σ6
set_option maxHeartbeats 4000000 in
set_option maxRecDepth 10000 in
theorem sh_mo_e {E : yE} {N : Nat} {σ : ySt} {τ : ySt} (h : mo_e N σ = some τ) : Con E MX12_e 4 0 0 [.inr (.inr (92 + 1))] 150 (ov σ) none (ov τ) := by
  unfold mo_e at h
  refine Con.ofY (by decide +kernel) (by simp [yWords, yCat]) (fun hok _ => ?_)
  show Y E MX12_e (yRm 4 0 0) (yQf E (150 + 0) 0 0 none (ov τ)) 0 [(0, .inr (.inr (92 + 1)))] [] (ov σ) 150 0 0
  refine y_aload_n (show decode cX12_e 0 = .ok (.aload_n 0, 1) by decide +kernel) 0 rfl ?_
  refine y_iconst (show decode cX12_e 1 = .ok (.iconst 0, 1) by decide +kernel) rfl ?_
  obtain ⟨σ1, e2, h⟩ := bnd_i h
  refine yo_putI 92 12 44 376 (by decide) rfl (by decide) (by decide) q6_91 rfl (show decode cX12_e 2 = .ok (.putfield 376, 3) by decide +kernel) rfl rfl (ov_set1 e2 rfl) ?_
  refine y_aload_n (show decode cX12_e 5 = .ok (.aload_n 0, 1) by decide +kernel) 0 rfl ?_
  refine y_iconst (show decode cX12_e 6 = .ok (.iconst 0, 1) by decide +kernel) rfl ?_
  obtain ⟨σ3, e4, h⟩ := bnd_i h
  refine yo_putI 92 12 43 379 (by decide) rfl (by decide) (by decide) q6_90 rfl (show decode cX12_e 7 = .ok (.putfield 379, 3) by decide +kernel) rfl rfl (ov_set1 e4 rfl) ?_
  refine y_aload_n (show decode cX12_e 10 = .ok (.aload_n 0, 1) by decide +kernel) 0 rfl ?_
  refine y_bipush (show decode cX12_e 11 = .ok (.bipush 8, 2) by decide +kernel) rfl rfl ?_
  refine y_iconst (show decode cX12_e 13 = .ok (.iconst 0, 1) by decide +kernel) rfl ?_
  obtain ⟨σ6, e5, h⟩ := bndO_some h
  refine y_callV (np := 2) (st := []) (as := [.inl 8, .inl 0]) 92 12 (sh_mo_pushE e5) q7_211 q7_208 q7_210 qs5_13 q1_15 (by decide) rfl (by decide) rfl (by decide) (by decide +kernel) (by decide) rfl (Nat.le_of_ble_eq_true rfl) (show decode cX12_e 14 = .ok (.invokevirtual 382, 3) by decide +kernel) rfl ?_
  refine y_iconst (show decode cX12_e 17 = .ok (.iconst 1, 1) by decide +kernel) rfl ?_
  refine y_istore_n (show decode cX12_e 18 = .ok (.istore_n 1, 1) by decide +kernel) rfl (L1 := [(1, .inl 1), (0, .inr (.inr (92 + 1)))]) rfl ?_
  refine y_pick [1, 0] rfl ?_
  refine loopS1_ind (P := fun x7 σ8 => Y E MX12_e (yRm 4 0 0) (yQf E (150 + 0) 0 0 none (ov τ)) 19 [(0, .inr (.inr (92 + 1))), (1, .inl x7)] [] (ov σ8) 150 0 0) (fun k9 hk9 x7 σ8 h => ?_) _ _ _  h
  refine y_aload_n (show decode cX12_e 19 = .ok (.aload_n 0, 1) by decide +kernel) 0 rfl ?_
  obtain ⟨r11, e10, h⟩ := bndO_some h
  refine y_callV (np := 0) (st := []) (as := []) 92 12 (sh_mo_isGood e10) q7_119 q7_116 q7_118 qs4_6 q1_15 (by decide) rfl (by decide) rfl (by decide) (by decide +kernel) (by decide) rfl (Nat.le_of_ble_eq_true rfl) (show decode cX12_e 20 = .ok (.invokevirtual 277, 3) by decide +kernel) rfl ?_
  by_cases c12 : r11 = 0
  · rw [if_pos c12] at h
    refine y_if_eq_t (tgt := 52) (show decode cX12_e 23 = .ok (.ifCond .eq 29, 3) by decide +kernel) rfl c12 ?_
    cases h
    exact y_vret (show decode cX12_e 52 = .ok (.return_, 1) by decide +kernel) rfl
  · rw [if_neg c12] at h
    refine y_if_eq_f (show decode cX12_e 23 = .ok (.ifCond .eq 29, 3) by decide +kernel) c12 (by decide) ?_
    refine y_aload_n (show decode cX12_e 26 = .ok (.aload_n 0, 1) by decide +kernel) 0 rfl ?_
    refine y_getf 92 12 44 376 (by decide) rfl (by decide) (by decide) q6_91 (show decode cX12_e 27 = .ok (.getfield 376, 3) by decide +kernel) (v := .inl (σ8 92 44)) rfl ?_
    by_cases c13 : (σ8 92 44) ≤ 0
    · rw [if_pos c13] at h
      refine y_if_le_t (tgt := 52) (show decode cX12_e 30 = .ok (.ifCond .le 22, 3) by decide +kernel) rfl c13 ?_
      cases h
      exact y_vret (show decode cX12_e 52 = .ok (.return_, 1) by decide +kernel) rfl
    · rw [if_neg c13] at h
      refine y_if_le_f (show decode cX12_e 30 = .ok (.ifCond .le 22, 3) by decide +kernel) c13 (by decide) ?_
      refine y_iload_n (show decode cX12_e 33 = .ok (.iload_n 1, 1) by decide +kernel) 1 rfl ?_
      refine bnd_j (Q := fun j16 => ∀ (y14 : Int) (σ15 : ySt), j16 y14 σ15 = some τ → Y E MX12_e (yRm 4 0 0) (yQf E (150 + 0) 0 0 none (ov τ)) 48 [(0, .inr (.inr (92 + 1)))] [.inl y14] (ov σ15) 150 0 0) (fun y14 σ15 h => ?_) (fun j16 hj16 h => ?_) h
      · dsimp only at h
        refine y_istore_n (show decode cX12_e 48 = .ok (.istore_n 1, 1) by decide +kernel) rfl (L1 := [(1, .inl y14), (0, .inr (.inr (92 + 1)))]) rfl ?_
        refine y_goto (tgt := 19) (show decode cX12_e 49 = .ok (.goto (-30), 3) by decide +kernel) rfl ?_
        refine y_pick [1, 0] rfl ?_
        exact hk9 _ _ h
      by_cases c17 : x7 = 0
      · rw [if_pos c17] at h
        refine y_if_eq_t (tgt := 44) (show decode cX12_e 34 = .ok (.ifCond .eq 10, 3) by decide +kernel) rfl c17 ?_
        refine y_aload_n (show decode cX12_e 44 = .ok (.aload_n 0, 1) by decide +kernel) 0 rfl ?_
        obtain ⟨r19, σ20, e18, h⟩ := bndR_some h
        refine y_callV (np := 0) (st := []) (as := []) 92 12 (sh_mo_behindUnit e18) q7_231 q7_228 q7_230 qs6_2 q1_15 (by decide) rfl (by decide) rfl (by decide) (by decide +kernel) (by decide) rfl (Nat.le_of_ble_eq_true rfl) (show decode cX12_e 45 = .ok (.invokevirtual 388, 3) by decide +kernel) rfl ?_
        refine y_pick [0] rfl ?_
        exact hj16 _ _ h
      · rw [if_neg c17] at h
        refine y_if_eq_f (show decode cX12_e 34 = .ok (.ifCond .eq 10, 3) by decide +kernel) c17 (by decide) ?_
        refine y_aload_n (show decode cX12_e 37 = .ok (.aload_n 0, 1) by decide +kernel) 0 rfl ?_
        obtain ⟨r22, σ23, e21, h⟩ := bndR_some h
        refine y_callV (np := 0) (st := []) (as := []) 92 12 (sh_mo_unit e21) q7_215 q7_212 q7_214 qs5_14 q1_15 (by decide) rfl (by decide) rfl (by decide) (by decide +kernel) (by decide) rfl (Nat.le_of_ble_eq_true rfl) (show decode cX12_e 38 = .ok (.invokevirtual 385, 3) by decide +kernel) rfl ?_
        refine y_goto (tgt := 48) (show decode cX12_e 41 = .ok (.goto 7, 3) by decide +kernel) rfl ?_
        refine y_pick [0] rfl ?_
        exact hj16 _ _ h
abbrev MX12_readRule : yM := (yX12_readRule, cX12_readRule, 1, none)
def mo_readRule (N : Nat) (σ : ySt) : Option (ySt) :=
  bndO (mo_isGood σ) fun r2 =>
  bnd (fun (σ3 : ySt) =>
    chkA 2 (σ3 92 41) <|
    bnd (yset σ3 118 ((σ3 92 41)).toNat (σ3 92 42)) fun σ6 =>
    some σ6) fun j4 =>
  if r2 = 0 then
    j4 σ
  else
    bndO (mo_e N σ) fun σ10 =>
    j4 σ10
set_option maxHeartbeats 4000000 in
set_option maxRecDepth 10000 in
theorem sh_mo_readRule {E : yE} {N : Nat} {σ : ySt} {τ : ySt} (h : mo_readRule N σ = some τ) : Con E MX12_readRule 5 0 0 [.inr (.inr (92 + 1))] 150 (ov σ) none (ov τ) := by
  unfold mo_readRule at h
  refine Con.ofY (by decide +kernel) (by simp [yWords, yCat]) (fun hok _ => ?_)
  show Y E MX12_readRule (yRm 5 0 0) (yQf E (150 + 0) 0 0 none (ov τ)) 0 [(0, .inr (.inr (92 + 1)))] [] (ov σ) 150 0 0
  refine y_aload_n (show decode cX12_readRule 0 = .ok (.aload_n 0, 1) by decide +kernel) 0 rfl ?_
  obtain ⟨r2, e1, h⟩ := bndO_some h
  refine y_callV (np := 0) (st := []) (as := []) 92 12 (sh_mo_isGood e1) q7_119 q7_116 q7_118 qs4_6 q1_15 (by decide) rfl (by decide) rfl (by decide) (by decide +kernel) (by decide) rfl (Nat.le_of_ble_eq_true rfl) (show decode cX12_readRule 1 = .ok (.invokevirtual 277, 3) by decide +kernel) rfl ?_
  refine bnd_j (Q := fun j4 => ∀ (σ3 : ySt), j4 σ3 = some τ → Y E MX12_readRule (yRm 5 0 0) (yQf E (150 + 0) 0 0 none (ov τ)) 11 [(0, .inr (.inr (92 + 1)))] [] (ov σ3) 150 0 0) (fun σ3 h => ?_) (fun j4 hj4 h => ?_) h
  · dsimp only at h
    refine y_aload_n (show decode cX12_readRule 11 = .ok (.aload_n 0, 1) by decide +kernel) 0 rfl ?_
    refine y_getf 92 12 34 92 (by decide) rfl (by decide) (by decide) q6_81 (show decode cX12_readRule 12 = .ok (.getfield 92, 3) by decide +kernel) (v := .inr (.inr (118 + 1))) rfl ?_
    refine y_aload_n (show decode cX12_readRule 15 = .ok (.aload_n 0, 1) by decide +kernel) 0 rfl ?_
    refine y_getf 92 12 41 301 (by decide) rfl (by decide) (by decide) q6_88 (show decode cX12_readRule 16 = .ok (.getfield 301, 3) by decide +kernel) (v := .inl (σ3 92 41)) rfl ?_
    refine y_aload_n (show decode cX12_readRule 19 = .ok (.aload_n 0, 1) by decide +kernel) 0 rfl ?_
    refine y_getf 92 12 42 304 (by decide) rfl (by decide) (by decide) q6_89 (show decode cX12_readRule 20 = .ok (.getfield 304, 3) by decide +kernel) (v := .inl (σ3 92 42)) rfl ?_
    obtain ⟨c5, h⟩ := chkA_some h
    obtain ⟨σ6, e7, h⟩ := bnd_i h
    refine yo_iast 118 2 (by decide) rfl c5 (ov_set1 e7 rfl) (show decode cX12_readRule 23 = .ok (.iastore, 1) by decide +kernel) ?_
    cases h
    exact y_vret (show decode cX12_readRule 24 = .ok (.return_, 1) by decide +kernel) rfl
  by_cases c8 : r2 = 0
  · rw [if_pos c8] at h
    refine y_if_eq_t (tgt := 11) (show decode cX12_readRule 4 = .ok (.ifCond .eq 7, 3) by decide +kernel) rfl c8 ?_
    refine y_pick [0] rfl ?_
    exact hj4 _ h
  · rw [if_neg c8] at h
    refine y_if_eq_f (show decode cX12_readRule 4 = .ok (.ifCond .eq 7, 3) by decide +kernel) c8 (by decide) ?_
    refine y_aload_n (show decode cX12_readRule 7 = .ok (.aload_n 0, 1) by decide +kernel) 0 rfl ?_
    obtain ⟨σ10, e9, h⟩ := bndO_some h
    refine y_callV (np := 0) (st := []) (as := []) 92 12 (sh_mo_e e9) q7_207 q7_204 q7_206 qs5_12 q1_15 (by decide) rfl (by decide) rfl (by decide) (by decide +kernel) (by decide) rfl (Nat.le_of_ble_eq_true rfl) (show decode cX12_readRule 8 = .ok (.invokevirtual 373, 3) by decide +kernel) rfl ?_
    refine y_pick [0] rfl ?_
    exact hj4 _ h
abbrev MX12_readLine : yM := (yX12_readLine, cX12_readLine, 3, none)
def mo_readLine (N : Nat) (σ : ySt) : Option (ySt) :=
  bnd (fun (σ1 : ySt) =>
    bndO (mo_isGood σ1) fun r4 =>
    if ¬ r4 = 0 then
      bndO (mo_goOn N σ1) fun σ7 =>
      bnd (fun (σ8 : ySt) =>
        bnd (fun (σ10 : ySt) =>
          bnd (fun (σ12 : ySt) =>
            bnd (fun (σ14 : ySt) =>
              bnd (fun (σ16 : ySt) =>
                bnd (fun (σ18 : ySt) =>
                  bnd (fun (σ20 : ySt) =>
                    bnd (fun (σ22 : ySt) =>
                      chkA 2 (σ22 92 41) <|
                      bnd (fun (y25 : Int) =>
                        chk (y25 = 0 ∨ y25 = 1) <|
                        chkA 2 (σ22 92 41) <|
                        bnd (yset σ22 103 ((σ22 92 41)).toNat y25) fun σ29 =>
                        chkA 2 (σ29 92 41) <|
                        bnd (fun (y32 : Int) =>
                          chk (y32 = 0 ∨ y32 = 1) <|
                          chkA 2 (σ29 92 41) <|
                          bnd (yset σ29 104 ((σ29 92 41)).toNat y32) fun σ36 =>
                          chkA 2 (σ36 92 41) <|
                          bnd (fun (y39 : Int) =>
                            chk (y39 = 0 ∨ y39 = 1) <|
                            chkA 2 (σ36 92 41) <|
                            bnd (yset σ36 105 ((σ36 92 41)).toNat y39) fun σ43 =>
                            bndO (mo_is 59 σ43) fun r46 =>
                            bndO (mo_must N r46 σ43) fun σ48 =>
                            some σ48) fun j40 =>
                          if ¬ (σ36 105 ((σ36 92 41)).toNat) = 0 then
                            j40 1
                          else
                            if ¬ (blcmp (σ 92 10) 1920298085) = 0 then
                              j40 0
                            else
                              j40 1) fun j33 =>
                        if ¬ (σ29 104 ((σ29 92 41)).toNat) = 0 then
                          j33 1
                        else
                          if ¬ (blcmp (σ 92 10) 32497657166128499) = 0 then
                            j33 0
                          else
                            j33 1) fun j26 =>
                      if ¬ (σ22 103 ((σ22 92 41)).toNat) = 0 then
                        j26 1
                      else
                        if ¬ (blcmp (σ 92 10) 1752135026) = 0 then
                          j26 0
                        else
                          j26 1) fun j23 =>
                    if ¬ (blcmp (σ 92 10) 1920298085) = 0 then
                      j23 σ20
                    else
                      bndO (mo_readRule N σ20) fun σ57 =>
                      j23 σ57) fun j21 =>
                  if ¬ (blcmp (σ 92 10) 32497657166128499) = 0 then
                    j21 σ18
                  else
                    bndR (mo_numeral N 1 8 σ18) fun r60 σ61 =>
                    chkA 2 (σ18 92 41) <|
                    bnd (yset σ61 101 ((σ18 92 41)).toNat r60) fun σ63 =>
                    j21 σ63) fun j19 =>
                if ¬ (blcmp (σ 92 10) 1752135026) = 0 then
                  j19 σ16
                else
                  bndR (mo_numeral N 1 999 σ16) fun r67 σ68 =>
                  chkA 2 (σ16 92 41) <|
                  bnd (yset σ68 100 ((σ16 92 41)).toNat r67) fun σ70 =>
                  j19 σ70) fun j17 =>
              if ¬ (blcmp (σ 92 10) 111542219664996) = 0 then
                j17 σ14
              else
                bndO (mo_readErrand N σ14) fun σ74 =>
                j17 σ74) fun j15 =>
            if ¬ (blcmp (σ 92 10) 6582119) = 0 then
              j15 σ12
            else
              bndO (mo_readDog N σ12) fun σ77 =>
              j15 σ77) fun j13 =>
          if ¬ (blcmp (σ 92 10) 123581014175598) = 0 then
            j13 σ10
          else
            bndO (mo_readPerson N σ10) fun σ80 =>
            j13 σ80) fun j11 =>
        if ¬ (blcmp (σ 92 10) 7823737) = 0 then
          j11 σ8
        else
          bndO (mo_readWay N σ8) fun σ83 =>
          j11 σ83) fun j9 =>
      if ¬ (blcmp (σ 92 10) 482854658917) = 0 then
        j9 σ7
      else
        bndO (mo_readPlace N σ7) fun σ86 =>
        j9 σ86
    else
      some σ1) fun j2 =>
  bnd (bndO (mo_misplaced σ) fun σ89 =>
    j2 σ89) fun j87 =>
  if ¬ (σ 92 8) = 3 then
    j87
  else
    bndO (mo_isFull σ) fun r92 =>
    if r92 = 0 then
      j2 σ
    else
      j87
set_option maxHeartbeats 4000000 in
set_option maxRecDepth 10000 in
theorem sh_mo_readLine {E : yE} {N : Nat} {σ : ySt} {τ : ySt} (h : mo_readLine N σ = some τ) : Con E MX12_readLine 6 0 0 [.inr (.inr (92 + 1))] 150 (ov σ) none (ov τ) := by
  unfold mo_readLine at h
  refine Con.ofY (by decide +kernel) (by simp [yWords, yCat]) (fun hok _ => ?_)
  show Y E MX12_readLine (yRm 6 0 0) (yQf E (150 + 0) 0 0 none (ov τ)) 0 [(0, .inr (.inr (92 + 1)))] [] (ov σ) 150 0 0
  refine y_aload_n (show decode cX12_readLine 0 = .ok (.aload_n 0, 1) by decide +kernel) 0 rfl ?_
  refine y_getf 92 12 10 256 (by decide) rfl (by decide) (by decide) q6_57 (show decode cX12_readLine 1 = .ok (.getfield 256, 3) by decide +kernel) (v := .inr (.inl (σ 92 10))) rfl ?_
  refine y_lstore_n (show decode cX12_readLine 4 = .ok (.lstore_n 1, 1) by decide +kernel) rfl (L1 := [(1, .inr (.inl (σ 92 10))), (0, .inr (.inr (92 + 1)))]) rfl ?_
  refine y_aload_n (show decode cX12_readLine 5 = .ok (.aload_n 0, 1) by decide +kernel) 1 rfl ?_
  refine y_getf 92 12 8 249 (by decide) rfl (by decide) (by decide) q6_55 (show decode cX12_readLine 6 = .ok (.getfield 249, 3) by decide +kernel) (v := .inl (σ 92 8)) rfl ?_
  refine y_iconst (show decode cX12_readLine 9 = .ok (.iconst 3, 1) by decide +kernel) rfl ?_
  refine bnd_j (Q := fun j2 => ∀ (σ1 : ySt), j2 σ1 = some τ → Y E MX12_readLine (yRm 6 0 0) (yQf E (150 + 0) 0 0 none (ov τ)) 24 [(0, .inr (.inr (92 + 1))), (1, .inr (.inl (σ 92 10)))] [] (ov σ1) 150 0 0) (fun σ1 h => ?_) (fun j2 hj2 h => ?_) h
  · dsimp only at h
    refine y_aload_n (show decode cX12_readLine 24 = .ok (.aload_n 0, 1) by decide +kernel) 0 rfl ?_
    obtain ⟨r4, e3, h⟩ := bndO_some h
    refine y_callV (np := 0) (st := []) (as := []) 92 12 (sh_mo_isGood e3) q7_119 q7_116 q7_118 qs4_6 q1_15 (by decide) rfl (by decide) rfl (by decide) (by decide +kernel) (by decide) rfl (Nat.le_of_ble_eq_true rfl) (show decode cX12_readLine 25 = .ok (.invokevirtual 277, 3) by decide +kernel) rfl ?_
    by_cases c5 : ¬ r4 = 0
    · rw [if_pos c5] at h
      refine y_if_ne_t (tgt := 32) (show decode cX12_readLine 28 = .ok (.ifCond .ne 4, 3) by decide +kernel) rfl c5 ?_
      refine y_aload_n (show decode cX12_readLine 32 = .ok (.aload_n 0, 1) by decide +kernel) 0 rfl ?_
      obtain ⟨σ7, e6, h⟩ := bndO_some h
      refine y_callV (np := 0) (st := []) (as := []) 92 12 (sh_mo_goOn e6) q7_80 q7_77 q7_79 qs4_4 q1_15 (by decide) rfl (by decide) rfl (by decide) (by decide +kernel) (by decide) rfl (Nat.le_of_ble_eq_true rfl) (show decode cX12_readLine 33 = .ok (.invokevirtual 281, 3) by decide +kernel) rfl ?_
      refine y_lload_n (show decode cX12_readLine 36 = .ok (.lload_n 1, 1) by decide +kernel) 1 rfl ?_
      refine y_ldc2 (k := 482854658917) (show decode cX12_readLine 37 = .ok (.ldc2_w 201, 3) by decide +kernel) q7_91 rfl rfl ?_
      refine y_lcmp (show decode cX12_readLine 40 = .ok (.lcmp, 1) by decide +kernel) ?_
      refine bnd_j (Q := fun j9 => ∀ (σ8 : ySt), j9 σ8 = some τ → Y E MX12_readLine (yRm 6 0 0) (yQf E (150 + 0) 0 0 none (ov τ)) 48 [(0, .inr (.inr (92 + 1))), (1, .inr (.inl (σ 92 10)))] [] (ov σ8) 150 0 0) (fun σ8 h => ?_) (fun j9 hj9 h => ?_) h
      · dsimp only at h
        refine y_lload_n (show decode cX12_readLine 48 = .ok (.lload_n 1, 1) by decide +kernel) 1 rfl ?_
        refine y_ldc2 (k := 7823737) (show decode cX12_readLine 49 = .ok (.ldc2_w 205, 3) by decide +kernel) q7_93 rfl rfl ?_
        refine y_lcmp (show decode cX12_readLine 52 = .ok (.lcmp, 1) by decide +kernel) ?_
        refine bnd_j (Q := fun j11 => ∀ (σ10 : ySt), j11 σ10 = some τ → Y E MX12_readLine (yRm 6 0 0) (yQf E (150 + 0) 0 0 none (ov τ)) 60 [(0, .inr (.inr (92 + 1))), (1, .inr (.inl (σ 92 10)))] [] (ov σ10) 150 0 0) (fun σ10 h => ?_) (fun j11 hj11 h => ?_) h
        · dsimp only at h
          refine y_lload_n (show decode cX12_readLine 60 = .ok (.lload_n 1, 1) by decide +kernel) 1 rfl ?_
          refine y_ldc2 (k := 123581014175598) (show decode cX12_readLine 61 = .ok (.ldc2_w 209, 3) by decide +kernel) q7_95 rfl rfl ?_
          refine y_lcmp (show decode cX12_readLine 64 = .ok (.lcmp, 1) by decide +kernel) ?_
          refine bnd_j (Q := fun j13 => ∀ (σ12 : ySt), j13 σ12 = some τ → Y E MX12_readLine (yRm 6 0 0) (yQf E (150 + 0) 0 0 none (ov τ)) 72 [(0, .inr (.inr (92 + 1))), (1, .inr (.inl (σ 92 10)))] [] (ov σ12) 150 0 0) (fun σ12 h => ?_) (fun j13 hj13 h => ?_) h
          · dsimp only at h
            refine y_lload_n (show decode cX12_readLine 72 = .ok (.lload_n 1, 1) by decide +kernel) 1 rfl ?_
            refine y_ldc2 (k := 6582119) (show decode cX12_readLine 73 = .ok (.ldc2_w 215, 3) by decide +kernel) q7_98 rfl rfl ?_
            refine y_lcmp (show decode cX12_readLine 76 = .ok (.lcmp, 1) by decide +kernel) ?_
            refine bnd_j (Q := fun j15 => ∀ (σ14 : ySt), j15 σ14 = some τ → Y E MX12_readLine (yRm 6 0 0) (yQf E (150 + 0) 0 0 none (ov τ)) 84 [(0, .inr (.inr (92 + 1))), (1, .inr (.inl (σ 92 10)))] [] (ov σ14) 150 0 0) (fun σ14 h => ?_) (fun j15 hj15 h => ?_) h
            · dsimp only at h
              refine y_lload_n (show decode cX12_readLine 84 = .ok (.lload_n 1, 1) by decide +kernel) 1 rfl ?_
              refine y_ldc2 (k := 111542219664996) (show decode cX12_readLine 85 = .ok (.ldc2_w 217, 3) by decide +kernel) q7_99 rfl rfl ?_
              refine y_lcmp (show decode cX12_readLine 88 = .ok (.lcmp, 1) by decide +kernel) ?_
              refine bnd_j (Q := fun j17 => ∀ (σ16 : ySt), j17 σ16 = some τ → Y E MX12_readLine (yRm 6 0 0) (yQf E (150 + 0) 0 0 none (ov τ)) 96 [(0, .inr (.inr (92 + 1))), (1, .inr (.inl (σ 92 10)))] [] (ov σ16) 150 0 0) (fun σ16 h => ?_) (fun j17 hj17 h => ?_) h
              · dsimp only at h
                refine y_lload_n (show decode cX12_readLine 96 = .ok (.lload_n 1, 1) by decide +kernel) 1 rfl ?_
                refine y_ldc2 (k := 1752135026) (show decode cX12_readLine 97 = .ok (.ldc2_w 223, 3) by decide +kernel) q7_102 rfl rfl ?_
                refine y_lcmp (show decode cX12_readLine 100 = .ok (.lcmp, 1) by decide +kernel) ?_
                refine bnd_j (Q := fun j19 => ∀ (σ18 : ySt), j19 σ18 = some τ → Y E MX12_readLine (yRm 6 0 0) (yQf E (150 + 0) 0 0 none (ov τ)) 121 [(0, .inr (.inr (92 + 1))), (1, .inr (.inl (σ 92 10)))] [] (ov σ18) 150 0 0) (fun σ18 h => ?_) (fun j19 hj19 h => ?_) h
                · dsimp only at h
                  refine y_lload_n (show decode cX12_readLine 121 = .ok (.lload_n 1, 1) by decide +kernel) 1 rfl ?_
                  refine y_ldc2 (k := 32497657166128499) (show decode cX12_readLine 122 = .ok (.ldc2_w 225, 3) by decide +kernel) q7_103 rfl rfl ?_
                  refine y_lcmp (show decode cX12_readLine 125 = .ok (.lcmp, 1) by decide +kernel) ?_
                  refine bnd_j (Q := fun j21 => ∀ (σ20 : ySt), j21 σ20 = some τ → Y E MX12_readLine (yRm 6 0 0) (yQf E (150 + 0) 0 0 none (ov τ)) 145 [(0, .inr (.inr (92 + 1))), (1, .inr (.inl (σ 92 10)))] [] (ov σ20) 150 0 0) (fun σ20 h => ?_) (fun j21 hj21 h => ?_) h
                  · dsimp only at h
                    refine y_lload_n (show decode cX12_readLine 145 = .ok (.lload_n 1, 1) by decide +kernel) 1 rfl ?_
                    refine y_ldc2 (k := 1920298085) (show decode cX12_readLine 146 = .ok (.ldc2_w 227, 3) by decide +kernel) q7_104 rfl rfl ?_
                    refine y_lcmp (show decode cX12_readLine 149 = .ok (.lcmp, 1) by decide +kernel) ?_
                    refine bnd_j (Q := fun j23 => ∀ (σ22 : ySt), j23 σ22 = some τ → Y E MX12_readLine (yRm 6 0 0) (yQf E (150 + 0) 0 0 none (ov τ)) 157 [(0, .inr (.inr (92 + 1))), (1, .inr (.inl (σ 92 10)))] [] (ov σ22) 150 0 0) (fun σ22 h => ?_) (fun j23 hj23 h => ?_) h
                    · dsimp only at h
                      refine y_aload_n (show decode cX12_readLine 157 = .ok (.aload_n 0, 1) by decide +kernel) 0 rfl ?_
                      refine y_getf 92 12 19 45 (by decide) rfl (by decide) (by decide) q6_66 (show decode cX12_readLine 158 = .ok (.getfield 45, 3) by decide +kernel) (v := .inr (.inr (103 + 1))) rfl ?_
                      refine y_aload_n (show decode cX12_readLine 161 = .ok (.aload_n 0, 1) by decide +kernel) 0 rfl ?_
                      refine y_getf 92 12 41 301 (by decide) rfl (by decide) (by decide) q6_88 (show decode cX12_readLine 162 = .ok (.getfield 301, 3) by decide +kernel) (v := .inl (σ22 92 41)) rfl ?_
                      refine y_aload_n (show decode cX12_readLine 165 = .ok (.aload_n 0, 1) by decide +kernel) 0 rfl ?_
                      refine y_getf 92 12 19 45 (by decide) rfl (by decide) (by decide) q6_66 (show decode cX12_readLine 166 = .ok (.getfield 45, 3) by decide +kernel) (v := .inr (.inr (103 + 1))) rfl ?_
                      refine y_aload_n (show decode cX12_readLine 169 = .ok (.aload_n 0, 1) by decide +kernel) 0 rfl ?_
                      refine y_getf 92 12 41 301 (by decide) rfl (by decide) (by decide) q6_88 (show decode cX12_readLine 170 = .ok (.getfield 301, 3) by decide +kernel) (v := .inl (σ22 92 41)) rfl ?_
                      obtain ⟨c24, h⟩ := chkA_some h
                      refine yo_zald 103 2 (by decide) rfl c24 (ov_at rfl) (show decode cX12_readLine 173 = .ok (.baload, 1) by decide +kernel) ?_
                      refine bnd_j (Q := fun j26 => ∀ (y25 : Int), j26 y25 = some τ → Y E MX12_readLine (yRm 6 0 0) (yQf E (150 + 0) 0 0 none (ov τ)) 190 [(0, .inr (.inr (92 + 1))), (1, .inr (.inl (σ 92 10)))] [.inl y25, .inl (σ22 92 41), .inr (.inr (103 + 1))] (ov σ22) 150 0 0) (fun y25 h => ?_) (fun j26 hj26 h => ?_) h
                      · dsimp only at h
                        obtain ⟨c27, h⟩ := chk_some h
                        obtain ⟨c28, h⟩ := chkA_some h
                        obtain ⟨σ29, e30, h⟩ := bnd_i h
                        refine yo_zast 103 2 (by decide) rfl c28 c27 (ov_set1 e30 rfl) (show decode cX12_readLine 190 = .ok (.bastore, 1) by decide +kernel) ?_
                        refine y_aload_n (show decode cX12_readLine 191 = .ok (.aload_n 0, 1) by decide +kernel) 0 rfl ?_
                        refine y_getf 92 12 20 49 (by decide) rfl (by decide) (by decide) q6_67 (show decode cX12_readLine 192 = .ok (.getfield 49, 3) by decide +kernel) (v := .inr (.inr (104 + 1))) rfl ?_
                        refine y_aload_n (show decode cX12_readLine 195 = .ok (.aload_n 0, 1) by decide +kernel) 0 rfl ?_
                        refine y_getf 92 12 41 301 (by decide) rfl (by decide) (by decide) q6_88 (show decode cX12_readLine 196 = .ok (.getfield 301, 3) by decide +kernel) (v := .inl (σ29 92 41)) rfl ?_
                        refine y_aload_n (show decode cX12_readLine 199 = .ok (.aload_n 0, 1) by decide +kernel) 0 rfl ?_
                        refine y_getf 92 12 20 49 (by decide) rfl (by decide) (by decide) q6_67 (show decode cX12_readLine 200 = .ok (.getfield 49, 3) by decide +kernel) (v := .inr (.inr (104 + 1))) rfl ?_
                        refine y_aload_n (show decode cX12_readLine 203 = .ok (.aload_n 0, 1) by decide +kernel) 0 rfl ?_
                        refine y_getf 92 12 41 301 (by decide) rfl (by decide) (by decide) q6_88 (show decode cX12_readLine 204 = .ok (.getfield 301, 3) by decide +kernel) (v := .inl (σ29 92 41)) rfl ?_
                        obtain ⟨c31, h⟩ := chkA_some h
                        refine yo_zald 104 2 (by decide) rfl c31 (ov_at rfl) (show decode cX12_readLine 207 = .ok (.baload, 1) by decide +kernel) ?_
                        refine bnd_j (Q := fun j33 => ∀ (y32 : Int), j33 y32 = some τ → Y E MX12_readLine (yRm 6 0 0) (yQf E (150 + 0) 0 0 none (ov τ)) 224 [(0, .inr (.inr (92 + 1))), (1, .inr (.inl (σ 92 10)))] [.inl y32, .inl (σ29 92 41), .inr (.inr (104 + 1))] (ov σ29) 150 0 0) (fun y32 h => ?_) (fun j33 hj33 h => ?_) h
                        · dsimp only at h
                          obtain ⟨c34, h⟩ := chk_some h
                          obtain ⟨c35, h⟩ := chkA_some h
                          obtain ⟨σ36, e37, h⟩ := bnd_i h
                          refine yo_zast 104 2 (by decide) rfl c35 c34 (ov_set1 e37 rfl) (show decode cX12_readLine 224 = .ok (.bastore, 1) by decide +kernel) ?_
                          refine y_aload_n (show decode cX12_readLine 225 = .ok (.aload_n 0, 1) by decide +kernel) 0 rfl ?_
                          refine y_getf 92 12 21 52 (by decide) rfl (by decide) (by decide) q6_68 (show decode cX12_readLine 226 = .ok (.getfield 52, 3) by decide +kernel) (v := .inr (.inr (105 + 1))) rfl ?_
                          refine y_aload_n (show decode cX12_readLine 229 = .ok (.aload_n 0, 1) by decide +kernel) 0 rfl ?_
                          refine y_getf 92 12 41 301 (by decide) rfl (by decide) (by decide) q6_88 (show decode cX12_readLine 230 = .ok (.getfield 301, 3) by decide +kernel) (v := .inl (σ36 92 41)) rfl ?_
                          refine y_aload_n (show decode cX12_readLine 233 = .ok (.aload_n 0, 1) by decide +kernel) 0 rfl ?_
                          refine y_getf 92 12 21 52 (by decide) rfl (by decide) (by decide) q6_68 (show decode cX12_readLine 234 = .ok (.getfield 52, 3) by decide +kernel) (v := .inr (.inr (105 + 1))) rfl ?_
                          refine y_aload_n (show decode cX12_readLine 237 = .ok (.aload_n 0, 1) by decide +kernel) 0 rfl ?_
                          refine y_getf 92 12 41 301 (by decide) rfl (by decide) (by decide) q6_88 (show decode cX12_readLine 238 = .ok (.getfield 301, 3) by decide +kernel) (v := .inl (σ36 92 41)) rfl ?_
                          obtain ⟨c38, h⟩ := chkA_some h
                          refine yo_zald 105 2 (by decide) rfl c38 (ov_at rfl) (show decode cX12_readLine 241 = .ok (.baload, 1) by decide +kernel) ?_
                          refine bnd_j (Q := fun j40 => ∀ (y39 : Int), j40 y39 = some τ → Y E MX12_readLine (yRm 6 0 0) (yQf E (150 + 0) 0 0 none (ov τ)) 258 [(0, .inr (.inr (92 + 1)))] [.inl y39, .inl (σ36 92 41), .inr (.inr (105 + 1))] (ov σ36) 150 0 0) (fun y39 h => ?_) (fun j40 hj40 h => ?_) h
                          · dsimp only at h
                            obtain ⟨c41, h⟩ := chk_some h
                            obtain ⟨c42, h⟩ := chkA_some h
                            obtain ⟨σ43, e44, h⟩ := bnd_i h
                            refine yo_zast 105 2 (by decide) rfl c42 c41 (ov_set1 e44 rfl) (show decode cX12_readLine 258 = .ok (.bastore, 1) by decide +kernel) ?_
                            refine y_aload_n (show decode cX12_readLine 259 = .ok (.aload_n 0, 1) by decide +kernel) 0 rfl ?_
                            refine y_aload_n (show decode cX12_readLine 260 = .ok (.aload_n 0, 1) by decide +kernel) 0 rfl ?_
                            refine y_bipush (show decode cX12_readLine 261 = .ok (.bipush 59, 2) by decide +kernel) rfl rfl ?_
                            obtain ⟨r46, e45, h⟩ := bndO_some h
                            refine y_callV (np := 1) (st := [.inr (.inr (92 + 1))]) (as := [.inl 59]) 92 12 (sh_mo_is e45) q7_219 q7_216 q7_218 qs5_15 q1_15 (by decide) rfl (by decide) rfl (by decide) (by decide +kernel) (by decide) rfl (Nat.le_of_ble_eq_true rfl) (show decode cX12_readLine 263 = .ok (.invokevirtual 341, 3) by decide +kernel) rfl ?_
                            obtain ⟨σ48, e47, h⟩ := bndO_some h
                            refine y_callV (np := 1) (st := []) (as := [.inl r46]) 92 12 (sh_mo_must e47) q7_171 q7_168 q7_170 qs5_3 q1_15 (by decide) rfl (by decide) rfl (by decide) (by decide +kernel) (by decide) rfl (Nat.le_of_ble_eq_true rfl) (show decode cX12_readLine 266 = .ok (.invokevirtual 290, 3) by decide +kernel) rfl ?_
                            cases h
                            exact y_vret (show decode cX12_readLine 269 = .ok (.return_, 1) by decide +kernel) rfl
                          by_cases c49 : ¬ (σ36 105 ((σ36 92 41)).toNat) = 0
                          · rw [if_pos c49] at h
                            refine y_if_ne_t (tgt := 253) (show decode cX12_readLine 242 = .ok (.ifCond .ne 11, 3) by decide +kernel) rfl c49 ?_
                            refine y_iconst (show decode cX12_readLine 253 = .ok (.iconst 1, 1) by decide +kernel) rfl ?_
                            refine y_goto (tgt := 258) (show decode cX12_readLine 254 = .ok (.goto 4, 3) by decide +kernel) rfl ?_
                            refine y_pick [0] rfl ?_
                            exact hj40 _ h
                          · rw [if_neg c49] at h
                            refine y_if_ne_f (show decode cX12_readLine 242 = .ok (.ifCond .ne 11, 3) by decide +kernel) c49 (by decide) ?_
                            refine y_lload_n (show decode cX12_readLine 245 = .ok (.lload_n 1, 1) by decide +kernel) 1 rfl ?_
                            refine y_ldc2 (k := 1920298085) (show decode cX12_readLine 246 = .ok (.ldc2_w 227, 3) by decide +kernel) q7_104 rfl rfl ?_
                            refine y_lcmp (show decode cX12_readLine 249 = .ok (.lcmp, 1) by decide +kernel) ?_
                            by_cases c50 : ¬ (blcmp (σ 92 10) 1920298085) = 0
                            · rw [if_pos c50] at h
                              refine y_if_ne_t (tgt := 257) (show decode cX12_readLine 250 = .ok (.ifCond .ne 7, 3) by decide +kernel) rfl c50 ?_
                              refine y_iconst (show decode cX12_readLine 257 = .ok (.iconst 0, 1) by decide +kernel) rfl ?_
                              refine y_pick [0] rfl ?_
                              exact hj40 _ h
                            · rw [if_neg c50] at h
                              refine y_if_ne_f (show decode cX12_readLine 250 = .ok (.ifCond .ne 7, 3) by decide +kernel) c50 (by decide) ?_
                              refine y_iconst (show decode cX12_readLine 253 = .ok (.iconst 1, 1) by decide +kernel) rfl ?_
                              refine y_goto (tgt := 258) (show decode cX12_readLine 254 = .ok (.goto 4, 3) by decide +kernel) rfl ?_
                              refine y_pick [0] rfl ?_
                              exact hj40 _ h
                        by_cases c51 : ¬ (σ29 104 ((σ29 92 41)).toNat) = 0
                        · rw [if_pos c51] at h
                          refine y_if_ne_t (tgt := 219) (show decode cX12_readLine 208 = .ok (.ifCond .ne 11, 3) by decide +kernel) rfl c51 ?_
                          refine y_iconst (show decode cX12_readLine 219 = .ok (.iconst 1, 1) by decide +kernel) rfl ?_
                          refine y_goto (tgt := 224) (show decode cX12_readLine 220 = .ok (.goto 4, 3) by decide +kernel) rfl ?_
                          refine y_pick [0, 1] rfl ?_
                          exact hj33 _ h
                        · rw [if_neg c51] at h
                          refine y_if_ne_f (show decode cX12_readLine 208 = .ok (.ifCond .ne 11, 3) by decide +kernel) c51 (by decide) ?_
                          refine y_lload_n (show decode cX12_readLine 211 = .ok (.lload_n 1, 1) by decide +kernel) 1 rfl ?_
                          refine y_ldc2 (k := 32497657166128499) (show decode cX12_readLine 212 = .ok (.ldc2_w 225, 3) by decide +kernel) q7_103 rfl rfl ?_
                          refine y_lcmp (show decode cX12_readLine 215 = .ok (.lcmp, 1) by decide +kernel) ?_
                          by_cases c52 : ¬ (blcmp (σ 92 10) 32497657166128499) = 0
                          · rw [if_pos c52] at h
                            refine y_if_ne_t (tgt := 223) (show decode cX12_readLine 216 = .ok (.ifCond .ne 7, 3) by decide +kernel) rfl c52 ?_
                            refine y_iconst (show decode cX12_readLine 223 = .ok (.iconst 0, 1) by decide +kernel) rfl ?_
                            refine y_pick [0, 1] rfl ?_
                            exact hj33 _ h
                          · rw [if_neg c52] at h
                            refine y_if_ne_f (show decode cX12_readLine 216 = .ok (.ifCond .ne 7, 3) by decide +kernel) c52 (by decide) ?_
                            refine y_iconst (show decode cX12_readLine 219 = .ok (.iconst 1, 1) by decide +kernel) rfl ?_
                            refine y_goto (tgt := 224) (show decode cX12_readLine 220 = .ok (.goto 4, 3) by decide +kernel) rfl ?_
                            refine y_pick [0, 1] rfl ?_
                            exact hj33 _ h
                      by_cases c53 : ¬ (σ22 103 ((σ22 92 41)).toNat) = 0
                      · rw [if_pos c53] at h
                        refine y_if_ne_t (tgt := 185) (show decode cX12_readLine 174 = .ok (.ifCond .ne 11, 3) by decide +kernel) rfl c53 ?_
                        refine y_iconst (show decode cX12_readLine 185 = .ok (.iconst 1, 1) by decide +kernel) rfl ?_
                        refine y_goto (tgt := 190) (show decode cX12_readLine 186 = .ok (.goto 4, 3) by decide +kernel) rfl ?_
                        refine y_pick [0, 1] rfl ?_
                        exact hj26 _ h
                      · rw [if_neg c53] at h
                        refine y_if_ne_f (show decode cX12_readLine 174 = .ok (.ifCond .ne 11, 3) by decide +kernel) c53 (by decide) ?_
                        refine y_lload_n (show decode cX12_readLine 177 = .ok (.lload_n 1, 1) by decide +kernel) 1 rfl ?_
                        refine y_ldc2 (k := 1752135026) (show decode cX12_readLine 178 = .ok (.ldc2_w 223, 3) by decide +kernel) q7_102 rfl rfl ?_
                        refine y_lcmp (show decode cX12_readLine 181 = .ok (.lcmp, 1) by decide +kernel) ?_
                        by_cases c54 : ¬ (blcmp (σ 92 10) 1752135026) = 0
                        · rw [if_pos c54] at h
                          refine y_if_ne_t (tgt := 189) (show decode cX12_readLine 182 = .ok (.ifCond .ne 7, 3) by decide +kernel) rfl c54 ?_
                          refine y_iconst (show decode cX12_readLine 189 = .ok (.iconst 0, 1) by decide +kernel) rfl ?_
                          refine y_pick [0, 1] rfl ?_
                          exact hj26 _ h
                        · rw [if_neg c54] at h
                          refine y_if_ne_f (show decode cX12_readLine 182 = .ok (.ifCond .ne 7, 3) by decide +kernel) c54 (by decide) ?_
                          refine y_iconst (show decode cX12_readLine 185 = .ok (.iconst 1, 1) by decide +kernel) rfl ?_
                          refine y_goto (tgt := 190) (show decode cX12_readLine 186 = .ok (.goto 4, 3) by decide +kernel) rfl ?_
                          refine y_pick [0, 1] rfl ?_
                          exact hj26 _ h
                    by_cases c55 : ¬ (blcmp (σ 92 10) 1920298085) = 0
                    · rw [if_pos c55] at h
                      refine y_if_ne_t (tgt := 157) (show decode cX12_readLine 150 = .ok (.ifCond .ne 7, 3) by decide +kernel) rfl c55 ?_
                      refine y_pick [0, 1] rfl ?_
                      exact hj23 _ h
                    · rw [if_neg c55] at h
                      refine y_if_ne_f (show decode cX12_readLine 150 = .ok (.ifCond .ne 7, 3) by decide +kernel) c55 (by decide) ?_
                      refine y_aload_n (show decode cX12_readLine 153 = .ok (.aload_n 0, 1) by decide +kernel) 0 rfl ?_
                      obtain ⟨σ57, e56, h⟩ := bndO_some h
                      refine y_callV (np := 0) (st := []) (as := []) 92 12 (sh_mo_readRule e56) q7_203 q7_200 q7_202 qs5_11 q1_15 (by decide) rfl (by decide) rfl (by decide) (by decide +kernel) (by decide) rfl (Nat.le_of_ble_eq_true rfl) (show decode cX12_readLine 154 = .ok (.invokevirtual 338, 3) by decide +kernel) rfl ?_
                      refine y_pick [0, 1] rfl ?_
                      exact hj23 _ h
                  by_cases c58 : ¬ (blcmp (σ 92 10) 32497657166128499) = 0
                  · rw [if_pos c58] at h
                    refine y_if_ne_t (tgt := 145) (show decode cX12_readLine 126 = .ok (.ifCond .ne 19, 3) by decide +kernel) rfl c58 ?_
                    refine y_pick [0, 1] rfl ?_
                    exact hj21 _ h
                  · rw [if_neg c58] at h
                    refine y_if_ne_f (show decode cX12_readLine 126 = .ok (.ifCond .ne 19, 3) by decide +kernel) c58 (by decide) ?_
                    refine y_aload_n (show decode cX12_readLine 129 = .ok (.aload_n 0, 1) by decide +kernel) 0 rfl ?_
                    refine y_getf 92 12 17 39 (by decide) rfl (by decide) (by decide) q6_64 (show decode cX12_readLine 130 = .ok (.getfield 39, 3) by decide +kernel) (v := .inr (.inr (101 + 1))) rfl ?_
                    refine y_aload_n (show decode cX12_readLine 133 = .ok (.aload_n 0, 1) by decide +kernel) 0 rfl ?_
                    refine y_getf 92 12 41 301 (by decide) rfl (by decide) (by decide) q6_88 (show decode cX12_readLine 134 = .ok (.getfield 301, 3) by decide +kernel) (v := .inl (σ18 92 41)) rfl ?_
                    refine y_aload_n (show decode cX12_readLine 137 = .ok (.aload_n 0, 1) by decide +kernel) 0 rfl ?_
                    refine y_iconst (show decode cX12_readLine 138 = .ok (.iconst 1, 1) by decide +kernel) rfl ?_
                    refine y_bipush (show decode cX12_readLine 139 = .ok (.bipush 8, 2) by decide +kernel) rfl rfl ?_
                    obtain ⟨r60, σ61, e59, h⟩ := bndR_some h
                    refine y_callV (np := 2) (st := [.inl (σ18 92 41), .inr (.inr (101 + 1))]) (as := [.inl 1, .inl 8]) 92 12 (sh_mo_numeral e59) q7_175 q7_172 q7_174 qs5_4 q1_15 (by decide) rfl (by decide) rfl (by decide) (by decide +kernel) (by decide) rfl (Nat.le_of_ble_eq_true rfl) (show decode cX12_readLine 141 = .ok (.invokevirtual 294, 3) by decide +kernel) rfl ?_
                    obtain ⟨c62, h⟩ := chkA_some h
                    obtain ⟨σ63, e64, h⟩ := bnd_i h
                    refine yo_iast 101 2 (by decide) rfl c62 (ov_set1 e64 rfl) (show decode cX12_readLine 144 = .ok (.iastore, 1) by decide +kernel) ?_
                    refine y_pick [0, 1] rfl ?_
                    exact hj21 _ h
                by_cases c65 : ¬ (blcmp (σ 92 10) 1752135026) = 0
                · rw [if_pos c65] at h
                  refine y_if_ne_t (tgt := 121) (show decode cX12_readLine 101 = .ok (.ifCond .ne 20, 3) by decide +kernel) rfl c65 ?_
                  refine y_pick [0, 1] rfl ?_
                  exact hj19 _ h
                · rw [if_neg c65] at h
                  refine y_if_ne_f (show decode cX12_readLine 101 = .ok (.ifCond .ne 20, 3) by decide +kernel) c65 (by decide) ?_
                  refine y_aload_n (show decode cX12_readLine 104 = .ok (.aload_n 0, 1) by decide +kernel) 0 rfl ?_
                  refine y_getf 92 12 16 36 (by decide) rfl (by decide) (by decide) q6_63 (show decode cX12_readLine 105 = .ok (.getfield 36, 3) by decide +kernel) (v := .inr (.inr (100 + 1))) rfl ?_
                  refine y_aload_n (show decode cX12_readLine 108 = .ok (.aload_n 0, 1) by decide +kernel) 0 rfl ?_
                  refine y_getf 92 12 41 301 (by decide) rfl (by decide) (by decide) q6_88 (show decode cX12_readLine 109 = .ok (.getfield 301, 3) by decide +kernel) (v := .inl (σ16 92 41)) rfl ?_
                  refine y_aload_n (show decode cX12_readLine 112 = .ok (.aload_n 0, 1) by decide +kernel) 0 rfl ?_
                  refine y_iconst (show decode cX12_readLine 113 = .ok (.iconst 1, 1) by decide +kernel) rfl ?_
                  refine y_sipush (show decode cX12_readLine 114 = .ok (.sipush 999, 3) by decide +kernel) rfl rfl ?_
                  obtain ⟨r67, σ68, e66, h⟩ := bndR_some h
                  refine y_callV (np := 2) (st := [.inl (σ16 92 41), .inr (.inr (100 + 1))]) (as := [.inl 1, .inl 999]) 92 12 (sh_mo_numeral e66) q7_175 q7_172 q7_174 qs5_4 q1_15 (by decide) rfl (by decide) rfl (by decide) (by decide +kernel) (by decide) rfl (Nat.le_of_ble_eq_true rfl) (show decode cX12_readLine 117 = .ok (.invokevirtual 294, 3) by decide +kernel) rfl ?_
                  obtain ⟨c69, h⟩ := chkA_some h
                  obtain ⟨σ70, e71, h⟩ := bnd_i h
                  refine yo_iast 100 2 (by decide) rfl c69 (ov_set1 e71 rfl) (show decode cX12_readLine 120 = .ok (.iastore, 1) by decide +kernel) ?_
                  refine y_pick [0, 1] rfl ?_
                  exact hj19 _ h
              by_cases c72 : ¬ (blcmp (σ 92 10) 111542219664996) = 0
              · rw [if_pos c72] at h
                refine y_if_ne_t (tgt := 96) (show decode cX12_readLine 89 = .ok (.ifCond .ne 7, 3) by decide +kernel) rfl c72 ?_
                refine y_pick [0, 1] rfl ?_
                exact hj17 _ h
              · rw [if_neg c72] at h
                refine y_if_ne_f (show decode cX12_readLine 89 = .ok (.ifCond .ne 7, 3) by decide +kernel) c72 (by decide) ?_
                refine y_aload_n (show decode cX12_readLine 92 = .ok (.aload_n 0, 1) by decide +kernel) 0 rfl ?_
                obtain ⟨σ74, e73, h⟩ := bndO_some h
                refine y_callV (np := 0) (st := []) (as := []) 92 12 (sh_mo_readErrand e73) q7_199 q7_196 q7_198 qs5_10 q1_15 (by decide) rfl (by decide) rfl (by decide) (by decide +kernel) (by decide) rfl (Nat.le_of_ble_eq_true rfl) (show decode cX12_readLine 93 = .ok (.invokevirtual 335, 3) by decide +kernel) rfl ?_
                refine y_pick [0, 1] rfl ?_
                exact hj17 _ h
            by_cases c75 : ¬ (blcmp (σ 92 10) 6582119) = 0
            · rw [if_pos c75] at h
              refine y_if_ne_t (tgt := 84) (show decode cX12_readLine 77 = .ok (.ifCond .ne 7, 3) by decide +kernel) rfl c75 ?_
              refine y_pick [0, 1] rfl ?_
              exact hj15 _ h
            · rw [if_neg c75] at h
              refine y_if_ne_f (show decode cX12_readLine 77 = .ok (.ifCond .ne 7, 3) by decide +kernel) c75 (by decide) ?_
              refine y_aload_n (show decode cX12_readLine 80 = .ok (.aload_n 0, 1) by decide +kernel) 0 rfl ?_
              obtain ⟨σ77, e76, h⟩ := bndO_some h
              refine y_callV (np := 0) (st := []) (as := []) 92 12 (sh_mo_readDog e76) q7_195 q7_192 q7_194 qs5_9 q1_15 (by decide) rfl (by decide) rfl (by decide) (by decide +kernel) (by decide) rfl (Nat.le_of_ble_eq_true rfl) (show decode cX12_readLine 81 = .ok (.invokevirtual 332, 3) by decide +kernel) rfl ?_
              refine y_pick [0, 1] rfl ?_
              exact hj15 _ h
          by_cases c78 : ¬ (blcmp (σ 92 10) 123581014175598) = 0
          · rw [if_pos c78] at h
            refine y_if_ne_t (tgt := 72) (show decode cX12_readLine 65 = .ok (.ifCond .ne 7, 3) by decide +kernel) rfl c78 ?_
            refine y_pick [0, 1] rfl ?_
            exact hj13 _ h
          · rw [if_neg c78] at h
            refine y_if_ne_f (show decode cX12_readLine 65 = .ok (.ifCond .ne 7, 3) by decide +kernel) c78 (by decide) ?_
            refine y_aload_n (show decode cX12_readLine 68 = .ok (.aload_n 0, 1) by decide +kernel) 0 rfl ?_
            obtain ⟨σ80, e79, h⟩ := bndO_some h
            refine y_callV (np := 0) (st := []) (as := []) 92 12 (sh_mo_readPerson e79) q7_179 q7_176 q7_178 qs5_5 q1_15 (by decide) rfl (by decide) rfl (by decide) (by decide +kernel) (by decide) rfl (Nat.le_of_ble_eq_true rfl) (show decode cX12_readLine 69 = .ok (.invokevirtual 329, 3) by decide +kernel) rfl ?_
            refine y_pick [0, 1] rfl ?_
            exact hj13 _ h
        by_cases c81 : ¬ (blcmp (σ 92 10) 7823737) = 0
        · rw [if_pos c81] at h
          refine y_if_ne_t (tgt := 60) (show decode cX12_readLine 53 = .ok (.ifCond .ne 7, 3) by decide +kernel) rfl c81 ?_
          refine y_pick [0, 1] rfl ?_
          exact hj11 _ h
        · rw [if_neg c81] at h
          refine y_if_ne_f (show decode cX12_readLine 53 = .ok (.ifCond .ne 7, 3) by decide +kernel) c81 (by decide) ?_
          refine y_aload_n (show decode cX12_readLine 56 = .ok (.aload_n 0, 1) by decide +kernel) 0 rfl ?_
          obtain ⟨σ83, e82, h⟩ := bndO_some h
          refine y_callV (np := 0) (st := []) (as := []) 92 12 (sh_mo_readWay e82) q7_159 q7_156 q7_158 qs5_0 q1_15 (by decide) rfl (by decide) rfl (by decide) (by decide +kernel) (by decide) rfl (Nat.le_of_ble_eq_true rfl) (show decode cX12_readLine 57 = .ok (.invokevirtual 326, 3) by decide +kernel) rfl ?_
          refine y_pick [0, 1] rfl ?_
          exact hj11 _ h
      by_cases c84 : ¬ (blcmp (σ 92 10) 482854658917) = 0
      · rw [if_pos c84] at h
        refine y_if_ne_t (tgt := 48) (show decode cX12_readLine 41 = .ok (.ifCond .ne 7, 3) by decide +kernel) rfl c84 ?_
        refine y_pick [0, 1] rfl ?_
        exact hj9 _ h
      · rw [if_neg c84] at h
        refine y_if_ne_f (show decode cX12_readLine 41 = .ok (.ifCond .ne 7, 3) by decide +kernel) c84 (by decide) ?_
        refine y_aload_n (show decode cX12_readLine 44 = .ok (.aload_n 0, 1) by decide +kernel) 0 rfl ?_
        obtain ⟨σ86, e85, h⟩ := bndO_some h
        refine y_callV (np := 0) (st := []) (as := []) 92 12 (sh_mo_readPlace e85) q7_143 q7_140 q7_142 qs4_12 q1_15 (by decide) rfl (by decide) rfl (by decide) (by decide +kernel) (by decide) rfl (Nat.le_of_ble_eq_true rfl) (show decode cX12_readLine 45 = .ok (.invokevirtual 323, 3) by decide +kernel) rfl ?_
        refine y_pick [0, 1] rfl ?_
        exact hj9 _ h
    · rw [if_neg c5] at h
      refine y_if_ne_f (show decode cX12_readLine 28 = .ok (.ifCond .ne 4, 3) by decide +kernel) c5 (by decide) ?_
      cases h
      exact y_vret (show decode cX12_readLine 31 = .ok (.return_, 1) by decide +kernel) rfl
  refine bnd_j (Q := fun j87 => j87 = some τ → Y E MX12_readLine (yRm 6 0 0) (yQf E (150 + 0) 0 0 none (ov τ)) 20 [(0, .inr (.inr (92 + 1))), (1, .inr (.inl (σ 92 10)))] [] (ov σ) 150 0 0) (fun h => ?_) (fun j87 hj87 h => ?_) h
  · refine y_aload_n (show decode cX12_readLine 20 = .ok (.aload_n 0, 1) by decide +kernel) 0 rfl ?_
    obtain ⟨σ89, e88, h⟩ := bndO_some h
    refine y_callV (np := 0) (st := []) (as := []) 92 12 (sh_mo_misplaced e88) q7_135 q7_132 q7_134 qs4_10 q1_15 (by decide) rfl (by decide) rfl (by decide) (by decide +kernel) (by decide) rfl (Nat.le_of_ble_eq_true rfl) (show decode cX12_readLine 21 = .ok (.invokevirtual 284, 3) by decide +kernel) rfl ?_
    refine y_pick [0, 1] rfl ?_
    exact hj2 _ h
  by_cases c90 : ¬ (σ 92 8) = 3
  · rw [if_pos c90] at h
    refine y_icmp_ne_t (tgt := 20) (show decode cX12_readLine 10 = .ok (.if_icmp .ne 10, 3) by decide +kernel) rfl c90 ?_
    refine y_pick [1, 0] rfl ?_
    exact hj87 h
  · rw [if_neg c90] at h
    refine y_icmp_ne_f (show decode cX12_readLine 10 = .ok (.if_icmp .ne 10, 3) by decide +kernel) c90 (by decide) ?_
    refine y_aload_n (show decode cX12_readLine 13 = .ok (.aload_n 0, 1) by decide +kernel) 1 rfl ?_
    obtain ⟨r92, e91, h⟩ := bndO_some h
    refine y_callV (np := 0) (st := []) (as := []) 92 12 (sh_mo_isFull e91) q7_127 q7_124 q7_126 qs4_8 q1_15 (by decide) rfl (by decide) rfl (by decide) (by decide +kernel) (by decide) rfl (Nat.le_of_ble_eq_true rfl) (show decode cX12_readLine 14 = .ok (.invokevirtual 320, 3) by decide +kernel) rfl ?_
    by_cases c93 : r92 = 0
    · rw [if_pos c93] at h
      refine y_if_eq_t (tgt := 24) (show decode cX12_readLine 17 = .ok (.ifCond .eq 7, 3) by decide +kernel) rfl c93 ?_
      refine y_pick [1, 0] rfl ?_
      exact hj2 _ h
    · rw [if_neg c93] at h
      refine y_if_eq_f (show decode cX12_readLine 17 = .ok (.ifCond .eq 7, 3) by decide +kernel) c93 (by decide) ?_
      refine y_pick [1, 0] rfl ?_
      exact hj87 h
abbrev MX12_personMany : yM := (yX12_personMany, cX12_personMany, 1, some .int)
def mo_personMany (σ : ySt) : Option (Int) :=
  chkA 2 (σ 92 40) <|
  some (σ 97 ((σ 92 40)).toNat)
set_option maxHeartbeats 4000000 in
set_option maxRecDepth 10000 in
theorem sh_mo_personMany {E : yE} {σ : ySt} {ρ : Int} (h : mo_personMany σ = some ρ) : Con E MX12_personMany 0 0 0 [.inr (.inr (92 + 1))] 150 (ov σ) (some (.inl ρ)) (ov σ) := by
  unfold mo_personMany at h
  refine Con.ofY (by decide +kernel) (by simp [yWords, yCat]) (fun hok _ => ?_)
  show Y E MX12_personMany (yRm 0 0 0) (yQf E (150 + 0) 0 0 (some (.inl ρ)) (ov σ)) 0 [(0, .inr (.inr (92 + 1)))] [] (ov σ) 150 0 0
  refine y_aload_n (show decode cX12_personMany 0 = .ok (.aload_n 0, 1) by decide +kernel) 0 rfl ?_
  refine y_getf 92 12 13 27 (by decide) rfl (by decide) (by decide) q6_60 (show decode cX12_personMany 1 = .ok (.getfield 27, 3) by decide +kernel) (v := .inr (.inr (97 + 1))) rfl ?_
  refine y_aload_n (show decode cX12_personMany 4 = .ok (.aload_n 0, 1) by decide +kernel) 0 rfl ?_
  refine y_getf 92 12 40 311 (by decide) rfl (by decide) (by decide) q6_87 (show decode cX12_personMany 5 = .ok (.getfield 311, 3) by decide +kernel) (v := .inl (σ 92 40)) rfl ?_
  obtain ⟨c1, h⟩ := chkA_some h
  refine yo_iald 97 2 (by decide) rfl c1 (ov_at rfl) (show decode cX12_personMany 8 = .ok (.iaload, 1) by decide +kernel) ?_
  cases h
  exact y_iret (show decode cX12_personMany 9 = .ok (.ireturn, 1) by decide +kernel) rfl
abbrev MX12_stayHome : yM := (yX12_stayHome, cX12_stayHome, 4, none)
def mo_stayHome (N : Nat) (a : Int) (σ : ySt) : Option (ySt) :=
  loopS1 (fun k3 x1 σ2 =>
    if x1 ≥ 5 then
      some σ2
    else
      loopS2 (fun k8 x5 x6 σ7 =>
        if x6 ≥ 8 then
          chkI (x5 + 1) <|
          k3 (x5 + 1) σ7
        else
          chkI (8 * x5) <|
          chkI (a + (8 * x5)) <|
          chkI ((a + (8 * x5)) + x6) <|
          bndO (mo_personMany σ7) fun r15 =>
          bnd (fun (y16 : Int) =>
            chkA 80 ((a + (8 * x5)) + x6) <|
            bnd (yset σ7 136 (((a + (8 * x5)) + x6)).toNat y16) fun σ19 =>
            chkI (x6 + 1) <|
            k8 x5 (x6 + 1) σ19) fun j17 =>
          if x5 ≥ r15 then
            j17 0
          else
            chkI (5 * (σ7 92 40)) <|
            chkI ((5 * (σ7 92 40)) + x5) <|
            chkA 10 ((5 * (σ7 92 40)) + x5) <|
            j17 (σ7 111 (((5 * (σ7 92 40)) + x5)).toNat)) N x1 0 σ2) N 0 σ
set_option maxHeartbeats 4000000 in
set_option maxRecDepth 10000 in
theorem sh_mo_stayHome {E : yE} {N : Nat} {a : Int} {σ : ySt} {τ : ySt} (h : mo_stayHome N a σ = some τ) : Con E MX12_stayHome 1 0 0 [.inr (.inr (92 + 1)), .inl a] 150 (ov σ) none (ov τ) := by
  unfold mo_stayHome at h
  refine Con.ofY (by decide +kernel) (by simp [yWords, yCat]) (fun hok _ => ?_)
  show Y E MX12_stayHome (yRm 1 0 0) (yQf E (150 + 0) 0 0 none (ov τ)) 0 [(0, .inr (.inr (92 + 1))), (1, .inl a)] [] (ov σ) 150 0 0
  refine y_iconst (show decode cX12_stayHome 0 = .ok (.iconst 0, 1) by decide +kernel) rfl ?_
  refine y_istore_n (show decode cX12_stayHome 1 = .ok (.istore_n 2, 1) by decide +kernel) rfl (L1 := [(2, .inl 0), (0, .inr (.inr (92 + 1))), (1, .inl a)]) rfl ?_
  refine y_pick [1, 2, 0] rfl ?_
  refine loopS1_ind (P := fun x1 σ2 => Y E MX12_stayHome (yRm 1 0 0) (yQf E (150 + 0) 0 0 none (ov τ)) 2 [(0, .inr (.inr (92 + 1))), (1, .inl a), (2, .inl x1)] [] (ov σ2) 150 0 0) (fun k3 hk3 x1 σ2 h => ?_) _ _ _  h
  refine y_iload_n (show decode cX12_stayHome 2 = .ok (.iload_n 2, 1) by decide +kernel) 2 rfl ?_
  refine y_iconst (show decode cX12_stayHome 3 = .ok (.iconst 5, 1) by decide +kernel) rfl ?_
  by_cases c4 : x1 ≥ 5
  · rw [if_pos c4] at h
    refine y_icmp_ge_t (tgt := 65) (show decode cX12_stayHome 4 = .ok (.if_icmp .ge 61, 3) by decide +kernel) rfl c4 ?_
    cases h
    exact y_vret (show decode cX12_stayHome 65 = .ok (.return_, 1) by decide +kernel) rfl
  · rw [if_neg c4] at h
    refine y_icmp_ge_f (show decode cX12_stayHome 4 = .ok (.if_icmp .ge 61, 3) by decide +kernel) c4 (by decide) ?_
    refine y_iconst (show decode cX12_stayHome 7 = .ok (.iconst 0, 1) by decide +kernel) rfl ?_
    refine y_istore_n (show decode cX12_stayHome 8 = .ok (.istore_n 3, 1) by decide +kernel) rfl (L1 := [(3, .inl 0), (0, .inr (.inr (92 + 1))), (1, .inl a), (2, .inl x1)]) rfl ?_
    refine y_pick [1, 2, 3, 0] rfl ?_
    refine loopS2_ind (P := fun x5 x6 σ7 => Y E MX12_stayHome (yRm 1 0 0) (yQf E (150 + 0) 0 0 none (ov τ)) 9 [(0, .inr (.inr (92 + 1))), (1, .inl a), (2, .inl x5), (3, .inl x6)] [] (ov σ7) 150 0 0) (fun k8 hk8 x5 x6 σ7 h => ?_) _ _ _ _  h
    refine y_iload_n (show decode cX12_stayHome 9 = .ok (.iload_n 3, 1) by decide +kernel) 3 rfl ?_
    refine y_bipush (show decode cX12_stayHome 10 = .ok (.bipush 8, 2) by decide +kernel) rfl rfl ?_
    by_cases c9 : x6 ≥ 8
    · rw [if_pos c9] at h
      refine y_icmp_ge_t (tgt := 59) (show decode cX12_stayHome 12 = .ok (.if_icmp .ge 47, 3) by decide +kernel) rfl c9 ?_
      obtain ⟨c10, h⟩ := chkI_some h
      refine y_iinc (show decode cX12_stayHome 59 = .ok (.iinc 2 1, 3) by decide +kernel) 2 rfl c10 rfl (L1 := [(2, .inl (x5 + 1)), (0, .inr (.inr (92 + 1))), (1, .inl a), (3, .inl x6)]) rfl ?_
      refine y_goto (tgt := 2) (show decode cX12_stayHome 62 = .ok (.goto (-60), 3) by decide +kernel) rfl ?_
      refine y_pick [1, 2, 0] rfl ?_
      exact hk3 _ _ h
    · rw [if_neg c9] at h
      refine y_icmp_ge_f (show decode cX12_stayHome 12 = .ok (.if_icmp .ge 47, 3) by decide +kernel) c9 (by decide) ?_
      refine y_aload_n (show decode cX12_stayHome 15 = .ok (.aload_n 0, 1) by decide +kernel) 0 rfl ?_
      refine y_getf 92 12 66 147 (by decide) rfl (by decide) (by decide) q6_113 (show decode cX12_stayHome 16 = .ok (.getfield 147, 3) by decide +kernel) (v := .inr (.inr (136 + 1))) rfl ?_
      refine y_iload_n (show decode cX12_stayHome 19 = .ok (.iload_n 1, 1) by decide +kernel) 1 rfl ?_
      refine y_bipush (show decode cX12_stayHome 20 = .ok (.bipush 8, 2) by decide +kernel) rfl rfl ?_
      refine y_iload_n (show decode cX12_stayHome 22 = .ok (.iload_n 2, 1) by decide +kernel) 2 rfl ?_
      obtain ⟨c11, h⟩ := chkI_some h
      refine y_imul (show decode cX12_stayHome 23 = .ok (.imul, 1) by decide +kernel) c11 ?_
      obtain ⟨c12, h⟩ := chkI_some h
      refine y_iadd (show decode cX12_stayHome 24 = .ok (.iadd, 1) by decide +kernel) c12 ?_
      refine y_iload_n (show decode cX12_stayHome 25 = .ok (.iload_n 3, 1) by decide +kernel) 3 rfl ?_
      obtain ⟨c13, h⟩ := chkI_some h
      refine y_iadd (show decode cX12_stayHome 26 = .ok (.iadd, 1) by decide +kernel) c13 ?_
      refine y_iload_n (show decode cX12_stayHome 27 = .ok (.iload_n 2, 1) by decide +kernel) 2 rfl ?_
      refine y_aload_n (show decode cX12_stayHome 28 = .ok (.aload_n 0, 1) by decide +kernel) 0 rfl ?_
      obtain ⟨r15, e14, h⟩ := bndO_some h
      refine y_callV (np := 0) (st := [.inl x5, .inl ((a + (8 * x5)) + x6), .inr (.inr (136 + 1))]) (as := []) 92 12 (sh_mo_personMany e14) q6_42 q6_39 q6_41 qs4_1 q1_15 (by decide) rfl (by decide) rfl (by decide) (by decide +kernel) (by decide) rfl (Nat.le_of_ble_eq_true rfl) (show decode cX12_stayHome 29 = .ok (.invokevirtual 418, 3) by decide +kernel) rfl ?_
      refine bnd_j (Q := fun j17 => ∀ (y16 : Int), j17 y16 = some τ → Y E MX12_stayHome (yRm 1 0 0) (yQf E (150 + 0) 0 0 none (ov τ)) 52 [(0, .inr (.inr (92 + 1))), (1, .inl a), (2, .inl x5), (3, .inl x6)] [.inl y16, .inl ((a + (8 * x5)) + x6), .inr (.inr (136 + 1))] (ov σ7) 150 0 0) (fun y16 h => ?_) (fun j17 hj17 h => ?_) h
      · dsimp only at h
        obtain ⟨c18, h⟩ := chkA_some h
        obtain ⟨σ19, e20, h⟩ := bnd_i h
        refine yo_iast 136 80 (by decide) rfl c18 (ov_set1 e20 rfl) (show decode cX12_stayHome 52 = .ok (.iastore, 1) by decide +kernel) ?_
        obtain ⟨c21, h⟩ := chkI_some h
        refine y_iinc (show decode cX12_stayHome 53 = .ok (.iinc 3 1, 3) by decide +kernel) 3 rfl c21 rfl (L1 := [(3, .inl (x6 + 1)), (0, .inr (.inr (92 + 1))), (1, .inl a), (2, .inl x5)]) rfl ?_
        refine y_goto (tgt := 9) (show decode cX12_stayHome 56 = .ok (.goto (-47), 3) by decide +kernel) rfl ?_
        refine y_pick [1, 2, 3, 0] rfl ?_
        exact hk8 _ _ _ h
      by_cases c22 : x5 ≥ r15
      · rw [if_pos c22] at h
        refine y_icmp_ge_t (tgt := 51) (show decode cX12_stayHome 32 = .ok (.if_icmp .ge 19, 3) by decide +kernel) rfl c22 ?_
        refine y_iconst (show decode cX12_stayHome 51 = .ok (.iconst 0, 1) by decide +kernel) rfl ?_
        refine y_pick [0, 1, 2, 3] rfl ?_
        exact hj17 _ h
      · rw [if_neg c22] at h
        refine y_icmp_ge_f (show decode cX12_stayHome 32 = .ok (.if_icmp .ge 19, 3) by decide +kernel) c22 (by decide) ?_
        refine y_aload_n (show decode cX12_stayHome 35 = .ok (.aload_n 0, 1) by decide +kernel) 0 rfl ?_
        refine y_getf 92 12 27 71 (by decide) rfl (by decide) (by decide) q6_74 (show decode cX12_stayHome 36 = .ok (.getfield 71, 3) by decide +kernel) (v := .inr (.inr (111 + 1))) rfl ?_
        refine y_iconst (show decode cX12_stayHome 39 = .ok (.iconst 5, 1) by decide +kernel) rfl ?_
        refine y_aload_n (show decode cX12_stayHome 40 = .ok (.aload_n 0, 1) by decide +kernel) 0 rfl ?_
        refine y_getf 92 12 40 311 (by decide) rfl (by decide) (by decide) q6_87 (show decode cX12_stayHome 41 = .ok (.getfield 311, 3) by decide +kernel) (v := .inl (σ7 92 40)) rfl ?_
        obtain ⟨c23, h⟩ := chkI_some h
        refine y_imul (show decode cX12_stayHome 44 = .ok (.imul, 1) by decide +kernel) c23 ?_
        refine y_iload_n (show decode cX12_stayHome 45 = .ok (.iload_n 2, 1) by decide +kernel) 2 rfl ?_
        obtain ⟨c24, h⟩ := chkI_some h
        refine y_iadd (show decode cX12_stayHome 46 = .ok (.iadd, 1) by decide +kernel) c24 ?_
        obtain ⟨c25, h⟩ := chkA_some h
        refine yo_iald 111 10 (by decide) rfl c25 (ov_at rfl) (show decode cX12_stayHome 47 = .ok (.iaload, 1) by decide +kernel) ?_
        refine y_goto (tgt := 52) (show decode cX12_stayHome 48 = .ok (.goto 4, 3) by decide +kernel) rfl ?_
        refine y_pick [0, 1, 2, 3] rfl ?_
        exact hj17 _ h
abbrev MX12_begin : yM := (yX12_begin, cX12_begin, 2, none)
def mo_begin (N : Nat) (σ : ySt) : Option (ySt) :=
  loopS1 (fun k3 x1 σ2 =>
    if x1 ≥ 5 then
      bnd (yset σ2 92 73 0) fun σ5 =>
      bnd (yset σ5 92 74 0) fun σ7 =>
      bndO (mo_stayHome N 0 σ7) fun σ10 =>
      some σ10
    else
      bndO (mo_personMany σ2) fun r12 =>
      bnd (fun (y13 : Int) =>
        chkA 5 x1 <|
        bnd (yset σ2 138 (x1).toNat y13) fun σ16 =>
        chkA 5 x1 <|
        bnd (yset σ16 139 (x1).toNat (-1)) fun σ19 =>
        chkI (x1 + 1) <|
        k3 (x1 + 1) σ19) fun j14 =>
      if x1 ≥ r12 then
        j14 0
      else
        chkI (5 * (σ2 92 40)) <|
        chkI ((5 * (σ2 92 40)) + x1) <|
        chkA 10 ((5 * (σ2 92 40)) + x1) <|
        j14 (σ2 111 (((5 * (σ2 92 40)) + x1)).toNat)) N 0 σ
set_option maxHeartbeats 4000000 in
set_option maxRecDepth 10000 in
theorem sh_mo_begin {E : yE} {N : Nat} {σ : ySt} {τ : ySt} (h : mo_begin N σ = some τ) : Con E MX12_begin 2 0 0 [.inr (.inr (92 + 1))] 150 (ov σ) none (ov τ) := by
  unfold mo_begin at h
  refine Con.ofY (by decide +kernel) (by simp [yWords, yCat]) (fun hok _ => ?_)
  show Y E MX12_begin (yRm 2 0 0) (yQf E (150 + 0) 0 0 none (ov τ)) 0 [(0, .inr (.inr (92 + 1)))] [] (ov σ) 150 0 0
  refine y_iconst (show decode cX12_begin 0 = .ok (.iconst 0, 1) by decide +kernel) rfl ?_
  refine y_istore_n (show decode cX12_begin 1 = .ok (.istore_n 1, 1) by decide +kernel) rfl (L1 := [(1, .inl 0), (0, .inr (.inr (92 + 1)))]) rfl ?_
  refine y_pick [1, 0] rfl ?_
  refine loopS1_ind (P := fun x1 σ2 => Y E MX12_begin (yRm 2 0 0) (yQf E (150 + 0) 0 0 none (ov τ)) 2 [(0, .inr (.inr (92 + 1))), (1, .inl x1)] [] (ov σ2) 150 0 0) (fun k3 hk3 x1 σ2 h => ?_) _ _ _  h
  refine y_iload_n (show decode cX12_begin 2 = .ok (.iload_n 1, 1) by decide +kernel) 1 rfl ?_
  refine y_iconst (show decode cX12_begin 3 = .ok (.iconst 5, 1) by decide +kernel) rfl ?_
  by_cases c4 : x1 ≥ 5
  · rw [if_pos c4] at h
    refine y_icmp_ge_t (tgt := 51) (show decode cX12_begin 4 = .ok (.if_icmp .ge 47, 3) by decide +kernel) rfl c4 ?_
    refine y_aload_n (show decode cX12_begin 51 = .ok (.aload_n 0, 1) by decide +kernel) 0 rfl ?_
    refine y_iconst (show decode cX12_begin 52 = .ok (.iconst 0, 1) by decide +kernel) rfl ?_
    obtain ⟨σ5, e6, h⟩ := bnd_i h
    refine yo_putI 92 12 73 552 (by decide) rfl (by decide) (by decide) q6_120 rfl (show decode cX12_begin 53 = .ok (.putfield 552, 3) by decide +kernel) rfl rfl (ov_set1 e6 rfl) ?_
    refine y_aload_n (show decode cX12_begin 56 = .ok (.aload_n 0, 1) by decide +kernel) 0 rfl ?_
    refine y_iconst (show decode cX12_begin 57 = .ok (.iconst 0, 1) by decide +kernel) rfl ?_
    obtain ⟨σ7, e8, h⟩ := bnd_i h
    refine yo_putI 92 12 74 555 (by decide) rfl (by decide) (by decide) q6_121 rfl (show decode cX12_begin 58 = .ok (.putfield 555, 3) by decide +kernel) rfl rfl (ov_set1 e8 rfl) ?_
    refine y_aload_n (show decode cX12_begin 61 = .ok (.aload_n 0, 1) by decide +kernel) 0 rfl ?_
    refine y_iconst (show decode cX12_begin 62 = .ok (.iconst 0, 1) by decide +kernel) rfl ?_
    obtain ⟨σ10, e9, h⟩ := bndO_some h
    refine y_callV (np := 1) (st := []) (as := [.inl 0]) 92 12 (sh_mo_stayHome e9) q6_46 q6_43 q6_45 qs4_2 q1_15 (by decide) rfl (by decide) rfl (by decide) (by decide +kernel) (by decide) rfl (Nat.le_of_ble_eq_true rfl) (show decode cX12_begin 63 = .ok (.invokevirtual 527, 3) by decide +kernel) rfl ?_
    cases h
    exact y_vret (show decode cX12_begin 66 = .ok (.return_, 1) by decide +kernel) rfl
  · rw [if_neg c4] at h
    refine y_icmp_ge_f (show decode cX12_begin 4 = .ok (.if_icmp .ge 47, 3) by decide +kernel) c4 (by decide) ?_
    refine y_aload_n (show decode cX12_begin 7 = .ok (.aload_n 0, 1) by decide +kernel) 0 rfl ?_
    refine y_getf 92 12 71 153 (by decide) rfl (by decide) (by decide) q6_118 (show decode cX12_begin 8 = .ok (.getfield 153, 3) by decide +kernel) (v := .inr (.inr (138 + 1))) rfl ?_
    refine y_iload_n (show decode cX12_begin 11 = .ok (.iload_n 1, 1) by decide +kernel) 1 rfl ?_
    refine y_iload_n (show decode cX12_begin 12 = .ok (.iload_n 1, 1) by decide +kernel) 1 rfl ?_
    refine y_aload_n (show decode cX12_begin 13 = .ok (.aload_n 0, 1) by decide +kernel) 0 rfl ?_
    obtain ⟨r12, e11, h⟩ := bndO_some h
    refine y_callV (np := 0) (st := [.inl x1, .inl x1, .inr (.inr (138 + 1))]) (as := []) 92 12 (sh_mo_personMany e11) q6_42 q6_39 q6_41 qs4_1 q1_15 (by decide) rfl (by decide) rfl (by decide) (by decide +kernel) (by decide) rfl (Nat.le_of_ble_eq_true rfl) (show decode cX12_begin 14 = .ok (.invokevirtual 418, 3) by decide +kernel) rfl ?_
    refine bnd_j (Q := fun j14 => ∀ (y13 : Int), j14 y13 = some τ → Y E MX12_begin (yRm 2 0 0) (yQf E (150 + 0) 0 0 none (ov τ)) 37 [(0, .inr (.inr (92 + 1))), (1, .inl x1)] [.inl y13, .inl x1, .inr (.inr (138 + 1))] (ov σ2) 150 0 0) (fun y13 h => ?_) (fun j14 hj14 h => ?_) h
    · dsimp only at h
      obtain ⟨c15, h⟩ := chkA_some h
      obtain ⟨σ16, e17, h⟩ := bnd_i h
      refine yo_iast 138 5 (by decide) rfl c15 (ov_set1 e17 rfl) (show decode cX12_begin 37 = .ok (.iastore, 1) by decide +kernel) ?_
      refine y_aload_n (show decode cX12_begin 38 = .ok (.aload_n 0, 1) by decide +kernel) 0 rfl ?_
      refine y_getf 92 12 72 156 (by decide) rfl (by decide) (by decide) q6_119 (show decode cX12_begin 39 = .ok (.getfield 156, 3) by decide +kernel) (v := .inr (.inr (139 + 1))) rfl ?_
      refine y_iload_n (show decode cX12_begin 42 = .ok (.iload_n 1, 1) by decide +kernel) 1 rfl ?_
      refine y_iconst (show decode cX12_begin 43 = .ok (.iconst (-1), 1) by decide +kernel) rfl ?_
      obtain ⟨c18, h⟩ := chkA_some h
      obtain ⟨σ19, e20, h⟩ := bnd_i h
      refine yo_iast 139 5 (by decide) rfl c18 (ov_set1 e20 rfl) (show decode cX12_begin 44 = .ok (.iastore, 1) by decide +kernel) ?_
      obtain ⟨c21, h⟩ := chkI_some h
      refine y_iinc (show decode cX12_begin 45 = .ok (.iinc 1 1, 3) by decide +kernel) 1 rfl c21 rfl (L1 := [(1, .inl (x1 + 1)), (0, .inr (.inr (92 + 1)))]) rfl ?_
      refine y_goto (tgt := 2) (show decode cX12_begin 48 = .ok (.goto (-46), 3) by decide +kernel) rfl ?_
      refine y_pick [1, 0] rfl ?_
      exact hk3 _ _ h
    by_cases c22 : x1 ≥ r12
    · rw [if_pos c22] at h
      refine y_icmp_ge_t (tgt := 36) (show decode cX12_begin 17 = .ok (.if_icmp .ge 19, 3) by decide +kernel) rfl c22 ?_
      refine y_iconst (show decode cX12_begin 36 = .ok (.iconst 0, 1) by decide +kernel) rfl ?_
      refine y_pick [0, 1] rfl ?_
      exact hj14 _ h
    · rw [if_neg c22] at h
      refine y_icmp_ge_f (show decode cX12_begin 17 = .ok (.if_icmp .ge 19, 3) by decide +kernel) c22 (by decide) ?_
      refine y_aload_n (show decode cX12_begin 20 = .ok (.aload_n 0, 1) by decide +kernel) 0 rfl ?_
      refine y_getf 92 12 27 71 (by decide) rfl (by decide) (by decide) q6_74 (show decode cX12_begin 21 = .ok (.getfield 71, 3) by decide +kernel) (v := .inr (.inr (111 + 1))) rfl ?_
      refine y_iconst (show decode cX12_begin 24 = .ok (.iconst 5, 1) by decide +kernel) rfl ?_
      refine y_aload_n (show decode cX12_begin 25 = .ok (.aload_n 0, 1) by decide +kernel) 0 rfl ?_
      refine y_getf 92 12 40 311 (by decide) rfl (by decide) (by decide) q6_87 (show decode cX12_begin 26 = .ok (.getfield 311, 3) by decide +kernel) (v := .inl (σ2 92 40)) rfl ?_
      obtain ⟨c23, h⟩ := chkI_some h
      refine y_imul (show decode cX12_begin 29 = .ok (.imul, 1) by decide +kernel) c23 ?_
      refine y_iload_n (show decode cX12_begin 30 = .ok (.iload_n 1, 1) by decide +kernel) 1 rfl ?_
      obtain ⟨c24, h⟩ := chkI_some h
      refine y_iadd (show decode cX12_begin 31 = .ok (.iadd, 1) by decide +kernel) c24 ?_
      obtain ⟨c25, h⟩ := chkA_some h
      refine yo_iald 111 10 (by decide) rfl c25 (ov_at rfl) (show decode cX12_begin 32 = .ok (.iaload, 1) by decide +kernel) ?_
      refine y_goto (tgt := 37) (show decode cX12_begin 33 = .ok (.goto 4, 3) by decide +kernel) rfl ?_
      refine y_pick [0, 1] rfl ?_
      exact hj14 _ h
abbrev MX12_town : yM := (yX12_town, cX12_town, 2, some .int)
def mo_town (N : Nat) (σ : ySt) : Option (Int × ySt) :=
  bndO (mo_takeTape N σ) fun σ2 =>
  chkI (1 - (σ2 92 40)) <|
  bnd (yset σ2 92 41 (1 - (σ2 92 40))) fun σ4 =>
  bndO (mo_clearBank N σ4) fun σ7 =>
  bndO (mo_goOn N σ7) fun σ9 =>
  loopS0 (fun k11 σ10 =>
    bndO (mo_isGood σ10) fun r13 =>
    bnd (bndO (mo_isGood σ10) fun r16 =>
      if ¬ r16 = 0 then
        bnd (yset σ10 92 40 (σ10 92 41)) fun σ18 =>
        bnd (yset σ18 92 81 0) fun σ20 =>
        loopS1 (fun k24 x22 σ23 =>
          if x22 ≥ 3 then
            bndO (mo_begin N σ23) fun σ27 =>
            chkA 2 (σ27 92 40) <|
            some ((σ27 97 ((σ27 92 40)).toNat), σ27)
          else
            chkA 3 x22 <|
            bnd (yset σ23 146 (x22).toNat (-1)) fun σ30 =>
            chkI (x22 + 1) <|
            k24 (x22 + 1) σ30) N 0 σ20
      else
        some ((-1), σ10)) fun j14 =>
    if r13 = 0 then
      j14
    else
      if (σ10 92 8) = 0 then
        j14
      else
        bndO (mo_readLine N σ10) fun σ36 =>
        k11 σ36) N σ9
set_option maxHeartbeats 4000000 in
set_option maxRecDepth 10000 in
theorem sh_mo_town {E : yE} {N : Nat} {σ : ySt} {ρ : Int} {τ : ySt} (h : mo_town N σ = some (ρ, τ)) : Con E MX12_town 7 0 0 [.inr (.inr (92 + 1))] 150 (ov σ) (some (.inl ρ)) (ov τ) := by
  unfold mo_town at h
  refine Con.ofY (by decide +kernel) (by simp [yWords, yCat]) (fun hok _ => ?_)
  show Y E MX12_town (yRm 7 0 0) (yQf E (150 + 0) 0 0 (some (.inl ρ)) (ov τ)) 0 [(0, .inr (.inr (92 + 1)))] [] (ov σ) 150 0 0
  refine y_aload_n (show decode cX12_town 0 = .ok (.aload_n 0, 1) by decide +kernel) 0 rfl ?_
  obtain ⟨σ2, e1, h⟩ := bndO_some h
  refine y_callV (np := 0) (st := []) (as := []) 92 12 (sh_mo_takeTape e1) q7_76 q7_73 q7_75 qs4_3 q1_15 (by decide) rfl (by decide) rfl (by decide) (by decide +kernel) (by decide) rfl (Nat.le_of_ble_eq_true rfl) (show decode cX12_town 1 = .ok (.invokevirtual 308, 3) by decide +kernel) rfl ?_
  refine y_aload_n (show decode cX12_town 4 = .ok (.aload_n 0, 1) by decide +kernel) 0 rfl ?_
  refine y_iconst (show decode cX12_town 5 = .ok (.iconst 1, 1) by decide +kernel) rfl ?_
  refine y_aload_n (show decode cX12_town 6 = .ok (.aload_n 0, 1) by decide +kernel) 0 rfl ?_
  refine y_getf 92 12 40 311 (by decide) rfl (by decide) (by decide) q6_87 (show decode cX12_town 7 = .ok (.getfield 311, 3) by decide +kernel) (v := .inl (σ2 92 40)) rfl ?_
  obtain ⟨c3, h⟩ := chkI_some h
  refine y_isub (show decode cX12_town 10 = .ok (.isub, 1) by decide +kernel) c3 ?_
  obtain ⟨σ4, e5, h⟩ := bnd_i h
  refine yo_putI 92 12 41 301 (by decide) rfl (by decide) (by decide) q6_88 rfl (show decode cX12_town 11 = .ok (.putfield 301, 3) by decide +kernel) rfl rfl (ov_set1 e5 rfl) ?_
  refine y_aload_n (show decode cX12_town 14 = .ok (.aload_n 0, 1) by decide +kernel) 0 rfl ?_
  obtain ⟨σ7, e6, h⟩ := bndO_some h
  refine y_callV (np := 0) (st := []) (as := []) 92 12 (sh_mo_clearBank e6) q6_33 q6_30 q6_32 qs3_15 q1_15 (by decide) rfl (by decide) rfl (by decide) (by decide +kernel) (by decide) rfl (Nat.le_of_ble_eq_true rfl) (show decode cX12_town 15 = .ok (.invokevirtual 189, 3) by decide +kernel) rfl ?_
  refine y_aload_n (show decode cX12_town 18 = .ok (.aload_n 0, 1) by decide +kernel) 0 rfl ?_
  obtain ⟨σ9, e8, h⟩ := bndO_some h
  refine y_callV (np := 0) (st := []) (as := []) 92 12 (sh_mo_goOn e8) q7_80 q7_77 q7_79 qs4_4 q1_15 (by decide) rfl (by decide) rfl (by decide) (by decide +kernel) (by decide) rfl (Nat.le_of_ble_eq_true rfl) (show decode cX12_town 19 = .ok (.invokevirtual 281, 3) by decide +kernel) rfl ?_
  refine y_pick [0] rfl ?_
  refine loopS0_ind (P := fun σ10 => Y E MX12_town (yRm 7 0 0) (yQf E (150 + 0) 0 0 (some (.inl ρ)) (ov τ)) 22 [(0, .inr (.inr (92 + 1)))] [] (ov σ10) 150 0 0) (fun k11 hk11 σ10 h => ?_) _ _  h
  refine y_aload_n (show decode cX12_town 22 = .ok (.aload_n 0, 1) by decide +kernel) 0 rfl ?_
  obtain ⟨r13, e12, h⟩ := bndO_some h
  refine y_callV (np := 0) (st := []) (as := []) 92 12 (sh_mo_isGood e12) q7_119 q7_116 q7_118 qs4_6 q1_15 (by decide) rfl (by decide) rfl (by decide) (by decide +kernel) (by decide) rfl (Nat.le_of_ble_eq_true rfl) (show decode cX12_town 23 = .ok (.invokevirtual 277, 3) by decide +kernel) rfl ?_
  refine bnd_j (Q := fun j14 => j14 = some (ρ, τ) → Y E MX12_town (yRm 7 0 0) (yQf E (150 + 0) 0 0 (some (.inl ρ)) (ov τ)) 43 [(0, .inr (.inr (92 + 1)))] [] (ov σ10) 150 0 0) (fun h => ?_) (fun j14 hj14 h => ?_) h
  · refine y_aload_n (show decode cX12_town 43 = .ok (.aload_n 0, 1) by decide +kernel) 0 rfl ?_
    obtain ⟨r16, e15, h⟩ := bndO_some h
    refine y_callV (np := 0) (st := []) (as := []) 92 12 (sh_mo_isGood e15) q7_119 q7_116 q7_118 qs4_6 q1_15 (by decide) rfl (by decide) rfl (by decide) (by decide +kernel) (by decide) rfl (Nat.le_of_ble_eq_true rfl) (show decode cX12_town 44 = .ok (.invokevirtual 277, 3) by decide +kernel) rfl ?_
    by_cases c17 : ¬ r16 = 0
    · rw [if_pos c17] at h
      refine y_if_ne_t (tgt := 52) (show decode cX12_town 47 = .ok (.ifCond .ne 5, 3) by decide +kernel) rfl c17 ?_
      refine y_aload_n (show decode cX12_town 52 = .ok (.aload_n 0, 1) by decide +kernel) 0 rfl ?_
      refine y_aload_n (show decode cX12_town 53 = .ok (.aload_n 0, 1) by decide +kernel) 0 rfl ?_
      refine y_getf 92 12 41 301 (by decide) rfl (by decide) (by decide) q6_88 (show decode cX12_town 54 = .ok (.getfield 301, 3) by decide +kernel) (v := .inl (σ10 92 41)) rfl ?_
      obtain ⟨σ18, e19, h⟩ := bnd_i h
      refine yo_putI 92 12 40 311 (by decide) rfl (by decide) (by decide) q6_87 rfl (show decode cX12_town 57 = .ok (.putfield 311, 3) by decide +kernel) rfl rfl (ov_set1 e19 rfl) ?_
      refine y_aload_n (show decode cX12_town 60 = .ok (.aload_n 0, 1) by decide +kernel) 0 rfl ?_
      refine y_iconst (show decode cX12_town 61 = .ok (.iconst 0, 1) by decide +kernel) rfl ?_
      obtain ⟨σ20, e21, h⟩ := bnd_i h
      refine yo_putI 92 12 81 317 (by decide) rfl (by decide) (by decide) q6_128 rfl (show decode cX12_town 62 = .ok (.putfield 317, 3) by decide +kernel) rfl rfl (ov_set1 e21 rfl) ?_
      refine y_iconst (show decode cX12_town 65 = .ok (.iconst 0, 1) by decide +kernel) rfl ?_
      refine y_istore_n (show decode cX12_town 66 = .ok (.istore_n 1, 1) by decide +kernel) rfl (L1 := [(1, .inl 0), (0, .inr (.inr (92 + 1)))]) rfl ?_
      refine y_pick [1, 0] rfl ?_
      refine loopS1_ind (P := fun x22 σ23 => Y E MX12_town (yRm 7 0 0) (yQf E (150 + 0) 0 0 (some (.inl ρ)) (ov τ)) 67 [(0, .inr (.inr (92 + 1))), (1, .inl x22)] [] (ov σ23) 150 0 0) (fun k24 hk24 x22 σ23 h => ?_) _ _ _  h
      refine y_iload_n (show decode cX12_town 67 = .ok (.iload_n 1, 1) by decide +kernel) 1 rfl ?_
      refine y_iconst (show decode cX12_town 68 = .ok (.iconst 3, 1) by decide +kernel) rfl ?_
      by_cases c25 : x22 ≥ 3
      · rw [if_pos c25] at h
        refine y_icmp_ge_t (tgt := 85) (show decode cX12_town 69 = .ok (.if_icmp .ge 16, 3) by decide +kernel) rfl c25 ?_
        refine y_aload_n (show decode cX12_town 85 = .ok (.aload_n 0, 1) by decide +kernel) 0 rfl ?_
        obtain ⟨σ27, e26, h⟩ := bndO_some h
        refine y_callV (np := 0) (st := []) (as := []) 92 12 (sh_mo_begin e26) q6_38 q6_35 q6_37 qs4_0 q1_15 (by decide) rfl (by decide) rfl (by decide) (by decide +kernel) (by decide) rfl (Nat.le_of_ble_eq_true rfl) (show decode cX12_town 86 = .ok (.invokevirtual 192, 3) by decide +kernel) rfl ?_
        refine y_aload_n (show decode cX12_town 89 = .ok (.aload_n 0, 1) by decide +kernel) 0 rfl ?_
        refine y_getf 92 12 13 27 (by decide) rfl (by decide) (by decide) q6_60 (show decode cX12_town 90 = .ok (.getfield 27, 3) by decide +kernel) (v := .inr (.inr (97 + 1))) rfl ?_
        refine y_aload_n (show decode cX12_town 93 = .ok (.aload_n 0, 1) by decide +kernel) 0 rfl ?_
        refine y_getf 92 12 40 311 (by decide) rfl (by decide) (by decide) q6_87 (show decode cX12_town 94 = .ok (.getfield 311, 3) by decide +kernel) (v := .inl (σ27 92 40)) rfl ?_
        obtain ⟨c28, h⟩ := chkA_some h
        refine yo_iald 97 2 (by decide) rfl c28 (ov_at rfl) (show decode cX12_town 97 = .ok (.iaload, 1) by decide +kernel) ?_
        cases h
        exact y_iret (show decode cX12_town 98 = .ok (.ireturn, 1) by decide +kernel) rfl
      · rw [if_neg c25] at h
        refine y_icmp_ge_f (show decode cX12_town 69 = .ok (.if_icmp .ge 16, 3) by decide +kernel) c25 (by decide) ?_
        refine y_aload_n (show decode cX12_town 72 = .ok (.aload_n 0, 1) by decide +kernel) 0 rfl ?_
        refine y_getf 92 12 83 177 (by decide) rfl (by decide) (by decide) q6_130 (show decode cX12_town 73 = .ok (.getfield 177, 3) by decide +kernel) (v := .inr (.inr (146 + 1))) rfl ?_
        refine y_iload_n (show decode cX12_town 76 = .ok (.iload_n 1, 1) by decide +kernel) 1 rfl ?_
        refine y_iconst (show decode cX12_town 77 = .ok (.iconst (-1), 1) by decide +kernel) rfl ?_
        obtain ⟨c29, h⟩ := chkA_some h
        obtain ⟨σ30, e31, h⟩ := bnd_i h
        refine yo_iast 146 3 (by decide) rfl c29 (ov_set1 e31 rfl) (show decode cX12_town 78 = .ok (.iastore, 1) by decide +kernel) ?_
        obtain ⟨c32, h⟩ := chkI_some h
        refine y_iinc (show decode cX12_town 79 = .ok (.iinc 1 1, 3) by decide +kernel) 1 rfl c32 rfl (L1 := [(1, .inl (x22 + 1)), (0, .inr (.inr (92 + 1)))]) rfl ?_
        refine y_goto (tgt := 67) (show decode cX12_town 82 = .ok (.goto (-15), 3) by decide +kernel) rfl ?_
        refine y_pick [1, 0] rfl ?_
        exact hk24 _ _ h
    · rw [if_neg c17] at h
      refine y_if_ne_f (show decode cX12_town 47 = .ok (.ifCond .ne 5, 3) by decide +kernel) c17 (by decide) ?_
      refine y_iconst (show decode cX12_town 50 = .ok (.iconst (-1), 1) by decide +kernel) rfl ?_
      cases h
      exact y_iret (show decode cX12_town 51 = .ok (.ireturn, 1) by decide +kernel) rfl
  by_cases c33 : r13 = 0
  · rw [if_pos c33] at h
    refine y_if_eq_t (tgt := 43) (show decode cX12_town 26 = .ok (.ifCond .eq 17, 3) by decide +kernel) rfl c33 ?_
    refine y_pick [0] rfl ?_
    exact hj14 h
  · rw [if_neg c33] at h
    refine y_if_eq_f (show decode cX12_town 26 = .ok (.ifCond .eq 17, 3) by decide +kernel) c33 (by decide) ?_
    refine y_aload_n (show decode cX12_town 29 = .ok (.aload_n 0, 1) by decide +kernel) 0 rfl ?_
    refine y_getf 92 12 8 249 (by decide) rfl (by decide) (by decide) q6_55 (show decode cX12_town 30 = .ok (.getfield 249, 3) by decide +kernel) (v := .inl (σ10 92 8)) rfl ?_
    by_cases c34 : (σ10 92 8) = 0
    · rw [if_pos c34] at h
      refine y_if_eq_t (tgt := 43) (show decode cX12_town 33 = .ok (.ifCond .eq 10, 3) by decide +kernel) rfl c34 ?_
      refine y_pick [0] rfl ?_
      exact hj14 h
    · rw [if_neg c34] at h
      refine y_if_eq_f (show decode cX12_town 33 = .ok (.ifCond .eq 10, 3) by decide +kernel) c34 (by decide) ?_
      refine y_aload_n (show decode cX12_town 36 = .ok (.aload_n 0, 1) by decide +kernel) 0 rfl ?_
      obtain ⟨σ36, e35, h⟩ := bndO_some h
      refine y_callV (np := 0) (st := []) (as := []) 92 12 (sh_mo_readLine e35) q7_123 q7_120 q7_122 qs4_7 q1_15 (by decide) rfl (by decide) rfl (by decide) (by decide +kernel) (by decide) rfl (Nat.le_of_ble_eq_true rfl) (show decode cX12_town 37 = .ok (.invokevirtual 314, 3) by decide +kernel) rfl ?_
      refine y_goto (tgt := 22) (show decode cX12_town 40 = .ok (.goto (-18), 3) by decide +kernel) rfl ?_
      refine y_pick [0] rfl ?_
      exact hk11 _ h
abbrev MX12_two : yM := (yX12_two, cX12_two, 3, some .int)
def mo_two (a : Int) (b : Int) (c : Int) (σ : ySt) : Option (Int) :=
  if a = 38 then
    if b = 0 then
      some 0
    else
      if c = 0 then
        some 0
      else
        some 1
  else
  if a = 39 then
    if ¬ b = 0 then
      some 1
    else
      if c = 0 then
        some 0
      else
        some 1
  else
  if a = 40 then
    if ¬ b = 0 then
      some 1
    else
      if c = 0 then
        some 0
      else
        some 1
  else
  if a = 41 then
    if ¬ b = 0 then
      some 1
    else
      if c = 0 then
        some 0
      else
        some 1
  else
  if a = 42 then
    some (w32 (b * c))
  else
  if a = 43 then
    some (w32 (b + c))
  else
  if a = 44 then
    if ¬ b = 0 then
      some 1
    else
      if c = 0 then
        some 0
      else
        some 1
  else
  if a = 45 then
    some (w32 (b - c))
  else
  if a = 46 then
    if ¬ b = 0 then
      some 1
    else
      if c = 0 then
        some 0
      else
        some 1
  else
  if a = 47 then
    if ¬ c = 0 then
      chk ((c : Int) ≠ 0) <|
      some (w32 ((b : Int).tdiv c))
    else
      some 0
  else
  if a = 48 then
    if ¬ b = 0 then
      some 1
    else
      if c = 0 then
        some 0
      else
        some 1
  else
  if a = 49 then
    if ¬ b = 0 then
      some 1
    else
      if c = 0 then
        some 0
      else
        some 1
  else
  if a = 50 then
    if ¬ b = 0 then
      some 1
    else
      if c = 0 then
        some 0
      else
        some 1
  else
  if a = 51 then
    if ¬ b = 0 then
      some 1
    else
      if c = 0 then
        some 0
      else
        some 1
  else
  if a = 52 then
    if ¬ b = 0 then
      some 1
    else
      if c = 0 then
        some 0
      else
        some 1
  else
  if a = 53 then
    if ¬ b = 0 then
      some 1
    else
      if c = 0 then
        some 0
      else
        some 1
  else
  if a = 54 then
    if ¬ b = 0 then
      some 1
    else
      if c = 0 then
        some 0
      else
        some 1
  else
  if a = 55 then
    if ¬ b = 0 then
      some 1
    else
      if c = 0 then
        some 0
      else
        some 1
  else
  if a = 56 then
    if ¬ b = 0 then
      some 1
    else
      if c = 0 then
        some 0
      else
        some 1
  else
  if a = 57 then
    if ¬ b = 0 then
      some 1
    else
      if c = 0 then
        some 0
      else
        some 1
  else
  if a = 58 then
    if ¬ b = 0 then
      some 1
    else
      if c = 0 then
        some 0
      else
        some 1
  else
  if a = 59 then
    if ¬ b = 0 then
      some 1
    else
      if c = 0 then
        some 0
      else
        some 1
  else
  if a = 60 then
    if b ≥ c then
      some 0
    else
      some 1
  else
  if a = 61 then
    if ¬ b = c then
      some 0
    else
      some 1
  else
  if a = 62 then
    if b ≤ c then
      some 0
    else
      some 1
  else
  if ¬ b = 0 then
      some 1
    else
      if c = 0 then
        some 0
      else
        some 1
set_option maxHeartbeats 4000000 in
set_option maxRecDepth 10000 in
theorem sh_mo_two {E : yE} {a : Int} {b : Int} {c : Int} {σ : ySt} {ρ : Int} (h : mo_two a b c σ = some ρ) : Con E MX12_two 0 0 0 [.inl a, .inl b, .inl c] 150 (ov σ) (some (.inl ρ)) (ov σ) := by
  unfold mo_two at h
  refine Con.ofY (by decide +kernel) (by simp [yWords, yCat]) (fun hok _ => ?_)
  show Y E MX12_two (yRm 0 0 0) (yQf E (150 + 0) 0 0 (some (.inl ρ)) (ov σ)) 0 [(0, .inl a), (1, .inl b), (2, .inl c)] [] (ov σ) 150 0 0
  refine y_iload_n (show decode cX12_two 0 = .ok (.iload_n 0, 1) by decide +kernel) 0 rfl ?_
  by_cases c1 : a = 38
  · rw [if_pos c1] at h
    refine y_tableIn (off := 172) (tgt := 173) (show decode cX12_two 1 = .ok (.tableswitch 186 38 62 #[172, 186, 186, 186, 123, 115, 186, 119, 186, 127, 186, 186, 186, 186, 186, 186, 186, 186, 186, 186, 186, 186, 139, 161, 150], 115) by decide +kernel) (by omega) (by omega) (by rw [c1]; rfl) rfl ?_
    refine y_iload_n (show decode cX12_two 173 = .ok (.iload_n 1, 1) by decide +kernel) 1 rfl ?_
    by_cases c2 : b = 0
    · rw [if_pos c2] at h
      refine y_if_eq_t (tgt := 185) (show decode cX12_two 174 = .ok (.ifCond .eq 11, 3) by decide +kernel) rfl c2 ?_
      refine y_iconst (show decode cX12_two 185 = .ok (.iconst 0, 1) by decide +kernel) rfl ?_
      cases h
      exact y_iret (show decode cX12_two 186 = .ok (.ireturn, 1) by decide +kernel) rfl
    · rw [if_neg c2] at h
      refine y_if_eq_f (show decode cX12_two 174 = .ok (.ifCond .eq 11, 3) by decide +kernel) c2 (by decide) ?_
      refine y_iload_n (show decode cX12_two 177 = .ok (.iload_n 2, 1) by decide +kernel) 2 rfl ?_
      by_cases c3 : c = 0
      · rw [if_pos c3] at h
        refine y_if_eq_t (tgt := 185) (show decode cX12_two 178 = .ok (.ifCond .eq 7, 3) by decide +kernel) rfl c3 ?_
        refine y_iconst (show decode cX12_two 185 = .ok (.iconst 0, 1) by decide +kernel) rfl ?_
        cases h
        exact y_iret (show decode cX12_two 186 = .ok (.ireturn, 1) by decide +kernel) rfl
      · rw [if_neg c3] at h
        refine y_if_eq_f (show decode cX12_two 178 = .ok (.ifCond .eq 7, 3) by decide +kernel) c3 (by decide) ?_
        refine y_iconst (show decode cX12_two 181 = .ok (.iconst 1, 1) by decide +kernel) rfl ?_
        refine y_goto (tgt := 186) (show decode cX12_two 182 = .ok (.goto 4, 3) by decide +kernel) rfl ?_
        cases h
        exact y_iret (show decode cX12_two 186 = .ok (.ireturn, 1) by decide +kernel) rfl
  rw [if_neg c1] at h
  by_cases c4 : a = 39
  · rw [if_pos c4] at h
    refine y_tableIn (off := 186) (tgt := 187) (show decode cX12_two 1 = .ok (.tableswitch 186 38 62 #[172, 186, 186, 186, 123, 115, 186, 119, 186, 127, 186, 186, 186, 186, 186, 186, 186, 186, 186, 186, 186, 186, 139, 161, 150], 115) by decide +kernel) (by omega) (by omega) (by rw [c4]; rfl) rfl ?_
    refine y_iload_n (show decode cX12_two 187 = .ok (.iload_n 1, 1) by decide +kernel) 1 rfl ?_
    by_cases c5 : ¬ b = 0
    · rw [if_pos c5] at h
      refine y_if_ne_t (tgt := 195) (show decode cX12_two 188 = .ok (.ifCond .ne 7, 3) by decide +kernel) rfl c5 ?_
      refine y_iconst (show decode cX12_two 195 = .ok (.iconst 1, 1) by decide +kernel) rfl ?_
      refine y_goto (tgt := 200) (show decode cX12_two 196 = .ok (.goto 4, 3) by decide +kernel) rfl ?_
      cases h
      exact y_iret (show decode cX12_two 200 = .ok (.ireturn, 1) by decide +kernel) rfl
    · rw [if_neg c5] at h
      refine y_if_ne_f (show decode cX12_two 188 = .ok (.ifCond .ne 7, 3) by decide +kernel) c5 (by decide) ?_
      refine y_iload_n (show decode cX12_two 191 = .ok (.iload_n 2, 1) by decide +kernel) 2 rfl ?_
      by_cases c6 : c = 0
      · rw [if_pos c6] at h
        refine y_if_eq_t (tgt := 199) (show decode cX12_two 192 = .ok (.ifCond .eq 7, 3) by decide +kernel) rfl c6 ?_
        refine y_iconst (show decode cX12_two 199 = .ok (.iconst 0, 1) by decide +kernel) rfl ?_
        cases h
        exact y_iret (show decode cX12_two 200 = .ok (.ireturn, 1) by decide +kernel) rfl
      · rw [if_neg c6] at h
        refine y_if_eq_f (show decode cX12_two 192 = .ok (.ifCond .eq 7, 3) by decide +kernel) c6 (by decide) ?_
        refine y_iconst (show decode cX12_two 195 = .ok (.iconst 1, 1) by decide +kernel) rfl ?_
        refine y_goto (tgt := 200) (show decode cX12_two 196 = .ok (.goto 4, 3) by decide +kernel) rfl ?_
        cases h
        exact y_iret (show decode cX12_two 200 = .ok (.ireturn, 1) by decide +kernel) rfl
  rw [if_neg c4] at h
  by_cases c7 : a = 40
  · rw [if_pos c7] at h
    refine y_tableIn (off := 186) (tgt := 187) (show decode cX12_two 1 = .ok (.tableswitch 186 38 62 #[172, 186, 186, 186, 123, 115, 186, 119, 186, 127, 186, 186, 186, 186, 186, 186, 186, 186, 186, 186, 186, 186, 139, 161, 150], 115) by decide +kernel) (by omega) (by omega) (by rw [c7]; rfl) rfl ?_
    refine y_iload_n (show decode cX12_two 187 = .ok (.iload_n 1, 1) by decide +kernel) 1 rfl ?_
    by_cases c8 : ¬ b = 0
    · rw [if_pos c8] at h
      refine y_if_ne_t (tgt := 195) (show decode cX12_two 188 = .ok (.ifCond .ne 7, 3) by decide +kernel) rfl c8 ?_
      refine y_iconst (show decode cX12_two 195 = .ok (.iconst 1, 1) by decide +kernel) rfl ?_
      refine y_goto (tgt := 200) (show decode cX12_two 196 = .ok (.goto 4, 3) by decide +kernel) rfl ?_
      cases h
      exact y_iret (show decode cX12_two 200 = .ok (.ireturn, 1) by decide +kernel) rfl
    · rw [if_neg c8] at h
      refine y_if_ne_f (show decode cX12_two 188 = .ok (.ifCond .ne 7, 3) by decide +kernel) c8 (by decide) ?_
      refine y_iload_n (show decode cX12_two 191 = .ok (.iload_n 2, 1) by decide +kernel) 2 rfl ?_
      by_cases c9 : c = 0
      · rw [if_pos c9] at h
        refine y_if_eq_t (tgt := 199) (show decode cX12_two 192 = .ok (.ifCond .eq 7, 3) by decide +kernel) rfl c9 ?_
        refine y_iconst (show decode cX12_two 199 = .ok (.iconst 0, 1) by decide +kernel) rfl ?_
        cases h
        exact y_iret (show decode cX12_two 200 = .ok (.ireturn, 1) by decide +kernel) rfl
      · rw [if_neg c9] at h
        refine y_if_eq_f (show decode cX12_two 192 = .ok (.ifCond .eq 7, 3) by decide +kernel) c9 (by decide) ?_
        refine y_iconst (show decode cX12_two 195 = .ok (.iconst 1, 1) by decide +kernel) rfl ?_
        refine y_goto (tgt := 200) (show decode cX12_two 196 = .ok (.goto 4, 3) by decide +kernel) rfl ?_
        cases h
        exact y_iret (show decode cX12_two 200 = .ok (.ireturn, 1) by decide +kernel) rfl
  rw [if_neg c7] at h
  by_cases c10 : a = 41
  · rw [if_pos c10] at h
    refine y_tableIn (off := 186) (tgt := 187) (show decode cX12_two 1 = .ok (.tableswitch 186 38 62 #[172, 186, 186, 186, 123, 115, 186, 119, 186, 127, 186, 186, 186, 186, 186, 186, 186, 186, 186, 186, 186, 186, 139, 161, 150], 115) by decide +kernel) (by omega) (by omega) (by rw [c10]; rfl) rfl ?_
    refine y_iload_n (show decode cX12_two 187 = .ok (.iload_n 1, 1) by decide +kernel) 1 rfl ?_
    by_cases c11 : ¬ b = 0
    · rw [if_pos c11] at h
      refine y_if_ne_t (tgt := 195) (show decode cX12_two 188 = .ok (.ifCond .ne 7, 3) by decide +kernel) rfl c11 ?_
      refine y_iconst (show decode cX12_two 195 = .ok (.iconst 1, 1) by decide +kernel) rfl ?_
      refine y_goto (tgt := 200) (show decode cX12_two 196 = .ok (.goto 4, 3) by decide +kernel) rfl ?_
      cases h
      exact y_iret (show decode cX12_two 200 = .ok (.ireturn, 1) by decide +kernel) rfl
    · rw [if_neg c11] at h
      refine y_if_ne_f (show decode cX12_two 188 = .ok (.ifCond .ne 7, 3) by decide +kernel) c11 (by decide) ?_
      refine y_iload_n (show decode cX12_two 191 = .ok (.iload_n 2, 1) by decide +kernel) 2 rfl ?_
      by_cases c12 : c = 0
      · rw [if_pos c12] at h
        refine y_if_eq_t (tgt := 199) (show decode cX12_two 192 = .ok (.ifCond .eq 7, 3) by decide +kernel) rfl c12 ?_
        refine y_iconst (show decode cX12_two 199 = .ok (.iconst 0, 1) by decide +kernel) rfl ?_
        cases h
        exact y_iret (show decode cX12_two 200 = .ok (.ireturn, 1) by decide +kernel) rfl
      · rw [if_neg c12] at h
        refine y_if_eq_f (show decode cX12_two 192 = .ok (.ifCond .eq 7, 3) by decide +kernel) c12 (by decide) ?_
        refine y_iconst (show decode cX12_two 195 = .ok (.iconst 1, 1) by decide +kernel) rfl ?_
        refine y_goto (tgt := 200) (show decode cX12_two 196 = .ok (.goto 4, 3) by decide +kernel) rfl ?_
        cases h
        exact y_iret (show decode cX12_two 200 = .ok (.ireturn, 1) by decide +kernel) rfl
  rw [if_neg c10] at h
  by_cases c13 : a = 42
  · rw [if_pos c13] at h
    refine y_tableIn (off := 123) (tgt := 124) (show decode cX12_two 1 = .ok (.tableswitch 186 38 62 #[172, 186, 186, 186, 123, 115, 186, 119, 186, 127, 186, 186, 186, 186, 186, 186, 186, 186, 186, 186, 186, 186, 139, 161, 150], 115) by decide +kernel) (by omega) (by omega) (by rw [c13]; rfl) rfl ?_
    refine y_iload_n (show decode cX12_two 124 = .ok (.iload_n 1, 1) by decide +kernel) 1 rfl ?_
    refine y_iload_n (show decode cX12_two 125 = .ok (.iload_n 2, 1) by decide +kernel) 2 rfl ?_
    refine y_imulW (show decode cX12_two 126 = .ok (.imul, 1) by decide +kernel) ?_
    cases h
    exact y_iret (show decode cX12_two 127 = .ok (.ireturn, 1) by decide +kernel) rfl
  rw [if_neg c13] at h
  by_cases c14 : a = 43
  · rw [if_pos c14] at h
    refine y_tableIn (off := 115) (tgt := 116) (show decode cX12_two 1 = .ok (.tableswitch 186 38 62 #[172, 186, 186, 186, 123, 115, 186, 119, 186, 127, 186, 186, 186, 186, 186, 186, 186, 186, 186, 186, 186, 186, 139, 161, 150], 115) by decide +kernel) (by omega) (by omega) (by rw [c14]; rfl) rfl ?_
    refine y_iload_n (show decode cX12_two 116 = .ok (.iload_n 1, 1) by decide +kernel) 1 rfl ?_
    refine y_iload_n (show decode cX12_two 117 = .ok (.iload_n 2, 1) by decide +kernel) 2 rfl ?_
    refine y_iaddW (show decode cX12_two 118 = .ok (.iadd, 1) by decide +kernel) ?_
    cases h
    exact y_iret (show decode cX12_two 119 = .ok (.ireturn, 1) by decide +kernel) rfl
  rw [if_neg c14] at h
  by_cases c15 : a = 44
  · rw [if_pos c15] at h
    refine y_tableIn (off := 186) (tgt := 187) (show decode cX12_two 1 = .ok (.tableswitch 186 38 62 #[172, 186, 186, 186, 123, 115, 186, 119, 186, 127, 186, 186, 186, 186, 186, 186, 186, 186, 186, 186, 186, 186, 139, 161, 150], 115) by decide +kernel) (by omega) (by omega) (by rw [c15]; rfl) rfl ?_
    refine y_iload_n (show decode cX12_two 187 = .ok (.iload_n 1, 1) by decide +kernel) 1 rfl ?_
    by_cases c16 : ¬ b = 0
    · rw [if_pos c16] at h
      refine y_if_ne_t (tgt := 195) (show decode cX12_two 188 = .ok (.ifCond .ne 7, 3) by decide +kernel) rfl c16 ?_
      refine y_iconst (show decode cX12_two 195 = .ok (.iconst 1, 1) by decide +kernel) rfl ?_
      refine y_goto (tgt := 200) (show decode cX12_two 196 = .ok (.goto 4, 3) by decide +kernel) rfl ?_
      cases h
      exact y_iret (show decode cX12_two 200 = .ok (.ireturn, 1) by decide +kernel) rfl
    · rw [if_neg c16] at h
      refine y_if_ne_f (show decode cX12_two 188 = .ok (.ifCond .ne 7, 3) by decide +kernel) c16 (by decide) ?_
      refine y_iload_n (show decode cX12_two 191 = .ok (.iload_n 2, 1) by decide +kernel) 2 rfl ?_
      by_cases c17 : c = 0
      · rw [if_pos c17] at h
        refine y_if_eq_t (tgt := 199) (show decode cX12_two 192 = .ok (.ifCond .eq 7, 3) by decide +kernel) rfl c17 ?_
        refine y_iconst (show decode cX12_two 199 = .ok (.iconst 0, 1) by decide +kernel) rfl ?_
        cases h
        exact y_iret (show decode cX12_two 200 = .ok (.ireturn, 1) by decide +kernel) rfl
      · rw [if_neg c17] at h
        refine y_if_eq_f (show decode cX12_two 192 = .ok (.ifCond .eq 7, 3) by decide +kernel) c17 (by decide) ?_
        refine y_iconst (show decode cX12_two 195 = .ok (.iconst 1, 1) by decide +kernel) rfl ?_
        refine y_goto (tgt := 200) (show decode cX12_two 196 = .ok (.goto 4, 3) by decide +kernel) rfl ?_
        cases h
        exact y_iret (show decode cX12_two 200 = .ok (.ireturn, 1) by decide +kernel) rfl
  rw [if_neg c15] at h
  by_cases c18 : a = 45
  · rw [if_pos c18] at h
    refine y_tableIn (off := 119) (tgt := 120) (show decode cX12_two 1 = .ok (.tableswitch 186 38 62 #[172, 186, 186, 186, 123, 115, 186, 119, 186, 127, 186, 186, 186, 186, 186, 186, 186, 186, 186, 186, 186, 186, 139, 161, 150], 115) by decide +kernel) (by omega) (by omega) (by rw [c18]; rfl) rfl ?_
    refine y_iload_n (show decode cX12_two 120 = .ok (.iload_n 1, 1) by decide +kernel) 1 rfl ?_
    refine y_iload_n (show decode cX12_two 121 = .ok (.iload_n 2, 1) by decide +kernel) 2 rfl ?_
    refine y_isubW (show decode cX12_two 122 = .ok (.isub, 1) by decide +kernel) ?_
    cases h
    exact y_iret (show decode cX12_two 123 = .ok (.ireturn, 1) by decide +kernel) rfl
  rw [if_neg c18] at h
  by_cases c19 : a = 46
  · rw [if_pos c19] at h
    refine y_tableIn (off := 186) (tgt := 187) (show decode cX12_two 1 = .ok (.tableswitch 186 38 62 #[172, 186, 186, 186, 123, 115, 186, 119, 186, 127, 186, 186, 186, 186, 186, 186, 186, 186, 186, 186, 186, 186, 139, 161, 150], 115) by decide +kernel) (by omega) (by omega) (by rw [c19]; rfl) rfl ?_
    refine y_iload_n (show decode cX12_two 187 = .ok (.iload_n 1, 1) by decide +kernel) 1 rfl ?_
    by_cases c20 : ¬ b = 0
    · rw [if_pos c20] at h
      refine y_if_ne_t (tgt := 195) (show decode cX12_two 188 = .ok (.ifCond .ne 7, 3) by decide +kernel) rfl c20 ?_
      refine y_iconst (show decode cX12_two 195 = .ok (.iconst 1, 1) by decide +kernel) rfl ?_
      refine y_goto (tgt := 200) (show decode cX12_two 196 = .ok (.goto 4, 3) by decide +kernel) rfl ?_
      cases h
      exact y_iret (show decode cX12_two 200 = .ok (.ireturn, 1) by decide +kernel) rfl
    · rw [if_neg c20] at h
      refine y_if_ne_f (show decode cX12_two 188 = .ok (.ifCond .ne 7, 3) by decide +kernel) c20 (by decide) ?_
      refine y_iload_n (show decode cX12_two 191 = .ok (.iload_n 2, 1) by decide +kernel) 2 rfl ?_
      by_cases c21 : c = 0
      · rw [if_pos c21] at h
        refine y_if_eq_t (tgt := 199) (show decode cX12_two 192 = .ok (.ifCond .eq 7, 3) by decide +kernel) rfl c21 ?_
        refine y_iconst (show decode cX12_two 199 = .ok (.iconst 0, 1) by decide +kernel) rfl ?_
        cases h
        exact y_iret (show decode cX12_two 200 = .ok (.ireturn, 1) by decide +kernel) rfl
      · rw [if_neg c21] at h
        refine y_if_eq_f (show decode cX12_two 192 = .ok (.ifCond .eq 7, 3) by decide +kernel) c21 (by decide) ?_
        refine y_iconst (show decode cX12_two 195 = .ok (.iconst 1, 1) by decide +kernel) rfl ?_
        refine y_goto (tgt := 200) (show decode cX12_two 196 = .ok (.goto 4, 3) by decide +kernel) rfl ?_
        cases h
        exact y_iret (show decode cX12_two 200 = .ok (.ireturn, 1) by decide +kernel) rfl
  rw [if_neg c19] at h
  by_cases c22 : a = 47
  · rw [if_pos c22] at h
    refine y_tableIn (off := 127) (tgt := 128) (show decode cX12_two 1 = .ok (.tableswitch 186 38 62 #[172, 186, 186, 186, 123, 115, 186, 119, 186, 127, 186, 186, 186, 186, 186, 186, 186, 186, 186, 186, 186, 186, 139, 161, 150], 115) by decide +kernel) (by omega) (by omega) (by rw [c22]; rfl) rfl ?_
    refine y_iload_n (show decode cX12_two 128 = .ok (.iload_n 2, 1) by decide +kernel) 2 rfl ?_
    by_cases c23 : ¬ c = 0
    · rw [if_pos c23] at h
      refine y_if_ne_t (tgt := 136) (show decode cX12_two 129 = .ok (.ifCond .ne 7, 3) by decide +kernel) rfl c23 ?_
      refine y_iload_n (show decode cX12_two 136 = .ok (.iload_n 1, 1) by decide +kernel) 1 rfl ?_
      refine y_iload_n (show decode cX12_two 137 = .ok (.iload_n 2, 1) by decide +kernel) 2 rfl ?_
      obtain ⟨c24, h⟩ := chk_some h
      refine y_idivW (show decode cX12_two 138 = .ok (.idiv, 1) by decide +kernel) c24 ?_
      cases h
      exact y_iret (show decode cX12_two 139 = .ok (.ireturn, 1) by decide +kernel) rfl
    · rw [if_neg c23] at h
      refine y_if_ne_f (show decode cX12_two 129 = .ok (.ifCond .ne 7, 3) by decide +kernel) c23 (by decide) ?_
      refine y_iconst (show decode cX12_two 132 = .ok (.iconst 0, 1) by decide +kernel) rfl ?_
      refine y_goto (tgt := 139) (show decode cX12_two 133 = .ok (.goto 6, 3) by decide +kernel) rfl ?_
      cases h
      exact y_iret (show decode cX12_two 139 = .ok (.ireturn, 1) by decide +kernel) rfl
  rw [if_neg c22] at h
  by_cases c25 : a = 48
  · rw [if_pos c25] at h
    refine y_tableIn (off := 186) (tgt := 187) (show decode cX12_two 1 = .ok (.tableswitch 186 38 62 #[172, 186, 186, 186, 123, 115, 186, 119, 186, 127, 186, 186, 186, 186, 186, 186, 186, 186, 186, 186, 186, 186, 139, 161, 150], 115) by decide +kernel) (by omega) (by omega) (by rw [c25]; rfl) rfl ?_
    refine y_iload_n (show decode cX12_two 187 = .ok (.iload_n 1, 1) by decide +kernel) 1 rfl ?_
    by_cases c26 : ¬ b = 0
    · rw [if_pos c26] at h
      refine y_if_ne_t (tgt := 195) (show decode cX12_two 188 = .ok (.ifCond .ne 7, 3) by decide +kernel) rfl c26 ?_
      refine y_iconst (show decode cX12_two 195 = .ok (.iconst 1, 1) by decide +kernel) rfl ?_
      refine y_goto (tgt := 200) (show decode cX12_two 196 = .ok (.goto 4, 3) by decide +kernel) rfl ?_
      cases h
      exact y_iret (show decode cX12_two 200 = .ok (.ireturn, 1) by decide +kernel) rfl
    · rw [if_neg c26] at h
      refine y_if_ne_f (show decode cX12_two 188 = .ok (.ifCond .ne 7, 3) by decide +kernel) c26 (by decide) ?_
      refine y_iload_n (show decode cX12_two 191 = .ok (.iload_n 2, 1) by decide +kernel) 2 rfl ?_
      by_cases c27 : c = 0
      · rw [if_pos c27] at h
        refine y_if_eq_t (tgt := 199) (show decode cX12_two 192 = .ok (.ifCond .eq 7, 3) by decide +kernel) rfl c27 ?_
        refine y_iconst (show decode cX12_two 199 = .ok (.iconst 0, 1) by decide +kernel) rfl ?_
        cases h
        exact y_iret (show decode cX12_two 200 = .ok (.ireturn, 1) by decide +kernel) rfl
      · rw [if_neg c27] at h
        refine y_if_eq_f (show decode cX12_two 192 = .ok (.ifCond .eq 7, 3) by decide +kernel) c27 (by decide) ?_
        refine y_iconst (show decode cX12_two 195 = .ok (.iconst 1, 1) by decide +kernel) rfl ?_
        refine y_goto (tgt := 200) (show decode cX12_two 196 = .ok (.goto 4, 3) by decide +kernel) rfl ?_
        cases h
        exact y_iret (show decode cX12_two 200 = .ok (.ireturn, 1) by decide +kernel) rfl
  rw [if_neg c25] at h
  by_cases c28 : a = 49
  · rw [if_pos c28] at h
    refine y_tableIn (off := 186) (tgt := 187) (show decode cX12_two 1 = .ok (.tableswitch 186 38 62 #[172, 186, 186, 186, 123, 115, 186, 119, 186, 127, 186, 186, 186, 186, 186, 186, 186, 186, 186, 186, 186, 186, 139, 161, 150], 115) by decide +kernel) (by omega) (by omega) (by rw [c28]; rfl) rfl ?_
    refine y_iload_n (show decode cX12_two 187 = .ok (.iload_n 1, 1) by decide +kernel) 1 rfl ?_
    by_cases c29 : ¬ b = 0
    · rw [if_pos c29] at h
      refine y_if_ne_t (tgt := 195) (show decode cX12_two 188 = .ok (.ifCond .ne 7, 3) by decide +kernel) rfl c29 ?_
      refine y_iconst (show decode cX12_two 195 = .ok (.iconst 1, 1) by decide +kernel) rfl ?_
      refine y_goto (tgt := 200) (show decode cX12_two 196 = .ok (.goto 4, 3) by decide +kernel) rfl ?_
      cases h
      exact y_iret (show decode cX12_two 200 = .ok (.ireturn, 1) by decide +kernel) rfl
    · rw [if_neg c29] at h
      refine y_if_ne_f (show decode cX12_two 188 = .ok (.ifCond .ne 7, 3) by decide +kernel) c29 (by decide) ?_
      refine y_iload_n (show decode cX12_two 191 = .ok (.iload_n 2, 1) by decide +kernel) 2 rfl ?_
      by_cases c30 : c = 0
      · rw [if_pos c30] at h
        refine y_if_eq_t (tgt := 199) (show decode cX12_two 192 = .ok (.ifCond .eq 7, 3) by decide +kernel) rfl c30 ?_
        refine y_iconst (show decode cX12_two 199 = .ok (.iconst 0, 1) by decide +kernel) rfl ?_
        cases h
        exact y_iret (show decode cX12_two 200 = .ok (.ireturn, 1) by decide +kernel) rfl
      · rw [if_neg c30] at h
        refine y_if_eq_f (show decode cX12_two 192 = .ok (.ifCond .eq 7, 3) by decide +kernel) c30 (by decide) ?_
        refine y_iconst (show decode cX12_two 195 = .ok (.iconst 1, 1) by decide +kernel) rfl ?_
        refine y_goto (tgt := 200) (show decode cX12_two 196 = .ok (.goto 4, 3) by decide +kernel) rfl ?_
        cases h
        exact y_iret (show decode cX12_two 200 = .ok (.ireturn, 1) by decide +kernel) rfl
  rw [if_neg c28] at h
  by_cases c31 : a = 50
  · rw [if_pos c31] at h
    refine y_tableIn (off := 186) (tgt := 187) (show decode cX12_two 1 = .ok (.tableswitch 186 38 62 #[172, 186, 186, 186, 123, 115, 186, 119, 186, 127, 186, 186, 186, 186, 186, 186, 186, 186, 186, 186, 186, 186, 139, 161, 150], 115) by decide +kernel) (by omega) (by omega) (by rw [c31]; rfl) rfl ?_
    refine y_iload_n (show decode cX12_two 187 = .ok (.iload_n 1, 1) by decide +kernel) 1 rfl ?_
    by_cases c32 : ¬ b = 0
    · rw [if_pos c32] at h
      refine y_if_ne_t (tgt := 195) (show decode cX12_two 188 = .ok (.ifCond .ne 7, 3) by decide +kernel) rfl c32 ?_
      refine y_iconst (show decode cX12_two 195 = .ok (.iconst 1, 1) by decide +kernel) rfl ?_
      refine y_goto (tgt := 200) (show decode cX12_two 196 = .ok (.goto 4, 3) by decide +kernel) rfl ?_
      cases h
      exact y_iret (show decode cX12_two 200 = .ok (.ireturn, 1) by decide +kernel) rfl
    · rw [if_neg c32] at h
      refine y_if_ne_f (show decode cX12_two 188 = .ok (.ifCond .ne 7, 3) by decide +kernel) c32 (by decide) ?_
      refine y_iload_n (show decode cX12_two 191 = .ok (.iload_n 2, 1) by decide +kernel) 2 rfl ?_
      by_cases c33 : c = 0
      · rw [if_pos c33] at h
        refine y_if_eq_t (tgt := 199) (show decode cX12_two 192 = .ok (.ifCond .eq 7, 3) by decide +kernel) rfl c33 ?_
        refine y_iconst (show decode cX12_two 199 = .ok (.iconst 0, 1) by decide +kernel) rfl ?_
        cases h
        exact y_iret (show decode cX12_two 200 = .ok (.ireturn, 1) by decide +kernel) rfl
      · rw [if_neg c33] at h
        refine y_if_eq_f (show decode cX12_two 192 = .ok (.ifCond .eq 7, 3) by decide +kernel) c33 (by decide) ?_
        refine y_iconst (show decode cX12_two 195 = .ok (.iconst 1, 1) by decide +kernel) rfl ?_
        refine y_goto (tgt := 200) (show decode cX12_two 196 = .ok (.goto 4, 3) by decide +kernel) rfl ?_
        cases h
        exact y_iret (show decode cX12_two 200 = .ok (.ireturn, 1) by decide +kernel) rfl
  rw [if_neg c31] at h
  by_cases c34 : a = 51
  · rw [if_pos c34] at h
    refine y_tableIn (off := 186) (tgt := 187) (show decode cX12_two 1 = .ok (.tableswitch 186 38 62 #[172, 186, 186, 186, 123, 115, 186, 119, 186, 127, 186, 186, 186, 186, 186, 186, 186, 186, 186, 186, 186, 186, 139, 161, 150], 115) by decide +kernel) (by omega) (by omega) (by rw [c34]; rfl) rfl ?_
    refine y_iload_n (show decode cX12_two 187 = .ok (.iload_n 1, 1) by decide +kernel) 1 rfl ?_
    by_cases c35 : ¬ b = 0
    · rw [if_pos c35] at h
      refine y_if_ne_t (tgt := 195) (show decode cX12_two 188 = .ok (.ifCond .ne 7, 3) by decide +kernel) rfl c35 ?_
      refine y_iconst (show decode cX12_two 195 = .ok (.iconst 1, 1) by decide +kernel) rfl ?_
      refine y_goto (tgt := 200) (show decode cX12_two 196 = .ok (.goto 4, 3) by decide +kernel) rfl ?_
      cases h
      exact y_iret (show decode cX12_two 200 = .ok (.ireturn, 1) by decide +kernel) rfl
    · rw [if_neg c35] at h
      refine y_if_ne_f (show decode cX12_two 188 = .ok (.ifCond .ne 7, 3) by decide +kernel) c35 (by decide) ?_
      refine y_iload_n (show decode cX12_two 191 = .ok (.iload_n 2, 1) by decide +kernel) 2 rfl ?_
      by_cases c36 : c = 0
      · rw [if_pos c36] at h
        refine y_if_eq_t (tgt := 199) (show decode cX12_two 192 = .ok (.ifCond .eq 7, 3) by decide +kernel) rfl c36 ?_
        refine y_iconst (show decode cX12_two 199 = .ok (.iconst 0, 1) by decide +kernel) rfl ?_
        cases h
        exact y_iret (show decode cX12_two 200 = .ok (.ireturn, 1) by decide +kernel) rfl
      · rw [if_neg c36] at h
        refine y_if_eq_f (show decode cX12_two 192 = .ok (.ifCond .eq 7, 3) by decide +kernel) c36 (by decide) ?_
        refine y_iconst (show decode cX12_two 195 = .ok (.iconst 1, 1) by decide +kernel) rfl ?_
        refine y_goto (tgt := 200) (show decode cX12_two 196 = .ok (.goto 4, 3) by decide +kernel) rfl ?_
        cases h
        exact y_iret (show decode cX12_two 200 = .ok (.ireturn, 1) by decide +kernel) rfl
  rw [if_neg c34] at h
  by_cases c37 : a = 52
  · rw [if_pos c37] at h
    refine y_tableIn (off := 186) (tgt := 187) (show decode cX12_two 1 = .ok (.tableswitch 186 38 62 #[172, 186, 186, 186, 123, 115, 186, 119, 186, 127, 186, 186, 186, 186, 186, 186, 186, 186, 186, 186, 186, 186, 139, 161, 150], 115) by decide +kernel) (by omega) (by omega) (by rw [c37]; rfl) rfl ?_
    refine y_iload_n (show decode cX12_two 187 = .ok (.iload_n 1, 1) by decide +kernel) 1 rfl ?_
    by_cases c38 : ¬ b = 0
    · rw [if_pos c38] at h
      refine y_if_ne_t (tgt := 195) (show decode cX12_two 188 = .ok (.ifCond .ne 7, 3) by decide +kernel) rfl c38 ?_
      refine y_iconst (show decode cX12_two 195 = .ok (.iconst 1, 1) by decide +kernel) rfl ?_
      refine y_goto (tgt := 200) (show decode cX12_two 196 = .ok (.goto 4, 3) by decide +kernel) rfl ?_
      cases h
      exact y_iret (show decode cX12_two 200 = .ok (.ireturn, 1) by decide +kernel) rfl
    · rw [if_neg c38] at h
      refine y_if_ne_f (show decode cX12_two 188 = .ok (.ifCond .ne 7, 3) by decide +kernel) c38 (by decide) ?_
      refine y_iload_n (show decode cX12_two 191 = .ok (.iload_n 2, 1) by decide +kernel) 2 rfl ?_
      by_cases c39 : c = 0
      · rw [if_pos c39] at h
        refine y_if_eq_t (tgt := 199) (show decode cX12_two 192 = .ok (.ifCond .eq 7, 3) by decide +kernel) rfl c39 ?_
        refine y_iconst (show decode cX12_two 199 = .ok (.iconst 0, 1) by decide +kernel) rfl ?_
        cases h
        exact y_iret (show decode cX12_two 200 = .ok (.ireturn, 1) by decide +kernel) rfl
      · rw [if_neg c39] at h
        refine y_if_eq_f (show decode cX12_two 192 = .ok (.ifCond .eq 7, 3) by decide +kernel) c39 (by decide) ?_
        refine y_iconst (show decode cX12_two 195 = .ok (.iconst 1, 1) by decide +kernel) rfl ?_
        refine y_goto (tgt := 200) (show decode cX12_two 196 = .ok (.goto 4, 3) by decide +kernel) rfl ?_
        cases h
        exact y_iret (show decode cX12_two 200 = .ok (.ireturn, 1) by decide +kernel) rfl
  rw [if_neg c37] at h
  by_cases c40 : a = 53
  · rw [if_pos c40] at h
    refine y_tableIn (off := 186) (tgt := 187) (show decode cX12_two 1 = .ok (.tableswitch 186 38 62 #[172, 186, 186, 186, 123, 115, 186, 119, 186, 127, 186, 186, 186, 186, 186, 186, 186, 186, 186, 186, 186, 186, 139, 161, 150], 115) by decide +kernel) (by omega) (by omega) (by rw [c40]; rfl) rfl ?_
    refine y_iload_n (show decode cX12_two 187 = .ok (.iload_n 1, 1) by decide +kernel) 1 rfl ?_
    by_cases c41 : ¬ b = 0
    · rw [if_pos c41] at h
      refine y_if_ne_t (tgt := 195) (show decode cX12_two 188 = .ok (.ifCond .ne 7, 3) by decide +kernel) rfl c41 ?_
      refine y_iconst (show decode cX12_two 195 = .ok (.iconst 1, 1) by decide +kernel) rfl ?_
      refine y_goto (tgt := 200) (show decode cX12_two 196 = .ok (.goto 4, 3) by decide +kernel) rfl ?_
      cases h
      exact y_iret (show decode cX12_two 200 = .ok (.ireturn, 1) by decide +kernel) rfl
    · rw [if_neg c41] at h
      refine y_if_ne_f (show decode cX12_two 188 = .ok (.ifCond .ne 7, 3) by decide +kernel) c41 (by decide) ?_
      refine y_iload_n (show decode cX12_two 191 = .ok (.iload_n 2, 1) by decide +kernel) 2 rfl ?_
      by_cases c42 : c = 0
      · rw [if_pos c42] at h
        refine y_if_eq_t (tgt := 199) (show decode cX12_two 192 = .ok (.ifCond .eq 7, 3) by decide +kernel) rfl c42 ?_
        refine y_iconst (show decode cX12_two 199 = .ok (.iconst 0, 1) by decide +kernel) rfl ?_
        cases h
        exact y_iret (show decode cX12_two 200 = .ok (.ireturn, 1) by decide +kernel) rfl
      · rw [if_neg c42] at h
        refine y_if_eq_f (show decode cX12_two 192 = .ok (.ifCond .eq 7, 3) by decide +kernel) c42 (by decide) ?_
        refine y_iconst (show decode cX12_two 195 = .ok (.iconst 1, 1) by decide +kernel) rfl ?_
        refine y_goto (tgt := 200) (show decode cX12_two 196 = .ok (.goto 4, 3) by decide +kernel) rfl ?_
        cases h
        exact y_iret (show decode cX12_two 200 = .ok (.ireturn, 1) by decide +kernel) rfl
  rw [if_neg c40] at h
  by_cases c43 : a = 54
  · rw [if_pos c43] at h
    refine y_tableIn (off := 186) (tgt := 187) (show decode cX12_two 1 = .ok (.tableswitch 186 38 62 #[172, 186, 186, 186, 123, 115, 186, 119, 186, 127, 186, 186, 186, 186, 186, 186, 186, 186, 186, 186, 186, 186, 139, 161, 150], 115) by decide +kernel) (by omega) (by omega) (by rw [c43]; rfl) rfl ?_
    refine y_iload_n (show decode cX12_two 187 = .ok (.iload_n 1, 1) by decide +kernel) 1 rfl ?_
    by_cases c44 : ¬ b = 0
    · rw [if_pos c44] at h
      refine y_if_ne_t (tgt := 195) (show decode cX12_two 188 = .ok (.ifCond .ne 7, 3) by decide +kernel) rfl c44 ?_
      refine y_iconst (show decode cX12_two 195 = .ok (.iconst 1, 1) by decide +kernel) rfl ?_
      refine y_goto (tgt := 200) (show decode cX12_two 196 = .ok (.goto 4, 3) by decide +kernel) rfl ?_
      cases h
      exact y_iret (show decode cX12_two 200 = .ok (.ireturn, 1) by decide +kernel) rfl
    · rw [if_neg c44] at h
      refine y_if_ne_f (show decode cX12_two 188 = .ok (.ifCond .ne 7, 3) by decide +kernel) c44 (by decide) ?_
      refine y_iload_n (show decode cX12_two 191 = .ok (.iload_n 2, 1) by decide +kernel) 2 rfl ?_
      by_cases c45 : c = 0
      · rw [if_pos c45] at h
        refine y_if_eq_t (tgt := 199) (show decode cX12_two 192 = .ok (.ifCond .eq 7, 3) by decide +kernel) rfl c45 ?_
        refine y_iconst (show decode cX12_two 199 = .ok (.iconst 0, 1) by decide +kernel) rfl ?_
        cases h
        exact y_iret (show decode cX12_two 200 = .ok (.ireturn, 1) by decide +kernel) rfl
      · rw [if_neg c45] at h
        refine y_if_eq_f (show decode cX12_two 192 = .ok (.ifCond .eq 7, 3) by decide +kernel) c45 (by decide) ?_
        refine y_iconst (show decode cX12_two 195 = .ok (.iconst 1, 1) by decide +kernel) rfl ?_
        refine y_goto (tgt := 200) (show decode cX12_two 196 = .ok (.goto 4, 3) by decide +kernel) rfl ?_
        cases h
        exact y_iret (show decode cX12_two 200 = .ok (.ireturn, 1) by decide +kernel) rfl
  rw [if_neg c43] at h
  by_cases c46 : a = 55
  · rw [if_pos c46] at h
    refine y_tableIn (off := 186) (tgt := 187) (show decode cX12_two 1 = .ok (.tableswitch 186 38 62 #[172, 186, 186, 186, 123, 115, 186, 119, 186, 127, 186, 186, 186, 186, 186, 186, 186, 186, 186, 186, 186, 186, 139, 161, 150], 115) by decide +kernel) (by omega) (by omega) (by rw [c46]; rfl) rfl ?_
    refine y_iload_n (show decode cX12_two 187 = .ok (.iload_n 1, 1) by decide +kernel) 1 rfl ?_
    by_cases c47 : ¬ b = 0
    · rw [if_pos c47] at h
      refine y_if_ne_t (tgt := 195) (show decode cX12_two 188 = .ok (.ifCond .ne 7, 3) by decide +kernel) rfl c47 ?_
      refine y_iconst (show decode cX12_two 195 = .ok (.iconst 1, 1) by decide +kernel) rfl ?_
      refine y_goto (tgt := 200) (show decode cX12_two 196 = .ok (.goto 4, 3) by decide +kernel) rfl ?_
      cases h
      exact y_iret (show decode cX12_two 200 = .ok (.ireturn, 1) by decide +kernel) rfl
    · rw [if_neg c47] at h
      refine y_if_ne_f (show decode cX12_two 188 = .ok (.ifCond .ne 7, 3) by decide +kernel) c47 (by decide) ?_
      refine y_iload_n (show decode cX12_two 191 = .ok (.iload_n 2, 1) by decide +kernel) 2 rfl ?_
      by_cases c48 : c = 0
      · rw [if_pos c48] at h
        refine y_if_eq_t (tgt := 199) (show decode cX12_two 192 = .ok (.ifCond .eq 7, 3) by decide +kernel) rfl c48 ?_
        refine y_iconst (show decode cX12_two 199 = .ok (.iconst 0, 1) by decide +kernel) rfl ?_
        cases h
        exact y_iret (show decode cX12_two 200 = .ok (.ireturn, 1) by decide +kernel) rfl
      · rw [if_neg c48] at h
        refine y_if_eq_f (show decode cX12_two 192 = .ok (.ifCond .eq 7, 3) by decide +kernel) c48 (by decide) ?_
        refine y_iconst (show decode cX12_two 195 = .ok (.iconst 1, 1) by decide +kernel) rfl ?_
        refine y_goto (tgt := 200) (show decode cX12_two 196 = .ok (.goto 4, 3) by decide +kernel) rfl ?_
        cases h
        exact y_iret (show decode cX12_two 200 = .ok (.ireturn, 1) by decide +kernel) rfl
  rw [if_neg c46] at h
  by_cases c49 : a = 56
  · rw [if_pos c49] at h
    refine y_tableIn (off := 186) (tgt := 187) (show decode cX12_two 1 = .ok (.tableswitch 186 38 62 #[172, 186, 186, 186, 123, 115, 186, 119, 186, 127, 186, 186, 186, 186, 186, 186, 186, 186, 186, 186, 186, 186, 139, 161, 150], 115) by decide +kernel) (by omega) (by omega) (by rw [c49]; rfl) rfl ?_
    refine y_iload_n (show decode cX12_two 187 = .ok (.iload_n 1, 1) by decide +kernel) 1 rfl ?_
    by_cases c50 : ¬ b = 0
    · rw [if_pos c50] at h
      refine y_if_ne_t (tgt := 195) (show decode cX12_two 188 = .ok (.ifCond .ne 7, 3) by decide +kernel) rfl c50 ?_
      refine y_iconst (show decode cX12_two 195 = .ok (.iconst 1, 1) by decide +kernel) rfl ?_
      refine y_goto (tgt := 200) (show decode cX12_two 196 = .ok (.goto 4, 3) by decide +kernel) rfl ?_
      cases h
      exact y_iret (show decode cX12_two 200 = .ok (.ireturn, 1) by decide +kernel) rfl
    · rw [if_neg c50] at h
      refine y_if_ne_f (show decode cX12_two 188 = .ok (.ifCond .ne 7, 3) by decide +kernel) c50 (by decide) ?_
      refine y_iload_n (show decode cX12_two 191 = .ok (.iload_n 2, 1) by decide +kernel) 2 rfl ?_
      by_cases c51 : c = 0
      · rw [if_pos c51] at h
        refine y_if_eq_t (tgt := 199) (show decode cX12_two 192 = .ok (.ifCond .eq 7, 3) by decide +kernel) rfl c51 ?_
        refine y_iconst (show decode cX12_two 199 = .ok (.iconst 0, 1) by decide +kernel) rfl ?_
        cases h
        exact y_iret (show decode cX12_two 200 = .ok (.ireturn, 1) by decide +kernel) rfl
      · rw [if_neg c51] at h
        refine y_if_eq_f (show decode cX12_two 192 = .ok (.ifCond .eq 7, 3) by decide +kernel) c51 (by decide) ?_
        refine y_iconst (show decode cX12_two 195 = .ok (.iconst 1, 1) by decide +kernel) rfl ?_
        refine y_goto (tgt := 200) (show decode cX12_two 196 = .ok (.goto 4, 3) by decide +kernel) rfl ?_
        cases h
        exact y_iret (show decode cX12_two 200 = .ok (.ireturn, 1) by decide +kernel) rfl
  rw [if_neg c49] at h
  by_cases c52 : a = 57
  · rw [if_pos c52] at h
    refine y_tableIn (off := 186) (tgt := 187) (show decode cX12_two 1 = .ok (.tableswitch 186 38 62 #[172, 186, 186, 186, 123, 115, 186, 119, 186, 127, 186, 186, 186, 186, 186, 186, 186, 186, 186, 186, 186, 186, 139, 161, 150], 115) by decide +kernel) (by omega) (by omega) (by rw [c52]; rfl) rfl ?_
    refine y_iload_n (show decode cX12_two 187 = .ok (.iload_n 1, 1) by decide +kernel) 1 rfl ?_
    by_cases c53 : ¬ b = 0
    · rw [if_pos c53] at h
      refine y_if_ne_t (tgt := 195) (show decode cX12_two 188 = .ok (.ifCond .ne 7, 3) by decide +kernel) rfl c53 ?_
      refine y_iconst (show decode cX12_two 195 = .ok (.iconst 1, 1) by decide +kernel) rfl ?_
      refine y_goto (tgt := 200) (show decode cX12_two 196 = .ok (.goto 4, 3) by decide +kernel) rfl ?_
      cases h
      exact y_iret (show decode cX12_two 200 = .ok (.ireturn, 1) by decide +kernel) rfl
    · rw [if_neg c53] at h
      refine y_if_ne_f (show decode cX12_two 188 = .ok (.ifCond .ne 7, 3) by decide +kernel) c53 (by decide) ?_
      refine y_iload_n (show decode cX12_two 191 = .ok (.iload_n 2, 1) by decide +kernel) 2 rfl ?_
      by_cases c54 : c = 0
      · rw [if_pos c54] at h
        refine y_if_eq_t (tgt := 199) (show decode cX12_two 192 = .ok (.ifCond .eq 7, 3) by decide +kernel) rfl c54 ?_
        refine y_iconst (show decode cX12_two 199 = .ok (.iconst 0, 1) by decide +kernel) rfl ?_
        cases h
        exact y_iret (show decode cX12_two 200 = .ok (.ireturn, 1) by decide +kernel) rfl
      · rw [if_neg c54] at h
        refine y_if_eq_f (show decode cX12_two 192 = .ok (.ifCond .eq 7, 3) by decide +kernel) c54 (by decide) ?_
        refine y_iconst (show decode cX12_two 195 = .ok (.iconst 1, 1) by decide +kernel) rfl ?_
        refine y_goto (tgt := 200) (show decode cX12_two 196 = .ok (.goto 4, 3) by decide +kernel) rfl ?_
        cases h
        exact y_iret (show decode cX12_two 200 = .ok (.ireturn, 1) by decide +kernel) rfl
  rw [if_neg c52] at h
  by_cases c55 : a = 58
  · rw [if_pos c55] at h
    refine y_tableIn (off := 186) (tgt := 187) (show decode cX12_two 1 = .ok (.tableswitch 186 38 62 #[172, 186, 186, 186, 123, 115, 186, 119, 186, 127, 186, 186, 186, 186, 186, 186, 186, 186, 186, 186, 186, 186, 139, 161, 150], 115) by decide +kernel) (by omega) (by omega) (by rw [c55]; rfl) rfl ?_
    refine y_iload_n (show decode cX12_two 187 = .ok (.iload_n 1, 1) by decide +kernel) 1 rfl ?_
    by_cases c56 : ¬ b = 0
    · rw [if_pos c56] at h
      refine y_if_ne_t (tgt := 195) (show decode cX12_two 188 = .ok (.ifCond .ne 7, 3) by decide +kernel) rfl c56 ?_
      refine y_iconst (show decode cX12_two 195 = .ok (.iconst 1, 1) by decide +kernel) rfl ?_
      refine y_goto (tgt := 200) (show decode cX12_two 196 = .ok (.goto 4, 3) by decide +kernel) rfl ?_
      cases h
      exact y_iret (show decode cX12_two 200 = .ok (.ireturn, 1) by decide +kernel) rfl
    · rw [if_neg c56] at h
      refine y_if_ne_f (show decode cX12_two 188 = .ok (.ifCond .ne 7, 3) by decide +kernel) c56 (by decide) ?_
      refine y_iload_n (show decode cX12_two 191 = .ok (.iload_n 2, 1) by decide +kernel) 2 rfl ?_
      by_cases c57 : c = 0
      · rw [if_pos c57] at h
        refine y_if_eq_t (tgt := 199) (show decode cX12_two 192 = .ok (.ifCond .eq 7, 3) by decide +kernel) rfl c57 ?_
        refine y_iconst (show decode cX12_two 199 = .ok (.iconst 0, 1) by decide +kernel) rfl ?_
        cases h
        exact y_iret (show decode cX12_two 200 = .ok (.ireturn, 1) by decide +kernel) rfl
      · rw [if_neg c57] at h
        refine y_if_eq_f (show decode cX12_two 192 = .ok (.ifCond .eq 7, 3) by decide +kernel) c57 (by decide) ?_
        refine y_iconst (show decode cX12_two 195 = .ok (.iconst 1, 1) by decide +kernel) rfl ?_
        refine y_goto (tgt := 200) (show decode cX12_two 196 = .ok (.goto 4, 3) by decide +kernel) rfl ?_
        cases h
        exact y_iret (show decode cX12_two 200 = .ok (.ireturn, 1) by decide +kernel) rfl
  rw [if_neg c55] at h
  by_cases c58 : a = 59
  · rw [if_pos c58] at h
    refine y_tableIn (off := 186) (tgt := 187) (show decode cX12_two 1 = .ok (.tableswitch 186 38 62 #[172, 186, 186, 186, 123, 115, 186, 119, 186, 127, 186, 186, 186, 186, 186, 186, 186, 186, 186, 186, 186, 186, 139, 161, 150], 115) by decide +kernel) (by omega) (by omega) (by rw [c58]; rfl) rfl ?_
    refine y_iload_n (show decode cX12_two 187 = .ok (.iload_n 1, 1) by decide +kernel) 1 rfl ?_
    by_cases c59 : ¬ b = 0
    · rw [if_pos c59] at h
      refine y_if_ne_t (tgt := 195) (show decode cX12_two 188 = .ok (.ifCond .ne 7, 3) by decide +kernel) rfl c59 ?_
      refine y_iconst (show decode cX12_two 195 = .ok (.iconst 1, 1) by decide +kernel) rfl ?_
      refine y_goto (tgt := 200) (show decode cX12_two 196 = .ok (.goto 4, 3) by decide +kernel) rfl ?_
      cases h
      exact y_iret (show decode cX12_two 200 = .ok (.ireturn, 1) by decide +kernel) rfl
    · rw [if_neg c59] at h
      refine y_if_ne_f (show decode cX12_two 188 = .ok (.ifCond .ne 7, 3) by decide +kernel) c59 (by decide) ?_
      refine y_iload_n (show decode cX12_two 191 = .ok (.iload_n 2, 1) by decide +kernel) 2 rfl ?_
      by_cases c60 : c = 0
      · rw [if_pos c60] at h
        refine y_if_eq_t (tgt := 199) (show decode cX12_two 192 = .ok (.ifCond .eq 7, 3) by decide +kernel) rfl c60 ?_
        refine y_iconst (show decode cX12_two 199 = .ok (.iconst 0, 1) by decide +kernel) rfl ?_
        cases h
        exact y_iret (show decode cX12_two 200 = .ok (.ireturn, 1) by decide +kernel) rfl
      · rw [if_neg c60] at h
        refine y_if_eq_f (show decode cX12_two 192 = .ok (.ifCond .eq 7, 3) by decide +kernel) c60 (by decide) ?_
        refine y_iconst (show decode cX12_two 195 = .ok (.iconst 1, 1) by decide +kernel) rfl ?_
        refine y_goto (tgt := 200) (show decode cX12_two 196 = .ok (.goto 4, 3) by decide +kernel) rfl ?_
        cases h
        exact y_iret (show decode cX12_two 200 = .ok (.ireturn, 1) by decide +kernel) rfl
  rw [if_neg c58] at h
  by_cases c61 : a = 60
  · rw [if_pos c61] at h
    refine y_tableIn (off := 139) (tgt := 140) (show decode cX12_two 1 = .ok (.tableswitch 186 38 62 #[172, 186, 186, 186, 123, 115, 186, 119, 186, 127, 186, 186, 186, 186, 186, 186, 186, 186, 186, 186, 186, 186, 139, 161, 150], 115) by decide +kernel) (by omega) (by omega) (by rw [c61]; rfl) rfl ?_
    refine y_iload_n (show decode cX12_two 140 = .ok (.iload_n 1, 1) by decide +kernel) 1 rfl ?_
    refine y_iload_n (show decode cX12_two 141 = .ok (.iload_n 2, 1) by decide +kernel) 2 rfl ?_
    by_cases c62 : b ≥ c
    · rw [if_pos c62] at h
      refine y_icmp_ge_t (tgt := 149) (show decode cX12_two 142 = .ok (.if_icmp .ge 7, 3) by decide +kernel) rfl c62 ?_
      refine y_iconst (show decode cX12_two 149 = .ok (.iconst 0, 1) by decide +kernel) rfl ?_
      cases h
      exact y_iret (show decode cX12_two 150 = .ok (.ireturn, 1) by decide +kernel) rfl
    · rw [if_neg c62] at h
      refine y_icmp_ge_f (show decode cX12_two 142 = .ok (.if_icmp .ge 7, 3) by decide +kernel) c62 (by decide) ?_
      refine y_iconst (show decode cX12_two 145 = .ok (.iconst 1, 1) by decide +kernel) rfl ?_
      refine y_goto (tgt := 150) (show decode cX12_two 146 = .ok (.goto 4, 3) by decide +kernel) rfl ?_
      cases h
      exact y_iret (show decode cX12_two 150 = .ok (.ireturn, 1) by decide +kernel) rfl
  rw [if_neg c61] at h
  by_cases c63 : a = 61
  · rw [if_pos c63] at h
    refine y_tableIn (off := 161) (tgt := 162) (show decode cX12_two 1 = .ok (.tableswitch 186 38 62 #[172, 186, 186, 186, 123, 115, 186, 119, 186, 127, 186, 186, 186, 186, 186, 186, 186, 186, 186, 186, 186, 186, 139, 161, 150], 115) by decide +kernel) (by omega) (by omega) (by rw [c63]; rfl) rfl ?_
    refine y_iload_n (show decode cX12_two 162 = .ok (.iload_n 1, 1) by decide +kernel) 1 rfl ?_
    refine y_iload_n (show decode cX12_two 163 = .ok (.iload_n 2, 1) by decide +kernel) 2 rfl ?_
    by_cases c64 : ¬ b = c
    · rw [if_pos c64] at h
      refine y_icmp_ne_t (tgt := 171) (show decode cX12_two 164 = .ok (.if_icmp .ne 7, 3) by decide +kernel) rfl c64 ?_
      refine y_iconst (show decode cX12_two 171 = .ok (.iconst 0, 1) by decide +kernel) rfl ?_
      cases h
      exact y_iret (show decode cX12_two 172 = .ok (.ireturn, 1) by decide +kernel) rfl
    · rw [if_neg c64] at h
      refine y_icmp_ne_f (show decode cX12_two 164 = .ok (.if_icmp .ne 7, 3) by decide +kernel) c64 (by decide) ?_
      refine y_iconst (show decode cX12_two 167 = .ok (.iconst 1, 1) by decide +kernel) rfl ?_
      refine y_goto (tgt := 172) (show decode cX12_two 168 = .ok (.goto 4, 3) by decide +kernel) rfl ?_
      cases h
      exact y_iret (show decode cX12_two 172 = .ok (.ireturn, 1) by decide +kernel) rfl
  rw [if_neg c63] at h
  by_cases c65 : a = 62
  · rw [if_pos c65] at h
    refine y_tableIn (off := 150) (tgt := 151) (show decode cX12_two 1 = .ok (.tableswitch 186 38 62 #[172, 186, 186, 186, 123, 115, 186, 119, 186, 127, 186, 186, 186, 186, 186, 186, 186, 186, 186, 186, 186, 186, 139, 161, 150], 115) by decide +kernel) (by omega) (by omega) (by rw [c65]; rfl) rfl ?_
    refine y_iload_n (show decode cX12_two 151 = .ok (.iload_n 1, 1) by decide +kernel) 1 rfl ?_
    refine y_iload_n (show decode cX12_two 152 = .ok (.iload_n 2, 1) by decide +kernel) 2 rfl ?_
    by_cases c66 : b ≤ c
    · rw [if_pos c66] at h
      refine y_icmp_le_t (tgt := 160) (show decode cX12_two 153 = .ok (.if_icmp .le 7, 3) by decide +kernel) rfl c66 ?_
      refine y_iconst (show decode cX12_two 160 = .ok (.iconst 0, 1) by decide +kernel) rfl ?_
      cases h
      exact y_iret (show decode cX12_two 161 = .ok (.ireturn, 1) by decide +kernel) rfl
    · rw [if_neg c66] at h
      refine y_icmp_le_f (show decode cX12_two 153 = .ok (.if_icmp .le 7, 3) by decide +kernel) c66 (by decide) ?_
      refine y_iconst (show decode cX12_two 156 = .ok (.iconst 1, 1) by decide +kernel) rfl ?_
      refine y_goto (tgt := 161) (show decode cX12_two 157 = .ok (.goto 4, 3) by decide +kernel) rfl ?_
      cases h
      exact y_iret (show decode cX12_two 161 = .ok (.ireturn, 1) by decide +kernel) rfl
  rw [if_neg c65] at h
  refine y_tableOut (tgt := 187) (show decode cX12_two 1 = .ok (.tableswitch 186 38 62 #[172, 186, 186, 186, 123, 115, 186, 119, 186, 127, 186, 186, 186, 186, 186, 186, 186, 186, 186, 186, 186, 186, 139, 161, 150], 115) by decide +kernel) (by omega) rfl ?_
  refine y_iload_n (show decode cX12_two 187 = .ok (.iload_n 1, 1) by decide +kernel) 1 rfl ?_
  by_cases c67 : ¬ b = 0
  · rw [if_pos c67] at h
    refine y_if_ne_t (tgt := 195) (show decode cX12_two 188 = .ok (.ifCond .ne 7, 3) by decide +kernel) rfl c67 ?_
    refine y_iconst (show decode cX12_two 195 = .ok (.iconst 1, 1) by decide +kernel) rfl ?_
    refine y_goto (tgt := 200) (show decode cX12_two 196 = .ok (.goto 4, 3) by decide +kernel) rfl ?_
    cases h
    exact y_iret (show decode cX12_two 200 = .ok (.ireturn, 1) by decide +kernel) rfl
  · rw [if_neg c67] at h
    refine y_if_ne_f (show decode cX12_two 188 = .ok (.ifCond .ne 7, 3) by decide +kernel) c67 (by decide) ?_
    refine y_iload_n (show decode cX12_two 191 = .ok (.iload_n 2, 1) by decide +kernel) 2 rfl ?_
    by_cases c68 : c = 0
    · rw [if_pos c68] at h
      refine y_if_eq_t (tgt := 199) (show decode cX12_two 192 = .ok (.ifCond .eq 7, 3) by decide +kernel) rfl c68 ?_
      refine y_iconst (show decode cX12_two 199 = .ok (.iconst 0, 1) by decide +kernel) rfl ?_
      cases h
      exact y_iret (show decode cX12_two 200 = .ok (.ireturn, 1) by decide +kernel) rfl
    · rw [if_neg c68] at h
      refine y_if_eq_f (show decode cX12_two 192 = .ok (.ifCond .eq 7, 3) by decide +kernel) c68 (by decide) ?_
      refine y_iconst (show decode cX12_two 195 = .ok (.iconst 1, 1) by decide +kernel) rfl ?_
      refine y_goto (tgt := 200) (show decode cX12_two 196 = .ok (.goto 4, 3) by decide +kernel) rfl ?_
      cases h
      exact y_iret (show decode cX12_two 200 = .ok (.ireturn, 1) by decide +kernel) rfl
