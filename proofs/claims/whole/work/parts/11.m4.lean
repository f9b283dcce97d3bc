abbrev MX12_readPlan : yM := (yX12_readPlan, cX12_readPlan, 5, none)
def mo_readPlan (N : Nat) (σ : ySt) : Option (ySt) :=
  bndO (mo_personHere N σ) fun r2 =>
  bnd (fun (σ3 : ySt) =>
    bndR (mo_told N r2 σ3) fun r6 σ7 =>
    bndO (mo_isGood σ7) fun r9 =>
    if ¬ r9 = 0 then
      chkA 5 r6 <|
      bnd (yset σ7 137 (r6).toNat 1) fun σ12 =>
      loopS1 (fun k16 x14 σ15 =>
        bndO (mo_isGood σ15) fun r18 =>
        if r18 = 0 then
          some σ15
        else
          bnd (chkA 2 (σ15 92 40) <|
            bnd (fun (σ22 : ySt) =>
              bndO (mo_placeHere N σ22) fun r25 =>
              bndR (mo_told N r25 σ22) fun r27 σ28 =>
              loopS2 (fun k32 x29 x30 σ31 =>
                bnd (chkI (x29 + 1) <|
                  k16 (x29 + 1) σ31) fun j33 =>
                if x30 ≥ 8 then
                  j33
                else
                  bndO (mo_isGood σ31) fun r37 =>
                  if r37 = 0 then
                    j33
                  else
                    chkI (8 * r6) <|
                    chkI (40 + (8 * r6)) <|
                    chkI ((40 + (8 * r6)) + x30) <|
                    chkA 80 ((40 + (8 * r6)) + x30) <|
                    bnd (yset σ31 136 (((40 + (8 * r6)) + x30)).toNat r27) fun σ43 =>
                    chkI (x30 + 1) <|
                    k32 x29 (x30 + 1) σ43) N x14 x14 σ28) fun j23 =>
            if ¬ x14 = (σ15 101 ((σ15 92 40)).toNat) then
              j23 σ15
            else
              bndO (mo_misplaced σ15) fun σ48 =>
              j23 σ48) fun j20 =>
          if x14 = 0 then
            j20
          else
            if ¬ (σ15 92 8) = 2 then
              some σ15
            else
              j20) N 0 σ12
    else
      some σ7) fun j4 =>
  if ¬ (σ 92 8) = 2 then
    j4 σ
  else
    if r2 < 0 then
      j4 σ
    else
      chkA 5 r2 <|
      if (σ 137 (r2).toNat) = 0 then
        j4 σ
      else
        bndO (mo_fails 3 (σ 92 6) σ) fun σ56 =>
        j4 σ56
set_option maxHeartbeats 4000000 in
set_option maxRecDepth 10000 in
theorem sh_mo_readPlan {E : yE} {N : Nat} {σ : ySt} {τ : ySt} (h : mo_readPlan N σ = some τ) : Con E MX12_readPlan 3 0 0 [.inr (.inr (92 + 1))] 150 (ov σ) none (ov τ) := by
  unfold mo_readPlan at h
  refine Con.ofY (by decide +kernel) (by simp [yWords, yCat]) (fun hok _ => ?_)
  show Y E MX12_readPlan (yRm 3 0 0) (yQf E (150 + 0) 0 0 none (ov τ)) 0 [(0, .inr (.inr (92 + 1)))] [] (ov σ) 150 0 0
  refine y_aload_n (show decode cX12_readPlan 0 = .ok (.aload_n 0, 1) by decide +kernel) 0 rfl ?_
  obtain ⟨r2, e1, h⟩ := bndO_some h
  refine y_callV (np := 0) (st := []) (as := []) 92 12 (sh_mo_personHere e1) q7_187 q7_184 q7_186 qs5_7 q1_15 (by decide) rfl (by decide) rfl (by decide) (by decide +kernel) (by decide) rfl (Nat.le_of_ble_eq_true rfl) (show decode cX12_readPlan 1 = .ok (.invokevirtual 363, 3) by decide +kernel) rfl ?_
  refine y_istore_n (show decode cX12_readPlan 4 = .ok (.istore_n 1, 1) by decide +kernel) rfl (L1 := [(1, .inl r2), (0, .inr (.inr (92 + 1)))]) rfl ?_
  refine y_aload_n (show decode cX12_readPlan 5 = .ok (.aload_n 0, 1) by decide +kernel) 1 rfl ?_
  refine y_getf 92 12 8 249 (by decide) rfl (by decide) (by decide) q6_55 (show decode cX12_readPlan 6 = .ok (.getfield 249, 3) by decide +kernel) (v := .inl (σ 92 8)) rfl ?_
  refine y_iconst (show decode cX12_readPlan 9 = .ok (.iconst 2, 1) by decide +kernel) rfl ?_
  refine bnd_j (Q := fun j4 => ∀ (σ3 : ySt), j4 σ3 = some τ → Y E MX12_readPlan (yRm 3 0 0) (yQf E (150 + 0) 0 0 none (ov τ)) 35 [(0, .inr (.inr (92 + 1))), (1, .inl r2)] [] (ov σ3) 150 0 0) (fun σ3 h => ?_) (fun j4 hj4 h => ?_) h
  · dsimp only at h
    refine y_aload_n (show decode cX12_readPlan 35 = .ok (.aload_n 0, 1) by decide +kernel) 0 rfl ?_
    refine y_iload_n (show decode cX12_readPlan 36 = .ok (.iload_n 1, 1) by decide +kernel) 1 rfl ?_
    obtain ⟨r6, σ7, e5, h⟩ := bndR_some h
    refine y_callV (np := 1) (st := []) (as := [.inl r2]) 92 12 (sh_mo_told e5) q7_163 q7_160 q7_162 qs5_1 q1_15 (by decide) rfl (by decide) rfl (by decide) (by decide +kernel) (by decide) rfl (Nat.le_of_ble_eq_true rfl) (show decode cX12_readPlan 37 = .ok (.invokevirtual 356, 3) by decide +kernel) rfl ?_
    refine y_istore_n (show decode cX12_readPlan 40 = .ok (.istore_n 1, 1) by decide +kernel) rfl (L1 := [(1, .inl r6), (0, .inr (.inr (92 + 1)))]) rfl ?_
    refine y_aload_n (show decode cX12_readPlan 41 = .ok (.aload_n 0, 1) by decide +kernel) 1 rfl ?_
    obtain ⟨r9, e8, h⟩ := bndO_some h
    refine y_callV (np := 0) (st := []) (as := []) 92 12 (sh_mo_isGood e8) q7_119 q7_116 q7_118 qs4_6 q1_15 (by decide) rfl (by decide) rfl (by decide) (by decide +kernel) (by decide) rfl (Nat.le_of_ble_eq_true rfl) (show decode cX12_readPlan 42 = .ok (.invokevirtual 277, 3) by decide +kernel) rfl ?_
    by_cases c10 : ¬ r9 = 0
    · rw [if_pos c10] at h
      refine y_if_ne_t (tgt := 49) (show decode cX12_readPlan 45 = .ok (.ifCond .ne 4, 3) by decide +kernel) rfl c10 ?_
      refine y_aload_n (show decode cX12_readPlan 49 = .ok (.aload_n 0, 1) by decide +kernel) 1 rfl ?_
      refine y_getf 92 12 67 150 (by decide) rfl (by decide) (by decide) q6_114 (show decode cX12_readPlan 50 = .ok (.getfield 150, 3) by decide +kernel) (v := .inr (.inr (137 + 1))) rfl ?_
      refine y_iload_n (show decode cX12_readPlan 53 = .ok (.iload_n 1, 1) by decide +kernel) 0 rfl ?_
      refine y_iconst (show decode cX12_readPlan 54 = .ok (.iconst 1, 1) by decide +kernel) rfl ?_
      obtain ⟨c11, h⟩ := chkA_some h
      obtain ⟨σ12, e13, h⟩ := bnd_i h
      refine yo_zast 137 5 (by decide) rfl c11 (Or.inr rfl) (ov_set1 e13 rfl) (show decode cX12_readPlan 55 = .ok (.bastore, 1) by decide +kernel) ?_
      refine y_iconst (show decode cX12_readPlan 56 = .ok (.iconst 0, 1) by decide +kernel) rfl ?_
      refine y_istore_n (show decode cX12_readPlan 57 = .ok (.istore_n 2, 1) by decide +kernel) rfl (L1 := [(2, .inl 0), (1, .inl r6), (0, .inr (.inr (92 + 1)))]) rfl ?_
      refine y_pick [2, 1, 0] rfl ?_
      refine loopS1_ind (P := fun x14 σ15 => Y E MX12_readPlan (yRm 3 0 0) (yQf E (150 + 0) 0 0 none (ov τ)) 58 [(0, .inr (.inr (92 + 1))), (1, .inl r6), (2, .inl x14)] [] (ov σ15) 150 0 0) (fun k16 hk16 x14 σ15 h => ?_) _ _ _  h
      refine y_aload_n (show decode cX12_readPlan 58 = .ok (.aload_n 0, 1) by decide +kernel) 0 rfl ?_
      obtain ⟨r18, e17, h⟩ := bndO_some h
      refine y_callV (np := 0) (st := []) (as := []) 92 12 (sh_mo_isGood e17) q7_119 q7_116 q7_118 qs4_6 q1_15 (by decide) rfl (by decide) rfl (by decide) (by decide +kernel) (by decide) rfl (Nat.le_of_ble_eq_true rfl) (show decode cX12_readPlan 59 = .ok (.invokevirtual 277, 3) by decide +kernel) rfl ?_
      by_cases c19 : r18 = 0
      · rw [if_pos c19] at h
        refine y_if_eq_t (tgt := 148) (show decode cX12_readPlan 62 = .ok (.ifCond .eq 86, 3) by decide +kernel) rfl c19 ?_
        cases h
        exact y_vret (show decode cX12_readPlan 148 = .ok (.return_, 1) by decide +kernel) rfl
      · rw [if_neg c19] at h
        refine y_if_eq_f (show decode cX12_readPlan 62 = .ok (.ifCond .eq 86, 3) by decide +kernel) c19 (by decide) ?_
        refine y_iload_n (show decode cX12_readPlan 65 = .ok (.iload_n 2, 1) by decide +kernel) 2 rfl ?_
        refine bnd_j (Q := fun j20 => j20 = some τ → Y E MX12_readPlan (yRm 3 0 0) (yQf E (150 + 0) 0 0 none (ov τ)) 77 [(0, .inr (.inr (92 + 1))), (1, .inl r6), (2, .inl x14)] [] (ov σ15) 150 0 0) (fun h => ?_) (fun j20 hj20 h => ?_) h
        · refine y_iload_n (show decode cX12_readPlan 77 = .ok (.iload_n 2, 1) by decide +kernel) 2 rfl ?_
          refine y_aload_n (show decode cX12_readPlan 78 = .ok (.aload_n 0, 1) by decide +kernel) 0 rfl ?_
          refine y_getf 92 12 17 39 (by decide) rfl (by decide) (by decide) q6_64 (show decode cX12_readPlan 79 = .ok (.getfield 39, 3) by decide +kernel) (v := .inr (.inr (101 + 1))) rfl ?_
          refine y_aload_n (show decode cX12_readPlan 82 = .ok (.aload_n 0, 1) by decide +kernel) 0 rfl ?_
          refine y_getf 92 12 40 311 (by decide) rfl (by decide) (by decide) q6_87 (show decode cX12_readPlan 83 = .ok (.getfield 311, 3) by decide +kernel) (v := .inl (σ15 92 40)) rfl ?_
          obtain ⟨c21, h⟩ := chkA_some h
          refine yo_iald 101 2 (by decide) rfl c21 (ov_at rfl) (show decode cX12_readPlan 86 = .ok (.iaload, 1) by decide +kernel) ?_
          refine bnd_j (Q := fun j23 => ∀ (σ22 : ySt), j23 σ22 = some τ → Y E MX12_readPlan (yRm 3 0 0) (yQf E (150 + 0) 0 0 none (ov τ)) 94 [(0, .inr (.inr (92 + 1))), (1, .inl r6), (2, .inl x14)] [] (ov σ22) 150 0 0) (fun σ22 h => ?_) (fun j23 hj23 h => ?_) h
          · dsimp only at h
            refine y_aload_n (show decode cX12_readPlan 94 = .ok (.aload_n 0, 1) by decide +kernel) 0 rfl ?_
            refine y_aload_n (show decode cX12_readPlan 95 = .ok (.aload_n 0, 1) by decide +kernel) 0 rfl ?_
            obtain ⟨r25, e24, h⟩ := bndO_some h
            refine y_callV (np := 0) (st := [.inr (.inr (92 + 1))]) (as := []) 92 12 (sh_mo_placeHere e24) q7_147 q7_144 q7_146 qs4_13 q1_15 (by decide) rfl (by decide) rfl (by decide) (by decide +kernel) (by decide) rfl (Nat.le_of_ble_eq_true rfl) (show decode cX12_readPlan 96 = .ok (.invokevirtual 348, 3) by decide +kernel) rfl ?_
            obtain ⟨r27, σ28, e26, h⟩ := bndR_some h
            refine y_callV (np := 1) (st := []) (as := [.inl r25]) 92 12 (sh_mo_told e26) q7_163 q7_160 q7_162 qs5_1 q1_15 (by decide) rfl (by decide) rfl (by decide) (by decide +kernel) (by decide) rfl (Nat.le_of_ble_eq_true rfl) (show decode cX12_readPlan 99 = .ok (.invokevirtual 356, 3) by decide +kernel) rfl ?_
            refine y_istore_n (show decode cX12_readPlan 102 = .ok (.istore_n 3, 1) by decide +kernel) rfl (L1 := [(3, .inl r27), (0, .inr (.inr (92 + 1))), (1, .inl r6), (2, .inl x14)]) rfl ?_
            refine y_iload_n (show decode cX12_readPlan 103 = .ok (.iload_n 2, 1) by decide +kernel) 3 rfl ?_
            refine y_istore (show decode cX12_readPlan 104 = .ok (.istore 4, 2) by decide +kernel) rfl (L1 := [(4, .inl x14), (3, .inl r27), (0, .inr (.inr (92 + 1))), (1, .inl r6), (2, .inl x14)]) rfl ?_
            refine y_pick [2, 3, 4, 1, 0] rfl ?_
            refine loopS2_ind (P := fun x29 x30 σ31 => Y E MX12_readPlan (yRm 3 0 0) (yQf E (150 + 0) 0 0 none (ov τ)) 106 [(0, .inr (.inr (92 + 1))), (1, .inl r6), (2, .inl x29), (3, .inl r27), (4, .inl x30)] [] (ov σ31) 150 0 0) (fun k32 hk32 x29 x30 σ31 h => ?_) _ _ _ _  h
            refine y_iload (show decode cX12_readPlan 106 = .ok (.iload 4, 2) by decide +kernel) 4 rfl ?_
            refine y_bipush (show decode cX12_readPlan 108 = .ok (.bipush 8, 2) by decide +kernel) rfl rfl ?_
            refine bnd_j (Q := fun j33 => j33 = some τ → Y E MX12_readPlan (yRm 3 0 0) (yQf E (150 + 0) 0 0 none (ov τ)) 142 [(0, .inr (.inr (92 + 1))), (1, .inl r6), (2, .inl x29)] [] (ov σ31) 150 0 0) (fun h => ?_) (fun j33 hj33 h => ?_) h
            · obtain ⟨c34, h⟩ := chkI_some h
              refine y_iinc (show decode cX12_readPlan 142 = .ok (.iinc 2 1, 3) by decide +kernel) 2 rfl c34 rfl (L1 := [(2, .inl (x29 + 1)), (0, .inr (.inr (92 + 1))), (1, .inl r6)]) rfl ?_
              refine y_goto (tgt := 58) (show decode cX12_readPlan 145 = .ok (.goto (-87), 3) by decide +kernel) rfl ?_
              refine y_pick [1, 2, 0] rfl ?_
              exact hk16 _ _ h
            by_cases c35 : x30 ≥ 8
            · rw [if_pos c35] at h
              refine y_icmp_ge_t (tgt := 142) (show decode cX12_readPlan 110 = .ok (.if_icmp .ge 32, 3) by decide +kernel) rfl c35 ?_
              refine y_pick [0, 1, 2] rfl ?_
              exact hj33 h
            · rw [if_neg c35] at h
              refine y_icmp_ge_f (show decode cX12_readPlan 110 = .ok (.if_icmp .ge 32, 3) by decide +kernel) c35 (by decide) ?_
              refine y_aload_n (show decode cX12_readPlan 113 = .ok (.aload_n 0, 1) by decide +kernel) 0 rfl ?_
              obtain ⟨r37, e36, h⟩ := bndO_some h
              refine y_callV (np := 0) (st := []) (as := []) 92 12 (sh_mo_isGood e36) q7_119 q7_116 q7_118 qs4_6 q1_15 (by decide) rfl (by decide) rfl (by decide) (by decide +kernel) (by decide) rfl (Nat.le_of_ble_eq_true rfl) (show decode cX12_readPlan 114 = .ok (.invokevirtual 277, 3) by decide +kernel) rfl ?_
              by_cases c38 : r37 = 0
              · rw [if_pos c38] at h
                refine y_if_eq_t (tgt := 142) (show decode cX12_readPlan 117 = .ok (.ifCond .eq 25, 3) by decide +kernel) rfl c38 ?_
                refine y_pick [0, 1, 2] rfl ?_
                exact hj33 h
              · rw [if_neg c38] at h
                refine y_if_eq_f (show decode cX12_readPlan 117 = .ok (.ifCond .eq 25, 3) by decide +kernel) c38 (by decide) ?_
                refine y_aload_n (show decode cX12_readPlan 120 = .ok (.aload_n 0, 1) by decide +kernel) 0 rfl ?_
                refine y_getf 92 12 66 147 (by decide) rfl (by decide) (by decide) q6_113 (show decode cX12_readPlan 121 = .ok (.getfield 147, 3) by decide +kernel) (v := .inr (.inr (136 + 1))) rfl ?_
                refine y_bipush (show decode cX12_readPlan 124 = .ok (.bipush 40, 2) by decide +kernel) rfl rfl ?_
                refine y_bipush (show decode cX12_readPlan 126 = .ok (.bipush 8, 2) by decide +kernel) rfl rfl ?_
                refine y_iload_n (show decode cX12_readPlan 128 = .ok (.iload_n 1, 1) by decide +kernel) 1 rfl ?_
                obtain ⟨c39, h⟩ := chkI_some h
                refine y_imul (show decode cX12_readPlan 129 = .ok (.imul, 1) by decide +kernel) c39 ?_
                obtain ⟨c40, h⟩ := chkI_some h
                refine y_iadd (show decode cX12_readPlan 130 = .ok (.iadd, 1) by decide +kernel) c40 ?_
                refine y_iload (show decode cX12_readPlan 131 = .ok (.iload 4, 2) by decide +kernel) 4 rfl ?_
                obtain ⟨c41, h⟩ := chkI_some h
                refine y_iadd (show decode cX12_readPlan 133 = .ok (.iadd, 1) by decide +kernel) c41 ?_
                refine y_iload_n (show decode cX12_readPlan 134 = .ok (.iload_n 3, 1) by decide +kernel) 3 rfl ?_
                obtain ⟨c42, h⟩ := chkA_some h
                obtain ⟨σ43, e44, h⟩ := bnd_i h
                refine yo_iast 136 80 (by decide) rfl c42 (ov_set1 e44 rfl) (show decode cX12_readPlan 135 = .ok (.iastore, 1) by decide +kernel) ?_
                obtain ⟨c45, h⟩ := chkI_some h
                refine y_iinc (show decode cX12_readPlan 136 = .ok (.iinc 4 1, 3) by decide +kernel) 4 rfl c45 rfl (L1 := [(4, .inl (x30 + 1)), (0, .inr (.inr (92 + 1))), (1, .inl r6), (2, .inl x29), (3, .inl r27)]) rfl ?_
                refine y_goto (tgt := 106) (show decode cX12_readPlan 139 = .ok (.goto (-33), 3) by decide +kernel) rfl ?_
                refine y_pick [1, 2, 3, 4, 0] rfl ?_
                exact hk32 _ _ _ h
          by_cases c46 : ¬ x14 = (σ15 101 ((σ15 92 40)).toNat)
          · rw [if_pos c46] at h
            refine y_icmp_ne_t (tgt := 94) (show decode cX12_readPlan 87 = .ok (.if_icmp .ne 7, 3) by decide +kernel) rfl c46 ?_
            refine y_pick [0, 1, 2] rfl ?_
            exact hj23 _ h
          · rw [if_neg c46] at h
            refine y_icmp_ne_f (show decode cX12_readPlan 87 = .ok (.if_icmp .ne 7, 3) by decide +kernel) c46 (by decide) ?_
            refine y_aload_n (show decode cX12_readPlan 90 = .ok (.aload_n 0, 1) by decide +kernel) 0 rfl ?_
            obtain ⟨σ48, e47, h⟩ := bndO_some h
            refine y_callV (np := 0) (st := []) (as := []) 92 12 (sh_mo_misplaced e47) q7_135 q7_132 q7_134 qs4_10 q1_15 (by decide) rfl (by decide) rfl (by decide) (by decide +kernel) (by decide) rfl (Nat.le_of_ble_eq_true rfl) (show decode cX12_readPlan 91 = .ok (.invokevirtual 284, 3) by decide +kernel) rfl ?_
            refine y_pick [0, 1, 2] rfl ?_
            exact hj23 _ h
        by_cases c49 : x14 = 0
        · rw [if_pos c49] at h
          refine y_if_eq_t (tgt := 77) (show decode cX12_readPlan 66 = .ok (.ifCond .eq 11, 3) by decide +kernel) rfl c49 ?_
          refine y_pick [0, 1, 2] rfl ?_
          exact hj20 h
        · rw [if_neg c49] at h
          refine y_if_eq_f (show decode cX12_readPlan 66 = .ok (.ifCond .eq 11, 3) by decide +kernel) c49 (by decide) ?_
          refine y_aload_n (show decode cX12_readPlan 69 = .ok (.aload_n 0, 1) by decide +kernel) 0 rfl ?_
          refine y_getf 92 12 8 249 (by decide) rfl (by decide) (by decide) q6_55 (show decode cX12_readPlan 70 = .ok (.getfield 249, 3) by decide +kernel) (v := .inl (σ15 92 8)) rfl ?_
          refine y_iconst (show decode cX12_readPlan 73 = .ok (.iconst 2, 1) by decide +kernel) rfl ?_
          by_cases c50 : ¬ (σ15 92 8) = 2
          · rw [if_pos c50] at h
            refine y_icmp_ne_t (tgt := 148) (show decode cX12_readPlan 74 = .ok (.if_icmp .ne 74, 3) by decide +kernel) rfl c50 ?_
            cases h
            exact y_vret (show decode cX12_readPlan 148 = .ok (.return_, 1) by decide +kernel) rfl
          · rw [if_neg c50] at h
            refine y_icmp_ne_f (show decode cX12_readPlan 74 = .ok (.if_icmp .ne 74, 3) by decide +kernel) c50 (by decide) ?_
            refine y_pick [0, 1, 2] rfl ?_
            exact hj20 h
    · rw [if_neg c10] at h
      refine y_if_ne_f (show decode cX12_readPlan 45 = .ok (.ifCond .ne 4, 3) by decide +kernel) c10 (by decide) ?_
      cases h
      exact y_vret (show decode cX12_readPlan 48 = .ok (.return_, 1) by decide +kernel) rfl
  by_cases c51 : ¬ (σ 92 8) = 2
  · rw [if_pos c51] at h
    refine y_icmp_ne_t (tgt := 35) (show decode cX12_readPlan 10 = .ok (.if_icmp .ne 25, 3) by decide +kernel) rfl c51 ?_
    refine y_pick [1, 0] rfl ?_
    exact hj4 _ h
  · rw [if_neg c51] at h
    refine y_icmp_ne_f (show decode cX12_readPlan 10 = .ok (.if_icmp .ne 25, 3) by decide +kernel) c51 (by decide) ?_
    refine y_iload_n (show decode cX12_readPlan 13 = .ok (.iload_n 1, 1) by decide +kernel) 0 rfl ?_
    by_cases c52 : r2 < 0
    · rw [if_pos c52] at h
      refine y_if_lt_t (tgt := 35) (show decode cX12_readPlan 14 = .ok (.ifCond .lt 21, 3) by decide +kernel) rfl c52 ?_
      refine y_pick [1, 0] rfl ?_
      exact hj4 _ h
    · rw [if_neg c52] at h
      refine y_if_lt_f (show decode cX12_readPlan 14 = .ok (.ifCond .lt 21, 3) by decide +kernel) c52 (by decide) ?_
      refine y_aload_n (show decode cX12_readPlan 17 = .ok (.aload_n 0, 1) by decide +kernel) 1 rfl ?_
      refine y_getf 92 12 67 150 (by decide) rfl (by decide) (by decide) q6_114 (show decode cX12_readPlan 18 = .ok (.getfield 150, 3) by decide +kernel) (v := .inr (.inr (137 + 1))) rfl ?_
      refine y_iload_n (show decode cX12_readPlan 21 = .ok (.iload_n 1, 1) by decide +kernel) 0 rfl ?_
      obtain ⟨c53, h⟩ := chkA_some h
      refine yo_zald 137 5 (by decide) rfl c53 (ov_at rfl) (show decode cX12_readPlan 22 = .ok (.baload, 1) by decide +kernel) ?_
      by_cases c54 : (σ 137 (r2).toNat) = 0
      · rw [if_pos c54] at h
        refine y_if_eq_t (tgt := 35) (show decode cX12_readPlan 23 = .ok (.ifCond .eq 12, 3) by decide +kernel) rfl c54 ?_
        refine y_pick [1, 0] rfl ?_
        exact hj4 _ h
      · rw [if_neg c54] at h
        refine y_if_eq_f (show decode cX12_readPlan 23 = .ok (.ifCond .eq 12, 3) by decide +kernel) c54 (by decide) ?_
        refine y_aload_n (show decode cX12_readPlan 26 = .ok (.aload_n 0, 1) by decide +kernel) 1 rfl ?_
        refine y_iconst (show decode cX12_readPlan 27 = .ok (.iconst 3, 1) by decide +kernel) rfl ?_
        refine y_aload_n (show decode cX12_readPlan 28 = .ok (.aload_n 0, 1) by decide +kernel) 1 rfl ?_
        refine y_getf 92 12 6 242 (by decide) rfl (by decide) (by decide) q6_53 (show decode cX12_readPlan 29 = .ok (.getfield 242, 3) by decide +kernel) (v := .inl (σ 92 6)) rfl ?_
        obtain ⟨σ56, e55, h⟩ := bndO_some h
        refine y_callV (np := 2) (st := []) (as := [.inl 3, .inl (σ 92 6)]) 92 12 (sh_mo_fails e55) q7_139 q7_136 q7_138 qs4_11 q1_15 (by decide) rfl (by decide) rfl (by decide) (by decide +kernel) (by decide) rfl (Nat.le_of_ble_eq_true rfl) (show decode cX12_readPlan 32 = .ok (.invokevirtual 273, 3) by decide +kernel) rfl ?_
        refine y_pick [1, 0] rfl ?_
        exact hj4 _ h
abbrev MX12_plan : yM := (yX12_plan, cX12_plan, 3, some .int)
def mo_plan (N : Nat) (σ : ySt) : Option (Int × ySt) :=
  if (σ 92 2) ≤ 400 then
    bndO (mo_takeTape N σ) fun σ3 =>
    bnd (yset σ3 92 41 (σ3 92 40)) fun σ4 =>
    bndO (mo_stayHome N 40 σ4) fun σ7 =>
    loopS1 (fun k10 x8 σ9 =>
      if x8 ≥ 5 then
        bndO (mo_goOn N σ9) fun σ13 =>
        loopS1 (fun k16 x14 σ15 =>
          bndO (mo_isGood σ15) fun r18 =>
          bnd (bndO (mo_isGood σ15) fun r21 =>
            if ¬ r21 = 0 then
              loopS2 (fun k26 x23 x24 σ25 =>
                if x24 ≥ 40 then
                  some (x23, σ25)
                else
                  chkI (40 + x24) <|
                  chkA 80 (40 + x24) <|
                  chkA 80 x24 <|
                  bnd (yset σ25 136 (x24).toNat (σ25 136 ((40 + x24)).toNat)) fun σ31 =>
                  chkI (x24 + 1) <|
                  k26 x23 (x24 + 1) σ31) N x14 0 σ15
            else
              some ((-1), σ15)) fun j19 =>
          if r18 = 0 then
            j19
          else
            if (σ15 92 8) = 0 then
              j19
            else
              bndO (mo_readPlan N σ15) fun σ37 =>
              bndO (mo_is 59 σ37) fun r39 =>
              bndO (mo_must N r39 σ37) fun σ41 =>
              chkI (x14 + 1) <|
              k16 (x14 + 1) σ41) N 0 σ13
      else
        chkA 5 x8 <|
        bnd (yset σ9 137 (x8).toNat 0) fun σ44 =>
        chkI (x8 + 1) <|
        k10 (x8 + 1) σ44) N 0 σ7
  else
    some ((-2), σ)
set_option maxHeartbeats 4000000 in
set_option maxRecDepth 10000 in
theorem sh_mo_plan {E : yE} {N : Nat} {σ : ySt} {ρ : Int} {τ : ySt} (h : mo_plan N σ = some (ρ, τ)) : Con E MX12_plan 4 0 0 [.inr (.inr (92 + 1))] 150 (ov σ) (some (.inl ρ)) (ov τ) := by
  unfold mo_plan at h
  refine Con.ofY (by decide +kernel) (by simp [yWords, yCat]) (fun hok _ => ?_)
  show Y E MX12_plan (yRm 4 0 0) (yQf E (150 + 0) 0 0 (some (.inl ρ)) (ov τ)) 0 [(0, .inr (.inr (92 + 1)))] [] (ov σ) 150 0 0
  refine y_aload_n (show decode cX12_plan 0 = .ok (.aload_n 0, 1) by decide +kernel) 0 rfl ?_
  refine y_getf 92 12 2 298 (by decide) rfl (by decide) (by decide) q6_49 (show decode cX12_plan 1 = .ok (.getfield 298, 3) by decide +kernel) (v := .inl (σ 92 2)) rfl ?_
  refine y_sipush (show decode cX12_plan 4 = .ok (.sipush 400, 3) by decide +kernel) rfl rfl ?_
  by_cases c1 : (σ 92 2) ≤ 400
  · rw [if_pos c1] at h
    refine y_icmp_le_t (tgt := 13) (show decode cX12_plan 7 = .ok (.if_icmp .le 6, 3) by decide +kernel) rfl c1 ?_
    refine y_aload_n (show decode cX12_plan 13 = .ok (.aload_n 0, 1) by decide +kernel) 0 rfl ?_
    obtain ⟨σ3, e2, h⟩ := bndO_some h
    refine y_callV (np := 0) (st := []) (as := []) 92 12 (sh_mo_takeTape e2) q7_76 q7_73 q7_75 qs4_3 q1_15 (by decide) rfl (by decide) rfl (by decide) (by decide +kernel) (by decide) rfl (Nat.le_of_ble_eq_true rfl) (show decode cX12_plan 14 = .ok (.invokevirtual 308, 3) by decide +kernel) rfl ?_
    refine y_aload_n (show decode cX12_plan 17 = .ok (.aload_n 0, 1) by decide +kernel) 0 rfl ?_
    refine y_aload_n (show decode cX12_plan 18 = .ok (.aload_n 0, 1) by decide +kernel) 0 rfl ?_
    refine y_getf 92 12 40 311 (by decide) rfl (by decide) (by decide) q6_87 (show decode cX12_plan 19 = .ok (.getfield 311, 3) by decide +kernel) (v := .inl (σ3 92 40)) rfl ?_
    obtain ⟨σ4, e5, h⟩ := bnd_i h
    refine yo_putI 92 12 41 301 (by decide) rfl (by decide) (by decide) q6_88 rfl (show decode cX12_plan 22 = .ok (.putfield 301, 3) by decide +kernel) rfl rfl (ov_set1 e5 rfl) ?_
    refine y_aload_n (show decode cX12_plan 25 = .ok (.aload_n 0, 1) by decide +kernel) 0 rfl ?_
    refine y_bipush (show decode cX12_plan 26 = .ok (.bipush 40, 2) by decide +kernel) rfl rfl ?_
    obtain ⟨σ7, e6, h⟩ := bndO_some h
    refine y_callV (np := 1) (st := []) (as := [.inl 40]) 92 12 (sh_mo_stayHome e6) q6_46 q6_43 q6_45 qs4_2 q1_15 (by decide) rfl (by decide) rfl (by decide) (by decide +kernel) (by decide) rfl (Nat.le_of_ble_eq_true rfl) (show decode cX12_plan 28 = .ok (.invokevirtual 527, 3) by decide +kernel) rfl ?_
    refine y_iconst (show decode cX12_plan 31 = .ok (.iconst 0, 1) by decide +kernel) rfl ?_
    refine y_istore_n (show decode cX12_plan 32 = .ok (.istore_n 1, 1) by decide +kernel) rfl (L1 := [(1, .inl 0), (0, .inr (.inr (92 + 1)))]) rfl ?_
    refine y_pick [1, 0] rfl ?_
    refine loopS1_ind (P := fun x8 σ9 => Y E MX12_plan (yRm 4 0 0) (yQf E (150 + 0) 0 0 (some (.inl ρ)) (ov τ)) 33 [(0, .inr (.inr (92 + 1))), (1, .inl x8)] [] (ov σ9) 150 0 0) (fun k10 hk10 x8 σ9 h => ?_) _ _ _  h
    refine y_iload_n (show decode cX12_plan 33 = .ok (.iload_n 1, 1) by decide +kernel) 1 rfl ?_
    refine y_iconst (show decode cX12_plan 34 = .ok (.iconst 5, 1) by decide +kernel) rfl ?_
    by_cases c11 : x8 ≥ 5
    · rw [if_pos c11] at h
      refine y_icmp_ge_t (tgt := 51) (show decode cX12_plan 35 = .ok (.if_icmp .ge 16, 3) by decide +kernel) rfl c11 ?_
      refine y_iconst (show decode cX12_plan 51 = .ok (.iconst 0, 1) by decide +kernel) rfl ?_
      refine y_istore_n (show decode cX12_plan 52 = .ok (.istore_n 1, 1) by decide +kernel) rfl (L1 := [(1, .inl 0), (0, .inr (.inr (92 + 1)))]) rfl ?_
      refine y_aload_n (show decode cX12_plan 53 = .ok (.aload_n 0, 1) by decide +kernel) 1 rfl ?_
      obtain ⟨σ13, e12, h⟩ := bndO_some h
      refine y_callV (np := 0) (st := []) (as := []) 92 12 (sh_mo_goOn e12) q7_80 q7_77 q7_79 qs4_4 q1_15 (by decide) rfl (by decide) rfl (by decide) (by decide +kernel) (by decide) rfl (Nat.le_of_ble_eq_true rfl) (show decode cX12_plan 54 = .ok (.invokevirtual 281, 3) by decide +kernel) rfl ?_
      refine y_pick [1, 0] rfl ?_
      refine loopS1_ind (P := fun x14 σ15 => Y E MX12_plan (yRm 4 0 0) (yQf E (150 + 0) 0 0 (some (.inl ρ)) (ov τ)) 57 [(0, .inr (.inr (92 + 1))), (1, .inl x14)] [] (ov σ15) 150 0 0) (fun k16 hk16 x14 σ15 h => ?_) _ _ _  h
      refine y_aload_n (show decode cX12_plan 57 = .ok (.aload_n 0, 1) by decide +kernel) 0 rfl ?_
      obtain ⟨r18, e17, h⟩ := bndO_some h
      refine y_callV (np := 0) (st := []) (as := []) 92 12 (sh_mo_isGood e17) q7_119 q7_116 q7_118 qs4_6 q1_15 (by decide) rfl (by decide) rfl (by decide) (by decide +kernel) (by decide) rfl (Nat.le_of_ble_eq_true rfl) (show decode cX12_plan 58 = .ok (.invokevirtual 277, 3) by decide +kernel) rfl ?_
      refine bnd_j (Q := fun j19 => j19 = some (ρ, τ) → Y E MX12_plan (yRm 4 0 0) (yQf E (150 + 0) 0 0 (some (.inl ρ)) (ov τ)) 91 [(0, .inr (.inr (92 + 1))), (1, .inl x14)] [] (ov σ15) 150 0 0) (fun h => ?_) (fun j19 hj19 h => ?_) h
      · refine y_aload_n (show decode cX12_plan 91 = .ok (.aload_n 0, 1) by decide +kernel) 0 rfl ?_
        obtain ⟨r21, e20, h⟩ := bndO_some h
        refine y_callV (np := 0) (st := []) (as := []) 92 12 (sh_mo_isGood e20) q7_119 q7_116 q7_118 qs4_6 q1_15 (by decide) rfl (by decide) rfl (by decide) (by decide +kernel) (by decide) rfl (Nat.le_of_ble_eq_true rfl) (show decode cX12_plan 92 = .ok (.invokevirtual 277, 3) by decide +kernel) rfl ?_
        by_cases c22 : ¬ r21 = 0
        · rw [if_pos c22] at h
          refine y_if_ne_t (tgt := 100) (show decode cX12_plan 95 = .ok (.ifCond .ne 5, 3) by decide +kernel) rfl c22 ?_
          refine y_iconst (show decode cX12_plan 100 = .ok (.iconst 0, 1) by decide +kernel) rfl ?_
          refine y_istore_n (show decode cX12_plan 101 = .ok (.istore_n 2, 1) by decide +kernel) rfl (L1 := [(2, .inl 0), (0, .inr (.inr (92 + 1))), (1, .inl x14)]) rfl ?_
          refine y_pick [1, 2, 0] rfl ?_
          refine loopS2_ind (P := fun x23 x24 σ25 => Y E MX12_plan (yRm 4 0 0) (yQf E (150 + 0) 0 0 (some (.inl ρ)) (ov τ)) 102 [(0, .inr (.inr (92 + 1))), (1, .inl x23), (2, .inl x24)] [] (ov σ25) 150 0 0) (fun k26 hk26 x23 x24 σ25 h => ?_) _ _ _ _  h
          refine y_iload_n (show decode cX12_plan 102 = .ok (.iload_n 2, 1) by decide +kernel) 2 rfl ?_
          refine y_bipush (show decode cX12_plan 103 = .ok (.bipush 40, 2) by decide +kernel) rfl rfl ?_
          by_cases c27 : x24 ≥ 40
          · rw [if_pos c27] at h
            refine y_icmp_ge_t (tgt := 129) (show decode cX12_plan 105 = .ok (.if_icmp .ge 24, 3) by decide +kernel) rfl c27 ?_
            refine y_iload_n (show decode cX12_plan 129 = .ok (.iload_n 1, 1) by decide +kernel) 1 rfl ?_
            cases h
            exact y_iret (show decode cX12_plan 130 = .ok (.ireturn, 1) by decide +kernel) rfl
          · rw [if_neg c27] at h
            refine y_icmp_ge_f (show decode cX12_plan 105 = .ok (.if_icmp .ge 24, 3) by decide +kernel) c27 (by decide) ?_
            refine y_aload_n (show decode cX12_plan 108 = .ok (.aload_n 0, 1) by decide +kernel) 0 rfl ?_
            refine y_getf 92 12 66 147 (by decide) rfl (by decide) (by decide) q6_113 (show decode cX12_plan 109 = .ok (.getfield 147, 3) by decide +kernel) (v := .inr (.inr (136 + 1))) rfl ?_
            refine y_iload_n (show decode cX12_plan 112 = .ok (.iload_n 2, 1) by decide +kernel) 2 rfl ?_
            refine y_aload_n (show decode cX12_plan 113 = .ok (.aload_n 0, 1) by decide +kernel) 0 rfl ?_
            refine y_getf 92 12 66 147 (by decide) rfl (by decide) (by decide) q6_113 (show decode cX12_plan 114 = .ok (.getfield 147, 3) by decide +kernel) (v := .inr (.inr (136 + 1))) rfl ?_
            refine y_bipush (show decode cX12_plan 117 = .ok (.bipush 40, 2) by decide +kernel) rfl rfl ?_
            refine y_iload_n (show decode cX12_plan 119 = .ok (.iload_n 2, 1) by decide +kernel) 2 rfl ?_
            obtain ⟨c28, h⟩ := chkI_some h
            refine y_iadd (show decode cX12_plan 120 = .ok (.iadd, 1) by decide +kernel) c28 ?_
            obtain ⟨c29, h⟩ := chkA_some h
            refine yo_iald 136 80 (by decide) rfl c29 (ov_at rfl) (show decode cX12_plan 121 = .ok (.iaload, 1) by decide +kernel) ?_
            obtain ⟨c30, h⟩ := chkA_some h
            obtain ⟨σ31, e32, h⟩ := bnd_i h
            refine yo_iast 136 80 (by decide) rfl c30 (ov_set1 e32 rfl) (show decode cX12_plan 122 = .ok (.iastore, 1) by decide +kernel) ?_
            obtain ⟨c33, h⟩ := chkI_some h
            refine y_iinc (show decode cX12_plan 123 = .ok (.iinc 2 1, 3) by decide +kernel) 2 rfl c33 rfl (L1 := [(2, .inl (x24 + 1)), (0, .inr (.inr (92 + 1))), (1, .inl x23)]) rfl ?_
            refine y_goto (tgt := 102) (show decode cX12_plan 126 = .ok (.goto (-24), 3) by decide +kernel) rfl ?_
            refine y_pick [1, 2, 0] rfl ?_
            exact hk26 _ _ _ h
        · rw [if_neg c22] at h
          refine y_if_ne_f (show decode cX12_plan 95 = .ok (.ifCond .ne 5, 3) by decide +kernel) c22 (by decide) ?_
          refine y_iconst (show decode cX12_plan 98 = .ok (.iconst (-1), 1) by decide +kernel) rfl ?_
          cases h
          exact y_iret (show decode cX12_plan 99 = .ok (.ireturn, 1) by decide +kernel) rfl
      by_cases c34 : r18 = 0
      · rw [if_pos c34] at h
        refine y_if_eq_t (tgt := 91) (show decode cX12_plan 61 = .ok (.ifCond .eq 30, 3) by decide +kernel) rfl c34 ?_
        refine y_pick [0, 1] rfl ?_
        exact hj19 h
      · rw [if_neg c34] at h
        refine y_if_eq_f (show decode cX12_plan 61 = .ok (.ifCond .eq 30, 3) by decide +kernel) c34 (by decide) ?_
        refine y_aload_n (show decode cX12_plan 64 = .ok (.aload_n 0, 1) by decide +kernel) 0 rfl ?_
        refine y_getf 92 12 8 249 (by decide) rfl (by decide) (by decide) q6_55 (show decode cX12_plan 65 = .ok (.getfield 249, 3) by decide +kernel) (v := .inl (σ15 92 8)) rfl ?_
        by_cases c35 : (σ15 92 8) = 0
        · rw [if_pos c35] at h
          refine y_if_eq_t (tgt := 91) (show decode cX12_plan 68 = .ok (.ifCond .eq 23, 3) by decide +kernel) rfl c35 ?_
          refine y_pick [0, 1] rfl ?_
          exact hj19 h
        · rw [if_neg c35] at h
          refine y_if_eq_f (show decode cX12_plan 68 = .ok (.ifCond .eq 23, 3) by decide +kernel) c35 (by decide) ?_
          refine y_aload_n (show decode cX12_plan 71 = .ok (.aload_n 0, 1) by decide +kernel) 0 rfl ?_
          obtain ⟨σ37, e36, h⟩ := bndO_some h
          refine y_callV (np := 0) (st := []) (as := []) 92 12 (sh_mo_readPlan e36) q8_169 q8_166 q8_168 qs7_15 q1_15 (by decide) rfl (by decide) rfl (by decide) (by decide +kernel) (by decide) rfl (Nat.le_of_ble_eq_true rfl) (show decode cX12_plan 72 = .ok (.invokevirtual 530, 3) by decide +kernel) rfl ?_
          refine y_aload_n (show decode cX12_plan 75 = .ok (.aload_n 0, 1) by decide +kernel) 0 rfl ?_
          refine y_aload_n (show decode cX12_plan 76 = .ok (.aload_n 0, 1) by decide +kernel) 0 rfl ?_
          refine y_bipush (show decode cX12_plan 77 = .ok (.bipush 59, 2) by decide +kernel) rfl rfl ?_
          obtain ⟨r39, e38, h⟩ := bndO_some h
          refine y_callV (np := 1) (st := [.inr (.inr (92 + 1))]) (as := [.inl 59]) 92 12 (sh_mo_is e38) q7_219 q7_216 q7_218 qs5_15 q1_15 (by decide) rfl (by decide) rfl (by decide) (by decide +kernel) (by decide) rfl (Nat.le_of_ble_eq_true rfl) (show decode cX12_plan 79 = .ok (.invokevirtual 341, 3) by decide +kernel) rfl ?_
          obtain ⟨σ41, e40, h⟩ := bndO_some h
          refine y_callV (np := 1) (st := []) (as := [.inl r39]) 92 12 (sh_mo_must e40) q7_171 q7_168 q7_170 qs5_3 q1_15 (by decide) rfl (by decide) rfl (by decide) (by decide +kernel) (by decide) rfl (Nat.le_of_ble_eq_true rfl) (show decode cX12_plan 82 = .ok (.invokevirtual 290, 3) by decide +kernel) rfl ?_
          obtain ⟨c42, h⟩ := chkI_some h
          refine y_iinc (show decode cX12_plan 85 = .ok (.iinc 1 1, 3) by decide +kernel) 1 rfl c42 rfl (L1 := [(1, .inl (x14 + 1)), (0, .inr (.inr (92 + 1)))]) rfl ?_
          refine y_goto (tgt := 57) (show decode cX12_plan 88 = .ok (.goto (-31), 3) by decide +kernel) rfl ?_
          refine y_pick [1, 0] rfl ?_
          exact hk16 _ _ h
    · rw [if_neg c11] at h
      refine y_icmp_ge_f (show decode cX12_plan 35 = .ok (.if_icmp .ge 16, 3) by decide +kernel) c11 (by decide) ?_
      refine y_aload_n (show decode cX12_plan 38 = .ok (.aload_n 0, 1) by decide +kernel) 0 rfl ?_
      refine y_getf 92 12 67 150 (by decide) rfl (by decide) (by decide) q6_114 (show decode cX12_plan 39 = .ok (.getfield 150, 3) by decide +kernel) (v := .inr (.inr (137 + 1))) rfl ?_
      refine y_iload_n (show decode cX12_plan 42 = .ok (.iload_n 1, 1) by decide +kernel) 1 rfl ?_
      refine y_iconst (show decode cX12_plan 43 = .ok (.iconst 0, 1) by decide +kernel) rfl ?_
      obtain ⟨c43, h⟩ := chkA_some h
      obtain ⟨σ44, e45, h⟩ := bnd_i h
      refine yo_zast 137 5 (by decide) rfl c43 (Or.inl rfl) (ov_set1 e45 rfl) (show decode cX12_plan 44 = .ok (.bastore, 1) by decide +kernel) ?_
      obtain ⟨c46, h⟩ := chkI_some h
      refine y_iinc (show decode cX12_plan 45 = .ok (.iinc 1 1, 3) by decide +kernel) 1 rfl c46 rfl (L1 := [(1, .inl (x8 + 1)), (0, .inr (.inr (92 + 1)))]) rfl ?_
      refine y_goto (tgt := 33) (show decode cX12_plan 48 = .ok (.goto (-15), 3) by decide +kernel) rfl ?_
      refine y_pick [1, 0] rfl ?_
      exact hk10 _ _ h
  · rw [if_neg c1] at h
    refine y_icmp_le_f (show decode cX12_plan 7 = .ok (.if_icmp .le 6, 3) by decide +kernel) c1 (by decide) ?_
    refine y_bipush (show decode cX12_plan 10 = .ok (.bipush (-2), 2) by decide +kernel) rfl rfl ?_
    cases h
    exact y_iret (show decode cX12_plan 12 = .ok (.ireturn, 1) by decide +kernel) rfl
abbrev MX12_layPlanned : yM := (yX12_layPlanned, cX12_layPlanned, 3, none)
def mo_layPlanned (N : Nat) (a : Int) (σ : ySt) : Option (ySt) :=
  loopS1 (fun k3 x1 σ2 =>
    if x1 ≥ 6 then
      loopS1 (fun k7 x5 σ6 =>
        bndO (mo_personMany σ6) fun r9 =>
        if x5 ≥ r9 then
          some σ6
        else
          bnd (fun (y11 : Int) =>
            chkA 5 x5 <|
            bnd (yset σ6 131 (x5).toNat y11) fun σ14 =>
            chkI (8 * x5) <|
            chkI ((8 * x5) + a) <|
            chkI (((8 * x5) + a) - 1) <|
            chkA 80 (((8 * x5) + a) - 1) <|
            chkA 5 x5 <|
            bnd (yset σ14 126 (x5).toNat (σ14 136 ((((8 * x5) + a) - 1)).toNat)) fun σ21 =>
            chkA 5 x5 <|
            chkA 6 (σ21 126 (x5).toNat) <|
            chkI ((σ21 127 ((σ21 126 (x5).toNat)).toNat) + 1) <|
            chkA 6 (σ21 126 (x5).toNat) <|
            bnd (yset σ21 127 ((σ21 126 (x5).toNat)).toNat ((σ21 127 ((σ21 126 (x5).toNat)).toNat) + 1)) fun σ27 =>
            chkI (x5 + 1) <|
            k7 (x5 + 1) σ27) fun j12 =>
          if ¬ a = 1 then
            chkI (8 * x5) <|
            chkI ((8 * x5) + a) <|
            chkI (((8 * x5) + a) - 2) <|
            chkA 80 (((8 * x5) + a) - 2) <|
            j12 (σ6 136 ((((8 * x5) + a) - 2)).toNat)
          else
            chkI (5 * (σ6 92 40)) <|
            chkI ((5 * (σ6 92 40)) + x5) <|
            chkA 10 ((5 * (σ6 92 40)) + x5) <|
            j12 (σ6 111 (((5 * (σ6 92 40)) + x5)).toNat)) N 0 σ2
    else
      chkA 6 x1 <|
      bnd (yset σ2 127 (x1).toNat 0) fun σ39 =>
      chkI (x1 + 1) <|
      k3 (x1 + 1) σ39) N 0 σ
set_option maxHeartbeats 4000000 in
set_option maxRecDepth 10000 in
theorem sh_mo_layPlanned {E : yE} {N : Nat} {a : Int} {σ : ySt} {τ : ySt} (h : mo_layPlanned N a σ = some τ) : Con E MX12_layPlanned 1 0 0 [.inr (.inr (92 + 1)), .inl a] 150 (ov σ) none (ov τ) := by
  unfold mo_layPlanned at h
  refine Con.ofY (by decide +kernel) (by simp [yWords, yCat]) (fun hok _ => ?_)
  show Y E MX12_layPlanned (yRm 1 0 0) (yQf E (150 + 0) 0 0 none (ov τ)) 0 [(0, .inr (.inr (92 + 1))), (1, .inl a)] [] (ov σ) 150 0 0
  refine y_iconst (show decode cX12_layPlanned 0 = .ok (.iconst 0, 1) by decide +kernel) rfl ?_
  refine y_istore_n (show decode cX12_layPlanned 1 = .ok (.istore_n 2, 1) by decide +kernel) rfl (L1 := [(2, .inl 0), (0, .inr (.inr (92 + 1))), (1, .inl a)]) rfl ?_
  refine y_pick [1, 2, 0] rfl ?_
  refine loopS1_ind (P := fun x1 σ2 => Y E MX12_layPlanned (yRm 1 0 0) (yQf E (150 + 0) 0 0 none (ov τ)) 2 [(0, .inr (.inr (92 + 1))), (1, .inl a), (2, .inl x1)] [] (ov σ2) 150 0 0) (fun k3 hk3 x1 σ2 h => ?_) _ _ _  h
  refine y_iload_n (show decode cX12_layPlanned 2 = .ok (.iload_n 2, 1) by decide +kernel) 2 rfl ?_
  refine y_bipush (show decode cX12_layPlanned 3 = .ok (.bipush 6, 2) by decide +kernel) rfl rfl ?_
  by_cases c4 : x1 ≥ 6
  · rw [if_pos c4] at h
    refine y_icmp_ge_t (tgt := 21) (show decode cX12_layPlanned 5 = .ok (.if_icmp .ge 16, 3) by decide +kernel) rfl c4 ?_
    refine y_iconst (show decode cX12_layPlanned 21 = .ok (.iconst 0, 1) by decide +kernel) rfl ?_
    refine y_istore_n (show decode cX12_layPlanned 22 = .ok (.istore_n 2, 1) by decide +kernel) rfl (L1 := [(2, .inl 0), (0, .inr (.inr (92 + 1))), (1, .inl a)]) rfl ?_
    refine y_pick [1, 2, 0] rfl ?_
    refine loopS1_ind (P := fun x5 σ6 => Y E MX12_layPlanned (yRm 1 0 0) (yQf E (150 + 0) 0 0 none (ov τ)) 23 [(0, .inr (.inr (92 + 1))), (1, .inl a), (2, .inl x5)] [] (ov σ6) 150 0 0) (fun k7 hk7 x5 σ6 h => ?_) _ _ _  h
    refine y_iload_n (show decode cX12_layPlanned 23 = .ok (.iload_n 2, 1) by decide +kernel) 2 rfl ?_
    refine y_aload_n (show decode cX12_layPlanned 24 = .ok (.aload_n 0, 1) by decide +kernel) 0 rfl ?_
    obtain ⟨r9, e8, h⟩ := bndO_some h
    refine y_callV (np := 0) (st := [.inl x5]) (as := []) 92 12 (sh_mo_personMany e8) q6_42 q6_39 q6_41 qs4_1 q1_15 (by decide) rfl (by decide) rfl (by decide) (by decide +kernel) (by decide) rfl (Nat.le_of_ble_eq_true rfl) (show decode cX12_layPlanned 25 = .ok (.invokevirtual 418, 3) by decide +kernel) rfl ?_
    by_cases c10 : x5 ≥ r9
    · rw [if_pos c10] at h
      refine y_icmp_ge_t (tgt := 111) (show decode cX12_layPlanned 28 = .ok (.if_icmp .ge 83, 3) by decide +kernel) rfl c10 ?_
      cases h
      exact y_vret (show decode cX12_layPlanned 111 = .ok (.return_, 1) by decide +kernel) rfl
    · rw [if_neg c10] at h
      refine y_icmp_ge_f (show decode cX12_layPlanned 28 = .ok (.if_icmp .ge 83, 3) by decide +kernel) c10 (by decide) ?_
      refine y_aload_n (show decode cX12_layPlanned 31 = .ok (.aload_n 0, 1) by decide +kernel) 0 rfl ?_
      refine y_getf 92 12 61 132 (by decide) rfl (by decide) (by decide) q6_108 (show decode cX12_layPlanned 32 = .ok (.getfield 132, 3) by decide +kernel) (v := .inr (.inr (131 + 1))) rfl ?_
      refine y_iload_n (show decode cX12_layPlanned 35 = .ok (.iload_n 2, 1) by decide +kernel) 2 rfl ?_
      refine y_iload_n (show decode cX12_layPlanned 36 = .ok (.iload_n 1, 1) by decide +kernel) 1 rfl ?_
      refine y_iconst (show decode cX12_layPlanned 37 = .ok (.iconst 1, 1) by decide +kernel) rfl ?_
      refine bnd_j (Q := fun j12 => ∀ (y11 : Int), j12 y11 = some τ → Y E MX12_layPlanned (yRm 1 0 0) (yQf E (150 + 0) 0 0 none (ov τ)) 70 [(0, .inr (.inr (92 + 1))), (1, .inl a), (2, .inl x5)] [.inl y11, .inl x5, .inr (.inr (131 + 1))] (ov σ6) 150 0 0) (fun y11 h => ?_) (fun j12 hj12 h => ?_) h
      · dsimp only at h
        obtain ⟨c13, h⟩ := chkA_some h
        obtain ⟨σ14, e15, h⟩ := bnd_i h
        refine yo_iast 131 5 (by decide) rfl c13 (ov_set1 e15 rfl) (show decode cX12_layPlanned 70 = .ok (.iastore, 1) by decide +kernel) ?_
        refine y_aload_n (show decode cX12_layPlanned 71 = .ok (.aload_n 0, 1) by decide +kernel) 0 rfl ?_
        refine y_getf 92 12 56 116 (by decide) rfl (by decide) (by decide) q6_103 (show decode cX12_layPlanned 72 = .ok (.getfield 116, 3) by decide +kernel) (v := .inr (.inr (126 + 1))) rfl ?_
        refine y_iload_n (show decode cX12_layPlanned 75 = .ok (.iload_n 2, 1) by decide +kernel) 2 rfl ?_
        refine y_aload_n (show decode cX12_layPlanned 76 = .ok (.aload_n 0, 1) by decide +kernel) 0 rfl ?_
        refine y_getf 92 12 66 147 (by decide) rfl (by decide) (by decide) q6_113 (show decode cX12_layPlanned 77 = .ok (.getfield 147, 3) by decide +kernel) (v := .inr (.inr (136 + 1))) rfl ?_
        refine y_bipush (show decode cX12_layPlanned 80 = .ok (.bipush 8, 2) by decide +kernel) rfl rfl ?_
        refine y_iload_n (show decode cX12_layPlanned 82 = .ok (.iload_n 2, 1) by decide +kernel) 2 rfl ?_
        obtain ⟨c16, h⟩ := chkI_some h
        refine y_imul (show decode cX12_layPlanned 83 = .ok (.imul, 1) by decide +kernel) c16 ?_
        refine y_iload_n (show decode cX12_layPlanned 84 = .ok (.iload_n 1, 1) by decide +kernel) 1 rfl ?_
        obtain ⟨c17, h⟩ := chkI_some h
        refine y_iadd (show decode cX12_layPlanned 85 = .ok (.iadd, 1) by decide +kernel) c17 ?_
        refine y_iconst (show decode cX12_layPlanned 86 = .ok (.iconst 1, 1) by decide +kernel) rfl ?_
        obtain ⟨c18, h⟩ := chkI_some h
        refine y_isub (show decode cX12_layPlanned 87 = .ok (.isub, 1) by decide +kernel) c18 ?_
        obtain ⟨c19, h⟩ := chkA_some h
        refine yo_iald 136 80 (by decide) rfl c19 (ov_at rfl) (show decode cX12_layPlanned 88 = .ok (.iaload, 1) by decide +kernel) ?_
        obtain ⟨c20, h⟩ := chkA_some h
        obtain ⟨σ21, e22, h⟩ := bnd_i h
        refine yo_iast 126 5 (by decide) rfl c20 (ov_set1 e22 rfl) (show decode cX12_layPlanned 89 = .ok (.iastore, 1) by decide +kernel) ?_
        refine y_aload_n (show decode cX12_layPlanned 90 = .ok (.aload_n 0, 1) by decide +kernel) 0 rfl ?_
        refine y_getf 92 12 57 119 (by decide) rfl (by decide) (by decide) q6_104 (show decode cX12_layPlanned 91 = .ok (.getfield 119, 3) by decide +kernel) (v := .inr (.inr (127 + 1))) rfl ?_
        refine y_aload_n (show decode cX12_layPlanned 94 = .ok (.aload_n 0, 1) by decide +kernel) 0 rfl ?_
        refine y_getf 92 12 56 116 (by decide) rfl (by decide) (by decide) q6_103 (show decode cX12_layPlanned 95 = .ok (.getfield 116, 3) by decide +kernel) (v := .inr (.inr (126 + 1))) rfl ?_
        refine y_iload_n (show decode cX12_layPlanned 98 = .ok (.iload_n 2, 1) by decide +kernel) 2 rfl ?_
        obtain ⟨c23, h⟩ := chkA_some h
        refine yo_iald 126 5 (by decide) rfl c23 (ov_at rfl) (show decode cX12_layPlanned 99 = .ok (.iaload, 1) by decide +kernel) ?_
        refine y_dup2 (show decode cX12_layPlanned 100 = .ok (.dup2, 1) by decide +kernel) rfl rfl ?_
        obtain ⟨c24, h⟩ := chkA_some h
        refine yo_iald 127 6 (by decide) rfl c24 (ov_at rfl) (show decode cX12_layPlanned 101 = .ok (.iaload, 1) by decide +kernel) ?_
        refine y_iconst (show decode cX12_layPlanned 102 = .ok (.iconst 1, 1) by decide +kernel) rfl ?_
        obtain ⟨c25, h⟩ := chkI_some h
        refine y_iadd (show decode cX12_layPlanned 103 = .ok (.iadd, 1) by decide +kernel) c25 ?_
        obtain ⟨c26, h⟩ := chkA_some h
        obtain ⟨σ27, e28, h⟩ := bnd_i h
        refine yo_iast 127 6 (by decide) rfl c26 (ov_set1 e28 rfl) (show decode cX12_layPlanned 104 = .ok (.iastore, 1) by decide +kernel) ?_
        obtain ⟨c29, h⟩ := chkI_some h
        refine y_iinc (show decode cX12_layPlanned 105 = .ok (.iinc 2 1, 3) by decide +kernel) 2 rfl c29 rfl (L1 := [(2, .inl (x5 + 1)), (0, .inr (.inr (92 + 1))), (1, .inl a)]) rfl ?_
        refine y_goto (tgt := 23) (show decode cX12_layPlanned 108 = .ok (.goto (-85), 3) by decide +kernel) rfl ?_
        refine y_pick [1, 2, 0] rfl ?_
        exact hk7 _ _ h
      by_cases c30 : ¬ a = 1
      · rw [if_pos c30] at h
        refine y_icmp_ne_t (tgt := 57) (show decode cX12_layPlanned 38 = .ok (.if_icmp .ne 19, 3) by decide +kernel) rfl c30 ?_
        refine y_aload_n (show decode cX12_layPlanned 57 = .ok (.aload_n 0, 1) by decide +kernel) 0 rfl ?_
        refine y_getf 92 12 66 147 (by decide) rfl (by decide) (by decide) q6_113 (show decode cX12_layPlanned 58 = .ok (.getfield 147, 3) by decide +kernel) (v := .inr (.inr (136 + 1))) rfl ?_
        refine y_bipush (show decode cX12_layPlanned 61 = .ok (.bipush 8, 2) by decide +kernel) rfl rfl ?_
        refine y_iload_n (show decode cX12_layPlanned 63 = .ok (.iload_n 2, 1) by decide +kernel) 2 rfl ?_
        obtain ⟨c31, h⟩ := chkI_some h
        refine y_imul (show decode cX12_layPlanned 64 = .ok (.imul, 1) by decide +kernel) c31 ?_
        refine y_iload_n (show decode cX12_layPlanned 65 = .ok (.iload_n 1, 1) by decide +kernel) 1 rfl ?_
        obtain ⟨c32, h⟩ := chkI_some h
        refine y_iadd (show decode cX12_layPlanned 66 = .ok (.iadd, 1) by decide +kernel) c32 ?_
        refine y_iconst (show decode cX12_layPlanned 67 = .ok (.iconst 2, 1) by decide +kernel) rfl ?_
        obtain ⟨c33, h⟩ := chkI_some h
        refine y_isub (show decode cX12_layPlanned 68 = .ok (.isub, 1) by decide +kernel) c33 ?_
        obtain ⟨c34, h⟩ := chkA_some h
        refine yo_iald 136 80 (by decide) rfl c34 (ov_at rfl) (show decode cX12_layPlanned 69 = .ok (.iaload, 1) by decide +kernel) ?_
        refine y_pick [0, 1, 2] rfl ?_
        exact hj12 _ h
      · rw [if_neg c30] at h
        refine y_icmp_ne_f (show decode cX12_layPlanned 38 = .ok (.if_icmp .ne 19, 3) by decide +kernel) c30 (by decide) ?_
        refine y_aload_n (show decode cX12_layPlanned 41 = .ok (.aload_n 0, 1) by decide +kernel) 0 rfl ?_
        refine y_getf 92 12 27 71 (by decide) rfl (by decide) (by decide) q6_74 (show decode cX12_layPlanned 42 = .ok (.getfield 71, 3) by decide +kernel) (v := .inr (.inr (111 + 1))) rfl ?_
        refine y_iconst (show decode cX12_layPlanned 45 = .ok (.iconst 5, 1) by decide +kernel) rfl ?_
        refine y_aload_n (show decode cX12_layPlanned 46 = .ok (.aload_n 0, 1) by decide +kernel) 0 rfl ?_
        refine y_getf 92 12 40 311 (by decide) rfl (by decide) (by decide) q6_87 (show decode cX12_layPlanned 47 = .ok (.getfield 311, 3) by decide +kernel) (v := .inl (σ6 92 40)) rfl ?_
        obtain ⟨c35, h⟩ := chkI_some h
        refine y_imul (show decode cX12_layPlanned 50 = .ok (.imul, 1) by decide +kernel) c35 ?_
        refine y_iload_n (show decode cX12_layPlanned 51 = .ok (.iload_n 2, 1) by decide +kernel) 2 rfl ?_
        obtain ⟨c36, h⟩ := chkI_some h
        refine y_iadd (show decode cX12_layPlanned 52 = .ok (.iadd, 1) by decide +kernel) c36 ?_
        obtain ⟨c37, h⟩ := chkA_some h
        refine yo_iald 111 10 (by decide) rfl c37 (ov_at rfl) (show decode cX12_layPlanned 53 = .ok (.iaload, 1) by decide +kernel) ?_
        refine y_goto (tgt := 70) (show decode cX12_layPlanned 54 = .ok (.goto 16, 3) by decide +kernel) rfl ?_
        refine y_pick [0, 1, 2] rfl ?_
        exact hj12 _ h
  · rw [if_neg c4] at h
    refine y_icmp_ge_f (show decode cX12_layPlanned 5 = .ok (.if_icmp .ge 16, 3) by decide +kernel) c4 (by decide) ?_
    refine y_aload_n (show decode cX12_layPlanned 8 = .ok (.aload_n 0, 1) by decide +kernel) 0 rfl ?_
    refine y_getf 92 12 57 119 (by decide) rfl (by decide) (by decide) q6_104 (show decode cX12_layPlanned 9 = .ok (.getfield 119, 3) by decide +kernel) (v := .inr (.inr (127 + 1))) rfl ?_
    refine y_iload_n (show decode cX12_layPlanned 12 = .ok (.iload_n 2, 1) by decide +kernel) 2 rfl ?_
    refine y_iconst (show decode cX12_layPlanned 13 = .ok (.iconst 0, 1) by decide +kernel) rfl ?_
    obtain ⟨c38, h⟩ := chkA_some h
    obtain ⟨σ39, e40, h⟩ := bnd_i h
    refine yo_iast 127 6 (by decide) rfl c38 (ov_set1 e40 rfl) (show decode cX12_layPlanned 14 = .ok (.iastore, 1) by decide +kernel) ?_
    obtain ⟨c41, h⟩ := chkI_some h
    refine y_iinc (show decode cX12_layPlanned 15 = .ok (.iinc 2 1, 3) by decide +kernel) 2 rfl c41 rfl (L1 := [(2, .inl (x1 + 1)), (0, .inr (.inr (92 + 1))), (1, .inl a)]) rfl ?_
    refine y_goto (tgt := 2) (show decode cX12_layPlanned 18 = .ok (.goto (-16), 3) by decide +kernel) rfl ?_
    refine y_pick [1, 2, 0] rfl ?_
    exact hk3 _ _ h
abbrev MX12_wrongIs : yM := (yX12_wrongIs, cX12_wrongIs, 4, none)
def mo_wrongIs (a : Int) (b : Int) (c : Int) (σ : ySt) : Option (ySt) :=
  if (σ 92 68) ≤ 0 then
    bnd (yset σ 92 68 a) fun σ2 =>
    bnd (yset σ2 92 69 b) fun σ4 =>
    bnd (yset σ4 92 70 c) fun σ6 =>
    some σ6
  else
    some σ
set_option maxHeartbeats 4000000 in
set_option maxRecDepth 10000 in
theorem sh_mo_wrongIs {E : yE} {a : Int} {b : Int} {c : Int} {σ : ySt} {τ : ySt} (h : mo_wrongIs a b c σ = some τ) : Con E MX12_wrongIs 0 0 0 [.inr (.inr (92 + 1)), .inl a, .inl b, .inl c] 150 (ov σ) none (ov τ) := by
  unfold mo_wrongIs at h
  refine Con.ofY (by decide +kernel) (by simp [yWords, yCat]) (fun hok _ => ?_)
  show Y E MX12_wrongIs (yRm 0 0 0) (yQf E (150 + 0) 0 0 none (ov τ)) 0 [(0, .inr (.inr (92 + 1))), (1, .inl a), (2, .inl b), (3, .inl c)] [] (ov σ) 150 0 0
  refine y_aload_n (show decode cX12_wrongIs 0 = .ok (.aload_n 0, 1) by decide +kernel) 0 rfl ?_
  refine y_getf 92 12 68 533 (by decide) rfl (by decide) (by decide) q6_115 (show decode cX12_wrongIs 1 = .ok (.getfield 533, 3) by decide +kernel) (v := .inl (σ 92 68)) rfl ?_
  by_cases c1 : (σ 92 68) ≤ 0
  · rw [if_pos c1] at h
    refine y_if_le_t (tgt := 8) (show decode cX12_wrongIs 4 = .ok (.ifCond .le 4, 3) by decide +kernel) rfl c1 ?_
    refine y_aload_n (show decode cX12_wrongIs 8 = .ok (.aload_n 0, 1) by decide +kernel) 0 rfl ?_
    refine y_iload_n (show decode cX12_wrongIs 9 = .ok (.iload_n 1, 1) by decide +kernel) 1 rfl ?_
    obtain ⟨σ2, e3, h⟩ := bnd_i h
    refine yo_putI 92 12 68 533 (by decide) rfl (by decide) (by decide) q6_115 rfl (show decode cX12_wrongIs 10 = .ok (.putfield 533, 3) by decide +kernel) rfl rfl (ov_set1 e3 rfl) ?_
    refine y_aload_n (show decode cX12_wrongIs 13 = .ok (.aload_n 0, 1) by decide +kernel) 0 rfl ?_
    refine y_iload_n (show decode cX12_wrongIs 14 = .ok (.iload_n 2, 1) by decide +kernel) 2 rfl ?_
    obtain ⟨σ4, e5, h⟩ := bnd_i h
    refine yo_putI 92 12 69 536 (by decide) rfl (by decide) (by decide) q6_116 rfl (show decode cX12_wrongIs 15 = .ok (.putfield 536, 3) by decide +kernel) rfl rfl (ov_set1 e5 rfl) ?_
    refine y_aload_n (show decode cX12_wrongIs 18 = .ok (.aload_n 0, 1) by decide +kernel) 0 rfl ?_
    refine y_iload_n (show decode cX12_wrongIs 19 = .ok (.iload_n 3, 1) by decide +kernel) 3 rfl ?_
    obtain ⟨σ6, e7, h⟩ := bnd_i h
    refine yo_putI 92 12 70 539 (by decide) rfl (by decide) (by decide) q6_117 rfl (show decode cX12_wrongIs 20 = .ok (.putfield 539, 3) by decide +kernel) rfl rfl (ov_set1 e7 rfl) ?_
    cases h
    exact y_vret (show decode cX12_wrongIs 23 = .ok (.return_, 1) by decide +kernel) rfl
  · rw [if_neg c1] at h
    refine y_if_le_f (show decode cX12_wrongIs 4 = .ok (.ifCond .le 4, 3) by decide +kernel) c1 (by decide) ?_
    cases h
    exact y_vret (show decode cX12_wrongIs 7 = .ok (.return_, 1) by decide +kernel) rfl
abbrev MX12_judgePlan : yM := (yX12_judgePlan, cX12_judgePlan, 3, none)
def mo_judgePlan (N : Nat) (σ : ySt) : Option (ySt) :=
  bndO (mo_plain σ) fun σ2 =>
  bndO (mo_layTown N σ2) fun σ4 =>
  bnd (yset σ4 92 68 0) fun σ5 =>
  bnd (yset σ5 92 69 (-1)) fun σ7 =>
  bnd (yset σ7 92 70 (-1)) fun σ9 =>
  loopS1 (fun k13 x11 σ12 =>
    if x11 > (σ12 92 48) then
      some σ12
    else
      if ¬ (σ12 92 68) = 0 then
        some σ12
      else
        bndO (mo_layPlanned N x11 σ12) fun σ17 =>
        loopS2 (fun k21 x18 x19 σ20 =>
          bndO (mo_personMany σ20) fun r23 =>
          if x19 ≥ r23 then
            loopS2 (fun k28 x25 x26 σ27 =>
              bndO (mo_placeMany σ27) fun r30 =>
              if x26 ≥ r30 then
                loopS2 (fun k35 x32 x33 σ34 =>
                  chkA 2 (σ34 92 40) <|
                  if x33 ≥ (σ34 99 ((σ34 92 40)).toNat) then
                    chkI (x32 + 1) <|
                    k13 (x32 + 1) σ34
                  else
                    chkI (8 * (σ34 92 40)) <|
                    chkI ((8 * (σ34 92 40)) + x33) <|
                    chkA 16 ((8 * (σ34 92 40)) + x33) <|
                    bnd (fun (σ42 : ySt) =>
                      chkI (x33 + 1) <|
                      k35 x32 (x33 + 1) σ42) fun j43 =>
                    if ¬ (σ34 116 (((8 * (σ34 92 40)) + x33)).toNat) = x32 then
                      j43 σ34
                    else
                      bndO (mo_isDone x33 x32 σ34) fun r47 =>
                      if ¬ r47 = 0 then
                        j43 σ34
                      else
                        bndO (mo_wrongIs 3 x32 x33 σ34) fun σ50 =>
                        j43 σ50) N x25 0 σ27
              else
                chkI (x25 - 1) <|
                chkI (48 * (x25 - 1)) <|
                chkI (8 * x26) <|
                chkI ((48 * (x25 - 1)) + (8 * x26)) <|
                chkA 6 x26 <|
                chkI (((48 * (x25 - 1)) + (8 * x26)) + (σ27 127 (x26).toNat)) <|
                chkA 432 (((48 * (x25 - 1)) + (8 * x26)) + (σ27 127 (x26).toNat)) <|
                bnd (fun (σ58 : ySt) =>
                  chkI (x26 + 1) <|
                  k28 x25 (x26 + 1) σ58) fun j59 =>
                if ¬ (σ27 125 ((((48 * (x25 - 1)) + (8 * x26)) + (σ27 127 (x26).toNat))).toNat) = 0 then
                  j59 σ27
                else
                  bndO (mo_wrongIs 2 x25 x26 σ27) fun σ63 =>
                  j59 σ63) N x18 0 σ20
          else
            chkA 5 x19 <|
            chkA 5 x19 <|
            bndO (mo_gets (σ20 131 (x19).toNat) (σ20 126 (x19).toNat) σ20) fun r67 =>
            bnd (fun (σ68 : ySt) =>
              chkI (x19 + 1) <|
              k21 x18 (x19 + 1) σ68) fun j69 =>
            if ¬ r67 = 0 then
              j69 σ20
            else
              bndO (mo_wrongIs 1 x18 x19 σ20) fun σ73 =>
              j69 σ73) N x11 0 σ17) N 1 σ9
set_option maxHeartbeats 4000000 in
set_option maxRecDepth 10000 in
theorem sh_mo_judgePlan {E : yE} {N : Nat} {σ : ySt} {τ : ySt} (h : mo_judgePlan N σ = some τ) : Con E MX12_judgePlan 3 0 0 [.inr (.inr (92 + 1))] 150 (ov σ) none (ov τ) := by
  unfold mo_judgePlan at h
  refine Con.ofY (by decide +kernel) (by simp [yWords, yCat]) (fun hok _ => ?_)
  show Y E MX12_judgePlan (yRm 3 0 0) (yQf E (150 + 0) 0 0 none (ov τ)) 0 [(0, .inr (.inr (92 + 1)))] [] (ov σ) 150 0 0
  refine y_aload_n (show decode cX12_judgePlan 0 = .ok (.aload_n 0, 1) by decide +kernel) 0 rfl ?_
  obtain ⟨σ2, e1, h⟩ := bndO_some h
  refine y_callV (np := 0) (st := []) (as := []) 92 12 (sh_mo_plain e1) q8_22 q8_19 q8_21 qs6_7 q1_15 (by decide) rfl (by decide) rfl (by decide) (by decide +kernel) (by decide) rfl (Nat.le_of_ble_eq_true rfl) (show decode cX12_judgePlan 1 = .ok (.invokevirtual 451, 3) by decide +kernel) rfl ?_
  refine y_aload_n (show decode cX12_judgePlan 4 = .ok (.aload_n 0, 1) by decide +kernel) 0 rfl ?_
  obtain ⟨σ4, e3, h⟩ := bndO_some h
  refine y_callV (np := 0) (st := []) (as := []) 92 12 (sh_mo_layTown e3) q8_26 q8_23 q8_25 qs6_8 q1_15 (by decide) rfl (by decide) rfl (by decide) (by decide +kernel) (by decide) rfl (Nat.le_of_ble_eq_true rfl) (show decode cX12_judgePlan 5 = .ok (.invokevirtual 454, 3) by decide +kernel) rfl ?_
  refine y_aload_n (show decode cX12_judgePlan 8 = .ok (.aload_n 0, 1) by decide +kernel) 0 rfl ?_
  refine y_iconst (show decode cX12_judgePlan 9 = .ok (.iconst 0, 1) by decide +kernel) rfl ?_
  obtain ⟨σ5, e6, h⟩ := bnd_i h
  refine yo_putI 92 12 68 533 (by decide) rfl (by decide) (by decide) q6_115 rfl (show decode cX12_judgePlan 10 = .ok (.putfield 533, 3) by decide +kernel) rfl rfl (ov_set1 e6 rfl) ?_
  refine y_aload_n (show decode cX12_judgePlan 13 = .ok (.aload_n 0, 1) by decide +kernel) 0 rfl ?_
  refine y_iconst (show decode cX12_judgePlan 14 = .ok (.iconst (-1), 1) by decide +kernel) rfl ?_
  obtain ⟨σ7, e8, h⟩ := bnd_i h
  refine yo_putI 92 12 69 536 (by decide) rfl (by decide) (by decide) q6_116 rfl (show decode cX12_judgePlan 15 = .ok (.putfield 536, 3) by decide +kernel) rfl rfl (ov_set1 e8 rfl) ?_
  refine y_aload_n (show decode cX12_judgePlan 18 = .ok (.aload_n 0, 1) by decide +kernel) 0 rfl ?_
  refine y_iconst (show decode cX12_judgePlan 19 = .ok (.iconst (-1), 1) by decide +kernel) rfl ?_
  obtain ⟨σ9, e10, h⟩ := bnd_i h
  refine yo_putI 92 12 70 539 (by decide) rfl (by decide) (by decide) q6_117 rfl (show decode cX12_judgePlan 20 = .ok (.putfield 539, 3) by decide +kernel) rfl rfl (ov_set1 e10 rfl) ?_
  refine y_iconst (show decode cX12_judgePlan 23 = .ok (.iconst 1, 1) by decide +kernel) rfl ?_
  refine y_istore_n (show decode cX12_judgePlan 24 = .ok (.istore_n 1, 1) by decide +kernel) rfl (L1 := [(1, .inl 1), (0, .inr (.inr (92 + 1)))]) rfl ?_
  refine y_pick [1, 0] rfl ?_
  refine loopS1_ind (P := fun x11 σ12 => Y E MX12_judgePlan (yRm 3 0 0) (yQf E (150 + 0) 0 0 none (ov τ)) 25 [(0, .inr (.inr (92 + 1))), (1, .inl x11)] [] (ov σ12) 150 0 0) (fun k13 hk13 x11 σ12 h => ?_) _ _ _  h
  refine y_iload_n (show decode cX12_judgePlan 25 = .ok (.iload_n 1, 1) by decide +kernel) 1 rfl ?_
  refine y_aload_n (show decode cX12_judgePlan 26 = .ok (.aload_n 0, 1) by decide +kernel) 0 rfl ?_
  refine y_getf 92 12 48 424 (by decide) rfl (by decide) (by decide) q6_95 (show decode cX12_judgePlan 27 = .ok (.getfield 424, 3) by decide +kernel) (v := .inl (σ12 92 48)) rfl ?_
  by_cases c14 : x11 > (σ12 92 48)
  · rw [if_pos c14] at h
    refine y_icmp_gt_t (tgt := 197) (show decode cX12_judgePlan 30 = .ok (.if_icmp .gt 167, 3) by decide +kernel) rfl c14 ?_
    cases h
    exact y_vret (show decode cX12_judgePlan 197 = .ok (.return_, 1) by decide +kernel) rfl
  · rw [if_neg c14] at h
    refine y_icmp_gt_f (show decode cX12_judgePlan 30 = .ok (.if_icmp .gt 167, 3) by decide +kernel) c14 (by decide) ?_
    refine y_aload_n (show decode cX12_judgePlan 33 = .ok (.aload_n 0, 1) by decide +kernel) 0 rfl ?_
    refine y_getf 92 12 68 533 (by decide) rfl (by decide) (by decide) q6_115 (show decode cX12_judgePlan 34 = .ok (.getfield 533, 3) by decide +kernel) (v := .inl (σ12 92 68)) rfl ?_
    by_cases c15 : ¬ (σ12 92 68) = 0
    · rw [if_pos c15] at h
      refine y_if_ne_t (tgt := 197) (show decode cX12_judgePlan 37 = .ok (.ifCond .ne 160, 3) by decide +kernel) rfl c15 ?_
      cases h
      exact y_vret (show decode cX12_judgePlan 197 = .ok (.return_, 1) by decide +kernel) rfl
    · rw [if_neg c15] at h
      refine y_if_ne_f (show decode cX12_judgePlan 37 = .ok (.ifCond .ne 160, 3) by decide +kernel) c15 (by decide) ?_
      refine y_aload_n (show decode cX12_judgePlan 40 = .ok (.aload_n 0, 1) by decide +kernel) 0 rfl ?_
      refine y_iload_n (show decode cX12_judgePlan 41 = .ok (.iload_n 1, 1) by decide +kernel) 1 rfl ?_
      obtain ⟨σ17, e16, h⟩ := bndO_some h
      refine y_callV (np := 1) (st := []) (as := [.inl x11]) 92 12 (sh_mo_layPlanned e16) q8_181 q8_178 q8_180 qs8_1 q1_15 (by decide) rfl (by decide) rfl (by decide) (by decide +kernel) (by decide) rfl (Nat.le_of_ble_eq_true rfl) (show decode cX12_judgePlan 42 = .ok (.invokevirtual 542, 3) by decide +kernel) rfl ?_
      refine y_iconst (show decode cX12_judgePlan 45 = .ok (.iconst 0, 1) by decide +kernel) rfl ?_
      refine y_istore_n (show decode cX12_judgePlan 46 = .ok (.istore_n 2, 1) by decide +kernel) rfl (L1 := [(2, .inl 0), (0, .inr (.inr (92 + 1))), (1, .inl x11)]) rfl ?_
      refine y_pick [1, 2, 0] rfl ?_
      refine loopS2_ind (P := fun x18 x19 σ20 => Y E MX12_judgePlan (yRm 3 0 0) (yQf E (150 + 0) 0 0 none (ov τ)) 47 [(0, .inr (.inr (92 + 1))), (1, .inl x18), (2, .inl x19)] [] (ov σ20) 150 0 0) (fun k21 hk21 x18 x19 σ20 h => ?_) _ _ _ _  h
      refine y_iload_n (show decode cX12_judgePlan 47 = .ok (.iload_n 2, 1) by decide +kernel) 2 rfl ?_
      refine y_aload_n (show decode cX12_judgePlan 48 = .ok (.aload_n 0, 1) by decide +kernel) 0 rfl ?_
      obtain ⟨r23, e22, h⟩ := bndO_some h
      refine y_callV (np := 0) (st := [.inl x19]) (as := []) 92 12 (sh_mo_personMany e22) q6_42 q6_39 q6_41 qs4_1 q1_15 (by decide) rfl (by decide) rfl (by decide) (by decide +kernel) (by decide) rfl (Nat.le_of_ble_eq_true rfl) (show decode cX12_judgePlan 49 = .ok (.invokevirtual 418, 3) by decide +kernel) rfl ?_
      by_cases c24 : x19 ≥ r23
      · rw [if_pos c24] at h
        refine y_icmp_ge_t (tgt := 87) (show decode cX12_judgePlan 52 = .ok (.if_icmp .ge 35, 3) by decide +kernel) rfl c24 ?_
        refine y_iconst (show decode cX12_judgePlan 87 = .ok (.iconst 0, 1) by decide +kernel) rfl ?_
        refine y_istore_n (show decode cX12_judgePlan 88 = .ok (.istore_n 2, 1) by decide +kernel) rfl (L1 := [(2, .inl 0), (0, .inr (.inr (92 + 1))), (1, .inl x18)]) rfl ?_
        refine y_pick [1, 2, 0] rfl ?_
        refine loopS2_ind (P := fun x25 x26 σ27 => Y E MX12_judgePlan (yRm 3 0 0) (yQf E (150 + 0) 0 0 none (ov τ)) 89 [(0, .inr (.inr (92 + 1))), (1, .inl x25), (2, .inl x26)] [] (ov σ27) 150 0 0) (fun k28 hk28 x25 x26 σ27 h => ?_) _ _ _ _  h
        refine y_iload_n (show decode cX12_judgePlan 89 = .ok (.iload_n 2, 1) by decide +kernel) 2 rfl ?_
        refine y_aload_n (show decode cX12_judgePlan 90 = .ok (.aload_n 0, 1) by decide +kernel) 0 rfl ?_
        obtain ⟨r30, e29, h⟩ := bndO_some h
        refine y_callV (np := 0) (st := [.inl x26]) (as := []) 92 12 (sh_mo_placeMany e29) q8_15 q8_12 q8_14 qs6_6 q1_15 (by decide) rfl (by decide) rfl (by decide) (by decide +kernel) (by decide) rfl (Nat.le_of_ble_eq_true rfl) (show decode cX12_judgePlan 91 = .ok (.invokevirtual 411, 3) by decide +kernel) rfl ?_
        by_cases c31 : x26 ≥ r30
        · rw [if_pos c31] at h
          refine y_icmp_ge_t (tgt := 136) (show decode cX12_judgePlan 94 = .ok (.if_icmp .ge 42, 3) by decide +kernel) rfl c31 ?_
          refine y_iconst (show decode cX12_judgePlan 136 = .ok (.iconst 0, 1) by decide +kernel) rfl ?_
          refine y_istore_n (show decode cX12_judgePlan 137 = .ok (.istore_n 2, 1) by decide +kernel) rfl (L1 := [(2, .inl 0), (0, .inr (.inr (92 + 1))), (1, .inl x25)]) rfl ?_
          refine y_pick [1, 2, 0] rfl ?_
          refine loopS2_ind (P := fun x32 x33 σ34 => Y E MX12_judgePlan (yRm 3 0 0) (yQf E (150 + 0) 0 0 none (ov τ)) 138 [(0, .inr (.inr (92 + 1))), (1, .inl x32), (2, .inl x33)] [] (ov σ34) 150 0 0) (fun k35 hk35 x32 x33 σ34 h => ?_) _ _ _ _  h
          refine y_iload_n (show decode cX12_judgePlan 138 = .ok (.iload_n 2, 1) by decide +kernel) 2 rfl ?_
          refine y_aload_n (show decode cX12_judgePlan 139 = .ok (.aload_n 0, 1) by decide +kernel) 0 rfl ?_
          refine y_getf 92 12 15 33 (by decide) rfl (by decide) (by decide) q6_62 (show decode cX12_judgePlan 140 = .ok (.getfield 33, 3) by decide +kernel) (v := .inr (.inr (99 + 1))) rfl ?_
          refine y_aload_n (show decode cX12_judgePlan 143 = .ok (.aload_n 0, 1) by decide +kernel) 0 rfl ?_
          refine y_getf 92 12 40 311 (by decide) rfl (by decide) (by decide) q6_87 (show decode cX12_judgePlan 144 = .ok (.getfield 311, 3) by decide +kernel) (v := .inl (σ34 92 40)) rfl ?_
          obtain ⟨c36, h⟩ := chkA_some h
          refine yo_iald 99 2 (by decide) rfl c36 (ov_at rfl) (show decode cX12_judgePlan 147 = .ok (.iaload, 1) by decide +kernel) ?_
          by_cases c37 : x33 ≥ (σ34 99 ((σ34 92 40)).toNat)
          · rw [if_pos c37] at h
            refine y_icmp_ge_t (tgt := 191) (show decode cX12_judgePlan 148 = .ok (.if_icmp .ge 43, 3) by decide +kernel) rfl c37 ?_
            obtain ⟨c38, h⟩ := chkI_some h
            refine y_iinc (show decode cX12_judgePlan 191 = .ok (.iinc 1 1, 3) by decide +kernel) 1 rfl c38 rfl (L1 := [(1, .inl (x32 + 1)), (0, .inr (.inr (92 + 1))), (2, .inl x33)]) rfl ?_
            refine y_goto (tgt := 25) (show decode cX12_judgePlan 194 = .ok (.goto (-169), 3) by decide +kernel) rfl ?_
            refine y_pick [1, 0] rfl ?_
            exact hk13 _ _ h
          · rw [if_neg c37] at h
            refine y_icmp_ge_f (show decode cX12_judgePlan 148 = .ok (.if_icmp .ge 43, 3) by decide +kernel) c37 (by decide) ?_
            refine y_aload_n (show decode cX12_judgePlan 151 = .ok (.aload_n 0, 1) by decide +kernel) 0 rfl ?_
            refine y_getf 92 12 32 86 (by decide) rfl (by decide) (by decide) q6_79 (show decode cX12_judgePlan 152 = .ok (.getfield 86, 3) by decide +kernel) (v := .inr (.inr (116 + 1))) rfl ?_
            refine y_bipush (show decode cX12_judgePlan 155 = .ok (.bipush 8, 2) by decide +kernel) rfl rfl ?_
            refine y_aload_n (show decode cX12_judgePlan 157 = .ok (.aload_n 0, 1) by decide +kernel) 0 rfl ?_
            refine y_getf 92 12 40 311 (by decide) rfl (by decide) (by decide) q6_87 (show decode cX12_judgePlan 158 = .ok (.getfield 311, 3) by decide +kernel) (v := .inl (σ34 92 40)) rfl ?_
            obtain ⟨c39, h⟩ := chkI_some h
            refine y_imul (show decode cX12_judgePlan 161 = .ok (.imul, 1) by decide +kernel) c39 ?_
            refine y_iload_n (show decode cX12_judgePlan 162 = .ok (.iload_n 2, 1) by decide +kernel) 2 rfl ?_
            obtain ⟨c40, h⟩ := chkI_some h
            refine y_iadd (show decode cX12_judgePlan 163 = .ok (.iadd, 1) by decide +kernel) c40 ?_
            obtain ⟨c41, h⟩ := chkA_some h
            refine yo_iald 116 16 (by decide) rfl c41 (ov_at rfl) (show decode cX12_judgePlan 164 = .ok (.iaload, 1) by decide +kernel) ?_
            refine y_iload_n (show decode cX12_judgePlan 165 = .ok (.iload_n 1, 1) by decide +kernel) 1 rfl ?_
            refine bnd_j (Q := fun j43 => ∀ (σ42 : ySt), j43 σ42 = some τ → Y E MX12_judgePlan (yRm 3 0 0) (yQf E (150 + 0) 0 0 none (ov τ)) 185 [(0, .inr (.inr (92 + 1))), (1, .inl x32), (2, .inl x33)] [] (ov σ42) 150 0 0) (fun σ42 h => ?_) (fun j43 hj43 h => ?_) h
            · dsimp only at h
              obtain ⟨c44, h⟩ := chkI_some h
              refine y_iinc (show decode cX12_judgePlan 185 = .ok (.iinc 2 1, 3) by decide +kernel) 2 rfl c44 rfl (L1 := [(2, .inl (x33 + 1)), (0, .inr (.inr (92 + 1))), (1, .inl x32)]) rfl ?_
              refine y_goto (tgt := 138) (show decode cX12_judgePlan 188 = .ok (.goto (-50), 3) by decide +kernel) rfl ?_
              refine y_pick [1, 2, 0] rfl ?_
              exact hk35 _ _ _ h
            by_cases c45 : ¬ (σ34 116 (((8 * (σ34 92 40)) + x33)).toNat) = x32
            · rw [if_pos c45] at h
              refine y_icmp_ne_t (tgt := 185) (show decode cX12_judgePlan 166 = .ok (.if_icmp .ne 19, 3) by decide +kernel) rfl c45 ?_
              refine y_pick [0, 1, 2] rfl ?_
              exact hj43 _ h
            · rw [if_neg c45] at h
              refine y_icmp_ne_f (show decode cX12_judgePlan 166 = .ok (.if_icmp .ne 19, 3) by decide +kernel) c45 (by decide) ?_
              refine y_aload_n (show decode cX12_judgePlan 169 = .ok (.aload_n 0, 1) by decide +kernel) 0 rfl ?_
              refine y_iload_n (show decode cX12_judgePlan 170 = .ok (.iload_n 2, 1) by decide +kernel) 2 rfl ?_
              refine y_iload_n (show decode cX12_judgePlan 171 = .ok (.iload_n 1, 1) by decide +kernel) 1 rfl ?_
              obtain ⟨r47, e46, h⟩ := bndO_some h
              refine y_callV (np := 2) (st := []) (as := [.inl x33, .inl x32]) 92 12 (sh_mo_isDone e46) q8_77 q8_74 q8_76 qs7_1 q1_15 (by decide) rfl (by decide) rfl (by decide) (by decide +kernel) (by decide) rfl (Nat.le_of_ble_eq_true rfl) (show decode cX12_judgePlan 172 = .ok (.invokevirtual 463, 3) by decide +kernel) rfl ?_
              by_cases c48 : ¬ r47 = 0
              · rw [if_pos c48] at h
                refine y_if_ne_t (tgt := 185) (show decode cX12_judgePlan 175 = .ok (.ifCond .ne 10, 3) by decide +kernel) rfl c48 ?_
                refine y_pick [0, 1, 2] rfl ?_
                exact hj43 _ h
              · rw [if_neg c48] at h
                refine y_if_ne_f (show decode cX12_judgePlan 175 = .ok (.ifCond .ne 10, 3) by decide +kernel) c48 (by decide) ?_
                refine y_aload_n (show decode cX12_judgePlan 178 = .ok (.aload_n 0, 1) by decide +kernel) 0 rfl ?_
                refine y_iconst (show decode cX12_judgePlan 179 = .ok (.iconst 3, 1) by decide +kernel) rfl ?_
                refine y_iload_n (show decode cX12_judgePlan 180 = .ok (.iload_n 1, 1) by decide +kernel) 1 rfl ?_
                refine y_iload_n (show decode cX12_judgePlan 181 = .ok (.iload_n 2, 1) by decide +kernel) 2 rfl ?_
                obtain ⟨σ50, e49, h⟩ := bndO_some h
                refine y_callV (np := 3) (st := []) (as := [.inl 3, .inl x32, .inl x33]) 92 12 (sh_mo_wrongIs e49) q8_185 q8_182 q8_184 qs8_2 q1_15 (by decide) rfl (by decide) rfl (by decide) (by decide +kernel) (by decide) rfl (Nat.le_of_ble_eq_true rfl) (show decode cX12_judgePlan 182 = .ok (.invokevirtual 545, 3) by decide +kernel) rfl ?_
                refine y_pick [0, 1, 2] rfl ?_
                exact hj43 _ h
        · rw [if_neg c31] at h
          refine y_icmp_ge_f (show decode cX12_judgePlan 94 = .ok (.if_icmp .ge 42, 3) by decide +kernel) c31 (by decide) ?_
          refine y_aload_n (show decode cX12_judgePlan 97 = .ok (.aload_n 0, 1) by decide +kernel) 0 rfl ?_
          refine y_getf 92 12 46 113 (by decide) rfl (by decide) (by decide) q6_93 (show decode cX12_judgePlan 98 = .ok (.getfield 113, 3) by decide +kernel) (v := .inr (.inr (125 + 1))) rfl ?_
          refine y_bipush (show decode cX12_judgePlan 101 = .ok (.bipush 48, 2) by decide +kernel) rfl rfl ?_
          refine y_iload_n (show decode cX12_judgePlan 103 = .ok (.iload_n 1, 1) by decide +kernel) 1 rfl ?_
          refine y_iconst (show decode cX12_judgePlan 104 = .ok (.iconst 1, 1) by decide +kernel) rfl ?_
          obtain ⟨c51, h⟩ := chkI_some h
          refine y_isub (show decode cX12_judgePlan 105 = .ok (.isub, 1) by decide +kernel) c51 ?_
          obtain ⟨c52, h⟩ := chkI_some h
          refine y_imul (show decode cX12_judgePlan 106 = .ok (.imul, 1) by decide +kernel) c52 ?_
          refine y_bipush (show decode cX12_judgePlan 107 = .ok (.bipush 8, 2) by decide +kernel) rfl rfl ?_
          refine y_iload_n (show decode cX12_judgePlan 109 = .ok (.iload_n 2, 1) by decide +kernel) 2 rfl ?_
          obtain ⟨c53, h⟩ := chkI_some h
          refine y_imul (show decode cX12_judgePlan 110 = .ok (.imul, 1) by decide +kernel) c53 ?_
          obtain ⟨c54, h⟩ := chkI_some h
          refine y_iadd (show decode cX12_judgePlan 111 = .ok (.iadd, 1) by decide +kernel) c54 ?_
          refine y_aload_n (show decode cX12_judgePlan 112 = .ok (.aload_n 0, 1) by decide +kernel) 0 rfl ?_
          refine y_getf 92 12 57 119 (by decide) rfl (by decide) (by decide) q6_104 (show decode cX12_judgePlan 113 = .ok (.getfield 119, 3) by decide +kernel) (v := .inr (.inr (127 + 1))) rfl ?_
          refine y_iload_n (show decode cX12_judgePlan 116 = .ok (.iload_n 2, 1) by decide +kernel) 2 rfl ?_
          obtain ⟨c55, h⟩ := chkA_some h
          refine yo_iald 127 6 (by decide) rfl c55 (ov_at rfl) (show decode cX12_judgePlan 117 = .ok (.iaload, 1) by decide +kernel) ?_
          obtain ⟨c56, h⟩ := chkI_some h
          refine y_iadd (show decode cX12_judgePlan 118 = .ok (.iadd, 1) by decide +kernel) c56 ?_
          obtain ⟨c57, h⟩ := chkA_some h
          refine yo_zald 125 432 (by decide) rfl c57 (ov_at rfl) (show decode cX12_judgePlan 119 = .ok (.baload, 1) by decide +kernel) ?_
          refine bnd_j (Q := fun j59 => ∀ (σ58 : ySt), j59 σ58 = some τ → Y E MX12_judgePlan (yRm 3 0 0) (yQf E (150 + 0) 0 0 none (ov τ)) 130 [(0, .inr (.inr (92 + 1))), (1, .inl x25), (2, .inl x26)] [] (ov σ58) 150 0 0) (fun σ58 h => ?_) (fun j59 hj59 h => ?_) h
          · dsimp only at h
            obtain ⟨c60, h⟩ := chkI_some h
            refine y_iinc (show decode cX12_judgePlan 130 = .ok (.iinc 2 1, 3) by decide +kernel) 2 rfl c60 rfl (L1 := [(2, .inl (x26 + 1)), (0, .inr (.inr (92 + 1))), (1, .inl x25)]) rfl ?_
            refine y_goto (tgt := 89) (show decode cX12_judgePlan 133 = .ok (.goto (-44), 3) by decide +kernel) rfl ?_
            refine y_pick [1, 2, 0] rfl ?_
            exact hk28 _ _ _ h
          by_cases c61 : ¬ (σ27 125 ((((48 * (x25 - 1)) + (8 * x26)) + (σ27 127 (x26).toNat))).toNat) = 0
          · rw [if_pos c61] at h
            refine y_if_ne_t (tgt := 130) (show decode cX12_judgePlan 120 = .ok (.ifCond .ne 10, 3) by decide +kernel) rfl c61 ?_
            refine y_pick [0, 1, 2] rfl ?_
            exact hj59 _ h
          · rw [if_neg c61] at h
            refine y_if_ne_f (show decode cX12_judgePlan 120 = .ok (.ifCond .ne 10, 3) by decide +kernel) c61 (by decide) ?_
            refine y_aload_n (show decode cX12_judgePlan 123 = .ok (.aload_n 0, 1) by decide +kernel) 0 rfl ?_
            refine y_iconst (show decode cX12_judgePlan 124 = .ok (.iconst 2, 1) by decide +kernel) rfl ?_
            refine y_iload_n (show decode cX12_judgePlan 125 = .ok (.iload_n 1, 1) by decide +kernel) 1 rfl ?_
            refine y_iload_n (show decode cX12_judgePlan 126 = .ok (.iload_n 2, 1) by decide +kernel) 2 rfl ?_
            obtain ⟨σ63, e62, h⟩ := bndO_some h
            refine y_callV (np := 3) (st := []) (as := [.inl 2, .inl x25, .inl x26]) 92 12 (sh_mo_wrongIs e62) q8_185 q8_182 q8_184 qs8_2 q1_15 (by decide) rfl (by decide) rfl (by decide) (by decide +kernel) (by decide) rfl (Nat.le_of_ble_eq_true rfl) (show decode cX12_judgePlan 127 = .ok (.invokevirtual 545, 3) by decide +kernel) rfl ?_
            refine y_pick [0, 1, 2] rfl ?_
            exact hj59 _ h
      · rw [if_neg c24] at h
        refine y_icmp_ge_f (show decode cX12_judgePlan 52 = .ok (.if_icmp .ge 35, 3) by decide +kernel) c24 (by decide) ?_
        refine y_aload_n (show decode cX12_judgePlan 55 = .ok (.aload_n 0, 1) by decide +kernel) 0 rfl ?_
        refine y_aload_n (show decode cX12_judgePlan 56 = .ok (.aload_n 0, 1) by decide +kernel) 0 rfl ?_
        refine y_getf 92 12 61 132 (by decide) rfl (by decide) (by decide) q6_108 (show decode cX12_judgePlan 57 = .ok (.getfield 132, 3) by decide +kernel) (v := .inr (.inr (131 + 1))) rfl ?_
        refine y_iload_n (show decode cX12_judgePlan 60 = .ok (.iload_n 2, 1) by decide +kernel) 2 rfl ?_
        obtain ⟨c64, h⟩ := chkA_some h
        refine yo_iald 131 5 (by decide) rfl c64 (ov_at rfl) (show decode cX12_judgePlan 61 = .ok (.iaload, 1) by decide +kernel) ?_
        refine y_aload_n (show decode cX12_judgePlan 62 = .ok (.aload_n 0, 1) by decide +kernel) 0 rfl ?_
        refine y_getf 92 12 56 116 (by decide) rfl (by decide) (by decide) q6_103 (show decode cX12_judgePlan 63 = .ok (.getfield 116, 3) by decide +kernel) (v := .inr (.inr (126 + 1))) rfl ?_
        refine y_iload_n (show decode cX12_judgePlan 66 = .ok (.iload_n 2, 1) by decide +kernel) 2 rfl ?_
        obtain ⟨c65, h⟩ := chkA_some h
        refine yo_iald 126 5 (by decide) rfl c65 (ov_at rfl) (show decode cX12_judgePlan 67 = .ok (.iaload, 1) by decide +kernel) ?_
        obtain ⟨r67, e66, h⟩ := bndO_some h
        refine y_callV (np := 2) (st := []) (as := [.inl (σ20 131 (x19).toNat), .inl (σ20 126 (x19).toNat)]) 92 12 (sh_mo_gets e66) q8_93 q8_90 q8_92 qs7_5 q1_15 (by decide) rfl (by decide) rfl (by decide) (by decide +kernel) (by decide) rfl (Nat.le_of_ble_eq_true rfl) (show decode cX12_judgePlan 68 = .ok (.invokevirtual 477, 3) by decide +kernel) rfl ?_
        refine bnd_j (Q := fun j69 => ∀ (σ68 : ySt), j69 σ68 = some τ → Y E MX12_judgePlan (yRm 3 0 0) (yQf E (150 + 0) 0 0 none (ov τ)) 81 [(0, .inr (.inr (92 + 1))), (1, .inl x18), (2, .inl x19)] [] (ov σ68) 150 0 0) (fun σ68 h => ?_) (fun j69 hj69 h => ?_) h
        · dsimp only at h
          obtain ⟨c70, h⟩ := chkI_some h
          refine y_iinc (show decode cX12_judgePlan 81 = .ok (.iinc 2 1, 3) by decide +kernel) 2 rfl c70 rfl (L1 := [(2, .inl (x19 + 1)), (0, .inr (.inr (92 + 1))), (1, .inl x18)]) rfl ?_
          refine y_goto (tgt := 47) (show decode cX12_judgePlan 84 = .ok (.goto (-37), 3) by decide +kernel) rfl ?_
          refine y_pick [1, 2, 0] rfl ?_
          exact hk21 _ _ _ h
        by_cases c71 : ¬ r67 = 0
        · rw [if_pos c71] at h
          refine y_if_ne_t (tgt := 81) (show decode cX12_judgePlan 71 = .ok (.ifCond .ne 10, 3) by decide +kernel) rfl c71 ?_
          refine y_pick [0, 1, 2] rfl ?_
          exact hj69 _ h
        · rw [if_neg c71] at h
          refine y_if_ne_f (show decode cX12_judgePlan 71 = .ok (.ifCond .ne 10, 3) by decide +kernel) c71 (by decide) ?_
          refine y_aload_n (show decode cX12_judgePlan 74 = .ok (.aload_n 0, 1) by decide +kernel) 0 rfl ?_
          refine y_iconst (show decode cX12_judgePlan 75 = .ok (.iconst 1, 1) by decide +kernel) rfl ?_
          refine y_iload_n (show decode cX12_judgePlan 76 = .ok (.iload_n 1, 1) by decide +kernel) 1 rfl ?_
          refine y_iload_n (show decode cX12_judgePlan 77 = .ok (.iload_n 2, 1) by decide +kernel) 2 rfl ?_
          obtain ⟨σ73, e72, h⟩ := bndO_some h
          refine y_callV (np := 3) (st := []) (as := [.inl 1, .inl x18, .inl x19]) 92 12 (sh_mo_wrongIs e72) q8_185 q8_182 q8_184 qs8_2 q1_15 (by decide) rfl (by decide) rfl (by decide) (by decide +kernel) (by decide) rfl (Nat.le_of_ble_eq_true rfl) (show decode cX12_judgePlan 78 = .ok (.invokevirtual 545, 3) by decide +kernel) rfl ?_
          refine y_pick [0, 1, 2] rfl ?_
          exact hj69 _ h
abbrev MX12_judge : yM := (yX12_judge, cX12_judge, 2, some .int)
def mo_judge (N : Nat) (a : Int) (σ : ySt) : Option (Int × ySt) :=
  bndO (mo_isIn a 0 2 σ) fun r2 =>
  if ¬ r2 = 0 then
    bndO (mo_judgePlan N σ) fun σ5 =>
    if ¬ a = 0 then
      if ¬ a = 1 then
        some ((σ5 92 70), σ5)
      else
        some ((σ5 92 69), σ5)
    else
      some ((σ5 92 68), σ5)
  else
    some ((-1), σ)
set_option maxHeartbeats 4000000 in
set_option maxRecDepth 10000 in
theorem sh_mo_judge {E : yE} {N : Nat} {a : Int} {σ : ySt} {ρ : Int} {τ : ySt} (h : mo_judge N a σ = some (ρ, τ)) : Con E MX12_judge 4 0 0 [.inr (.inr (92 + 1)), .inl a] 150 (ov σ) (some (.inl ρ)) (ov τ) := by
  unfold mo_judge at h
  refine Con.ofY (by decide +kernel) (by simp [yWords, yCat]) (fun hok _ => ?_)
  show Y E MX12_judge (yRm 4 0 0) (yQf E (150 + 0) 0 0 (some (.inl ρ)) (ov τ)) 0 [(0, .inr (.inr (92 + 1))), (1, .inl a)] [] (ov σ) 150 0 0
  refine y_iload_n (show decode cX12_judge 0 = .ok (.iload_n 1, 1) by decide +kernel) 1 rfl ?_
  refine y_iconst (show decode cX12_judge 1 = .ok (.iconst 0, 1) by decide +kernel) rfl ?_
  refine y_iconst (show decode cX12_judge 2 = .ok (.iconst 2, 1) by decide +kernel) rfl ?_
  obtain ⟨r2, e1, h⟩ := bndO_some h
  refine y_callS (np := 3) (st := []) (as := [.inl a, .inl 0, .inl 2]) (sh_mo_isIn e1) q8_18 q8_16 q8_17 q1_15 (by decide) (by decide +kernel) (by decide) rfl (Nat.le_of_ble_eq_true rfl) (show decode cX12_judge 3 = .ok (.invokestatic 414, 3) by decide +kernel) rfl ?_
  by_cases c3 : ¬ r2 = 0
  · rw [if_pos c3] at h
    refine y_if_ne_t (tgt := 11) (show decode cX12_judge 6 = .ok (.ifCond .ne 5, 3) by decide +kernel) rfl c3 ?_
    refine y_aload_n (show decode cX12_judge 11 = .ok (.aload_n 0, 1) by decide +kernel) 0 rfl ?_
    obtain ⟨σ5, e4, h⟩ := bndO_some h
    refine y_callV (np := 0) (st := []) (as := []) 92 12 (sh_mo_judgePlan e4) q8_177 q8_174 q8_176 qs8_0 q1_15 (by decide) rfl (by decide) rfl (by decide) (by decide +kernel) (by decide) rfl (Nat.le_of_ble_eq_true rfl) (show decode cX12_judge 12 = .ok (.invokevirtual 549, 3) by decide +kernel) rfl ?_
    refine y_iload_n (show decode cX12_judge 15 = .ok (.iload_n 1, 1) by decide +kernel) 1 rfl ?_
    by_cases c6 : ¬ a = 0
    · rw [if_pos c6] at h
      refine y_if_ne_t (tgt := 26) (show decode cX12_judge 16 = .ok (.ifCond .ne 10, 3) by decide +kernel) rfl c6 ?_
      refine y_iload_n (show decode cX12_judge 26 = .ok (.iload_n 1, 1) by decide +kernel) 1 rfl ?_
      refine y_iconst (show decode cX12_judge 27 = .ok (.iconst 1, 1) by decide +kernel) rfl ?_
      by_cases c7 : ¬ a = 1
      · rw [if_pos c7] at h
        refine y_icmp_ne_t (tgt := 38) (show decode cX12_judge 28 = .ok (.if_icmp .ne 10, 3) by decide +kernel) rfl c7 ?_
        refine y_aload_n (show decode cX12_judge 38 = .ok (.aload_n 0, 1) by decide +kernel) 0 rfl ?_
        refine y_getf 92 12 70 539 (by decide) rfl (by decide) (by decide) q6_117 (show decode cX12_judge 39 = .ok (.getfield 539, 3) by decide +kernel) (v := .inl (σ5 92 70)) rfl ?_
        cases h
        exact y_iret (show decode cX12_judge 42 = .ok (.ireturn, 1) by decide +kernel) rfl
      · rw [if_neg c7] at h
        refine y_icmp_ne_f (show decode cX12_judge 28 = .ok (.if_icmp .ne 10, 3) by decide +kernel) c7 (by decide) ?_
        refine y_aload_n (show decode cX12_judge 31 = .ok (.aload_n 0, 1) by decide +kernel) 0 rfl ?_
        refine y_getf 92 12 69 536 (by decide) rfl (by decide) (by decide) q6_116 (show decode cX12_judge 32 = .ok (.getfield 536, 3) by decide +kernel) (v := .inl (σ5 92 69)) rfl ?_
        refine y_goto (tgt := 42) (show decode cX12_judge 35 = .ok (.goto 7, 3) by decide +kernel) rfl ?_
        cases h
        exact y_iret (show decode cX12_judge 42 = .ok (.ireturn, 1) by decide +kernel) rfl
    · rw [if_neg c6] at h
      refine y_if_ne_f (show decode cX12_judge 16 = .ok (.ifCond .ne 10, 3) by decide +kernel) c6 (by decide) ?_
      refine y_aload_n (show decode cX12_judge 19 = .ok (.aload_n 0, 1) by decide +kernel) 0 rfl ?_
      refine y_getf 92 12 68 533 (by decide) rfl (by decide) (by decide) q6_115 (show decode cX12_judge 20 = .ok (.getfield 533, 3) by decide +kernel) (v := .inl (σ5 92 68)) rfl ?_
      refine y_goto (tgt := 42) (show decode cX12_judge 23 = .ok (.goto 19, 3) by decide +kernel) rfl ?_
      cases h
      exact y_iret (show decode cX12_judge 42 = .ok (.ireturn, 1) by decide +kernel) rfl
  · rw [if_neg c3] at h
    refine y_if_ne_f (show decode cX12_judge 6 = .ok (.ifCond .ne 5, 3) by decide +kernel) c3 (by decide) ?_
    refine y_iconst (show decode cX12_judge 9 = .ok (.iconst (-1), 1) by decide +kernel) rfl ?_
    cases h
    exact y_iret (show decode cX12_judge 10 = .ok (.ireturn, 1) by decide +kernel) rfl
abbrev MX12_value : yM := (yX12_value, cX12_value, 6, some .int)
def mo_value (N : Nat) (a : Int) (σ : ySt) : Option (Int × ySt) :=
  bndO (mo_isWhat a σ) fun r2 =>
  if ¬ r2 = 0 then
    bndO (mo_plain σ) fun σ5 =>
    bndO (mo_layTown N σ5) fun σ7 =>
    bnd (yset σ7 92 50 a) fun σ8 =>
    loop1 (fun k11 x10 =>
      chkA 2 (σ8 92 40) <|
      bnd (loopS2 (fun k17 x14 x15 σ16 =>
          if x15 > (σ16 92 48) then
            some (x14, σ16)
          else
            bndO (mo_layPlanned N x15 σ16) fun σ20 =>
            bndO (mo_walked N σ20) fun r22 =>
            bnd (fun (y23 : Int) =>
              if ¬ y23 = (-1000000) then
                bnd (fun (y26 : Int) =>
                  chkI (y23 - y26) <|
                  chkI (x14 + (y23 - y26)) <|
                  chkI (x15 + 1) <|
                  k17 (x14 + (y23 - y26)) (x15 + 1) σ20) fun j27 =>
                if ¬ a = 2 then
                  j27 0
                else
                  j27 r22
              else
                some ((-1000000), σ20)) fun j24 =>
            bnd (j24 (-1000000)) fun j32 =>
            if r22 = (-1000000) then
              j32
            else
              bndO (mo_isLawful N x15 σ20) fun r35 =>
              if ¬ r35 = 0 then
                bndO (mo_worthNow N x15 σ20) fun r38 =>
                j24 r38
              else
                j32) N 0 1 σ8) fun j13 =>
      if x10 ≥ (σ8 99 ((σ8 92 40)).toNat) then
        j13
      else
        if a ≤ 0 then
          j13
        else
          chkI (8 * (σ8 92 40)) <|
          chkI ((8 * (σ8 92 40)) + x10) <|
          chkA 16 ((8 * (σ8 92 40)) + x10) <|
          if (σ8 116 (((8 * (σ8 92 40)) + x10)).toNat) ≤ (σ8 92 48) then
            chkI (x10 + 1) <|
            k11 (x10 + 1)
          else
            some ((-1000000), σ8)) N 0
  else
    some ((-1000000), σ)
set_option maxHeartbeats 4000000 in
set_option maxRecDepth 10000 in
theorem sh_mo_value {E : yE} {N : Nat} {a : Int} {σ : ySt} {ρ : Int} {τ : ySt} (h : mo_value N a σ = some (ρ, τ)) : Con E MX12_value 3 0 0 [.inr (.inr (92 + 1)), .inl a] 150 (ov σ) (some (.inl ρ)) (ov τ) := by
  unfold mo_value at h
  refine Con.ofY (by decide +kernel) (by simp [yWords, yCat]) (fun hok _ => ?_)
  show Y E MX12_value (yRm 3 0 0) (yQf E (150 + 0) 0 0 (some (.inl ρ)) (ov τ)) 0 [(0, .inr (.inr (92 + 1))), (1, .inl a)] [] (ov σ) 150 0 0
  refine y_iload_n (show decode cX12_value 0 = .ok (.iload_n 1, 1) by decide +kernel) 1 rfl ?_
  obtain ⟨r2, e1, h⟩ := bndO_some h
  refine y_callS (np := 1) (st := []) (as := [.inl a]) (sh_mo_isWhat e1) q8_48 q8_46 q8_47 q1_15 (by decide) (by decide +kernel) (by decide) rfl (Nat.le_of_ble_eq_true rfl) (show decode cX12_value 1 = .ok (.invokestatic 496, 3) by decide +kernel) rfl ?_
  by_cases c3 : ¬ r2 = 0
  · rw [if_pos c3] at h
    refine y_if_ne_t (tgt := 11) (show decode cX12_value 4 = .ok (.ifCond .ne 7, 3) by decide +kernel) rfl c3 ?_
    refine y_aload_n (show decode cX12_value 11 = .ok (.aload_n 0, 1) by decide +kernel) 0 rfl ?_
    obtain ⟨σ5, e4, h⟩ := bndO_some h
    refine y_callV (np := 0) (st := []) (as := []) 92 12 (sh_mo_plain e4) q8_22 q8_19 q8_21 qs6_7 q1_15 (by decide) rfl (by decide) rfl (by decide) (by decide +kernel) (by decide) rfl (Nat.le_of_ble_eq_true rfl) (show decode cX12_value 12 = .ok (.invokevirtual 451, 3) by decide +kernel) rfl ?_
    refine y_aload_n (show decode cX12_value 15 = .ok (.aload_n 0, 1) by decide +kernel) 0 rfl ?_
    obtain ⟨σ7, e6, h⟩ := bndO_some h
    refine y_callV (np := 0) (st := []) (as := []) 92 12 (sh_mo_layTown e6) q8_26 q8_23 q8_25 qs6_8 q1_15 (by decide) rfl (by decide) rfl (by decide) (by decide +kernel) (by decide) rfl (Nat.le_of_ble_eq_true rfl) (show decode cX12_value 16 = .ok (.invokevirtual 454, 3) by decide +kernel) rfl ?_
    refine y_aload_n (show decode cX12_value 19 = .ok (.aload_n 0, 1) by decide +kernel) 0 rfl ?_
    refine y_iload_n (show decode cX12_value 20 = .ok (.iload_n 1, 1) by decide +kernel) 1 rfl ?_
    obtain ⟨σ8, e9, h⟩ := bnd_i h
    refine yo_putI 92 12 50 467 (by decide) rfl (by decide) (by decide) q6_97 rfl (show decode cX12_value 21 = .ok (.putfield 467, 3) by decide +kernel) rfl rfl (ov_set1 e9 rfl) ?_
    refine y_iconst (show decode cX12_value 24 = .ok (.iconst 0, 1) by decide +kernel) rfl ?_
    refine y_istore_n (show decode cX12_value 25 = .ok (.istore_n 2, 1) by decide +kernel) rfl (L1 := [(2, .inl 0), (0, .inr (.inr (92 + 1))), (1, .inl a)]) rfl ?_
    refine y_pick [1, 2, 0] rfl ?_
    refine loop1_ind (P := fun x10 => Y E MX12_value (yRm 3 0 0) (yQf E (150 + 0) 0 0 (some (.inl ρ)) (ov τ)) 26 [(0, .inr (.inr (92 + 1))), (1, .inl a), (2, .inl x10)] [] (ov σ8) 150 0 0) (fun k11 hk11 x10 h => ?_) _ _  h
    refine y_iload_n (show decode cX12_value 26 = .ok (.iload_n 2, 1) by decide +kernel) 2 rfl ?_
    refine y_aload_n (show decode cX12_value 27 = .ok (.aload_n 0, 1) by decide +kernel) 0 rfl ?_
    refine y_getf 92 12 15 33 (by decide) rfl (by decide) (by decide) q6_62 (show decode cX12_value 28 = .ok (.getfield 33, 3) by decide +kernel) (v := .inr (.inr (99 + 1))) rfl ?_
    refine y_aload_n (show decode cX12_value 31 = .ok (.aload_n 0, 1) by decide +kernel) 0 rfl ?_
    refine y_getf 92 12 40 311 (by decide) rfl (by decide) (by decide) q6_87 (show decode cX12_value 32 = .ok (.getfield 311, 3) by decide +kernel) (v := .inl (σ8 92 40)) rfl ?_
    obtain ⟨c12, h⟩ := chkA_some h
    refine yo_iald 99 2 (by decide) rfl c12 (ov_at rfl) (show decode cX12_value 35 = .ok (.iaload, 1) by decide +kernel) ?_
    refine bnd_j (Q := fun j13 => j13 = some (ρ, τ) → Y E MX12_value (yRm 3 0 0) (yQf E (150 + 0) 0 0 (some (.inl ρ)) (ov τ)) 74 [(0, .inr (.inr (92 + 1))), (1, .inl a)] [] (ov σ8) 150 0 0) (fun h => ?_) (fun j13 hj13 h => ?_) h
    · refine y_iconst (show decode cX12_value 74 = .ok (.iconst 0, 1) by decide +kernel) rfl ?_
      refine y_istore_n (show decode cX12_value 75 = .ok (.istore_n 2, 1) by decide +kernel) rfl (L1 := [(2, .inl 0), (0, .inr (.inr (92 + 1))), (1, .inl a)]) rfl ?_
      refine y_iconst (show decode cX12_value 76 = .ok (.iconst 1, 1) by decide +kernel) rfl ?_
      refine y_istore_n (show decode cX12_value 77 = .ok (.istore_n 3, 1) by decide +kernel) rfl (L1 := [(3, .inl 1), (2, .inl 0), (0, .inr (.inr (92 + 1))), (1, .inl a)]) rfl ?_
      refine y_pick [2, 3, 1, 0] rfl ?_
      refine loopS2_ind (P := fun x14 x15 σ16 => Y E MX12_value (yRm 3 0 0) (yQf E (150 + 0) 0 0 (some (.inl ρ)) (ov τ)) 78 [(0, .inr (.inr (92 + 1))), (1, .inl a), (2, .inl x14), (3, .inl x15)] [] (ov σ16) 150 0 0) (fun k17 hk17 x14 x15 σ16 h => ?_) _ _ _ _  h
      refine y_iload_n (show decode cX12_value 78 = .ok (.iload_n 3, 1) by decide +kernel) 3 rfl ?_
      refine y_aload_n (show decode cX12_value 79 = .ok (.aload_n 0, 1) by decide +kernel) 0 rfl ?_
      refine y_getf 92 12 48 424 (by decide) rfl (by decide) (by decide) q6_95 (show decode cX12_value 80 = .ok (.getfield 424, 3) by decide +kernel) (v := .inl (σ16 92 48)) rfl ?_
      by_cases c18 : x15 > (σ16 92 48)
      · rw [if_pos c18] at h
        refine y_icmp_gt_t (tgt := 161) (show decode cX12_value 83 = .ok (.if_icmp .gt 78, 3) by decide +kernel) rfl c18 ?_
        refine y_iload_n (show decode cX12_value 161 = .ok (.iload_n 2, 1) by decide +kernel) 2 rfl ?_
        cases h
        exact y_iret (show decode cX12_value 162 = .ok (.ireturn, 1) by decide +kernel) rfl
      · rw [if_neg c18] at h
        refine y_icmp_gt_f (show decode cX12_value 83 = .ok (.if_icmp .gt 78, 3) by decide +kernel) c18 (by decide) ?_
        refine y_aload_n (show decode cX12_value 86 = .ok (.aload_n 0, 1) by decide +kernel) 0 rfl ?_
        refine y_iload_n (show decode cX12_value 87 = .ok (.iload_n 3, 1) by decide +kernel) 3 rfl ?_
        obtain ⟨σ20, e19, h⟩ := bndO_some h
        refine y_callV (np := 1) (st := []) (as := [.inl x15]) 92 12 (sh_mo_layPlanned e19) q8_181 q8_178 q8_180 qs8_1 q1_15 (by decide) rfl (by decide) rfl (by decide) (by decide +kernel) (by decide) rfl (Nat.le_of_ble_eq_true rfl) (show decode cX12_value 88 = .ok (.invokevirtual 542, 3) by decide +kernel) rfl ?_
        refine y_aload_n (show decode cX12_value 91 = .ok (.aload_n 0, 1) by decide +kernel) 0 rfl ?_
        obtain ⟨r22, e21, h⟩ := bndO_some h
        refine y_callV (np := 0) (st := []) (as := []) 92 12 (sh_mo_walked e21) q8_113 q8_110 q8_112 qs7_9 q1_15 (by decide) rfl (by decide) rfl (by decide) (by decide +kernel) (by decide) rfl (Nat.le_of_ble_eq_true rfl) (show decode cX12_value 92 = .ok (.invokevirtual 502, 3) by decide +kernel) rfl ?_
        refine y_istore (show decode cX12_value 95 = .ok (.istore 4, 2) by decide +kernel) rfl (L1 := [(4, .inl r22), (0, .inr (.inr (92 + 1))), (1, .inl a), (2, .inl x14), (3, .inl x15)]) rfl ?_
        refine y_iload (show decode cX12_value 97 = .ok (.iload 4, 2) by decide +kernel) 0 rfl ?_
        refine y_ldcw (k := -1000000) (show decode cX12_value 99 = .ok (.ldc_w 470, 3) by decide +kernel) q8_49 rfl rfl ?_
        refine bnd_j (Q := fun j24 => ∀ (y23 : Int), j24 y23 = some (ρ, τ) → Y E MX12_value (yRm 3 0 0) (yQf E (150 + 0) 0 0 (some (.inl ρ)) (ov τ)) 124 [(0, .inr (.inr (92 + 1))), (1, .inl a), (2, .inl x14), (3, .inl x15), (4, .inl r22)] [.inl y23] (ov σ20) 150 0 0) (fun y23 h => ?_) (fun j24 hj24 h => ?_) h
        · dsimp only at h
          refine y_istore (show decode cX12_value 124 = .ok (.istore 5, 2) by decide +kernel) rfl (L1 := [(5, .inl y23), (0, .inr (.inr (92 + 1))), (1, .inl a), (2, .inl x14), (3, .inl x15), (4, .inl r22)]) rfl ?_
          refine y_iload (show decode cX12_value 126 = .ok (.iload 5, 2) by decide +kernel) 0 rfl ?_
          refine y_ldcw (k := -1000000) (show decode cX12_value 128 = .ok (.ldc_w 470, 3) by decide +kernel) q8_49 rfl rfl ?_
          by_cases c25 : ¬ y23 = (-1000000)
          · rw [if_pos c25] at h
            refine y_icmp_ne_t (tgt := 138) (show decode cX12_value 131 = .ok (.if_icmp .ne 7, 3) by decide +kernel) rfl c25 ?_
            refine y_iload_n (show decode cX12_value 138 = .ok (.iload_n 2, 1) by decide +kernel) 3 rfl ?_
            refine y_iload (show decode cX12_value 139 = .ok (.iload 5, 2) by decide +kernel) 0 rfl ?_
            refine y_iload_n (show decode cX12_value 141 = .ok (.iload_n 1, 1) by decide +kernel) 2 rfl ?_
            refine y_iconst (show decode cX12_value 142 = .ok (.iconst 2, 1) by decide +kernel) rfl ?_
            refine bnd_j (Q := fun j27 => ∀ (y26 : Int), j27 y26 = some (ρ, τ) → Y E MX12_value (yRm 3 0 0) (yQf E (150 + 0) 0 0 (some (.inl ρ)) (ov τ)) 152 [(0, .inr (.inr (92 + 1))), (1, .inl a), (3, .inl x15)] [.inl y26, .inl y23, .inl x14] (ov σ20) 150 0 0) (fun y26 h => ?_) (fun j27 hj27 h => ?_) h
            · dsimp only at h
              obtain ⟨c28, h⟩ := chkI_some h
              refine y_isub (show decode cX12_value 152 = .ok (.isub, 1) by decide +kernel) c28 ?_
              obtain ⟨c29, h⟩ := chkI_some h
              refine y_iadd (show decode cX12_value 153 = .ok (.iadd, 1) by decide +kernel) c29 ?_
              refine y_istore_n (show decode cX12_value 154 = .ok (.istore_n 2, 1) by decide +kernel) rfl (L1 := [(2, .inl (x14 + (y23 - y26))), (0, .inr (.inr (92 + 1))), (1, .inl a), (3, .inl x15)]) rfl ?_
              obtain ⟨c30, h⟩ := chkI_some h
              refine y_iinc (show decode cX12_value 155 = .ok (.iinc 3 1, 3) by decide +kernel) 3 rfl c30 rfl (L1 := [(3, .inl (x15 + 1)), (2, .inl (x14 + (y23 - y26))), (0, .inr (.inr (92 + 1))), (1, .inl a)]) rfl ?_
              refine y_goto (tgt := 78) (show decode cX12_value 158 = .ok (.goto (-80), 3) by decide +kernel) rfl ?_
              refine y_pick [2, 3, 1, 0] rfl ?_
              exact hk17 _ _ _ h
            by_cases c31 : ¬ a = 2
            · rw [if_pos c31] at h
              refine y_icmp_ne_t (tgt := 151) (show decode cX12_value 143 = .ok (.if_icmp .ne 8, 3) by decide +kernel) rfl c31 ?_
              refine y_iconst (show decode cX12_value 151 = .ok (.iconst 0, 1) by decide +kernel) rfl ?_
              refine y_pick [1, 2, 4] rfl ?_
              exact hj27 _ h
            · rw [if_neg c31] at h
              refine y_icmp_ne_f (show decode cX12_value 143 = .ok (.if_icmp .ne 8, 3) by decide +kernel) c31 (by decide) ?_
              refine y_iload (show decode cX12_value 146 = .ok (.iload 4, 2) by decide +kernel) 5 rfl ?_
              refine y_goto (tgt := 152) (show decode cX12_value 148 = .ok (.goto 4, 3) by decide +kernel) rfl ?_
              refine y_pick [1, 2, 4] rfl ?_
              exact hj27 _ h
          · rw [if_neg c25] at h
            refine y_icmp_ne_f (show decode cX12_value 131 = .ok (.if_icmp .ne 7, 3) by decide +kernel) c25 (by decide) ?_
            refine y_ldcw (k := -1000000) (show decode cX12_value 134 = .ok (.ldc_w 470, 3) by decide +kernel) q8_49 rfl rfl ?_
            cases h
            exact y_iret (show decode cX12_value 137 = .ok (.ireturn, 1) by decide +kernel) rfl
        refine bnd_j (Q := fun j32 => j32 = some (ρ, τ) → Y E MX12_value (yRm 3 0 0) (yQf E (150 + 0) 0 0 (some (.inl ρ)) (ov τ)) 113 [(0, .inr (.inr (92 + 1))), (1, .inl a), (2, .inl x14), (3, .inl x15), (4, .inl r22)] [] (ov σ20) 150 0 0) (fun h => ?_) (fun j32 hj32 h => ?_) h
        · refine y_ldcw (k := -1000000) (show decode cX12_value 113 = .ok (.ldc_w 470, 3) by decide +kernel) q8_49 rfl rfl ?_
          refine y_goto (tgt := 124) (show decode cX12_value 116 = .ok (.goto 8, 3) by decide +kernel) rfl ?_
          refine y_pick [0, 1, 2, 3, 4] rfl ?_
          exact hj24 _ h
        by_cases c33 : r22 = (-1000000)
        · rw [if_pos c33] at h
          refine y_icmp_eq_t (tgt := 113) (show decode cX12_value 102 = .ok (.if_icmp .eq 11, 3) by decide +kernel) rfl c33 ?_
          refine y_pick [1, 2, 3, 4, 0] rfl ?_
          exact hj32 h
        · rw [if_neg c33] at h
          refine y_icmp_eq_f (show decode cX12_value 102 = .ok (.if_icmp .eq 11, 3) by decide +kernel) c33 (by decide) ?_
          refine y_aload_n (show decode cX12_value 105 = .ok (.aload_n 0, 1) by decide +kernel) 1 rfl ?_
          refine y_iload_n (show decode cX12_value 106 = .ok (.iload_n 3, 1) by decide +kernel) 4 rfl ?_
          obtain ⟨r35, e34, h⟩ := bndO_some h
          refine y_callV (np := 1) (st := []) (as := [.inl x15]) 92 12 (sh_mo_isLawful e34) q8_69 q8_66 q8_68 qs6_15 q1_15 (by decide) rfl (by decide) rfl (by decide) (by decide +kernel) (by decide) rfl (Nat.le_of_ble_eq_true rfl) (show decode cX12_value 107 = .ok (.invokevirtual 484, 3) by decide +kernel) rfl ?_
          by_cases c36 : ¬ r35 = 0
          · rw [if_pos c36] at h
            refine y_if_ne_t (tgt := 119) (show decode cX12_value 110 = .ok (.ifCond .ne 9, 3) by decide +kernel) rfl c36 ?_
            refine y_aload_n (show decode cX12_value 119 = .ok (.aload_n 0, 1) by decide +kernel) 1 rfl ?_
            refine y_iload_n (show decode cX12_value 120 = .ok (.iload_n 3, 1) by decide +kernel) 4 rfl ?_
            obtain ⟨r38, e37, h⟩ := bndO_some h
            refine y_callV (np := 1) (st := []) (as := [.inl x15]) 92 12 (sh_mo_worthNow e37) q8_73 q8_70 q8_72 qs7_0 q1_15 (by decide) rfl (by decide) rfl (by decide) (by decide +kernel) (by decide) rfl (Nat.le_of_ble_eq_true rfl) (show decode cX12_value 121 = .ok (.invokevirtual 487, 3) by decide +kernel) rfl ?_
            refine y_pick [1, 2, 3, 4, 0] rfl ?_
            exact hj24 _ h
          · rw [if_neg c36] at h
            refine y_if_ne_f (show decode cX12_value 110 = .ok (.ifCond .ne 9, 3) by decide +kernel) c36 (by decide) ?_
            refine y_pick [1, 2, 3, 4, 0] rfl ?_
            exact hj32 h
    by_cases c39 : x10 ≥ (σ8 99 ((σ8 92 40)).toNat)
    · rw [if_pos c39] at h
      refine y_icmp_ge_t (tgt := 74) (show decode cX12_value 36 = .ok (.if_icmp .ge 38, 3) by decide +kernel) rfl c39 ?_
      refine y_pick [0, 1] rfl ?_
      exact hj13 h
    · rw [if_neg c39] at h
      refine y_icmp_ge_f (show decode cX12_value 36 = .ok (.if_icmp .ge 38, 3) by decide +kernel) c39 (by decide) ?_
      refine y_iload_n (show decode cX12_value 39 = .ok (.iload_n 1, 1) by decide +kernel) 1 rfl ?_
      by_cases c40 : a ≤ 0
      · rw [if_pos c40] at h
        refine y_if_le_t (tgt := 74) (show decode cX12_value 40 = .ok (.ifCond .le 34, 3) by decide +kernel) rfl c40 ?_
        refine y_pick [0, 1] rfl ?_
        exact hj13 h
      · rw [if_neg c40] at h
        refine y_if_le_f (show decode cX12_value 40 = .ok (.ifCond .le 34, 3) by decide +kernel) c40 (by decide) ?_
        refine y_aload_n (show decode cX12_value 43 = .ok (.aload_n 0, 1) by decide +kernel) 0 rfl ?_
        refine y_getf 92 12 32 86 (by decide) rfl (by decide) (by decide) q6_79 (show decode cX12_value 44 = .ok (.getfield 86, 3) by decide +kernel) (v := .inr (.inr (116 + 1))) rfl ?_
        refine y_bipush (show decode cX12_value 47 = .ok (.bipush 8, 2) by decide +kernel) rfl rfl ?_
        refine y_aload_n (show decode cX12_value 49 = .ok (.aload_n 0, 1) by decide +kernel) 0 rfl ?_
        refine y_getf 92 12 40 311 (by decide) rfl (by decide) (by decide) q6_87 (show decode cX12_value 50 = .ok (.getfield 311, 3) by decide +kernel) (v := .inl (σ8 92 40)) rfl ?_
        obtain ⟨c41, h⟩ := chkI_some h
        refine y_imul (show decode cX12_value 53 = .ok (.imul, 1) by decide +kernel) c41 ?_
        refine y_iload_n (show decode cX12_value 54 = .ok (.iload_n 2, 1) by decide +kernel) 2 rfl ?_
        obtain ⟨c42, h⟩ := chkI_some h
        refine y_iadd (show decode cX12_value 55 = .ok (.iadd, 1) by decide +kernel) c42 ?_
        obtain ⟨c43, h⟩ := chkA_some h
        refine yo_iald 116 16 (by decide) rfl c43 (ov_at rfl) (show decode cX12_value 56 = .ok (.iaload, 1) by decide +kernel) ?_
        refine y_aload_n (show decode cX12_value 57 = .ok (.aload_n 0, 1) by decide +kernel) 0 rfl ?_
        refine y_getf 92 12 48 424 (by decide) rfl (by decide) (by decide) q6_95 (show decode cX12_value 58 = .ok (.getfield 424, 3) by decide +kernel) (v := .inl (σ8 92 48)) rfl ?_
        by_cases c44 : (σ8 116 (((8 * (σ8 92 40)) + x10)).toNat) ≤ (σ8 92 48)
        · rw [if_pos c44] at h
          refine y_icmp_le_t (tgt := 68) (show decode cX12_value 61 = .ok (.if_icmp .le 7, 3) by decide +kernel) rfl c44 ?_
          obtain ⟨c45, h⟩ := chkI_some h
          refine y_iinc (show decode cX12_value 68 = .ok (.iinc 2 1, 3) by decide +kernel) 2 rfl c45 rfl (L1 := [(2, .inl (x10 + 1)), (0, .inr (.inr (92 + 1))), (1, .inl a)]) rfl ?_
          refine y_goto (tgt := 26) (show decode cX12_value 71 = .ok (.goto (-45), 3) by decide +kernel) rfl ?_
          refine y_pick [1, 2, 0] rfl ?_
          exact hk11 _ h
        · rw [if_neg c44] at h
          refine y_icmp_le_f (show decode cX12_value 61 = .ok (.if_icmp .le 7, 3) by decide +kernel) c44 (by decide) ?_
          refine y_ldcw (k := -1000000) (show decode cX12_value 64 = .ok (.ldc_w 470, 3) by decide +kernel) q8_49 rfl rfl ?_
          cases h
          exact y_iret (show decode cX12_value 67 = .ok (.ireturn, 1) by decide +kernel) rfl
  · rw [if_neg c3] at h
    refine y_if_ne_f (show decode cX12_value 4 = .ok (.ifCond .ne 7, 3) by decide +kernel) c3 (by decide) ?_
    refine y_ldcw (k := -1000000) (show decode cX12_value 7 = .ok (.ldc_w 470, 3) by decide +kernel) q8_49 rfl rfl ?_
    cases h
    exact y_iret (show decode cX12_value 10 = .ok (.ireturn, 1) by decide +kernel) rfl
abbrev MX12_where : yM := (yX12_where, cX12_where, 2, some .int)
def mo_where (a : Int) (σ : ySt) : Option (Int) :=
  bndO (mo_isPerson a σ) fun r2 =>
  if r2 = 0 then
    some (-1)
  else
    chkA 5 a <|
    some (σ 138 (a).toNat)
set_option maxHeartbeats 4000000 in
set_option maxRecDepth 10000 in
theorem sh_mo_where {E : yE} {a : Int} {σ : ySt} {ρ : Int} (h : mo_where a σ = some ρ) : Con E MX12_where 2 0 0 [.inr (.inr (92 + 1)), .inl a] 150 (ov σ) (some (.inl ρ)) (ov σ) := by
  unfold mo_where at h
  refine Con.ofY (by decide +kernel) (by simp [yWords, yCat]) (fun hok _ => ?_)
  show Y E MX12_where (yRm 2 0 0) (yQf E (150 + 0) 0 0 (some (.inl ρ)) (ov σ)) 0 [(0, .inr (.inr (92 + 1))), (1, .inl a)] [] (ov σ) 150 0 0
  refine y_aload_n (show decode cX12_where 0 = .ok (.aload_n 0, 1) by decide +kernel) 0 rfl ?_
  refine y_iload_n (show decode cX12_where 1 = .ok (.iload_n 1, 1) by decide +kernel) 1 rfl ?_
  obtain ⟨r2, e1, h⟩ := bndO_some h
  refine y_callV (np := 1) (st := []) (as := [.inl a]) 92 12 (sh_mo_isPerson e1) q8_105 q8_102 q8_104 qs7_7 q1_15 (by decide) rfl (by decide) rfl (by decide) (by decide +kernel) (by decide) rfl (Nat.le_of_ble_eq_true rfl) (show decode cX12_where 2 = .ok (.invokevirtual 505, 3) by decide +kernel) rfl ?_
  by_cases c3 : r2 = 0
  · rw [if_pos c3] at h
    refine y_if_eq_t (tgt := 17) (show decode cX12_where 5 = .ok (.ifCond .eq 12, 3) by decide +kernel) rfl c3 ?_
    refine y_iconst (show decode cX12_where 17 = .ok (.iconst (-1), 1) by decide +kernel) rfl ?_
    cases h
    exact y_iret (show decode cX12_where 18 = .ok (.ireturn, 1) by decide +kernel) rfl
  · rw [if_neg c3] at h
    refine y_if_eq_f (show decode cX12_where 5 = .ok (.ifCond .eq 12, 3) by decide +kernel) c3 (by decide) ?_
    refine y_aload_n (show decode cX12_where 8 = .ok (.aload_n 0, 1) by decide +kernel) 0 rfl ?_
    refine y_getf 92 12 71 153 (by decide) rfl (by decide) (by decide) q6_118 (show decode cX12_where 9 = .ok (.getfield 153, 3) by decide +kernel) (v := .inr (.inr (138 + 1))) rfl ?_
    refine y_iload_n (show decode cX12_where 12 = .ok (.iload_n 1, 1) by decide +kernel) 1 rfl ?_
    obtain ⟨c4, h⟩ := chkA_some h
    refine yo_iald 138 5 (by decide) rfl c4 (ov_at rfl) (show decode cX12_where 13 = .ok (.iaload, 1) by decide +kernel) ?_
    refine y_goto (tgt := 18) (show decode cX12_where 14 = .ok (.goto 4, 3) by decide +kernel) rfl ?_
    cases h
    exact y_iret (show decode cX12_where 18 = .ok (.ireturn, 1) by decide +kernel) rfl
abbrev MX12_send : yM := (yX12_send, cX12_send, 3, some .boolean)
def mo_send (N : Nat) (a : Int) (b : Int) (σ : ySt) : Option (Int × ySt) :=
  bndO (mo_isPerson a σ) fun r2 =>
  if r2 = 0 then
    some (0, σ)
  else
    bndO (mo_isPlace b σ) fun r5 =>
    if ¬ r5 = 0 then
      bndO (mo_plain σ) fun σ8 =>
      bndO (mo_layTown N σ8) fun σ10 =>
      chkA 5 a <|
      bndO (mo_gets (σ10 138 (a).toNat) b σ10) fun r13 =>
      if ¬ r13 = 0 then
        chkA 5 a <|
        bnd (yset σ10 139 (a).toNat b) fun σ16 =>
        some (1, σ16)
      else
        some (0, σ10)
    else
      some (0, σ)
set_option maxHeartbeats 4000000 in
set_option maxRecDepth 10000 in
theorem sh_mo_send {E : yE} {N : Nat} {a : Int} {b : Int} {σ : ySt} {ρ : Int} {τ : ySt} (h : mo_send N a b σ = some (ρ, τ)) : Con E MX12_send 3 0 0 [.inr (.inr (92 + 1)), .inl a, .inl b] 150 (ov σ) (some (.inl ρ)) (ov τ) := by
  unfold mo_send at h
  refine Con.ofY (by decide +kernel) (by simp [yWords, yCat]) (fun hok _ => ?_)
  show Y E MX12_send (yRm 3 0 0) (yQf E (150 + 0) 0 0 (some (.inl ρ)) (ov τ)) 0 [(0, .inr (.inr (92 + 1))), (1, .inl a), (2, .inl b)] [] (ov σ) 150 0 0
  refine y_aload_n (show decode cX12_send 0 = .ok (.aload_n 0, 1) by decide +kernel) 0 rfl ?_
  refine y_iload_n (show decode cX12_send 1 = .ok (.iload_n 1, 1) by decide +kernel) 1 rfl ?_
  obtain ⟨r2, e1, h⟩ := bndO_some h
  refine y_callV (np := 1) (st := []) (as := [.inl a]) 92 12 (sh_mo_isPerson e1) q8_105 q8_102 q8_104 qs7_7 q1_15 (by decide) rfl (by decide) rfl (by decide) (by decide +kernel) (by decide) rfl (Nat.le_of_ble_eq_true rfl) (show decode cX12_send 2 = .ok (.invokevirtual 505, 3) by decide +kernel) rfl ?_
  by_cases c3 : r2 = 0
  · rw [if_pos c3] at h
    refine y_if_eq_t (tgt := 16) (show decode cX12_send 5 = .ok (.ifCond .eq 11, 3) by decide +kernel) rfl c3 ?_
    refine y_iconst (show decode cX12_send 16 = .ok (.iconst 0, 1) by decide +kernel) rfl ?_
    cases h
    exact y_zret (show decode cX12_send 17 = .ok (.ireturn, 1) by decide +kernel) rfl (Or.inl rfl)
  · rw [if_neg c3] at h
    refine y_if_eq_f (show decode cX12_send 5 = .ok (.ifCond .eq 11, 3) by decide +kernel) c3 (by decide) ?_
    refine y_aload_n (show decode cX12_send 8 = .ok (.aload_n 0, 1) by decide +kernel) 0 rfl ?_
    refine y_iload_n (show decode cX12_send 9 = .ok (.iload_n 2, 1) by decide +kernel) 2 rfl ?_
    obtain ⟨r5, e4, h⟩ := bndO_some h
    refine y_callV (np := 1) (st := []) (as := [.inl b]) 92 12 (sh_mo_isPlace e4) q8_11 q8_8 q8_10 qs6_5 q1_15 (by decide) rfl (by decide) rfl (by decide) (by decide +kernel) (by decide) rfl (Nat.le_of_ble_eq_true rfl) (show decode cX12_send 10 = .ok (.invokevirtual 448, 3) by decide +kernel) rfl ?_
    by_cases c6 : ¬ r5 = 0
    · rw [if_pos c6] at h
      refine y_if_ne_t (tgt := 18) (show decode cX12_send 13 = .ok (.ifCond .ne 5, 3) by decide +kernel) rfl c6 ?_
      refine y_aload_n (show decode cX12_send 18 = .ok (.aload_n 0, 1) by decide +kernel) 0 rfl ?_
      obtain ⟨σ8, e7, h⟩ := bndO_some h
      refine y_callV (np := 0) (st := []) (as := []) 92 12 (sh_mo_plain e7) q8_22 q8_19 q8_21 qs6_7 q1_15 (by decide) rfl (by decide) rfl (by decide) (by decide +kernel) (by decide) rfl (Nat.le_of_ble_eq_true rfl) (show decode cX12_send 19 = .ok (.invokevirtual 451, 3) by decide +kernel) rfl ?_
      refine y_aload_n (show decode cX12_send 22 = .ok (.aload_n 0, 1) by decide +kernel) 0 rfl ?_
      obtain ⟨σ10, e9, h⟩ := bndO_some h
      refine y_callV (np := 0) (st := []) (as := []) 92 12 (sh_mo_layTown e9) q8_26 q8_23 q8_25 qs6_8 q1_15 (by decide) rfl (by decide) rfl (by decide) (by decide +kernel) (by decide) rfl (Nat.le_of_ble_eq_true rfl) (show decode cX12_send 23 = .ok (.invokevirtual 454, 3) by decide +kernel) rfl ?_
      refine y_aload_n (show decode cX12_send 26 = .ok (.aload_n 0, 1) by decide +kernel) 0 rfl ?_
      refine y_aload_n (show decode cX12_send 27 = .ok (.aload_n 0, 1) by decide +kernel) 0 rfl ?_
      refine y_getf 92 12 71 153 (by decide) rfl (by decide) (by decide) q6_118 (show decode cX12_send 28 = .ok (.getfield 153, 3) by decide +kernel) (v := .inr (.inr (138 + 1))) rfl ?_
      refine y_iload_n (show decode cX12_send 31 = .ok (.iload_n 1, 1) by decide +kernel) 1 rfl ?_
      obtain ⟨c11, h⟩ := chkA_some h
      refine yo_iald 138 5 (by decide) rfl c11 (ov_at rfl) (show decode cX12_send 32 = .ok (.iaload, 1) by decide +kernel) ?_
      refine y_iload_n (show decode cX12_send 33 = .ok (.iload_n 2, 1) by decide +kernel) 2 rfl ?_
      obtain ⟨r13, e12, h⟩ := bndO_some h
      refine y_callV (np := 2) (st := []) (as := [.inl (σ10 138 (a).toNat), .inl b]) 92 12 (sh_mo_gets e12) q8_93 q8_90 q8_92 qs7_5 q1_15 (by decide) rfl (by decide) rfl (by decide) (by decide +kernel) (by decide) rfl (Nat.le_of_ble_eq_true rfl) (show decode cX12_send 34 = .ok (.invokevirtual 477, 3) by decide +kernel) rfl ?_
      by_cases c14 : ¬ r13 = 0
      · rw [if_pos c14] at h
        refine y_if_ne_t (tgt := 42) (show decode cX12_send 37 = .ok (.ifCond .ne 5, 3) by decide +kernel) rfl c14 ?_
        refine y_aload_n (show decode cX12_send 42 = .ok (.aload_n 0, 1) by decide +kernel) 0 rfl ?_
        refine y_getf 92 12 72 156 (by decide) rfl (by decide) (by decide) q6_119 (show decode cX12_send 43 = .ok (.getfield 156, 3) by decide +kernel) (v := .inr (.inr (139 + 1))) rfl ?_
        refine y_iload_n (show decode cX12_send 46 = .ok (.iload_n 1, 1) by decide +kernel) 1 rfl ?_
        refine y_iload_n (show decode cX12_send 47 = .ok (.iload_n 2, 1) by decide +kernel) 2 rfl ?_
        obtain ⟨c15, h⟩ := chkA_some h
        obtain ⟨σ16, e17, h⟩ := bnd_i h
        refine yo_iast 139 5 (by decide) rfl c15 (ov_set1 e17 rfl) (show decode cX12_send 48 = .ok (.iastore, 1) by decide +kernel) ?_
        refine y_iconst (show decode cX12_send 49 = .ok (.iconst 1, 1) by decide +kernel) rfl ?_
        cases h
        exact y_zret (show decode cX12_send 50 = .ok (.ireturn, 1) by decide +kernel) rfl (Or.inr rfl)
      · rw [if_neg c14] at h
        refine y_if_ne_f (show decode cX12_send 37 = .ok (.ifCond .ne 5, 3) by decide +kernel) c14 (by decide) ?_
        refine y_iconst (show decode cX12_send 40 = .ok (.iconst 0, 1) by decide +kernel) rfl ?_
        cases h
        exact y_zret (show decode cX12_send 41 = .ok (.ireturn, 1) by decide +kernel) rfl (Or.inl rfl)
    · rw [if_neg c6] at h
      refine y_if_ne_f (show decode cX12_send 13 = .ok (.ifCond .ne 5, 3) by decide +kernel) c6 (by decide) ?_
      refine y_iconst (show decode cX12_send 16 = .ok (.iconst 0, 1) by decide +kernel) rfl ?_
      cases h
      exact y_zret (show decode cX12_send 17 = .ok (.ireturn, 1) by decide +kernel) rfl (Or.inl rfl)
abbrev MX12_layStands : yM := (yX12_layStands, cX12_layStands, 2, none)
def mo_layStands (N : Nat) (σ : ySt) : Option (ySt) :=
  loopS1 (fun k3 x1 σ2 =>
    if x1 ≥ 6 then
      loopS1 (fun k7 x5 σ6 =>
        bndO (mo_personMany σ6) fun r9 =>
        if x5 ≥ r9 then
          some σ6
        else
          chkA 5 x5 <|
          chkA 6 (σ6 138 (x5).toNat) <|
          chkI ((σ6 127 ((σ6 138 (x5).toNat)).toNat) + 1) <|
          chkA 6 (σ6 138 (x5).toNat) <|
          bnd (yset σ6 127 ((σ6 138 (x5).toNat)).toNat ((σ6 127 ((σ6 138 (x5).toNat)).toNat) + 1)) fun σ15 =>
          chkI (x5 + 1) <|
          k7 (x5 + 1) σ15) N 0 σ2
    else
      chkA 6 x1 <|
      bnd (yset σ2 127 (x1).toNat 0) fun σ19 =>
      chkI (x1 + 1) <|
      k3 (x1 + 1) σ19) N 0 σ
set_option maxHeartbeats 4000000 in
set_option maxRecDepth 10000 in
theorem sh_mo_layStands {E : yE} {N : Nat} {σ : ySt} {τ : ySt} (h : mo_layStands N σ = some τ) : Con E MX12_layStands 1 0 0 [.inr (.inr (92 + 1))] 150 (ov σ) none (ov τ) := by
  unfold mo_layStands at h
  refine Con.ofY (by decide +kernel) (by simp [yWords, yCat]) (fun hok _ => ?_)
  show Y E MX12_layStands (yRm 1 0 0) (yQf E (150 + 0) 0 0 none (ov τ)) 0 [(0, .inr (.inr (92 + 1)))] [] (ov σ) 150 0 0
  refine y_iconst (show decode cX12_layStands 0 = .ok (.iconst 0, 1) by decide +kernel) rfl ?_
  refine y_istore_n (show decode cX12_layStands 1 = .ok (.istore_n 1, 1) by decide +kernel) rfl (L1 := [(1, .inl 0), (0, .inr (.inr (92 + 1)))]) rfl ?_
  refine y_pick [1, 0] rfl ?_
  refine loopS1_ind (P := fun x1 σ2 => Y E MX12_layStands (yRm 1 0 0) (yQf E (150 + 0) 0 0 none (ov τ)) 2 [(0, .inr (.inr (92 + 1))), (1, .inl x1)] [] (ov σ2) 150 0 0) (fun k3 hk3 x1 σ2 h => ?_) _ _ _  h
  refine y_iload_n (show decode cX12_layStands 2 = .ok (.iload_n 1, 1) by decide +kernel) 1 rfl ?_
  refine y_bipush (show decode cX12_layStands 3 = .ok (.bipush 6, 2) by decide +kernel) rfl rfl ?_
  by_cases c4 : x1 ≥ 6
  · rw [if_pos c4] at h
    refine y_icmp_ge_t (tgt := 21) (show decode cX12_layStands 5 = .ok (.if_icmp .ge 16, 3) by decide +kernel) rfl c4 ?_
    refine y_iconst (show decode cX12_layStands 21 = .ok (.iconst 0, 1) by decide +kernel) rfl ?_
    refine y_istore_n (show decode cX12_layStands 22 = .ok (.istore_n 1, 1) by decide +kernel) rfl (L1 := [(1, .inl 0), (0, .inr (.inr (92 + 1)))]) rfl ?_
    refine y_pick [1, 0] rfl ?_
    refine loopS1_ind (P := fun x5 σ6 => Y E MX12_layStands (yRm 1 0 0) (yQf E (150 + 0) 0 0 none (ov τ)) 23 [(0, .inr (.inr (92 + 1))), (1, .inl x5)] [] (ov σ6) 150 0 0) (fun k7 hk7 x5 σ6 h => ?_) _ _ _  h
    refine y_iload_n (show decode cX12_layStands 23 = .ok (.iload_n 1, 1) by decide +kernel) 1 rfl ?_
    refine y_aload_n (show decode cX12_layStands 24 = .ok (.aload_n 0, 1) by decide +kernel) 0 rfl ?_
    obtain ⟨r9, e8, h⟩ := bndO_some h
    refine y_callV (np := 0) (st := [.inl x5]) (as := []) 92 12 (sh_mo_personMany e8) q6_42 q6_39 q6_41 qs4_1 q1_15 (by decide) rfl (by decide) rfl (by decide) (by decide +kernel) (by decide) rfl (Nat.le_of_ble_eq_true rfl) (show decode cX12_layStands 25 = .ok (.invokevirtual 418, 3) by decide +kernel) rfl ?_
    by_cases c10 : x5 ≥ r9
    · rw [if_pos c10] at h
      refine y_icmp_ge_t (tgt := 52) (show decode cX12_layStands 28 = .ok (.if_icmp .ge 24, 3) by decide +kernel) rfl c10 ?_
      cases h
      exact y_vret (show decode cX12_layStands 52 = .ok (.return_, 1) by decide +kernel) rfl
    · rw [if_neg c10] at h
      refine y_icmp_ge_f (show decode cX12_layStands 28 = .ok (.if_icmp .ge 24, 3) by decide +kernel) c10 (by decide) ?_
      refine y_aload_n (show decode cX12_layStands 31 = .ok (.aload_n 0, 1) by decide +kernel) 0 rfl ?_
      refine y_getf 92 12 57 119 (by decide) rfl (by decide) (by decide) q6_104 (show decode cX12_layStands 32 = .ok (.getfield 119, 3) by decide +kernel) (v := .inr (.inr (127 + 1))) rfl ?_
      refine y_aload_n (show decode cX12_layStands 35 = .ok (.aload_n 0, 1) by decide +kernel) 0 rfl ?_
      refine y_getf 92 12 71 153 (by decide) rfl (by decide) (by decide) q6_118 (show decode cX12_layStands 36 = .ok (.getfield 153, 3) by decide +kernel) (v := .inr (.inr (138 + 1))) rfl ?_
      refine y_iload_n (show decode cX12_layStands 39 = .ok (.iload_n 1, 1) by decide +kernel) 1 rfl ?_
      obtain ⟨c11, h⟩ := chkA_some h
      refine yo_iald 138 5 (by decide) rfl c11 (ov_at rfl) (show decode cX12_layStands 40 = .ok (.iaload, 1) by decide +kernel) ?_
      refine y_dup2 (show decode cX12_layStands 41 = .ok (.dup2, 1) by decide +kernel) rfl rfl ?_
      obtain ⟨c12, h⟩ := chkA_some h
      refine yo_iald 127 6 (by decide) rfl c12 (ov_at rfl) (show decode cX12_layStands 42 = .ok (.iaload, 1) by decide +kernel) ?_
      refine y_iconst (show decode cX12_layStands 43 = .ok (.iconst 1, 1) by decide +kernel) rfl ?_
      obtain ⟨c13, h⟩ := chkI_some h
      refine y_iadd (show decode cX12_layStands 44 = .ok (.iadd, 1) by decide +kernel) c13 ?_
      obtain ⟨c14, h⟩ := chkA_some h
      obtain ⟨σ15, e16, h⟩ := bnd_i h
      refine yo_iast 127 6 (by decide) rfl c14 (ov_set1 e16 rfl) (show decode cX12_layStands 45 = .ok (.iastore, 1) by decide +kernel) ?_
      obtain ⟨c17, h⟩ := chkI_some h
      refine y_iinc (show decode cX12_layStands 46 = .ok (.iinc 1 1, 3) by decide +kernel) 1 rfl c17 rfl (L1 := [(1, .inl (x5 + 1)), (0, .inr (.inr (92 + 1)))]) rfl ?_
      refine y_goto (tgt := 23) (show decode cX12_layStands 49 = .ok (.goto (-26), 3) by decide +kernel) rfl ?_
      refine y_pick [1, 0] rfl ?_
      exact hk7 _ _ h
  · rw [if_neg c4] at h
    refine y_icmp_ge_f (show decode cX12_layStands 5 = .ok (.if_icmp .ge 16, 3) by decide +kernel) c4 (by decide) ?_
    refine y_aload_n (show decode cX12_layStands 8 = .ok (.aload_n 0, 1) by decide +kernel) 0 rfl ?_
    refine y_getf 92 12 57 119 (by decide) rfl (by decide) (by decide) q6_104 (show decode cX12_layStands 9 = .ok (.getfield 119, 3) by decide +kernel) (v := .inr (.inr (127 + 1))) rfl ?_
    refine y_iload_n (show decode cX12_layStands 12 = .ok (.iload_n 1, 1) by decide +kernel) 1 rfl ?_
    refine y_iconst (show decode cX12_layStands 13 = .ok (.iconst 0, 1) by decide +kernel) rfl ?_
    obtain ⟨c18, h⟩ := chkA_some h
    obtain ⟨σ19, e20, h⟩ := bnd_i h
    refine yo_iast 127 6 (by decide) rfl c18 (ov_set1 e20 rfl) (show decode cX12_layStands 14 = .ok (.iastore, 1) by decide +kernel) ?_
    obtain ⟨c21, h⟩ := chkI_some h
    refine y_iinc (show decode cX12_layStands 15 = .ok (.iinc 1 1, 3) by decide +kernel) 1 rfl c21 rfl (L1 := [(1, .inl (x1 + 1)), (0, .inr (.inr (92 + 1)))]) rfl ?_
    refine y_goto (tgt := 2) (show decode cX12_layStands 18 = .ok (.goto (-16), 3) by decide +kernel) rfl ?_
    refine y_pick [1, 0] rfl ?_
    exact hk3 _ _ h
abbrev MX12_strike : yM := (yX12_strike, cX12_strike, 3, some .int)
def mo_strike (N : Nat) (σ : ySt) : Option (Int × ySt) :=
  if ¬ (σ 92 73) = 8 then
    chkI ((σ 92 73) + 1) <|
    bnd (yset σ 92 73 ((σ 92 73) + 1)) fun σ3 =>
    loopS1 (fun k7 x5 σ6 =>
      bndO (mo_personMany σ6) fun r9 =>
      if x5 ≥ r9 then
        bndO (mo_layStands N σ6) fun σ12 =>
        loopS2 (fun k16 x13 x14 σ15 =>
          bndO (mo_placeMany σ15) fun r18 =>
          if x14 ≥ r18 then
            chkI ((σ15 92 74) + x13) <|
            bnd (yset σ15 92 74 ((σ15 92 74) + x13)) fun σ21 =>
            some (x13, σ21)
          else
            chkA 6 x14 <|
            bndR (mo_isRight N x14 (σ15 127 (x14).toNat) (σ15 92 73) σ15) fun r25 σ26 =>
            bnd (fun (y27 : Int) =>
              chkI (x13 + y27) <|
              chkI (x14 + 1) <|
              k16 (x13 + y27) (x14 + 1) σ26) fun j28 =>
            if r25 = 0 then
              j28 1
            else
              j28 0) N 0 0 σ12
      else
        chkA 5 x5 <|
        bnd (fun (σ33 : ySt) =>
          chkA 5 x5 <|
          bnd (yset σ33 139 (x5).toNat (-1)) fun σ36 =>
          chkI (x5 + 1) <|
          k7 (x5 + 1) σ36) fun j34 =>
        if (σ6 139 (x5).toNat) < 0 then
          j34 σ6
        else
          chkA 5 x5 <|
          chkA 5 x5 <|
          bnd (yset σ6 138 (x5).toNat (σ6 139 (x5).toNat)) fun σ42 =>
          j34 σ42) N 0 σ3
  else
    some ((-1), σ)
set_option maxHeartbeats 4000000 in
set_option maxRecDepth 10000 in
theorem sh_mo_strike {E : yE} {N : Nat} {σ : ySt} {ρ : Int} {τ : ySt} (h : mo_strike N σ = some (ρ, τ)) : Con E MX12_strike 2 0 0 [.inr (.inr (92 + 1))] 150 (ov σ) (some (.inl ρ)) (ov τ) := by
  unfold mo_strike at h
  refine Con.ofY (by decide +kernel) (by simp [yWords, yCat]) (fun hok _ => ?_)
  show Y E MX12_strike (yRm 2 0 0) (yQf E (150 + 0) 0 0 (some (.inl ρ)) (ov τ)) 0 [(0, .inr (.inr (92 + 1)))] [] (ov σ) 150 0 0
  refine y_aload_n (show decode cX12_strike 0 = .ok (.aload_n 0, 1) by decide +kernel) 0 rfl ?_
  refine y_getf 92 12 73 552 (by decide) rfl (by decide) (by decide) q6_120 (show decode cX12_strike 1 = .ok (.getfield 552, 3) by decide +kernel) (v := .inl (σ 92 73)) rfl ?_
  refine y_bipush (show decode cX12_strike 4 = .ok (.bipush 8, 2) by decide +kernel) rfl rfl ?_
  by_cases c1 : ¬ (σ 92 73) = 8
  · rw [if_pos c1] at h
    refine y_icmp_ne_t (tgt := 11) (show decode cX12_strike 6 = .ok (.if_icmp .ne 5, 3) by decide +kernel) rfl c1 ?_
    refine y_aload_n (show decode cX12_strike 11 = .ok (.aload_n 0, 1) by decide +kernel) 0 rfl ?_
    refine y_dup (show decode cX12_strike 12 = .ok (.dup, 1) by decide +kernel) rfl ?_
    refine y_getf 92 12 73 552 (by decide) rfl (by decide) (by decide) q6_120 (show decode cX12_strike 13 = .ok (.getfield 552, 3) by decide +kernel) (v := .inl (σ 92 73)) rfl ?_
    refine y_iconst (show decode cX12_strike 16 = .ok (.iconst 1, 1) by decide +kernel) rfl ?_
    obtain ⟨c2, h⟩ := chkI_some h
    refine y_iadd (show decode cX12_strike 17 = .ok (.iadd, 1) by decide +kernel) c2 ?_
    obtain ⟨σ3, e4, h⟩ := bnd_i h
    refine yo_putI 92 12 73 552 (by decide) rfl (by decide) (by decide) q6_120 rfl (show decode cX12_strike 18 = .ok (.putfield 552, 3) by decide +kernel) rfl rfl (ov_set1 e4 rfl) ?_
    refine y_iconst (show decode cX12_strike 21 = .ok (.iconst 0, 1) by decide +kernel) rfl ?_
    refine y_istore_n (show decode cX12_strike 22 = .ok (.istore_n 1, 1) by decide +kernel) rfl (L1 := [(1, .inl 0), (0, .inr (.inr (92 + 1)))]) rfl ?_
    refine y_pick [1, 0] rfl ?_
    refine loopS1_ind (P := fun x5 σ6 => Y E MX12_strike (yRm 2 0 0) (yQf E (150 + 0) 0 0 (some (.inl ρ)) (ov τ)) 23 [(0, .inr (.inr (92 + 1))), (1, .inl x5)] [] (ov σ6) 150 0 0) (fun k7 hk7 x5 σ6 h => ?_) _ _ _  h
    refine y_iload_n (show decode cX12_strike 23 = .ok (.iload_n 1, 1) by decide +kernel) 1 rfl ?_
    refine y_aload_n (show decode cX12_strike 24 = .ok (.aload_n 0, 1) by decide +kernel) 0 rfl ?_
    obtain ⟨r9, e8, h⟩ := bndO_some h
    refine y_callV (np := 0) (st := [.inl x5]) (as := []) 92 12 (sh_mo_personMany e8) q6_42 q6_39 q6_41 qs4_1 q1_15 (by decide) rfl (by decide) rfl (by decide) (by decide +kernel) (by decide) rfl (Nat.le_of_ble_eq_true rfl) (show decode cX12_strike 25 = .ok (.invokevirtual 418, 3) by decide +kernel) rfl ?_
    by_cases c10 : x5 ≥ r9
    · rw [if_pos c10] at h
      refine y_icmp_ge_t (tgt := 65) (show decode cX12_strike 28 = .ok (.if_icmp .ge 37, 3) by decide +kernel) rfl c10 ?_
      refine y_aload_n (show decode cX12_strike 65 = .ok (.aload_n 0, 1) by decide +kernel) 0 rfl ?_
      obtain ⟨σ12, e11, h⟩ := bndO_some h
      refine y_callV (np := 0) (st := []) (as := []) 92 12 (sh_mo_layStands e11) q8_205 q8_202 q8_204 qs8_3 q1_15 (by decide) rfl (by decide) rfl (by decide) (by decide +kernel) (by decide) rfl (Nat.le_of_ble_eq_true rfl) (show decode cX12_strike 66 = .ok (.invokevirtual 558, 3) by decide +kernel) rfl ?_
      refine y_iconst (show decode cX12_strike 69 = .ok (.iconst 0, 1) by decide +kernel) rfl ?_
      refine y_istore_n (show decode cX12_strike 70 = .ok (.istore_n 1, 1) by decide +kernel) rfl (L1 := [(1, .inl 0), (0, .inr (.inr (92 + 1)))]) rfl ?_
      refine y_iconst (show decode cX12_strike 71 = .ok (.iconst 0, 1) by decide +kernel) rfl ?_
      refine y_istore_n (show decode cX12_strike 72 = .ok (.istore_n 2, 1) by decide +kernel) rfl (L1 := [(2, .inl 0), (1, .inl 0), (0, .inr (.inr (92 + 1)))]) rfl ?_
      refine y_pick [2, 1, 0] rfl ?_
      refine loopS2_ind (P := fun x13 x14 σ15 => Y E MX12_strike (yRm 2 0 0) (yQf E (150 + 0) 0 0 (some (.inl ρ)) (ov τ)) 73 [(0, .inr (.inr (92 + 1))), (1, .inl x13), (2, .inl x14)] [] (ov σ15) 150 0 0) (fun k16 hk16 x13 x14 σ15 h => ?_) _ _ _ _  h
      refine y_iload_n (show decode cX12_strike 73 = .ok (.iload_n 2, 1) by decide +kernel) 2 rfl ?_
      refine y_aload_n (show decode cX12_strike 74 = .ok (.aload_n 0, 1) by decide +kernel) 0 rfl ?_
      obtain ⟨r18, e17, h⟩ := bndO_some h
      refine y_callV (np := 0) (st := [.inl x14]) (as := []) 92 12 (sh_mo_placeMany e17) q8_15 q8_12 q8_14 qs6_6 q1_15 (by decide) rfl (by decide) rfl (by decide) (by decide +kernel) (by decide) rfl (Nat.le_of_ble_eq_true rfl) (show decode cX12_strike 75 = .ok (.invokevirtual 411, 3) by decide +kernel) rfl ?_
      by_cases c19 : x14 ≥ r18
      · rw [if_pos c19] at h
        refine y_icmp_ge_t (tgt := 113) (show decode cX12_strike 78 = .ok (.if_icmp .ge 35, 3) by decide +kernel) rfl c19 ?_
        refine y_aload_n (show decode cX12_strike 113 = .ok (.aload_n 0, 1) by decide +kernel) 0 rfl ?_
        refine y_dup (show decode cX12_strike 114 = .ok (.dup, 1) by decide +kernel) rfl ?_
        refine y_getf 92 12 74 555 (by decide) rfl (by decide) (by decide) q6_121 (show decode cX12_strike 115 = .ok (.getfield 555, 3) by decide +kernel) (v := .inl (σ15 92 74)) rfl ?_
        refine y_iload_n (show decode cX12_strike 118 = .ok (.iload_n 1, 1) by decide +kernel) 1 rfl ?_
        obtain ⟨c20, h⟩ := chkI_some h
        refine y_iadd (show decode cX12_strike 119 = .ok (.iadd, 1) by decide +kernel) c20 ?_
        obtain ⟨σ21, e22, h⟩ := bnd_i h
        refine yo_putI 92 12 74 555 (by decide) rfl (by decide) (by decide) q6_121 rfl (show decode cX12_strike 120 = .ok (.putfield 555, 3) by decide +kernel) rfl rfl (ov_set1 e22 rfl) ?_
        refine y_iload_n (show decode cX12_strike 123 = .ok (.iload_n 1, 1) by decide +kernel) 1 rfl ?_
        cases h
        exact y_iret (show decode cX12_strike 124 = .ok (.ireturn, 1) by decide +kernel) rfl
      · rw [if_neg c19] at h
        refine y_icmp_ge_f (show decode cX12_strike 78 = .ok (.if_icmp .ge 35, 3) by decide +kernel) c19 (by decide) ?_
        refine y_iload_n (show decode cX12_strike 81 = .ok (.iload_n 1, 1) by decide +kernel) 1 rfl ?_
        refine y_aload_n (show decode cX12_strike 82 = .ok (.aload_n 0, 1) by decide +kernel) 0 rfl ?_
        refine y_iload_n (show decode cX12_strike 83 = .ok (.iload_n 2, 1) by decide +kernel) 2 rfl ?_
        refine y_aload_n (show decode cX12_strike 84 = .ok (.aload_n 0, 1) by decide +kernel) 0 rfl ?_
        refine y_getf 92 12 57 119 (by decide) rfl (by decide) (by decide) q6_104 (show decode cX12_strike 85 = .ok (.getfield 119, 3) by decide +kernel) (v := .inr (.inr (127 + 1))) rfl ?_
        refine y_iload_n (show decode cX12_strike 88 = .ok (.iload_n 2, 1) by decide +kernel) 2 rfl ?_
        obtain ⟨c23, h⟩ := chkA_some h
        refine yo_iald 127 6 (by decide) rfl c23 (ov_at rfl) (show decode cX12_strike 89 = .ok (.iaload, 1) by decide +kernel) ?_
        refine y_aload_n (show decode cX12_strike 90 = .ok (.aload_n 0, 1) by decide +kernel) 0 rfl ?_
        refine y_getf 92 12 73 552 (by decide) rfl (by decide) (by decide) q6_120 (show decode cX12_strike 91 = .ok (.getfield 552, 3) by decide +kernel) (v := .inl (σ15 92 73)) rfl ?_
        obtain ⟨r25, σ26, e24, h⟩ := bndR_some h
        refine y_callV (np := 3) (st := [.inl x13]) (as := [.inl x14, .inl (σ15 127 (x14).toNat), .inl (σ15 92 73)]) 92 12 (sh_mo_isRight e24) q8_30 q8_27 q8_29 qs6_9 q1_15 (by decide) rfl (by decide) rfl (by decide) (by decide +kernel) (by decide) rfl (Nat.le_of_ble_eq_true rfl) (show decode cX12_strike 94 = .ok (.invokevirtual 445, 3) by decide +kernel) rfl ?_
        refine bnd_j (Q := fun j28 => ∀ (y27 : Int), j28 y27 = some (ρ, τ) → Y E MX12_strike (yRm 2 0 0) (yQf E (150 + 0) 0 0 (some (.inl ρ)) (ov τ)) 105 [(0, .inr (.inr (92 + 1))), (2, .inl x14)] [.inl y27, .inl x13] (ov σ26) 150 0 0) (fun y27 h => ?_) (fun j28 hj28 h => ?_) h
        · dsimp only at h
          obtain ⟨c29, h⟩ := chkI_some h
          refine y_iadd (show decode cX12_strike 105 = .ok (.iadd, 1) by decide +kernel) c29 ?_
          refine y_istore_n (show decode cX12_strike 106 = .ok (.istore_n 1, 1) by decide +kernel) rfl (L1 := [(1, .inl (x13 + y27)), (0, .inr (.inr (92 + 1))), (2, .inl x14)]) rfl ?_
          obtain ⟨c30, h⟩ := chkI_some h
          refine y_iinc (show decode cX12_strike 107 = .ok (.iinc 2 1, 3) by decide +kernel) 2 rfl c30 rfl (L1 := [(2, .inl (x14 + 1)), (1, .inl (x13 + y27)), (0, .inr (.inr (92 + 1)))]) rfl ?_
          refine y_goto (tgt := 73) (show decode cX12_strike 110 = .ok (.goto (-37), 3) by decide +kernel) rfl ?_
          refine y_pick [2, 1, 0] rfl ?_
          exact hk16 _ _ _ h
        by_cases c31 : r25 = 0
        · rw [if_pos c31] at h
          refine y_if_eq_t (tgt := 104) (show decode cX12_strike 97 = .ok (.ifCond .eq 7, 3) by decide +kernel) rfl c31 ?_
          refine y_iconst (show decode cX12_strike 104 = .ok (.iconst 1, 1) by decide +kernel) rfl ?_
          refine y_pick [0, 2] rfl ?_
          exact hj28 _ h
        · rw [if_neg c31] at h
          refine y_if_eq_f (show decode cX12_strike 97 = .ok (.ifCond .eq 7, 3) by decide +kernel) c31 (by decide) ?_
          refine y_iconst (show decode cX12_strike 100 = .ok (.iconst 0, 1) by decide +kernel) rfl ?_
          refine y_goto (tgt := 105) (show decode cX12_strike 101 = .ok (.goto 4, 3) by decide +kernel) rfl ?_
          refine y_pick [0, 2] rfl ?_
          exact hj28 _ h
    · rw [if_neg c10] at h
      refine y_icmp_ge_f (show decode cX12_strike 28 = .ok (.if_icmp .ge 37, 3) by decide +kernel) c10 (by decide) ?_
      refine y_aload_n (show decode cX12_strike 31 = .ok (.aload_n 0, 1) by decide +kernel) 0 rfl ?_
      refine y_getf 92 12 72 156 (by decide) rfl (by decide) (by decide) q6_119 (show decode cX12_strike 32 = .ok (.getfield 156, 3) by decide +kernel) (v := .inr (.inr (139 + 1))) rfl ?_
      refine y_iload_n (show decode cX12_strike 35 = .ok (.iload_n 1, 1) by decide +kernel) 1 rfl ?_
      obtain ⟨c32, h⟩ := chkA_some h
      refine yo_iald 139 5 (by decide) rfl c32 (ov_at rfl) (show decode cX12_strike 36 = .ok (.iaload, 1) by decide +kernel) ?_
      refine bnd_j (Q := fun j34 => ∀ (σ33 : ySt), j34 σ33 = some (ρ, τ) → Y E MX12_strike (yRm 2 0 0) (yQf E (150 + 0) 0 0 (some (.inl ρ)) (ov τ)) 52 [(0, .inr (.inr (92 + 1))), (1, .inl x5)] [] (ov σ33) 150 0 0) (fun σ33 h => ?_) (fun j34 hj34 h => ?_) h
      · dsimp only at h
        refine y_aload_n (show decode cX12_strike 52 = .ok (.aload_n 0, 1) by decide +kernel) 0 rfl ?_
        refine y_getf 92 12 72 156 (by decide) rfl (by decide) (by decide) q6_119 (show decode cX12_strike 53 = .ok (.getfield 156, 3) by decide +kernel) (v := .inr (.inr (139 + 1))) rfl ?_
        refine y_iload_n (show decode cX12_strike 56 = .ok (.iload_n 1, 1) by decide +kernel) 1 rfl ?_
        refine y_iconst (show decode cX12_strike 57 = .ok (.iconst (-1), 1) by decide +kernel) rfl ?_
        obtain ⟨c35, h⟩ := chkA_some h
        obtain ⟨σ36, e37, h⟩ := bnd_i h
        refine yo_iast 139 5 (by decide) rfl c35 (ov_set1 e37 rfl) (show decode cX12_strike 58 = .ok (.iastore, 1) by decide +kernel) ?_
        obtain ⟨c38, h⟩ := chkI_some h
        refine y_iinc (show decode cX12_strike 59 = .ok (.iinc 1 1, 3) by decide +kernel) 1 rfl c38 rfl (L1 := [(1, .inl (x5 + 1)), (0, .inr (.inr (92 + 1)))]) rfl ?_
        refine y_goto (tgt := 23) (show decode cX12_strike 62 = .ok (.goto (-39), 3) by decide +kernel) rfl ?_
        refine y_pick [1, 0] rfl ?_
        exact hk7 _ _ h
      by_cases c39 : (σ6 139 (x5).toNat) < 0
      · rw [if_pos c39] at h
        refine y_if_lt_t (tgt := 52) (show decode cX12_strike 37 = .ok (.ifCond .lt 15, 3) by decide +kernel) rfl c39 ?_
        refine y_pick [0, 1] rfl ?_
        exact hj34 _ h
      · rw [if_neg c39] at h
        refine y_if_lt_f (show decode cX12_strike 37 = .ok (.ifCond .lt 15, 3) by decide +kernel) c39 (by decide) ?_
        refine y_aload_n (show decode cX12_strike 40 = .ok (.aload_n 0, 1) by decide +kernel) 0 rfl ?_
        refine y_getf 92 12 71 153 (by decide) rfl (by decide) (by decide) q6_118 (show decode cX12_strike 41 = .ok (.getfield 153, 3) by decide +kernel) (v := .inr (.inr (138 + 1))) rfl ?_
        refine y_iload_n (show decode cX12_strike 44 = .ok (.iload_n 1, 1) by decide +kernel) 1 rfl ?_
        refine y_aload_n (show decode cX12_strike 45 = .ok (.aload_n 0, 1) by decide +kernel) 0 rfl ?_
        refine y_getf 92 12 72 156 (by decide) rfl (by decide) (by decide) q6_119 (show decode cX12_strike 46 = .ok (.getfield 156, 3) by decide +kernel) (v := .inr (.inr (139 + 1))) rfl ?_
        refine y_iload_n (show decode cX12_strike 49 = .ok (.iload_n 1, 1) by decide +kernel) 1 rfl ?_
        obtain ⟨c40, h⟩ := chkA_some h
        refine yo_iald 139 5 (by decide) rfl c40 (ov_at rfl) (show decode cX12_strike 50 = .ok (.iaload, 1) by decide +kernel) ?_
        obtain ⟨c41, h⟩ := chkA_some h
        obtain ⟨σ42, e43, h⟩ := bnd_i h
        refine yo_iast 138 5 (by decide) rfl c41 (ov_set1 e43 rfl) (show decode cX12_strike 51 = .ok (.iastore, 1) by decide +kernel) ?_
        refine y_pick [0, 1] rfl ?_
        exact hj34 _ h
  · rw [if_neg c1] at h
    refine y_icmp_ne_f (show decode cX12_strike 6 = .ok (.if_icmp .ne 5, 3) by decide +kernel) c1 (by decide) ?_
    refine y_iconst (show decode cX12_strike 9 = .ok (.iconst (-1), 1) by decide +kernel) rfl ?_
    cases h
    exact y_iret (show decode cX12_strike 10 = .ok (.ireturn, 1) by decide +kernel) rfl
abbrev MX12_mend : yM := (yX12_mend, cX12_mend, 6, some .int)
def mo_mend (N : Nat) (σ : ySt) : Option (Int × ySt) :=
  bndO (mo_plain σ) fun σ2 =>
  bndO (mo_layTown N σ2) fun σ4 =>
  bndO (mo_layStands N σ4) fun σ6 =>
  loop2 (fun k9 x7 x8 =>
    bndO (mo_placeMany σ6) fun r11 =>
    if x8 ≥ r11 then
      loopS2 (fun k16 x13 x14 σ15 =>
        if x14 > x13 then
          chkA 64 x13 <|
          if (σ15 140 (x13).toNat) ≥ 1000000 then
            some ((-1), σ15)
          else
            chkA 64 x13 <|
            some ((σ15 140 (x13).toNat), σ15)
        else
          bnd (fun (y21 : Int) =>
            chkA 64 x14 <|
            bnd (yset σ15 140 (x14).toNat y21) fun σ24 =>
            loop3 (fun k29 x26 x27 x28 =>
              bnd (chkI (x28 + 1) <|
                loopS4 (fun k37 x32 x33 x34 x35 σ36 =>
                  bnd (chkI (x33 + 1) <|
                    k16 x32 (x33 + 1) σ36) fun j38 =>
                  if x35 ≥ 6 then
                    j38
                  else
                    if x33 ≤ 0 then
                      j38
                    else
                      bnd (fun (σ42 : ySt) =>
                        chkI (x35 + 1) <|
                        k37 x32 x33 x34 (x35 + 1) σ42) fun j43 =>
                      if ¬ (b32and (b32shr x33 x35) 1) = 0 then
                        chkI (6 * x34) <|
                        chkI ((6 * x34) + x35) <|
                        chkA 36 ((6 * x34) + x35) <|
                        chkA 64 (b32xor (b32xor x33 (b32shl 1 x34)) (b32shl 1 x35)) <|
                        chkI ((σ36 124 (((6 * x34) + x35)).toNat) + (σ36 140 ((b32xor (b32xor x33 (b32shl 1 x34)) (b32shl 1 x35))).toNat)) <|
                        chkA 64 x33 <|
                        if ((σ36 124 (((6 * x34) + x35)).toNat) + (σ36 140 ((b32xor (b32xor x33 (b32shl 1 x34)) (b32shl 1 x35))).toNat)) ≥ (σ36 140 (x33).toNat) then
                          j43 σ36
                        else
                          chkA 64 x33 <|
                          bnd (yset σ36 140 (x33).toNat ((σ36 124 (((6 * x34) + x35)).toNat) + (σ36 140 ((b32xor (b32xor x33 (b32shl 1 x34)) (b32shl 1 x35))).toNat))) fun σ54 =>
                          j43 σ54
                      else
                        j43 σ36) N x26 x27 x28 (x28 + 1) σ24) fun j30 =>
              if x27 ≤ 0 then
                j30
              else
                if ¬ (b32and (b32shr x27 x28) 1) = 0 then
                  j30
                else
                  chkI (x28 + 1) <|
                  k29 x26 x27 (x28 + 1)) N x13 x14 0) fun j22 =>
          if ¬ x14 = 0 then
            j22 1000000
          else
            j22 0) N x7 0 σ6
    else
      chkA 6 x8 <|
      chk ((2 : Int) ≠ 0) <|
      chkI (((σ6 127 (x8).toNat) : Int).tmod 2) <|
      chkI (x8 + 1) <|
      k9 (b32or x7 (b32shl (((σ6 127 (x8).toNat) : Int).tmod 2) x8)) (x8 + 1)) N 0 0
set_option maxHeartbeats 4000000 in
set_option maxRecDepth 10000 in
theorem sh_mo_mend {E : yE} {N : Nat} {σ : ySt} {ρ : Int} {τ : ySt} (h : mo_mend N σ = some (ρ, τ)) : Con E MX12_mend 3 0 0 [.inr (.inr (92 + 1))] 150 (ov σ) (some (.inl ρ)) (ov τ) := by
  unfold mo_mend at h
  refine Con.ofY (by decide +kernel) (by simp [yWords, yCat]) (fun hok _ => ?_)
  show Y E MX12_mend (yRm 3 0 0) (yQf E (150 + 0) 0 0 (some (.inl ρ)) (ov τ)) 0 [(0, .inr (.inr (92 + 1)))] [] (ov σ) 150 0 0
  refine y_aload_n (show decode cX12_mend 0 = .ok (.aload_n 0, 1) by decide +kernel) 0 rfl ?_
  obtain ⟨σ2, e1, h⟩ := bndO_some h
  refine y_callV (np := 0) (st := []) (as := []) 92 12 (sh_mo_plain e1) q8_22 q8_19 q8_21 qs6_7 q1_15 (by decide) rfl (by decide) rfl (by decide) (by decide +kernel) (by decide) rfl (Nat.le_of_ble_eq_true rfl) (show decode cX12_mend 1 = .ok (.invokevirtual 451, 3) by decide +kernel) rfl ?_
  refine y_aload_n (show decode cX12_mend 4 = .ok (.aload_n 0, 1) by decide +kernel) 0 rfl ?_
  obtain ⟨σ4, e3, h⟩ := bndO_some h
  refine y_callV (np := 0) (st := []) (as := []) 92 12 (sh_mo_layTown e3) q8_26 q8_23 q8_25 qs6_8 q1_15 (by decide) rfl (by decide) rfl (by decide) (by decide +kernel) (by decide) rfl (Nat.le_of_ble_eq_true rfl) (show decode cX12_mend 5 = .ok (.invokevirtual 454, 3) by decide +kernel) rfl ?_
  refine y_aload_n (show decode cX12_mend 8 = .ok (.aload_n 0, 1) by decide +kernel) 0 rfl ?_
  obtain ⟨σ6, e5, h⟩ := bndO_some h
  refine y_callV (np := 0) (st := []) (as := []) 92 12 (sh_mo_layStands e5) q8_205 q8_202 q8_204 qs8_3 q1_15 (by decide) rfl (by decide) rfl (by decide) (by decide +kernel) (by decide) rfl (Nat.le_of_ble_eq_true rfl) (show decode cX12_mend 9 = .ok (.invokevirtual 558, 3) by decide +kernel) rfl ?_
  refine y_iconst (show decode cX12_mend 12 = .ok (.iconst 0, 1) by decide +kernel) rfl ?_
  refine y_istore_n (show decode cX12_mend 13 = .ok (.istore_n 1, 1) by decide +kernel) rfl (L1 := [(1, .inl 0), (0, .inr (.inr (92 + 1)))]) rfl ?_
  refine y_iconst (show decode cX12_mend 14 = .ok (.iconst 0, 1) by decide +kernel) rfl ?_
  refine y_istore_n (show decode cX12_mend 15 = .ok (.istore_n 2, 1) by decide +kernel) rfl (L1 := [(2, .inl 0), (1, .inl 0), (0, .inr (.inr (92 + 1)))]) rfl ?_
  refine y_pick [2, 1, 0] rfl ?_
  refine loop2_ind (P := fun x7 x8 => Y E MX12_mend (yRm 3 0 0) (yQf E (150 + 0) 0 0 (some (.inl ρ)) (ov τ)) 16 [(0, .inr (.inr (92 + 1))), (1, .inl x7), (2, .inl x8)] [] (ov σ6) 150 0 0) (fun k9 hk9 x7 x8 h => ?_) _ _ _  h
  refine y_iload_n (show decode cX12_mend 16 = .ok (.iload_n 2, 1) by decide +kernel) 2 rfl ?_
  refine y_aload_n (show decode cX12_mend 17 = .ok (.aload_n 0, 1) by decide +kernel) 0 rfl ?_
  obtain ⟨r11, e10, h⟩ := bndO_some h
  refine y_callV (np := 0) (st := [.inl x8]) (as := []) 92 12 (sh_mo_placeMany e10) q8_15 q8_12 q8_14 qs6_6 q1_15 (by decide) rfl (by decide) rfl (by decide) (by decide +kernel) (by decide) rfl (Nat.le_of_ble_eq_true rfl) (show decode cX12_mend 18 = .ok (.invokevirtual 411, 3) by decide +kernel) rfl ?_
  by_cases c12 : x8 ≥ r11
  · rw [if_pos c12] at h
    refine y_icmp_ge_t (tgt := 43) (show decode cX12_mend 21 = .ok (.if_icmp .ge 22, 3) by decide +kernel) rfl c12 ?_
    refine y_iconst (show decode cX12_mend 43 = .ok (.iconst 0, 1) by decide +kernel) rfl ?_
    refine y_istore_n (show decode cX12_mend 44 = .ok (.istore_n 2, 1) by decide +kernel) rfl (L1 := [(2, .inl 0), (0, .inr (.inr (92 + 1))), (1, .inl x7)]) rfl ?_
    refine y_pick [1, 2, 0] rfl ?_
    refine loopS2_ind (P := fun x13 x14 σ15 => Y E MX12_mend (yRm 3 0 0) (yQf E (150 + 0) 0 0 (some (.inl ρ)) (ov τ)) 45 [(0, .inr (.inr (92 + 1))), (1, .inl x13), (2, .inl x14)] [] (ov σ15) 150 0 0) (fun k16 hk16 x13 x14 σ15 h => ?_) _ _ _ _  h
    refine y_iload_n (show decode cX12_mend 45 = .ok (.iload_n 2, 1) by decide +kernel) 2 rfl ?_
    refine y_iload_n (show decode cX12_mend 46 = .ok (.iload_n 1, 1) by decide +kernel) 1 rfl ?_
    by_cases c17 : x14 > x13
    · rw [if_pos c17] at h
      refine y_icmp_gt_t (tgt := 176) (show decode cX12_mend 47 = .ok (.if_icmp .gt 129, 3) by decide +kernel) rfl c17 ?_
      refine y_aload_n (show decode cX12_mend 176 = .ok (.aload_n 0, 1) by decide +kernel) 0 rfl ?_
      refine y_getf 92 12 75 159 (by decide) rfl (by decide) (by decide) q6_122 (show decode cX12_mend 177 = .ok (.getfield 159, 3) by decide +kernel) (v := .inr (.inr (140 + 1))) rfl ?_
      refine y_iload_n (show decode cX12_mend 180 = .ok (.iload_n 1, 1) by decide +kernel) 1 rfl ?_
      obtain ⟨c18, h⟩ := chkA_some h
      refine yo_iald 140 64 (by decide) rfl c18 (ov_at rfl) (show decode cX12_mend 181 = .ok (.iaload, 1) by decide +kernel) ?_
      refine y_ldcw (k := 1000000) (show decode cX12_mend 182 = .ok (.ldc_w 307, 3) by decide +kernel) q6_34 rfl rfl ?_
      by_cases c19 : (σ15 140 (x13).toNat) ≥ 1000000
      · rw [if_pos c19] at h
        refine y_icmp_ge_t (tgt := 197) (show decode cX12_mend 185 = .ok (.if_icmp .ge 12, 3) by decide +kernel) rfl c19 ?_
        refine y_iconst (show decode cX12_mend 197 = .ok (.iconst (-1), 1) by decide +kernel) rfl ?_
        cases h
        exact y_iret (show decode cX12_mend 198 = .ok (.ireturn, 1) by decide +kernel) rfl
      · rw [if_neg c19] at h
        refine y_icmp_ge_f (show decode cX12_mend 185 = .ok (.if_icmp .ge 12, 3) by decide +kernel) c19 (by decide) ?_
        refine y_aload_n (show decode cX12_mend 188 = .ok (.aload_n 0, 1) by decide +kernel) 0 rfl ?_
        refine y_getf 92 12 75 159 (by decide) rfl (by decide) (by decide) q6_122 (show decode cX12_mend 189 = .ok (.getfield 159, 3) by decide +kernel) (v := .inr (.inr (140 + 1))) rfl ?_
        refine y_iload_n (show decode cX12_mend 192 = .ok (.iload_n 1, 1) by decide +kernel) 1 rfl ?_
        obtain ⟨c20, h⟩ := chkA_some h
        refine yo_iald 140 64 (by decide) rfl c20 (ov_at rfl) (show decode cX12_mend 193 = .ok (.iaload, 1) by decide +kernel) ?_
        refine y_goto (tgt := 198) (show decode cX12_mend 194 = .ok (.goto 4, 3) by decide +kernel) rfl ?_
        cases h
        exact y_iret (show decode cX12_mend 198 = .ok (.ireturn, 1) by decide +kernel) rfl
    · rw [if_neg c17] at h
      refine y_icmp_gt_f (show decode cX12_mend 47 = .ok (.if_icmp .gt 129, 3) by decide +kernel) c17 (by decide) ?_
      refine y_aload_n (show decode cX12_mend 50 = .ok (.aload_n 0, 1) by decide +kernel) 0 rfl ?_
      refine y_getf 92 12 75 159 (by decide) rfl (by decide) (by decide) q6_122 (show decode cX12_mend 51 = .ok (.getfield 159, 3) by decide +kernel) (v := .inr (.inr (140 + 1))) rfl ?_
      refine y_iload_n (show decode cX12_mend 54 = .ok (.iload_n 2, 1) by decide +kernel) 2 rfl ?_
      refine y_iload_n (show decode cX12_mend 55 = .ok (.iload_n 2, 1) by decide +kernel) 2 rfl ?_
      refine bnd_j (Q := fun j22 => ∀ (y21 : Int), j22 y21 = some (ρ, τ) → Y E MX12_mend (yRm 3 0 0) (yQf E (150 + 0) 0 0 (some (.inl ρ)) (ov τ)) 66 [(0, .inr (.inr (92 + 1))), (1, .inl x13), (2, .inl x14)] [.inl y21, .inl x14, .inr (.inr (140 + 1))] (ov σ15) 150 0 0) (fun y21 h => ?_) (fun j22 hj22 h => ?_) h
      · dsimp only at h
        obtain ⟨c23, h⟩ := chkA_some h
        obtain ⟨σ24, e25, h⟩ := bnd_i h
        refine yo_iast 140 64 (by decide) rfl c23 (ov_set1 e25 rfl) (show decode cX12_mend 66 = .ok (.iastore, 1) by decide +kernel) ?_
        refine y_iconst (show decode cX12_mend 67 = .ok (.iconst 0, 1) by decide +kernel) rfl ?_
        refine y_istore_n (show decode cX12_mend 68 = .ok (.istore_n 3, 1) by decide +kernel) rfl (L1 := [(3, .inl 0), (0, .inr (.inr (92 + 1))), (1, .inl x13), (2, .inl x14)]) rfl ?_
        refine y_pick [1, 2, 3, 0] rfl ?_
        refine loop3_ind (P := fun x26 x27 x28 => Y E MX12_mend (yRm 3 0 0) (yQf E (150 + 0) 0 0 (some (.inl ρ)) (ov τ)) 69 [(0, .inr (.inr (92 + 1))), (1, .inl x26), (2, .inl x27), (3, .inl x28)] [] (ov σ24) 150 0 0) (fun k29 hk29 x26 x27 x28 h => ?_) _ _ _ _  h
        refine y_iload_n (show decode cX12_mend 69 = .ok (.iload_n 2, 1) by decide +kernel) 2 rfl ?_
        refine bnd_j (Q := fun j30 => j30 = some (ρ, τ) → Y E MX12_mend (yRm 3 0 0) (yQf E (150 + 0) 0 0 (some (.inl ρ)) (ov τ)) 87 [(0, .inr (.inr (92 + 1))), (1, .inl x26), (2, .inl x27), (3, .inl x28)] [] (ov σ24) 150 0 0) (fun h => ?_) (fun j30 hj30 h => ?_) h
        · refine y_iload_n (show decode cX12_mend 87 = .ok (.iload_n 3, 1) by decide +kernel) 3 rfl ?_
          refine y_iconst (show decode cX12_mend 88 = .ok (.iconst 1, 1) by decide +kernel) rfl ?_
          obtain ⟨c31, h⟩ := chkI_some h
          refine y_iadd (show decode cX12_mend 89 = .ok (.iadd, 1) by decide +kernel) c31 ?_
          refine y_istore (show decode cX12_mend 90 = .ok (.istore 4, 2) by decide +kernel) rfl (L1 := [(4, .inl (x28 + 1)), (0, .inr (.inr (92 + 1))), (1, .inl x26), (2, .inl x27), (3, .inl x28)]) rfl ?_
          refine y_pick [1, 2, 3, 4, 0] rfl ?_
          refine loopS4_ind (P := fun x32 x33 x34 x35 σ36 => Y E MX12_mend (yRm 3 0 0) (yQf E (150 + 0) 0 0 (some (.inl ρ)) (ov τ)) 92 [(0, .inr (.inr (92 + 1))), (1, .inl x32), (2, .inl x33), (3, .inl x34), (4, .inl x35)] [] (ov σ36) 150 0 0) (fun k37 hk37 x32 x33 x34 x35 σ36 h => ?_) _ _ _ _ _ _  h
          refine y_iload (show decode cX12_mend 92 = .ok (.iload 4, 2) by decide +kernel) 4 rfl ?_
          refine y_bipush (show decode cX12_mend 94 = .ok (.bipush 6, 2) by decide +kernel) rfl rfl ?_
          refine bnd_j (Q := fun j38 => j38 = some (ρ, τ) → Y E MX12_mend (yRm 3 0 0) (yQf E (150 + 0) 0 0 (some (.inl ρ)) (ov τ)) 170 [(0, .inr (.inr (92 + 1))), (1, .inl x32), (2, .inl x33)] [] (ov σ36) 150 0 0) (fun h => ?_) (fun j38 hj38 h => ?_) h
          · obtain ⟨c39, h⟩ := chkI_some h
            refine y_iinc (show decode cX12_mend 170 = .ok (.iinc 2 1, 3) by decide +kernel) 2 rfl c39 rfl (L1 := [(2, .inl (x33 + 1)), (0, .inr (.inr (92 + 1))), (1, .inl x32)]) rfl ?_
            refine y_goto (tgt := 45) (show decode cX12_mend 173 = .ok (.goto (-128), 3) by decide +kernel) rfl ?_
            refine y_pick [1, 2, 0] rfl ?_
            exact hk16 _ _ _ h
          by_cases c40 : x35 ≥ 6
          · rw [if_pos c40] at h
            refine y_icmp_ge_t (tgt := 170) (show decode cX12_mend 96 = .ok (.if_icmp .ge 74, 3) by decide +kernel) rfl c40 ?_
            refine y_pick [0, 1, 2] rfl ?_
            exact hj38 h
          · rw [if_neg c40] at h
            refine y_icmp_ge_f (show decode cX12_mend 96 = .ok (.if_icmp .ge 74, 3) by decide +kernel) c40 (by decide) ?_
            refine y_iload_n (show decode cX12_mend 99 = .ok (.iload_n 2, 1) by decide +kernel) 2 rfl ?_
            by_cases c41 : x33 ≤ 0
            · rw [if_pos c41] at h
              refine y_if_le_t (tgt := 170) (show decode cX12_mend 100 = .ok (.ifCond .le 70, 3) by decide +kernel) rfl c41 ?_
              refine y_pick [0, 1, 2] rfl ?_
              exact hj38 h
            · rw [if_neg c41] at h
              refine y_if_le_f (show decode cX12_mend 100 = .ok (.ifCond .le 70, 3) by decide +kernel) c41 (by decide) ?_
              refine y_iload_n (show decode cX12_mend 103 = .ok (.iload_n 2, 1) by decide +kernel) 2 rfl ?_
              refine y_iload (show decode cX12_mend 104 = .ok (.iload 4, 2) by decide +kernel) 4 rfl ?_
              refine y_ishr (show decode cX12_mend 106 = .ok (.ishr, 1) by decide +kernel) ?_
              refine y_iconst (show decode cX12_mend 107 = .ok (.iconst 1, 1) by decide +kernel) rfl ?_
              refine y_iand (show decode cX12_mend 108 = .ok (.iand, 1) by decide +kernel) ?_
              refine bnd_j (Q := fun j43 => ∀ (σ42 : ySt), j43 σ42 = some (ρ, τ) → Y E MX12_mend (yRm 3 0 0) (yQf E (150 + 0) 0 0 (some (.inl ρ)) (ov τ)) 164 [(0, .inr (.inr (92 + 1))), (1, .inl x32), (2, .inl x33), (3, .inl x34), (4, .inl x35)] [] (ov σ42) 150 0 0) (fun σ42 h => ?_) (fun j43 hj43 h => ?_) h
              · dsimp only at h
                obtain ⟨c44, h⟩ := chkI_some h
                refine y_iinc (show decode cX12_mend 164 = .ok (.iinc 4 1, 3) by decide +kernel) 4 rfl c44 rfl (L1 := [(4, .inl (x35 + 1)), (0, .inr (.inr (92 + 1))), (1, .inl x32), (2, .inl x33), (3, .inl x34)]) rfl ?_
                refine y_goto (tgt := 92) (show decode cX12_mend 167 = .ok (.goto (-75), 3) by decide +kernel) rfl ?_
                refine y_pick [1, 2, 3, 4, 0] rfl ?_
                exact hk37 _ _ _ _ _ h
              by_cases c45 : ¬ (b32and (b32shr x33 x35) 1) = 0
              · rw [if_pos c45] at h
                refine y_if_ne_t (tgt := 115) (show decode cX12_mend 109 = .ok (.ifCond .ne 6, 3) by decide +kernel) rfl c45 ?_
                refine y_aload_n (show decode cX12_mend 115 = .ok (.aload_n 0, 1) by decide +kernel) 0 rfl ?_
                refine y_getf 92 12 45 110 (by decide) rfl (by decide) (by decide) q6_92 (show decode cX12_mend 116 = .ok (.getfield 110, 3) by decide +kernel) (v := .inr (.inr (124 + 1))) rfl ?_
                refine y_bipush (show decode cX12_mend 119 = .ok (.bipush 6, 2) by decide +kernel) rfl rfl ?_
                refine y_iload_n (show decode cX12_mend 121 = .ok (.iload_n 3, 1) by decide +kernel) 3 rfl ?_
                obtain ⟨c46, h⟩ := chkI_some h
                refine y_imul (show decode cX12_mend 122 = .ok (.imul, 1) by decide +kernel) c46 ?_
                refine y_iload (show decode cX12_mend 123 = .ok (.iload 4, 2) by decide +kernel) 4 rfl ?_
                obtain ⟨c47, h⟩ := chkI_some h
                refine y_iadd (show decode cX12_mend 125 = .ok (.iadd, 1) by decide +kernel) c47 ?_
                obtain ⟨c48, h⟩ := chkA_some h
                refine yo_iald 124 36 (by decide) rfl c48 (ov_at rfl) (show decode cX12_mend 126 = .ok (.iaload, 1) by decide +kernel) ?_
                refine y_aload_n (show decode cX12_mend 127 = .ok (.aload_n 0, 1) by decide +kernel) 0 rfl ?_
                refine y_getf 92 12 75 159 (by decide) rfl (by decide) (by decide) q6_122 (show decode cX12_mend 128 = .ok (.getfield 159, 3) by decide +kernel) (v := .inr (.inr (140 + 1))) rfl ?_
                refine y_iload_n (show decode cX12_mend 131 = .ok (.iload_n 2, 1) by decide +kernel) 2 rfl ?_
                refine y_iconst (show decode cX12_mend 132 = .ok (.iconst 1, 1) by decide +kernel) rfl ?_
                refine y_iload_n (show decode cX12_mend 133 = .ok (.iload_n 3, 1) by decide +kernel) 3 rfl ?_
                refine y_ishl (show decode cX12_mend 134 = .ok (.ishl, 1) by decide +kernel) ?_
                refine y_ixor (show decode cX12_mend 135 = .ok (.ixor, 1) by decide +kernel) ?_
                refine y_iconst (show decode cX12_mend 136 = .ok (.iconst 1, 1) by decide +kernel) rfl ?_
                refine y_iload (show decode cX12_mend 137 = .ok (.iload 4, 2) by decide +kernel) 4 rfl ?_
                refine y_ishl (show decode cX12_mend 139 = .ok (.ishl, 1) by decide +kernel) ?_
                refine y_ixor (show decode cX12_mend 140 = .ok (.ixor, 1) by decide +kernel) ?_
                obtain ⟨c49, h⟩ := chkA_some h
                refine yo_iald 140 64 (by decide) rfl c49 (ov_at rfl) (show decode cX12_mend 141 = .ok (.iaload, 1) by decide +kernel) ?_
                obtain ⟨c50, h⟩ := chkI_some h
                refine y_iadd (show decode cX12_mend 142 = .ok (.iadd, 1) by decide +kernel) c50 ?_
                refine y_istore (show decode cX12_mend 143 = .ok (.istore 5, 2) by decide +kernel) rfl (L1 := [(5, .inl ((σ36 124 (((6 * x34) + x35)).toNat) + (σ36 140 ((b32xor (b32xor x33 (b32shl 1 x34)) (b32shl 1 x35))).toNat))), (0, .inr (.inr (92 + 1))), (1, .inl x32), (2, .inl x33), (3, .inl x34), (4, .inl x35)]) rfl ?_
                refine y_iload (show decode cX12_mend 145 = .ok (.iload 5, 2) by decide +kernel) 0 rfl ?_
                refine y_aload_n (show decode cX12_mend 147 = .ok (.aload_n 0, 1) by decide +kernel) 1 rfl ?_
                refine y_getf 92 12 75 159 (by decide) rfl (by decide) (by decide) q6_122 (show decode cX12_mend 148 = .ok (.getfield 159, 3) by decide +kernel) (v := .inr (.inr (140 + 1))) rfl ?_
                refine y_iload_n (show decode cX12_mend 151 = .ok (.iload_n 2, 1) by decide +kernel) 3 rfl ?_
                obtain ⟨c51, h⟩ := chkA_some h
                refine yo_iald 140 64 (by decide) rfl c51 (ov_at rfl) (show decode cX12_mend 152 = .ok (.iaload, 1) by decide +kernel) ?_
                by_cases c52 : ((σ36 124 (((6 * x34) + x35)).toNat) + (σ36 140 ((b32xor (b32xor x33 (b32shl 1 x34)) (b32shl 1 x35))).toNat)) ≥ (σ36 140 (x33).toNat)
                · rw [if_pos c52] at h
                  refine y_icmp_ge_t (tgt := 164) (show decode cX12_mend 153 = .ok (.if_icmp .ge 11, 3) by decide +kernel) rfl c52 ?_
                  refine y_pick [1, 2, 3, 4, 5] rfl ?_
                  exact hj43 _ h
                · rw [if_neg c52] at h
                  refine y_icmp_ge_f (show decode cX12_mend 153 = .ok (.if_icmp .ge 11, 3) by decide +kernel) c52 (by decide) ?_
                  refine y_aload_n (show decode cX12_mend 156 = .ok (.aload_n 0, 1) by decide +kernel) 1 rfl ?_
                  refine y_getf 92 12 75 159 (by decide) rfl (by decide) (by decide) q6_122 (show decode cX12_mend 157 = .ok (.getfield 159, 3) by decide +kernel) (v := .inr (.inr (140 + 1))) rfl ?_
                  refine y_iload_n (show decode cX12_mend 160 = .ok (.iload_n 2, 1) by decide +kernel) 3 rfl ?_
                  refine y_iload (show decode cX12_mend 161 = .ok (.iload 5, 2) by decide +kernel) 0 rfl ?_
                  obtain ⟨c53, h⟩ := chkA_some h
                  obtain ⟨σ54, e55, h⟩ := bnd_i h
                  refine yo_iast 140 64 (by decide) rfl c53 (ov_set1 e55 rfl) (show decode cX12_mend 163 = .ok (.iastore, 1) by decide +kernel) ?_
                  refine y_pick [1, 2, 3, 4, 5] rfl ?_
                  exact hj43 _ h
              · rw [if_neg c45] at h
                refine y_if_ne_f (show decode cX12_mend 109 = .ok (.ifCond .ne 6, 3) by decide +kernel) c45 (by decide) ?_
                refine y_goto (tgt := 164) (show decode cX12_mend 112 = .ok (.goto 52, 3) by decide +kernel) rfl ?_
                refine y_pick [0, 1, 2, 3, 4] rfl ?_
                exact hj43 _ h
        by_cases c56 : x27 ≤ 0
        · rw [if_pos c56] at h
          refine y_if_le_t (tgt := 87) (show decode cX12_mend 70 = .ok (.ifCond .le 17, 3) by decide +kernel) rfl c56 ?_
          refine y_pick [0, 1, 2, 3] rfl ?_
          exact hj30 h
        · rw [if_neg c56] at h
          refine y_if_le_f (show decode cX12_mend 70 = .ok (.ifCond .le 17, 3) by decide +kernel) c56 (by decide) ?_
          refine y_iload_n (show decode cX12_mend 73 = .ok (.iload_n 2, 1) by decide +kernel) 2 rfl ?_
          refine y_iload_n (show decode cX12_mend 74 = .ok (.iload_n 3, 1) by decide +kernel) 3 rfl ?_
          refine y_ishr (show decode cX12_mend 75 = .ok (.ishr, 1) by decide +kernel) ?_
          refine y_iconst (show decode cX12_mend 76 = .ok (.iconst 1, 1) by decide +kernel) rfl ?_
          refine y_iand (show decode cX12_mend 77 = .ok (.iand, 1) by decide +kernel) ?_
          by_cases c57 : ¬ (b32and (b32shr x27 x28) 1) = 0
          · rw [if_pos c57] at h
            refine y_if_ne_t (tgt := 87) (show decode cX12_mend 78 = .ok (.ifCond .ne 9, 3) by decide +kernel) rfl c57 ?_
            refine y_pick [0, 1, 2, 3] rfl ?_
            exact hj30 h
          · rw [if_neg c57] at h
            refine y_if_ne_f (show decode cX12_mend 78 = .ok (.ifCond .ne 9, 3) by decide +kernel) c57 (by decide) ?_
            obtain ⟨c58, h⟩ := chkI_some h
            refine y_iinc (show decode cX12_mend 81 = .ok (.iinc 3 1, 3) by decide +kernel) 3 rfl c58 rfl (L1 := [(3, .inl (x28 + 1)), (0, .inr (.inr (92 + 1))), (1, .inl x26), (2, .inl x27)]) rfl ?_
            refine y_goto (tgt := 69) (show decode cX12_mend 84 = .ok (.goto (-15), 3) by decide +kernel) rfl ?_
            refine y_pick [1, 2, 3, 0] rfl ?_
            exact hk29 _ _ _ h
      by_cases c59 : ¬ x14 = 0
      · rw [if_pos c59] at h
        refine y_if_ne_t (tgt := 63) (show decode cX12_mend 56 = .ok (.ifCond .ne 7, 3) by decide +kernel) rfl c59 ?_
        refine y_ldcw (k := 1000000) (show decode cX12_mend 63 = .ok (.ldc_w 307, 3) by decide +kernel) q6_34 rfl rfl ?_
        refine y_pick [0, 1, 2] rfl ?_
        exact hj22 _ h
      · rw [if_neg c59] at h
        refine y_if_ne_f (show decode cX12_mend 56 = .ok (.ifCond .ne 7, 3) by decide +kernel) c59 (by decide) ?_
        refine y_iconst (show decode cX12_mend 59 = .ok (.iconst 0, 1) by decide +kernel) rfl ?_
        refine y_goto (tgt := 66) (show decode cX12_mend 60 = .ok (.goto 6, 3) by decide +kernel) rfl ?_
        refine y_pick [0, 1, 2] rfl ?_
        exact hj22 _ h
  · rw [if_neg c12] at h
    refine y_icmp_ge_f (show decode cX12_mend 21 = .ok (.if_icmp .ge 22, 3) by decide +kernel) c12 (by decide) ?_
    refine y_iload_n (show decode cX12_mend 24 = .ok (.iload_n 1, 1) by decide +kernel) 1 rfl ?_
    refine y_aload_n (show decode cX12_mend 25 = .ok (.aload_n 0, 1) by decide +kernel) 0 rfl ?_
    refine y_getf 92 12 57 119 (by decide) rfl (by decide) (by decide) q6_104 (show decode cX12_mend 26 = .ok (.getfield 119, 3) by decide +kernel) (v := .inr (.inr (127 + 1))) rfl ?_
    refine y_iload_n (show decode cX12_mend 29 = .ok (.iload_n 2, 1) by decide +kernel) 2 rfl ?_
    obtain ⟨c60, h⟩ := chkA_some h
    refine yo_iald 127 6 (by decide) rfl c60 (ov_at rfl) (show decode cX12_mend 30 = .ok (.iaload, 1) by decide +kernel) ?_
    refine y_iconst (show decode cX12_mend 31 = .ok (.iconst 2, 1) by decide +kernel) rfl ?_
    obtain ⟨c61, h⟩ := chk_some h
    obtain ⟨c62, h⟩ := chkI_some h
    refine y_irem (show decode cX12_mend 32 = .ok (.irem, 1) by decide +kernel) c61 c62 ?_
    refine y_iload_n (show decode cX12_mend 33 = .ok (.iload_n 2, 1) by decide +kernel) 2 rfl ?_
    refine y_ishl (show decode cX12_mend 34 = .ok (.ishl, 1) by decide +kernel) ?_
    refine y_ior (show decode cX12_mend 35 = .ok (.ior, 1) by decide +kernel) ?_
    refine y_istore_n (show decode cX12_mend 36 = .ok (.istore_n 1, 1) by decide +kernel) rfl (L1 := [(1, .inl (b32or x7 (b32shl (((σ6 127 (x8).toNat) : Int).tmod 2) x8))), (0, .inr (.inr (92 + 1))), (2, .inl x8)]) rfl ?_
    obtain ⟨c63, h⟩ := chkI_some h
    refine y_iinc (show decode cX12_mend 37 = .ok (.iinc 2 1, 3) by decide +kernel) 2 rfl c63 rfl (L1 := [(2, .inl (x8 + 1)), (1, .inl (b32or x7 (b32shl (((σ6 127 (x8).toNat) : Int).tmod 2) x8))), (0, .inr (.inr (92 + 1)))]) rfl ?_
    refine y_goto (tgt := 16) (show decode cX12_mend 40 = .ok (.goto (-24), 3) by decide +kernel) rfl ?_
    refine y_pick [2, 1, 0] rfl ?_
    exact hk9 _ _ h
abbrev MX12_count : yM := (yX12_count, cX12_count, 4, some .int)
def mo_count (a : Int) (b : Int) (c : Int) (σ : ySt) : Option (Int × ySt) :=
  bndO (mo_isIn a 1 8 σ) fun r2 =>
  if r2 = 0 then
    some ((-1), σ)
  else
    bndO (mo_isPlace b σ) fun r5 =>
    if r5 = 0 then
      some ((-1), σ)
    else
      bndO (mo_isIn c 0 5 σ) fun r8 =>
      if r8 = 0 then
        some ((-1), σ)
      else
        if ¬ (σ 92 81) = 40 then
          chkA 40 (σ 92 81) <|
          bnd (yset σ 141 ((σ 92 81)).toNat a) fun σ12 =>
          chkA 40 (σ12 92 81) <|
          bnd (yset σ12 142 ((σ12 92 81)).toNat b) fun σ15 =>
          chkA 40 (σ15 92 81) <|
          bnd (yset σ15 143 ((σ15 92 81)).toNat c) fun σ18 =>
          chkA 40 (σ18 92 81) <|
          bnd (yset σ18 144 ((σ18 92 81)).toNat (σ18 92 82)) fun σ21 =>
          chkA 40 (σ21 92 81) <|
          bnd (yset σ21 145 ((σ21 92 81)).toNat (-1)) fun σ24 =>
          chkI ((σ24 92 81) + 1) <|
          bnd (yset σ24 92 81 ((σ24 92 81) + 1)) fun σ27 =>
          chkI ((σ27 92 81) - 1) <|
          some (((σ27 92 81) - 1), σ27)
        else
          some ((-1), σ)
set_option maxHeartbeats 4000000 in
set_option maxRecDepth 10000 in
theorem sh_mo_count {E : yE} {a : Int} {b : Int} {c : Int} {σ : ySt} {ρ : Int} {τ : ySt} (h : mo_count a b c σ = some (ρ, τ)) : Con E MX12_count 2 0 0 [.inr (.inr (92 + 1)), .inl a, .inl b, .inl c] 150 (ov σ) (some (.inl ρ)) (ov τ) := by
  unfold mo_count at h
  refine Con.ofY (by decide +kernel) (by simp [yWords, yCat]) (fun hok _ => ?_)
  show Y E MX12_count (yRm 2 0 0) (yQf E (150 + 0) 0 0 (some (.inl ρ)) (ov τ)) 0 [(0, .inr (.inr (92 + 1))), (1, .inl a), (2, .inl b), (3, .inl c)] [] (ov σ) 150 0 0
  refine y_iload_n (show decode cX12_count 0 = .ok (.iload_n 1, 1) by decide +kernel) 1 rfl ?_
  refine y_iconst (show decode cX12_count 1 = .ok (.iconst 1, 1) by decide +kernel) rfl ?_
  refine y_bipush (show decode cX12_count 2 = .ok (.bipush 8, 2) by decide +kernel) rfl rfl ?_
  obtain ⟨r2, e1, h⟩ := bndO_some h
  refine y_callS (np := 3) (st := []) (as := [.inl a, .inl 1, .inl 8]) (sh_mo_isIn e1) q8_18 q8_16 q8_17 q1_15 (by decide) (by decide +kernel) (by decide) rfl (Nat.le_of_ble_eq_true rfl) (show decode cX12_count 4 = .ok (.invokestatic 414, 3) by decide +kernel) rfl ?_
  by_cases c3 : r2 = 0
  · rw [if_pos c3] at h
    refine y_if_eq_t (tgt := 36) (show decode cX12_count 7 = .ok (.ifCond .eq 29, 3) by decide +kernel) rfl c3 ?_
    refine y_iconst (show decode cX12_count 36 = .ok (.iconst (-1), 1) by decide +kernel) rfl ?_
    cases h
    exact y_iret (show decode cX12_count 37 = .ok (.ireturn, 1) by decide +kernel) rfl
  · rw [if_neg c3] at h
    refine y_if_eq_f (show decode cX12_count 7 = .ok (.ifCond .eq 29, 3) by decide +kernel) c3 (by decide) ?_
    refine y_aload_n (show decode cX12_count 10 = .ok (.aload_n 0, 1) by decide +kernel) 0 rfl ?_
    refine y_iload_n (show decode cX12_count 11 = .ok (.iload_n 2, 1) by decide +kernel) 2 rfl ?_
    obtain ⟨r5, e4, h⟩ := bndO_some h
    refine y_callV (np := 1) (st := []) (as := [.inl b]) 92 12 (sh_mo_isPlace e4) q8_11 q8_8 q8_10 qs6_5 q1_15 (by decide) rfl (by decide) rfl (by decide) (by decide +kernel) (by decide) rfl (Nat.le_of_ble_eq_true rfl) (show decode cX12_count 12 = .ok (.invokevirtual 448, 3) by decide +kernel) rfl ?_
    by_cases c6 : r5 = 0
    · rw [if_pos c6] at h
      refine y_if_eq_t (tgt := 36) (show decode cX12_count 15 = .ok (.ifCond .eq 21, 3) by decide +kernel) rfl c6 ?_
      refine y_iconst (show decode cX12_count 36 = .ok (.iconst (-1), 1) by decide +kernel) rfl ?_
      cases h
      exact y_iret (show decode cX12_count 37 = .ok (.ireturn, 1) by decide +kernel) rfl
    · rw [if_neg c6] at h
      refine y_if_eq_f (show decode cX12_count 15 = .ok (.ifCond .eq 21, 3) by decide +kernel) c6 (by decide) ?_
      refine y_iload_n (show decode cX12_count 18 = .ok (.iload_n 3, 1) by decide +kernel) 3 rfl ?_
      refine y_iconst (show decode cX12_count 19 = .ok (.iconst 0, 1) by decide +kernel) rfl ?_
      refine y_iconst (show decode cX12_count 20 = .ok (.iconst 5, 1) by decide +kernel) rfl ?_
      obtain ⟨r8, e7, h⟩ := bndO_some h
      refine y_callS (np := 3) (st := []) (as := [.inl c, .inl 0, .inl 5]) (sh_mo_isIn e7) q8_18 q8_16 q8_17 q1_15 (by decide) (by decide +kernel) (by decide) rfl (Nat.le_of_ble_eq_true rfl) (show decode cX12_count 21 = .ok (.invokestatic 414, 3) by decide +kernel) rfl ?_
      by_cases c9 : r8 = 0
      · rw [if_pos c9] at h
        refine y_if_eq_t (tgt := 36) (show decode cX12_count 24 = .ok (.ifCond .eq 12, 3) by decide +kernel) rfl c9 ?_
        refine y_iconst (show decode cX12_count 36 = .ok (.iconst (-1), 1) by decide +kernel) rfl ?_
        cases h
        exact y_iret (show decode cX12_count 37 = .ok (.ireturn, 1) by decide +kernel) rfl
      · rw [if_neg c9] at h
        refine y_if_eq_f (show decode cX12_count 24 = .ok (.ifCond .eq 12, 3) by decide +kernel) c9 (by decide) ?_
        refine y_aload_n (show decode cX12_count 27 = .ok (.aload_n 0, 1) by decide +kernel) 0 rfl ?_
        refine y_getf 92 12 81 317 (by decide) rfl (by decide) (by decide) q6_128 (show decode cX12_count 28 = .ok (.getfield 317, 3) by decide +kernel) (v := .inl (σ 92 81)) rfl ?_
        refine y_bipush (show decode cX12_count 31 = .ok (.bipush 40, 2) by decide +kernel) rfl rfl ?_
        by_cases c10 : ¬ (σ 92 81) = 40
        · rw [if_pos c10] at h
          refine y_icmp_ne_t (tgt := 38) (show decode cX12_count 33 = .ok (.if_icmp .ne 5, 3) by decide +kernel) rfl c10 ?_
          refine y_aload_n (show decode cX12_count 38 = .ok (.aload_n 0, 1) by decide +kernel) 0 rfl ?_
          refine y_getf 92 12 76 162 (by decide) rfl (by decide) (by decide) q6_123 (show decode cX12_count 39 = .ok (.getfield 162, 3) by decide +kernel) (v := .inr (.inr (141 + 1))) rfl ?_
          refine y_aload_n (show decode cX12_count 42 = .ok (.aload_n 0, 1) by decide +kernel) 0 rfl ?_
          refine y_getf 92 12 81 317 (by decide) rfl (by decide) (by decide) q6_128 (show decode cX12_count 43 = .ok (.getfield 317, 3) by decide +kernel) (v := .inl (σ 92 81)) rfl ?_
          refine y_iload_n (show decode cX12_count 46 = .ok (.iload_n 1, 1) by decide +kernel) 1 rfl ?_
          obtain ⟨c11, h⟩ := chkA_some h
          obtain ⟨σ12, e13, h⟩ := bnd_i h
          refine yo_iast 141 40 (by decide) rfl c11 (ov_set1 e13 rfl) (show decode cX12_count 47 = .ok (.iastore, 1) by decide +kernel) ?_
          refine y_aload_n (show decode cX12_count 48 = .ok (.aload_n 0, 1) by decide +kernel) 0 rfl ?_
          refine y_getf 92 12 77 165 (by decide) rfl (by decide) (by decide) q6_124 (show decode cX12_count 49 = .ok (.getfield 165, 3) by decide +kernel) (v := .inr (.inr (142 + 1))) rfl ?_
          refine y_aload_n (show decode cX12_count 52 = .ok (.aload_n 0, 1) by decide +kernel) 0 rfl ?_
          refine y_getf 92 12 81 317 (by decide) rfl (by decide) (by decide) q6_128 (show decode cX12_count 53 = .ok (.getfield 317, 3) by decide +kernel) (v := .inl (σ12 92 81)) rfl ?_
          refine y_iload_n (show decode cX12_count 56 = .ok (.iload_n 2, 1) by decide +kernel) 2 rfl ?_
          obtain ⟨c14, h⟩ := chkA_some h
          obtain ⟨σ15, e16, h⟩ := bnd_i h
          refine yo_iast 142 40 (by decide) rfl c14 (ov_set1 e16 rfl) (show decode cX12_count 57 = .ok (.iastore, 1) by decide +kernel) ?_
          refine y_aload_n (show decode cX12_count 58 = .ok (.aload_n 0, 1) by decide +kernel) 0 rfl ?_
          refine y_getf 92 12 78 168 (by decide) rfl (by decide) (by decide) q6_125 (show decode cX12_count 59 = .ok (.getfield 168, 3) by decide +kernel) (v := .inr (.inr (143 + 1))) rfl ?_
          refine y_aload_n (show decode cX12_count 62 = .ok (.aload_n 0, 1) by decide +kernel) 0 rfl ?_
          refine y_getf 92 12 81 317 (by decide) rfl (by decide) (by decide) q6_128 (show decode cX12_count 63 = .ok (.getfield 317, 3) by decide +kernel) (v := .inl (σ15 92 81)) rfl ?_
          refine y_iload_n (show decode cX12_count 66 = .ok (.iload_n 3, 1) by decide +kernel) 3 rfl ?_
          obtain ⟨c17, h⟩ := chkA_some h
          obtain ⟨σ18, e19, h⟩ := bnd_i h
          refine yo_iast 143 40 (by decide) rfl c17 (ov_set1 e19 rfl) (show decode cX12_count 67 = .ok (.iastore, 1) by decide +kernel) ?_
          refine y_aload_n (show decode cX12_count 68 = .ok (.aload_n 0, 1) by decide +kernel) 0 rfl ?_
          refine y_getf 92 12 79 171 (by decide) rfl (by decide) (by decide) q6_126 (show decode cX12_count 69 = .ok (.getfield 171, 3) by decide +kernel) (v := .inr (.inr (144 + 1))) rfl ?_
          refine y_aload_n (show decode cX12_count 72 = .ok (.aload_n 0, 1) by decide +kernel) 0 rfl ?_
          refine y_getf 92 12 81 317 (by decide) rfl (by decide) (by decide) q6_128 (show decode cX12_count 73 = .ok (.getfield 317, 3) by decide +kernel) (v := .inl (σ18 92 81)) rfl ?_
          refine y_aload_n (show decode cX12_count 76 = .ok (.aload_n 0, 1) by decide +kernel) 0 rfl ?_
          refine y_getf 92 12 82 561 (by decide) rfl (by decide) (by decide) q6_129 (show decode cX12_count 77 = .ok (.getfield 561, 3) by decide +kernel) (v := .inl (σ18 92 82)) rfl ?_
          obtain ⟨c20, h⟩ := chkA_some h
          obtain ⟨σ21, e22, h⟩ := bnd_i h
          refine yo_iast 144 40 (by decide) rfl c20 (ov_set1 e22 rfl) (show decode cX12_count 80 = .ok (.iastore, 1) by decide +kernel) ?_
          refine y_aload_n (show decode cX12_count 81 = .ok (.aload_n 0, 1) by decide +kernel) 0 rfl ?_
          refine y_getf 92 12 80 174 (by decide) rfl (by decide) (by decide) q6_127 (show decode cX12_count 82 = .ok (.getfield 174, 3) by decide +kernel) (v := .inr (.inr (145 + 1))) rfl ?_
          refine y_aload_n (show decode cX12_count 85 = .ok (.aload_n 0, 1) by decide +kernel) 0 rfl ?_
          refine y_getf 92 12 81 317 (by decide) rfl (by decide) (by decide) q6_128 (show decode cX12_count 86 = .ok (.getfield 317, 3) by decide +kernel) (v := .inl (σ21 92 81)) rfl ?_
          refine y_iconst (show decode cX12_count 89 = .ok (.iconst (-1), 1) by decide +kernel) rfl ?_
          obtain ⟨c23, h⟩ := chkA_some h
          obtain ⟨σ24, e25, h⟩ := bnd_i h
          refine yo_iast 145 40 (by decide) rfl c23 (ov_set1 e25 rfl) (show decode cX12_count 90 = .ok (.iastore, 1) by decide +kernel) ?_
          refine y_aload_n (show decode cX12_count 91 = .ok (.aload_n 0, 1) by decide +kernel) 0 rfl ?_
          refine y_dup (show decode cX12_count 92 = .ok (.dup, 1) by decide +kernel) rfl ?_
          refine y_getf 92 12 81 317 (by decide) rfl (by decide) (by decide) q6_128 (show decode cX12_count 93 = .ok (.getfield 317, 3) by decide +kernel) (v := .inl (σ24 92 81)) rfl ?_
          refine y_iconst (show decode cX12_count 96 = .ok (.iconst 1, 1) by decide +kernel) rfl ?_
          obtain ⟨c26, h⟩ := chkI_some h
          refine y_iadd (show decode cX12_count 97 = .ok (.iadd, 1) by decide +kernel) c26 ?_
          obtain ⟨σ27, e28, h⟩ := bnd_i h
          refine yo_putI 92 12 81 317 (by decide) rfl (by decide) (by decide) q6_128 rfl (show decode cX12_count 98 = .ok (.putfield 317, 3) by decide +kernel) rfl rfl (ov_set1 e28 rfl) ?_
          refine y_aload_n (show decode cX12_count 101 = .ok (.aload_n 0, 1) by decide +kernel) 0 rfl ?_
          refine y_getf 92 12 81 317 (by decide) rfl (by decide) (by decide) q6_128 (show decode cX12_count 102 = .ok (.getfield 317, 3) by decide +kernel) (v := .inl (σ27 92 81)) rfl ?_
          refine y_iconst (show decode cX12_count 105 = .ok (.iconst 1, 1) by decide +kernel) rfl ?_
          obtain ⟨c29, h⟩ := chkI_some h
          refine y_isub (show decode cX12_count 106 = .ok (.isub, 1) by decide +kernel) c29 ?_
          cases h
          exact y_iret (show decode cX12_count 107 = .ok (.ireturn, 1) by decide +kernel) rfl
        · rw [if_neg c10] at h
          refine y_icmp_ne_f (show decode cX12_count 33 = .ok (.if_icmp .ne 5, 3) by decide +kernel) c10 (by decide) ?_
          refine y_iconst (show decode cX12_count 36 = .ok (.iconst (-1), 1) by decide +kernel) rfl ?_
          cases h
          exact y_iret (show decode cX12_count 37 = .ok (.ireturn, 1) by decide +kernel) rfl
abbrev MX12_untell : yM := (yX12_untell, cX12_untell, 2, some .boolean)
def mo_untell (a : Int) (σ : ySt) : Option (Int × ySt) :=
  chkI ((σ 92 81) - 1) <|
  bndO (mo_isIn a 0 ((σ 92 81) - 1) σ) fun r3 =>
  if r3 = 0 then
    some (0, σ)
  else
    chkA 40 a <|
    if (σ 145 (a).toNat) < 0 then
      chkA 40 a <|
      bnd (yset σ 145 (a).toNat (σ 92 82)) fun σ8 =>
      some (1, σ8)
    else
      some (0, σ)
set_option maxHeartbeats 4000000 in
set_option maxRecDepth 10000 in
theorem sh_mo_untell {E : yE} {a : Int} {σ : ySt} {ρ : Int} {τ : ySt} (h : mo_untell a σ = some (ρ, τ)) : Con E MX12_untell 1 0 0 [.inr (.inr (92 + 1)), .inl a] 150 (ov σ) (some (.inl ρ)) (ov τ) := by
  unfold mo_untell at h
  refine Con.ofY (by decide +kernel) (by simp [yWords, yCat]) (fun hok _ => ?_)
  show Y E MX12_untell (yRm 1 0 0) (yQf E (150 + 0) 0 0 (some (.inl ρ)) (ov τ)) 0 [(0, .inr (.inr (92 + 1))), (1, .inl a)] [] (ov σ) 150 0 0
  refine y_iload_n (show decode cX12_untell 0 = .ok (.iload_n 1, 1) by decide +kernel) 1 rfl ?_
  refine y_iconst (show decode cX12_untell 1 = .ok (.iconst 0, 1) by decide +kernel) rfl ?_
  refine y_aload_n (show decode cX12_untell 2 = .ok (.aload_n 0, 1) by decide +kernel) 0 rfl ?_
  refine y_getf 92 12 81 317 (by decide) rfl (by decide) (by decide) q6_128 (show decode cX12_untell 3 = .ok (.getfield 317, 3) by decide +kernel) (v := .inl (σ 92 81)) rfl ?_
  refine y_iconst (show decode cX12_untell 6 = .ok (.iconst 1, 1) by decide +kernel) rfl ?_
  obtain ⟨c1, h⟩ := chkI_some h
  refine y_isub (show decode cX12_untell 7 = .ok (.isub, 1) by decide +kernel) c1 ?_
  obtain ⟨r3, e2, h⟩ := bndO_some h
  refine y_callS (np := 3) (st := []) (as := [.inl a, .inl 0, .inl ((σ 92 81) - 1)]) (sh_mo_isIn e2) q8_18 q8_16 q8_17 q1_15 (by decide) (by decide +kernel) (by decide) rfl (Nat.le_of_ble_eq_true rfl) (show decode cX12_untell 8 = .ok (.invokestatic 414, 3) by decide +kernel) rfl ?_
  by_cases c4 : r3 = 0
  · rw [if_pos c4] at h
    refine y_if_eq_t (tgt := 23) (show decode cX12_untell 11 = .ok (.ifCond .eq 12, 3) by decide +kernel) rfl c4 ?_
    refine y_iconst (show decode cX12_untell 23 = .ok (.iconst 0, 1) by decide +kernel) rfl ?_
    cases h
    exact y_zret (show decode cX12_untell 24 = .ok (.ireturn, 1) by decide +kernel) rfl (Or.inl rfl)
  · rw [if_neg c4] at h
    refine y_if_eq_f (show decode cX12_untell 11 = .ok (.ifCond .eq 12, 3) by decide +kernel) c4 (by decide) ?_
    refine y_aload_n (show decode cX12_untell 14 = .ok (.aload_n 0, 1) by decide +kernel) 0 rfl ?_
    refine y_getf 92 12 80 174 (by decide) rfl (by decide) (by decide) q6_127 (show decode cX12_untell 15 = .ok (.getfield 174, 3) by decide +kernel) (v := .inr (.inr (145 + 1))) rfl ?_
    refine y_iload_n (show decode cX12_untell 18 = .ok (.iload_n 1, 1) by decide +kernel) 1 rfl ?_
    obtain ⟨c5, h⟩ := chkA_some h
    refine yo_iald 145 40 (by decide) rfl c5 (ov_at rfl) (show decode cX12_untell 19 = .ok (.iaload, 1) by decide +kernel) ?_
    by_cases c6 : (σ 145 (a).toNat) < 0
    · rw [if_pos c6] at h
      refine y_if_lt_t (tgt := 25) (show decode cX12_untell 20 = .ok (.ifCond .lt 5, 3) by decide +kernel) rfl c6 ?_
      refine y_aload_n (show decode cX12_untell 25 = .ok (.aload_n 0, 1) by decide +kernel) 0 rfl ?_
      refine y_getf 92 12 80 174 (by decide) rfl (by decide) (by decide) q6_127 (show decode cX12_untell 26 = .ok (.getfield 174, 3) by decide +kernel) (v := .inr (.inr (145 + 1))) rfl ?_
      refine y_iload_n (show decode cX12_untell 29 = .ok (.iload_n 1, 1) by decide +kernel) 1 rfl ?_
      refine y_aload_n (show decode cX12_untell 30 = .ok (.aload_n 0, 1) by decide +kernel) 0 rfl ?_
      refine y_getf 92 12 82 561 (by decide) rfl (by decide) (by decide) q6_129 (show decode cX12_untell 31 = .ok (.getfield 561, 3) by decide +kernel) (v := .inl (σ 92 82)) rfl ?_
      obtain ⟨c7, h⟩ := chkA_some h
      obtain ⟨σ8, e9, h⟩ := bnd_i h
      refine yo_iast 145 40 (by decide) rfl c7 (ov_set1 e9 rfl) (show decode cX12_untell 34 = .ok (.iastore, 1) by decide +kernel) ?_
      refine y_iconst (show decode cX12_untell 35 = .ok (.iconst 1, 1) by decide +kernel) rfl ?_
      cases h
      exact y_zret (show decode cX12_untell 36 = .ok (.ireturn, 1) by decide +kernel) rfl (Or.inr rfl)
    · rw [if_neg c6] at h
      refine y_if_lt_f (show decode cX12_untell 20 = .ok (.ifCond .lt 5, 3) by decide +kernel) c6 (by decide) ?_
      refine y_iconst (show decode cX12_untell 23 = .ok (.iconst 0, 1) by decide +kernel) rfl ?_
      cases h
      exact y_zret (show decode cX12_untell 24 = .ok (.ireturn, 1) by decide +kernel) rfl (Or.inl rfl)
abbrev MX12_later : yM := (yX12_later, cX12_later, 2, some .int)
def mo_later (a : Int) (σ : ySt) : Option (Int × ySt) :=
  bndO (mo_isIn a 0 1000 σ) fun r2 =>
  if r2 = 0 then
    some ((-1), σ)
  else
    chkI ((σ 92 82) + a) <|
    if ((σ 92 82) + a) ≤ 100000 then
      chkI ((σ 92 82) + a) <|
      bnd (yset σ 92 82 ((σ 92 82) + a)) fun σ7 =>
      some ((σ7 92 82), σ7)
    else
      some ((-1), σ)
set_option maxHeartbeats 4000000 in
set_option maxRecDepth 10000 in
theorem sh_mo_later {E : yE} {a : Int} {σ : ySt} {ρ : Int} {τ : ySt} (h : mo_later a σ = some (ρ, τ)) : Con E MX12_later 1 0 0 [.inr (.inr (92 + 1)), .inl a] 150 (ov σ) (some (.inl ρ)) (ov τ) := by
  unfold mo_later at h
  refine Con.ofY (by decide +kernel) (by simp [yWords, yCat]) (fun hok _ => ?_)
  show Y E MX12_later (yRm 1 0 0) (yQf E (150 + 0) 0 0 (some (.inl ρ)) (ov τ)) 0 [(0, .inr (.inr (92 + 1))), (1, .inl a)] [] (ov σ) 150 0 0
  refine y_iload_n (show decode cX12_later 0 = .ok (.iload_n 1, 1) by decide +kernel) 1 rfl ?_
  refine y_iconst (show decode cX12_later 1 = .ok (.iconst 0, 1) by decide +kernel) rfl ?_
  refine y_sipush (show decode cX12_later 2 = .ok (.sipush 1000, 3) by decide +kernel) rfl rfl ?_
  obtain ⟨r2, e1, h⟩ := bndO_some h
  refine y_callS (np := 3) (st := []) (as := [.inl a, .inl 0, .inl 1000]) (sh_mo_isIn e1) q8_18 q8_16 q8_17 q1_15 (by decide) (by decide +kernel) (by decide) rfl (Nat.le_of_ble_eq_true rfl) (show decode cX12_later 5 = .ok (.invokestatic 414, 3) by decide +kernel) rfl ?_
  by_cases c3 : r2 = 0
  · rw [if_pos c3] at h
    refine y_if_eq_t (tgt := 23) (show decode cX12_later 8 = .ok (.ifCond .eq 15, 3) by decide +kernel) rfl c3 ?_
    refine y_iconst (show decode cX12_later 23 = .ok (.iconst (-1), 1) by decide +kernel) rfl ?_
    cases h
    exact y_iret (show decode cX12_later 24 = .ok (.ireturn, 1) by decide +kernel) rfl
  · rw [if_neg c3] at h
    refine y_if_eq_f (show decode cX12_later 8 = .ok (.ifCond .eq 15, 3) by decide +kernel) c3 (by decide) ?_
    refine y_aload_n (show decode cX12_later 11 = .ok (.aload_n 0, 1) by decide +kernel) 0 rfl ?_
    refine y_getf 92 12 82 561 (by decide) rfl (by decide) (by decide) q6_129 (show decode cX12_later 12 = .ok (.getfield 561, 3) by decide +kernel) (v := .inl (σ 92 82)) rfl ?_
    refine y_iload_n (show decode cX12_later 15 = .ok (.iload_n 1, 1) by decide +kernel) 1 rfl ?_
    obtain ⟨c4, h⟩ := chkI_some h
    refine y_iadd (show decode cX12_later 16 = .ok (.iadd, 1) by decide +kernel) c4 ?_
    refine y_ldcw (k := 100000) (show decode cX12_later 17 = .ok (.ldc_w 564, 3) by decide +kernel) q8_222 rfl rfl ?_
    by_cases c5 : ((σ 92 82) + a) ≤ 100000
    · rw [if_pos c5] at h
      refine y_icmp_le_t (tgt := 25) (show decode cX12_later 20 = .ok (.if_icmp .le 5, 3) by decide +kernel) rfl c5 ?_
      refine y_aload_n (show decode cX12_later 25 = .ok (.aload_n 0, 1) by decide +kernel) 0 rfl ?_
      refine y_dup (show decode cX12_later 26 = .ok (.dup, 1) by decide +kernel) rfl ?_
      refine y_getf 92 12 82 561 (by decide) rfl (by decide) (by decide) q6_129 (show decode cX12_later 27 = .ok (.getfield 561, 3) by decide +kernel) (v := .inl (σ 92 82)) rfl ?_
      refine y_iload_n (show decode cX12_later 30 = .ok (.iload_n 1, 1) by decide +kernel) 1 rfl ?_
      obtain ⟨c6, h⟩ := chkI_some h
      refine y_iadd (show decode cX12_later 31 = .ok (.iadd, 1) by decide +kernel) c6 ?_
      obtain ⟨σ7, e8, h⟩ := bnd_i h
      refine yo_putI 92 12 82 561 (by decide) rfl (by decide) (by decide) q6_129 rfl (show decode cX12_later 32 = .ok (.putfield 561, 3) by decide +kernel) rfl rfl (ov_set1 e8 rfl) ?_
      refine y_aload_n (show decode cX12_later 35 = .ok (.aload_n 0, 1) by decide +kernel) 0 rfl ?_
      refine y_getf 92 12 82 561 (by decide) rfl (by decide) (by decide) q6_129 (show decode cX12_later 36 = .ok (.getfield 561, 3) by decide +kernel) (v := .inl (σ7 92 82)) rfl ?_
      cases h
      exact y_iret (show decode cX12_later 39 = .ok (.ireturn, 1) by decide +kernel) rfl
    · rw [if_neg c5] at h
      refine y_icmp_le_f (show decode cX12_later 20 = .ok (.if_icmp .le 5, 3) by decide +kernel) c5 (by decide) ?_
      refine y_iconst (show decode cX12_later 23 = .ok (.iconst (-1), 1) by decide +kernel) rfl ?_
      cases h
      exact y_iret (show decode cX12_later 24 = .ok (.ireturn, 1) by decide +kernel) rfl
abbrev MX12_image : yM := (yX12_image, cX12_image, 3, some .int)
def mo_image (N : Nat) (a : Int) (σ : ySt) : Option (Int × ySt) :=
  bndO (mo_isIn a 0 2 σ) fun r2 =>
  if ¬ r2 = 0 then
    chkA 3 a <|
    bnd (yset σ 146 (a).toNat (σ 92 73)) fun σ5 =>
    chkA 3 a <|
    bnd (yset σ5 147 (a).toNat (σ5 92 74)) fun σ8 =>
    loopS1 (fun k12 x10 σ11 =>
      if x10 ≥ 5 then
        some ((σ11 92 73), σ11)
      else
        chkI (5 * a) <|
        chkI ((5 * a) + x10) <|
        chkA 5 x10 <|
        chkA 15 ((5 * a) + x10) <|
        bnd (yset σ11 148 (((5 * a) + x10)).toNat (σ11 138 (x10).toNat)) fun σ18 =>
        chkI (5 * a) <|
        chkI ((5 * a) + x10) <|
        chkA 5 x10 <|
        chkA 15 ((5 * a) + x10) <|
        bnd (yset σ18 149 (((5 * a) + x10)).toNat (σ18 139 (x10).toNat)) fun σ24 =>
        chkI (x10 + 1) <|
        k12 (x10 + 1) σ24) N 0 σ8
  else
    some ((-1), σ)
set_option maxHeartbeats 4000000 in
set_option maxRecDepth 10000 in
theorem sh_mo_image {E : yE} {N : Nat} {a : Int} {σ : ySt} {ρ : Int} {τ : ySt} (h : mo_image N a σ = some (ρ, τ)) : Con E MX12_image 1 0 0 [.inr (.inr (92 + 1)), .inl a] 150 (ov σ) (some (.inl ρ)) (ov τ) := by
  unfold mo_image at h
  refine Con.ofY (by decide +kernel) (by simp [yWords, yCat]) (fun hok _ => ?_)
  show Y E MX12_image (yRm 1 0 0) (yQf E (150 + 0) 0 0 (some (.inl ρ)) (ov τ)) 0 [(0, .inr (.inr (92 + 1))), (1, .inl a)] [] (ov σ) 150 0 0
  refine y_iload_n (show decode cX12_image 0 = .ok (.iload_n 1, 1) by decide +kernel) 1 rfl ?_
  refine y_iconst (show decode cX12_image 1 = .ok (.iconst 0, 1) by decide +kernel) rfl ?_
  refine y_iconst (show decode cX12_image 2 = .ok (.iconst 2, 1) by decide +kernel) rfl ?_
  obtain ⟨r2, e1, h⟩ := bndO_some h
  refine y_callS (np := 3) (st := []) (as := [.inl a, .inl 0, .inl 2]) (sh_mo_isIn e1) q8_18 q8_16 q8_17 q1_15 (by decide) (by decide +kernel) (by decide) rfl (Nat.le_of_ble_eq_true rfl) (show decode cX12_image 3 = .ok (.invokestatic 414, 3) by decide +kernel) rfl ?_
  by_cases c3 : ¬ r2 = 0
  · rw [if_pos c3] at h
    refine y_if_ne_t (tgt := 11) (show decode cX12_image 6 = .ok (.ifCond .ne 5, 3) by decide +kernel) rfl c3 ?_
    refine y_aload_n (show decode cX12_image 11 = .ok (.aload_n 0, 1) by decide +kernel) 0 rfl ?_
    refine y_getf 92 12 83 177 (by decide) rfl (by decide) (by decide) q6_130 (show decode cX12_image 12 = .ok (.getfield 177, 3) by decide +kernel) (v := .inr (.inr (146 + 1))) rfl ?_
    refine y_iload_n (show decode cX12_image 15 = .ok (.iload_n 1, 1) by decide +kernel) 1 rfl ?_
    refine y_aload_n (show decode cX12_image 16 = .ok (.aload_n 0, 1) by decide +kernel) 0 rfl ?_
    refine y_getf 92 12 73 552 (by decide) rfl (by decide) (by decide) q6_120 (show decode cX12_image 17 = .ok (.getfield 552, 3) by decide +kernel) (v := .inl (σ 92 73)) rfl ?_
    obtain ⟨c4, h⟩ := chkA_some h
    obtain ⟨σ5, e6, h⟩ := bnd_i h
    refine yo_iast 146 3 (by decide) rfl c4 (ov_set1 e6 rfl) (show decode cX12_image 20 = .ok (.iastore, 1) by decide +kernel) ?_
    refine y_aload_n (show decode cX12_image 21 = .ok (.aload_n 0, 1) by decide +kernel) 0 rfl ?_
    refine y_getf 92 12 84 180 (by decide) rfl (by decide) (by decide) q6_131 (show decode cX12_image 22 = .ok (.getfield 180, 3) by decide +kernel) (v := .inr (.inr (147 + 1))) rfl ?_
    refine y_iload_n (show decode cX12_image 25 = .ok (.iload_n 1, 1) by decide +kernel) 1 rfl ?_
    refine y_aload_n (show decode cX12_image 26 = .ok (.aload_n 0, 1) by decide +kernel) 0 rfl ?_
    refine y_getf 92 12 74 555 (by decide) rfl (by decide) (by decide) q6_121 (show decode cX12_image 27 = .ok (.getfield 555, 3) by decide +kernel) (v := .inl (σ5 92 74)) rfl ?_
    obtain ⟨c7, h⟩ := chkA_some h
    obtain ⟨σ8, e9, h⟩ := bnd_i h
    refine yo_iast 147 3 (by decide) rfl c7 (ov_set1 e9 rfl) (show decode cX12_image 30 = .ok (.iastore, 1) by decide +kernel) ?_
    refine y_iconst (show decode cX12_image 31 = .ok (.iconst 0, 1) by decide +kernel) rfl ?_
    refine y_istore_n (show decode cX12_image 32 = .ok (.istore_n 2, 1) by decide +kernel) rfl (L1 := [(2, .inl 0), (0, .inr (.inr (92 + 1))), (1, .inl a)]) rfl ?_
    refine y_pick [1, 2, 0] rfl ?_
    refine loopS1_ind (P := fun x10 σ11 => Y E MX12_image (yRm 1 0 0) (yQf E (150 + 0) 0 0 (some (.inl ρ)) (ov τ)) 33 [(0, .inr (.inr (92 + 1))), (1, .inl a), (2, .inl x10)] [] (ov σ11) 150 0 0) (fun k12 hk12 x10 σ11 h => ?_) _ _ _  h
    refine y_iload_n (show decode cX12_image 33 = .ok (.iload_n 2, 1) by decide +kernel) 2 rfl ?_
    refine y_iconst (show decode cX12_image 34 = .ok (.iconst 5, 1) by decide +kernel) rfl ?_
    by_cases c13 : x10 ≥ 5
    · rw [if_pos c13] at h
      refine y_icmp_ge_t (tgt := 76) (show decode cX12_image 35 = .ok (.if_icmp .ge 41, 3) by decide +kernel) rfl c13 ?_
      refine y_aload_n (show decode cX12_image 76 = .ok (.aload_n 0, 1) by decide +kernel) 0 rfl ?_
      refine y_getf 92 12 73 552 (by decide) rfl (by decide) (by decide) q6_120 (show decode cX12_image 77 = .ok (.getfield 552, 3) by decide +kernel) (v := .inl (σ11 92 73)) rfl ?_
      cases h
      exact y_iret (show decode cX12_image 80 = .ok (.ireturn, 1) by decide +kernel) rfl
    · rw [if_neg c13] at h
      refine y_icmp_ge_f (show decode cX12_image 35 = .ok (.if_icmp .ge 41, 3) by decide +kernel) c13 (by decide) ?_
      refine y_aload_n (show decode cX12_image 38 = .ok (.aload_n 0, 1) by decide +kernel) 0 rfl ?_
      refine y_getf 92 12 85 183 (by decide) rfl (by decide) (by decide) q6_132 (show decode cX12_image 39 = .ok (.getfield 183, 3) by decide +kernel) (v := .inr (.inr (148 + 1))) rfl ?_
      refine y_iconst (show decode cX12_image 42 = .ok (.iconst 5, 1) by decide +kernel) rfl ?_
      refine y_iload_n (show decode cX12_image 43 = .ok (.iload_n 1, 1) by decide +kernel) 1 rfl ?_
      obtain ⟨c14, h⟩ := chkI_some h
      refine y_imul (show decode cX12_image 44 = .ok (.imul, 1) by decide +kernel) c14 ?_
      refine y_iload_n (show decode cX12_image 45 = .ok (.iload_n 2, 1) by decide +kernel) 2 rfl ?_
      obtain ⟨c15, h⟩ := chkI_some h
      refine y_iadd (show decode cX12_image 46 = .ok (.iadd, 1) by decide +kernel) c15 ?_
      refine y_aload_n (show decode cX12_image 47 = .ok (.aload_n 0, 1) by decide +kernel) 0 rfl ?_
      refine y_getf 92 12 71 153 (by decide) rfl (by decide) (by decide) q6_118 (show decode cX12_image 48 = .ok (.getfield 153, 3) by decide +kernel) (v := .inr (.inr (138 + 1))) rfl ?_
      refine y_iload_n (show decode cX12_image 51 = .ok (.iload_n 2, 1) by decide +kernel) 2 rfl ?_
      obtain ⟨c16, h⟩ := chkA_some h
      refine yo_iald 138 5 (by decide) rfl c16 (ov_at rfl) (show decode cX12_image 52 = .ok (.iaload, 1) by decide +kernel) ?_
      obtain ⟨c17, h⟩ := chkA_some h
      obtain ⟨σ18, e19, h⟩ := bnd_i h
      refine yo_iast 148 15 (by decide) rfl c17 (ov_set1 e19 rfl) (show decode cX12_image 53 = .ok (.iastore, 1) by decide +kernel) ?_
      refine y_aload_n (show decode cX12_image 54 = .ok (.aload_n 0, 1) by decide +kernel) 0 rfl ?_
      refine y_getf 92 12 86 186 (by decide) rfl (by decide) (by decide) q6_133 (show decode cX12_image 55 = .ok (.getfield 186, 3) by decide +kernel) (v := .inr (.inr (149 + 1))) rfl ?_
      refine y_iconst (show decode cX12_image 58 = .ok (.iconst 5, 1) by decide +kernel) rfl ?_
      refine y_iload_n (show decode cX12_image 59 = .ok (.iload_n 1, 1) by decide +kernel) 1 rfl ?_
      obtain ⟨c20, h⟩ := chkI_some h
      refine y_imul (show decode cX12_image 60 = .ok (.imul, 1) by decide +kernel) c20 ?_
      refine y_iload_n (show decode cX12_image 61 = .ok (.iload_n 2, 1) by decide +kernel) 2 rfl ?_
      obtain ⟨c21, h⟩ := chkI_some h
      refine y_iadd (show decode cX12_image 62 = .ok (.iadd, 1) by decide +kernel) c21 ?_
      refine y_aload_n (show decode cX12_image 63 = .ok (.aload_n 0, 1) by decide +kernel) 0 rfl ?_
      refine y_getf 92 12 72 156 (by decide) rfl (by decide) (by decide) q6_119 (show decode cX12_image 64 = .ok (.getfield 156, 3) by decide +kernel) (v := .inr (.inr (139 + 1))) rfl ?_
      refine y_iload_n (show decode cX12_image 67 = .ok (.iload_n 2, 1) by decide +kernel) 2 rfl ?_
      obtain ⟨c22, h⟩ := chkA_some h
      refine yo_iald 139 5 (by decide) rfl c22 (ov_at rfl) (show decode cX12_image 68 = .ok (.iaload, 1) by decide +kernel) ?_
      obtain ⟨c23, h⟩ := chkA_some h
      obtain ⟨σ24, e25, h⟩ := bnd_i h
      refine yo_iast 149 15 (by decide) rfl c23 (ov_set1 e25 rfl) (show decode cX12_image 69 = .ok (.iastore, 1) by decide +kernel) ?_
      obtain ⟨c26, h⟩ := chkI_some h
      refine y_iinc (show decode cX12_image 70 = .ok (.iinc 2 1, 3) by decide +kernel) 2 rfl c26 rfl (L1 := [(2, .inl (x10 + 1)), (0, .inr (.inr (92 + 1))), (1, .inl a)]) rfl ?_
      refine y_goto (tgt := 33) (show decode cX12_image 73 = .ok (.goto (-40), 3) by decide +kernel) rfl ?_
      refine y_pick [1, 2, 0] rfl ?_
      exact hk12 _ _ h
  · rw [if_neg c3] at h
    refine y_if_ne_f (show decode cX12_image 6 = .ok (.ifCond .ne 5, 3) by decide +kernel) c3 (by decide) ?_
    refine y_iconst (show decode cX12_image 9 = .ok (.iconst (-1), 1) by decide +kernel) rfl ?_
    cases h
    exact y_iret (show decode cX12_image 10 = .ok (.ireturn, 1) by decide +kernel) rfl
abbrev MX12_back : yM := (yX12_back, cX12_back, 3, some .int)
def mo_back (N : Nat) (a : Int) (σ : ySt) : Option (Int × ySt) :=
  bndO (mo_isIn a 0 2 σ) fun r2 =>
  if r2 = 0 then
    some ((-1), σ)
  else
    chkA 3 a <|
    if (σ 146 (a).toNat) ≥ 0 then
      chkA 3 a <|
      bnd (yset σ 92 73 (σ 146 (a).toNat)) fun σ7 =>
      chkA 3 a <|
      bnd (yset σ7 92 74 (σ7 147 (a).toNat)) fun σ10 =>
      loopS1 (fun k14 x12 σ13 =>
        if x12 ≥ 5 then
          some ((σ13 92 73), σ13)
        else
          chkI (5 * a) <|
          chkI ((5 * a) + x12) <|
          chkA 15 ((5 * a) + x12) <|
          chkA 5 x12 <|
          bnd (yset σ13 138 (x12).toNat (σ13 148 (((5 * a) + x12)).toNat)) fun σ20 =>
          chkI (5 * a) <|
          chkI ((5 * a) + x12) <|
          chkA 15 ((5 * a) + x12) <|
          chkA 5 x12 <|
          bnd (yset σ20 139 (x12).toNat (σ20 149 (((5 * a) + x12)).toNat)) fun σ26 =>
          chkI (x12 + 1) <|
          k14 (x12 + 1) σ26) N 0 σ10
    else
      some ((-1), σ)
set_option maxHeartbeats 4000000 in
set_option maxRecDepth 10000 in
theorem sh_mo_back {E : yE} {N : Nat} {a : Int} {σ : ySt} {ρ : Int} {τ : ySt} (h : mo_back N a σ = some (ρ, τ)) : Con E MX12_back 1 0 0 [.inr (.inr (92 + 1)), .inl a] 150 (ov σ) (some (.inl ρ)) (ov τ) := by
  unfold mo_back at h
  refine Con.ofY (by decide +kernel) (by simp [yWords, yCat]) (fun hok _ => ?_)
  show Y E MX12_back (yRm 1 0 0) (yQf E (150 + 0) 0 0 (some (.inl ρ)) (ov τ)) 0 [(0, .inr (.inr (92 + 1))), (1, .inl a)] [] (ov σ) 150 0 0
  refine y_iload_n (show decode cX12_back 0 = .ok (.iload_n 1, 1) by decide +kernel) 1 rfl ?_
  refine y_iconst (show decode cX12_back 1 = .ok (.iconst 0, 1) by decide +kernel) rfl ?_
  refine y_iconst (show decode cX12_back 2 = .ok (.iconst 2, 1) by decide +kernel) rfl ?_
  obtain ⟨r2, e1, h⟩ := bndO_some h
  refine y_callS (np := 3) (st := []) (as := [.inl a, .inl 0, .inl 2]) (sh_mo_isIn e1) q8_18 q8_16 q8_17 q1_15 (by decide) (by decide +kernel) (by decide) rfl (Nat.le_of_ble_eq_true rfl) (show decode cX12_back 3 = .ok (.invokestatic 414, 3) by decide +kernel) rfl ?_
  by_cases c3 : r2 = 0
  · rw [if_pos c3] at h
    refine y_if_eq_t (tgt := 18) (show decode cX12_back 6 = .ok (.ifCond .eq 12, 3) by decide +kernel) rfl c3 ?_
    refine y_iconst (show decode cX12_back 18 = .ok (.iconst (-1), 1) by decide +kernel) rfl ?_
    cases h
    exact y_iret (show decode cX12_back 19 = .ok (.ireturn, 1) by decide +kernel) rfl
  · rw [if_neg c3] at h
    refine y_if_eq_f (show decode cX12_back 6 = .ok (.ifCond .eq 12, 3) by decide +kernel) c3 (by decide) ?_
    refine y_aload_n (show decode cX12_back 9 = .ok (.aload_n 0, 1) by decide +kernel) 0 rfl ?_
    refine y_getf 92 12 83 177 (by decide) rfl (by decide) (by decide) q6_130 (show decode cX12_back 10 = .ok (.getfield 177, 3) by decide +kernel) (v := .inr (.inr (146 + 1))) rfl ?_
    refine y_iload_n (show decode cX12_back 13 = .ok (.iload_n 1, 1) by decide +kernel) 1 rfl ?_
    obtain ⟨c4, h⟩ := chkA_some h
    refine yo_iald 146 3 (by decide) rfl c4 (ov_at rfl) (show decode cX12_back 14 = .ok (.iaload, 1) by decide +kernel) ?_
    by_cases c5 : (σ 146 (a).toNat) ≥ 0
    · rw [if_pos c5] at h
      refine y_if_ge_t (tgt := 20) (show decode cX12_back 15 = .ok (.ifCond .ge 5, 3) by decide +kernel) rfl c5 ?_
      refine y_aload_n (show decode cX12_back 20 = .ok (.aload_n 0, 1) by decide +kernel) 0 rfl ?_
      refine y_aload_n (show decode cX12_back 21 = .ok (.aload_n 0, 1) by decide +kernel) 0 rfl ?_
      refine y_getf 92 12 83 177 (by decide) rfl (by decide) (by decide) q6_130 (show decode cX12_back 22 = .ok (.getfield 177, 3) by decide +kernel) (v := .inr (.inr (146 + 1))) rfl ?_
      refine y_iload_n (show decode cX12_back 25 = .ok (.iload_n 1, 1) by decide +kernel) 1 rfl ?_
      obtain ⟨c6, h⟩ := chkA_some h
      refine yo_iald 146 3 (by decide) rfl c6 (ov_at rfl) (show decode cX12_back 26 = .ok (.iaload, 1) by decide +kernel) ?_
      obtain ⟨σ7, e8, h⟩ := bnd_i h
      refine yo_putI 92 12 73 552 (by decide) rfl (by decide) (by decide) q6_120 rfl (show decode cX12_back 27 = .ok (.putfield 552, 3) by decide +kernel) rfl rfl (ov_set1 e8 rfl) ?_
      refine y_aload_n (show decode cX12_back 30 = .ok (.aload_n 0, 1) by decide +kernel) 0 rfl ?_
      refine y_aload_n (show decode cX12_back 31 = .ok (.aload_n 0, 1) by decide +kernel) 0 rfl ?_
      refine y_getf 92 12 84 180 (by decide) rfl (by decide) (by decide) q6_131 (show decode cX12_back 32 = .ok (.getfield 180, 3) by decide +kernel) (v := .inr (.inr (147 + 1))) rfl ?_
      refine y_iload_n (show decode cX12_back 35 = .ok (.iload_n 1, 1) by decide +kernel) 1 rfl ?_
      obtain ⟨c9, h⟩ := chkA_some h
      refine yo_iald 147 3 (by decide) rfl c9 (ov_at rfl) (show decode cX12_back 36 = .ok (.iaload, 1) by decide +kernel) ?_
      obtain ⟨σ10, e11, h⟩ := bnd_i h
      refine yo_putI 92 12 74 555 (by decide) rfl (by decide) (by decide) q6_121 rfl (show decode cX12_back 37 = .ok (.putfield 555, 3) by decide +kernel) rfl rfl (ov_set1 e11 rfl) ?_
      refine y_iconst (show decode cX12_back 40 = .ok (.iconst 0, 1) by decide +kernel) rfl ?_
      refine y_istore_n (show decode cX12_back 41 = .ok (.istore_n 2, 1) by decide +kernel) rfl (L1 := [(2, .inl 0), (0, .inr (.inr (92 + 1))), (1, .inl a)]) rfl ?_
      refine y_pick [1, 2, 0] rfl ?_
      refine loopS1_ind (P := fun x12 σ13 => Y E MX12_back (yRm 1 0 0) (yQf E (150 + 0) 0 0 (some (.inl ρ)) (ov τ)) 42 [(0, .inr (.inr (92 + 1))), (1, .inl a), (2, .inl x12)] [] (ov σ13) 150 0 0) (fun k14 hk14 x12 σ13 h => ?_) _ _ _  h
      refine y_iload_n (show decode cX12_back 42 = .ok (.iload_n 2, 1) by decide +kernel) 2 rfl ?_
      refine y_iconst (show decode cX12_back 43 = .ok (.iconst 5, 1) by decide +kernel) rfl ?_
      by_cases c15 : x12 ≥ 5
      · rw [if_pos c15] at h
        refine y_icmp_ge_t (tgt := 85) (show decode cX12_back 44 = .ok (.if_icmp .ge 41, 3) by decide +kernel) rfl c15 ?_
        refine y_aload_n (show decode cX12_back 85 = .ok (.aload_n 0, 1) by decide +kernel) 0 rfl ?_
        refine y_getf 92 12 73 552 (by decide) rfl (by decide) (by decide) q6_120 (show decode cX12_back 86 = .ok (.getfield 552, 3) by decide +kernel) (v := .inl (σ13 92 73)) rfl ?_
        cases h
        exact y_iret (show decode cX12_back 89 = .ok (.ireturn, 1) by decide +kernel) rfl
      · rw [if_neg c15] at h
        refine y_icmp_ge_f (show decode cX12_back 44 = .ok (.if_icmp .ge 41, 3) by decide +kernel) c15 (by decide) ?_
        refine y_aload_n (show decode cX12_back 47 = .ok (.aload_n 0, 1) by decide +kernel) 0 rfl ?_
        refine y_getf 92 12 71 153 (by decide) rfl (by decide) (by decide) q6_118 (show decode cX12_back 48 = .ok (.getfield 153, 3) by decide +kernel) (v := .inr (.inr (138 + 1))) rfl ?_
        refine y_iload_n (show decode cX12_back 51 = .ok (.iload_n 2, 1) by decide +kernel) 2 rfl ?_
        refine y_aload_n (show decode cX12_back 52 = .ok (.aload_n 0, 1) by decide +kernel) 0 rfl ?_
        refine y_getf 92 12 85 183 (by decide) rfl (by decide) (by decide) q6_132 (show decode cX12_back 53 = .ok (.getfield 183, 3) by decide +kernel) (v := .inr (.inr (148 + 1))) rfl ?_
        refine y_iconst (show decode cX12_back 56 = .ok (.iconst 5, 1) by decide +kernel) rfl ?_
        refine y_iload_n (show decode cX12_back 57 = .ok (.iload_n 1, 1) by decide +kernel) 1 rfl ?_
        obtain ⟨c16, h⟩ := chkI_some h
        refine y_imul (show decode cX12_back 58 = .ok (.imul, 1) by decide +kernel) c16 ?_
        refine y_iload_n (show decode cX12_back 59 = .ok (.iload_n 2, 1) by decide +kernel) 2 rfl ?_
        obtain ⟨c17, h⟩ := chkI_some h
        refine y_iadd (show decode cX12_back 60 = .ok (.iadd, 1) by decide +kernel) c17 ?_
        obtain ⟨c18, h⟩ := chkA_some h
        refine yo_iald 148 15 (by decide) rfl c18 (ov_at rfl) (show decode cX12_back 61 = .ok (.iaload, 1) by decide +kernel) ?_
        obtain ⟨c19, h⟩ := chkA_some h
        obtain ⟨σ20, e21, h⟩ := bnd_i h
        refine yo_iast 138 5 (by decide) rfl c19 (ov_set1 e21 rfl) (show decode cX12_back 62 = .ok (.iastore, 1) by decide +kernel) ?_
        refine y_aload_n (show decode cX12_back 63 = .ok (.aload_n 0, 1) by decide +kernel) 0 rfl ?_
        refine y_getf 92 12 72 156 (by decide) rfl (by decide) (by decide) q6_119 (show decode cX12_back 64 = .ok (.getfield 156, 3) by decide +kernel) (v := .inr (.inr (139 + 1))) rfl ?_
        refine y_iload_n (show decode cX12_back 67 = .ok (.iload_n 2, 1) by decide +kernel) 2 rfl ?_
        refine y_aload_n (show decode cX12_back 68 = .ok (.aload_n 0, 1) by decide +kernel) 0 rfl ?_
        refine y_getf 92 12 86 186 (by decide) rfl (by decide) (by decide) q6_133 (show decode cX12_back 69 = .ok (.getfield 186, 3) by decide +kernel) (v := .inr (.inr (149 + 1))) rfl ?_
        refine y_iconst (show decode cX12_back 72 = .ok (.iconst 5, 1) by decide +kernel) rfl ?_
        refine y_iload_n (show decode cX12_back 73 = .ok (.iload_n 1, 1) by decide +kernel) 1 rfl ?_
        obtain ⟨c22, h⟩ := chkI_some h
        refine y_imul (show decode cX12_back 74 = .ok (.imul, 1) by decide +kernel) c22 ?_
        refine y_iload_n (show decode cX12_back 75 = .ok (.iload_n 2, 1) by decide +kernel) 2 rfl ?_
        obtain ⟨c23, h⟩ := chkI_some h
        refine y_iadd (show decode cX12_back 76 = .ok (.iadd, 1) by decide +kernel) c23 ?_
        obtain ⟨c24, h⟩ := chkA_some h
        refine yo_iald 149 15 (by decide) rfl c24 (ov_at rfl) (show decode cX12_back 77 = .ok (.iaload, 1) by decide +kernel) ?_
        obtain ⟨c25, h⟩ := chkA_some h
        obtain ⟨σ26, e27, h⟩ := bnd_i h
        refine yo_iast 139 5 (by decide) rfl c25 (ov_set1 e27 rfl) (show decode cX12_back 78 = .ok (.iastore, 1) by decide +kernel) ?_
        obtain ⟨c28, h⟩ := chkI_some h
        refine y_iinc (show decode cX12_back 79 = .ok (.iinc 2 1, 3) by decide +kernel) 2 rfl c28 rfl (L1 := [(2, .inl (x12 + 1)), (0, .inr (.inr (92 + 1))), (1, .inl a)]) rfl ?_
        refine y_goto (tgt := 42) (show decode cX12_back 82 = .ok (.goto (-40), 3) by decide +kernel) rfl ?_
        refine y_pick [1, 2, 0] rfl ?_
        exact hk14 _ _ h
    · rw [if_neg c5] at h
      refine y_if_ge_f (show decode cX12_back 15 = .ok (.ifCond .ge 5, 3) by decide +kernel) c5 (by decide) ?_
      refine y_iconst (show decode cX12_back 18 = .ok (.iconst (-1), 1) by decide +kernel) rfl ?_
      cases h
      exact y_iret (show decode cX12_back 19 = .ok (.ireturn, 1) by decide +kernel) rfl
