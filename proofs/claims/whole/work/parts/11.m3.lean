abbrev MX12_isWhat : yM := (yX12_isWhat, cX12_isWhat, 1, some .boolean)
def mo_isWhat (a : Int) (σ : ySt) : Option (Int) :=
  bndO (mo_isIn a 0 2 σ) fun r2 =>
  chk (r2 = 0 ∨ r2 = 1) <|
  some r2
set_option maxHeartbeats 4000000 in
set_option maxRecDepth 10000 in
theorem sh_mo_isWhat {E : yE} {a : Int} {σ : ySt} {ρ : Int} (h : mo_isWhat a σ = some ρ) : Con E MX12_isWhat 1 0 0 [.inl a] 150 (ov σ) (some (.inl ρ)) (ov σ) := by
  unfold mo_isWhat at h
  refine Con.ofY (by decide +kernel) (by simp [yWords, yCat]) (fun hok _ => ?_)
  show Y E MX12_isWhat (yRm 1 0 0) (yQf E (150 + 0) 0 0 (some (.inl ρ)) (ov σ)) 0 [(0, .inl a)] [] (ov σ) 150 0 0
  refine y_iload_n (show decode cX12_isWhat 0 = .ok (.iload_n 0, 1) by decide +kernel) 0 rfl ?_
  refine y_iconst (show decode cX12_isWhat 1 = .ok (.iconst 0, 1) by decide +kernel) rfl ?_
  refine y_iconst (show decode cX12_isWhat 2 = .ok (.iconst 2, 1) by decide +kernel) rfl ?_
  obtain ⟨r2, e1, h⟩ := bndO_some h
  refine y_callS (np := 3) (st := []) (as := [.inl a, .inl 0, .inl 2]) (sh_mo_isIn e1) q8_18 q8_16 q8_17 q1_15 (by decide) (by decide +kernel) (by decide) rfl (Nat.le_of_ble_eq_true rfl) (show decode cX12_isWhat 3 = .ok (.invokestatic 414, 3) by decide +kernel) rfl ?_
  obtain ⟨c3, h⟩ := chk_some h
  cases h
  exact y_zret (show decode cX12_isWhat 6 = .ok (.ireturn, 1) by decide +kernel) rfl c3
abbrev MX12_best : yM := (yX12_best, cX12_best, 2, some .int)
def mo_best (N : Nat) (a : Int) (σ : ySt) : Option (Int × ySt) :=
  bndO (mo_isWhat a σ) fun r2 =>
  if ¬ r2 = 0 then
    bndO (mo_plain σ) fun σ5 =>
    bndR (mo_findBest N a σ5) fun r7 σ8 =>
    some (r7, σ8)
  else
    some ((-1000000), σ)
set_option maxHeartbeats 4000000 in
set_option maxRecDepth 10000 in
theorem sh_mo_best {E : yE} {N : Nat} {a : Int} {σ : ySt} {ρ : Int} {τ : ySt} (h : mo_best N a σ = some (ρ, τ)) : Con E MX12_best 5 0 0 [.inr (.inr (92 + 1)), .inl a] 150 (ov σ) (some (.inl ρ)) (ov τ) := by
  unfold mo_best at h
  refine Con.ofY (by decide +kernel) (by simp [yWords, yCat]) (fun hok _ => ?_)
  show Y E MX12_best (yRm 5 0 0) (yQf E (150 + 0) 0 0 (some (.inl ρ)) (ov τ)) 0 [(0, .inr (.inr (92 + 1))), (1, .inl a)] [] (ov σ) 150 0 0
  refine y_iload_n (show decode cX12_best 0 = .ok (.iload_n 1, 1) by decide +kernel) 1 rfl ?_
  obtain ⟨r2, e1, h⟩ := bndO_some h
  refine y_callS (np := 1) (st := []) (as := [.inl a]) (sh_mo_isWhat e1) q8_48 q8_46 q8_47 q1_15 (by decide) (by decide +kernel) (by decide) rfl (Nat.le_of_ble_eq_true rfl) (show decode cX12_best 1 = .ok (.invokestatic 496, 3) by decide +kernel) rfl ?_
  by_cases c3 : ¬ r2 = 0
  · rw [if_pos c3] at h
    refine y_if_ne_t (tgt := 11) (show decode cX12_best 4 = .ok (.ifCond .ne 7, 3) by decide +kernel) rfl c3 ?_
    refine y_aload_n (show decode cX12_best 11 = .ok (.aload_n 0, 1) by decide +kernel) 0 rfl ?_
    obtain ⟨σ5, e4, h⟩ := bndO_some h
    refine y_callV (np := 0) (st := []) (as := []) 92 12 (sh_mo_plain e4) q8_22 q8_19 q8_21 qs6_7 q1_15 (by decide) rfl (by decide) rfl (by decide) (by decide +kernel) (by decide) rfl (Nat.le_of_ble_eq_true rfl) (show decode cX12_best 12 = .ok (.invokevirtual 451, 3) by decide +kernel) rfl ?_
    refine y_aload_n (show decode cX12_best 15 = .ok (.aload_n 0, 1) by decide +kernel) 0 rfl ?_
    refine y_iload_n (show decode cX12_best 16 = .ok (.iload_n 1, 1) by decide +kernel) 1 rfl ?_
    obtain ⟨r7, σ8, e6, h⟩ := bndR_some h
    refine y_callV (np := 1) (st := []) (as := [.inl a]) 92 12 (sh_mo_findBest e6) q8_53 q8_50 q8_52 qs6_11 q1_15 (by decide) rfl (by decide) rfl (by decide) (by decide +kernel) (by decide) rfl (Nat.le_of_ble_eq_true rfl) (show decode cX12_best 17 = .ok (.invokevirtual 499, 3) by decide +kernel) rfl ?_
    cases h
    exact y_iret (show decode cX12_best 20 = .ok (.ireturn, 1) by decide +kernel) rfl
  · rw [if_neg c3] at h
    refine y_if_ne_f (show decode cX12_best 4 = .ok (.ifCond .ne 7, 3) by decide +kernel) c3 (by decide) ?_
    refine y_ldcw (k := -1000000) (show decode cX12_best 7 = .ok (.ldc_w 470, 3) by decide +kernel) q8_49 rfl rfl ?_
    cases h
    exact y_iret (show decode cX12_best 10 = .ok (.ireturn, 1) by decide +kernel) rfl
abbrev MX12_walked : yM := (yX12_walked, cX12_walked, 3, some .int)
def mo_walked (N : Nat) (σ : ySt) : Option (Int) :=
  loop2 (fun k3 x1 x2 =>
    bndO (mo_personMany σ) fun r5 =>
    if x2 ≥ r5 then
      some x1
    else
      chkA 5 x2 <|
      chkA 5 x2 <|
      bndO (mo_gets (σ 131 (x2).toNat) (σ 126 (x2).toNat) σ) fun r10 =>
      if ¬ r10 = 0 then
        chkA 5 x2 <|
        chkI (6 * (σ 131 (x2).toNat)) <|
        chkA 5 x2 <|
        chkI ((6 * (σ 131 (x2).toNat)) + (σ 126 (x2).toNat)) <|
        chkA 36 ((6 * (σ 131 (x2).toNat)) + (σ 126 (x2).toNat)) <|
        chkI (x1 + (σ 124 (((6 * (σ 131 (x2).toNat)) + (σ 126 (x2).toNat))).toNat)) <|
        chkI (x2 + 1) <|
        k3 (x1 + (σ 124 (((6 * (σ 131 (x2).toNat)) + (σ 126 (x2).toNat))).toNat)) (x2 + 1)
      else
        some (-1000000)) N 0 0
set_option maxHeartbeats 4000000 in
set_option maxRecDepth 10000 in
theorem sh_mo_walked {E : yE} {N : Nat} {σ : ySt} {ρ : Int} (h : mo_walked N σ = some ρ) : Con E MX12_walked 1 0 0 [.inr (.inr (92 + 1))] 150 (ov σ) (some (.inl ρ)) (ov σ) := by
  unfold mo_walked at h
  refine Con.ofY (by decide +kernel) (by simp [yWords, yCat]) (fun hok _ => ?_)
  show Y E MX12_walked (yRm 1 0 0) (yQf E (150 + 0) 0 0 (some (.inl ρ)) (ov σ)) 0 [(0, .inr (.inr (92 + 1)))] [] (ov σ) 150 0 0
  refine y_iconst (show decode cX12_walked 0 = .ok (.iconst 0, 1) by decide +kernel) rfl ?_
  refine y_istore_n (show decode cX12_walked 1 = .ok (.istore_n 1, 1) by decide +kernel) rfl (L1 := [(1, .inl 0), (0, .inr (.inr (92 + 1)))]) rfl ?_
  refine y_iconst (show decode cX12_walked 2 = .ok (.iconst 0, 1) by decide +kernel) rfl ?_
  refine y_istore_n (show decode cX12_walked 3 = .ok (.istore_n 2, 1) by decide +kernel) rfl (L1 := [(2, .inl 0), (1, .inl 0), (0, .inr (.inr (92 + 1)))]) rfl ?_
  refine y_pick [2, 1, 0] rfl ?_
  refine loop2_ind (P := fun x1 x2 => Y E MX12_walked (yRm 1 0 0) (yQf E (150 + 0) 0 0 (some (.inl ρ)) (ov σ)) 4 [(0, .inr (.inr (92 + 1))), (1, .inl x1), (2, .inl x2)] [] (ov σ) 150 0 0) (fun k3 hk3 x1 x2 h => ?_) _ _ _  h
  refine y_iload_n (show decode cX12_walked 4 = .ok (.iload_n 2, 1) by decide +kernel) 2 rfl ?_
  refine y_aload_n (show decode cX12_walked 5 = .ok (.aload_n 0, 1) by decide +kernel) 0 rfl ?_
  obtain ⟨r5, e4, h⟩ := bndO_some h
  refine y_callV (np := 0) (st := [.inl x2]) (as := []) 92 12 (sh_mo_personMany e4) q6_42 q6_39 q6_41 qs4_1 q1_15 (by decide) rfl (by decide) rfl (by decide) (by decide +kernel) (by decide) rfl (Nat.le_of_ble_eq_true rfl) (show decode cX12_walked 6 = .ok (.invokevirtual 418, 3) by decide +kernel) rfl ?_
  by_cases c6 : x2 ≥ r5
  · rw [if_pos c6] at h
    refine y_icmp_ge_t (tgt := 65) (show decode cX12_walked 9 = .ok (.if_icmp .ge 56, 3) by decide +kernel) rfl c6 ?_
    refine y_iload_n (show decode cX12_walked 65 = .ok (.iload_n 1, 1) by decide +kernel) 1 rfl ?_
    cases h
    exact y_iret (show decode cX12_walked 66 = .ok (.ireturn, 1) by decide +kernel) rfl
  · rw [if_neg c6] at h
    refine y_icmp_ge_f (show decode cX12_walked 9 = .ok (.if_icmp .ge 56, 3) by decide +kernel) c6 (by decide) ?_
    refine y_aload_n (show decode cX12_walked 12 = .ok (.aload_n 0, 1) by decide +kernel) 0 rfl ?_
    refine y_aload_n (show decode cX12_walked 13 = .ok (.aload_n 0, 1) by decide +kernel) 0 rfl ?_
    refine y_getf 92 12 61 132 (by decide) rfl (by decide) (by decide) q6_108 (show decode cX12_walked 14 = .ok (.getfield 132, 3) by decide +kernel) (v := .inr (.inr (131 + 1))) rfl ?_
    refine y_iload_n (show decode cX12_walked 17 = .ok (.iload_n 2, 1) by decide +kernel) 2 rfl ?_
    obtain ⟨c7, h⟩ := chkA_some h
    refine yo_iald 131 5 (by decide) rfl c7 (ov_at rfl) (show decode cX12_walked 18 = .ok (.iaload, 1) by decide +kernel) ?_
    refine y_aload_n (show decode cX12_walked 19 = .ok (.aload_n 0, 1) by decide +kernel) 0 rfl ?_
    refine y_getf 92 12 56 116 (by decide) rfl (by decide) (by decide) q6_103 (show decode cX12_walked 20 = .ok (.getfield 116, 3) by decide +kernel) (v := .inr (.inr (126 + 1))) rfl ?_
    refine y_iload_n (show decode cX12_walked 23 = .ok (.iload_n 2, 1) by decide +kernel) 2 rfl ?_
    obtain ⟨c8, h⟩ := chkA_some h
    refine yo_iald 126 5 (by decide) rfl c8 (ov_at rfl) (show decode cX12_walked 24 = .ok (.iaload, 1) by decide +kernel) ?_
    obtain ⟨r10, e9, h⟩ := bndO_some h
    refine y_callV (np := 2) (st := []) (as := [.inl (σ 131 (x2).toNat), .inl (σ 126 (x2).toNat)]) 92 12 (sh_mo_gets e9) q8_93 q8_90 q8_92 qs7_5 q1_15 (by decide) rfl (by decide) rfl (by decide) (by decide +kernel) (by decide) rfl (Nat.le_of_ble_eq_true rfl) (show decode cX12_walked 25 = .ok (.invokevirtual 477, 3) by decide +kernel) rfl ?_
    by_cases c11 : ¬ r10 = 0
    · rw [if_pos c11] at h
      refine y_if_ne_t (tgt := 35) (show decode cX12_walked 28 = .ok (.ifCond .ne 7, 3) by decide +kernel) rfl c11 ?_
      refine y_iload_n (show decode cX12_walked 35 = .ok (.iload_n 1, 1) by decide +kernel) 1 rfl ?_
      refine y_aload_n (show decode cX12_walked 36 = .ok (.aload_n 0, 1) by decide +kernel) 0 rfl ?_
      refine y_getf 92 12 45 110 (by decide) rfl (by decide) (by decide) q6_92 (show decode cX12_walked 37 = .ok (.getfield 110, 3) by decide +kernel) (v := .inr (.inr (124 + 1))) rfl ?_
      refine y_bipush (show decode cX12_walked 40 = .ok (.bipush 6, 2) by decide +kernel) rfl rfl ?_
      refine y_aload_n (show decode cX12_walked 42 = .ok (.aload_n 0, 1) by decide +kernel) 0 rfl ?_
      refine y_getf 92 12 61 132 (by decide) rfl (by decide) (by decide) q6_108 (show decode cX12_walked 43 = .ok (.getfield 132, 3) by decide +kernel) (v := .inr (.inr (131 + 1))) rfl ?_
      refine y_iload_n (show decode cX12_walked 46 = .ok (.iload_n 2, 1) by decide +kernel) 2 rfl ?_
      obtain ⟨c12, h⟩ := chkA_some h
      refine yo_iald 131 5 (by decide) rfl c12 (ov_at rfl) (show decode cX12_walked 47 = .ok (.iaload, 1) by decide +kernel) ?_
      obtain ⟨c13, h⟩ := chkI_some h
      refine y_imul (show decode cX12_walked 48 = .ok (.imul, 1) by decide +kernel) c13 ?_
      refine y_aload_n (show decode cX12_walked 49 = .ok (.aload_n 0, 1) by decide +kernel) 0 rfl ?_
      refine y_getf 92 12 56 116 (by decide) rfl (by decide) (by decide) q6_103 (show decode cX12_walked 50 = .ok (.getfield 116, 3) by decide +kernel) (v := .inr (.inr (126 + 1))) rfl ?_
      refine y_iload_n (show decode cX12_walked 53 = .ok (.iload_n 2, 1) by decide +kernel) 2 rfl ?_
      obtain ⟨c14, h⟩ := chkA_some h
      refine yo_iald 126 5 (by decide) rfl c14 (ov_at rfl) (show decode cX12_walked 54 = .ok (.iaload, 1) by decide +kernel) ?_
      obtain ⟨c15, h⟩ := chkI_some h
      refine y_iadd (show decode cX12_walked 55 = .ok (.iadd, 1) by decide +kernel) c15 ?_
      obtain ⟨c16, h⟩ := chkA_some h
      refine yo_iald 124 36 (by decide) rfl c16 (ov_at rfl) (show decode cX12_walked 56 = .ok (.iaload, 1) by decide +kernel) ?_
      obtain ⟨c17, h⟩ := chkI_some h
      refine y_iadd (show decode cX12_walked 57 = .ok (.iadd, 1) by decide +kernel) c17 ?_
      refine y_istore_n (show decode cX12_walked 58 = .ok (.istore_n 1, 1) by decide +kernel) rfl (L1 := [(1, .inl (x1 + (σ 124 (((6 * (σ 131 (x2).toNat)) + (σ 126 (x2).toNat))).toNat))), (0, .inr (.inr (92 + 1))), (2, .inl x2)]) rfl ?_
      obtain ⟨c18, h⟩ := chkI_some h
      refine y_iinc (show decode cX12_walked 59 = .ok (.iinc 2 1, 3) by decide +kernel) 2 rfl c18 rfl (L1 := [(2, .inl (x2 + 1)), (1, .inl (x1 + (σ 124 (((6 * (σ 131 (x2).toNat)) + (σ 126 (x2).toNat))).toNat))), (0, .inr (.inr (92 + 1)))]) rfl ?_
      refine y_goto (tgt := 4) (show decode cX12_walked 62 = .ok (.goto (-58), 3) by decide +kernel) rfl ?_
      refine y_pick [2, 1, 0] rfl ?_
      exact hk3 _ _ h
    · rw [if_neg c11] at h
      refine y_if_ne_f (show decode cX12_walked 28 = .ok (.ifCond .ne 7, 3) by decide +kernel) c11 (by decide) ?_
      refine y_ldcw (k := -1000000) (show decode cX12_walked 31 = .ok (.ldc_w 470, 3) by decide +kernel) q8_49 rfl rfl ?_
      cases h
      exact y_iret (show decode cX12_walked 34 = .ok (.ireturn, 1) by decide +kernel) rfl
abbrev MX12_nextBest : yM := (yX12_nextBest, cX12_nextBest, 6, some .int)
def mo_nextBest (N : Nat) (a : Int) (b : Int) (σ : ySt) : Option (Int × ySt) :=
  bndO (mo_layState N a σ) fun σ2 =>
  loopS1 (fun k5 x3 σ4 =>
    bndO (mo_personMany σ4) fun r7 =>
    if x3 ≥ r7 then
      loopS1 (fun k11 x9 σ10 =>
        bndO (mo_stateMany N σ10) fun r13 =>
        if x9 ≥ r13 then
          some ((-1), σ10)
        else
          bndO (mo_layState N x9 σ10) fun σ16 =>
          bndO (mo_walked N σ16) fun r18 =>
          bnd (fun (y19 : Int) =>
            bnd (chkI (x9 + 1) <|
              k11 (x9 + 1) σ16) fun j21 =>
            if y19 = (-1000000) then
              j21
            else
              chkI (7776 * b) <|
              chkI ((7776 * b) + x9) <|
              chkA 70000 ((7776 * b) + x9) <|
              if ¬ (σ16 128 (((7776 * b) + x9)).toNat) = (-1000000) then
                chkI (7776 * b) <|
                chkI ((7776 * b) + x9) <|
                chkA 70000 ((7776 * b) + x9) <|
                chkI (y19 + (σ16 128 (((7776 * b) + x9)).toNat)) <|
                bnd (fun (y32 : Int) =>
                  chkI ((y19 + (σ16 128 (((7776 * b) + x9)).toNat)) - y32) <|
                  chkI (b - 1) <|
                  chkI (7776 * (b - 1)) <|
                  chkI ((7776 * (b - 1)) + a) <|
                  chkA 70000 ((7776 * (b - 1)) + a) <|
                  if ¬ ((y19 + (σ16 128 (((7776 * b) + x9)).toNat)) - y32) = (σ16 128 (((7776 * (b - 1)) + a)).toNat) then
                    j21
                  else
                    some (x9, σ16)) fun j33 =>
                if ¬ (σ16 92 50) = 2 then
                  j33 0
                else
                  j33 r18
              else
                j21) fun j20 =>
          bnd (j20 (-1000000)) fun j41 =>
          if r18 = (-1000000) then
            j41
          else
            bndO (mo_isLawful N b σ16) fun r44 =>
            if ¬ r44 = 0 then
              bndO (mo_worthNow N b σ16) fun r47 =>
              j20 r47
            else
              j41) N 0 σ4
    else
      chkA 5 x3 <|
      chkA 5 x3 <|
      bnd (yset σ4 131 (x3).toNat (σ4 126 (x3).toNat)) fun σ50 =>
      chkI (x3 + 1) <|
      k5 (x3 + 1) σ50) N 0 σ2
set_option maxHeartbeats 4000000 in
set_option maxRecDepth 10000 in
theorem sh_mo_nextBest {E : yE} {N : Nat} {a : Int} {b : Int} {σ : ySt} {ρ : Int} {τ : ySt} (h : mo_nextBest N a b σ = some (ρ, τ)) : Con E MX12_nextBest 3 0 0 [.inr (.inr (92 + 1)), .inl a, .inl b] 150 (ov σ) (some (.inl ρ)) (ov τ) := by
  unfold mo_nextBest at h
  refine Con.ofY (by decide +kernel) (by simp [yWords, yCat]) (fun hok _ => ?_)
  show Y E MX12_nextBest (yRm 3 0 0) (yQf E (150 + 0) 0 0 (some (.inl ρ)) (ov τ)) 0 [(0, .inr (.inr (92 + 1))), (1, .inl a), (2, .inl b)] [] (ov σ) 150 0 0
  refine y_aload_n (show decode cX12_nextBest 0 = .ok (.aload_n 0, 1) by decide +kernel) 0 rfl ?_
  refine y_iload_n (show decode cX12_nextBest 1 = .ok (.iload_n 1, 1) by decide +kernel) 1 rfl ?_
  obtain ⟨σ2, e1, h⟩ := bndO_some h
  refine y_callV (np := 1) (st := []) (as := [.inl a]) 92 12 (sh_mo_layState e1) q8_65 q8_62 q8_64 qs6_14 q1_15 (by decide) rfl (by decide) rfl (by decide) (by decide +kernel) (by decide) rfl (Nat.le_of_ble_eq_true rfl) (show decode cX12_nextBest 2 = .ok (.invokevirtual 480, 3) by decide +kernel) rfl ?_
  refine y_iconst (show decode cX12_nextBest 5 = .ok (.iconst 0, 1) by decide +kernel) rfl ?_
  refine y_istore_n (show decode cX12_nextBest 6 = .ok (.istore_n 3, 1) by decide +kernel) rfl (L1 := [(3, .inl 0), (0, .inr (.inr (92 + 1))), (1, .inl a), (2, .inl b)]) rfl ?_
  refine y_pick [1, 2, 3, 0] rfl ?_
  refine loopS1_ind (P := fun x3 σ4 => Y E MX12_nextBest (yRm 3 0 0) (yQf E (150 + 0) 0 0 (some (.inl ρ)) (ov τ)) 7 [(0, .inr (.inr (92 + 1))), (1, .inl a), (2, .inl b), (3, .inl x3)] [] (ov σ4) 150 0 0) (fun k5 hk5 x3 σ4 h => ?_) _ _ _  h
  refine y_iload_n (show decode cX12_nextBest 7 = .ok (.iload_n 3, 1) by decide +kernel) 3 rfl ?_
  refine y_aload_n (show decode cX12_nextBest 8 = .ok (.aload_n 0, 1) by decide +kernel) 0 rfl ?_
  obtain ⟨r7, e6, h⟩ := bndO_some h
  refine y_callV (np := 0) (st := [.inl x3]) (as := []) 92 12 (sh_mo_personMany e6) q6_42 q6_39 q6_41 qs4_1 q1_15 (by decide) rfl (by decide) rfl (by decide) (by decide +kernel) (by decide) rfl (Nat.le_of_ble_eq_true rfl) (show decode cX12_nextBest 9 = .ok (.invokevirtual 418, 3) by decide +kernel) rfl ?_
  by_cases c8 : x3 ≥ r7
  · rw [if_pos c8] at h
    refine y_icmp_ge_t (tgt := 33) (show decode cX12_nextBest 12 = .ok (.if_icmp .ge 21, 3) by decide +kernel) rfl c8 ?_
    refine y_iconst (show decode cX12_nextBest 33 = .ok (.iconst 0, 1) by decide +kernel) rfl ?_
    refine y_istore_n (show decode cX12_nextBest 34 = .ok (.istore_n 3, 1) by decide +kernel) rfl (L1 := [(3, .inl 0), (0, .inr (.inr (92 + 1))), (1, .inl a), (2, .inl b)]) rfl ?_
    refine y_pick [1, 2, 3, 0] rfl ?_
    refine loopS1_ind (P := fun x9 σ10 => Y E MX12_nextBest (yRm 3 0 0) (yQf E (150 + 0) 0 0 (some (.inl ρ)) (ov τ)) 35 [(0, .inr (.inr (92 + 1))), (1, .inl a), (2, .inl b), (3, .inl x9)] [] (ov σ10) 150 0 0) (fun k11 hk11 x9 σ10 h => ?_) _ _ _  h
    refine y_iload_n (show decode cX12_nextBest 35 = .ok (.iload_n 3, 1) by decide +kernel) 3 rfl ?_
    refine y_aload_n (show decode cX12_nextBest 36 = .ok (.aload_n 0, 1) by decide +kernel) 0 rfl ?_
    obtain ⟨r13, e12, h⟩ := bndO_some h
    refine y_callV (np := 0) (st := [.inl x9]) (as := []) 92 12 (sh_mo_stateMany e12) q8_57 q8_54 q8_56 qs6_12 q1_15 (by decide) rfl (by decide) rfl (by decide) (by decide +kernel) (by decide) rfl (Nat.le_of_ble_eq_true rfl) (show decode cX12_nextBest 37 = .ok (.invokevirtual 474, 3) by decide +kernel) rfl ?_
    by_cases c14 : x9 ≥ r13
    · rw [if_pos c14] at h
      refine y_icmp_ge_t (tgt := 167) (show decode cX12_nextBest 40 = .ok (.if_icmp .ge 127, 3) by decide +kernel) rfl c14 ?_
      refine y_iconst (show decode cX12_nextBest 167 = .ok (.iconst (-1), 1) by decide +kernel) rfl ?_
      cases h
      exact y_iret (show decode cX12_nextBest 168 = .ok (.ireturn, 1) by decide +kernel) rfl
    · rw [if_neg c14] at h
      refine y_icmp_ge_f (show decode cX12_nextBest 40 = .ok (.if_icmp .ge 127, 3) by decide +kernel) c14 (by decide) ?_
      refine y_aload_n (show decode cX12_nextBest 43 = .ok (.aload_n 0, 1) by decide +kernel) 0 rfl ?_
      refine y_iload_n (show decode cX12_nextBest 44 = .ok (.iload_n 3, 1) by decide +kernel) 3 rfl ?_
      obtain ⟨σ16, e15, h⟩ := bndO_some h
      refine y_callV (np := 1) (st := []) (as := [.inl x9]) 92 12 (sh_mo_layState e15) q8_65 q8_62 q8_64 qs6_14 q1_15 (by decide) rfl (by decide) rfl (by decide) (by decide +kernel) (by decide) rfl (Nat.le_of_ble_eq_true rfl) (show decode cX12_nextBest 45 = .ok (.invokevirtual 480, 3) by decide +kernel) rfl ?_
      refine y_aload_n (show decode cX12_nextBest 48 = .ok (.aload_n 0, 1) by decide +kernel) 0 rfl ?_
      obtain ⟨r18, e17, h⟩ := bndO_some h
      refine y_callV (np := 0) (st := []) (as := []) 92 12 (sh_mo_walked e17) q8_113 q8_110 q8_112 qs7_9 q1_15 (by decide) rfl (by decide) rfl (by decide) (by decide +kernel) (by decide) rfl (Nat.le_of_ble_eq_true rfl) (show decode cX12_nextBest 49 = .ok (.invokevirtual 502, 3) by decide +kernel) rfl ?_
      refine y_istore (show decode cX12_nextBest 52 = .ok (.istore 4, 2) by decide +kernel) rfl (L1 := [(4, .inl r18), (0, .inr (.inr (92 + 1))), (1, .inl a), (2, .inl b), (3, .inl x9)]) rfl ?_
      refine y_iload (show decode cX12_nextBest 54 = .ok (.iload 4, 2) by decide +kernel) 0 rfl ?_
      refine y_ldcw (k := -1000000) (show decode cX12_nextBest 56 = .ok (.ldc_w 470, 3) by decide +kernel) q8_49 rfl rfl ?_
      refine bnd_j (Q := fun j20 => ∀ (y19 : Int), j20 y19 = some (ρ, τ) → Y E MX12_nextBest (yRm 3 0 0) (yQf E (150 + 0) 0 0 (some (.inl ρ)) (ov τ)) 81 [(0, .inr (.inr (92 + 1))), (1, .inl a), (2, .inl b), (3, .inl x9), (4, .inl r18)] [.inl y19] (ov σ16) 150 0 0) (fun y19 h => ?_) (fun j20 hj20 h => ?_) h
      · dsimp only at h
        refine y_istore (show decode cX12_nextBest 81 = .ok (.istore 5, 2) by decide +kernel) rfl (L1 := [(5, .inl y19), (0, .inr (.inr (92 + 1))), (1, .inl a), (2, .inl b), (3, .inl x9), (4, .inl r18)]) rfl ?_
        refine y_iload (show decode cX12_nextBest 83 = .ok (.iload 5, 2) by decide +kernel) 0 rfl ?_
        refine y_ldcw (k := -1000000) (show decode cX12_nextBest 85 = .ok (.ldc_w 470, 3) by decide +kernel) q8_49 rfl rfl ?_
        refine bnd_j (Q := fun j21 => j21 = some (ρ, τ) → Y E MX12_nextBest (yRm 3 0 0) (yQf E (150 + 0) 0 0 (some (.inl ρ)) (ov τ)) 161 [(0, .inr (.inr (92 + 1))), (1, .inl a), (2, .inl b), (3, .inl x9)] [] (ov σ16) 150 0 0) (fun h => ?_) (fun j21 hj21 h => ?_) h
        · obtain ⟨c22, h⟩ := chkI_some h
          refine y_iinc (show decode cX12_nextBest 161 = .ok (.iinc 3 1, 3) by decide +kernel) 3 rfl c22 rfl (L1 := [(3, .inl (x9 + 1)), (0, .inr (.inr (92 + 1))), (1, .inl a), (2, .inl b)]) rfl ?_
          refine y_goto (tgt := 35) (show decode cX12_nextBest 164 = .ok (.goto (-129), 3) by decide +kernel) rfl ?_
          refine y_pick [1, 2, 3, 0] rfl ?_
          exact hk11 _ _ h
        by_cases c23 : y19 = (-1000000)
        · rw [if_pos c23] at h
          refine y_icmp_eq_t (tgt := 161) (show decode cX12_nextBest 88 = .ok (.if_icmp .eq 73, 3) by decide +kernel) rfl c23 ?_
          refine y_pick [1, 2, 3, 4] rfl ?_
          exact hj21 h
        · rw [if_neg c23] at h
          refine y_icmp_eq_f (show decode cX12_nextBest 88 = .ok (.if_icmp .eq 73, 3) by decide +kernel) c23 (by decide) ?_
          refine y_aload_n (show decode cX12_nextBest 91 = .ok (.aload_n 0, 1) by decide +kernel) 1 rfl ?_
          refine y_getf 92 12 58 123 (by decide) rfl (by decide) (by decide) q6_105 (show decode cX12_nextBest 92 = .ok (.getfield 123, 3) by decide +kernel) (v := .inr (.inr (128 + 1))) rfl ?_
          refine y_sipush (show decode cX12_nextBest 95 = .ok (.sipush 7776, 3) by decide +kernel) rfl rfl ?_
          refine y_iload_n (show decode cX12_nextBest 98 = .ok (.iload_n 2, 1) by decide +kernel) 3 rfl ?_
          obtain ⟨c24, h⟩ := chkI_some h
          refine y_imul (show decode cX12_nextBest 99 = .ok (.imul, 1) by decide +kernel) c24 ?_
          refine y_iload_n (show decode cX12_nextBest 100 = .ok (.iload_n 3, 1) by decide +kernel) 4 rfl ?_
          obtain ⟨c25, h⟩ := chkI_some h
          refine y_iadd (show decode cX12_nextBest 101 = .ok (.iadd, 1) by decide +kernel) c25 ?_
          obtain ⟨c26, h⟩ := chkA_some h
          refine yo_iald 128 70000 (by decide) rfl c26 (ov_at rfl) (show decode cX12_nextBest 102 = .ok (.iaload, 1) by decide +kernel) ?_
          refine y_ldcw (k := -1000000) (show decode cX12_nextBest 103 = .ok (.ldc_w 470, 3) by decide +kernel) q8_49 rfl rfl ?_
          by_cases c27 : ¬ (σ16 128 (((7776 * b) + x9)).toNat) = (-1000000)
          · rw [if_pos c27] at h
            refine y_icmp_ne_t (tgt := 112) (show decode cX12_nextBest 106 = .ok (.if_icmp .ne 6, 3) by decide +kernel) rfl c27 ?_
            refine y_iload (show decode cX12_nextBest 112 = .ok (.iload 5, 2) by decide +kernel) 0 rfl ?_
            refine y_aload_n (show decode cX12_nextBest 114 = .ok (.aload_n 0, 1) by decide +kernel) 1 rfl ?_
            refine y_getf 92 12 58 123 (by decide) rfl (by decide) (by decide) q6_105 (show decode cX12_nextBest 115 = .ok (.getfield 123, 3) by decide +kernel) (v := .inr (.inr (128 + 1))) rfl ?_
            refine y_sipush (show decode cX12_nextBest 118 = .ok (.sipush 7776, 3) by decide +kernel) rfl rfl ?_
            refine y_iload_n (show decode cX12_nextBest 121 = .ok (.iload_n 2, 1) by decide +kernel) 3 rfl ?_
            obtain ⟨c28, h⟩ := chkI_some h
            refine y_imul (show decode cX12_nextBest 122 = .ok (.imul, 1) by decide +kernel) c28 ?_
            refine y_iload_n (show decode cX12_nextBest 123 = .ok (.iload_n 3, 1) by decide +kernel) 4 rfl ?_
            obtain ⟨c29, h⟩ := chkI_some h
            refine y_iadd (show decode cX12_nextBest 124 = .ok (.iadd, 1) by decide +kernel) c29 ?_
            obtain ⟨c30, h⟩ := chkA_some h
            refine yo_iald 128 70000 (by decide) rfl c30 (ov_at rfl) (show decode cX12_nextBest 125 = .ok (.iaload, 1) by decide +kernel) ?_
            obtain ⟨c31, h⟩ := chkI_some h
            refine y_iadd (show decode cX12_nextBest 126 = .ok (.iadd, 1) by decide +kernel) c31 ?_
            refine y_aload_n (show decode cX12_nextBest 127 = .ok (.aload_n 0, 1) by decide +kernel) 1 rfl ?_
            refine y_getf 92 12 50 467 (by decide) rfl (by decide) (by decide) q6_97 (show decode cX12_nextBest 128 = .ok (.getfield 467, 3) by decide +kernel) (v := .inl (σ16 92 50)) rfl ?_
            refine y_iconst (show decode cX12_nextBest 131 = .ok (.iconst 2, 1) by decide +kernel) rfl ?_
            refine bnd_j (Q := fun j33 => ∀ (y32 : Int), j33 y32 = some (ρ, τ) → Y E MX12_nextBest (yRm 3 0 0) (yQf E (150 + 0) 0 0 (some (.inl ρ)) (ov τ)) 141 [(0, .inr (.inr (92 + 1))), (1, .inl a), (2, .inl b), (3, .inl x9)] [.inl y32, .inl (y19 + (σ16 128 (((7776 * b) + x9)).toNat))] (ov σ16) 150 0 0) (fun y32 h => ?_) (fun j33 hj33 h => ?_) h
            · dsimp only at h
              obtain ⟨c34, h⟩ := chkI_some h
              refine y_isub (show decode cX12_nextBest 141 = .ok (.isub, 1) by decide +kernel) c34 ?_
              refine y_aload_n (show decode cX12_nextBest 142 = .ok (.aload_n 0, 1) by decide +kernel) 0 rfl ?_
              refine y_getf 92 12 58 123 (by decide) rfl (by decide) (by decide) q6_105 (show decode cX12_nextBest 143 = .ok (.getfield 123, 3) by decide +kernel) (v := .inr (.inr (128 + 1))) rfl ?_
              refine y_sipush (show decode cX12_nextBest 146 = .ok (.sipush 7776, 3) by decide +kernel) rfl rfl ?_
              refine y_iload_n (show decode cX12_nextBest 149 = .ok (.iload_n 2, 1) by decide +kernel) 2 rfl ?_
              refine y_iconst (show decode cX12_nextBest 150 = .ok (.iconst 1, 1) by decide +kernel) rfl ?_
              obtain ⟨c35, h⟩ := chkI_some h
              refine y_isub (show decode cX12_nextBest 151 = .ok (.isub, 1) by decide +kernel) c35 ?_
              obtain ⟨c36, h⟩ := chkI_some h
              refine y_imul (show decode cX12_nextBest 152 = .ok (.imul, 1) by decide +kernel) c36 ?_
              refine y_iload_n (show decode cX12_nextBest 153 = .ok (.iload_n 1, 1) by decide +kernel) 1 rfl ?_
              obtain ⟨c37, h⟩ := chkI_some h
              refine y_iadd (show decode cX12_nextBest 154 = .ok (.iadd, 1) by decide +kernel) c37 ?_
              obtain ⟨c38, h⟩ := chkA_some h
              refine yo_iald 128 70000 (by decide) rfl c38 (ov_at rfl) (show decode cX12_nextBest 155 = .ok (.iaload, 1) by decide +kernel) ?_
              by_cases c39 : ¬ ((y19 + (σ16 128 (((7776 * b) + x9)).toNat)) - y32) = (σ16 128 (((7776 * (b - 1)) + a)).toNat)
              · rw [if_pos c39] at h
                refine y_icmp_ne_t (tgt := 161) (show decode cX12_nextBest 156 = .ok (.if_icmp .ne 5, 3) by decide +kernel) rfl c39 ?_
                refine y_pick [0, 1, 2, 3] rfl ?_
                exact hj21 h
              · rw [if_neg c39] at h
                refine y_icmp_ne_f (show decode cX12_nextBest 156 = .ok (.if_icmp .ne 5, 3) by decide +kernel) c39 (by decide) ?_
                refine y_iload_n (show decode cX12_nextBest 159 = .ok (.iload_n 3, 1) by decide +kernel) 3 rfl ?_
                cases h
                exact y_iret (show decode cX12_nextBest 160 = .ok (.ireturn, 1) by decide +kernel) rfl
            by_cases c40 : ¬ (σ16 92 50) = 2
            · rw [if_pos c40] at h
              refine y_icmp_ne_t (tgt := 140) (show decode cX12_nextBest 132 = .ok (.if_icmp .ne 8, 3) by decide +kernel) rfl c40 ?_
              refine y_iconst (show decode cX12_nextBest 140 = .ok (.iconst 0, 1) by decide +kernel) rfl ?_
              refine y_pick [1, 2, 3, 4] rfl ?_
              exact hj33 _ h
            · rw [if_neg c40] at h
              refine y_icmp_ne_f (show decode cX12_nextBest 132 = .ok (.if_icmp .ne 8, 3) by decide +kernel) c40 (by decide) ?_
              refine y_iload (show decode cX12_nextBest 135 = .ok (.iload 4, 2) by decide +kernel) 5 rfl ?_
              refine y_goto (tgt := 141) (show decode cX12_nextBest 137 = .ok (.goto 4, 3) by decide +kernel) rfl ?_
              refine y_pick [1, 2, 3, 4] rfl ?_
              exact hj33 _ h
          · rw [if_neg c27] at h
            refine y_icmp_ne_f (show decode cX12_nextBest 106 = .ok (.if_icmp .ne 6, 3) by decide +kernel) c27 (by decide) ?_
            refine y_goto (tgt := 161) (show decode cX12_nextBest 109 = .ok (.goto 52, 3) by decide +kernel) rfl ?_
            refine y_pick [1, 2, 3, 4] rfl ?_
            exact hj21 h
      refine bnd_j (Q := fun j41 => j41 = some (ρ, τ) → Y E MX12_nextBest (yRm 3 0 0) (yQf E (150 + 0) 0 0 (some (.inl ρ)) (ov τ)) 70 [(0, .inr (.inr (92 + 1))), (1, .inl a), (2, .inl b), (3, .inl x9), (4, .inl r18)] [] (ov σ16) 150 0 0) (fun h => ?_) (fun j41 hj41 h => ?_) h
      · refine y_ldcw (k := -1000000) (show decode cX12_nextBest 70 = .ok (.ldc_w 470, 3) by decide +kernel) q8_49 rfl rfl ?_
        refine y_goto (tgt := 81) (show decode cX12_nextBest 73 = .ok (.goto 8, 3) by decide +kernel) rfl ?_
        refine y_pick [0, 1, 2, 3, 4] rfl ?_
        exact hj20 _ h
      by_cases c42 : r18 = (-1000000)
      · rw [if_pos c42] at h
        refine y_icmp_eq_t (tgt := 70) (show decode cX12_nextBest 59 = .ok (.if_icmp .eq 11, 3) by decide +kernel) rfl c42 ?_
        refine y_pick [1, 2, 3, 4, 0] rfl ?_
        exact hj41 h
      · rw [if_neg c42] at h
        refine y_icmp_eq_f (show decode cX12_nextBest 59 = .ok (.if_icmp .eq 11, 3) by decide +kernel) c42 (by decide) ?_
        refine y_aload_n (show decode cX12_nextBest 62 = .ok (.aload_n 0, 1) by decide +kernel) 1 rfl ?_
        refine y_iload_n (show decode cX12_nextBest 63 = .ok (.iload_n 2, 1) by decide +kernel) 3 rfl ?_
        obtain ⟨r44, e43, h⟩ := bndO_some h
        refine y_callV (np := 1) (st := []) (as := [.inl b]) 92 12 (sh_mo_isLawful e43) q8_69 q8_66 q8_68 qs6_15 q1_15 (by decide) rfl (by decide) rfl (by decide) (by decide +kernel) (by decide) rfl (Nat.le_of_ble_eq_true rfl) (show decode cX12_nextBest 64 = .ok (.invokevirtual 484, 3) by decide +kernel) rfl ?_
        by_cases c45 : ¬ r44 = 0
        · rw [if_pos c45] at h
          refine y_if_ne_t (tgt := 76) (show decode cX12_nextBest 67 = .ok (.ifCond .ne 9, 3) by decide +kernel) rfl c45 ?_
          refine y_aload_n (show decode cX12_nextBest 76 = .ok (.aload_n 0, 1) by decide +kernel) 1 rfl ?_
          refine y_iload_n (show decode cX12_nextBest 77 = .ok (.iload_n 2, 1) by decide +kernel) 3 rfl ?_
          obtain ⟨r47, e46, h⟩ := bndO_some h
          refine y_callV (np := 1) (st := []) (as := [.inl b]) 92 12 (sh_mo_worthNow e46) q8_73 q8_70 q8_72 qs7_0 q1_15 (by decide) rfl (by decide) rfl (by decide) (by decide +kernel) (by decide) rfl (Nat.le_of_ble_eq_true rfl) (show decode cX12_nextBest 78 = .ok (.invokevirtual 487, 3) by decide +kernel) rfl ?_
          refine y_pick [1, 2, 3, 4, 0] rfl ?_
          exact hj20 _ h
        · rw [if_neg c45] at h
          refine y_if_ne_f (show decode cX12_nextBest 67 = .ok (.ifCond .ne 9, 3) by decide +kernel) c45 (by decide) ?_
          refine y_pick [1, 2, 3, 4, 0] rfl ?_
          exact hj41 h
  · rw [if_neg c8] at h
    refine y_icmp_ge_f (show decode cX12_nextBest 12 = .ok (.if_icmp .ge 21, 3) by decide +kernel) c8 (by decide) ?_
    refine y_aload_n (show decode cX12_nextBest 15 = .ok (.aload_n 0, 1) by decide +kernel) 0 rfl ?_
    refine y_getf 92 12 61 132 (by decide) rfl (by decide) (by decide) q6_108 (show decode cX12_nextBest 16 = .ok (.getfield 132, 3) by decide +kernel) (v := .inr (.inr (131 + 1))) rfl ?_
    refine y_iload_n (show decode cX12_nextBest 19 = .ok (.iload_n 3, 1) by decide +kernel) 3 rfl ?_
    refine y_aload_n (show decode cX12_nextBest 20 = .ok (.aload_n 0, 1) by decide +kernel) 0 rfl ?_
    refine y_getf 92 12 56 116 (by decide) rfl (by decide) (by decide) q6_103 (show decode cX12_nextBest 21 = .ok (.getfield 116, 3) by decide +kernel) (v := .inr (.inr (126 + 1))) rfl ?_
    refine y_iload_n (show decode cX12_nextBest 24 = .ok (.iload_n 3, 1) by decide +kernel) 3 rfl ?_
    obtain ⟨c48, h⟩ := chkA_some h
    refine yo_iald 126 5 (by decide) rfl c48 (ov_at rfl) (show decode cX12_nextBest 25 = .ok (.iaload, 1) by decide +kernel) ?_
    obtain ⟨c49, h⟩ := chkA_some h
    obtain ⟨σ50, e51, h⟩ := bnd_i h
    refine yo_iast 131 5 (by decide) rfl c49 (ov_set1 e51 rfl) (show decode cX12_nextBest 26 = .ok (.iastore, 1) by decide +kernel) ?_
    obtain ⟨c52, h⟩ := chkI_some h
    refine y_iinc (show decode cX12_nextBest 27 = .ok (.iinc 3 1, 3) by decide +kernel) 3 rfl c52 rfl (L1 := [(3, .inl (x3 + 1)), (0, .inr (.inr (92 + 1))), (1, .inl a), (2, .inl b)]) rfl ?_
    refine y_goto (tgt := 7) (show decode cX12_nextBest 30 = .ok (.goto (-23), 3) by decide +kernel) rfl ?_
    refine y_pick [1, 2, 3, 0] rfl ?_
    exact hk5 _ _ h
abbrev MX12_bestAt : yM := (yX12_bestAt, cX12_bestAt, 6, some .int)
def mo_bestAt (N : Nat) (a : Int) (b : Int) (c : Int) (σ : ySt) : Option (Int × ySt) :=
  bndO (mo_isWhat a σ) fun r2 =>
  if r2 = 0 then
    some ((-1), σ)
  else
    chkA 2 (σ 92 40) <|
    bndO (mo_isIn b 1 (σ 101 ((σ 92 40)).toNat) σ) fun r6 =>
    if r6 = 0 then
      some ((-1), σ)
    else
      bndO (mo_isPerson c σ) fun r9 =>
      if ¬ r9 = 0 then
        bndO (mo_plain σ) fun σ12 =>
        bndR (mo_findBest N a σ12) fun r14 σ15 =>
        if ¬ r14 = (-1000000) then
          bndO (mo_homeState N σ15) fun r18 =>
          loopS2 (fun k22 x19 x20 σ21 =>
            if x20 > b then
              bndO (mo_layState N x19 σ21) fun σ25 =>
              chkA 5 c <|
              some ((σ25 126 (c).toNat), σ25)
            else
              bndR (mo_nextBest N x19 x20 σ21) fun r28 σ29 =>
              chkI (x20 + 1) <|
              k22 r28 (x20 + 1) σ29) N r18 1 σ15
        else
          some ((-1), σ15)
      else
        some ((-1), σ)
set_option maxHeartbeats 4000000 in
set_option maxRecDepth 10000 in
theorem sh_mo_bestAt {E : yE} {N : Nat} {a : Int} {b : Int} {c : Int} {σ : ySt} {ρ : Int} {τ : ySt} (h : mo_bestAt N a b c σ = some (ρ, τ)) : Con E MX12_bestAt 5 0 0 [.inr (.inr (92 + 1)), .inl a, .inl b, .inl c] 150 (ov σ) (some (.inl ρ)) (ov τ) := by
  unfold mo_bestAt at h
  refine Con.ofY (by decide +kernel) (by simp [yWords, yCat]) (fun hok _ => ?_)
  show Y E MX12_bestAt (yRm 5 0 0) (yQf E (150 + 0) 0 0 (some (.inl ρ)) (ov τ)) 0 [(0, .inr (.inr (92 + 1))), (1, .inl a), (2, .inl b), (3, .inl c)] [] (ov σ) 150 0 0
  refine y_iload_n (show decode cX12_bestAt 0 = .ok (.iload_n 1, 1) by decide +kernel) 1 rfl ?_
  obtain ⟨r2, e1, h⟩ := bndO_some h
  refine y_callS (np := 1) (st := []) (as := [.inl a]) (sh_mo_isWhat e1) q8_48 q8_46 q8_47 q1_15 (by decide) (by decide +kernel) (by decide) rfl (Nat.le_of_ble_eq_true rfl) (show decode cX12_bestAt 1 = .ok (.invokestatic 496, 3) by decide +kernel) rfl ?_
  by_cases c3 : r2 = 0
  · rw [if_pos c3] at h
    refine y_if_eq_t (tgt := 32) (show decode cX12_bestAt 4 = .ok (.ifCond .eq 28, 3) by decide +kernel) rfl c3 ?_
    refine y_iconst (show decode cX12_bestAt 32 = .ok (.iconst (-1), 1) by decide +kernel) rfl ?_
    cases h
    exact y_iret (show decode cX12_bestAt 33 = .ok (.ireturn, 1) by decide +kernel) rfl
  · rw [if_neg c3] at h
    refine y_if_eq_f (show decode cX12_bestAt 4 = .ok (.ifCond .eq 28, 3) by decide +kernel) c3 (by decide) ?_
    refine y_iload_n (show decode cX12_bestAt 7 = .ok (.iload_n 2, 1) by decide +kernel) 2 rfl ?_
    refine y_iconst (show decode cX12_bestAt 8 = .ok (.iconst 1, 1) by decide +kernel) rfl ?_
    refine y_aload_n (show decode cX12_bestAt 9 = .ok (.aload_n 0, 1) by decide +kernel) 0 rfl ?_
    refine y_getf 92 12 17 39 (by decide) rfl (by decide) (by decide) q6_64 (show decode cX12_bestAt 10 = .ok (.getfield 39, 3) by decide +kernel) (v := .inr (.inr (101 + 1))) rfl ?_
    refine y_aload_n (show decode cX12_bestAt 13 = .ok (.aload_n 0, 1) by decide +kernel) 0 rfl ?_
    refine y_getf 92 12 40 311 (by decide) rfl (by decide) (by decide) q6_87 (show decode cX12_bestAt 14 = .ok (.getfield 311, 3) by decide +kernel) (v := .inl (σ 92 40)) rfl ?_
    obtain ⟨c4, h⟩ := chkA_some h
    refine yo_iald 101 2 (by decide) rfl c4 (ov_at rfl) (show decode cX12_bestAt 17 = .ok (.iaload, 1) by decide +kernel) ?_
    obtain ⟨r6, e5, h⟩ := bndO_some h
    refine y_callS (np := 3) (st := []) (as := [.inl b, .inl 1, .inl (σ 101 ((σ 92 40)).toNat)]) (sh_mo_isIn e5) q8_18 q8_16 q8_17 q1_15 (by decide) (by decide +kernel) (by decide) rfl (Nat.le_of_ble_eq_true rfl) (show decode cX12_bestAt 18 = .ok (.invokestatic 414, 3) by decide +kernel) rfl ?_
    by_cases c7 : r6 = 0
    · rw [if_pos c7] at h
      refine y_if_eq_t (tgt := 32) (show decode cX12_bestAt 21 = .ok (.ifCond .eq 11, 3) by decide +kernel) rfl c7 ?_
      refine y_iconst (show decode cX12_bestAt 32 = .ok (.iconst (-1), 1) by decide +kernel) rfl ?_
      cases h
      exact y_iret (show decode cX12_bestAt 33 = .ok (.ireturn, 1) by decide +kernel) rfl
    · rw [if_neg c7] at h
      refine y_if_eq_f (show decode cX12_bestAt 21 = .ok (.ifCond .eq 11, 3) by decide +kernel) c7 (by decide) ?_
      refine y_aload_n (show decode cX12_bestAt 24 = .ok (.aload_n 0, 1) by decide +kernel) 0 rfl ?_
      refine y_iload_n (show decode cX12_bestAt 25 = .ok (.iload_n 3, 1) by decide +kernel) 3 rfl ?_
      obtain ⟨r9, e8, h⟩ := bndO_some h
      refine y_callV (np := 1) (st := []) (as := [.inl c]) 92 12 (sh_mo_isPerson e8) q8_105 q8_102 q8_104 qs7_7 q1_15 (by decide) rfl (by decide) rfl (by decide) (by decide +kernel) (by decide) rfl (Nat.le_of_ble_eq_true rfl) (show decode cX12_bestAt 26 = .ok (.invokevirtual 505, 3) by decide +kernel) rfl ?_
      by_cases c10 : ¬ r9 = 0
      · rw [if_pos c10] at h
        refine y_if_ne_t (tgt := 34) (show decode cX12_bestAt 29 = .ok (.ifCond .ne 5, 3) by decide +kernel) rfl c10 ?_
        refine y_aload_n (show decode cX12_bestAt 34 = .ok (.aload_n 0, 1) by decide +kernel) 0 rfl ?_
        obtain ⟨σ12, e11, h⟩ := bndO_some h
        refine y_callV (np := 0) (st := []) (as := []) 92 12 (sh_mo_plain e11) q8_22 q8_19 q8_21 qs6_7 q1_15 (by decide) rfl (by decide) rfl (by decide) (by decide +kernel) (by decide) rfl (Nat.le_of_ble_eq_true rfl) (show decode cX12_bestAt 35 = .ok (.invokevirtual 451, 3) by decide +kernel) rfl ?_
        refine y_aload_n (show decode cX12_bestAt 38 = .ok (.aload_n 0, 1) by decide +kernel) 0 rfl ?_
        refine y_iload_n (show decode cX12_bestAt 39 = .ok (.iload_n 1, 1) by decide +kernel) 1 rfl ?_
        obtain ⟨r14, σ15, e13, h⟩ := bndR_some h
        refine y_callV (np := 1) (st := []) (as := [.inl a]) 92 12 (sh_mo_findBest e13) q8_53 q8_50 q8_52 qs6_11 q1_15 (by decide) rfl (by decide) rfl (by decide) (by decide +kernel) (by decide) rfl (Nat.le_of_ble_eq_true rfl) (show decode cX12_bestAt 40 = .ok (.invokevirtual 499, 3) by decide +kernel) rfl ?_
        refine y_ldcw (k := -1000000) (show decode cX12_bestAt 43 = .ok (.ldc_w 470, 3) by decide +kernel) q8_49 rfl rfl ?_
        by_cases c16 : ¬ r14 = (-1000000)
        · rw [if_pos c16] at h
          refine y_icmp_ne_t (tgt := 51) (show decode cX12_bestAt 46 = .ok (.if_icmp .ne 5, 3) by decide +kernel) rfl c16 ?_
          refine y_aload_n (show decode cX12_bestAt 51 = .ok (.aload_n 0, 1) by decide +kernel) 0 rfl ?_
          obtain ⟨r18, e17, h⟩ := bndO_some h
          refine y_callV (np := 0) (st := []) (as := []) 92 12 (sh_mo_homeState e17) q8_97 q8_94 q8_96 qs7_6 q1_15 (by decide) rfl (by decide) rfl (by decide) (by decide +kernel) (by decide) rfl (Nat.le_of_ble_eq_true rfl) (show decode cX12_bestAt 52 = .ok (.invokevirtual 493, 3) by decide +kernel) rfl ?_
          refine y_istore (show decode cX12_bestAt 55 = .ok (.istore 4, 2) by decide +kernel) rfl (L1 := [(4, .inl r18), (0, .inr (.inr (92 + 1))), (1, .inl a), (2, .inl b), (3, .inl c)]) rfl ?_
          refine y_iconst (show decode cX12_bestAt 57 = .ok (.iconst 1, 1) by decide +kernel) rfl ?_
          refine y_istore (show decode cX12_bestAt 58 = .ok (.istore 5, 2) by decide +kernel) rfl (L1 := [(5, .inl 1), (4, .inl r18), (0, .inr (.inr (92 + 1))), (1, .inl a), (2, .inl b), (3, .inl c)]) rfl ?_
          refine y_pick [2, 4, 5, 1, 0] rfl ?_
          refine loopS2_ind (P := fun x19 x20 σ21 => Y E MX12_bestAt (yRm 5 0 0) (yQf E (150 + 0) 0 0 (some (.inl ρ)) (ov τ)) 60 [(0, .inr (.inr (92 + 1))), (2, .inl b), (3, .inl c), (4, .inl x19), (5, .inl x20)] [] (ov σ21) 150 0 0) (fun k22 hk22 x19 x20 σ21 h => ?_) _ _ _ _  h
          refine y_iload (show decode cX12_bestAt 60 = .ok (.iload 5, 2) by decide +kernel) 4 rfl ?_
          refine y_iload_n (show decode cX12_bestAt 62 = .ok (.iload_n 2, 1) by decide +kernel) 1 rfl ?_
          by_cases c23 : x20 > b
          · rw [if_pos c23] at h
            refine y_icmp_gt_t (tgt := 82) (show decode cX12_bestAt 63 = .ok (.if_icmp .gt 19, 3) by decide +kernel) rfl c23 ?_
            refine y_aload_n (show decode cX12_bestAt 82 = .ok (.aload_n 0, 1) by decide +kernel) 0 rfl ?_
            refine y_iload (show decode cX12_bestAt 83 = .ok (.iload 4, 2) by decide +kernel) 3 rfl ?_
            obtain ⟨σ25, e24, h⟩ := bndO_some h
            refine y_callV (np := 1) (st := []) (as := [.inl x19]) 92 12 (sh_mo_layState e24) q8_65 q8_62 q8_64 qs6_14 q1_15 (by decide) rfl (by decide) rfl (by decide) (by decide +kernel) (by decide) rfl (Nat.le_of_ble_eq_true rfl) (show decode cX12_bestAt 85 = .ok (.invokevirtual 480, 3) by decide +kernel) rfl ?_
            refine y_aload_n (show decode cX12_bestAt 88 = .ok (.aload_n 0, 1) by decide +kernel) 0 rfl ?_
            refine y_getf 92 12 56 116 (by decide) rfl (by decide) (by decide) q6_103 (show decode cX12_bestAt 89 = .ok (.getfield 116, 3) by decide +kernel) (v := .inr (.inr (126 + 1))) rfl ?_
            refine y_iload_n (show decode cX12_bestAt 92 = .ok (.iload_n 3, 1) by decide +kernel) 2 rfl ?_
            obtain ⟨c26, h⟩ := chkA_some h
            refine yo_iald 126 5 (by decide) rfl c26 (ov_at rfl) (show decode cX12_bestAt 93 = .ok (.iaload, 1) by decide +kernel) ?_
            cases h
            exact y_iret (show decode cX12_bestAt 94 = .ok (.ireturn, 1) by decide +kernel) rfl
          · rw [if_neg c23] at h
            refine y_icmp_gt_f (show decode cX12_bestAt 63 = .ok (.if_icmp .gt 19, 3) by decide +kernel) c23 (by decide) ?_
            refine y_aload_n (show decode cX12_bestAt 66 = .ok (.aload_n 0, 1) by decide +kernel) 0 rfl ?_
            refine y_iload (show decode cX12_bestAt 67 = .ok (.iload 4, 2) by decide +kernel) 3 rfl ?_
            refine y_iload (show decode cX12_bestAt 69 = .ok (.iload 5, 2) by decide +kernel) 4 rfl ?_
            obtain ⟨r28, σ29, e27, h⟩ := bndR_some h
            refine y_callV (np := 2) (st := []) (as := [.inl x19, .inl x20]) 92 12 (sh_mo_nextBest e27) q8_109 q8_106 q8_108 qs7_8 q1_15 (by decide) rfl (by decide) rfl (by decide) (by decide +kernel) (by decide) rfl (Nat.le_of_ble_eq_true rfl) (show decode cX12_bestAt 71 = .ok (.invokevirtual 508, 3) by decide +kernel) rfl ?_
            refine y_istore (show decode cX12_bestAt 74 = .ok (.istore 4, 2) by decide +kernel) rfl (L1 := [(4, .inl r28), (0, .inr (.inr (92 + 1))), (2, .inl b), (3, .inl c), (5, .inl x20)]) rfl ?_
            obtain ⟨c30, h⟩ := chkI_some h
            refine y_iinc (show decode cX12_bestAt 76 = .ok (.iinc 5 1, 3) by decide +kernel) 4 rfl c30 rfl (L1 := [(5, .inl (x20 + 1)), (4, .inl r28), (0, .inr (.inr (92 + 1))), (2, .inl b), (3, .inl c)]) rfl ?_
            refine y_goto (tgt := 60) (show decode cX12_bestAt 79 = .ok (.goto (-19), 3) by decide +kernel) rfl ?_
            refine y_pick [2, 3, 4, 1, 0] rfl ?_
            exact hk22 _ _ _ h
        · rw [if_neg c16] at h
          refine y_icmp_ne_f (show decode cX12_bestAt 46 = .ok (.if_icmp .ne 5, 3) by decide +kernel) c16 (by decide) ?_
          refine y_iconst (show decode cX12_bestAt 49 = .ok (.iconst (-1), 1) by decide +kernel) rfl ?_
          cases h
          exact y_iret (show decode cX12_bestAt 50 = .ok (.ireturn, 1) by decide +kernel) rfl
      · rw [if_neg c10] at h
        refine y_if_ne_f (show decode cX12_bestAt 29 = .ok (.ifCond .ne 5, 3) by decide +kernel) c10 (by decide) ?_
        refine y_iconst (show decode cX12_bestAt 32 = .ok (.iconst (-1), 1) by decide +kernel) rfl ?_
        cases h
        exact y_iret (show decode cX12_bestAt 33 = .ok (.ireturn, 1) by decide +kernel) rfl
abbrev MX12_breaks : yM := (yX12_breaks, cX12_breaks, 7, some .int)
def mo_breaks (N : Nat) (a : Int) (b : Int) (σ : ySt) : Option (Int × ySt) :=
  bndO (mo_isWhat a σ) fun r2 =>
  bnd (some ((-1000000), σ)) fun j3 =>
  if r2 = 0 then
    j3
  else
    bndO (mo_isIn b (-1) 0 σ) fun r6 =>
    if ¬ r6 = 0 then
      bndO (mo_plain σ) fun σ9 =>
      loopS3 (fun k14 x10 x11 x12 σ13 =>
        chkA 2 (σ13 92 40) <|
        if x12 > (σ13 101 ((σ13 92 40)).toNat) then
          if ¬ b = (-1) then
            some (x11, σ13)
          else
            some (x10, σ13)
        else
          bnd (yset σ13 92 51 x12) fun σ18 =>
          bndR (mo_findBest N a σ18) fun r21 σ22 =>
          bnd (fun (y23 : Int) (y24 : Int) =>
            chkI (x12 + 1) <|
            k14 y23 y24 (x12 + 1) σ22) fun j25 =>
          if r21 = (-1000000) then
            j25 x10 x11
          else
            bnd (j25 r21 x12) fun j28 =>
            if x10 = (-1000000) then
              j28
            else
              if r21 > x10 then
                j28
              else
                j25 x10 x11) N (-1000000) (-1000000) 1 σ9
    else
      j3
set_option maxHeartbeats 4000000 in
set_option maxRecDepth 10000 in
theorem sh_mo_breaks {E : yE} {N : Nat} {a : Int} {b : Int} {σ : ySt} {ρ : Int} {τ : ySt} (h : mo_breaks N a b σ = some (ρ, τ)) : Con E MX12_breaks 5 0 0 [.inr (.inr (92 + 1)), .inl a, .inl b] 150 (ov σ) (some (.inl ρ)) (ov τ) := by
  unfold mo_breaks at h
  refine Con.ofY (by decide +kernel) (by simp [yWords, yCat]) (fun hok _ => ?_)
  show Y E MX12_breaks (yRm 5 0 0) (yQf E (150 + 0) 0 0 (some (.inl ρ)) (ov τ)) 0 [(0, .inr (.inr (92 + 1))), (1, .inl a), (2, .inl b)] [] (ov σ) 150 0 0
  refine y_iload_n (show decode cX12_breaks 0 = .ok (.iload_n 1, 1) by decide +kernel) 1 rfl ?_
  obtain ⟨r2, e1, h⟩ := bndO_some h
  refine y_callS (np := 1) (st := []) (as := [.inl a]) (sh_mo_isWhat e1) q8_48 q8_46 q8_47 q1_15 (by decide) (by decide +kernel) (by decide) rfl (Nat.le_of_ble_eq_true rfl) (show decode cX12_breaks 1 = .ok (.invokestatic 496, 3) by decide +kernel) rfl ?_
  refine bnd_j (Q := fun j3 => j3 = some (ρ, τ) → Y E MX12_breaks (yRm 5 0 0) (yQf E (150 + 0) 0 0 (some (.inl ρ)) (ov τ)) 16 [] [] (ov σ) 150 0 0) (fun h => ?_) (fun j3 hj3 h => ?_) h
  · refine y_ldcw (k := -1000000) (show decode cX12_breaks 16 = .ok (.ldc_w 470, 3) by decide +kernel) q8_49 rfl rfl ?_
    cases h
    exact y_iret (show decode cX12_breaks 19 = .ok (.ireturn, 1) by decide +kernel) rfl
  by_cases c4 : r2 = 0
  · rw [if_pos c4] at h
    refine y_if_eq_t (tgt := 16) (show decode cX12_breaks 4 = .ok (.ifCond .eq 12, 3) by decide +kernel) rfl c4 ?_
    refine y_pick [] rfl ?_
    exact hj3 h
  · rw [if_neg c4] at h
    refine y_if_eq_f (show decode cX12_breaks 4 = .ok (.ifCond .eq 12, 3) by decide +kernel) c4 (by decide) ?_
    refine y_iload_n (show decode cX12_breaks 7 = .ok (.iload_n 2, 1) by decide +kernel) 2 rfl ?_
    refine y_iconst (show decode cX12_breaks 8 = .ok (.iconst (-1), 1) by decide +kernel) rfl ?_
    refine y_iconst (show decode cX12_breaks 9 = .ok (.iconst 0, 1) by decide +kernel) rfl ?_
    obtain ⟨r6, e5, h⟩ := bndO_some h
    refine y_callS (np := 3) (st := []) (as := [.inl b, .inl (-1), .inl 0]) (sh_mo_isIn e5) q8_18 q8_16 q8_17 q1_15 (by decide) (by decide +kernel) (by decide) rfl (Nat.le_of_ble_eq_true rfl) (show decode cX12_breaks 10 = .ok (.invokestatic 414, 3) by decide +kernel) rfl ?_
    by_cases c7 : ¬ r6 = 0
    · rw [if_pos c7] at h
      refine y_if_ne_t (tgt := 20) (show decode cX12_breaks 13 = .ok (.ifCond .ne 7, 3) by decide +kernel) rfl c7 ?_
      refine y_aload_n (show decode cX12_breaks 20 = .ok (.aload_n 0, 1) by decide +kernel) 0 rfl ?_
      obtain ⟨σ9, e8, h⟩ := bndO_some h
      refine y_callV (np := 0) (st := []) (as := []) 92 12 (sh_mo_plain e8) q8_22 q8_19 q8_21 qs6_7 q1_15 (by decide) rfl (by decide) rfl (by decide) (by decide +kernel) (by decide) rfl (Nat.le_of_ble_eq_true rfl) (show decode cX12_breaks 21 = .ok (.invokevirtual 451, 3) by decide +kernel) rfl ?_
      refine y_ldcw (k := -1000000) (show decode cX12_breaks 24 = .ok (.ldc_w 470, 3) by decide +kernel) q8_49 rfl rfl ?_
      refine y_istore_n (show decode cX12_breaks 27 = .ok (.istore_n 3, 1) by decide +kernel) rfl (L1 := [(3, .inl (-1000000)), (0, .inr (.inr (92 + 1))), (1, .inl a), (2, .inl b)]) rfl ?_
      refine y_ldcw (k := -1000000) (show decode cX12_breaks 28 = .ok (.ldc_w 470, 3) by decide +kernel) q8_49 rfl rfl ?_
      refine y_istore (show decode cX12_breaks 31 = .ok (.istore 4, 2) by decide +kernel) rfl (L1 := [(4, .inl (-1000000)), (3, .inl (-1000000)), (0, .inr (.inr (92 + 1))), (1, .inl a), (2, .inl b)]) rfl ?_
      refine y_iconst (show decode cX12_breaks 33 = .ok (.iconst 1, 1) by decide +kernel) rfl ?_
      refine y_istore (show decode cX12_breaks 34 = .ok (.istore 5, 2) by decide +kernel) rfl (L1 := [(5, .inl 1), (4, .inl (-1000000)), (3, .inl (-1000000)), (0, .inr (.inr (92 + 1))), (1, .inl a), (2, .inl b)]) rfl ?_
      refine y_pick [3, 4, 5, 2, 1, 0] rfl ?_
      refine loopS3_ind (P := fun x10 x11 x12 σ13 => Y E MX12_breaks (yRm 5 0 0) (yQf E (150 + 0) 0 0 (some (.inl ρ)) (ov τ)) 36 [(0, .inr (.inr (92 + 1))), (1, .inl a), (2, .inl b), (3, .inl x10), (4, .inl x11), (5, .inl x12)] [] (ov σ13) 150 0 0) (fun k14 hk14 x10 x11 x12 σ13 h => ?_) _ _ _ _ _  h
      refine y_iload (show decode cX12_breaks 36 = .ok (.iload 5, 2) by decide +kernel) 5 rfl ?_
      refine y_aload_n (show decode cX12_breaks 38 = .ok (.aload_n 0, 1) by decide +kernel) 0 rfl ?_
      refine y_getf 92 12 17 39 (by decide) rfl (by decide) (by decide) q6_64 (show decode cX12_breaks 39 = .ok (.getfield 39, 3) by decide +kernel) (v := .inr (.inr (101 + 1))) rfl ?_
      refine y_aload_n (show decode cX12_breaks 42 = .ok (.aload_n 0, 1) by decide +kernel) 0 rfl ?_
      refine y_getf 92 12 40 311 (by decide) rfl (by decide) (by decide) q6_87 (show decode cX12_breaks 43 = .ok (.getfield 311, 3) by decide +kernel) (v := .inl (σ13 92 40)) rfl ?_
      obtain ⟨c15, h⟩ := chkA_some h
      refine yo_iald 101 2 (by decide) rfl c15 (ov_at rfl) (show decode cX12_breaks 46 = .ok (.iaload, 1) by decide +kernel) ?_
      by_cases c16 : x12 > (σ13 101 ((σ13 92 40)).toNat)
      · rw [if_pos c16] at h
        refine y_icmp_gt_t (tgt := 100) (show decode cX12_breaks 47 = .ok (.if_icmp .gt 53, 3) by decide +kernel) rfl c16 ?_
        refine y_iload_n (show decode cX12_breaks 100 = .ok (.iload_n 2, 1) by decide +kernel) 2 rfl ?_
        refine y_iconst (show decode cX12_breaks 101 = .ok (.iconst (-1), 1) by decide +kernel) rfl ?_
        by_cases c17 : ¬ b = (-1)
        · rw [if_pos c17] at h
          refine y_icmp_ne_t (tgt := 109) (show decode cX12_breaks 102 = .ok (.if_icmp .ne 7, 3) by decide +kernel) rfl c17 ?_
          refine y_iload (show decode cX12_breaks 109 = .ok (.iload 4, 2) by decide +kernel) 4 rfl ?_
          cases h
          exact y_iret (show decode cX12_breaks 111 = .ok (.ireturn, 1) by decide +kernel) rfl
        · rw [if_neg c17] at h
          refine y_icmp_ne_f (show decode cX12_breaks 102 = .ok (.if_icmp .ne 7, 3) by decide +kernel) c17 (by decide) ?_
          refine y_iload_n (show decode cX12_breaks 105 = .ok (.iload_n 3, 1) by decide +kernel) 3 rfl ?_
          refine y_goto (tgt := 111) (show decode cX12_breaks 106 = .ok (.goto 5, 3) by decide +kernel) rfl ?_
          cases h
          exact y_iret (show decode cX12_breaks 111 = .ok (.ireturn, 1) by decide +kernel) rfl
      · rw [if_neg c16] at h
        refine y_icmp_gt_f (show decode cX12_breaks 47 = .ok (.if_icmp .gt 53, 3) by decide +kernel) c16 (by decide) ?_
        refine y_aload_n (show decode cX12_breaks 50 = .ok (.aload_n 0, 1) by decide +kernel) 0 rfl ?_
        refine y_iload (show decode cX12_breaks 51 = .ok (.iload 5, 2) by decide +kernel) 5 rfl ?_
        obtain ⟨σ18, e19, h⟩ := bnd_i h
        refine yo_putI 92 12 51 430 (by decide) rfl (by decide) (by decide) q6_98 rfl (show decode cX12_breaks 53 = .ok (.putfield 430, 3) by decide +kernel) rfl rfl (ov_set1 e19 rfl) ?_
        refine y_aload_n (show decode cX12_breaks 56 = .ok (.aload_n 0, 1) by decide +kernel) 0 rfl ?_
        refine y_iload_n (show decode cX12_breaks 57 = .ok (.iload_n 1, 1) by decide +kernel) 1 rfl ?_
        obtain ⟨r21, σ22, e20, h⟩ := bndR_some h
        refine y_callV (np := 1) (st := []) (as := [.inl a]) 92 12 (sh_mo_findBest e20) q8_53 q8_50 q8_52 qs6_11 q1_15 (by decide) rfl (by decide) rfl (by decide) (by decide +kernel) (by decide) rfl (Nat.le_of_ble_eq_true rfl) (show decode cX12_breaks 58 = .ok (.invokevirtual 499, 3) by decide +kernel) rfl ?_
        refine y_istore (show decode cX12_breaks 61 = .ok (.istore 6, 2) by decide +kernel) rfl (L1 := [(6, .inl r21), (0, .inr (.inr (92 + 1))), (1, .inl a), (2, .inl b), (3, .inl x10), (4, .inl x11), (5, .inl x12)]) rfl ?_
        refine y_iload (show decode cX12_breaks 63 = .ok (.iload 6, 2) by decide +kernel) 0 rfl ?_
        refine y_ldcw (k := -1000000) (show decode cX12_breaks 65 = .ok (.ldc_w 470, 3) by decide +kernel) q8_49 rfl rfl ?_
        refine bnd_j (Q := fun j25 => ∀ (y23 : Int) (y24 : Int), j25 y23 y24 = some (ρ, τ) → Y E MX12_breaks (yRm 5 0 0) (yQf E (150 + 0) 0 0 (some (.inl ρ)) (ov τ)) 94 [(0, .inr (.inr (92 + 1))), (1, .inl a), (2, .inl b), (3, .inl y23), (4, .inl y24), (5, .inl x12)] [] (ov σ22) 150 0 0) (fun y23 y24 h => ?_) (fun j25 hj25 h => ?_) h
        · dsimp only at h
          obtain ⟨c26, h⟩ := chkI_some h
          refine y_iinc (show decode cX12_breaks 94 = .ok (.iinc 5 1, 3) by decide +kernel) 5 rfl c26 rfl (L1 := [(5, .inl (x12 + 1)), (0, .inr (.inr (92 + 1))), (1, .inl a), (2, .inl b), (3, .inl y23), (4, .inl y24)]) rfl ?_
          refine y_goto (tgt := 36) (show decode cX12_breaks 97 = .ok (.goto (-61), 3) by decide +kernel) rfl ?_
          refine y_pick [1, 2, 3, 4, 5, 0] rfl ?_
          exact hk14 _ _ _ _ h
        by_cases c27 : r21 = (-1000000)
        · rw [if_pos c27] at h
          refine y_icmp_eq_t (tgt := 94) (show decode cX12_breaks 68 = .ok (.if_icmp .eq 26, 3) by decide +kernel) rfl c27 ?_
          refine y_pick [1, 2, 3, 4, 5, 6] rfl ?_
          exact hj25 _ _ h
        · rw [if_neg c27] at h
          refine y_icmp_eq_f (show decode cX12_breaks 68 = .ok (.if_icmp .eq 26, 3) by decide +kernel) c27 (by decide) ?_
          refine y_iload_n (show decode cX12_breaks 71 = .ok (.iload_n 3, 1) by decide +kernel) 4 rfl ?_
          refine y_ldcw (k := -1000000) (show decode cX12_breaks 72 = .ok (.ldc_w 470, 3) by decide +kernel) q8_49 rfl rfl ?_
          refine bnd_j (Q := fun j28 => j28 = some (ρ, τ) → Y E MX12_breaks (yRm 5 0 0) (yQf E (150 + 0) 0 0 (some (.inl ρ)) (ov τ)) 87 [(0, .inr (.inr (92 + 1))), (1, .inl a), (2, .inl b), (5, .inl x12), (6, .inl r21)] [] (ov σ22) 150 0 0) (fun h => ?_) (fun j28 hj28 h => ?_) h
          · refine y_iload (show decode cX12_breaks 87 = .ok (.iload 6, 2) by decide +kernel) 4 rfl ?_
            refine y_istore_n (show decode cX12_breaks 89 = .ok (.istore_n 3, 1) by decide +kernel) rfl (L1 := [(3, .inl r21), (0, .inr (.inr (92 + 1))), (1, .inl a), (2, .inl b), (5, .inl x12), (6, .inl r21)]) rfl ?_
            refine y_iload (show decode cX12_breaks 90 = .ok (.iload 5, 2) by decide +kernel) 4 rfl ?_
            refine y_istore (show decode cX12_breaks 92 = .ok (.istore 4, 2) by decide +kernel) rfl (L1 := [(4, .inl x12), (3, .inl r21), (0, .inr (.inr (92 + 1))), (1, .inl a), (2, .inl b), (5, .inl x12), (6, .inl r21)]) rfl ?_
            refine y_pick [2, 3, 4, 1, 0, 5] rfl ?_
            exact hj25 _ _ h
          by_cases c29 : x10 = (-1000000)
          · rw [if_pos c29] at h
            refine y_icmp_eq_t (tgt := 87) (show decode cX12_breaks 75 = .ok (.if_icmp .eq 12, 3) by decide +kernel) rfl c29 ?_
            refine y_pick [1, 2, 3, 6, 0] rfl ?_
            exact hj28 h
          · rw [if_neg c29] at h
            refine y_icmp_eq_f (show decode cX12_breaks 75 = .ok (.if_icmp .eq 12, 3) by decide +kernel) c29 (by decide) ?_
            refine y_iload (show decode cX12_breaks 78 = .ok (.iload 6, 2) by decide +kernel) 0 rfl ?_
            refine y_iload_n (show decode cX12_breaks 80 = .ok (.iload_n 3, 1) by decide +kernel) 4 rfl ?_
            by_cases c30 : r21 > x10
            · rw [if_pos c30] at h
              refine y_icmp_gt_t (tgt := 87) (show decode cX12_breaks 81 = .ok (.if_icmp .gt 6, 3) by decide +kernel) rfl c30 ?_
              refine y_pick [1, 2, 3, 6, 0] rfl ?_
              exact hj28 h
            · rw [if_neg c30] at h
              refine y_icmp_gt_f (show decode cX12_breaks 81 = .ok (.if_icmp .gt 6, 3) by decide +kernel) c30 (by decide) ?_
              refine y_goto (tgt := 94) (show decode cX12_breaks 84 = .ok (.goto 10, 3) by decide +kernel) rfl ?_
              refine y_pick [1, 2, 3, 4, 5, 6] rfl ?_
              exact hj25 _ _ h
    · rw [if_neg c7] at h
      refine y_if_ne_f (show decode cX12_breaks 13 = .ok (.ifCond .ne 7, 3) by decide +kernel) c7 (by decide) ?_
      refine y_pick [] rfl ?_
      exact hj3 h
abbrev MX12_spare : yM := (yX12_spare, cX12_spare, 3, some .int)
def mo_spare (N : Nat) (a : Int) (b : Int) (σ : ySt) : Option (Int × ySt) :=
  bndO (mo_isPlace a σ) fun r2 =>
  bnd (some ((-1000000), σ)) fun j3 =>
  if r2 = 0 then
    j3
  else
    bndO (mo_isWhat b σ) fun r6 =>
    if ¬ r6 = 0 then
      bndO (mo_plain σ) fun σ9 =>
      bnd (yset σ9 92 52 a) fun σ10 =>
      bndR (mo_findBest N b σ10) fun r13 σ14 =>
      some (r13, σ14)
    else
      j3
set_option maxHeartbeats 4000000 in
set_option maxRecDepth 10000 in
theorem sh_mo_spare {E : yE} {N : Nat} {a : Int} {b : Int} {σ : ySt} {ρ : Int} {τ : ySt} (h : mo_spare N a b σ = some (ρ, τ)) : Con E MX12_spare 5 0 0 [.inr (.inr (92 + 1)), .inl a, .inl b] 150 (ov σ) (some (.inl ρ)) (ov τ) := by
  unfold mo_spare at h
  refine Con.ofY (by decide +kernel) (by simp [yWords, yCat]) (fun hok _ => ?_)
  show Y E MX12_spare (yRm 5 0 0) (yQf E (150 + 0) 0 0 (some (.inl ρ)) (ov τ)) 0 [(0, .inr (.inr (92 + 1))), (1, .inl a), (2, .inl b)] [] (ov σ) 150 0 0
  refine y_aload_n (show decode cX12_spare 0 = .ok (.aload_n 0, 1) by decide +kernel) 0 rfl ?_
  refine y_iload_n (show decode cX12_spare 1 = .ok (.iload_n 1, 1) by decide +kernel) 1 rfl ?_
  obtain ⟨r2, e1, h⟩ := bndO_some h
  refine y_callV (np := 1) (st := []) (as := [.inl a]) 92 12 (sh_mo_isPlace e1) q8_11 q8_8 q8_10 qs6_5 q1_15 (by decide) rfl (by decide) rfl (by decide) (by decide +kernel) (by decide) rfl (Nat.le_of_ble_eq_true rfl) (show decode cX12_spare 2 = .ok (.invokevirtual 448, 3) by decide +kernel) rfl ?_
  refine bnd_j (Q := fun j3 => j3 = some (ρ, τ) → Y E MX12_spare (yRm 5 0 0) (yQf E (150 + 0) 0 0 (some (.inl ρ)) (ov τ)) 15 [] [] (ov σ) 150 0 0) (fun h => ?_) (fun j3 hj3 h => ?_) h
  · refine y_ldcw (k := -1000000) (show decode cX12_spare 15 = .ok (.ldc_w 470, 3) by decide +kernel) q8_49 rfl rfl ?_
    cases h
    exact y_iret (show decode cX12_spare 18 = .ok (.ireturn, 1) by decide +kernel) rfl
  by_cases c4 : r2 = 0
  · rw [if_pos c4] at h
    refine y_if_eq_t (tgt := 15) (show decode cX12_spare 5 = .ok (.ifCond .eq 10, 3) by decide +kernel) rfl c4 ?_
    refine y_pick [] rfl ?_
    exact hj3 h
  · rw [if_neg c4] at h
    refine y_if_eq_f (show decode cX12_spare 5 = .ok (.ifCond .eq 10, 3) by decide +kernel) c4 (by decide) ?_
    refine y_iload_n (show decode cX12_spare 8 = .ok (.iload_n 2, 1) by decide +kernel) 2 rfl ?_
    obtain ⟨r6, e5, h⟩ := bndO_some h
    refine y_callS (np := 1) (st := []) (as := [.inl b]) (sh_mo_isWhat e5) q8_48 q8_46 q8_47 q1_15 (by decide) (by decide +kernel) (by decide) rfl (Nat.le_of_ble_eq_true rfl) (show decode cX12_spare 9 = .ok (.invokestatic 496, 3) by decide +kernel) rfl ?_
    by_cases c7 : ¬ r6 = 0
    · rw [if_pos c7] at h
      refine y_if_ne_t (tgt := 19) (show decode cX12_spare 12 = .ok (.ifCond .ne 7, 3) by decide +kernel) rfl c7 ?_
      refine y_aload_n (show decode cX12_spare 19 = .ok (.aload_n 0, 1) by decide +kernel) 0 rfl ?_
      obtain ⟨σ9, e8, h⟩ := bndO_some h
      refine y_callV (np := 0) (st := []) (as := []) 92 12 (sh_mo_plain e8) q8_22 q8_19 q8_21 qs6_7 q1_15 (by decide) rfl (by decide) rfl (by decide) (by decide +kernel) (by decide) rfl (Nat.le_of_ble_eq_true rfl) (show decode cX12_spare 20 = .ok (.invokevirtual 451, 3) by decide +kernel) rfl ?_
      refine y_aload_n (show decode cX12_spare 23 = .ok (.aload_n 0, 1) by decide +kernel) 0 rfl ?_
      refine y_iload_n (show decode cX12_spare 24 = .ok (.iload_n 1, 1) by decide +kernel) 1 rfl ?_
      obtain ⟨σ10, e11, h⟩ := bnd_i h
      refine yo_putI 92 12 52 433 (by decide) rfl (by decide) (by decide) q6_99 rfl (show decode cX12_spare 25 = .ok (.putfield 433, 3) by decide +kernel) rfl rfl (ov_set1 e11 rfl) ?_
      refine y_aload_n (show decode cX12_spare 28 = .ok (.aload_n 0, 1) by decide +kernel) 0 rfl ?_
      refine y_iload_n (show decode cX12_spare 29 = .ok (.iload_n 2, 1) by decide +kernel) 2 rfl ?_
      obtain ⟨r13, σ14, e12, h⟩ := bndR_some h
      refine y_callV (np := 1) (st := []) (as := [.inl b]) 92 12 (sh_mo_findBest e12) q8_53 q8_50 q8_52 qs6_11 q1_15 (by decide) rfl (by decide) rfl (by decide) (by decide +kernel) (by decide) rfl (Nat.le_of_ble_eq_true rfl) (show decode cX12_spare 30 = .ok (.invokevirtual 499, 3) by decide +kernel) rfl ?_
      cases h
      exact y_iret (show decode cX12_spare 33 = .ok (.ireturn, 1) by decide +kernel) rfl
    · rw [if_neg c7] at h
      refine y_if_ne_f (show decode cX12_spare 12 = .ok (.ifCond .ne 7, 3) by decide +kernel) c7 (by decide) ?_
      refine y_pick [] rfl ?_
      exact hj3 h
abbrev MX12_often : yM := (yX12_often, cX12_often, 3, some .int)
def mo_often (N : Nat) (a : Int) (b : Int) (σ : ySt) : Option (Int × ySt) :=
  bndO (mo_isIn a 2 8 σ) fun r2 =>
  bnd (some ((-1000000), σ)) fun j3 =>
  if r2 = 0 then
    j3
  else
    bndO (mo_isWhat b σ) fun r6 =>
    if ¬ r6 = 0 then
      bndO (mo_plain σ) fun σ9 =>
      chkA 2 (σ9 92 40) <|
      chk ((a : Int) ≠ 0) <|
      chkI (((σ9 100 ((σ9 92 40)).toNat) : Int).tdiv a) <|
      bnd (yset σ9 92 47 (((σ9 100 ((σ9 92 40)).toNat) : Int).tdiv a)) fun σ13 =>
      chkA 2 (σ13 92 40) <|
      chkI ((σ13 101 ((σ13 92 40)).toNat) * a) <|
      bnd (yset σ13 92 48 ((σ13 101 ((σ13 92 40)).toNat) * a)) fun σ17 =>
      bnd (yset σ17 92 49 a) fun σ19 =>
      bnd (some ((-1000000), σ19)) fun j21 =>
      if (σ19 92 47) = 0 then
        j21
      else
        if (σ19 92 48) ≤ 8 then
          bndR (mo_findBest N b σ19) fun r25 σ26 =>
          some (r25, σ26)
        else
          j21
    else
      j3
set_option maxHeartbeats 4000000 in
set_option maxRecDepth 10000 in
theorem sh_mo_often {E : yE} {N : Nat} {a : Int} {b : Int} {σ : ySt} {ρ : Int} {τ : ySt} (h : mo_often N a b σ = some (ρ, τ)) : Con E MX12_often 5 0 0 [.inr (.inr (92 + 1)), .inl a, .inl b] 150 (ov σ) (some (.inl ρ)) (ov τ) := by
  unfold mo_often at h
  refine Con.ofY (by decide +kernel) (by simp [yWords, yCat]) (fun hok _ => ?_)
  show Y E MX12_often (yRm 5 0 0) (yQf E (150 + 0) 0 0 (some (.inl ρ)) (ov τ)) 0 [(0, .inr (.inr (92 + 1))), (1, .inl a), (2, .inl b)] [] (ov σ) 150 0 0
  refine y_iload_n (show decode cX12_often 0 = .ok (.iload_n 1, 1) by decide +kernel) 1 rfl ?_
  refine y_iconst (show decode cX12_often 1 = .ok (.iconst 2, 1) by decide +kernel) rfl ?_
  refine y_bipush (show decode cX12_often 2 = .ok (.bipush 8, 2) by decide +kernel) rfl rfl ?_
  obtain ⟨r2, e1, h⟩ := bndO_some h
  refine y_callS (np := 3) (st := []) (as := [.inl a, .inl 2, .inl 8]) (sh_mo_isIn e1) q8_18 q8_16 q8_17 q1_15 (by decide) (by decide +kernel) (by decide) rfl (Nat.le_of_ble_eq_true rfl) (show decode cX12_often 4 = .ok (.invokestatic 414, 3) by decide +kernel) rfl ?_
  refine bnd_j (Q := fun j3 => j3 = some (ρ, τ) → Y E MX12_often (yRm 5 0 0) (yQf E (150 + 0) 0 0 (some (.inl ρ)) (ov τ)) 17 [] [] (ov σ) 150 0 0) (fun h => ?_) (fun j3 hj3 h => ?_) h
  · refine y_ldcw (k := -1000000) (show decode cX12_often 17 = .ok (.ldc_w 470, 3) by decide +kernel) q8_49 rfl rfl ?_
    cases h
    exact y_iret (show decode cX12_often 20 = .ok (.ireturn, 1) by decide +kernel) rfl
  by_cases c4 : r2 = 0
  · rw [if_pos c4] at h
    refine y_if_eq_t (tgt := 17) (show decode cX12_often 7 = .ok (.ifCond .eq 10, 3) by decide +kernel) rfl c4 ?_
    refine y_pick [] rfl ?_
    exact hj3 h
  · rw [if_neg c4] at h
    refine y_if_eq_f (show decode cX12_often 7 = .ok (.ifCond .eq 10, 3) by decide +kernel) c4 (by decide) ?_
    refine y_iload_n (show decode cX12_often 10 = .ok (.iload_n 2, 1) by decide +kernel) 2 rfl ?_
    obtain ⟨r6, e5, h⟩ := bndO_some h
    refine y_callS (np := 1) (st := []) (as := [.inl b]) (sh_mo_isWhat e5) q8_48 q8_46 q8_47 q1_15 (by decide) (by decide +kernel) (by decide) rfl (Nat.le_of_ble_eq_true rfl) (show decode cX12_often 11 = .ok (.invokestatic 496, 3) by decide +kernel) rfl ?_
    by_cases c7 : ¬ r6 = 0
    · rw [if_pos c7] at h
      refine y_if_ne_t (tgt := 21) (show decode cX12_often 14 = .ok (.ifCond .ne 7, 3) by decide +kernel) rfl c7 ?_
      refine y_aload_n (show decode cX12_often 21 = .ok (.aload_n 0, 1) by decide +kernel) 0 rfl ?_
      obtain ⟨σ9, e8, h⟩ := bndO_some h
      refine y_callV (np := 0) (st := []) (as := []) 92 12 (sh_mo_plain e8) q8_22 q8_19 q8_21 qs6_7 q1_15 (by decide) rfl (by decide) rfl (by decide) (by decide +kernel) (by decide) rfl (Nat.le_of_ble_eq_true rfl) (show decode cX12_often 22 = .ok (.invokevirtual 451, 3) by decide +kernel) rfl ?_
      refine y_aload_n (show decode cX12_often 25 = .ok (.aload_n 0, 1) by decide +kernel) 0 rfl ?_
      refine y_aload_n (show decode cX12_often 26 = .ok (.aload_n 0, 1) by decide +kernel) 0 rfl ?_
      refine y_getf 92 12 16 36 (by decide) rfl (by decide) (by decide) q6_63 (show decode cX12_often 27 = .ok (.getfield 36, 3) by decide +kernel) (v := .inr (.inr (100 + 1))) rfl ?_
      refine y_aload_n (show decode cX12_often 30 = .ok (.aload_n 0, 1) by decide +kernel) 0 rfl ?_
      refine y_getf 92 12 40 311 (by decide) rfl (by decide) (by decide) q6_87 (show decode cX12_often 31 = .ok (.getfield 311, 3) by decide +kernel) (v := .inl (σ9 92 40)) rfl ?_
      obtain ⟨c10, h⟩ := chkA_some h
      refine yo_iald 100 2 (by decide) rfl c10 (ov_at rfl) (show decode cX12_often 34 = .ok (.iaload, 1) by decide +kernel) ?_
      refine y_iload_n (show decode cX12_often 35 = .ok (.iload_n 1, 1) by decide +kernel) 1 rfl ?_
      obtain ⟨c11, h⟩ := chk_some h
      obtain ⟨c12, h⟩ := chkI_some h
      refine y_idiv (show decode cX12_often 36 = .ok (.idiv, 1) by decide +kernel) c11 c12 ?_
      obtain ⟨σ13, e14, h⟩ := bnd_i h
      refine yo_putI 92 12 47 421 (by decide) rfl (by decide) (by decide) q6_94 rfl (show decode cX12_often 37 = .ok (.putfield 421, 3) by decide +kernel) rfl rfl (ov_set1 e14 rfl) ?_
      refine y_aload_n (show decode cX12_often 40 = .ok (.aload_n 0, 1) by decide +kernel) 0 rfl ?_
      refine y_aload_n (show decode cX12_often 41 = .ok (.aload_n 0, 1) by decide +kernel) 0 rfl ?_
      refine y_getf 92 12 17 39 (by decide) rfl (by decide) (by decide) q6_64 (show decode cX12_often 42 = .ok (.getfield 39, 3) by decide +kernel) (v := .inr (.inr (101 + 1))) rfl ?_
      refine y_aload_n (show decode cX12_often 45 = .ok (.aload_n 0, 1) by decide +kernel) 0 rfl ?_
      refine y_getf 92 12 40 311 (by decide) rfl (by decide) (by decide) q6_87 (show decode cX12_often 46 = .ok (.getfield 311, 3) by decide +kernel) (v := .inl (σ13 92 40)) rfl ?_
      obtain ⟨c15, h⟩ := chkA_some h
      refine yo_iald 101 2 (by decide) rfl c15 (ov_at rfl) (show decode cX12_often 49 = .ok (.iaload, 1) by decide +kernel) ?_
      refine y_iload_n (show decode cX12_often 50 = .ok (.iload_n 1, 1) by decide +kernel) 1 rfl ?_
      obtain ⟨c16, h⟩ := chkI_some h
      refine y_imul (show decode cX12_often 51 = .ok (.imul, 1) by decide +kernel) c16 ?_
      obtain ⟨σ17, e18, h⟩ := bnd_i h
      refine yo_putI 92 12 48 424 (by decide) rfl (by decide) (by decide) q6_95 rfl (show decode cX12_often 52 = .ok (.putfield 424, 3) by decide +kernel) rfl rfl (ov_set1 e18 rfl) ?_
      refine y_aload_n (show decode cX12_often 55 = .ok (.aload_n 0, 1) by decide +kernel) 0 rfl ?_
      refine y_iload_n (show decode cX12_often 56 = .ok (.iload_n 1, 1) by decide +kernel) 1 rfl ?_
      obtain ⟨σ19, e20, h⟩ := bnd_i h
      refine yo_putI 92 12 49 427 (by decide) rfl (by decide) (by decide) q6_96 rfl (show decode cX12_often 57 = .ok (.putfield 427, 3) by decide +kernel) rfl rfl (ov_set1 e20 rfl) ?_
      refine y_aload_n (show decode cX12_often 60 = .ok (.aload_n 0, 1) by decide +kernel) 0 rfl ?_
      refine y_getf 92 12 47 421 (by decide) rfl (by decide) (by decide) q6_94 (show decode cX12_often 61 = .ok (.getfield 421, 3) by decide +kernel) (v := .inl (σ19 92 47)) rfl ?_
      refine bnd_j (Q := fun j21 => j21 = some (ρ, τ) → Y E MX12_often (yRm 5 0 0) (yQf E (150 + 0) 0 0 (some (.inl ρ)) (ov τ)) 76 [] [] (ov σ19) 150 0 0) (fun h => ?_) (fun j21 hj21 h => ?_) h
      · refine y_ldcw (k := -1000000) (show decode cX12_often 76 = .ok (.ldc_w 470, 3) by decide +kernel) q8_49 rfl rfl ?_
        refine y_goto (tgt := 87) (show decode cX12_often 79 = .ok (.goto 8, 3) by decide +kernel) rfl ?_
        cases h
        exact y_iret (show decode cX12_often 87 = .ok (.ireturn, 1) by decide +kernel) rfl
      by_cases c22 : (σ19 92 47) = 0
      · rw [if_pos c22] at h
        refine y_if_eq_t (tgt := 76) (show decode cX12_often 64 = .ok (.ifCond .eq 12, 3) by decide +kernel) rfl c22 ?_
        refine y_pick [] rfl ?_
        exact hj21 h
      · rw [if_neg c22] at h
        refine y_if_eq_f (show decode cX12_often 64 = .ok (.ifCond .eq 12, 3) by decide +kernel) c22 (by decide) ?_
        refine y_aload_n (show decode cX12_often 67 = .ok (.aload_n 0, 1) by decide +kernel) 0 rfl ?_
        refine y_getf 92 12 48 424 (by decide) rfl (by decide) (by decide) q6_95 (show decode cX12_often 68 = .ok (.getfield 424, 3) by decide +kernel) (v := .inl (σ19 92 48)) rfl ?_
        refine y_bipush (show decode cX12_often 71 = .ok (.bipush 8, 2) by decide +kernel) rfl rfl ?_
        by_cases c23 : (σ19 92 48) ≤ 8
        · rw [if_pos c23] at h
          refine y_icmp_le_t (tgt := 82) (show decode cX12_often 73 = .ok (.if_icmp .le 9, 3) by decide +kernel) rfl c23 ?_
          refine y_aload_n (show decode cX12_often 82 = .ok (.aload_n 0, 1) by decide +kernel) 0 rfl ?_
          refine y_iload_n (show decode cX12_often 83 = .ok (.iload_n 2, 1) by decide +kernel) 2 rfl ?_
          obtain ⟨r25, σ26, e24, h⟩ := bndR_some h
          refine y_callV (np := 1) (st := []) (as := [.inl b]) 92 12 (sh_mo_findBest e24) q8_53 q8_50 q8_52 qs6_11 q1_15 (by decide) rfl (by decide) rfl (by decide) (by decide +kernel) (by decide) rfl (Nat.le_of_ble_eq_true rfl) (show decode cX12_often 84 = .ok (.invokevirtual 499, 3) by decide +kernel) rfl ?_
          cases h
          exact y_iret (show decode cX12_often 87 = .ok (.ireturn, 1) by decide +kernel) rfl
        · rw [if_neg c23] at h
          refine y_icmp_le_f (show decode cX12_often 73 = .ok (.if_icmp .le 9, 3) by decide +kernel) c23 (by decide) ?_
          refine y_pick [] rfl ?_
          exact hj21 h
    · rw [if_neg c7] at h
      refine y_if_ne_f (show decode cX12_often 14 = .ok (.ifCond .ne 7, 3) by decide +kernel) c7 (by decide) ?_
      refine y_pick [] rfl ?_
      exact hj3 h
abbrev MX12_built : yM := (yX12_built, cX12_built, 9, some .int)
def mo_built (N : Nat) (a : Int) (b : Int) (c : Int) (σ : ySt) : Option (Int × ySt) :=
  bndO (mo_isIn a 1 999 σ) fun r2 =>
  bnd (some ((-1000000), σ)) fun j3 =>
  if r2 = 0 then
    j3
  else
    bndO (mo_isWhat b σ) fun r6 =>
    if r6 = 0 then
      j3
    else
      bndO (mo_isIn c (-1) 0 σ) fun r9 =>
      if ¬ r9 = 0 then
        bndO (mo_plain σ) fun σ12 =>
        bnd (yset σ12 92 55 a) fun σ13 =>
        loopS3 (fun k19 x15 x16 x17 σ18 =>
          bndO (mo_placeMany σ18) fun r21 =>
          if x17 ≥ r21 then
            if ¬ c = (-1) then
              some (x16, σ18)
            else
              some (x15, σ18)
          else
            chkI (x17 + 1) <|
            loopS4 (fun k30 x25 x26 x27 x28 σ29 =>
              bndO (mo_placeMany σ29) fun r32 =>
              if x28 ≥ r32 then
                chkI (x27 + 1) <|
                k19 x25 x26 (x27 + 1) σ29
              else
                bnd (yset σ29 92 53 x27) fun σ35 =>
                bnd (yset σ35 92 54 x28) fun σ37 =>
                bndR (mo_findBest N b σ37) fun r40 σ41 =>
                bnd (fun (y42 : Int) (y43 : Int) =>
                  chkI (x28 + 1) <|
                  k30 y42 y43 x27 (x28 + 1) σ41) fun j44 =>
                if r40 = (-1000000) then
                  j44 x25 x26
                else
                  bnd (chkI (100 * x27) <|
                    chkI ((100 * x27) + x28) <|
                    j44 r40 ((100 * x27) + x28)) fun j47 =>
                  if x25 = (-1000000) then
                    j47
                  else
                    if r40 > x25 then
                      j47
                    else
                      j44 x25 x26) N x15 x16 x17 (x17 + 1) σ18) N (-1000000) (-1000000) 0 σ13
      else
        j3
set_option maxHeartbeats 4000000 in
set_option maxRecDepth 10000 in
theorem sh_mo_built {E : yE} {N : Nat} {a : Int} {b : Int} {c : Int} {σ : ySt} {ρ : Int} {τ : ySt} (h : mo_built N a b c σ = some (ρ, τ)) : Con E MX12_built 5 0 0 [.inr (.inr (92 + 1)), .inl a, .inl b, .inl c] 150 (ov σ) (some (.inl ρ)) (ov τ) := by
  unfold mo_built at h
  refine Con.ofY (by decide +kernel) (by simp [yWords, yCat]) (fun hok _ => ?_)
  show Y E MX12_built (yRm 5 0 0) (yQf E (150 + 0) 0 0 (some (.inl ρ)) (ov τ)) 0 [(0, .inr (.inr (92 + 1))), (1, .inl a), (2, .inl b), (3, .inl c)] [] (ov σ) 150 0 0
  refine y_iload_n (show decode cX12_built 0 = .ok (.iload_n 1, 1) by decide +kernel) 1 rfl ?_
  refine y_iconst (show decode cX12_built 1 = .ok (.iconst 1, 1) by decide +kernel) rfl ?_
  refine y_sipush (show decode cX12_built 2 = .ok (.sipush 999, 3) by decide +kernel) rfl rfl ?_
  obtain ⟨r2, e1, h⟩ := bndO_some h
  refine y_callS (np := 3) (st := []) (as := [.inl a, .inl 1, .inl 999]) (sh_mo_isIn e1) q8_18 q8_16 q8_17 q1_15 (by decide) (by decide +kernel) (by decide) rfl (Nat.le_of_ble_eq_true rfl) (show decode cX12_built 5 = .ok (.invokestatic 414, 3) by decide +kernel) rfl ?_
  refine bnd_j (Q := fun j3 => j3 = some (ρ, τ) → Y E MX12_built (yRm 5 0 0) (yQf E (150 + 0) 0 0 (some (.inl ρ)) (ov τ)) 27 [] [] (ov σ) 150 0 0) (fun h => ?_) (fun j3 hj3 h => ?_) h
  · refine y_ldcw (k := -1000000) (show decode cX12_built 27 = .ok (.ldc_w 470, 3) by decide +kernel) q8_49 rfl rfl ?_
    cases h
    exact y_iret (show decode cX12_built 30 = .ok (.ireturn, 1) by decide +kernel) rfl
  by_cases c4 : r2 = 0
  · rw [if_pos c4] at h
    refine y_if_eq_t (tgt := 27) (show decode cX12_built 8 = .ok (.ifCond .eq 19, 3) by decide +kernel) rfl c4 ?_
    refine y_pick [] rfl ?_
    exact hj3 h
  · rw [if_neg c4] at h
    refine y_if_eq_f (show decode cX12_built 8 = .ok (.ifCond .eq 19, 3) by decide +kernel) c4 (by decide) ?_
    refine y_iload_n (show decode cX12_built 11 = .ok (.iload_n 2, 1) by decide +kernel) 2 rfl ?_
    obtain ⟨r6, e5, h⟩ := bndO_some h
    refine y_callS (np := 1) (st := []) (as := [.inl b]) (sh_mo_isWhat e5) q8_48 q8_46 q8_47 q1_15 (by decide) (by decide +kernel) (by decide) rfl (Nat.le_of_ble_eq_true rfl) (show decode cX12_built 12 = .ok (.invokestatic 496, 3) by decide +kernel) rfl ?_
    by_cases c7 : r6 = 0
    · rw [if_pos c7] at h
      refine y_if_eq_t (tgt := 27) (show decode cX12_built 15 = .ok (.ifCond .eq 12, 3) by decide +kernel) rfl c7 ?_
      refine y_pick [] rfl ?_
      exact hj3 h
    · rw [if_neg c7] at h
      refine y_if_eq_f (show decode cX12_built 15 = .ok (.ifCond .eq 12, 3) by decide +kernel) c7 (by decide) ?_
      refine y_iload_n (show decode cX12_built 18 = .ok (.iload_n 3, 1) by decide +kernel) 3 rfl ?_
      refine y_iconst (show decode cX12_built 19 = .ok (.iconst (-1), 1) by decide +kernel) rfl ?_
      refine y_iconst (show decode cX12_built 20 = .ok (.iconst 0, 1) by decide +kernel) rfl ?_
      obtain ⟨r9, e8, h⟩ := bndO_some h
      refine y_callS (np := 3) (st := []) (as := [.inl c, .inl (-1), .inl 0]) (sh_mo_isIn e8) q8_18 q8_16 q8_17 q1_15 (by decide) (by decide +kernel) (by decide) rfl (Nat.le_of_ble_eq_true rfl) (show decode cX12_built 21 = .ok (.invokestatic 414, 3) by decide +kernel) rfl ?_
      by_cases c10 : ¬ r9 = 0
      · rw [if_pos c10] at h
        refine y_if_ne_t (tgt := 31) (show decode cX12_built 24 = .ok (.ifCond .ne 7, 3) by decide +kernel) rfl c10 ?_
        refine y_aload_n (show decode cX12_built 31 = .ok (.aload_n 0, 1) by decide +kernel) 0 rfl ?_
        obtain ⟨σ12, e11, h⟩ := bndO_some h
        refine y_callV (np := 0) (st := []) (as := []) 92 12 (sh_mo_plain e11) q8_22 q8_19 q8_21 qs6_7 q1_15 (by decide) rfl (by decide) rfl (by decide) (by decide +kernel) (by decide) rfl (Nat.le_of_ble_eq_true rfl) (show decode cX12_built 32 = .ok (.invokevirtual 451, 3) by decide +kernel) rfl ?_
        refine y_aload_n (show decode cX12_built 35 = .ok (.aload_n 0, 1) by decide +kernel) 0 rfl ?_
        refine y_iload_n (show decode cX12_built 36 = .ok (.iload_n 1, 1) by decide +kernel) 1 rfl ?_
        obtain ⟨σ13, e14, h⟩ := bnd_i h
        refine yo_putI 92 12 55 439 (by decide) rfl (by decide) (by decide) q6_102 rfl (show decode cX12_built 37 = .ok (.putfield 439, 3) by decide +kernel) rfl rfl (ov_set1 e14 rfl) ?_
        refine y_ldcw (k := -1000000) (show decode cX12_built 40 = .ok (.ldc_w 470, 3) by decide +kernel) q8_49 rfl rfl ?_
        refine y_istore (show decode cX12_built 43 = .ok (.istore 4, 2) by decide +kernel) rfl (L1 := [(4, .inl (-1000000)), (0, .inr (.inr (92 + 1))), (1, .inl a), (2, .inl b), (3, .inl c)]) rfl ?_
        refine y_ldcw (k := -1000000) (show decode cX12_built 45 = .ok (.ldc_w 470, 3) by decide +kernel) q8_49 rfl rfl ?_
        refine y_istore (show decode cX12_built 48 = .ok (.istore 5, 2) by decide +kernel) rfl (L1 := [(5, .inl (-1000000)), (4, .inl (-1000000)), (0, .inr (.inr (92 + 1))), (1, .inl a), (2, .inl b), (3, .inl c)]) rfl ?_
        refine y_iconst (show decode cX12_built 50 = .ok (.iconst 0, 1) by decide +kernel) rfl ?_
        refine y_istore (show decode cX12_built 51 = .ok (.istore 6, 2) by decide +kernel) rfl (L1 := [(6, .inl 0), (5, .inl (-1000000)), (4, .inl (-1000000)), (0, .inr (.inr (92 + 1))), (1, .inl a), (2, .inl b), (3, .inl c)]) rfl ?_
        refine y_pick [3, 5, 6, 2, 1, 0] rfl ?_
        refine loopS3_ind (P := fun x15 x16 x17 σ18 => Y E MX12_built (yRm 5 0 0) (yQf E (150 + 0) 0 0 (some (.inl ρ)) (ov τ)) 53 [(0, .inr (.inr (92 + 1))), (2, .inl b), (3, .inl c), (4, .inl x15), (5, .inl x16), (6, .inl x17)] [] (ov σ18) 150 0 0) (fun k19 hk19 x15 x16 x17 σ18 h => ?_) _ _ _ _ _  h
        refine y_iload (show decode cX12_built 53 = .ok (.iload 6, 2) by decide +kernel) 5 rfl ?_
        refine y_aload_n (show decode cX12_built 55 = .ok (.aload_n 0, 1) by decide +kernel) 0 rfl ?_
        obtain ⟨r21, e20, h⟩ := bndO_some h
        refine y_callV (np := 0) (st := [.inl x17]) (as := []) 92 12 (sh_mo_placeMany e20) q8_15 q8_12 q8_14 qs6_6 q1_15 (by decide) rfl (by decide) rfl (by decide) (by decide +kernel) (by decide) rfl (Nat.le_of_ble_eq_true rfl) (show decode cX12_built 56 = .ok (.invokevirtual 411, 3) by decide +kernel) rfl ?_
        by_cases c22 : x17 ≥ r21
        · rw [if_pos c22] at h
          refine y_icmp_ge_t (tgt := 148) (show decode cX12_built 59 = .ok (.if_icmp .ge 89, 3) by decide +kernel) rfl c22 ?_
          refine y_iload_n (show decode cX12_built 148 = .ok (.iload_n 3, 1) by decide +kernel) 2 rfl ?_
          refine y_iconst (show decode cX12_built 149 = .ok (.iconst (-1), 1) by decide +kernel) rfl ?_
          by_cases c23 : ¬ c = (-1)
          · rw [if_pos c23] at h
            refine y_icmp_ne_t (tgt := 158) (show decode cX12_built 150 = .ok (.if_icmp .ne 8, 3) by decide +kernel) rfl c23 ?_
            refine y_iload (show decode cX12_built 158 = .ok (.iload 5, 2) by decide +kernel) 4 rfl ?_
            cases h
            exact y_iret (show decode cX12_built 160 = .ok (.ireturn, 1) by decide +kernel) rfl
          · rw [if_neg c23] at h
            refine y_icmp_ne_f (show decode cX12_built 150 = .ok (.if_icmp .ne 8, 3) by decide +kernel) c23 (by decide) ?_
            refine y_iload (show decode cX12_built 153 = .ok (.iload 4, 2) by decide +kernel) 3 rfl ?_
            refine y_goto (tgt := 160) (show decode cX12_built 155 = .ok (.goto 5, 3) by decide +kernel) rfl ?_
            cases h
            exact y_iret (show decode cX12_built 160 = .ok (.ireturn, 1) by decide +kernel) rfl
        · rw [if_neg c22] at h
          refine y_icmp_ge_f (show decode cX12_built 59 = .ok (.if_icmp .ge 89, 3) by decide +kernel) c22 (by decide) ?_
          refine y_iload (show decode cX12_built 62 = .ok (.iload 6, 2) by decide +kernel) 5 rfl ?_
          refine y_iconst (show decode cX12_built 64 = .ok (.iconst 1, 1) by decide +kernel) rfl ?_
          obtain ⟨c24, h⟩ := chkI_some h
          refine y_iadd (show decode cX12_built 65 = .ok (.iadd, 1) by decide +kernel) c24 ?_
          refine y_istore (show decode cX12_built 66 = .ok (.istore 7, 2) by decide +kernel) rfl (L1 := [(7, .inl (x17 + 1)), (0, .inr (.inr (92 + 1))), (2, .inl b), (3, .inl c), (4, .inl x15), (5, .inl x16), (6, .inl x17)]) rfl ?_
          refine y_pick [1, 2, 3, 4, 5, 6, 0] rfl ?_
          refine loopS4_ind (P := fun x25 x26 x27 x28 σ29 => Y E MX12_built (yRm 5 0 0) (yQf E (150 + 0) 0 0 (some (.inl ρ)) (ov τ)) 68 [(0, .inr (.inr (92 + 1))), (2, .inl b), (3, .inl c), (4, .inl x25), (5, .inl x26), (6, .inl x27), (7, .inl x28)] [] (ov σ29) 150 0 0) (fun k30 hk30 x25 x26 x27 x28 σ29 h => ?_) _ _ _ _ _ _  h
          refine y_iload (show decode cX12_built 68 = .ok (.iload 7, 2) by decide +kernel) 6 rfl ?_
          refine y_aload_n (show decode cX12_built 70 = .ok (.aload_n 0, 1) by decide +kernel) 0 rfl ?_
          obtain ⟨r32, e31, h⟩ := bndO_some h
          refine y_callV (np := 0) (st := [.inl x28]) (as := []) 92 12 (sh_mo_placeMany e31) q8_15 q8_12 q8_14 qs6_6 q1_15 (by decide) rfl (by decide) rfl (by decide) (by decide +kernel) (by decide) rfl (Nat.le_of_ble_eq_true rfl) (show decode cX12_built 71 = .ok (.invokevirtual 411, 3) by decide +kernel) rfl ?_
          by_cases c33 : x28 ≥ r32
          · rw [if_pos c33] at h
            refine y_icmp_ge_t (tgt := 142) (show decode cX12_built 74 = .ok (.if_icmp .ge 68, 3) by decide +kernel) rfl c33 ?_
            obtain ⟨c34, h⟩ := chkI_some h
            refine y_iinc (show decode cX12_built 142 = .ok (.iinc 6 1, 3) by decide +kernel) 5 rfl c34 rfl (L1 := [(6, .inl (x27 + 1)), (0, .inr (.inr (92 + 1))), (2, .inl b), (3, .inl c), (4, .inl x25), (5, .inl x26), (7, .inl x28)]) rfl ?_
            refine y_goto (tgt := 53) (show decode cX12_built 145 = .ok (.goto (-92), 3) by decide +kernel) rfl ?_
            refine y_pick [1, 2, 3, 4, 5, 0] rfl ?_
            exact hk19 _ _ _ _ h
          · rw [if_neg c33] at h
            refine y_icmp_ge_f (show decode cX12_built 74 = .ok (.if_icmp .ge 68, 3) by decide +kernel) c33 (by decide) ?_
            refine y_aload_n (show decode cX12_built 77 = .ok (.aload_n 0, 1) by decide +kernel) 0 rfl ?_
            refine y_iload (show decode cX12_built 78 = .ok (.iload 6, 2) by decide +kernel) 5 rfl ?_
            obtain ⟨σ35, e36, h⟩ := bnd_i h
            refine yo_putI 92 12 53 436 (by decide) rfl (by decide) (by decide) q6_100 rfl (show decode cX12_built 80 = .ok (.putfield 436, 3) by decide +kernel) rfl rfl (ov_set1 e36 rfl) ?_
            refine y_aload_n (show decode cX12_built 83 = .ok (.aload_n 0, 1) by decide +kernel) 0 rfl ?_
            refine y_iload (show decode cX12_built 84 = .ok (.iload 7, 2) by decide +kernel) 6 rfl ?_
            obtain ⟨σ37, e38, h⟩ := bnd_i h
            refine yo_putI 92 12 54 442 (by decide) rfl (by decide) (by decide) q6_101 rfl (show decode cX12_built 86 = .ok (.putfield 442, 3) by decide +kernel) rfl rfl (ov_set1 e38 rfl) ?_
            refine y_aload_n (show decode cX12_built 89 = .ok (.aload_n 0, 1) by decide +kernel) 0 rfl ?_
            refine y_iload_n (show decode cX12_built 90 = .ok (.iload_n 2, 1) by decide +kernel) 1 rfl ?_
            obtain ⟨r40, σ41, e39, h⟩ := bndR_some h
            refine y_callV (np := 1) (st := []) (as := [.inl b]) 92 12 (sh_mo_findBest e39) q8_53 q8_50 q8_52 qs6_11 q1_15 (by decide) rfl (by decide) rfl (by decide) (by decide +kernel) (by decide) rfl (Nat.le_of_ble_eq_true rfl) (show decode cX12_built 91 = .ok (.invokevirtual 499, 3) by decide +kernel) rfl ?_
            refine y_istore (show decode cX12_built 94 = .ok (.istore 8, 2) by decide +kernel) rfl (L1 := [(8, .inl r40), (0, .inr (.inr (92 + 1))), (2, .inl b), (3, .inl c), (4, .inl x25), (5, .inl x26), (6, .inl x27), (7, .inl x28)]) rfl ?_
            refine y_iload (show decode cX12_built 96 = .ok (.iload 8, 2) by decide +kernel) 0 rfl ?_
            refine y_ldcw (k := -1000000) (show decode cX12_built 98 = .ok (.ldc_w 470, 3) by decide +kernel) q8_49 rfl rfl ?_
            refine bnd_j (Q := fun j44 => ∀ (y42 : Int) (y43 : Int), j44 y42 y43 = some (ρ, τ) → Y E MX12_built (yRm 5 0 0) (yQf E (150 + 0) 0 0 (some (.inl ρ)) (ov τ)) 136 [(0, .inr (.inr (92 + 1))), (2, .inl b), (3, .inl c), (4, .inl y42), (5, .inl y43), (6, .inl x27), (7, .inl x28)] [] (ov σ41) 150 0 0) (fun y42 y43 h => ?_) (fun j44 hj44 h => ?_) h
            · dsimp only at h
              obtain ⟨c45, h⟩ := chkI_some h
              refine y_iinc (show decode cX12_built 136 = .ok (.iinc 7 1, 3) by decide +kernel) 6 rfl c45 rfl (L1 := [(7, .inl (x28 + 1)), (0, .inr (.inr (92 + 1))), (2, .inl b), (3, .inl c), (4, .inl y42), (5, .inl y43), (6, .inl x27)]) rfl ?_
              refine y_goto (tgt := 68) (show decode cX12_built 139 = .ok (.goto (-71), 3) by decide +kernel) rfl ?_
              refine y_pick [1, 2, 3, 4, 5, 6, 0] rfl ?_
              exact hk30 _ _ _ _ _ h
            by_cases c46 : r40 = (-1000000)
            · rw [if_pos c46] at h
              refine y_icmp_eq_t (tgt := 136) (show decode cX12_built 101 = .ok (.if_icmp .eq 35, 3) by decide +kernel) rfl c46 ?_
              refine y_pick [1, 2, 3, 4, 5, 6, 7] rfl ?_
              exact hj44 _ _ h
            · rw [if_neg c46] at h
              refine y_icmp_eq_f (show decode cX12_built 101 = .ok (.if_icmp .eq 35, 3) by decide +kernel) c46 (by decide) ?_
              refine y_iload (show decode cX12_built 104 = .ok (.iload 4, 2) by decide +kernel) 4 rfl ?_
              refine y_ldcw (k := -1000000) (show decode cX12_built 106 = .ok (.ldc_w 470, 3) by decide +kernel) q8_49 rfl rfl ?_
              refine bnd_j (Q := fun j47 => j47 = some (ρ, τ) → Y E MX12_built (yRm 5 0 0) (yQf E (150 + 0) 0 0 (some (.inl ρ)) (ov τ)) 122 [(0, .inr (.inr (92 + 1))), (2, .inl b), (3, .inl c), (6, .inl x27), (7, .inl x28), (8, .inl r40)] [] (ov σ41) 150 0 0) (fun h => ?_) (fun j47 hj47 h => ?_) h
              · refine y_iload (show decode cX12_built 122 = .ok (.iload 8, 2) by decide +kernel) 5 rfl ?_
                refine y_istore (show decode cX12_built 124 = .ok (.istore 4, 2) by decide +kernel) rfl (L1 := [(4, .inl r40), (0, .inr (.inr (92 + 1))), (2, .inl b), (3, .inl c), (6, .inl x27), (7, .inl x28), (8, .inl r40)]) rfl ?_
                refine y_bipush (show decode cX12_built 126 = .ok (.bipush 100, 2) by decide +kernel) rfl rfl ?_
                refine y_iload (show decode cX12_built 128 = .ok (.iload 6, 2) by decide +kernel) 4 rfl ?_
                obtain ⟨c48, h⟩ := chkI_some h
                refine y_imul (show decode cX12_built 130 = .ok (.imul, 1) by decide +kernel) c48 ?_
                refine y_iload (show decode cX12_built 131 = .ok (.iload 7, 2) by decide +kernel) 5 rfl ?_
                obtain ⟨c49, h⟩ := chkI_some h
                refine y_iadd (show decode cX12_built 133 = .ok (.iadd, 1) by decide +kernel) c49 ?_
                refine y_istore (show decode cX12_built 134 = .ok (.istore 5, 2) by decide +kernel) rfl (L1 := [(5, .inl ((100 * x27) + x28)), (4, .inl r40), (0, .inr (.inr (92 + 1))), (2, .inl b), (3, .inl c), (6, .inl x27), (7, .inl x28), (8, .inl r40)]) rfl ?_
                refine y_pick [2, 3, 4, 1, 0, 5, 6] rfl ?_
                exact hj44 _ _ h
              by_cases c50 : x25 = (-1000000)
              · rw [if_pos c50] at h
                refine y_icmp_eq_t (tgt := 122) (show decode cX12_built 109 = .ok (.if_icmp .eq 13, 3) by decide +kernel) rfl c50 ?_
                refine y_pick [1, 2, 3, 6, 7, 0] rfl ?_
                exact hj47 h
              · rw [if_neg c50] at h
                refine y_icmp_eq_f (show decode cX12_built 109 = .ok (.if_icmp .eq 13, 3) by decide +kernel) c50 (by decide) ?_
                refine y_iload (show decode cX12_built 112 = .ok (.iload 8, 2) by decide +kernel) 0 rfl ?_
                refine y_iload (show decode cX12_built 114 = .ok (.iload 4, 2) by decide +kernel) 4 rfl ?_
                by_cases c51 : r40 > x25
                · rw [if_pos c51] at h
                  refine y_icmp_gt_t (tgt := 122) (show decode cX12_built 116 = .ok (.if_icmp .gt 6, 3) by decide +kernel) rfl c51 ?_
                  refine y_pick [1, 2, 3, 6, 7, 0] rfl ?_
                  exact hj47 h
                · rw [if_neg c51] at h
                  refine y_icmp_gt_f (show decode cX12_built 116 = .ok (.if_icmp .gt 6, 3) by decide +kernel) c51 (by decide) ?_
                  refine y_goto (tgt := 136) (show decode cX12_built 119 = .ok (.goto 17, 3) by decide +kernel) rfl ?_
                  refine y_pick [1, 2, 3, 4, 5, 6, 7] rfl ?_
                  exact hj44 _ _ h
      · rw [if_neg c10] at h
        refine y_if_ne_f (show decode cX12_built 24 = .ok (.ifCond .ne 7, 3) by decide +kernel) c10 (by decide) ?_
        refine y_pick [] rfl ?_
        exact hj3 h
abbrev MX12_stepAll : yM := (yX12_stepAll, cX12_stepAll, 6, none)
def mo_stepAll (N : Nat) (a : Int) (σ : ySt) : Option (ySt) :=
  bndO (mo_personMany σ) fun r2 =>
  chkI (r2 - 1) <|
  chkI ((r2 - 1) - a) <|
  bndO (mo_power N ((r2 - 1) - a) σ) fun r6 =>
  loopS1 (fun k9 x7 σ8 =>
    bndO (mo_stateMany N σ8) fun r11 =>
    if x7 ≥ r11 then
      loopS1 (fun k15 x13 σ14 =>
        bndO (mo_stateMany N σ14) fun r17 =>
        if x13 ≥ r17 then
          some σ14
        else
          chkA 7776 x13 <|
          chk ((σ14 135 (x13).toNat) = 0 ∨ (σ14 135 (x13).toNat) = 1) <|
          chkA 7776 x13 <|
          bnd (yset σ14 134 (x13).toNat (σ14 135 (x13).toNat)) fun σ22 =>
          chkI (x13 + 1) <|
          k15 (x13 + 1) σ22) N 0 σ8
    else
      chk ((r6 : Int) ≠ 0) <|
      chkI ((x7 : Int).tdiv r6) <|
      bndO (mo_placeMany σ8) fun r28 =>
      chk ((r28 : Int) ≠ 0) <|
      chkI ((((x7 : Int).tdiv r6) : Int).tmod r28) <|
      chkA 7776 x7 <|
      bnd (yset σ8 135 (x7).toNat 0) fun σ32 =>
      loopS2 (fun k37 x34 x35 σ36 =>
        bndO (mo_placeMany σ36) fun r39 =>
        bnd (chkI (x34 + 1) <|
          k9 (x34 + 1) σ36) fun j40 =>
        if x35 ≥ r39 then
          j40
        else
          chkA 7776 x34 <|
          if ¬ (σ36 135 (x34).toNat) = 0 then
            j40
          else
            chkI (x35 - ((((x7 : Int).tdiv r6) : Int).tmod r28)) <|
            chkI ((x35 - ((((x7 : Int).tdiv r6) : Int).tmod r28)) * r6) <|
            chkI (x34 + ((x35 - ((((x7 : Int).tdiv r6) : Int).tmod r28)) * r6)) <|
            chkA 7776 (x34 + ((x35 - ((((x7 : Int).tdiv r6) : Int).tmod r28)) * r6)) <|
            bnd (fun (y49 : Int) =>
              chk (y49 = 0 ∨ y49 = 1) <|
              chkA 7776 x34 <|
              bnd (yset σ36 135 (x34).toNat y49) fun σ53 =>
              chkI (x35 + 1) <|
              k37 x34 (x35 + 1) σ53) fun j50 =>
            if (σ36 134 ((x34 + ((x35 - ((((x7 : Int).tdiv r6) : Int).tmod r28)) * r6))).toNat) = 0 then
              j50 0
            else
              bndO (mo_gets ((((x7 : Int).tdiv r6) : Int).tmod r28) x35 σ36) fun r58 =>
              if r58 = 0 then
                j50 0
              else
                j50 1) N x7 0 σ32) N 0 σ
set_option maxHeartbeats 4000000 in
set_option maxRecDepth 10000 in
theorem sh_mo_stepAll {E : yE} {N : Nat} {a : Int} {σ : ySt} {τ : ySt} (h : mo_stepAll N a σ = some τ) : Con E MX12_stepAll 3 0 0 [.inr (.inr (92 + 1)), .inl a] 150 (ov σ) none (ov τ) := by
  unfold mo_stepAll at h
  refine Con.ofY (by decide +kernel) (by simp [yWords, yCat]) (fun hok _ => ?_)
  show Y E MX12_stepAll (yRm 3 0 0) (yQf E (150 + 0) 0 0 none (ov τ)) 0 [(0, .inr (.inr (92 + 1))), (1, .inl a)] [] (ov σ) 150 0 0
  refine y_aload_n (show decode cX12_stepAll 0 = .ok (.aload_n 0, 1) by decide +kernel) 0 rfl ?_
  refine y_aload_n (show decode cX12_stepAll 1 = .ok (.aload_n 0, 1) by decide +kernel) 0 rfl ?_
  obtain ⟨r2, e1, h⟩ := bndO_some h
  refine y_callV (np := 0) (st := [.inr (.inr (92 + 1))]) (as := []) 92 12 (sh_mo_personMany e1) q6_42 q6_39 q6_41 qs4_1 q1_15 (by decide) rfl (by decide) rfl (by decide) (by decide +kernel) (by decide) rfl (Nat.le_of_ble_eq_true rfl) (show decode cX12_stepAll 2 = .ok (.invokevirtual 418, 3) by decide +kernel) rfl ?_
  refine y_iconst (show decode cX12_stepAll 5 = .ok (.iconst 1, 1) by decide +kernel) rfl ?_
  obtain ⟨c3, h⟩ := chkI_some h
  refine y_isub (show decode cX12_stepAll 6 = .ok (.isub, 1) by decide +kernel) c3 ?_
  refine y_iload_n (show decode cX12_stepAll 7 = .ok (.iload_n 1, 1) by decide +kernel) 1 rfl ?_
  obtain ⟨c4, h⟩ := chkI_some h
  refine y_isub (show decode cX12_stepAll 8 = .ok (.isub, 1) by decide +kernel) c4 ?_
  obtain ⟨r6, e5, h⟩ := bndO_some h
  refine y_callV (np := 1) (st := []) (as := [.inl ((r2 - 1) - a)]) 92 12 (sh_mo_power e5) q8_61 q8_58 q8_60 qs6_13 q1_15 (by decide) rfl (by decide) rfl (by decide) (by decide +kernel) (by decide) rfl (Nat.le_of_ble_eq_true rfl) (show decode cX12_stepAll 9 = .ok (.invokevirtual 457, 3) by decide +kernel) rfl ?_
  refine y_istore_n (show decode cX12_stepAll 12 = .ok (.istore_n 2, 1) by decide +kernel) rfl (L1 := [(2, .inl r6), (0, .inr (.inr (92 + 1))), (1, .inl a)]) rfl ?_
  refine y_iconst (show decode cX12_stepAll 13 = .ok (.iconst 0, 1) by decide +kernel) rfl ?_
  refine y_istore_n (show decode cX12_stepAll 14 = .ok (.istore_n 3, 1) by decide +kernel) rfl (L1 := [(3, .inl 0), (2, .inl r6), (0, .inr (.inr (92 + 1))), (1, .inl a)]) rfl ?_
  refine y_pick [2, 1, 0] rfl ?_
  refine loopS1_ind (P := fun x7 σ8 => Y E MX12_stepAll (yRm 3 0 0) (yQf E (150 + 0) 0 0 none (ov τ)) 15 [(0, .inr (.inr (92 + 1))), (2, .inl r6), (3, .inl x7)] [] (ov σ8) 150 0 0) (fun k9 hk9 x7 σ8 h => ?_) _ _ _  h
  refine y_iload_n (show decode cX12_stepAll 15 = .ok (.iload_n 3, 1) by decide +kernel) 2 rfl ?_
  refine y_aload_n (show decode cX12_stepAll 16 = .ok (.aload_n 0, 1) by decide +kernel) 0 rfl ?_
  obtain ⟨r11, e10, h⟩ := bndO_some h
  refine y_callV (np := 0) (st := [.inl x7]) (as := []) 92 12 (sh_mo_stateMany e10) q8_57 q8_54 q8_56 qs6_12 q1_15 (by decide) rfl (by decide) rfl (by decide) (by decide +kernel) (by decide) rfl (Nat.le_of_ble_eq_true rfl) (show decode cX12_stepAll 17 = .ok (.invokevirtual 474, 3) by decide +kernel) rfl ?_
  by_cases c12 : x7 ≥ r11
  · rw [if_pos c12] at h
    refine y_icmp_ge_t (tgt := 112) (show decode cX12_stepAll 20 = .ok (.if_icmp .ge 92, 3) by decide +kernel) rfl c12 ?_
    refine y_iconst (show decode cX12_stepAll 112 = .ok (.iconst 0, 1) by decide +kernel) rfl ?_
    refine y_istore_n (show decode cX12_stepAll 113 = .ok (.istore_n 3, 1) by decide +kernel) rfl (L1 := [(3, .inl 0), (0, .inr (.inr (92 + 1))), (2, .inl r6)]) rfl ?_
    refine y_pick [1, 0] rfl ?_
    refine loopS1_ind (P := fun x13 σ14 => Y E MX12_stepAll (yRm 3 0 0) (yQf E (150 + 0) 0 0 none (ov τ)) 114 [(0, .inr (.inr (92 + 1))), (3, .inl x13)] [] (ov σ14) 150 0 0) (fun k15 hk15 x13 σ14 h => ?_) _ _ _  h
    refine y_iload_n (show decode cX12_stepAll 114 = .ok (.iload_n 3, 1) by decide +kernel) 1 rfl ?_
    refine y_aload_n (show decode cX12_stepAll 115 = .ok (.aload_n 0, 1) by decide +kernel) 0 rfl ?_
    obtain ⟨r17, e16, h⟩ := bndO_some h
    refine y_callV (np := 0) (st := [.inl x13]) (as := []) 92 12 (sh_mo_stateMany e16) q8_57 q8_54 q8_56 qs6_12 q1_15 (by decide) rfl (by decide) rfl (by decide) (by decide +kernel) (by decide) rfl (Nat.le_of_ble_eq_true rfl) (show decode cX12_stepAll 116 = .ok (.invokevirtual 474, 3) by decide +kernel) rfl ?_
    by_cases c18 : x13 ≥ r17
    · rw [if_pos c18] at h
      refine y_icmp_ge_t (tgt := 140) (show decode cX12_stepAll 119 = .ok (.if_icmp .ge 21, 3) by decide +kernel) rfl c18 ?_
      cases h
      exact y_vret (show decode cX12_stepAll 140 = .ok (.return_, 1) by decide +kernel) rfl
    · rw [if_neg c18] at h
      refine y_icmp_ge_f (show decode cX12_stepAll 119 = .ok (.if_icmp .ge 21, 3) by decide +kernel) c18 (by decide) ?_
      refine y_aload_n (show decode cX12_stepAll 122 = .ok (.aload_n 0, 1) by decide +kernel) 0 rfl ?_
      refine y_getf 92 12 64 141 (by decide) rfl (by decide) (by decide) q6_111 (show decode cX12_stepAll 123 = .ok (.getfield 141, 3) by decide +kernel) (v := .inr (.inr (134 + 1))) rfl ?_
      refine y_iload_n (show decode cX12_stepAll 126 = .ok (.iload_n 3, 1) by decide +kernel) 1 rfl ?_
      refine y_aload_n (show decode cX12_stepAll 127 = .ok (.aload_n 0, 1) by decide +kernel) 0 rfl ?_
      refine y_getf 92 12 65 144 (by decide) rfl (by decide) (by decide) q6_112 (show decode cX12_stepAll 128 = .ok (.getfield 144, 3) by decide +kernel) (v := .inr (.inr (135 + 1))) rfl ?_
      refine y_iload_n (show decode cX12_stepAll 131 = .ok (.iload_n 3, 1) by decide +kernel) 1 rfl ?_
      obtain ⟨c19, h⟩ := chkA_some h
      refine yo_zald 135 7776 (by decide) rfl c19 (ov_at rfl) (show decode cX12_stepAll 132 = .ok (.baload, 1) by decide +kernel) ?_
      obtain ⟨c20, h⟩ := chk_some h
      obtain ⟨c21, h⟩ := chkA_some h
      obtain ⟨σ22, e23, h⟩ := bnd_i h
      refine yo_zast 134 7776 (by decide) rfl c21 c20 (ov_set1 e23 rfl) (show decode cX12_stepAll 133 = .ok (.bastore, 1) by decide +kernel) ?_
      obtain ⟨c24, h⟩ := chkI_some h
      refine y_iinc (show decode cX12_stepAll 134 = .ok (.iinc 3 1, 3) by decide +kernel) 1 rfl c24 rfl (L1 := [(3, .inl (x13 + 1)), (0, .inr (.inr (92 + 1)))]) rfl ?_
      refine y_goto (tgt := 114) (show decode cX12_stepAll 137 = .ok (.goto (-23), 3) by decide +kernel) rfl ?_
      refine y_pick [1, 0] rfl ?_
      exact hk15 _ _ h
  · rw [if_neg c12] at h
    refine y_icmp_ge_f (show decode cX12_stepAll 20 = .ok (.if_icmp .ge 92, 3) by decide +kernel) c12 (by decide) ?_
    refine y_iload_n (show decode cX12_stepAll 23 = .ok (.iload_n 3, 1) by decide +kernel) 2 rfl ?_
    refine y_iload_n (show decode cX12_stepAll 24 = .ok (.iload_n 2, 1) by decide +kernel) 1 rfl ?_
    obtain ⟨c25, h⟩ := chk_some h
    obtain ⟨c26, h⟩ := chkI_some h
    refine y_idiv (show decode cX12_stepAll 25 = .ok (.idiv, 1) by decide +kernel) c25 c26 ?_
    refine y_aload_n (show decode cX12_stepAll 26 = .ok (.aload_n 0, 1) by decide +kernel) 0 rfl ?_
    obtain ⟨r28, e27, h⟩ := bndO_some h
    refine y_callV (np := 0) (st := [.inl ((x7 : Int).tdiv r6)]) (as := []) 92 12 (sh_mo_placeMany e27) q8_15 q8_12 q8_14 qs6_6 q1_15 (by decide) rfl (by decide) rfl (by decide) (by decide +kernel) (by decide) rfl (Nat.le_of_ble_eq_true rfl) (show decode cX12_stepAll 27 = .ok (.invokevirtual 411, 3) by decide +kernel) rfl ?_
    obtain ⟨c29, h⟩ := chk_some h
    obtain ⟨c30, h⟩ := chkI_some h
    refine y_irem (show decode cX12_stepAll 30 = .ok (.irem, 1) by decide +kernel) c29 c30 ?_
    refine y_istore (show decode cX12_stepAll 31 = .ok (.istore 4, 2) by decide +kernel) rfl (L1 := [(4, .inl ((((x7 : Int).tdiv r6) : Int).tmod r28)), (0, .inr (.inr (92 + 1))), (2, .inl r6), (3, .inl x7)]) rfl ?_
    refine y_aload_n (show decode cX12_stepAll 33 = .ok (.aload_n 0, 1) by decide +kernel) 1 rfl ?_
    refine y_getf 92 12 65 144 (by decide) rfl (by decide) (by decide) q6_112 (show decode cX12_stepAll 34 = .ok (.getfield 144, 3) by decide +kernel) (v := .inr (.inr (135 + 1))) rfl ?_
    refine y_iload_n (show decode cX12_stepAll 37 = .ok (.iload_n 3, 1) by decide +kernel) 3 rfl ?_
    refine y_iconst (show decode cX12_stepAll 38 = .ok (.iconst 0, 1) by decide +kernel) rfl ?_
    obtain ⟨c31, h⟩ := chkA_some h
    obtain ⟨σ32, e33, h⟩ := bnd_i h
    refine yo_zast 135 7776 (by decide) rfl c31 (Or.inl rfl) (ov_set1 e33 rfl) (show decode cX12_stepAll 39 = .ok (.bastore, 1) by decide +kernel) ?_
    refine y_iconst (show decode cX12_stepAll 40 = .ok (.iconst 0, 1) by decide +kernel) rfl ?_
    refine y_istore (show decode cX12_stepAll 41 = .ok (.istore 5, 2) by decide +kernel) rfl (L1 := [(5, .inl 0), (4, .inl ((((x7 : Int).tdiv r6) : Int).tmod r28)), (0, .inr (.inr (92 + 1))), (2, .inl r6), (3, .inl x7)]) rfl ?_
    refine y_pick [2, 3, 4, 1, 0] rfl ?_
    refine loopS2_ind (P := fun x34 x35 σ36 => Y E MX12_stepAll (yRm 3 0 0) (yQf E (150 + 0) 0 0 none (ov τ)) 43 [(0, .inr (.inr (92 + 1))), (2, .inl r6), (3, .inl x34), (4, .inl ((((x7 : Int).tdiv r6) : Int).tmod r28)), (5, .inl x35)] [] (ov σ36) 150 0 0) (fun k37 hk37 x34 x35 σ36 h => ?_) _ _ _ _  h
    refine y_iload (show decode cX12_stepAll 43 = .ok (.iload 5, 2) by decide +kernel) 4 rfl ?_
    refine y_aload_n (show decode cX12_stepAll 45 = .ok (.aload_n 0, 1) by decide +kernel) 0 rfl ?_
    obtain ⟨r39, e38, h⟩ := bndO_some h
    refine y_callV (np := 0) (st := [.inl x35]) (as := []) 92 12 (sh_mo_placeMany e38) q8_15 q8_12 q8_14 qs6_6 q1_15 (by decide) rfl (by decide) rfl (by decide) (by decide +kernel) (by decide) rfl (Nat.le_of_ble_eq_true rfl) (show decode cX12_stepAll 46 = .ok (.invokevirtual 411, 3) by decide +kernel) rfl ?_
    refine bnd_j (Q := fun j40 => j40 = some τ → Y E MX12_stepAll (yRm 3 0 0) (yQf E (150 + 0) 0 0 none (ov τ)) 106 [(0, .inr (.inr (92 + 1))), (2, .inl r6), (3, .inl x34)] [] (ov σ36) 150 0 0) (fun h => ?_) (fun j40 hj40 h => ?_) h
    · obtain ⟨c41, h⟩ := chkI_some h
      refine y_iinc (show decode cX12_stepAll 106 = .ok (.iinc 3 1, 3) by decide +kernel) 2 rfl c41 rfl (L1 := [(3, .inl (x34 + 1)), (0, .inr (.inr (92 + 1))), (2, .inl r6)]) rfl ?_
      refine y_goto (tgt := 15) (show decode cX12_stepAll 109 = .ok (.goto (-94), 3) by decide +kernel) rfl ?_
      refine y_pick [1, 2, 0] rfl ?_
      exact hk9 _ _ h
    by_cases c42 : x35 ≥ r39
    · rw [if_pos c42] at h
      refine y_icmp_ge_t (tgt := 106) (show decode cX12_stepAll 49 = .ok (.if_icmp .ge 57, 3) by decide +kernel) rfl c42 ?_
      refine y_pick [0, 1, 2] rfl ?_
      exact hj40 h
    · rw [if_neg c42] at h
      refine y_icmp_ge_f (show decode cX12_stepAll 49 = .ok (.if_icmp .ge 57, 3) by decide +kernel) c42 (by decide) ?_
      refine y_aload_n (show decode cX12_stepAll 52 = .ok (.aload_n 0, 1) by decide +kernel) 0 rfl ?_
      refine y_getf 92 12 65 144 (by decide) rfl (by decide) (by decide) q6_112 (show decode cX12_stepAll 53 = .ok (.getfield 144, 3) by decide +kernel) (v := .inr (.inr (135 + 1))) rfl ?_
      refine y_iload_n (show decode cX12_stepAll 56 = .ok (.iload_n 3, 1) by decide +kernel) 2 rfl ?_
      obtain ⟨c43, h⟩ := chkA_some h
      refine yo_zald 135 7776 (by decide) rfl c43 (ov_at rfl) (show decode cX12_stepAll 57 = .ok (.baload, 1) by decide +kernel) ?_
      by_cases c44 : ¬ (σ36 135 (x34).toNat) = 0
      · rw [if_pos c44] at h
        refine y_if_ne_t (tgt := 106) (show decode cX12_stepAll 58 = .ok (.ifCond .ne 48, 3) by decide +kernel) rfl c44 ?_
        refine y_pick [0, 1, 2] rfl ?_
        exact hj40 h
      · rw [if_neg c44] at h
        refine y_if_ne_f (show decode cX12_stepAll 58 = .ok (.ifCond .ne 48, 3) by decide +kernel) c44 (by decide) ?_
        refine y_aload_n (show decode cX12_stepAll 61 = .ok (.aload_n 0, 1) by decide +kernel) 0 rfl ?_
        refine y_getf 92 12 65 144 (by decide) rfl (by decide) (by decide) q6_112 (show decode cX12_stepAll 62 = .ok (.getfield 144, 3) by decide +kernel) (v := .inr (.inr (135 + 1))) rfl ?_
        refine y_iload_n (show decode cX12_stepAll 65 = .ok (.iload_n 3, 1) by decide +kernel) 2 rfl ?_
        refine y_aload_n (show decode cX12_stepAll 66 = .ok (.aload_n 0, 1) by decide +kernel) 0 rfl ?_
        refine y_getf 92 12 64 141 (by decide) rfl (by decide) (by decide) q6_111 (show decode cX12_stepAll 67 = .ok (.getfield 141, 3) by decide +kernel) (v := .inr (.inr (134 + 1))) rfl ?_
        refine y_iload_n (show decode cX12_stepAll 70 = .ok (.iload_n 3, 1) by decide +kernel) 2 rfl ?_
        refine y_iload (show decode cX12_stepAll 71 = .ok (.iload 5, 2) by decide +kernel) 4 rfl ?_
        refine y_iload (show decode cX12_stepAll 73 = .ok (.iload 4, 2) by decide +kernel) 3 rfl ?_
        obtain ⟨c45, h⟩ := chkI_some h
        refine y_isub (show decode cX12_stepAll 75 = .ok (.isub, 1) by decide +kernel) c45 ?_
        refine y_iload_n (show decode cX12_stepAll 76 = .ok (.iload_n 2, 1) by decide +kernel) 1 rfl ?_
        obtain ⟨c46, h⟩ := chkI_some h
        refine y_imul (show decode cX12_stepAll 77 = .ok (.imul, 1) by decide +kernel) c46 ?_
        obtain ⟨c47, h⟩ := chkI_some h
        refine y_iadd (show decode cX12_stepAll 78 = .ok (.iadd, 1) by decide +kernel) c47 ?_
        obtain ⟨c48, h⟩ := chkA_some h
        refine yo_zald 134 7776 (by decide) rfl c48 (ov_at rfl) (show decode cX12_stepAll 79 = .ok (.baload, 1) by decide +kernel) ?_
        refine bnd_j (Q := fun j50 => ∀ (y49 : Int), j50 y49 = some τ → Y E MX12_stepAll (yRm 3 0 0) (yQf E (150 + 0) 0 0 none (ov τ)) 99 [(0, .inr (.inr (92 + 1))), (2, .inl r6), (3, .inl x34), (4, .inl ((((x7 : Int).tdiv r6) : Int).tmod r28)), (5, .inl x35)] [.inl y49, .inl x34, .inr (.inr (135 + 1))] (ov σ36) 150 0 0) (fun y49 h => ?_) (fun j50 hj50 h => ?_) h
        · dsimp only at h
          obtain ⟨c51, h⟩ := chk_some h
          obtain ⟨c52, h⟩ := chkA_some h
          obtain ⟨σ53, e54, h⟩ := bnd_i h
          refine yo_zast 135 7776 (by decide) rfl c52 c51 (ov_set1 e54 rfl) (show decode cX12_stepAll 99 = .ok (.bastore, 1) by decide +kernel) ?_
          obtain ⟨c55, h⟩ := chkI_some h
          refine y_iinc (show decode cX12_stepAll 100 = .ok (.iinc 5 1, 3) by decide +kernel) 4 rfl c55 rfl (L1 := [(5, .inl (x35 + 1)), (0, .inr (.inr (92 + 1))), (2, .inl r6), (3, .inl x34), (4, .inl ((((x7 : Int).tdiv r6) : Int).tmod r28))]) rfl ?_
          refine y_goto (tgt := 43) (show decode cX12_stepAll 103 = .ok (.goto (-60), 3) by decide +kernel) rfl ?_
          refine y_pick [1, 2, 3, 4, 0] rfl ?_
          exact hk37 _ _ _ h
        by_cases c56 : (σ36 134 ((x34 + ((x35 - ((((x7 : Int).tdiv r6) : Int).tmod r28)) * r6))).toNat) = 0
        · rw [if_pos c56] at h
          refine y_if_eq_t (tgt := 98) (show decode cX12_stepAll 80 = .ok (.ifCond .eq 18, 3) by decide +kernel) rfl c56 ?_
          refine y_iconst (show decode cX12_stepAll 98 = .ok (.iconst 0, 1) by decide +kernel) rfl ?_
          refine y_pick [0, 1, 2, 3, 4] rfl ?_
          exact hj50 _ h
        · rw [if_neg c56] at h
          refine y_if_eq_f (show decode cX12_stepAll 80 = .ok (.ifCond .eq 18, 3) by decide +kernel) c56 (by decide) ?_
          refine y_aload_n (show decode cX12_stepAll 83 = .ok (.aload_n 0, 1) by decide +kernel) 0 rfl ?_
          refine y_iload (show decode cX12_stepAll 84 = .ok (.iload 4, 2) by decide +kernel) 3 rfl ?_
          refine y_iload (show decode cX12_stepAll 86 = .ok (.iload 5, 2) by decide +kernel) 4 rfl ?_
          obtain ⟨r58, e57, h⟩ := bndO_some h
          refine y_callV (np := 2) (st := [.inl x34, .inr (.inr (135 + 1))]) (as := [.inl ((((x7 : Int).tdiv r6) : Int).tmod r28), .inl x35]) 92 12 (sh_mo_gets e57) q8_93 q8_90 q8_92 qs7_5 q1_15 (by decide) rfl (by decide) rfl (by decide) (by decide +kernel) (by decide) rfl (Nat.le_of_ble_eq_true rfl) (show decode cX12_stepAll 88 = .ok (.invokevirtual 477, 3) by decide +kernel) rfl ?_
          by_cases c59 : r58 = 0
          · rw [if_pos c59] at h
            refine y_if_eq_t (tgt := 98) (show decode cX12_stepAll 91 = .ok (.ifCond .eq 7, 3) by decide +kernel) rfl c59 ?_
            refine y_iconst (show decode cX12_stepAll 98 = .ok (.iconst 0, 1) by decide +kernel) rfl ?_
            refine y_pick [0, 1, 2, 3, 4] rfl ?_
            exact hj50 _ h
          · rw [if_neg c59] at h
            refine y_if_eq_f (show decode cX12_stepAll 91 = .ok (.ifCond .eq 7, 3) by decide +kernel) c59 (by decide) ?_
            refine y_iconst (show decode cX12_stepAll 94 = .ok (.iconst 1, 1) by decide +kernel) rfl ?_
            refine y_goto (tgt := 99) (show decode cX12_stepAll 95 = .ok (.goto 4, 3) by decide +kernel) rfl ?_
            refine y_pick [0, 1, 2, 3, 4] rfl ?_
            exact hj50 _ h
abbrev MX12_isCounted : yM := (yX12_isCounted, cX12_isCounted, 3, some .boolean)
def mo_isCounted (a : Int) (b : Int) (σ : ySt) : Option (Int) :=
  chkA 40 a <|
  if (σ 144 (a).toNat) > b then
    some 0
  else
    chkA 40 a <|
    if (σ 145 (a).toNat) < 0 then
      some 1
    else
      chkA 40 a <|
      if (σ 145 (a).toNat) ≤ b then
        some 0
      else
        some 1
set_option maxHeartbeats 4000000 in
set_option maxRecDepth 10000 in
theorem sh_mo_isCounted {E : yE} {a : Int} {b : Int} {σ : ySt} {ρ : Int} (h : mo_isCounted a b σ = some ρ) : Con E MX12_isCounted 0 0 0 [.inr (.inr (92 + 1)), .inl a, .inl b] 150 (ov σ) (some (.inl ρ)) (ov σ) := by
  unfold mo_isCounted at h
  refine Con.ofY (by decide +kernel) (by simp [yWords, yCat]) (fun hok _ => ?_)
  show Y E MX12_isCounted (yRm 0 0 0) (yQf E (150 + 0) 0 0 (some (.inl ρ)) (ov σ)) 0 [(0, .inr (.inr (92 + 1))), (1, .inl a), (2, .inl b)] [] (ov σ) 150 0 0
  refine y_aload_n (show decode cX12_isCounted 0 = .ok (.aload_n 0, 1) by decide +kernel) 0 rfl ?_
  refine y_getf 92 12 79 171 (by decide) rfl (by decide) (by decide) q6_126 (show decode cX12_isCounted 1 = .ok (.getfield 171, 3) by decide +kernel) (v := .inr (.inr (144 + 1))) rfl ?_
  refine y_iload_n (show decode cX12_isCounted 4 = .ok (.iload_n 1, 1) by decide +kernel) 1 rfl ?_
  obtain ⟨c1, h⟩ := chkA_some h
  refine yo_iald 144 40 (by decide) rfl c1 (ov_at rfl) (show decode cX12_isCounted 5 = .ok (.iaload, 1) by decide +kernel) ?_
  refine y_iload_n (show decode cX12_isCounted 6 = .ok (.iload_n 2, 1) by decide +kernel) 2 rfl ?_
  by_cases c2 : (σ 144 (a).toNat) > b
  · rw [if_pos c2] at h
    refine y_icmp_gt_t (tgt := 33) (show decode cX12_isCounted 7 = .ok (.if_icmp .gt 26, 3) by decide +kernel) rfl c2 ?_
    refine y_iconst (show decode cX12_isCounted 33 = .ok (.iconst 0, 1) by decide +kernel) rfl ?_
    cases h
    exact y_zret (show decode cX12_isCounted 34 = .ok (.ireturn, 1) by decide +kernel) rfl (Or.inl rfl)
  · rw [if_neg c2] at h
    refine y_icmp_gt_f (show decode cX12_isCounted 7 = .ok (.if_icmp .gt 26, 3) by decide +kernel) c2 (by decide) ?_
    refine y_aload_n (show decode cX12_isCounted 10 = .ok (.aload_n 0, 1) by decide +kernel) 0 rfl ?_
    refine y_getf 92 12 80 174 (by decide) rfl (by decide) (by decide) q6_127 (show decode cX12_isCounted 11 = .ok (.getfield 174, 3) by decide +kernel) (v := .inr (.inr (145 + 1))) rfl ?_
    refine y_iload_n (show decode cX12_isCounted 14 = .ok (.iload_n 1, 1) by decide +kernel) 1 rfl ?_
    obtain ⟨c3, h⟩ := chkA_some h
    refine yo_iald 145 40 (by decide) rfl c3 (ov_at rfl) (show decode cX12_isCounted 15 = .ok (.iaload, 1) by decide +kernel) ?_
    by_cases c4 : (σ 145 (a).toNat) < 0
    · rw [if_pos c4] at h
      refine y_if_lt_t (tgt := 29) (show decode cX12_isCounted 16 = .ok (.ifCond .lt 13, 3) by decide +kernel) rfl c4 ?_
      refine y_iconst (show decode cX12_isCounted 29 = .ok (.iconst 1, 1) by decide +kernel) rfl ?_
      refine y_goto (tgt := 34) (show decode cX12_isCounted 30 = .ok (.goto 4, 3) by decide +kernel) rfl ?_
      cases h
      exact y_zret (show decode cX12_isCounted 34 = .ok (.ireturn, 1) by decide +kernel) rfl (Or.inr rfl)
    · rw [if_neg c4] at h
      refine y_if_lt_f (show decode cX12_isCounted 16 = .ok (.ifCond .lt 13, 3) by decide +kernel) c4 (by decide) ?_
      refine y_aload_n (show decode cX12_isCounted 19 = .ok (.aload_n 0, 1) by decide +kernel) 0 rfl ?_
      refine y_getf 92 12 80 174 (by decide) rfl (by decide) (by decide) q6_127 (show decode cX12_isCounted 20 = .ok (.getfield 174, 3) by decide +kernel) (v := .inr (.inr (145 + 1))) rfl ?_
      refine y_iload_n (show decode cX12_isCounted 23 = .ok (.iload_n 1, 1) by decide +kernel) 1 rfl ?_
      obtain ⟨c5, h⟩ := chkA_some h
      refine yo_iald 145 40 (by decide) rfl c5 (ov_at rfl) (show decode cX12_isCounted 24 = .ok (.iaload, 1) by decide +kernel) ?_
      refine y_iload_n (show decode cX12_isCounted 25 = .ok (.iload_n 2, 1) by decide +kernel) 2 rfl ?_
      by_cases c6 : (σ 145 (a).toNat) ≤ b
      · rw [if_pos c6] at h
        refine y_icmp_le_t (tgt := 33) (show decode cX12_isCounted 26 = .ok (.if_icmp .le 7, 3) by decide +kernel) rfl c6 ?_
        refine y_iconst (show decode cX12_isCounted 33 = .ok (.iconst 0, 1) by decide +kernel) rfl ?_
        cases h
        exact y_zret (show decode cX12_isCounted 34 = .ok (.ireturn, 1) by decide +kernel) rfl (Or.inl rfl)
      · rw [if_neg c6] at h
        refine y_icmp_le_f (show decode cX12_isCounted 26 = .ok (.if_icmp .le 7, 3) by decide +kernel) c6 (by decide) ?_
        refine y_iconst (show decode cX12_isCounted 29 = .ok (.iconst 1, 1) by decide +kernel) rfl ?_
        refine y_goto (tgt := 34) (show decode cX12_isCounted 30 = .ok (.goto 4, 3) by decide +kernel) rfl ?_
        cases h
        exact y_zret (show decode cX12_isCounted 34 = .ok (.ireturn, 1) by decide +kernel) rfl (Or.inr rfl)
abbrev MX12_agrees : yM := (yX12_agrees, cX12_agrees, 4, some .boolean)
def mo_agrees (N : Nat) (a : Int) (b : Int) (σ : ySt) : Option (Int) :=
  loop1 (fun k2 x1 =>
    if x1 ≥ (σ 92 81) then
      some 1
    else
      bndO (mo_isCounted x1 b σ) fun r5 =>
      bnd (chkI (x1 + 1) <|
        k2 (x1 + 1)) fun j6 =>
      if r5 = 0 then
        j6
      else
        chkA 40 x1 <|
        if ¬ (σ 141 (x1).toNat) = a then
          j6
        else
          chkA 40 x1 <|
          chkA 6 (σ 142 (x1).toNat) <|
          chkA 40 x1 <|
          if (σ 127 ((σ 142 (x1).toNat)).toNat) = (σ 143 (x1).toNat) then
            j6
          else
            some 0) N 0
set_option maxHeartbeats 4000000 in
set_option maxRecDepth 10000 in
theorem sh_mo_agrees {E : yE} {N : Nat} {a : Int} {b : Int} {σ : ySt} {ρ : Int} (h : mo_agrees N a b σ = some ρ) : Con E MX12_agrees 1 0 0 [.inr (.inr (92 + 1)), .inl a, .inl b] 150 (ov σ) (some (.inl ρ)) (ov σ) := by
  unfold mo_agrees at h
  refine Con.ofY (by decide +kernel) (by simp [yWords, yCat]) (fun hok _ => ?_)
  show Y E MX12_agrees (yRm 1 0 0) (yQf E (150 + 0) 0 0 (some (.inl ρ)) (ov σ)) 0 [(0, .inr (.inr (92 + 1))), (1, .inl a), (2, .inl b)] [] (ov σ) 150 0 0
  refine y_iconst (show decode cX12_agrees 0 = .ok (.iconst 0, 1) by decide +kernel) rfl ?_
  refine y_istore_n (show decode cX12_agrees 1 = .ok (.istore_n 3, 1) by decide +kernel) rfl (L1 := [(3, .inl 0), (0, .inr (.inr (92 + 1))), (1, .inl a), (2, .inl b)]) rfl ?_
  refine y_pick [1, 2, 3, 0] rfl ?_
  refine loop1_ind (P := fun x1 => Y E MX12_agrees (yRm 1 0 0) (yQf E (150 + 0) 0 0 (some (.inl ρ)) (ov σ)) 2 [(0, .inr (.inr (92 + 1))), (1, .inl a), (2, .inl b), (3, .inl x1)] [] (ov σ) 150 0 0) (fun k2 hk2 x1 h => ?_) _ _  h
  refine y_iload_n (show decode cX12_agrees 2 = .ok (.iload_n 3, 1) by decide +kernel) 3 rfl ?_
  refine y_aload_n (show decode cX12_agrees 3 = .ok (.aload_n 0, 1) by decide +kernel) 0 rfl ?_
  refine y_getf 92 12 81 317 (by decide) rfl (by decide) (by decide) q6_128 (show decode cX12_agrees 4 = .ok (.getfield 317, 3) by decide +kernel) (v := .inl (σ 92 81)) rfl ?_
  by_cases c3 : x1 ≥ (σ 92 81)
  · rw [if_pos c3] at h
    refine y_icmp_ge_t (tgt := 57) (show decode cX12_agrees 7 = .ok (.if_icmp .ge 50, 3) by decide +kernel) rfl c3 ?_
    refine y_iconst (show decode cX12_agrees 57 = .ok (.iconst 1, 1) by decide +kernel) rfl ?_
    cases h
    exact y_zret (show decode cX12_agrees 58 = .ok (.ireturn, 1) by decide +kernel) rfl (Or.inr rfl)
  · rw [if_neg c3] at h
    refine y_icmp_ge_f (show decode cX12_agrees 7 = .ok (.if_icmp .ge 50, 3) by decide +kernel) c3 (by decide) ?_
    refine y_aload_n (show decode cX12_agrees 10 = .ok (.aload_n 0, 1) by decide +kernel) 0 rfl ?_
    refine y_iload_n (show decode cX12_agrees 11 = .ok (.iload_n 3, 1) by decide +kernel) 3 rfl ?_
    refine y_iload_n (show decode cX12_agrees 12 = .ok (.iload_n 2, 1) by decide +kernel) 2 rfl ?_
    obtain ⟨r5, e4, h⟩ := bndO_some h
    refine y_callV (np := 2) (st := []) (as := [.inl x1, .inl b]) 92 12 (sh_mo_isCounted e4) q8_149 q8_146 q8_148 qs7_13 q1_15 (by decide) rfl (by decide) rfl (by decide) (by decide +kernel) (by decide) rfl (Nat.le_of_ble_eq_true rfl) (show decode cX12_agrees 13 = .ok (.invokevirtual 511, 3) by decide +kernel) rfl ?_
    refine bnd_j (Q := fun j6 => j6 = some ρ → Y E MX12_agrees (yRm 1 0 0) (yQf E (150 + 0) 0 0 (some (.inl ρ)) (ov σ)) 51 [(0, .inr (.inr (92 + 1))), (1, .inl a), (2, .inl b), (3, .inl x1)] [] (ov σ) 150 0 0) (fun h => ?_) (fun j6 hj6 h => ?_) h
    · obtain ⟨c7, h⟩ := chkI_some h
      refine y_iinc (show decode cX12_agrees 51 = .ok (.iinc 3 1, 3) by decide +kernel) 3 rfl c7 rfl (L1 := [(3, .inl (x1 + 1)), (0, .inr (.inr (92 + 1))), (1, .inl a), (2, .inl b)]) rfl ?_
      refine y_goto (tgt := 2) (show decode cX12_agrees 54 = .ok (.goto (-52), 3) by decide +kernel) rfl ?_
      refine y_pick [1, 2, 3, 0] rfl ?_
      exact hk2 _ h
    by_cases c8 : r5 = 0
    · rw [if_pos c8] at h
      refine y_if_eq_t (tgt := 51) (show decode cX12_agrees 16 = .ok (.ifCond .eq 35, 3) by decide +kernel) rfl c8 ?_
      refine y_pick [0, 1, 2, 3] rfl ?_
      exact hj6 h
    · rw [if_neg c8] at h
      refine y_if_eq_f (show decode cX12_agrees 16 = .ok (.ifCond .eq 35, 3) by decide +kernel) c8 (by decide) ?_
      refine y_aload_n (show decode cX12_agrees 19 = .ok (.aload_n 0, 1) by decide +kernel) 0 rfl ?_
      refine y_getf 92 12 76 162 (by decide) rfl (by decide) (by decide) q6_123 (show decode cX12_agrees 20 = .ok (.getfield 162, 3) by decide +kernel) (v := .inr (.inr (141 + 1))) rfl ?_
      refine y_iload_n (show decode cX12_agrees 23 = .ok (.iload_n 3, 1) by decide +kernel) 3 rfl ?_
      obtain ⟨c9, h⟩ := chkA_some h
      refine yo_iald 141 40 (by decide) rfl c9 (ov_at rfl) (show decode cX12_agrees 24 = .ok (.iaload, 1) by decide +kernel) ?_
      refine y_iload_n (show decode cX12_agrees 25 = .ok (.iload_n 1, 1) by decide +kernel) 1 rfl ?_
      by_cases c10 : ¬ (σ 141 (x1).toNat) = a
      · rw [if_pos c10] at h
        refine y_icmp_ne_t (tgt := 51) (show decode cX12_agrees 26 = .ok (.if_icmp .ne 25, 3) by decide +kernel) rfl c10 ?_
        refine y_pick [0, 1, 2, 3] rfl ?_
        exact hj6 h
      · rw [if_neg c10] at h
        refine y_icmp_ne_f (show decode cX12_agrees 26 = .ok (.if_icmp .ne 25, 3) by decide +kernel) c10 (by decide) ?_
        refine y_aload_n (show decode cX12_agrees 29 = .ok (.aload_n 0, 1) by decide +kernel) 0 rfl ?_
        refine y_getf 92 12 57 119 (by decide) rfl (by decide) (by decide) q6_104 (show decode cX12_agrees 30 = .ok (.getfield 119, 3) by decide +kernel) (v := .inr (.inr (127 + 1))) rfl ?_
        refine y_aload_n (show decode cX12_agrees 33 = .ok (.aload_n 0, 1) by decide +kernel) 0 rfl ?_
        refine y_getf 92 12 77 165 (by decide) rfl (by decide) (by decide) q6_124 (show decode cX12_agrees 34 = .ok (.getfield 165, 3) by decide +kernel) (v := .inr (.inr (142 + 1))) rfl ?_
        refine y_iload_n (show decode cX12_agrees 37 = .ok (.iload_n 3, 1) by decide +kernel) 3 rfl ?_
        obtain ⟨c11, h⟩ := chkA_some h
        refine yo_iald 142 40 (by decide) rfl c11 (ov_at rfl) (show decode cX12_agrees 38 = .ok (.iaload, 1) by decide +kernel) ?_
        obtain ⟨c12, h⟩ := chkA_some h
        refine yo_iald 127 6 (by decide) rfl c12 (ov_at rfl) (show decode cX12_agrees 39 = .ok (.iaload, 1) by decide +kernel) ?_
        refine y_aload_n (show decode cX12_agrees 40 = .ok (.aload_n 0, 1) by decide +kernel) 0 rfl ?_
        refine y_getf 92 12 78 168 (by decide) rfl (by decide) (by decide) q6_125 (show decode cX12_agrees 41 = .ok (.getfield 168, 3) by decide +kernel) (v := .inr (.inr (143 + 1))) rfl ?_
        refine y_iload_n (show decode cX12_agrees 44 = .ok (.iload_n 3, 1) by decide +kernel) 3 rfl ?_
        obtain ⟨c13, h⟩ := chkA_some h
        refine yo_iald 143 40 (by decide) rfl c13 (ov_at rfl) (show decode cX12_agrees 45 = .ok (.iaload, 1) by decide +kernel) ?_
        by_cases c14 : (σ 127 ((σ 142 (x1).toNat)).toNat) = (σ 143 (x1).toNat)
        · rw [if_pos c14] at h
          refine y_icmp_eq_t (tgt := 51) (show decode cX12_agrees 46 = .ok (.if_icmp .eq 5, 3) by decide +kernel) rfl c14 ?_
          refine y_pick [0, 1, 2, 3] rfl ?_
          exact hj6 h
        · rw [if_neg c14] at h
          refine y_icmp_eq_f (show decode cX12_agrees 46 = .ok (.if_icmp .eq 5, 3) by decide +kernel) c14 (by decide) ?_
          refine y_iconst (show decode cX12_agrees 49 = .ok (.iconst 0, 1) by decide +kernel) rfl ?_
          cases h
          exact y_zret (show decode cX12_agrees 50 = .ok (.ireturn, 1) by decide +kernel) rfl (Or.inl rfl)
abbrev MX12_findAll : yM := (yX12_findAll, cX12_findAll, 6, none)
def mo_findAll (N : Nat) (a : Int) (b : Int) (σ : ySt) : Option (ySt) :=
  bndO (mo_plain σ) fun σ2 =>
  bndO (mo_layTown N σ2) fun σ4 =>
  bndO (mo_stateMany N σ4) fun r6 =>
  loopS1 (fun k9 x7 σ8 =>
    if x7 ≥ r6 then
      loopS1 (fun k13 x11 σ12 =>
        if x11 > (σ12 92 48) then
          loopS1 (fun k17 x15 σ16 =>
            if x15 ≤ 0 then
              some σ16
            else
              loopS2 (fun k22 x19 x20 σ21 =>
                if x20 ≥ r6 then
                  loopS2 (fun k27 x24 x25 σ26 =>
                    bndO (mo_personMany σ26) fun r29 =>
                    if x25 ≥ r29 then
                      loopS2 (fun k34 x31 x32 σ33 =>
                        if x32 ≥ r6 then
                          chkI (x31 + (-1)) <|
                          k17 (x31 + (-1)) σ33
                        else
                          chkI (x31 - 1) <|
                          chkI (7776 * (x31 - 1)) <|
                          chkI ((7776 * (x31 - 1)) + x32) <|
                          chkA 7776 x32 <|
                          chk ((σ33 134 (x32).toNat) = 0 ∨ (σ33 134 (x32).toNat) = 1) <|
                          chkA 70000 ((7776 * (x31 - 1)) + x32) <|
                          bnd (yset σ33 133 (((7776 * (x31 - 1)) + x32)).toNat (σ33 134 (x32).toNat)) fun σ43 =>
                          chkI (x32 + 1) <|
                          k34 x31 (x32 + 1) σ43) N x24 0 σ26
                    else
                      bndO (mo_stepAll N x25 σ26) fun σ47 =>
                      chkI (x25 + 1) <|
                      k27 x24 (x25 + 1) σ47) N x19 0 σ21
                else
                  chkI (7776 * x19) <|
                  chkI ((7776 * x19) + x20) <|
                  chkA 70000 ((7776 * x19) + x20) <|
                  bnd (fun (y52 : Int) =>
                    chk (y52 = 0 ∨ y52 = 1) <|
                    chkA 7776 x20 <|
                    bnd (yset σ21 134 (x20).toNat y52) fun σ56 =>
                    chkI (x20 + 1) <|
                    k22 x19 (x20 + 1) σ56) fun j53 =>
                  if (σ21 132 (((7776 * x19) + x20)).toNat) = 0 then
                    j53 0
                  else
                    chkI (7776 * x19) <|
                    chkI ((7776 * x19) + x20) <|
                    chkA 70000 ((7776 * x19) + x20) <|
                    if (σ21 133 (((7776 * x19) + x20)).toNat) = 0 then
                      j53 0
                    else
                      j53 1) N x15 0 σ16) N (σ12 92 48) σ12
        else
          loopS2 (fun k67 x64 x65 σ66 =>
            if x65 ≥ r6 then
              loopS2 (fun k72 x69 x70 σ71 =>
                bndO (mo_personMany σ71) fun r74 =>
                if x70 ≥ r74 then
                  loopS2 (fun k79 x76 x77 σ78 =>
                    if x77 ≥ r6 then
                      chkI (x76 + 1) <|
                      k13 (x76 + 1) σ78
                    else
                      bndO (mo_layState N x77 σ78) fun σ83 =>
                      chkI (7776 * x76) <|
                      chkI ((7776 * x76) + x77) <|
                      chkA 7776 x77 <|
                      bnd (fun (y87 : Int) =>
                        chk (y87 = 0 ∨ y87 = 1) <|
                        chkA 70000 ((7776 * x76) + x77) <|
                        bnd (yset σ83 132 (((7776 * x76) + x77)).toNat y87) fun σ91 =>
                        chkI (x77 + 1) <|
                        k79 x76 (x77 + 1) σ91) fun j88 =>
                      if (σ83 134 (x77).toNat) = 0 then
                        j88 0
                      else
                        bndO (mo_isLawful N x76 σ83) fun r96 =>
                        if r96 = 0 then
                          j88 0
                        else
                          if a = 0 then
                            j88 1
                          else
                            bndO (mo_agrees N x76 b σ83) fun r100 =>
                            if r100 = 0 then
                              j88 0
                            else
                              j88 1) N x69 0 σ71
                else
                  bndO (mo_stepAll N x70 σ71) fun σ103 =>
                  chkI (x70 + 1) <|
                  k72 x69 (x70 + 1) σ103) N x64 0 σ66
            else
              chkI (x64 - 1) <|
              chkI (7776 * (x64 - 1)) <|
              chkI ((7776 * (x64 - 1)) + x65) <|
              chkA 70000 ((7776 * (x64 - 1)) + x65) <|
              chk ((σ66 132 (((7776 * (x64 - 1)) + x65)).toNat) = 0 ∨ (σ66 132 (((7776 * (x64 - 1)) + x65)).toNat) = 1) <|
              chkA 7776 x65 <|
              bnd (yset σ66 134 (x65).toNat (σ66 132 (((7776 * (x64 - 1)) + x65)).toNat)) fun σ111 =>
              chkI (x65 + 1) <|
              k67 x64 (x65 + 1) σ111) N x11 0 σ12) N 1 σ8
    else
      bndO (mo_homeState N σ8) fun r115 =>
      bnd (fun (y116 : Int) =>
        chk (y116 = 0 ∨ y116 = 1) <|
        chkA 70000 x7 <|
        bnd (yset σ8 132 (x7).toNat y116) fun σ120 =>
        chkI (7776 * (σ120 92 48)) <|
        chkI ((7776 * (σ120 92 48)) + x7) <|
        chkA 70000 ((7776 * (σ120 92 48)) + x7) <|
        bnd (yset σ120 133 (((7776 * (σ120 92 48)) + x7)).toNat 1) fun σ125 =>
        chkI (x7 + 1) <|
        k9 (x7 + 1) σ125) fun j117 =>
      if ¬ x7 = r115 then
        j117 0
      else
        j117 1) N 0 σ4
set_option maxHeartbeats 4000000 in
set_option maxRecDepth 10000 in
theorem sh_mo_findAll {E : yE} {N : Nat} {a : Int} {b : Int} {σ : ySt} {τ : ySt} (h : mo_findAll N a b σ = some τ) : Con E MX12_findAll 4 0 0 [.inr (.inr (92 + 1)), .inl a, .inl b] 150 (ov σ) none (ov τ) := by
  unfold mo_findAll at h
  refine Con.ofY (by decide +kernel) (by simp [yWords, yCat]) (fun hok _ => ?_)
  show Y E MX12_findAll (yRm 4 0 0) (yQf E (150 + 0) 0 0 none (ov τ)) 0 [(0, .inr (.inr (92 + 1))), (1, .inl a), (2, .inl b)] [] (ov σ) 150 0 0
  refine y_aload_n (show decode cX12_findAll 0 = .ok (.aload_n 0, 1) by decide +kernel) 0 rfl ?_
  obtain ⟨σ2, e1, h⟩ := bndO_some h
  refine y_callV (np := 0) (st := []) (as := []) 92 12 (sh_mo_plain e1) q8_22 q8_19 q8_21 qs6_7 q1_15 (by decide) rfl (by decide) rfl (by decide) (by decide +kernel) (by decide) rfl (Nat.le_of_ble_eq_true rfl) (show decode cX12_findAll 1 = .ok (.invokevirtual 451, 3) by decide +kernel) rfl ?_
  refine y_aload_n (show decode cX12_findAll 4 = .ok (.aload_n 0, 1) by decide +kernel) 0 rfl ?_
  obtain ⟨σ4, e3, h⟩ := bndO_some h
  refine y_callV (np := 0) (st := []) (as := []) 92 12 (sh_mo_layTown e3) q8_26 q8_23 q8_25 qs6_8 q1_15 (by decide) rfl (by decide) rfl (by decide) (by decide +kernel) (by decide) rfl (Nat.le_of_ble_eq_true rfl) (show decode cX12_findAll 5 = .ok (.invokevirtual 454, 3) by decide +kernel) rfl ?_
  refine y_aload_n (show decode cX12_findAll 8 = .ok (.aload_n 0, 1) by decide +kernel) 0 rfl ?_
  obtain ⟨r6, e5, h⟩ := bndO_some h
  refine y_callV (np := 0) (st := []) (as := []) 92 12 (sh_mo_stateMany e5) q8_57 q8_54 q8_56 qs6_12 q1_15 (by decide) rfl (by decide) rfl (by decide) (by decide +kernel) (by decide) rfl (Nat.le_of_ble_eq_true rfl) (show decode cX12_findAll 9 = .ok (.invokevirtual 474, 3) by decide +kernel) rfl ?_
  refine y_istore_n (show decode cX12_findAll 12 = .ok (.istore_n 3, 1) by decide +kernel) rfl (L1 := [(3, .inl r6), (0, .inr (.inr (92 + 1))), (1, .inl a), (2, .inl b)]) rfl ?_
  refine y_iconst (show decode cX12_findAll 13 = .ok (.iconst 0, 1) by decide +kernel) rfl ?_
  refine y_istore (show decode cX12_findAll 14 = .ok (.istore 4, 2) by decide +kernel) rfl (L1 := [(4, .inl 0), (3, .inl r6), (0, .inr (.inr (92 + 1))), (1, .inl a), (2, .inl b)]) rfl ?_
  refine y_pick [2, 3, 4, 1, 0] rfl ?_
  refine loopS1_ind (P := fun x7 σ8 => Y E MX12_findAll (yRm 4 0 0) (yQf E (150 + 0) 0 0 none (ov τ)) 16 [(0, .inr (.inr (92 + 1))), (1, .inl a), (2, .inl b), (3, .inl r6), (4, .inl x7)] [] (ov σ8) 150 0 0) (fun k9 hk9 x7 σ8 h => ?_) _ _ _  h
  refine y_iload (show decode cX12_findAll 16 = .ok (.iload 4, 2) by decide +kernel) 4 rfl ?_
  refine y_iload_n (show decode cX12_findAll 18 = .ok (.iload_n 3, 1) by decide +kernel) 3 rfl ?_
  by_cases c10 : x7 ≥ r6
  · rw [if_pos c10] at h
    refine y_icmp_ge_t (tgt := 66) (show decode cX12_findAll 19 = .ok (.if_icmp .ge 47, 3) by decide +kernel) rfl c10 ?_
    refine y_iconst (show decode cX12_findAll 66 = .ok (.iconst 1, 1) by decide +kernel) rfl ?_
    refine y_istore (show decode cX12_findAll 67 = .ok (.istore 4, 2) by decide +kernel) rfl (L1 := [(4, .inl 1), (0, .inr (.inr (92 + 1))), (1, .inl a), (2, .inl b), (3, .inl r6)]) rfl ?_
    refine y_pick [1, 2, 3, 4, 0] rfl ?_
    refine loopS1_ind (P := fun x11 σ12 => Y E MX12_findAll (yRm 4 0 0) (yQf E (150 + 0) 0 0 none (ov τ)) 69 [(0, .inr (.inr (92 + 1))), (1, .inl a), (2, .inl b), (3, .inl r6), (4, .inl x11)] [] (ov σ12) 150 0 0) (fun k13 hk13 x11 σ12 h => ?_) _ _ _  h
    refine y_iload (show decode cX12_findAll 69 = .ok (.iload 4, 2) by decide +kernel) 4 rfl ?_
    refine y_aload_n (show decode cX12_findAll 71 = .ok (.aload_n 0, 1) by decide +kernel) 0 rfl ?_
    refine y_getf 92 12 48 424 (by decide) rfl (by decide) (by decide) q6_95 (show decode cX12_findAll 72 = .ok (.getfield 424, 3) by decide +kernel) (v := .inl (σ12 92 48)) rfl ?_
    by_cases c14 : x11 > (σ12 92 48)
    · rw [if_pos c14] at h
      refine y_icmp_gt_t (tgt := 219) (show decode cX12_findAll 75 = .ok (.if_icmp .gt 144, 3) by decide +kernel) rfl c14 ?_
      refine y_aload_n (show decode cX12_findAll 219 = .ok (.aload_n 0, 1) by decide +kernel) 0 rfl ?_
      refine y_getf 92 12 48 424 (by decide) rfl (by decide) (by decide) q6_95 (show decode cX12_findAll 220 = .ok (.getfield 424, 3) by decide +kernel) (v := .inl (σ12 92 48)) rfl ?_
      refine y_istore (show decode cX12_findAll 223 = .ok (.istore 4, 2) by decide +kernel) rfl (L1 := [(4, .inl (σ12 92 48)), (0, .inr (.inr (92 + 1))), (1, .inl a), (2, .inl b), (3, .inl r6)]) rfl ?_
      refine y_pick [1, 4, 0] rfl ?_
      refine loopS1_ind (P := fun x15 σ16 => Y E MX12_findAll (yRm 4 0 0) (yQf E (150 + 0) 0 0 none (ov τ)) 225 [(0, .inr (.inr (92 + 1))), (3, .inl r6), (4, .inl x15)] [] (ov σ16) 150 0 0) (fun k17 hk17 x15 σ16 h => ?_) _ _ _  h
      refine y_iload (show decode cX12_findAll 225 = .ok (.iload 4, 2) by decide +kernel) 2 rfl ?_
      by_cases c18 : x15 ≤ 0
      · rw [if_pos c18] at h
        refine y_if_le_t (tgt := 359) (show decode cX12_findAll 227 = .ok (.ifCond .le 132, 3) by decide +kernel) rfl c18 ?_
        cases h
        exact y_vret (show decode cX12_findAll 359 = .ok (.return_, 1) by decide +kernel) rfl
      · rw [if_neg c18] at h
        refine y_if_le_f (show decode cX12_findAll 227 = .ok (.ifCond .le 132, 3) by decide +kernel) c18 (by decide) ?_
        refine y_iconst (show decode cX12_findAll 230 = .ok (.iconst 0, 1) by decide +kernel) rfl ?_
        refine y_istore (show decode cX12_findAll 231 = .ok (.istore 5, 2) by decide +kernel) rfl (L1 := [(5, .inl 0), (0, .inr (.inr (92 + 1))), (3, .inl r6), (4, .inl x15)]) rfl ?_
        refine y_pick [1, 2, 3, 0] rfl ?_
        refine loopS2_ind (P := fun x19 x20 σ21 => Y E MX12_findAll (yRm 4 0 0) (yQf E (150 + 0) 0 0 none (ov τ)) 233 [(0, .inr (.inr (92 + 1))), (3, .inl r6), (4, .inl x19), (5, .inl x20)] [] (ov σ21) 150 0 0) (fun k22 hk22 x19 x20 σ21 h => ?_) _ _ _ _  h
        refine y_iload (show decode cX12_findAll 233 = .ok (.iload 5, 2) by decide +kernel) 3 rfl ?_
        refine y_iload_n (show decode cX12_findAll 235 = .ok (.iload_n 3, 1) by decide +kernel) 1 rfl ?_
        by_cases c23 : x20 ≥ r6
        · rw [if_pos c23] at h
          refine y_icmp_ge_t (tgt := 291) (show decode cX12_findAll 236 = .ok (.if_icmp .ge 55, 3) by decide +kernel) rfl c23 ?_
          refine y_iconst (show decode cX12_findAll 291 = .ok (.iconst 0, 1) by decide +kernel) rfl ?_
          refine y_istore (show decode cX12_findAll 292 = .ok (.istore 5, 2) by decide +kernel) rfl (L1 := [(5, .inl 0), (0, .inr (.inr (92 + 1))), (3, .inl r6), (4, .inl x19)]) rfl ?_
          refine y_pick [1, 2, 3, 0] rfl ?_
          refine loopS2_ind (P := fun x24 x25 σ26 => Y E MX12_findAll (yRm 4 0 0) (yQf E (150 + 0) 0 0 none (ov τ)) 294 [(0, .inr (.inr (92 + 1))), (3, .inl r6), (4, .inl x24), (5, .inl x25)] [] (ov σ26) 150 0 0) (fun k27 hk27 x24 x25 σ26 h => ?_) _ _ _ _  h
          refine y_iload (show decode cX12_findAll 294 = .ok (.iload 5, 2) by decide +kernel) 3 rfl ?_
          refine y_aload_n (show decode cX12_findAll 296 = .ok (.aload_n 0, 1) by decide +kernel) 0 rfl ?_
          obtain ⟨r29, e28, h⟩ := bndO_some h
          refine y_callV (np := 0) (st := [.inl x25]) (as := []) 92 12 (sh_mo_personMany e28) q6_42 q6_39 q6_41 qs4_1 q1_15 (by decide) rfl (by decide) rfl (by decide) (by decide +kernel) (by decide) rfl (Nat.le_of_ble_eq_true rfl) (show decode cX12_findAll 297 = .ok (.invokevirtual 418, 3) by decide +kernel) rfl ?_
          by_cases c30 : x25 ≥ r29
          · rw [if_pos c30] at h
            refine y_icmp_ge_t (tgt := 315) (show decode cX12_findAll 300 = .ok (.if_icmp .ge 15, 3) by decide +kernel) rfl c30 ?_
            refine y_iconst (show decode cX12_findAll 315 = .ok (.iconst 0, 1) by decide +kernel) rfl ?_
            refine y_istore (show decode cX12_findAll 316 = .ok (.istore 5, 2) by decide +kernel) rfl (L1 := [(5, .inl 0), (0, .inr (.inr (92 + 1))), (3, .inl r6), (4, .inl x24)]) rfl ?_
            refine y_pick [1, 2, 3, 0] rfl ?_
            refine loopS2_ind (P := fun x31 x32 σ33 => Y E MX12_findAll (yRm 4 0 0) (yQf E (150 + 0) 0 0 none (ov τ)) 318 [(0, .inr (.inr (92 + 1))), (3, .inl r6), (4, .inl x31), (5, .inl x32)] [] (ov σ33) 150 0 0) (fun k34 hk34 x31 x32 σ33 h => ?_) _ _ _ _  h
            refine y_iload (show decode cX12_findAll 318 = .ok (.iload 5, 2) by decide +kernel) 3 rfl ?_
            refine y_iload_n (show decode cX12_findAll 320 = .ok (.iload_n 3, 1) by decide +kernel) 1 rfl ?_
            by_cases c35 : x32 ≥ r6
            · rw [if_pos c35] at h
              refine y_icmp_ge_t (tgt := 353) (show decode cX12_findAll 321 = .ok (.if_icmp .ge 32, 3) by decide +kernel) rfl c35 ?_
              obtain ⟨c36, h⟩ := chkI_some h
              refine y_iinc (show decode cX12_findAll 353 = .ok (.iinc 4 (-1), 3) by decide +kernel) 2 rfl c36 rfl (L1 := [(4, .inl (x31 + (-1))), (0, .inr (.inr (92 + 1))), (3, .inl r6), (5, .inl x32)]) rfl ?_
              refine y_goto (tgt := 225) (show decode cX12_findAll 356 = .ok (.goto (-131), 3) by decide +kernel) rfl ?_
              refine y_pick [1, 2, 0] rfl ?_
              exact hk17 _ _ h
            · rw [if_neg c35] at h
              refine y_icmp_ge_f (show decode cX12_findAll 321 = .ok (.if_icmp .ge 32, 3) by decide +kernel) c35 (by decide) ?_
              refine y_aload_n (show decode cX12_findAll 324 = .ok (.aload_n 0, 1) by decide +kernel) 0 rfl ?_
              refine y_getf 92 12 63 138 (by decide) rfl (by decide) (by decide) q6_110 (show decode cX12_findAll 325 = .ok (.getfield 138, 3) by decide +kernel) (v := .inr (.inr (133 + 1))) rfl ?_
              refine y_sipush (show decode cX12_findAll 328 = .ok (.sipush 7776, 3) by decide +kernel) rfl rfl ?_
              refine y_iload (show decode cX12_findAll 331 = .ok (.iload 4, 2) by decide +kernel) 2 rfl ?_
              refine y_iconst (show decode cX12_findAll 333 = .ok (.iconst 1, 1) by decide +kernel) rfl ?_
              obtain ⟨c37, h⟩ := chkI_some h
              refine y_isub (show decode cX12_findAll 334 = .ok (.isub, 1) by decide +kernel) c37 ?_
              obtain ⟨c38, h⟩ := chkI_some h
              refine y_imul (show decode cX12_findAll 335 = .ok (.imul, 1) by decide +kernel) c38 ?_
              refine y_iload (show decode cX12_findAll 336 = .ok (.iload 5, 2) by decide +kernel) 3 rfl ?_
              obtain ⟨c39, h⟩ := chkI_some h
              refine y_iadd (show decode cX12_findAll 338 = .ok (.iadd, 1) by decide +kernel) c39 ?_
              refine y_aload_n (show decode cX12_findAll 339 = .ok (.aload_n 0, 1) by decide +kernel) 0 rfl ?_
              refine y_getf 92 12 64 141 (by decide) rfl (by decide) (by decide) q6_111 (show decode cX12_findAll 340 = .ok (.getfield 141, 3) by decide +kernel) (v := .inr (.inr (134 + 1))) rfl ?_
              refine y_iload (show decode cX12_findAll 343 = .ok (.iload 5, 2) by decide +kernel) 3 rfl ?_
              obtain ⟨c40, h⟩ := chkA_some h
              refine yo_zald 134 7776 (by decide) rfl c40 (ov_at rfl) (show decode cX12_findAll 345 = .ok (.baload, 1) by decide +kernel) ?_
              obtain ⟨c41, h⟩ := chk_some h
              obtain ⟨c42, h⟩ := chkA_some h
              obtain ⟨σ43, e44, h⟩ := bnd_i h
              refine yo_zast 133 70000 (by decide) rfl c42 c41 (ov_set1 e44 rfl) (show decode cX12_findAll 346 = .ok (.bastore, 1) by decide +kernel) ?_
              obtain ⟨c45, h⟩ := chkI_some h
              refine y_iinc (show decode cX12_findAll 347 = .ok (.iinc 5 1, 3) by decide +kernel) 3 rfl c45 rfl (L1 := [(5, .inl (x32 + 1)), (0, .inr (.inr (92 + 1))), (3, .inl r6), (4, .inl x31)]) rfl ?_
              refine y_goto (tgt := 318) (show decode cX12_findAll 350 = .ok (.goto (-32), 3) by decide +kernel) rfl ?_
              refine y_pick [1, 2, 3, 0] rfl ?_
              exact hk34 _ _ _ h
          · rw [if_neg c30] at h
            refine y_icmp_ge_f (show decode cX12_findAll 300 = .ok (.if_icmp .ge 15, 3) by decide +kernel) c30 (by decide) ?_
            refine y_aload_n (show decode cX12_findAll 303 = .ok (.aload_n 0, 1) by decide +kernel) 0 rfl ?_
            refine y_iload (show decode cX12_findAll 304 = .ok (.iload 5, 2) by decide +kernel) 3 rfl ?_
            obtain ⟨σ47, e46, h⟩ := bndO_some h
            refine y_callV (np := 1) (st := []) (as := [.inl x25]) 92 12 (sh_mo_stepAll e46) q8_141 q8_138 q8_140 qs7_11 q1_15 (by decide) rfl (by decide) rfl (by decide) (by decide +kernel) (by decide) rfl (Nat.le_of_ble_eq_true rfl) (show decode cX12_findAll 306 = .ok (.invokevirtual 514, 3) by decide +kernel) rfl ?_
            obtain ⟨c48, h⟩ := chkI_some h
            refine y_iinc (show decode cX12_findAll 309 = .ok (.iinc 5 1, 3) by decide +kernel) 3 rfl c48 rfl (L1 := [(5, .inl (x25 + 1)), (0, .inr (.inr (92 + 1))), (3, .inl r6), (4, .inl x24)]) rfl ?_
            refine y_goto (tgt := 294) (show decode cX12_findAll 312 = .ok (.goto (-18), 3) by decide +kernel) rfl ?_
            refine y_pick [1, 2, 3, 0] rfl ?_
            exact hk27 _ _ _ h
        · rw [if_neg c23] at h
          refine y_icmp_ge_f (show decode cX12_findAll 236 = .ok (.if_icmp .ge 55, 3) by decide +kernel) c23 (by decide) ?_
          refine y_aload_n (show decode cX12_findAll 239 = .ok (.aload_n 0, 1) by decide +kernel) 0 rfl ?_
          refine y_getf 92 12 64 141 (by decide) rfl (by decide) (by decide) q6_111 (show decode cX12_findAll 240 = .ok (.getfield 141, 3) by decide +kernel) (v := .inr (.inr (134 + 1))) rfl ?_
          refine y_iload (show decode cX12_findAll 243 = .ok (.iload 5, 2) by decide +kernel) 3 rfl ?_
          refine y_aload_n (show decode cX12_findAll 245 = .ok (.aload_n 0, 1) by decide +kernel) 0 rfl ?_
          refine y_getf 92 12 62 135 (by decide) rfl (by decide) (by decide) q6_109 (show decode cX12_findAll 246 = .ok (.getfield 135, 3) by decide +kernel) (v := .inr (.inr (132 + 1))) rfl ?_
          refine y_sipush (show decode cX12_findAll 249 = .ok (.sipush 7776, 3) by decide +kernel) rfl rfl ?_
          refine y_iload (show decode cX12_findAll 252 = .ok (.iload 4, 2) by decide +kernel) 2 rfl ?_
          obtain ⟨c49, h⟩ := chkI_some h
          refine y_imul (show decode cX12_findAll 254 = .ok (.imul, 1) by decide +kernel) c49 ?_
          refine y_iload (show decode cX12_findAll 255 = .ok (.iload 5, 2) by decide +kernel) 3 rfl ?_
          obtain ⟨c50, h⟩ := chkI_some h
          refine y_iadd (show decode cX12_findAll 257 = .ok (.iadd, 1) by decide +kernel) c50 ?_
          obtain ⟨c51, h⟩ := chkA_some h
          refine yo_zald 132 70000 (by decide) rfl c51 (ov_at rfl) (show decode cX12_findAll 258 = .ok (.baload, 1) by decide +kernel) ?_
          refine bnd_j (Q := fun j53 => ∀ (y52 : Int), j53 y52 = some τ → Y E MX12_findAll (yRm 4 0 0) (yQf E (150 + 0) 0 0 none (ov τ)) 284 [(0, .inr (.inr (92 + 1))), (3, .inl r6), (4, .inl x19), (5, .inl x20)] [.inl y52, .inl x20, .inr (.inr (134 + 1))] (ov σ21) 150 0 0) (fun y52 h => ?_) (fun j53 hj53 h => ?_) h
          · dsimp only at h
            obtain ⟨c54, h⟩ := chk_some h
            obtain ⟨c55, h⟩ := chkA_some h
            obtain ⟨σ56, e57, h⟩ := bnd_i h
            refine yo_zast 134 7776 (by decide) rfl c55 c54 (ov_set1 e57 rfl) (show decode cX12_findAll 284 = .ok (.bastore, 1) by decide +kernel) ?_
            obtain ⟨c58, h⟩ := chkI_some h
            refine y_iinc (show decode cX12_findAll 285 = .ok (.iinc 5 1, 3) by decide +kernel) 3 rfl c58 rfl (L1 := [(5, .inl (x20 + 1)), (0, .inr (.inr (92 + 1))), (3, .inl r6), (4, .inl x19)]) rfl ?_
            refine y_goto (tgt := 233) (show decode cX12_findAll 288 = .ok (.goto (-55), 3) by decide +kernel) rfl ?_
            refine y_pick [1, 2, 3, 0] rfl ?_
            exact hk22 _ _ _ h
          by_cases c59 : (σ21 132 (((7776 * x19) + x20)).toNat) = 0
          · rw [if_pos c59] at h
            refine y_if_eq_t (tgt := 283) (show decode cX12_findAll 259 = .ok (.ifCond .eq 24, 3) by decide +kernel) rfl c59 ?_
            refine y_iconst (show decode cX12_findAll 283 = .ok (.iconst 0, 1) by decide +kernel) rfl ?_
            refine y_pick [0, 1, 2, 3] rfl ?_
            exact hj53 _ h
          · rw [if_neg c59] at h
            refine y_if_eq_f (show decode cX12_findAll 259 = .ok (.ifCond .eq 24, 3) by decide +kernel) c59 (by decide) ?_
            refine y_aload_n (show decode cX12_findAll 262 = .ok (.aload_n 0, 1) by decide +kernel) 0 rfl ?_
            refine y_getf 92 12 63 138 (by decide) rfl (by decide) (by decide) q6_110 (show decode cX12_findAll 263 = .ok (.getfield 138, 3) by decide +kernel) (v := .inr (.inr (133 + 1))) rfl ?_
            refine y_sipush (show decode cX12_findAll 266 = .ok (.sipush 7776, 3) by decide +kernel) rfl rfl ?_
            refine y_iload (show decode cX12_findAll 269 = .ok (.iload 4, 2) by decide +kernel) 2 rfl ?_
            obtain ⟨c60, h⟩ := chkI_some h
            refine y_imul (show decode cX12_findAll 271 = .ok (.imul, 1) by decide +kernel) c60 ?_
            refine y_iload (show decode cX12_findAll 272 = .ok (.iload 5, 2) by decide +kernel) 3 rfl ?_
            obtain ⟨c61, h⟩ := chkI_some h
            refine y_iadd (show decode cX12_findAll 274 = .ok (.iadd, 1) by decide +kernel) c61 ?_
            obtain ⟨c62, h⟩ := chkA_some h
            refine yo_zald 133 70000 (by decide) rfl c62 (ov_at rfl) (show decode cX12_findAll 275 = .ok (.baload, 1) by decide +kernel) ?_
            by_cases c63 : (σ21 133 (((7776 * x19) + x20)).toNat) = 0
            · rw [if_pos c63] at h
              refine y_if_eq_t (tgt := 283) (show decode cX12_findAll 276 = .ok (.ifCond .eq 7, 3) by decide +kernel) rfl c63 ?_
              refine y_iconst (show decode cX12_findAll 283 = .ok (.iconst 0, 1) by decide +kernel) rfl ?_
              refine y_pick [0, 1, 2, 3] rfl ?_
              exact hj53 _ h
            · rw [if_neg c63] at h
              refine y_if_eq_f (show decode cX12_findAll 276 = .ok (.ifCond .eq 7, 3) by decide +kernel) c63 (by decide) ?_
              refine y_iconst (show decode cX12_findAll 279 = .ok (.iconst 1, 1) by decide +kernel) rfl ?_
              refine y_goto (tgt := 284) (show decode cX12_findAll 280 = .ok (.goto 4, 3) by decide +kernel) rfl ?_
              refine y_pick [0, 1, 2, 3] rfl ?_
              exact hj53 _ h
    · rw [if_neg c14] at h
      refine y_icmp_gt_f (show decode cX12_findAll 75 = .ok (.if_icmp .gt 144, 3) by decide +kernel) c14 (by decide) ?_
      refine y_iconst (show decode cX12_findAll 78 = .ok (.iconst 0, 1) by decide +kernel) rfl ?_
      refine y_istore (show decode cX12_findAll 79 = .ok (.istore 5, 2) by decide +kernel) rfl (L1 := [(5, .inl 0), (0, .inr (.inr (92 + 1))), (1, .inl a), (2, .inl b), (3, .inl r6), (4, .inl x11)]) rfl ?_
      refine y_pick [1, 2, 3, 4, 5, 0] rfl ?_
      refine loopS2_ind (P := fun x64 x65 σ66 => Y E MX12_findAll (yRm 4 0 0) (yQf E (150 + 0) 0 0 none (ov τ)) 81 [(0, .inr (.inr (92 + 1))), (1, .inl a), (2, .inl b), (3, .inl r6), (4, .inl x64), (5, .inl x65)] [] (ov σ66) 150 0 0) (fun k67 hk67 x64 x65 σ66 h => ?_) _ _ _ _  h
      refine y_iload (show decode cX12_findAll 81 = .ok (.iload 5, 2) by decide +kernel) 5 rfl ?_
      refine y_iload_n (show decode cX12_findAll 83 = .ok (.iload_n 3, 1) by decide +kernel) 3 rfl ?_
      by_cases c68 : x65 ≥ r6
      · rw [if_pos c68] at h
        refine y_icmp_ge_t (tgt := 116) (show decode cX12_findAll 84 = .ok (.if_icmp .ge 32, 3) by decide +kernel) rfl c68 ?_
        refine y_iconst (show decode cX12_findAll 116 = .ok (.iconst 0, 1) by decide +kernel) rfl ?_
        refine y_istore (show decode cX12_findAll 117 = .ok (.istore 5, 2) by decide +kernel) rfl (L1 := [(5, .inl 0), (0, .inr (.inr (92 + 1))), (1, .inl a), (2, .inl b), (3, .inl r6), (4, .inl x64)]) rfl ?_
        refine y_pick [1, 2, 3, 4, 5, 0] rfl ?_
        refine loopS2_ind (P := fun x69 x70 σ71 => Y E MX12_findAll (yRm 4 0 0) (yQf E (150 + 0) 0 0 none (ov τ)) 119 [(0, .inr (.inr (92 + 1))), (1, .inl a), (2, .inl b), (3, .inl r6), (4, .inl x69), (5, .inl x70)] [] (ov σ71) 150 0 0) (fun k72 hk72 x69 x70 σ71 h => ?_) _ _ _ _  h
        refine y_iload (show decode cX12_findAll 119 = .ok (.iload 5, 2) by decide +kernel) 5 rfl ?_
        refine y_aload_n (show decode cX12_findAll 121 = .ok (.aload_n 0, 1) by decide +kernel) 0 rfl ?_
        obtain ⟨r74, e73, h⟩ := bndO_some h
        refine y_callV (np := 0) (st := [.inl x70]) (as := []) 92 12 (sh_mo_personMany e73) q6_42 q6_39 q6_41 qs4_1 q1_15 (by decide) rfl (by decide) rfl (by decide) (by decide +kernel) (by decide) rfl (Nat.le_of_ble_eq_true rfl) (show decode cX12_findAll 122 = .ok (.invokevirtual 418, 3) by decide +kernel) rfl ?_
        by_cases c75 : x70 ≥ r74
        · rw [if_pos c75] at h
          refine y_icmp_ge_t (tgt := 140) (show decode cX12_findAll 125 = .ok (.if_icmp .ge 15, 3) by decide +kernel) rfl c75 ?_
          refine y_iconst (show decode cX12_findAll 140 = .ok (.iconst 0, 1) by decide +kernel) rfl ?_
          refine y_istore (show decode cX12_findAll 141 = .ok (.istore 5, 2) by decide +kernel) rfl (L1 := [(5, .inl 0), (0, .inr (.inr (92 + 1))), (1, .inl a), (2, .inl b), (3, .inl r6), (4, .inl x69)]) rfl ?_
          refine y_pick [1, 2, 3, 4, 5, 0] rfl ?_
          refine loopS2_ind (P := fun x76 x77 σ78 => Y E MX12_findAll (yRm 4 0 0) (yQf E (150 + 0) 0 0 none (ov τ)) 143 [(0, .inr (.inr (92 + 1))), (1, .inl a), (2, .inl b), (3, .inl r6), (4, .inl x76), (5, .inl x77)] [] (ov σ78) 150 0 0) (fun k79 hk79 x76 x77 σ78 h => ?_) _ _ _ _  h
          refine y_iload (show decode cX12_findAll 143 = .ok (.iload 5, 2) by decide +kernel) 5 rfl ?_
          refine y_iload_n (show decode cX12_findAll 145 = .ok (.iload_n 3, 1) by decide +kernel) 3 rfl ?_
          by_cases c80 : x77 ≥ r6
          · rw [if_pos c80] at h
            refine y_icmp_ge_t (tgt := 213) (show decode cX12_findAll 146 = .ok (.if_icmp .ge 67, 3) by decide +kernel) rfl c80 ?_
            obtain ⟨c81, h⟩ := chkI_some h
            refine y_iinc (show decode cX12_findAll 213 = .ok (.iinc 4 1, 3) by decide +kernel) 4 rfl c81 rfl (L1 := [(4, .inl (x76 + 1)), (0, .inr (.inr (92 + 1))), (1, .inl a), (2, .inl b), (3, .inl r6), (5, .inl x77)]) rfl ?_
            refine y_goto (tgt := 69) (show decode cX12_findAll 216 = .ok (.goto (-147), 3) by decide +kernel) rfl ?_
            refine y_pick [1, 2, 3, 4, 0] rfl ?_
            exact hk13 _ _ h
          · rw [if_neg c80] at h
            refine y_icmp_ge_f (show decode cX12_findAll 146 = .ok (.if_icmp .ge 67, 3) by decide +kernel) c80 (by decide) ?_
            refine y_aload_n (show decode cX12_findAll 149 = .ok (.aload_n 0, 1) by decide +kernel) 0 rfl ?_
            refine y_iload (show decode cX12_findAll 150 = .ok (.iload 5, 2) by decide +kernel) 5 rfl ?_
            obtain ⟨σ83, e82, h⟩ := bndO_some h
            refine y_callV (np := 1) (st := []) (as := [.inl x77]) 92 12 (sh_mo_layState e82) q8_65 q8_62 q8_64 qs6_14 q1_15 (by decide) rfl (by decide) rfl (by decide) (by decide +kernel) (by decide) rfl (Nat.le_of_ble_eq_true rfl) (show decode cX12_findAll 152 = .ok (.invokevirtual 480, 3) by decide +kernel) rfl ?_
            refine y_aload_n (show decode cX12_findAll 155 = .ok (.aload_n 0, 1) by decide +kernel) 0 rfl ?_
            refine y_getf 92 12 62 135 (by decide) rfl (by decide) (by decide) q6_109 (show decode cX12_findAll 156 = .ok (.getfield 135, 3) by decide +kernel) (v := .inr (.inr (132 + 1))) rfl ?_
            refine y_sipush (show decode cX12_findAll 159 = .ok (.sipush 7776, 3) by decide +kernel) rfl rfl ?_
            refine y_iload (show decode cX12_findAll 162 = .ok (.iload 4, 2) by decide +kernel) 4 rfl ?_
            obtain ⟨c84, h⟩ := chkI_some h
            refine y_imul (show decode cX12_findAll 164 = .ok (.imul, 1) by decide +kernel) c84 ?_
            refine y_iload (show decode cX12_findAll 165 = .ok (.iload 5, 2) by decide +kernel) 5 rfl ?_
            obtain ⟨c85, h⟩ := chkI_some h
            refine y_iadd (show decode cX12_findAll 167 = .ok (.iadd, 1) by decide +kernel) c85 ?_
            refine y_aload_n (show decode cX12_findAll 168 = .ok (.aload_n 0, 1) by decide +kernel) 0 rfl ?_
            refine y_getf 92 12 64 141 (by decide) rfl (by decide) (by decide) q6_111 (show decode cX12_findAll 169 = .ok (.getfield 141, 3) by decide +kernel) (v := .inr (.inr (134 + 1))) rfl ?_
            refine y_iload (show decode cX12_findAll 172 = .ok (.iload 5, 2) by decide +kernel) 5 rfl ?_
            obtain ⟨c86, h⟩ := chkA_some h
            refine yo_zald 134 7776 (by decide) rfl c86 (ov_at rfl) (show decode cX12_findAll 174 = .ok (.baload, 1) by decide +kernel) ?_
            refine bnd_j (Q := fun j88 => ∀ (y87 : Int), j88 y87 = some τ → Y E MX12_findAll (yRm 4 0 0) (yQf E (150 + 0) 0 0 none (ov τ)) 206 [(0, .inr (.inr (92 + 1))), (1, .inl a), (2, .inl b), (3, .inl r6), (4, .inl x76), (5, .inl x77)] [.inl y87, .inl ((7776 * x76) + x77), .inr (.inr (132 + 1))] (ov σ83) 150 0 0) (fun y87 h => ?_) (fun j88 hj88 h => ?_) h
            · dsimp only at h
              obtain ⟨c89, h⟩ := chk_some h
              obtain ⟨c90, h⟩ := chkA_some h
              obtain ⟨σ91, e92, h⟩ := bnd_i h
              refine yo_zast 132 70000 (by decide) rfl c90 c89 (ov_set1 e92 rfl) (show decode cX12_findAll 206 = .ok (.bastore, 1) by decide +kernel) ?_
              obtain ⟨c93, h⟩ := chkI_some h
              refine y_iinc (show decode cX12_findAll 207 = .ok (.iinc 5 1, 3) by decide +kernel) 5 rfl c93 rfl (L1 := [(5, .inl (x77 + 1)), (0, .inr (.inr (92 + 1))), (1, .inl a), (2, .inl b), (3, .inl r6), (4, .inl x76)]) rfl ?_
              refine y_goto (tgt := 143) (show decode cX12_findAll 210 = .ok (.goto (-67), 3) by decide +kernel) rfl ?_
              refine y_pick [1, 2, 3, 4, 5, 0] rfl ?_
              exact hk79 _ _ _ h
            by_cases c94 : (σ83 134 (x77).toNat) = 0
            · rw [if_pos c94] at h
              refine y_if_eq_t (tgt := 205) (show decode cX12_findAll 175 = .ok (.ifCond .eq 30, 3) by decide +kernel) rfl c94 ?_
              refine y_iconst (show decode cX12_findAll 205 = .ok (.iconst 0, 1) by decide +kernel) rfl ?_
              refine y_pick [0, 1, 2, 3, 4, 5] rfl ?_
              exact hj88 _ h
            · rw [if_neg c94] at h
              refine y_if_eq_f (show decode cX12_findAll 175 = .ok (.ifCond .eq 30, 3) by decide +kernel) c94 (by decide) ?_
              refine y_aload_n (show decode cX12_findAll 178 = .ok (.aload_n 0, 1) by decide +kernel) 0 rfl ?_
              refine y_iload (show decode cX12_findAll 179 = .ok (.iload 4, 2) by decide +kernel) 4 rfl ?_
              obtain ⟨r96, e95, h⟩ := bndO_some h
              refine y_callV (np := 1) (st := [.inl ((7776 * x76) + x77), .inr (.inr (132 + 1))]) (as := [.inl x76]) 92 12 (sh_mo_isLawful e95) q8_69 q8_66 q8_68 qs6_15 q1_15 (by decide) rfl (by decide) rfl (by decide) (by decide +kernel) (by decide) rfl (Nat.le_of_ble_eq_true rfl) (show decode cX12_findAll 181 = .ok (.invokevirtual 484, 3) by decide +kernel) rfl ?_
              by_cases c97 : r96 = 0
              · rw [if_pos c97] at h
                refine y_if_eq_t (tgt := 205) (show decode cX12_findAll 184 = .ok (.ifCond .eq 21, 3) by decide +kernel) rfl c97 ?_
                refine y_iconst (show decode cX12_findAll 205 = .ok (.iconst 0, 1) by decide +kernel) rfl ?_
                refine y_pick [0, 1, 2, 3, 4, 5] rfl ?_
                exact hj88 _ h
              · rw [if_neg c97] at h
                refine y_if_eq_f (show decode cX12_findAll 184 = .ok (.ifCond .eq 21, 3) by decide +kernel) c97 (by decide) ?_
                refine y_iload_n (show decode cX12_findAll 187 = .ok (.iload_n 1, 1) by decide +kernel) 1 rfl ?_
                by_cases c98 : a = 0
                · rw [if_pos c98] at h
                  refine y_if_eq_t (tgt := 201) (show decode cX12_findAll 188 = .ok (.ifCond .eq 13, 3) by decide +kernel) rfl c98 ?_
                  refine y_iconst (show decode cX12_findAll 201 = .ok (.iconst 1, 1) by decide +kernel) rfl ?_
                  refine y_goto (tgt := 206) (show decode cX12_findAll 202 = .ok (.goto 4, 3) by decide +kernel) rfl ?_
                  refine y_pick [0, 1, 2, 3, 4, 5] rfl ?_
                  exact hj88 _ h
                · rw [if_neg c98] at h
                  refine y_if_eq_f (show decode cX12_findAll 188 = .ok (.ifCond .eq 13, 3) by decide +kernel) c98 (by decide) ?_
                  refine y_aload_n (show decode cX12_findAll 191 = .ok (.aload_n 0, 1) by decide +kernel) 0 rfl ?_
                  refine y_iload (show decode cX12_findAll 192 = .ok (.iload 4, 2) by decide +kernel) 4 rfl ?_
                  refine y_iload_n (show decode cX12_findAll 194 = .ok (.iload_n 2, 1) by decide +kernel) 2 rfl ?_
                  obtain ⟨r100, e99, h⟩ := bndO_some h
                  refine y_callV (np := 2) (st := [.inl ((7776 * x76) + x77), .inr (.inr (132 + 1))]) (as := [.inl x76, .inl b]) 92 12 (sh_mo_agrees e99) q8_145 q8_142 q8_144 qs7_12 q1_15 (by decide) rfl (by decide) rfl (by decide) (by decide +kernel) (by decide) rfl (Nat.le_of_ble_eq_true rfl) (show decode cX12_findAll 195 = .ok (.invokevirtual 517, 3) by decide +kernel) rfl ?_
                  by_cases c101 : r100 = 0
                  · rw [if_pos c101] at h
                    refine y_if_eq_t (tgt := 205) (show decode cX12_findAll 198 = .ok (.ifCond .eq 7, 3) by decide +kernel) rfl c101 ?_
                    refine y_iconst (show decode cX12_findAll 205 = .ok (.iconst 0, 1) by decide +kernel) rfl ?_
                    refine y_pick [0, 1, 2, 3, 4, 5] rfl ?_
                    exact hj88 _ h
                  · rw [if_neg c101] at h
                    refine y_if_eq_f (show decode cX12_findAll 198 = .ok (.ifCond .eq 7, 3) by decide +kernel) c101 (by decide) ?_
                    refine y_iconst (show decode cX12_findAll 201 = .ok (.iconst 1, 1) by decide +kernel) rfl ?_
                    refine y_goto (tgt := 206) (show decode cX12_findAll 202 = .ok (.goto 4, 3) by decide +kernel) rfl ?_
                    refine y_pick [0, 1, 2, 3, 4, 5] rfl ?_
                    exact hj88 _ h
        · rw [if_neg c75] at h
          refine y_icmp_ge_f (show decode cX12_findAll 125 = .ok (.if_icmp .ge 15, 3) by decide +kernel) c75 (by decide) ?_
          refine y_aload_n (show decode cX12_findAll 128 = .ok (.aload_n 0, 1) by decide +kernel) 0 rfl ?_
          refine y_iload (show decode cX12_findAll 129 = .ok (.iload 5, 2) by decide +kernel) 5 rfl ?_
          obtain ⟨σ103, e102, h⟩ := bndO_some h
          refine y_callV (np := 1) (st := []) (as := [.inl x70]) 92 12 (sh_mo_stepAll e102) q8_141 q8_138 q8_140 qs7_11 q1_15 (by decide) rfl (by decide) rfl (by decide) (by decide +kernel) (by decide) rfl (Nat.le_of_ble_eq_true rfl) (show decode cX12_findAll 131 = .ok (.invokevirtual 514, 3) by decide +kernel) rfl ?_
          obtain ⟨c104, h⟩ := chkI_some h
          refine y_iinc (show decode cX12_findAll 134 = .ok (.iinc 5 1, 3) by decide +kernel) 5 rfl c104 rfl (L1 := [(5, .inl (x70 + 1)), (0, .inr (.inr (92 + 1))), (1, .inl a), (2, .inl b), (3, .inl r6), (4, .inl x69)]) rfl ?_
          refine y_goto (tgt := 119) (show decode cX12_findAll 137 = .ok (.goto (-18), 3) by decide +kernel) rfl ?_
          refine y_pick [1, 2, 3, 4, 5, 0] rfl ?_
          exact hk72 _ _ _ h
      · rw [if_neg c68] at h
        refine y_icmp_ge_f (show decode cX12_findAll 84 = .ok (.if_icmp .ge 32, 3) by decide +kernel) c68 (by decide) ?_
        refine y_aload_n (show decode cX12_findAll 87 = .ok (.aload_n 0, 1) by decide +kernel) 0 rfl ?_
        refine y_getf 92 12 64 141 (by decide) rfl (by decide) (by decide) q6_111 (show decode cX12_findAll 88 = .ok (.getfield 141, 3) by decide +kernel) (v := .inr (.inr (134 + 1))) rfl ?_
        refine y_iload (show decode cX12_findAll 91 = .ok (.iload 5, 2) by decide +kernel) 5 rfl ?_
        refine y_aload_n (show decode cX12_findAll 93 = .ok (.aload_n 0, 1) by decide +kernel) 0 rfl ?_
        refine y_getf 92 12 62 135 (by decide) rfl (by decide) (by decide) q6_109 (show decode cX12_findAll 94 = .ok (.getfield 135, 3) by decide +kernel) (v := .inr (.inr (132 + 1))) rfl ?_
        refine y_sipush (show decode cX12_findAll 97 = .ok (.sipush 7776, 3) by decide +kernel) rfl rfl ?_
        refine y_iload (show decode cX12_findAll 100 = .ok (.iload 4, 2) by decide +kernel) 4 rfl ?_
        refine y_iconst (show decode cX12_findAll 102 = .ok (.iconst 1, 1) by decide +kernel) rfl ?_
        obtain ⟨c105, h⟩ := chkI_some h
        refine y_isub (show decode cX12_findAll 103 = .ok (.isub, 1) by decide +kernel) c105 ?_
        obtain ⟨c106, h⟩ := chkI_some h
        refine y_imul (show decode cX12_findAll 104 = .ok (.imul, 1) by decide +kernel) c106 ?_
        refine y_iload (show decode cX12_findAll 105 = .ok (.iload 5, 2) by decide +kernel) 5 rfl ?_
        obtain ⟨c107, h⟩ := chkI_some h
        refine y_iadd (show decode cX12_findAll 107 = .ok (.iadd, 1) by decide +kernel) c107 ?_
        obtain ⟨c108, h⟩ := chkA_some h
        refine yo_zald 132 70000 (by decide) rfl c108 (ov_at rfl) (show decode cX12_findAll 108 = .ok (.baload, 1) by decide +kernel) ?_
        obtain ⟨c109, h⟩ := chk_some h
        obtain ⟨c110, h⟩ := chkA_some h
        obtain ⟨σ111, e112, h⟩ := bnd_i h
        refine yo_zast 134 7776 (by decide) rfl c110 c109 (ov_set1 e112 rfl) (show decode cX12_findAll 109 = .ok (.bastore, 1) by decide +kernel) ?_
        obtain ⟨c113, h⟩ := chkI_some h
        refine y_iinc (show decode cX12_findAll 110 = .ok (.iinc 5 1, 3) by decide +kernel) 5 rfl c113 rfl (L1 := [(5, .inl (x65 + 1)), (0, .inr (.inr (92 + 1))), (1, .inl a), (2, .inl b), (3, .inl r6), (4, .inl x64)]) rfl ?_
        refine y_goto (tgt := 81) (show decode cX12_findAll 113 = .ok (.goto (-32), 3) by decide +kernel) rfl ?_
        refine y_pick [1, 2, 3, 4, 5, 0] rfl ?_
        exact hk67 _ _ _ h
  · rw [if_neg c10] at h
    refine y_icmp_ge_f (show decode cX12_findAll 19 = .ok (.if_icmp .ge 47, 3) by decide +kernel) c10 (by decide) ?_
    refine y_aload_n (show decode cX12_findAll 22 = .ok (.aload_n 0, 1) by decide +kernel) 0 rfl ?_
    refine y_getf 92 12 62 135 (by decide) rfl (by decide) (by decide) q6_109 (show decode cX12_findAll 23 = .ok (.getfield 135, 3) by decide +kernel) (v := .inr (.inr (132 + 1))) rfl ?_
    refine y_iload (show decode cX12_findAll 26 = .ok (.iload 4, 2) by decide +kernel) 4 rfl ?_
    refine y_iload (show decode cX12_findAll 28 = .ok (.iload 4, 2) by decide +kernel) 4 rfl ?_
    refine y_aload_n (show decode cX12_findAll 30 = .ok (.aload_n 0, 1) by decide +kernel) 0 rfl ?_
    obtain ⟨r115, e114, h⟩ := bndO_some h
    refine y_callV (np := 0) (st := [.inl x7, .inl x7, .inr (.inr (132 + 1))]) (as := []) 92 12 (sh_mo_homeState e114) q8_97 q8_94 q8_96 qs7_6 q1_15 (by decide) rfl (by decide) rfl (by decide) (by decide +kernel) (by decide) rfl (Nat.le_of_ble_eq_true rfl) (show decode cX12_findAll 31 = .ok (.invokevirtual 493, 3) by decide +kernel) rfl ?_
    refine bnd_j (Q := fun j117 => ∀ (y116 : Int), j117 y116 = some τ → Y E MX12_findAll (yRm 4 0 0) (yQf E (150 + 0) 0 0 none (ov τ)) 42 [(0, .inr (.inr (92 + 1))), (1, .inl a), (2, .inl b), (3, .inl r6), (4, .inl x7)] [.inl y116, .inl x7, .inr (.inr (132 + 1))] (ov σ8) 150 0 0) (fun y116 h => ?_) (fun j117 hj117 h => ?_) h
    · dsimp only at h
      obtain ⟨c118, h⟩ := chk_some h
      obtain ⟨c119, h⟩ := chkA_some h
      obtain ⟨σ120, e121, h⟩ := bnd_i h
      refine yo_zast 132 70000 (by decide) rfl c119 c118 (ov_set1 e121 rfl) (show decode cX12_findAll 42 = .ok (.bastore, 1) by decide +kernel) ?_
      refine y_aload_n (show decode cX12_findAll 43 = .ok (.aload_n 0, 1) by decide +kernel) 0 rfl ?_
      refine y_getf 92 12 63 138 (by decide) rfl (by decide) (by decide) q6_110 (show decode cX12_findAll 44 = .ok (.getfield 138, 3) by decide +kernel) (v := .inr (.inr (133 + 1))) rfl ?_
      refine y_sipush (show decode cX12_findAll 47 = .ok (.sipush 7776, 3) by decide +kernel) rfl rfl ?_
      refine y_aload_n (show decode cX12_findAll 50 = .ok (.aload_n 0, 1) by decide +kernel) 0 rfl ?_
      refine y_getf 92 12 48 424 (by decide) rfl (by decide) (by decide) q6_95 (show decode cX12_findAll 51 = .ok (.getfield 424, 3) by decide +kernel) (v := .inl (σ120 92 48)) rfl ?_
      obtain ⟨c122, h⟩ := chkI_some h
      refine y_imul (show decode cX12_findAll 54 = .ok (.imul, 1) by decide +kernel) c122 ?_
      refine y_iload (show decode cX12_findAll 55 = .ok (.iload 4, 2) by decide +kernel) 4 rfl ?_
      obtain ⟨c123, h⟩ := chkI_some h
      refine y_iadd (show decode cX12_findAll 57 = .ok (.iadd, 1) by decide +kernel) c123 ?_
      refine y_iconst (show decode cX12_findAll 58 = .ok (.iconst 1, 1) by decide +kernel) rfl ?_
      obtain ⟨c124, h⟩ := chkA_some h
      obtain ⟨σ125, e126, h⟩ := bnd_i h
      refine yo_zast 133 70000 (by decide) rfl c124 (Or.inr rfl) (ov_set1 e126 rfl) (show decode cX12_findAll 59 = .ok (.bastore, 1) by decide +kernel) ?_
      obtain ⟨c127, h⟩ := chkI_some h
      refine y_iinc (show decode cX12_findAll 60 = .ok (.iinc 4 1, 3) by decide +kernel) 4 rfl c127 rfl (L1 := [(4, .inl (x7 + 1)), (0, .inr (.inr (92 + 1))), (1, .inl a), (2, .inl b), (3, .inl r6)]) rfl ?_
      refine y_goto (tgt := 16) (show decode cX12_findAll 63 = .ok (.goto (-47), 3) by decide +kernel) rfl ?_
      refine y_pick [1, 2, 3, 4, 0] rfl ?_
      exact hk9 _ _ h
    by_cases c128 : ¬ x7 = r115
    · rw [if_pos c128] at h
      refine y_icmp_ne_t (tgt := 41) (show decode cX12_findAll 34 = .ok (.if_icmp .ne 7, 3) by decide +kernel) rfl c128 ?_
      refine y_iconst (show decode cX12_findAll 41 = .ok (.iconst 0, 1) by decide +kernel) rfl ?_
      refine y_pick [0, 1, 2, 3, 4] rfl ?_
      exact hj117 _ h
    · rw [if_neg c128] at h
      refine y_icmp_ne_f (show decode cX12_findAll 34 = .ok (.if_icmp .ne 7, 3) by decide +kernel) c128 (by decide) ?_
      refine y_iconst (show decode cX12_findAll 37 = .ok (.iconst 1, 1) by decide +kernel) rfl ?_
      refine y_goto (tgt := 42) (show decode cX12_findAll 38 = .ok (.goto 4, 3) by decide +kernel) rfl ?_
      refine y_pick [0, 1, 2, 3, 4] rfl ?_
      exact hj117 _ h
abbrev MX12_canBe : yM := (yX12_canBe, cX12_canBe, 3, some .boolean)
def mo_canBe (a : Int) (b : Int) (σ : ySt) : Option (Int) :=
  chkI (7776 * a) <|
  chkI ((7776 * a) + b) <|
  chkA 70000 ((7776 * a) + b) <|
  if (σ 132 (((7776 * a) + b)).toNat) = 0 then
    some 0
  else
    chkI (7776 * a) <|
    chkI ((7776 * a) + b) <|
    chkA 70000 ((7776 * a) + b) <|
    if (σ 133 (((7776 * a) + b)).toNat) = 0 then
      some 0
    else
      some 1
set_option maxHeartbeats 4000000 in
set_option maxRecDepth 10000 in
theorem sh_mo_canBe {E : yE} {a : Int} {b : Int} {σ : ySt} {ρ : Int} (h : mo_canBe a b σ = some ρ) : Con E MX12_canBe 0 0 0 [.inr (.inr (92 + 1)), .inl a, .inl b] 150 (ov σ) (some (.inl ρ)) (ov σ) := by
  unfold mo_canBe at h
  refine Con.ofY (by decide +kernel) (by simp [yWords, yCat]) (fun hok _ => ?_)
  show Y E MX12_canBe (yRm 0 0 0) (yQf E (150 + 0) 0 0 (some (.inl ρ)) (ov σ)) 0 [(0, .inr (.inr (92 + 1))), (1, .inl a), (2, .inl b)] [] (ov σ) 150 0 0
  refine y_aload_n (show decode cX12_canBe 0 = .ok (.aload_n 0, 1) by decide +kernel) 0 rfl ?_
  refine y_getf 92 12 62 135 (by decide) rfl (by decide) (by decide) q6_109 (show decode cX12_canBe 1 = .ok (.getfield 135, 3) by decide +kernel) (v := .inr (.inr (132 + 1))) rfl ?_
  refine y_sipush (show decode cX12_canBe 4 = .ok (.sipush 7776, 3) by decide +kernel) rfl rfl ?_
  refine y_iload_n (show decode cX12_canBe 7 = .ok (.iload_n 1, 1) by decide +kernel) 1 rfl ?_
  obtain ⟨c1, h⟩ := chkI_some h
  refine y_imul (show decode cX12_canBe 8 = .ok (.imul, 1) by decide +kernel) c1 ?_
  refine y_iload_n (show decode cX12_canBe 9 = .ok (.iload_n 2, 1) by decide +kernel) 2 rfl ?_
  obtain ⟨c2, h⟩ := chkI_some h
  refine y_iadd (show decode cX12_canBe 10 = .ok (.iadd, 1) by decide +kernel) c2 ?_
  obtain ⟨c3, h⟩ := chkA_some h
  refine yo_zald 132 70000 (by decide) rfl c3 (ov_at rfl) (show decode cX12_canBe 11 = .ok (.baload, 1) by decide +kernel) ?_
  by_cases c4 : (σ 132 (((7776 * a) + b)).toNat) = 0
  · rw [if_pos c4] at h
    refine y_if_eq_t (tgt := 34) (show decode cX12_canBe 12 = .ok (.ifCond .eq 22, 3) by decide +kernel) rfl c4 ?_
    refine y_iconst (show decode cX12_canBe 34 = .ok (.iconst 0, 1) by decide +kernel) rfl ?_
    cases h
    exact y_zret (show decode cX12_canBe 35 = .ok (.ireturn, 1) by decide +kernel) rfl (Or.inl rfl)
  · rw [if_neg c4] at h
    refine y_if_eq_f (show decode cX12_canBe 12 = .ok (.ifCond .eq 22, 3) by decide +kernel) c4 (by decide) ?_
    refine y_aload_n (show decode cX12_canBe 15 = .ok (.aload_n 0, 1) by decide +kernel) 0 rfl ?_
    refine y_getf 92 12 63 138 (by decide) rfl (by decide) (by decide) q6_110 (show decode cX12_canBe 16 = .ok (.getfield 138, 3) by decide +kernel) (v := .inr (.inr (133 + 1))) rfl ?_
    refine y_sipush (show decode cX12_canBe 19 = .ok (.sipush 7776, 3) by decide +kernel) rfl rfl ?_
    refine y_iload_n (show decode cX12_canBe 22 = .ok (.iload_n 1, 1) by decide +kernel) 1 rfl ?_
    obtain ⟨c5, h⟩ := chkI_some h
    refine y_imul (show decode cX12_canBe 23 = .ok (.imul, 1) by decide +kernel) c5 ?_
    refine y_iload_n (show decode cX12_canBe 24 = .ok (.iload_n 2, 1) by decide +kernel) 2 rfl ?_
    obtain ⟨c6, h⟩ := chkI_some h
    refine y_iadd (show decode cX12_canBe 25 = .ok (.iadd, 1) by decide +kernel) c6 ?_
    obtain ⟨c7, h⟩ := chkA_some h
    refine yo_zald 133 70000 (by decide) rfl c7 (ov_at rfl) (show decode cX12_canBe 26 = .ok (.baload, 1) by decide +kernel) ?_
    by_cases c8 : (σ 133 (((7776 * a) + b)).toNat) = 0
    · rw [if_pos c8] at h
      refine y_if_eq_t (tgt := 34) (show decode cX12_canBe 27 = .ok (.ifCond .eq 7, 3) by decide +kernel) rfl c8 ?_
      refine y_iconst (show decode cX12_canBe 34 = .ok (.iconst 0, 1) by decide +kernel) rfl ?_
      cases h
      exact y_zret (show decode cX12_canBe 35 = .ok (.ireturn, 1) by decide +kernel) rfl (Or.inl rfl)
    · rw [if_neg c8] at h
      refine y_if_eq_f (show decode cX12_canBe 27 = .ok (.ifCond .eq 7, 3) by decide +kernel) c8 (by decide) ?_
      refine y_iconst (show decode cX12_canBe 30 = .ok (.iconst 1, 1) by decide +kernel) rfl ?_
      refine y_goto (tgt := 35) (show decode cX12_canBe 31 = .ok (.goto 4, 3) by decide +kernel) rfl ?_
      cases h
      exact y_zret (show decode cX12_canBe 35 = .ok (.ireturn, 1) by decide +kernel) rfl (Or.inr rfl)
abbrev MX12_meet : yM := (yX12_meet, cX12_meet, 6, some .int)
def mo_meet (N : Nat) (a : Int) (b : Int) (c : Int) (σ : ySt) : Option (Int × ySt) :=
  bndO (mo_isPerson a σ) fun r2 =>
  if r2 = 0 then
    some ((-1), σ)
  else
    bndO (mo_isPerson b σ) fun r5 =>
    if r5 = 0 then
      some ((-1), σ)
    else
      if a = b then
        some ((-1), σ)
      else
        bndO (mo_isPlace c σ) fun r9 =>
        if ¬ r9 = 0 then
          bndO (mo_findAll N 0 0 σ) fun σ12 =>
          loopS1 (fun k15 x13 σ14 =>
            if x13 > (σ14 92 48) then
              some ((-1), σ14)
            else
              loopS2 (fun k20 x17 x18 σ19 =>
                bndO (mo_stateMany N σ19) fun r22 =>
                if x18 ≥ r22 then
                  chkI (x17 + 1) <|
                  k15 (x17 + 1) σ19
                else
                  bndO (mo_canBe x17 x18 σ19) fun r26 =>
                  bnd (fun (σ27 : ySt) =>
                    chkI (x18 + 1) <|
                    k20 x17 (x18 + 1) σ27) fun j28 =>
                  if ¬ r26 = 0 then
                    bndO (mo_layState N x18 σ19) fun σ32 =>
                    chkA 6 c <|
                    if ¬ (σ32 127 (c).toNat) = 2 then
                      j28 σ32
                    else
                      chkA 5 a <|
                      if ¬ (σ32 126 (a).toNat) = c then
                        j28 σ32
                      else
                        chkA 5 b <|
                        if ¬ (σ32 126 (b).toNat) = c then
                          j28 σ32
                        else
                          some (x17, σ32)
                  else
                    j28 σ19) N x13 0 σ14) N 1 σ12
        else
          some ((-1), σ)
set_option maxHeartbeats 4000000 in
set_option maxRecDepth 10000 in
theorem sh_mo_meet {E : yE} {N : Nat} {a : Int} {b : Int} {c : Int} {σ : ySt} {ρ : Int} {τ : ySt} (h : mo_meet N a b c σ = some (ρ, τ)) : Con E MX12_meet 5 0 0 [.inr (.inr (92 + 1)), .inl a, .inl b, .inl c] 150 (ov σ) (some (.inl ρ)) (ov τ) := by
  unfold mo_meet at h
  refine Con.ofY (by decide +kernel) (by simp [yWords, yCat]) (fun hok _ => ?_)
  show Y E MX12_meet (yRm 5 0 0) (yQf E (150 + 0) 0 0 (some (.inl ρ)) (ov τ)) 0 [(0, .inr (.inr (92 + 1))), (1, .inl a), (2, .inl b), (3, .inl c)] [] (ov σ) 150 0 0
  refine y_aload_n (show decode cX12_meet 0 = .ok (.aload_n 0, 1) by decide +kernel) 0 rfl ?_
  refine y_iload_n (show decode cX12_meet 1 = .ok (.iload_n 1, 1) by decide +kernel) 1 rfl ?_
  obtain ⟨r2, e1, h⟩ := bndO_some h
  refine y_callV (np := 1) (st := []) (as := [.inl a]) 92 12 (sh_mo_isPerson e1) q8_105 q8_102 q8_104 qs7_7 q1_15 (by decide) rfl (by decide) rfl (by decide) (by decide +kernel) (by decide) rfl (Nat.le_of_ble_eq_true rfl) (show decode cX12_meet 2 = .ok (.invokevirtual 505, 3) by decide +kernel) rfl ?_
  by_cases c3 : r2 = 0
  · rw [if_pos c3] at h
    refine y_if_eq_t (tgt := 29) (show decode cX12_meet 5 = .ok (.ifCond .eq 24, 3) by decide +kernel) rfl c3 ?_
    refine y_iconst (show decode cX12_meet 29 = .ok (.iconst (-1), 1) by decide +kernel) rfl ?_
    cases h
    exact y_iret (show decode cX12_meet 30 = .ok (.ireturn, 1) by decide +kernel) rfl
  · rw [if_neg c3] at h
    refine y_if_eq_f (show decode cX12_meet 5 = .ok (.ifCond .eq 24, 3) by decide +kernel) c3 (by decide) ?_
    refine y_aload_n (show decode cX12_meet 8 = .ok (.aload_n 0, 1) by decide +kernel) 0 rfl ?_
    refine y_iload_n (show decode cX12_meet 9 = .ok (.iload_n 2, 1) by decide +kernel) 2 rfl ?_
    obtain ⟨r5, e4, h⟩ := bndO_some h
    refine y_callV (np := 1) (st := []) (as := [.inl b]) 92 12 (sh_mo_isPerson e4) q8_105 q8_102 q8_104 qs7_7 q1_15 (by decide) rfl (by decide) rfl (by decide) (by decide +kernel) (by decide) rfl (Nat.le_of_ble_eq_true rfl) (show decode cX12_meet 10 = .ok (.invokevirtual 505, 3) by decide +kernel) rfl ?_
    by_cases c6 : r5 = 0
    · rw [if_pos c6] at h
      refine y_if_eq_t (tgt := 29) (show decode cX12_meet 13 = .ok (.ifCond .eq 16, 3) by decide +kernel) rfl c6 ?_
      refine y_iconst (show decode cX12_meet 29 = .ok (.iconst (-1), 1) by decide +kernel) rfl ?_
      cases h
      exact y_iret (show decode cX12_meet 30 = .ok (.ireturn, 1) by decide +kernel) rfl
    · rw [if_neg c6] at h
      refine y_if_eq_f (show decode cX12_meet 13 = .ok (.ifCond .eq 16, 3) by decide +kernel) c6 (by decide) ?_
      refine y_iload_n (show decode cX12_meet 16 = .ok (.iload_n 1, 1) by decide +kernel) 1 rfl ?_
      refine y_iload_n (show decode cX12_meet 17 = .ok (.iload_n 2, 1) by decide +kernel) 2 rfl ?_
      by_cases c7 : a = b
      · rw [if_pos c7] at h
        refine y_icmp_eq_t (tgt := 29) (show decode cX12_meet 18 = .ok (.if_icmp .eq 11, 3) by decide +kernel) rfl c7 ?_
        refine y_iconst (show decode cX12_meet 29 = .ok (.iconst (-1), 1) by decide +kernel) rfl ?_
        cases h
        exact y_iret (show decode cX12_meet 30 = .ok (.ireturn, 1) by decide +kernel) rfl
      · rw [if_neg c7] at h
        refine y_icmp_eq_f (show decode cX12_meet 18 = .ok (.if_icmp .eq 11, 3) by decide +kernel) c7 (by decide) ?_
        refine y_aload_n (show decode cX12_meet 21 = .ok (.aload_n 0, 1) by decide +kernel) 0 rfl ?_
        refine y_iload_n (show decode cX12_meet 22 = .ok (.iload_n 3, 1) by decide +kernel) 3 rfl ?_
        obtain ⟨r9, e8, h⟩ := bndO_some h
        refine y_callV (np := 1) (st := []) (as := [.inl c]) 92 12 (sh_mo_isPlace e8) q8_11 q8_8 q8_10 qs6_5 q1_15 (by decide) rfl (by decide) rfl (by decide) (by decide +kernel) (by decide) rfl (Nat.le_of_ble_eq_true rfl) (show decode cX12_meet 23 = .ok (.invokevirtual 448, 3) by decide +kernel) rfl ?_
        by_cases c10 : ¬ r9 = 0
        · rw [if_pos c10] at h
          refine y_if_ne_t (tgt := 31) (show decode cX12_meet 26 = .ok (.ifCond .ne 5, 3) by decide +kernel) rfl c10 ?_
          refine y_aload_n (show decode cX12_meet 31 = .ok (.aload_n 0, 1) by decide +kernel) 0 rfl ?_
          refine y_iconst (show decode cX12_meet 32 = .ok (.iconst 0, 1) by decide +kernel) rfl ?_
          refine y_iconst (show decode cX12_meet 33 = .ok (.iconst 0, 1) by decide +kernel) rfl ?_
          obtain ⟨σ12, e11, h⟩ := bndO_some h
          refine y_callV (np := 2) (st := []) (as := [.inl 0, .inl 0]) 92 12 (sh_mo_findAll e11) q8_137 q8_134 q8_136 qs7_10 q1_15 (by decide) rfl (by decide) rfl (by decide) (by decide +kernel) (by decide) rfl (Nat.le_of_ble_eq_true rfl) (show decode cX12_meet 34 = .ok (.invokevirtual 520, 3) by decide +kernel) rfl ?_
          refine y_iconst (show decode cX12_meet 37 = .ok (.iconst 1, 1) by decide +kernel) rfl ?_
          refine y_istore (show decode cX12_meet 38 = .ok (.istore 4, 2) by decide +kernel) rfl (L1 := [(4, .inl 1), (0, .inr (.inr (92 + 1))), (1, .inl a), (2, .inl b), (3, .inl c)]) rfl ?_
          refine y_pick [1, 2, 3, 4, 0] rfl ?_
          refine loopS1_ind (P := fun x13 σ14 => Y E MX12_meet (yRm 5 0 0) (yQf E (150 + 0) 0 0 (some (.inl ρ)) (ov τ)) 40 [(0, .inr (.inr (92 + 1))), (1, .inl a), (2, .inl b), (3, .inl c), (4, .inl x13)] [] (ov σ14) 150 0 0) (fun k15 hk15 x13 σ14 h => ?_) _ _ _  h
          refine y_iload (show decode cX12_meet 40 = .ok (.iload 4, 2) by decide +kernel) 4 rfl ?_
          refine y_aload_n (show decode cX12_meet 42 = .ok (.aload_n 0, 1) by decide +kernel) 0 rfl ?_
          refine y_getf 92 12 48 424 (by decide) rfl (by decide) (by decide) q6_95 (show decode cX12_meet 43 = .ok (.getfield 424, 3) by decide +kernel) (v := .inl (σ14 92 48)) rfl ?_
          by_cases c16 : x13 > (σ14 92 48)
          · rw [if_pos c16] at h
            refine y_icmp_gt_t (tgt := 126) (show decode cX12_meet 46 = .ok (.if_icmp .gt 80, 3) by decide +kernel) rfl c16 ?_
            refine y_iconst (show decode cX12_meet 126 = .ok (.iconst (-1), 1) by decide +kernel) rfl ?_
            cases h
            exact y_iret (show decode cX12_meet 127 = .ok (.ireturn, 1) by decide +kernel) rfl
          · rw [if_neg c16] at h
            refine y_icmp_gt_f (show decode cX12_meet 46 = .ok (.if_icmp .gt 80, 3) by decide +kernel) c16 (by decide) ?_
            refine y_iconst (show decode cX12_meet 49 = .ok (.iconst 0, 1) by decide +kernel) rfl ?_
            refine y_istore (show decode cX12_meet 50 = .ok (.istore 5, 2) by decide +kernel) rfl (L1 := [(5, .inl 0), (0, .inr (.inr (92 + 1))), (1, .inl a), (2, .inl b), (3, .inl c), (4, .inl x13)]) rfl ?_
            refine y_pick [1, 2, 3, 4, 5, 0] rfl ?_
            refine loopS2_ind (P := fun x17 x18 σ19 => Y E MX12_meet (yRm 5 0 0) (yQf E (150 + 0) 0 0 (some (.inl ρ)) (ov τ)) 52 [(0, .inr (.inr (92 + 1))), (1, .inl a), (2, .inl b), (3, .inl c), (4, .inl x17), (5, .inl x18)] [] (ov σ19) 150 0 0) (fun k20 hk20 x17 x18 σ19 h => ?_) _ _ _ _  h
            refine y_iload (show decode cX12_meet 52 = .ok (.iload 5, 2) by decide +kernel) 5 rfl ?_
            refine y_aload_n (show decode cX12_meet 54 = .ok (.aload_n 0, 1) by decide +kernel) 0 rfl ?_
            obtain ⟨r22, e21, h⟩ := bndO_some h
            refine y_callV (np := 0) (st := [.inl x18]) (as := []) 92 12 (sh_mo_stateMany e21) q8_57 q8_54 q8_56 qs6_12 q1_15 (by decide) rfl (by decide) rfl (by decide) (by decide +kernel) (by decide) rfl (Nat.le_of_ble_eq_true rfl) (show decode cX12_meet 55 = .ok (.invokevirtual 474, 3) by decide +kernel) rfl ?_
            by_cases c23 : x18 ≥ r22
            · rw [if_pos c23] at h
              refine y_icmp_ge_t (tgt := 120) (show decode cX12_meet 58 = .ok (.if_icmp .ge 62, 3) by decide +kernel) rfl c23 ?_
              obtain ⟨c24, h⟩ := chkI_some h
              refine y_iinc (show decode cX12_meet 120 = .ok (.iinc 4 1, 3) by decide +kernel) 4 rfl c24 rfl (L1 := [(4, .inl (x17 + 1)), (0, .inr (.inr (92 + 1))), (1, .inl a), (2, .inl b), (3, .inl c), (5, .inl x18)]) rfl ?_
              refine y_goto (tgt := 40) (show decode cX12_meet 123 = .ok (.goto (-83), 3) by decide +kernel) rfl ?_
              refine y_pick [1, 2, 3, 4, 0] rfl ?_
              exact hk15 _ _ h
            · rw [if_neg c23] at h
              refine y_icmp_ge_f (show decode cX12_meet 58 = .ok (.if_icmp .ge 62, 3) by decide +kernel) c23 (by decide) ?_
              refine y_aload_n (show decode cX12_meet 61 = .ok (.aload_n 0, 1) by decide +kernel) 0 rfl ?_
              refine y_iload (show decode cX12_meet 62 = .ok (.iload 4, 2) by decide +kernel) 4 rfl ?_
              refine y_iload (show decode cX12_meet 64 = .ok (.iload 5, 2) by decide +kernel) 5 rfl ?_
              obtain ⟨r26, e25, h⟩ := bndO_some h
              refine y_callV (np := 2) (st := []) (as := [.inl x17, .inl x18]) 92 12 (sh_mo_canBe e25) q8_153 q8_150 q8_152 qs7_14 q1_15 (by decide) rfl (by decide) rfl (by decide) (by decide +kernel) (by decide) rfl (Nat.le_of_ble_eq_true rfl) (show decode cX12_meet 66 = .ok (.invokevirtual 524, 3) by decide +kernel) rfl ?_
              refine bnd_j (Q := fun j28 => ∀ (σ27 : ySt), j28 σ27 = some (ρ, τ) → Y E MX12_meet (yRm 5 0 0) (yQf E (150 + 0) 0 0 (some (.inl ρ)) (ov τ)) 114 [(0, .inr (.inr (92 + 1))), (1, .inl a), (2, .inl b), (3, .inl c), (4, .inl x17), (5, .inl x18)] [] (ov σ27) 150 0 0) (fun σ27 h => ?_) (fun j28 hj28 h => ?_) h
              · dsimp only at h
                obtain ⟨c29, h⟩ := chkI_some h
                refine y_iinc (show decode cX12_meet 114 = .ok (.iinc 5 1, 3) by decide +kernel) 5 rfl c29 rfl (L1 := [(5, .inl (x18 + 1)), (0, .inr (.inr (92 + 1))), (1, .inl a), (2, .inl b), (3, .inl c), (4, .inl x17)]) rfl ?_
                refine y_goto (tgt := 52) (show decode cX12_meet 117 = .ok (.goto (-65), 3) by decide +kernel) rfl ?_
                refine y_pick [1, 2, 3, 4, 5, 0] rfl ?_
                exact hk20 _ _ _ h
              by_cases c30 : ¬ r26 = 0
              · rw [if_pos c30] at h
                refine y_if_ne_t (tgt := 75) (show decode cX12_meet 69 = .ok (.ifCond .ne 6, 3) by decide +kernel) rfl c30 ?_
                refine y_aload_n (show decode cX12_meet 75 = .ok (.aload_n 0, 1) by decide +kernel) 0 rfl ?_
                refine y_iload (show decode cX12_meet 76 = .ok (.iload 5, 2) by decide +kernel) 5 rfl ?_
                obtain ⟨σ32, e31, h⟩ := bndO_some h
                refine y_callV (np := 1) (st := []) (as := [.inl x18]) 92 12 (sh_mo_layState e31) q8_65 q8_62 q8_64 qs6_14 q1_15 (by decide) rfl (by decide) rfl (by decide) (by decide +kernel) (by decide) rfl (Nat.le_of_ble_eq_true rfl) (show decode cX12_meet 78 = .ok (.invokevirtual 480, 3) by decide +kernel) rfl ?_
                refine y_aload_n (show decode cX12_meet 81 = .ok (.aload_n 0, 1) by decide +kernel) 0 rfl ?_
                refine y_getf 92 12 57 119 (by decide) rfl (by decide) (by decide) q6_104 (show decode cX12_meet 82 = .ok (.getfield 119, 3) by decide +kernel) (v := .inr (.inr (127 + 1))) rfl ?_
                refine y_iload_n (show decode cX12_meet 85 = .ok (.iload_n 3, 1) by decide +kernel) 3 rfl ?_
                obtain ⟨c33, h⟩ := chkA_some h
                refine yo_iald 127 6 (by decide) rfl c33 (ov_at rfl) (show decode cX12_meet 86 = .ok (.iaload, 1) by decide +kernel) ?_
                refine y_iconst (show decode cX12_meet 87 = .ok (.iconst 2, 1) by decide +kernel) rfl ?_
                by_cases c34 : ¬ (σ32 127 (c).toNat) = 2
                · rw [if_pos c34] at h
                  refine y_icmp_ne_t (tgt := 114) (show decode cX12_meet 88 = .ok (.if_icmp .ne 26, 3) by decide +kernel) rfl c34 ?_
                  refine y_pick [0, 1, 2, 3, 4, 5] rfl ?_
                  exact hj28 _ h
                · rw [if_neg c34] at h
                  refine y_icmp_ne_f (show decode cX12_meet 88 = .ok (.if_icmp .ne 26, 3) by decide +kernel) c34 (by decide) ?_
                  refine y_aload_n (show decode cX12_meet 91 = .ok (.aload_n 0, 1) by decide +kernel) 0 rfl ?_
                  refine y_getf 92 12 56 116 (by decide) rfl (by decide) (by decide) q6_103 (show decode cX12_meet 92 = .ok (.getfield 116, 3) by decide +kernel) (v := .inr (.inr (126 + 1))) rfl ?_
                  refine y_iload_n (show decode cX12_meet 95 = .ok (.iload_n 1, 1) by decide +kernel) 1 rfl ?_
                  obtain ⟨c35, h⟩ := chkA_some h
                  refine yo_iald 126 5 (by decide) rfl c35 (ov_at rfl) (show decode cX12_meet 96 = .ok (.iaload, 1) by decide +kernel) ?_
                  refine y_iload_n (show decode cX12_meet 97 = .ok (.iload_n 3, 1) by decide +kernel) 3 rfl ?_
                  by_cases c36 : ¬ (σ32 126 (a).toNat) = c
                  · rw [if_pos c36] at h
                    refine y_icmp_ne_t (tgt := 114) (show decode cX12_meet 98 = .ok (.if_icmp .ne 16, 3) by decide +kernel) rfl c36 ?_
                    refine y_pick [0, 1, 2, 3, 4, 5] rfl ?_
                    exact hj28 _ h
                  · rw [if_neg c36] at h
                    refine y_icmp_ne_f (show decode cX12_meet 98 = .ok (.if_icmp .ne 16, 3) by decide +kernel) c36 (by decide) ?_
                    refine y_aload_n (show decode cX12_meet 101 = .ok (.aload_n 0, 1) by decide +kernel) 0 rfl ?_
                    refine y_getf 92 12 56 116 (by decide) rfl (by decide) (by decide) q6_103 (show decode cX12_meet 102 = .ok (.getfield 116, 3) by decide +kernel) (v := .inr (.inr (126 + 1))) rfl ?_
                    refine y_iload_n (show decode cX12_meet 105 = .ok (.iload_n 2, 1) by decide +kernel) 2 rfl ?_
                    obtain ⟨c37, h⟩ := chkA_some h
                    refine yo_iald 126 5 (by decide) rfl c37 (ov_at rfl) (show decode cX12_meet 106 = .ok (.iaload, 1) by decide +kernel) ?_
                    refine y_iload_n (show decode cX12_meet 107 = .ok (.iload_n 3, 1) by decide +kernel) 3 rfl ?_
                    by_cases c38 : ¬ (σ32 126 (b).toNat) = c
                    · rw [if_pos c38] at h
                      refine y_icmp_ne_t (tgt := 114) (show decode cX12_meet 108 = .ok (.if_icmp .ne 6, 3) by decide +kernel) rfl c38 ?_
                      refine y_pick [0, 1, 2, 3, 4, 5] rfl ?_
                      exact hj28 _ h
                    · rw [if_neg c38] at h
                      refine y_icmp_ne_f (show decode cX12_meet 108 = .ok (.if_icmp .ne 6, 3) by decide +kernel) c38 (by decide) ?_
                      refine y_iload (show decode cX12_meet 111 = .ok (.iload 4, 2) by decide +kernel) 4 rfl ?_
                      cases h
                      exact y_iret (show decode cX12_meet 113 = .ok (.ireturn, 1) by decide +kernel) rfl
              · rw [if_neg c30] at h
                refine y_if_ne_f (show decode cX12_meet 69 = .ok (.ifCond .ne 6, 3) by decide +kernel) c30 (by decide) ?_
                refine y_goto (tgt := 114) (show decode cX12_meet 72 = .ok (.goto 42, 3) by decide +kernel) rfl ?_
                refine y_pick [0, 1, 2, 3, 4, 5] rfl ?_
                exact hj28 _ h
        · rw [if_neg c10] at h
          refine y_if_ne_f (show decode cX12_meet 26 = .ok (.ifCond .ne 5, 3) by decide +kernel) c10 (by decide) ?_
          refine y_iconst (show decode cX12_meet 29 = .ok (.iconst (-1), 1) by decide +kernel) rfl ?_
          cases h
          exact y_iret (show decode cX12_meet 30 = .ok (.ireturn, 1) by decide +kernel) rfl
abbrev MX12_states : yM := (yX12_states, cX12_states, 5, some .int)
def mo_states (N : Nat) (a : Int) (b : Int) (σ : ySt) : Option (Int × ySt) :=
  chkA 2 (σ 92 40) <|
  bndO (mo_isIn a 1 (σ 101 ((σ 92 40)).toNat) σ) fun r3 =>
  if ¬ r3 = 0 then
    bndO (mo_findAll N 1 b σ) fun σ6 =>
    loop2 (fun k9 x7 x8 =>
      bndO (mo_stateMany N σ6) fun r11 =>
      if x8 ≥ r11 then
        some (x7, σ6)
      else
        bndO (mo_canBe a x8 σ6) fun r14 =>
        bnd (fun (y15 : Int) =>
          chkI (x7 + y15) <|
          chkI (x8 + 1) <|
          k9 (x7 + y15) (x8 + 1)) fun j16 =>
        if r14 = 0 then
          j16 0
        else
          j16 1) N 0 0
  else
    some ((-1), σ)
set_option maxHeartbeats 4000000 in
set_option maxRecDepth 10000 in
theorem sh_mo_states {E : yE} {N : Nat} {a : Int} {b : Int} {σ : ySt} {ρ : Int} {τ : ySt} (h : mo_states N a b σ = some (ρ, τ)) : Con E MX12_states 5 0 0 [.inr (.inr (92 + 1)), .inl a, .inl b] 150 (ov σ) (some (.inl ρ)) (ov τ) := by
  unfold mo_states at h
  refine Con.ofY (by decide +kernel) (by simp [yWords, yCat]) (fun hok _ => ?_)
  show Y E MX12_states (yRm 5 0 0) (yQf E (150 + 0) 0 0 (some (.inl ρ)) (ov τ)) 0 [(0, .inr (.inr (92 + 1))), (1, .inl a), (2, .inl b)] [] (ov σ) 150 0 0
  refine y_iload_n (show decode cX12_states 0 = .ok (.iload_n 1, 1) by decide +kernel) 1 rfl ?_
  refine y_iconst (show decode cX12_states 1 = .ok (.iconst 1, 1) by decide +kernel) rfl ?_
  refine y_aload_n (show decode cX12_states 2 = .ok (.aload_n 0, 1) by decide +kernel) 0 rfl ?_
  refine y_getf 92 12 17 39 (by decide) rfl (by decide) (by decide) q6_64 (show decode cX12_states 3 = .ok (.getfield 39, 3) by decide +kernel) (v := .inr (.inr (101 + 1))) rfl ?_
  refine y_aload_n (show decode cX12_states 6 = .ok (.aload_n 0, 1) by decide +kernel) 0 rfl ?_
  refine y_getf 92 12 40 311 (by decide) rfl (by decide) (by decide) q6_87 (show decode cX12_states 7 = .ok (.getfield 311, 3) by decide +kernel) (v := .inl (σ 92 40)) rfl ?_
  obtain ⟨c1, h⟩ := chkA_some h
  refine yo_iald 101 2 (by decide) rfl c1 (ov_at rfl) (show decode cX12_states 10 = .ok (.iaload, 1) by decide +kernel) ?_
  obtain ⟨r3, e2, h⟩ := bndO_some h
  refine y_callS (np := 3) (st := []) (as := [.inl a, .inl 1, .inl (σ 101 ((σ 92 40)).toNat)]) (sh_mo_isIn e2) q8_18 q8_16 q8_17 q1_15 (by decide) (by decide +kernel) (by decide) rfl (Nat.le_of_ble_eq_true rfl) (show decode cX12_states 11 = .ok (.invokestatic 414, 3) by decide +kernel) rfl ?_
  by_cases c4 : ¬ r3 = 0
  · rw [if_pos c4] at h
    refine y_if_ne_t (tgt := 19) (show decode cX12_states 14 = .ok (.ifCond .ne 5, 3) by decide +kernel) rfl c4 ?_
    refine y_aload_n (show decode cX12_states 19 = .ok (.aload_n 0, 1) by decide +kernel) 0 rfl ?_
    refine y_iconst (show decode cX12_states 20 = .ok (.iconst 1, 1) by decide +kernel) rfl ?_
    refine y_iload_n (show decode cX12_states 21 = .ok (.iload_n 2, 1) by decide +kernel) 2 rfl ?_
    obtain ⟨σ6, e5, h⟩ := bndO_some h
    refine y_callV (np := 2) (st := []) (as := [.inl 1, .inl b]) 92 12 (sh_mo_findAll e5) q8_137 q8_134 q8_136 qs7_10 q1_15 (by decide) rfl (by decide) rfl (by decide) (by decide +kernel) (by decide) rfl (Nat.le_of_ble_eq_true rfl) (show decode cX12_states 22 = .ok (.invokevirtual 520, 3) by decide +kernel) rfl ?_
    refine y_iconst (show decode cX12_states 25 = .ok (.iconst 0, 1) by decide +kernel) rfl ?_
    refine y_istore_n (show decode cX12_states 26 = .ok (.istore_n 3, 1) by decide +kernel) rfl (L1 := [(3, .inl 0), (0, .inr (.inr (92 + 1))), (1, .inl a), (2, .inl b)]) rfl ?_
    refine y_iconst (show decode cX12_states 27 = .ok (.iconst 0, 1) by decide +kernel) rfl ?_
    refine y_istore (show decode cX12_states 28 = .ok (.istore 4, 2) by decide +kernel) rfl (L1 := [(4, .inl 0), (3, .inl 0), (0, .inr (.inr (92 + 1))), (1, .inl a), (2, .inl b)]) rfl ?_
    refine y_pick [2, 3, 1, 0] rfl ?_
    refine loop2_ind (P := fun x7 x8 => Y E MX12_states (yRm 5 0 0) (yQf E (150 + 0) 0 0 (some (.inl ρ)) (ov τ)) 30 [(0, .inr (.inr (92 + 1))), (1, .inl a), (3, .inl x7), (4, .inl x8)] [] (ov σ6) 150 0 0) (fun k9 hk9 x7 x8 h => ?_) _ _ _  h
    refine y_iload (show decode cX12_states 30 = .ok (.iload 4, 2) by decide +kernel) 3 rfl ?_
    refine y_aload_n (show decode cX12_states 32 = .ok (.aload_n 0, 1) by decide +kernel) 0 rfl ?_
    obtain ⟨r11, e10, h⟩ := bndO_some h
    refine y_callV (np := 0) (st := [.inl x8]) (as := []) 92 12 (sh_mo_stateMany e10) q8_57 q8_54 q8_56 qs6_12 q1_15 (by decide) rfl (by decide) rfl (by decide) (by decide +kernel) (by decide) rfl (Nat.le_of_ble_eq_true rfl) (show decode cX12_states 33 = .ok (.invokevirtual 474, 3) by decide +kernel) rfl ?_
    by_cases c12 : x8 ≥ r11
    · rw [if_pos c12] at h
      refine y_icmp_ge_t (tgt := 63) (show decode cX12_states 36 = .ok (.if_icmp .ge 27, 3) by decide +kernel) rfl c12 ?_
      refine y_iload_n (show decode cX12_states 63 = .ok (.iload_n 3, 1) by decide +kernel) 2 rfl ?_
      cases h
      exact y_iret (show decode cX12_states 64 = .ok (.ireturn, 1) by decide +kernel) rfl
    · rw [if_neg c12] at h
      refine y_icmp_ge_f (show decode cX12_states 36 = .ok (.if_icmp .ge 27, 3) by decide +kernel) c12 (by decide) ?_
      refine y_iload_n (show decode cX12_states 39 = .ok (.iload_n 3, 1) by decide +kernel) 2 rfl ?_
      refine y_aload_n (show decode cX12_states 40 = .ok (.aload_n 0, 1) by decide +kernel) 0 rfl ?_
      refine y_iload_n (show decode cX12_states 41 = .ok (.iload_n 1, 1) by decide +kernel) 1 rfl ?_
      refine y_iload (show decode cX12_states 42 = .ok (.iload 4, 2) by decide +kernel) 3 rfl ?_
      obtain ⟨r14, e13, h⟩ := bndO_some h
      refine y_callV (np := 2) (st := [.inl x7]) (as := [.inl a, .inl x8]) 92 12 (sh_mo_canBe e13) q8_153 q8_150 q8_152 qs7_14 q1_15 (by decide) rfl (by decide) rfl (by decide) (by decide +kernel) (by decide) rfl (Nat.le_of_ble_eq_true rfl) (show decode cX12_states 44 = .ok (.invokevirtual 524, 3) by decide +kernel) rfl ?_
      refine bnd_j (Q := fun j16 => ∀ (y15 : Int), j16 y15 = some (ρ, τ) → Y E MX12_states (yRm 5 0 0) (yQf E (150 + 0) 0 0 (some (.inl ρ)) (ov τ)) 55 [(0, .inr (.inr (92 + 1))), (1, .inl a), (4, .inl x8)] [.inl y15, .inl x7] (ov σ6) 150 0 0) (fun y15 h => ?_) (fun j16 hj16 h => ?_) h
      · dsimp only at h
        obtain ⟨c17, h⟩ := chkI_some h
        refine y_iadd (show decode cX12_states 55 = .ok (.iadd, 1) by decide +kernel) c17 ?_
        refine y_istore_n (show decode cX12_states 56 = .ok (.istore_n 3, 1) by decide +kernel) rfl (L1 := [(3, .inl (x7 + y15)), (0, .inr (.inr (92 + 1))), (1, .inl a), (4, .inl x8)]) rfl ?_
        obtain ⟨c18, h⟩ := chkI_some h
        refine y_iinc (show decode cX12_states 57 = .ok (.iinc 4 1, 3) by decide +kernel) 3 rfl c18 rfl (L1 := [(4, .inl (x8 + 1)), (3, .inl (x7 + y15)), (0, .inr (.inr (92 + 1))), (1, .inl a)]) rfl ?_
        refine y_goto (tgt := 30) (show decode cX12_states 60 = .ok (.goto (-30), 3) by decide +kernel) rfl ?_
        refine y_pick [2, 3, 1, 0] rfl ?_
        exact hk9 _ _ h
      by_cases c19 : r14 = 0
      · rw [if_pos c19] at h
        refine y_if_eq_t (tgt := 54) (show decode cX12_states 47 = .ok (.ifCond .eq 7, 3) by decide +kernel) rfl c19 ?_
        refine y_iconst (show decode cX12_states 54 = .ok (.iconst 0, 1) by decide +kernel) rfl ?_
        refine y_pick [0, 1, 3] rfl ?_
        exact hj16 _ h
      · rw [if_neg c19] at h
        refine y_if_eq_f (show decode cX12_states 47 = .ok (.ifCond .eq 7, 3) by decide +kernel) c19 (by decide) ?_
        refine y_iconst (show decode cX12_states 50 = .ok (.iconst 1, 1) by decide +kernel) rfl ?_
        refine y_goto (tgt := 55) (show decode cX12_states 51 = .ok (.goto 4, 3) by decide +kernel) rfl ?_
        refine y_pick [0, 1, 3] rfl ?_
        exact hj16 _ h
  · rw [if_neg c4] at h
    refine y_if_ne_f (show decode cX12_states 14 = .ok (.ifCond .ne 5, 3) by decide +kernel) c4 (by decide) ?_
    refine y_iconst (show decode cX12_states 17 = .ok (.iconst (-1), 1) by decide +kernel) rfl ?_
    cases h
    exact y_iret (show decode cX12_states 18 = .ok (.ireturn, 1) by decide +kernel) rfl
abbrev MX12_sure : yM := (yX12_sure, cX12_sure, 8, some .int)
def mo_sure (N : Nat) (a : Int) (b : Int) (c : Int) (d : Int) (σ : ySt) : Option (Int × ySt) :=
  bndO (mo_isPerson a σ) fun r2 =>
  if r2 = 0 then
    some ((-1), σ)
  else
    bndO (mo_isPlace b σ) fun r5 =>
    if r5 = 0 then
      some ((-1), σ)
    else
      chkA 2 (σ 92 40) <|
      bndO (mo_isIn c 1 (σ 101 ((σ 92 40)).toNat) σ) fun r9 =>
      if ¬ r9 = 0 then
        bndO (mo_findAll N 1 d σ) fun σ12 =>
        loopS3 (fun k17 x13 x14 x15 σ16 =>
          bndO (mo_stateMany N σ16) fun r19 =>
          if x15 ≥ r19 then
            if ¬ x13 = 0 then
              if ¬ x14 = 0 then
                some (1, σ16)
              else
                some (2, σ16)
            else
              some (0, σ16)
          else
            bndO (mo_canBe c x15 σ16) fun r24 =>
            bnd (fun (y25 : Int) (y26 : Int) (σ27 : ySt) =>
              chkI (x15 + 1) <|
              k17 y25 y26 (x15 + 1) σ27) fun j28 =>
            if ¬ r24 = 0 then
              bndO (mo_layState N x15 σ16) fun σ32 =>
              chkA 5 a <|
              bnd (fun (y34 : Int) =>
                chkI (x13 + y34) <|
                chkA 5 a <|
                bnd (fun (y38 : Int) =>
                  chkI (x14 + y38) <|
                  j28 (x13 + y34) (x14 + y38) σ32) fun j39 =>
                if ¬ (σ32 126 (a).toNat) = b then
                  j39 1
                else
                  j39 0) fun j35 =>
              if ¬ (σ32 126 (a).toNat) = b then
                j35 0
              else
                j35 1
            else
              j28 x13 x14 σ16) N 0 0 0 σ12
      else
        some ((-1), σ)
set_option maxHeartbeats 4000000 in
set_option maxRecDepth 10000 in
theorem sh_mo_sure {E : yE} {N : Nat} {a : Int} {b : Int} {c : Int} {d : Int} {σ : ySt} {ρ : Int} {τ : ySt} (h : mo_sure N a b c d σ = some (ρ, τ)) : Con E MX12_sure 5 0 0 [.inr (.inr (92 + 1)), .inl a, .inl b, .inl c, .inl d] 150 (ov σ) (some (.inl ρ)) (ov τ) := by
  unfold mo_sure at h
  refine Con.ofY (by decide +kernel) (by simp [yWords, yCat]) (fun hok _ => ?_)
  show Y E MX12_sure (yRm 5 0 0) (yQf E (150 + 0) 0 0 (some (.inl ρ)) (ov τ)) 0 [(0, .inr (.inr (92 + 1))), (1, .inl a), (2, .inl b), (3, .inl c), (4, .inl d)] [] (ov σ) 150 0 0
  refine y_aload_n (show decode cX12_sure 0 = .ok (.aload_n 0, 1) by decide +kernel) 0 rfl ?_
  refine y_iload_n (show decode cX12_sure 1 = .ok (.iload_n 1, 1) by decide +kernel) 1 rfl ?_
  obtain ⟨r2, e1, h⟩ := bndO_some h
  refine y_callV (np := 1) (st := []) (as := [.inl a]) 92 12 (sh_mo_isPerson e1) q8_105 q8_102 q8_104 qs7_7 q1_15 (by decide) rfl (by decide) rfl (by decide) (by decide +kernel) (by decide) rfl (Nat.le_of_ble_eq_true rfl) (show decode cX12_sure 2 = .ok (.invokevirtual 505, 3) by decide +kernel) rfl ?_
  by_cases c3 : r2 = 0
  · rw [if_pos c3] at h
    refine y_if_eq_t (tgt := 33) (show decode cX12_sure 5 = .ok (.ifCond .eq 28, 3) by decide +kernel) rfl c3 ?_
    refine y_iconst (show decode cX12_sure 33 = .ok (.iconst (-1), 1) by decide +kernel) rfl ?_
    cases h
    exact y_iret (show decode cX12_sure 34 = .ok (.ireturn, 1) by decide +kernel) rfl
  · rw [if_neg c3] at h
    refine y_if_eq_f (show decode cX12_sure 5 = .ok (.ifCond .eq 28, 3) by decide +kernel) c3 (by decide) ?_
    refine y_aload_n (show decode cX12_sure 8 = .ok (.aload_n 0, 1) by decide +kernel) 0 rfl ?_
    refine y_iload_n (show decode cX12_sure 9 = .ok (.iload_n 2, 1) by decide +kernel) 2 rfl ?_
    obtain ⟨r5, e4, h⟩ := bndO_some h
    refine y_callV (np := 1) (st := []) (as := [.inl b]) 92 12 (sh_mo_isPlace e4) q8_11 q8_8 q8_10 qs6_5 q1_15 (by decide) rfl (by decide) rfl (by decide) (by decide +kernel) (by decide) rfl (Nat.le_of_ble_eq_true rfl) (show decode cX12_sure 10 = .ok (.invokevirtual 448, 3) by decide +kernel) rfl ?_
    by_cases c6 : r5 = 0
    · rw [if_pos c6] at h
      refine y_if_eq_t (tgt := 33) (show decode cX12_sure 13 = .ok (.ifCond .eq 20, 3) by decide +kernel) rfl c6 ?_
      refine y_iconst (show decode cX12_sure 33 = .ok (.iconst (-1), 1) by decide +kernel) rfl ?_
      cases h
      exact y_iret (show decode cX12_sure 34 = .ok (.ireturn, 1) by decide +kernel) rfl
    · rw [if_neg c6] at h
      refine y_if_eq_f (show decode cX12_sure 13 = .ok (.ifCond .eq 20, 3) by decide +kernel) c6 (by decide) ?_
      refine y_iload_n (show decode cX12_sure 16 = .ok (.iload_n 3, 1) by decide +kernel) 3 rfl ?_
      refine y_iconst (show decode cX12_sure 17 = .ok (.iconst 1, 1) by decide +kernel) rfl ?_
      refine y_aload_n (show decode cX12_sure 18 = .ok (.aload_n 0, 1) by decide +kernel) 0 rfl ?_
      refine y_getf 92 12 17 39 (by decide) rfl (by decide) (by decide) q6_64 (show decode cX12_sure 19 = .ok (.getfield 39, 3) by decide +kernel) (v := .inr (.inr (101 + 1))) rfl ?_
      refine y_aload_n (show decode cX12_sure 22 = .ok (.aload_n 0, 1) by decide +kernel) 0 rfl ?_
      refine y_getf 92 12 40 311 (by decide) rfl (by decide) (by decide) q6_87 (show decode cX12_sure 23 = .ok (.getfield 311, 3) by decide +kernel) (v := .inl (σ 92 40)) rfl ?_
      obtain ⟨c7, h⟩ := chkA_some h
      refine yo_iald 101 2 (by decide) rfl c7 (ov_at rfl) (show decode cX12_sure 26 = .ok (.iaload, 1) by decide +kernel) ?_
      obtain ⟨r9, e8, h⟩ := bndO_some h
      refine y_callS (np := 3) (st := []) (as := [.inl c, .inl 1, .inl (σ 101 ((σ 92 40)).toNat)]) (sh_mo_isIn e8) q8_18 q8_16 q8_17 q1_15 (by decide) (by decide +kernel) (by decide) rfl (Nat.le_of_ble_eq_true rfl) (show decode cX12_sure 27 = .ok (.invokestatic 414, 3) by decide +kernel) rfl ?_
      by_cases c10 : ¬ r9 = 0
      · rw [if_pos c10] at h
        refine y_if_ne_t (tgt := 35) (show decode cX12_sure 30 = .ok (.ifCond .ne 5, 3) by decide +kernel) rfl c10 ?_
        refine y_aload_n (show decode cX12_sure 35 = .ok (.aload_n 0, 1) by decide +kernel) 0 rfl ?_
        refine y_iconst (show decode cX12_sure 36 = .ok (.iconst 1, 1) by decide +kernel) rfl ?_
        refine y_iload (show decode cX12_sure 37 = .ok (.iload 4, 2) by decide +kernel) 4 rfl ?_
        obtain ⟨σ12, e11, h⟩ := bndO_some h
        refine y_callV (np := 2) (st := []) (as := [.inl 1, .inl d]) 92 12 (sh_mo_findAll e11) q8_137 q8_134 q8_136 qs7_10 q1_15 (by decide) rfl (by decide) rfl (by decide) (by decide +kernel) (by decide) rfl (Nat.le_of_ble_eq_true rfl) (show decode cX12_sure 39 = .ok (.invokevirtual 520, 3) by decide +kernel) rfl ?_
        refine y_iconst (show decode cX12_sure 42 = .ok (.iconst 0, 1) by decide +kernel) rfl ?_
        refine y_istore (show decode cX12_sure 43 = .ok (.istore 5, 2) by decide +kernel) rfl (L1 := [(5, .inl 0), (0, .inr (.inr (92 + 1))), (1, .inl a), (2, .inl b), (3, .inl c), (4, .inl d)]) rfl ?_
        refine y_iconst (show decode cX12_sure 45 = .ok (.iconst 0, 1) by decide +kernel) rfl ?_
        refine y_istore (show decode cX12_sure 46 = .ok (.istore 6, 2) by decide +kernel) rfl (L1 := [(6, .inl 0), (5, .inl 0), (0, .inr (.inr (92 + 1))), (1, .inl a), (2, .inl b), (3, .inl c), (4, .inl d)]) rfl ?_
        refine y_iconst (show decode cX12_sure 48 = .ok (.iconst 0, 1) by decide +kernel) rfl ?_
        refine y_istore (show decode cX12_sure 49 = .ok (.istore 7, 2) by decide +kernel) rfl (L1 := [(7, .inl 0), (6, .inl 0), (5, .inl 0), (0, .inr (.inr (92 + 1))), (1, .inl a), (2, .inl b), (3, .inl c), (4, .inl d)]) rfl ?_
        refine y_pick [3, 4, 5, 6, 2, 1, 0] rfl ?_
        refine loopS3_ind (P := fun x13 x14 x15 σ16 => Y E MX12_sure (yRm 5 0 0) (yQf E (150 + 0) 0 0 (some (.inl ρ)) (ov τ)) 51 [(0, .inr (.inr (92 + 1))), (1, .inl a), (2, .inl b), (3, .inl c), (5, .inl x13), (6, .inl x14), (7, .inl x15)] [] (ov σ16) 150 0 0) (fun k17 hk17 x13 x14 x15 σ16 h => ?_) _ _ _ _ _  h
        refine y_iload (show decode cX12_sure 51 = .ok (.iload 7, 2) by decide +kernel) 6 rfl ?_
        refine y_aload_n (show decode cX12_sure 53 = .ok (.aload_n 0, 1) by decide +kernel) 0 rfl ?_
        obtain ⟨r19, e18, h⟩ := bndO_some h
        refine y_callV (np := 0) (st := [.inl x15]) (as := []) 92 12 (sh_mo_stateMany e18) q8_57 q8_54 q8_56 qs6_12 q1_15 (by decide) rfl (by decide) rfl (by decide) (by decide +kernel) (by decide) rfl (Nat.le_of_ble_eq_true rfl) (show decode cX12_sure 54 = .ok (.invokevirtual 474, 3) by decide +kernel) rfl ?_
        by_cases c20 : x15 ≥ r19
        · rw [if_pos c20] at h
          refine y_icmp_ge_t (tgt := 125) (show decode cX12_sure 57 = .ok (.if_icmp .ge 68, 3) by decide +kernel) rfl c20 ?_
          refine y_iload (show decode cX12_sure 125 = .ok (.iload 5, 2) by decide +kernel) 4 rfl ?_
          by_cases c21 : ¬ x13 = 0
          · rw [if_pos c21] at h
            refine y_if_ne_t (tgt := 134) (show decode cX12_sure 127 = .ok (.ifCond .ne 7, 3) by decide +kernel) rfl c21 ?_
            refine y_iload (show decode cX12_sure 134 = .ok (.iload 6, 2) by decide +kernel) 5 rfl ?_
            by_cases c22 : ¬ x14 = 0
            · rw [if_pos c22] at h
              refine y_if_ne_t (tgt := 143) (show decode cX12_sure 136 = .ok (.ifCond .ne 7, 3) by decide +kernel) rfl c22 ?_
              refine y_iconst (show decode cX12_sure 143 = .ok (.iconst 1, 1) by decide +kernel) rfl ?_
              cases h
              exact y_iret (show decode cX12_sure 144 = .ok (.ireturn, 1) by decide +kernel) rfl
            · rw [if_neg c22] at h
              refine y_if_ne_f (show decode cX12_sure 136 = .ok (.ifCond .ne 7, 3) by decide +kernel) c22 (by decide) ?_
              refine y_iconst (show decode cX12_sure 139 = .ok (.iconst 2, 1) by decide +kernel) rfl ?_
              refine y_goto (tgt := 144) (show decode cX12_sure 140 = .ok (.goto 4, 3) by decide +kernel) rfl ?_
              cases h
              exact y_iret (show decode cX12_sure 144 = .ok (.ireturn, 1) by decide +kernel) rfl
          · rw [if_neg c21] at h
            refine y_if_ne_f (show decode cX12_sure 127 = .ok (.ifCond .ne 7, 3) by decide +kernel) c21 (by decide) ?_
            refine y_iconst (show decode cX12_sure 130 = .ok (.iconst 0, 1) by decide +kernel) rfl ?_
            refine y_goto (tgt := 144) (show decode cX12_sure 131 = .ok (.goto 13, 3) by decide +kernel) rfl ?_
            cases h
            exact y_iret (show decode cX12_sure 144 = .ok (.ireturn, 1) by decide +kernel) rfl
        · rw [if_neg c20] at h
          refine y_icmp_ge_f (show decode cX12_sure 57 = .ok (.if_icmp .ge 68, 3) by decide +kernel) c20 (by decide) ?_
          refine y_aload_n (show decode cX12_sure 60 = .ok (.aload_n 0, 1) by decide +kernel) 0 rfl ?_
          refine y_iload_n (show decode cX12_sure 61 = .ok (.iload_n 3, 1) by decide +kernel) 3 rfl ?_
          refine y_iload (show decode cX12_sure 62 = .ok (.iload 7, 2) by decide +kernel) 6 rfl ?_
          obtain ⟨r24, e23, h⟩ := bndO_some h
          refine y_callV (np := 2) (st := []) (as := [.inl c, .inl x15]) 92 12 (sh_mo_canBe e23) q8_153 q8_150 q8_152 qs7_14 q1_15 (by decide) rfl (by decide) rfl (by decide) (by decide +kernel) (by decide) rfl (Nat.le_of_ble_eq_true rfl) (show decode cX12_sure 64 = .ok (.invokevirtual 524, 3) by decide +kernel) rfl ?_
          refine bnd_j (Q := fun j28 => ∀ (y25 : Int) (y26 : Int) (σ27 : ySt), j28 y25 y26 σ27 = some (ρ, τ) → Y E MX12_sure (yRm 5 0 0) (yQf E (150 + 0) 0 0 (some (.inl ρ)) (ov τ)) 119 [(0, .inr (.inr (92 + 1))), (1, .inl a), (2, .inl b), (3, .inl c), (5, .inl y25), (6, .inl y26), (7, .inl x15)] [] (ov σ27) 150 0 0) (fun y25 y26 σ27 h => ?_) (fun j28 hj28 h => ?_) h
          · dsimp only at h
            obtain ⟨c29, h⟩ := chkI_some h
            refine y_iinc (show decode cX12_sure 119 = .ok (.iinc 7 1, 3) by decide +kernel) 6 rfl c29 rfl (L1 := [(7, .inl (x15 + 1)), (0, .inr (.inr (92 + 1))), (1, .inl a), (2, .inl b), (3, .inl c), (5, .inl y25), (6, .inl y26)]) rfl ?_
            refine y_goto (tgt := 51) (show decode cX12_sure 122 = .ok (.goto (-71), 3) by decide +kernel) rfl ?_
            refine y_pick [1, 2, 3, 4, 5, 6, 0] rfl ?_
            exact hk17 _ _ _ _ h
          by_cases c30 : ¬ r24 = 0
          · rw [if_pos c30] at h
            refine y_if_ne_t (tgt := 73) (show decode cX12_sure 67 = .ok (.ifCond .ne 6, 3) by decide +kernel) rfl c30 ?_
            refine y_aload_n (show decode cX12_sure 73 = .ok (.aload_n 0, 1) by decide +kernel) 0 rfl ?_
            refine y_iload (show decode cX12_sure 74 = .ok (.iload 7, 2) by decide +kernel) 6 rfl ?_
            obtain ⟨σ32, e31, h⟩ := bndO_some h
            refine y_callV (np := 1) (st := []) (as := [.inl x15]) 92 12 (sh_mo_layState e31) q8_65 q8_62 q8_64 qs6_14 q1_15 (by decide) rfl (by decide) rfl (by decide) (by decide +kernel) (by decide) rfl (Nat.le_of_ble_eq_true rfl) (show decode cX12_sure 76 = .ok (.invokevirtual 480, 3) by decide +kernel) rfl ?_
            refine y_iload (show decode cX12_sure 79 = .ok (.iload 5, 2) by decide +kernel) 4 rfl ?_
            refine y_aload_n (show decode cX12_sure 81 = .ok (.aload_n 0, 1) by decide +kernel) 0 rfl ?_
            refine y_getf 92 12 56 116 (by decide) rfl (by decide) (by decide) q6_103 (show decode cX12_sure 82 = .ok (.getfield 116, 3) by decide +kernel) (v := .inr (.inr (126 + 1))) rfl ?_
            refine y_iload_n (show decode cX12_sure 85 = .ok (.iload_n 1, 1) by decide +kernel) 1 rfl ?_
            obtain ⟨c33, h⟩ := chkA_some h
            refine yo_iald 126 5 (by decide) rfl c33 (ov_at rfl) (show decode cX12_sure 86 = .ok (.iaload, 1) by decide +kernel) ?_
            refine y_iload_n (show decode cX12_sure 87 = .ok (.iload_n 2, 1) by decide +kernel) 2 rfl ?_
            refine bnd_j (Q := fun j35 => ∀ (y34 : Int), j35 y34 = some (ρ, τ) → Y E MX12_sure (yRm 5 0 0) (yQf E (150 + 0) 0 0 (some (.inl ρ)) (ov τ)) 96 [(0, .inr (.inr (92 + 1))), (1, .inl a), (2, .inl b), (3, .inl c), (6, .inl x14), (7, .inl x15)] [.inl y34, .inl x13] (ov σ32) 150 0 0) (fun y34 h => ?_) (fun j35 hj35 h => ?_) h
            · dsimp only at h
              obtain ⟨c36, h⟩ := chkI_some h
              refine y_iadd (show decode cX12_sure 96 = .ok (.iadd, 1) by decide +kernel) c36 ?_
              refine y_istore (show decode cX12_sure 97 = .ok (.istore 5, 2) by decide +kernel) rfl (L1 := [(5, .inl (x13 + y34)), (0, .inr (.inr (92 + 1))), (1, .inl a), (2, .inl b), (3, .inl c), (6, .inl x14), (7, .inl x15)]) rfl ?_
              refine y_iload (show decode cX12_sure 99 = .ok (.iload 6, 2) by decide +kernel) 5 rfl ?_
              refine y_aload_n (show decode cX12_sure 101 = .ok (.aload_n 0, 1) by decide +kernel) 1 rfl ?_
              refine y_getf 92 12 56 116 (by decide) rfl (by decide) (by decide) q6_103 (show decode cX12_sure 102 = .ok (.getfield 116, 3) by decide +kernel) (v := .inr (.inr (126 + 1))) rfl ?_
              refine y_iload_n (show decode cX12_sure 105 = .ok (.iload_n 1, 1) by decide +kernel) 2 rfl ?_
              obtain ⟨c37, h⟩ := chkA_some h
              refine yo_iald 126 5 (by decide) rfl c37 (ov_at rfl) (show decode cX12_sure 106 = .ok (.iaload, 1) by decide +kernel) ?_
              refine y_iload_n (show decode cX12_sure 107 = .ok (.iload_n 2, 1) by decide +kernel) 3 rfl ?_
              refine bnd_j (Q := fun j39 => ∀ (y38 : Int), j39 y38 = some (ρ, τ) → Y E MX12_sure (yRm 5 0 0) (yQf E (150 + 0) 0 0 (some (.inl ρ)) (ov τ)) 116 [(0, .inr (.inr (92 + 1))), (1, .inl a), (2, .inl b), (3, .inl c), (5, .inl (x13 + y34)), (7, .inl x15)] [.inl y38, .inl x14] (ov σ32) 150 0 0) (fun y38 h => ?_) (fun j39 hj39 h => ?_) h
              · dsimp only at h
                obtain ⟨c40, h⟩ := chkI_some h
                refine y_iadd (show decode cX12_sure 116 = .ok (.iadd, 1) by decide +kernel) c40 ?_
                refine y_istore (show decode cX12_sure 117 = .ok (.istore 6, 2) by decide +kernel) rfl (L1 := [(6, .inl (x14 + y38)), (0, .inr (.inr (92 + 1))), (1, .inl a), (2, .inl b), (3, .inl c), (5, .inl (x13 + y34)), (7, .inl x15)]) rfl ?_
                refine y_pick [1, 2, 3, 4, 5, 0, 6] rfl ?_
                exact hj28 _ _ _ h
              by_cases c41 : ¬ (σ32 126 (a).toNat) = b
              · rw [if_pos c41] at h
                refine y_icmp_ne_t (tgt := 115) (show decode cX12_sure 108 = .ok (.if_icmp .ne 7, 3) by decide +kernel) rfl c41 ?_
                refine y_iconst (show decode cX12_sure 115 = .ok (.iconst 1, 1) by decide +kernel) rfl ?_
                refine y_pick [1, 2, 3, 4, 0, 6] rfl ?_
                exact hj39 _ h
              · rw [if_neg c41] at h
                refine y_icmp_ne_f (show decode cX12_sure 108 = .ok (.if_icmp .ne 7, 3) by decide +kernel) c41 (by decide) ?_
                refine y_iconst (show decode cX12_sure 111 = .ok (.iconst 0, 1) by decide +kernel) rfl ?_
                refine y_goto (tgt := 116) (show decode cX12_sure 112 = .ok (.goto 4, 3) by decide +kernel) rfl ?_
                refine y_pick [1, 2, 3, 4, 0, 6] rfl ?_
                exact hj39 _ h
            by_cases c42 : ¬ (σ32 126 (a).toNat) = b
            · rw [if_pos c42] at h
              refine y_icmp_ne_t (tgt := 95) (show decode cX12_sure 88 = .ok (.if_icmp .ne 7, 3) by decide +kernel) rfl c42 ?_
              refine y_iconst (show decode cX12_sure 95 = .ok (.iconst 0, 1) by decide +kernel) rfl ?_
              refine y_pick [0, 1, 2, 3, 5, 6] rfl ?_
              exact hj35 _ h
            · rw [if_neg c42] at h
              refine y_icmp_ne_f (show decode cX12_sure 88 = .ok (.if_icmp .ne 7, 3) by decide +kernel) c42 (by decide) ?_
              refine y_iconst (show decode cX12_sure 91 = .ok (.iconst 1, 1) by decide +kernel) rfl ?_
              refine y_goto (tgt := 96) (show decode cX12_sure 92 = .ok (.goto 4, 3) by decide +kernel) rfl ?_
              refine y_pick [0, 1, 2, 3, 5, 6] rfl ?_
              exact hj35 _ h
          · rw [if_neg c30] at h
            refine y_if_ne_f (show decode cX12_sure 67 = .ok (.ifCond .ne 6, 3) by decide +kernel) c30 (by decide) ?_
            refine y_goto (tgt := 119) (show decode cX12_sure 70 = .ok (.goto 49, 3) by decide +kernel) rfl ?_
            refine y_pick [0, 1, 2, 3, 4, 5, 6] rfl ?_
            exact hj28 _ _ _ h
      · rw [if_neg c10] at h
        refine y_if_ne_f (show decode cX12_sure 30 = .ok (.ifCond .ne 5, 3) by decide +kernel) c10 (by decide) ?_
        refine y_iconst (show decode cX12_sure 33 = .ok (.iconst (-1), 1) by decide +kernel) rfl ?_
        cases h
        exact y_iret (show decode cX12_sure 34 = .ok (.ireturn, 1) by decide +kernel) rfl
