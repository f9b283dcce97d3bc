abbrev MX1_knownAt : yM := (yX1_knownAt, cX1_knownAt, 6, some .long)
def cCt_knownAt (N : Nat) (a : Int) (σ : ySt) : Option (Int) :=
  loop2 (fun k3 x1 x2 =>
    if x2 ≥ (σ 3 5) then
      some x1
    else
      chkA 40 x2 <|
      bnd (fun (y6 : Int) =>
        chkA 40 x2 <|
        bnd (fun (y9 : Int) =>
          chkI (x2 + 1) <|
          k3 y9 (x2 + 1)) fun j10 =>
        if (σ 7 (x2).toNat) > a then
          j10 x1
        else
          if ¬ y6 = 0 then
            j10 x1
          else
            j10 (b64or x1 (b64shl 1 x2))) fun j7 =>
      if (σ 8 (x2).toNat) = (-1) then
        j7 0
      else
        chkA 40 x2 <|
        if (σ 8 (x2).toNat) > a then
          j7 0
        else
          j7 1) N 0 0
set_option maxHeartbeats 4000000 in
set_option maxRecDepth 10000 in
theorem sh_cCt_knownAt {E : yE} {N : Nat} {a : Int} {σ : ySt} {ρ : Int} (h : cCt_knownAt N a σ = some ρ) : Con E MX1_knownAt 0 0 0 [.inr (.inr (3 + 1)), .inl a] 150 (ov σ) (some (.inr (.inl ρ))) (ov σ) := by
  unfold cCt_knownAt at h
  refine Con.ofY (by decide +kernel) (by simp [yWords, yCat]) (fun hok _ => ?_)
  show Y E MX1_knownAt (yRm 0 0 0) (yQf E (150 + 0) 0 0 (some (.inr (.inl ρ))) (ov σ)) 0 [(0, .inr (.inr (3 + 1))), (1, .inl a)] [] (ov σ) 150 0 0
  refine y_lconst (z := 0) (show decode cX1_knownAt 0 = .ok (.lconst 0, 1) by decide +kernel) rfl rfl ?_
  refine y_lstore_n (show decode cX1_knownAt 1 = .ok (.lstore_n 2, 1) by decide +kernel) rfl (L1 := [(2, .inr (.inl 0)), (0, .inr (.inr (3 + 1))), (1, .inl a)]) rfl ?_
  refine y_iconst (show decode cX1_knownAt 2 = .ok (.iconst 0, 1) by decide +kernel) rfl ?_
  refine y_istore (show decode cX1_knownAt 3 = .ok (.istore 4, 2) by decide +kernel) rfl (L1 := [(4, .inl 0), (2, .inr (.inl 0)), (0, .inr (.inr (3 + 1))), (1, .inl a)]) rfl ?_
  refine y_pick [2, 3, 1, 0] rfl ?_
  refine loop2_ind (P := fun x1 x2 => Y E MX1_knownAt (yRm 0 0 0) (yQf E (150 + 0) 0 0 (some (.inr (.inl ρ))) (ov σ)) 5 [(0, .inr (.inr (3 + 1))), (1, .inl a), (2, .inr (.inl x1)), (4, .inl x2)] [] (ov σ) 150 0 0) (fun k3 hk3 x1 x2 h => ?_) _ _ _  h
  refine y_iload (show decode cX1_knownAt 5 = .ok (.iload 4, 2) by decide +kernel) 3 rfl ?_
  refine y_aload_n (show decode cX1_knownAt 7 = .ok (.aload_n 0, 1) by decide +kernel) 0 rfl ?_
  refine y_getf 3 1 5 27 (by decide) rfl (by decide) (by decide) q1_85 (show decode cX1_knownAt 8 = .ok (.getfield 27, 3) by decide +kernel) (v := .inl (σ 3 5)) rfl ?_
  by_cases c4 : x2 ≥ (σ 3 5)
  · rw [if_pos c4] at h
    refine y_icmp_ge_t (tgt := 72) (show decode cX1_knownAt 11 = .ok (.if_icmp .ge 61, 3) by decide +kernel) rfl c4 ?_
    refine y_lload_n (show decode cX1_knownAt 72 = .ok (.lload_n 2, 1) by decide +kernel) 2 rfl ?_
    cases h
    exact y_lret (show decode cX1_knownAt 73 = .ok (.lreturn, 1) by decide +kernel) rfl
  · rw [if_neg c4] at h
    refine y_icmp_ge_f (show decode cX1_knownAt 11 = .ok (.if_icmp .ge 61, 3) by decide +kernel) c4 (by decide) ?_
    refine y_aload_n (show decode cX1_knownAt 14 = .ok (.aload_n 0, 1) by decide +kernel) 0 rfl ?_
    refine y_getf 3 1 4 24 (by decide) rfl (by decide) (by decide) q1_84 (show decode cX1_knownAt 15 = .ok (.getfield 24, 3) by decide +kernel) (v := .inr (.inr (8 + 1))) rfl ?_
    refine y_iload (show decode cX1_knownAt 18 = .ok (.iload 4, 2) by decide +kernel) 3 rfl ?_
    obtain ⟨c5, h⟩ := chkA_some h
    refine yo_iald 8 40 (by decide) rfl c5 (ov_at rfl) (show decode cX1_knownAt 20 = .ok (.iaload, 1) by decide +kernel) ?_
    refine y_iconst (show decode cX1_knownAt 21 = .ok (.iconst (-1), 1) by decide +kernel) rfl ?_
    refine bnd_j (Q := fun j7 => ∀ (y6 : Int), j7 y6 = some ρ → Y E MX1_knownAt (yRm 0 0 0) (yQf E (150 + 0) 0 0 (some (.inr (.inl ρ))) (ov σ)) 41 [(0, .inr (.inr (3 + 1))), (1, .inl a), (2, .inr (.inl x1)), (4, .inl x2)] [.inl y6] (ov σ) 150 0 0) (fun y6 h => ?_) (fun j7 hj7 h => ?_) h
    · dsimp only at h
      refine y_istore (show decode cX1_knownAt 41 = .ok (.istore 5, 2) by decide +kernel) rfl (L1 := [(5, .inl y6), (0, .inr (.inr (3 + 1))), (1, .inl a), (2, .inr (.inl x1)), (4, .inl x2)]) rfl ?_
      refine y_aload_n (show decode cX1_knownAt 43 = .ok (.aload_n 0, 1) by decide +kernel) 1 rfl ?_
      refine y_getf 3 1 3 21 (by decide) rfl (by decide) (by decide) q1_83 (show decode cX1_knownAt 44 = .ok (.getfield 21, 3) by decide +kernel) (v := .inr (.inr (7 + 1))) rfl ?_
      refine y_iload (show decode cX1_knownAt 47 = .ok (.iload 4, 2) by decide +kernel) 4 rfl ?_
      obtain ⟨c8, h⟩ := chkA_some h
      refine yo_iald 7 40 (by decide) rfl c8 (ov_at rfl) (show decode cX1_knownAt 49 = .ok (.iaload, 1) by decide +kernel) ?_
      refine y_iload_n (show decode cX1_knownAt 50 = .ok (.iload_n 1, 1) by decide +kernel) 2 rfl ?_
      refine bnd_j (Q := fun j10 => ∀ (y9 : Int), j10 y9 = some ρ → Y E MX1_knownAt (yRm 0 0 0) (yQf E (150 + 0) 0 0 (some (.inr (.inl ρ))) (ov σ)) 66 [(0, .inr (.inr (3 + 1))), (1, .inl a), (2, .inr (.inl y9)), (4, .inl x2)] [] (ov σ) 150 0 0) (fun y9 h => ?_) (fun j10 hj10 h => ?_) h
      · dsimp only at h
        obtain ⟨c11, h⟩ := chkI_some h
        refine y_iinc (show decode cX1_knownAt 66 = .ok (.iinc 4 1, 3) by decide +kernel) 3 rfl c11 rfl (L1 := [(4, .inl (x2 + 1)), (0, .inr (.inr (3 + 1))), (1, .inl a), (2, .inr (.inl y9))]) rfl ?_
        refine y_goto (tgt := 5) (show decode cX1_knownAt 69 = .ok (.goto (-64), 3) by decide +kernel) rfl ?_
        refine y_pick [1, 2, 3, 0] rfl ?_
        exact hk3 _ _ h
      by_cases c12 : (σ 7 (x2).toNat) > a
      · rw [if_pos c12] at h
        refine y_icmp_gt_t (tgt := 66) (show decode cX1_knownAt 51 = .ok (.if_icmp .gt 15, 3) by decide +kernel) rfl c12 ?_
        refine y_pick [1, 2, 3, 4] rfl ?_
        exact hj10 _ h
      · rw [if_neg c12] at h
        refine y_icmp_gt_f (show decode cX1_knownAt 51 = .ok (.if_icmp .gt 15, 3) by decide +kernel) c12 (by decide) ?_
        refine y_iload (show decode cX1_knownAt 54 = .ok (.iload 5, 2) by decide +kernel) 0 rfl ?_
        by_cases c13 : ¬ y6 = 0
        · rw [if_pos c13] at h
          refine y_if_ne_t (tgt := 66) (show decode cX1_knownAt 56 = .ok (.ifCond .ne 10, 3) by decide +kernel) rfl c13 ?_
          refine y_pick [1, 2, 3, 4] rfl ?_
          exact hj10 _ h
        · rw [if_neg c13] at h
          refine y_if_ne_f (show decode cX1_knownAt 56 = .ok (.ifCond .ne 10, 3) by decide +kernel) c13 (by decide) ?_
          refine y_lload_n (show decode cX1_knownAt 59 = .ok (.lload_n 2, 1) by decide +kernel) 3 rfl ?_
          refine y_lconst (z := 1) (show decode cX1_knownAt 60 = .ok (.lconst 1, 1) by decide +kernel) rfl rfl ?_
          refine y_iload (show decode cX1_knownAt 61 = .ok (.iload 4, 2) by decide +kernel) 4 rfl ?_
          refine y_lshl (show decode cX1_knownAt 63 = .ok (.lshl, 1) by decide +kernel) ?_
          refine y_lor (show decode cX1_knownAt 64 = .ok (.lor, 1) by decide +kernel) ?_
          refine y_lstore_n (show decode cX1_knownAt 65 = .ok (.lstore_n 2, 1) by decide +kernel) rfl (L1 := [(2, .inr (.inl (b64or x1 (b64shl 1 x2)))), (5, .inl y6), (0, .inr (.inr (3 + 1))), (1, .inl a), (4, .inl x2)]) rfl ?_
          refine y_pick [2, 3, 0, 4] rfl ?_
          exact hj10 _ h
    by_cases c14 : (σ 8 (x2).toNat) = (-1)
    · rw [if_pos c14] at h
      refine y_icmp_eq_t (tgt := 40) (show decode cX1_knownAt 22 = .ok (.if_icmp .eq 18, 3) by decide +kernel) rfl c14 ?_
      refine y_iconst (show decode cX1_knownAt 40 = .ok (.iconst 0, 1) by decide +kernel) rfl ?_
      refine y_pick [0, 1, 2, 3] rfl ?_
      exact hj7 _ h
    · rw [if_neg c14] at h
      refine y_icmp_eq_f (show decode cX1_knownAt 22 = .ok (.if_icmp .eq 18, 3) by decide +kernel) c14 (by decide) ?_
      refine y_aload_n (show decode cX1_knownAt 25 = .ok (.aload_n 0, 1) by decide +kernel) 0 rfl ?_
      refine y_getf 3 1 4 24 (by decide) rfl (by decide) (by decide) q1_84 (show decode cX1_knownAt 26 = .ok (.getfield 24, 3) by decide +kernel) (v := .inr (.inr (8 + 1))) rfl ?_
      refine y_iload (show decode cX1_knownAt 29 = .ok (.iload 4, 2) by decide +kernel) 3 rfl ?_
      obtain ⟨c15, h⟩ := chkA_some h
      refine yo_iald 8 40 (by decide) rfl c15 (ov_at rfl) (show decode cX1_knownAt 31 = .ok (.iaload, 1) by decide +kernel) ?_
      refine y_iload_n (show decode cX1_knownAt 32 = .ok (.iload_n 1, 1) by decide +kernel) 1 rfl ?_
      by_cases c16 : (σ 8 (x2).toNat) > a
      · rw [if_pos c16] at h
        refine y_icmp_gt_t (tgt := 40) (show decode cX1_knownAt 33 = .ok (.if_icmp .gt 7, 3) by decide +kernel) rfl c16 ?_
        refine y_iconst (show decode cX1_knownAt 40 = .ok (.iconst 0, 1) by decide +kernel) rfl ?_
        refine y_pick [0, 1, 2, 3] rfl ?_
        exact hj7 _ h
      · rw [if_neg c16] at h
        refine y_icmp_gt_f (show decode cX1_knownAt 33 = .ok (.if_icmp .gt 7, 3) by decide +kernel) c16 (by decide) ?_
        refine y_iconst (show decode cX1_knownAt 36 = .ok (.iconst 1, 1) by decide +kernel) rfl ?_
        refine y_goto (tgt := 41) (show decode cX1_knownAt 37 = .ok (.goto 4, 3) by decide +kernel) rfl ?_
        refine y_pick [0, 1, 2, 3] rfl ?_
        exact hj7 _ h
abbrev MX0_statesAt : yM := (yX0_statesAt, cX0_statesAt, 6, some .int)
def cAn_statesAt (N : Nat) (a : Int) (c : Int) (σ : ySt) : Option (Int × ySt) :=
  bndO (cCt_knownAt N c σ) fun r2 =>
  bndO (cAn_findAlive N r2 σ) fun σ4 =>
  loop2 (fun k7 x5 x6 =>
    if x6 ≥ (σ4 78 3) then
      some (x5, σ4)
    else
      chkA 7776 x6 <|
      chkI (x5 + (b32and (b32shr (σ4 77 (x6).toNat) a) 1)) <|
      chkI (x6 + 1) <|
      k7 (x5 + (b32and (b32shr (σ4 77 (x6).toNat) a) 1)) (x6 + 1)) N 0 0
set_option maxHeartbeats 4000000 in
set_option maxRecDepth 10000 in
theorem sh_cAn_statesAt {E : yE} {N : Nat} {a : Int} {c : Int} {σ : ySt} {ρ : Int} {τ : ySt} (h : cAn_statesAt N a c σ = some (ρ, τ)) : Con E MX0_statesAt 6 0 0 [.inr (.inr (58 + 1)), .inl a, .inr (.inr (3 + 1)), .inl c] 150 (ov σ) (some (.inl ρ)) (ov τ) := by
  unfold cAn_statesAt at h
  refine Con.ofY (by decide +kernel) (by simp [yWords, yCat]) (fun hok _ => ?_)
  show Y E MX0_statesAt (yRm 6 0 0) (yQf E (150 + 0) 0 0 (some (.inl ρ)) (ov τ)) 0 [(0, .inr (.inr (58 + 1))), (1, .inl a), (2, .inr (.inr (3 + 1))), (3, .inl c)] [] (ov σ) 150 0 0
  refine y_aload_n (show decode cX0_statesAt 0 = .ok (.aload_n 0, 1) by decide +kernel) 0 rfl ?_
  refine y_aload_n (show decode cX0_statesAt 1 = .ok (.aload_n 2, 1) by decide +kernel) 2 rfl ?_
  refine y_aload_n (show decode cX0_statesAt 2 = .ok (.aload_n 2, 1) by decide +kernel) 2 rfl ?_
  refine y_iload_n (show decode cX0_statesAt 3 = .ok (.iload_n 3, 1) by decide +kernel) 3 rfl ?_
  obtain ⟨r2, e1, h⟩ := bndO_some h
  refine y_callV (np := 1) (st := [.inr (.inr (3 + 1)), .inr (.inr (58 + 1))]) (as := [.inl c]) 3 1 (sh_cCt_knownAt e1) q5_238 q5_235 q5_236 q5_237 q1_3 (by decide) rfl (by decide) rfl (by decide) (by decide +kernel) (by decide) rfl (Nat.le_of_ble_eq_true rfl) (show decode cX0_statesAt 4 = .ok (.invokevirtual 147, 3) by decide +kernel) rfl ?_
  obtain ⟨σ4, e3, h⟩ := bndO_some h
  refine y_callV (np := 2) (st := []) (as := [.inr (.inr (3 + 1)), .inr (.inl r2)]) 58 0 (sh_cAn_findAlive e3) q5_155 q5_152 q5_154 qs3_13 q1_12 (by decide) rfl (by decide) rfl (by decide) (by decide +kernel) (by decide) rfl (Nat.le_of_ble_eq_true rfl) (show decode cX0_statesAt 7 = .ok (.invokevirtual 133, 3) by decide +kernel) rfl ?_
  refine y_iconst (show decode cX0_statesAt 10 = .ok (.iconst 0, 1) by decide +kernel) rfl ?_
  refine y_istore (show decode cX0_statesAt 11 = .ok (.istore 4, 2) by decide +kernel) rfl (L1 := [(4, .inl 0), (0, .inr (.inr (58 + 1))), (1, .inl a), (2, .inr (.inr (3 + 1))), (3, .inl c)]) rfl ?_
  refine y_iconst (show decode cX0_statesAt 13 = .ok (.iconst 0, 1) by decide +kernel) rfl ?_
  refine y_istore (show decode cX0_statesAt 14 = .ok (.istore 5, 2) by decide +kernel) rfl (L1 := [(5, .inl 0), (4, .inl 0), (0, .inr (.inr (58 + 1))), (1, .inl a), (2, .inr (.inr (3 + 1))), (3, .inl c)]) rfl ?_
  refine y_pick [2, 3, 1, 0] rfl ?_
  refine loop2_ind (P := fun x5 x6 => Y E MX0_statesAt (yRm 6 0 0) (yQf E (150 + 0) 0 0 (some (.inl ρ)) (ov τ)) 16 [(0, .inr (.inr (58 + 1))), (1, .inl a), (4, .inl x5), (5, .inl x6)] [] (ov σ4) 150 0 0) (fun k7 hk7 x5 x6 h => ?_) _ _ _  h
  refine y_iload (show decode cX0_statesAt 16 = .ok (.iload 5, 2) by decide +kernel) 3 rfl ?_
  refine y_aload_n (show decode cX0_statesAt 18 = .ok (.aload_n 0, 1) by decide +kernel) 0 rfl ?_
  refine y_getf 58 0 1 61 (by decide) rfl (by decide) (by decide) q2_218 (show decode cX0_statesAt 19 = .ok (.getfield 61, 3) by decide +kernel) (v := .inr (.inr (78 + 1))) rfl ?_
  refine y_getf 78 2 3 137 (by decide) rfl (by decide) (by decide) q2_185 (show decode cX0_statesAt 22 = .ok (.getfield 137, 3) by decide +kernel) (v := .inl (σ4 78 3)) rfl ?_
  by_cases c8 : x6 ≥ (σ4 78 3)
  · rw [if_pos c8] at h
    refine y_icmp_ge_t (tgt := 50) (show decode cX0_statesAt 25 = .ok (.if_icmp .ge 25, 3) by decide +kernel) rfl c8 ?_
    refine y_iload (show decode cX0_statesAt 50 = .ok (.iload 4, 2) by decide +kernel) 2 rfl ?_
    cases h
    exact y_iret (show decode cX0_statesAt 52 = .ok (.ireturn, 1) by decide +kernel) rfl
  · rw [if_neg c8] at h
    refine y_icmp_ge_f (show decode cX0_statesAt 25 = .ok (.if_icmp .ge 25, 3) by decide +kernel) c8 (by decide) ?_
    refine y_iload (show decode cX0_statesAt 28 = .ok (.iload 4, 2) by decide +kernel) 2 rfl ?_
    refine y_aload_n (show decode cX0_statesAt 30 = .ok (.aload_n 0, 1) by decide +kernel) 0 rfl ?_
    refine y_getf 58 0 12 49 (by decide) rfl (by decide) (by decide) q2_233 (show decode cX0_statesAt 31 = .ok (.getfield 49, 3) by decide +kernel) (v := .inr (.inr (77 + 1))) rfl ?_
    refine y_iload (show decode cX0_statesAt 34 = .ok (.iload 5, 2) by decide +kernel) 3 rfl ?_
    obtain ⟨c9, h⟩ := chkA_some h
    refine yo_iald 77 7776 (by decide) rfl c9 (ov_at rfl) (show decode cX0_statesAt 36 = .ok (.iaload, 1) by decide +kernel) ?_
    refine y_iload_n (show decode cX0_statesAt 37 = .ok (.iload_n 1, 1) by decide +kernel) 1 rfl ?_
    refine y_ishr (show decode cX0_statesAt 38 = .ok (.ishr, 1) by decide +kernel) ?_
    refine y_iconst (show decode cX0_statesAt 39 = .ok (.iconst 1, 1) by decide +kernel) rfl ?_
    refine y_iand (show decode cX0_statesAt 40 = .ok (.iand, 1) by decide +kernel) ?_
    obtain ⟨c10, h⟩ := chkI_some h
    refine y_iadd (show decode cX0_statesAt 41 = .ok (.iadd, 1) by decide +kernel) c10 ?_
    refine y_istore (show decode cX0_statesAt 42 = .ok (.istore 4, 2) by decide +kernel) rfl (L1 := [(4, .inl (x5 + (b32and (b32shr (σ4 77 (x6).toNat) a) 1))), (0, .inr (.inr (58 + 1))), (1, .inl a), (5, .inl x6)]) rfl ?_
    obtain ⟨c11, h⟩ := chkI_some h
    refine y_iinc (show decode cX0_statesAt 44 = .ok (.iinc 5 1, 3) by decide +kernel) 3 rfl c11 rfl (L1 := [(5, .inl (x6 + 1)), (4, .inl (x5 + (b32and (b32shr (σ4 77 (x6).toNat) a) 1))), (0, .inr (.inr (58 + 1))), (1, .inl a)]) rfl ?_
    refine y_goto (tgt := 16) (show decode cX0_statesAt 47 = .ok (.goto (-31), 3) by decide +kernel) rfl ?_
    refine y_pick [2, 3, 1, 0] rfl ?_
    exact hk7 _ _ h
abbrev MX0_statesWith : yM := (yX0_statesWith, cX0_statesWith, 6, some .int)
def cAn_statesWith (N : Nat) (a : Int) (b : Int) (c : Int) (σ : ySt) : Option (Int) :=
  loop2 (fun k3 x1 x2 =>
    if x2 ≥ (σ 78 3) then
      some x1
    else
      bndO (cDy_placeIn x2 b σ) fun r6 =>
      bnd (fun (y7 : Int) =>
        chkI (x2 + 1) <|
        k3 y7 (x2 + 1)) fun j8 =>
      if ¬ r6 = c then
        j8 x1
      else
        chkA 7776 x2 <|
        chkI (x1 + (b32and (b32shr (σ 77 (x2).toNat) a) 1)) <|
        j8 (x1 + (b32and (b32shr (σ 77 (x2).toNat) a) 1))) N 0 0
set_option maxHeartbeats 4000000 in
set_option maxRecDepth 10000 in
theorem sh_cAn_statesWith {E : yE} {N : Nat} {a : Int} {b : Int} {c : Int} {σ : ySt} {ρ : Int} (h : cAn_statesWith N a b c σ = some ρ) : Con E MX0_statesWith 1 0 0 [.inr (.inr (58 + 1)), .inl a, .inl b, .inl c] 150 (ov σ) (some (.inl ρ)) (ov σ) := by
  unfold cAn_statesWith at h
  refine Con.ofY (by decide +kernel) (by simp [yWords, yCat]) (fun hok _ => ?_)
  show Y E MX0_statesWith (yRm 1 0 0) (yQf E (150 + 0) 0 0 (some (.inl ρ)) (ov σ)) 0 [(0, .inr (.inr (58 + 1))), (1, .inl a), (2, .inl b), (3, .inl c)] [] (ov σ) 150 0 0
  refine y_iconst (show decode cX0_statesWith 0 = .ok (.iconst 0, 1) by decide +kernel) rfl ?_
  refine y_istore (show decode cX0_statesWith 1 = .ok (.istore 4, 2) by decide +kernel) rfl (L1 := [(4, .inl 0), (0, .inr (.inr (58 + 1))), (1, .inl a), (2, .inl b), (3, .inl c)]) rfl ?_
  refine y_iconst (show decode cX0_statesWith 3 = .ok (.iconst 0, 1) by decide +kernel) rfl ?_
  refine y_istore (show decode cX0_statesWith 4 = .ok (.istore 5, 2) by decide +kernel) rfl (L1 := [(5, .inl 0), (4, .inl 0), (0, .inr (.inr (58 + 1))), (1, .inl a), (2, .inl b), (3, .inl c)]) rfl ?_
  refine y_pick [2, 3, 4, 5, 1, 0] rfl ?_
  refine loop2_ind (P := fun x1 x2 => Y E MX0_statesWith (yRm 1 0 0) (yQf E (150 + 0) 0 0 (some (.inl ρ)) (ov σ)) 6 [(0, .inr (.inr (58 + 1))), (1, .inl a), (2, .inl b), (3, .inl c), (4, .inl x1), (5, .inl x2)] [] (ov σ) 150 0 0) (fun k3 hk3 x1 x2 h => ?_) _ _ _  h
  refine y_iload (show decode cX0_statesWith 6 = .ok (.iload 5, 2) by decide +kernel) 5 rfl ?_
  refine y_aload_n (show decode cX0_statesWith 8 = .ok (.aload_n 0, 1) by decide +kernel) 0 rfl ?_
  refine y_getf 58 0 1 61 (by decide) rfl (by decide) (by decide) q2_218 (show decode cX0_statesWith 9 = .ok (.getfield 61, 3) by decide +kernel) (v := .inr (.inr (78 + 1))) rfl ?_
  refine y_getf 78 2 3 137 (by decide) rfl (by decide) (by decide) q2_185 (show decode cX0_statesWith 12 = .ok (.getfield 137, 3) by decide +kernel) (v := .inl (σ 78 3)) rfl ?_
  by_cases c4 : x2 ≥ (σ 78 3)
  · rw [if_pos c4] at h
    refine y_icmp_ge_t (tgt := 54) (show decode cX0_statesWith 15 = .ok (.if_icmp .ge 39, 3) by decide +kernel) rfl c4 ?_
    refine y_iload (show decode cX0_statesWith 54 = .ok (.iload 4, 2) by decide +kernel) 4 rfl ?_
    cases h
    exact y_iret (show decode cX0_statesWith 56 = .ok (.ireturn, 1) by decide +kernel) rfl
  · rw [if_neg c4] at h
    refine y_icmp_ge_f (show decode cX0_statesWith 15 = .ok (.if_icmp .ge 39, 3) by decide +kernel) c4 (by decide) ?_
    refine y_aload_n (show decode cX0_statesWith 18 = .ok (.aload_n 0, 1) by decide +kernel) 0 rfl ?_
    refine y_getf 58 0 1 61 (by decide) rfl (by decide) (by decide) q2_218 (show decode cX0_statesWith 19 = .ok (.getfield 61, 3) by decide +kernel) (v := .inr (.inr (78 + 1))) rfl ?_
    refine y_iload (show decode cX0_statesWith 22 = .ok (.iload 5, 2) by decide +kernel) 5 rfl ?_
    refine y_iload_n (show decode cX0_statesWith 24 = .ok (.iload_n 2, 1) by decide +kernel) 2 rfl ?_
    obtain ⟨r6, e5, h⟩ := bndO_some h
    refine y_callV (np := 2) (st := []) (as := [.inl x2, .inl b]) 78 2 (sh_cDy_placeIn e5) q5_38 q5_172 q5_36 q5_37 q1_14 (by decide) rfl (by decide) rfl (by decide) (by decide +kernel) (by decide) rfl (Nat.le_of_ble_eq_true rfl) (show decode cX0_statesWith 25 = .ok (.invokevirtual 140, 3) by decide +kernel) rfl ?_
    refine y_iload_n (show decode cX0_statesWith 28 = .ok (.iload_n 3, 1) by decide +kernel) 3 rfl ?_
    refine bnd_j (Q := fun j8 => ∀ (y7 : Int), j8 y7 = some ρ → Y E MX0_statesWith (yRm 1 0 0) (yQf E (150 + 0) 0 0 (some (.inl ρ)) (ov σ)) 48 [(0, .inr (.inr (58 + 1))), (1, .inl a), (2, .inl b), (3, .inl c), (4, .inl y7), (5, .inl x2)] [] (ov σ) 150 0 0) (fun y7 h => ?_) (fun j8 hj8 h => ?_) h
    · dsimp only at h
      obtain ⟨c9, h⟩ := chkI_some h
      refine y_iinc (show decode cX0_statesWith 48 = .ok (.iinc 5 1, 3) by decide +kernel) 5 rfl c9 rfl (L1 := [(5, .inl (x2 + 1)), (0, .inr (.inr (58 + 1))), (1, .inl a), (2, .inl b), (3, .inl c), (4, .inl y7)]) rfl ?_
      refine y_goto (tgt := 6) (show decode cX0_statesWith 51 = .ok (.goto (-45), 3) by decide +kernel) rfl ?_
      refine y_pick [1, 2, 3, 4, 5, 0] rfl ?_
      exact hk3 _ _ h
    by_cases c10 : ¬ r6 = c
    · rw [if_pos c10] at h
      refine y_icmp_ne_t (tgt := 48) (show decode cX0_statesWith 29 = .ok (.if_icmp .ne 19, 3) by decide +kernel) rfl c10 ?_
      refine y_pick [0, 1, 2, 3, 4, 5] rfl ?_
      exact hj8 _ h
    · rw [if_neg c10] at h
      refine y_icmp_ne_f (show decode cX0_statesWith 29 = .ok (.if_icmp .ne 19, 3) by decide +kernel) c10 (by decide) ?_
      refine y_iload (show decode cX0_statesWith 32 = .ok (.iload 4, 2) by decide +kernel) 4 rfl ?_
      refine y_aload_n (show decode cX0_statesWith 34 = .ok (.aload_n 0, 1) by decide +kernel) 0 rfl ?_
      refine y_getf 58 0 12 49 (by decide) rfl (by decide) (by decide) q2_233 (show decode cX0_statesWith 35 = .ok (.getfield 49, 3) by decide +kernel) (v := .inr (.inr (77 + 1))) rfl ?_
      refine y_iload (show decode cX0_statesWith 38 = .ok (.iload 5, 2) by decide +kernel) 5 rfl ?_
      obtain ⟨c11, h⟩ := chkA_some h
      refine yo_iald 77 7776 (by decide) rfl c11 (ov_at rfl) (show decode cX0_statesWith 40 = .ok (.iaload, 1) by decide +kernel) ?_
      refine y_iload_n (show decode cX0_statesWith 41 = .ok (.iload_n 1, 1) by decide +kernel) 1 rfl ?_
      refine y_ishr (show decode cX0_statesWith 42 = .ok (.ishr, 1) by decide +kernel) ?_
      refine y_iconst (show decode cX0_statesWith 43 = .ok (.iconst 1, 1) by decide +kernel) rfl ?_
      refine y_iand (show decode cX0_statesWith 44 = .ok (.iand, 1) by decide +kernel) ?_
      obtain ⟨c12, h⟩ := chkI_some h
      refine y_iadd (show decode cX0_statesWith 45 = .ok (.iadd, 1) by decide +kernel) c12 ?_
      refine y_istore (show decode cX0_statesWith 46 = .ok (.istore 4, 2) by decide +kernel) rfl (L1 := [(4, .inl (x1 + (b32and (b32shr (σ 77 (x2).toNat) a) 1))), (0, .inr (.inr (58 + 1))), (1, .inl a), (2, .inl b), (3, .inl c), (5, .inl x2)]) rfl ?_
      refine y_pick [1, 2, 3, 4, 0, 5] rfl ?_
      exact hj8 _ h
abbrev MX1_tell : yM := (yX1_tell, cX1_tell, 4, some .int)
def cCt_tell (a : Int) (b : Int) (c : Int) (σ : ySt) : Option (Int × ySt) :=
  if (σ 3 5) < 40 then
    chkA 40 (σ 3 5) <|
    bnd (yset σ 4 ((σ 3 5)).toNat a) fun σ3 =>
    chkA 40 (σ3 3 5) <|
    bnd (yset σ3 5 ((σ3 3 5)).toNat b) fun σ6 =>
    chkA 40 (σ6 3 5) <|
    bnd (yset σ6 6 ((σ6 3 5)).toNat c) fun σ9 =>
    chkA 40 (σ9 3 5) <|
    bnd (yset σ9 7 ((σ9 3 5)).toNat (σ9 3 6)) fun σ12 =>
    chkA 40 (σ12 3 5) <|
    bnd (yset σ12 8 ((σ12 3 5)).toNat (-1)) fun σ15 =>
    chkI ((σ15 3 5) + 1) <|
    bnd (yset σ15 3 5 ((σ15 3 5) + 1)) fun σ18 =>
    chkI ((σ18 3 5) - 1) <|
    some (((σ18 3 5) - 1), σ18)
  else
    some ((-1), σ)
set_option maxHeartbeats 4000000 in
set_option maxRecDepth 10000 in
theorem sh_cCt_tell {E : yE} {a : Int} {b : Int} {c : Int} {σ : ySt} {ρ : Int} {τ : ySt} (h : cCt_tell a b c σ = some (ρ, τ)) : Con E MX1_tell 0 0 0 [.inr (.inr (3 + 1)), .inl a, .inl b, .inl c] 150 (ov σ) (some (.inl ρ)) (ov τ) := by
  unfold cCt_tell at h
  refine Con.ofY (by decide +kernel) (by simp [yWords, yCat]) (fun hok _ => ?_)
  show Y E MX1_tell (yRm 0 0 0) (yQf E (150 + 0) 0 0 (some (.inl ρ)) (ov τ)) 0 [(0, .inr (.inr (3 + 1))), (1, .inl a), (2, .inl b), (3, .inl c)] [] (ov σ) 150 0 0
  refine y_aload_n (show decode cX1_tell 0 = .ok (.aload_n 0, 1) by decide +kernel) 0 rfl ?_
  refine y_getf 3 1 5 27 (by decide) rfl (by decide) (by decide) q1_85 (show decode cX1_tell 1 = .ok (.getfield 27, 3) by decide +kernel) (v := .inl (σ 3 5)) rfl ?_
  refine y_bipush (show decode cX1_tell 4 = .ok (.bipush 40, 2) by decide +kernel) rfl rfl ?_
  by_cases c1 : (σ 3 5) < 40
  · rw [if_pos c1] at h
    refine y_icmp_lt_t (tgt := 11) (show decode cX1_tell 6 = .ok (.if_icmp .lt 5, 3) by decide +kernel) rfl c1 ?_
    refine y_aload_n (show decode cX1_tell 11 = .ok (.aload_n 0, 1) by decide +kernel) 0 rfl ?_
    refine y_getf 3 1 0 9 (by decide) rfl (by decide) (by decide) q1_80 (show decode cX1_tell 12 = .ok (.getfield 9, 3) by decide +kernel) (v := .inr (.inr (4 + 1))) rfl ?_
    refine y_aload_n (show decode cX1_tell 15 = .ok (.aload_n 0, 1) by decide +kernel) 0 rfl ?_
    refine y_getf 3 1 5 27 (by decide) rfl (by decide) (by decide) q1_85 (show decode cX1_tell 16 = .ok (.getfield 27, 3) by decide +kernel) (v := .inl (σ 3 5)) rfl ?_
    refine y_iload_n (show decode cX1_tell 19 = .ok (.iload_n 1, 1) by decide +kernel) 1 rfl ?_
    obtain ⟨c2, h⟩ := chkA_some h
    obtain ⟨σ3, e4, h⟩ := bnd_i h
    refine yo_iast 4 40 (by decide) rfl c2 (ov_set1 e4 rfl) (show decode cX1_tell 20 = .ok (.iastore, 1) by decide +kernel) ?_
    refine y_aload_n (show decode cX1_tell 21 = .ok (.aload_n 0, 1) by decide +kernel) 0 rfl ?_
    refine y_getf 3 1 1 15 (by decide) rfl (by decide) (by decide) q1_81 (show decode cX1_tell 22 = .ok (.getfield 15, 3) by decide +kernel) (v := .inr (.inr (5 + 1))) rfl ?_
    refine y_aload_n (show decode cX1_tell 25 = .ok (.aload_n 0, 1) by decide +kernel) 0 rfl ?_
    refine y_getf 3 1 5 27 (by decide) rfl (by decide) (by decide) q1_85 (show decode cX1_tell 26 = .ok (.getfield 27, 3) by decide +kernel) (v := .inl (σ3 3 5)) rfl ?_
    refine y_iload_n (show decode cX1_tell 29 = .ok (.iload_n 2, 1) by decide +kernel) 2 rfl ?_
    obtain ⟨c5, h⟩ := chkA_some h
    obtain ⟨σ6, e7, h⟩ := bnd_i h
    refine yo_iast 5 40 (by decide) rfl c5 (ov_set1 e7 rfl) (show decode cX1_tell 30 = .ok (.iastore, 1) by decide +kernel) ?_
    refine y_aload_n (show decode cX1_tell 31 = .ok (.aload_n 0, 1) by decide +kernel) 0 rfl ?_
    refine y_getf 3 1 2 18 (by decide) rfl (by decide) (by decide) q1_82 (show decode cX1_tell 32 = .ok (.getfield 18, 3) by decide +kernel) (v := .inr (.inr (6 + 1))) rfl ?_
    refine y_aload_n (show decode cX1_tell 35 = .ok (.aload_n 0, 1) by decide +kernel) 0 rfl ?_
    refine y_getf 3 1 5 27 (by decide) rfl (by decide) (by decide) q1_85 (show decode cX1_tell 36 = .ok (.getfield 27, 3) by decide +kernel) (v := .inl (σ6 3 5)) rfl ?_
    refine y_iload_n (show decode cX1_tell 39 = .ok (.iload_n 3, 1) by decide +kernel) 3 rfl ?_
    obtain ⟨c8, h⟩ := chkA_some h
    obtain ⟨σ9, e10, h⟩ := bnd_i h
    refine yo_iast 6 40 (by decide) rfl c8 (ov_set1 e10 rfl) (show decode cX1_tell 40 = .ok (.iastore, 1) by decide +kernel) ?_
    refine y_aload_n (show decode cX1_tell 41 = .ok (.aload_n 0, 1) by decide +kernel) 0 rfl ?_
    refine y_getf 3 1 3 21 (by decide) rfl (by decide) (by decide) q1_83 (show decode cX1_tell 42 = .ok (.getfield 21, 3) by decide +kernel) (v := .inr (.inr (7 + 1))) rfl ?_
    refine y_aload_n (show decode cX1_tell 45 = .ok (.aload_n 0, 1) by decide +kernel) 0 rfl ?_
    refine y_getf 3 1 5 27 (by decide) rfl (by decide) (by decide) q1_85 (show decode cX1_tell 46 = .ok (.getfield 27, 3) by decide +kernel) (v := .inl (σ9 3 5)) rfl ?_
    refine y_aload_n (show decode cX1_tell 49 = .ok (.aload_n 0, 1) by decide +kernel) 0 rfl ?_
    refine y_getf 3 1 6 31 (by decide) rfl (by decide) (by decide) q1_87 (show decode cX1_tell 50 = .ok (.getfield 31, 3) by decide +kernel) (v := .inl (σ9 3 6)) rfl ?_
    obtain ⟨c11, h⟩ := chkA_some h
    obtain ⟨σ12, e13, h⟩ := bnd_i h
    refine yo_iast 7 40 (by decide) rfl c11 (ov_set1 e13 rfl) (show decode cX1_tell 53 = .ok (.iastore, 1) by decide +kernel) ?_
    refine y_aload_n (show decode cX1_tell 54 = .ok (.aload_n 0, 1) by decide +kernel) 0 rfl ?_
    refine y_getf 3 1 4 24 (by decide) rfl (by decide) (by decide) q1_84 (show decode cX1_tell 55 = .ok (.getfield 24, 3) by decide +kernel) (v := .inr (.inr (8 + 1))) rfl ?_
    refine y_aload_n (show decode cX1_tell 58 = .ok (.aload_n 0, 1) by decide +kernel) 0 rfl ?_
    refine y_getf 3 1 5 27 (by decide) rfl (by decide) (by decide) q1_85 (show decode cX1_tell 59 = .ok (.getfield 27, 3) by decide +kernel) (v := .inl (σ12 3 5)) rfl ?_
    refine y_iconst (show decode cX1_tell 62 = .ok (.iconst (-1), 1) by decide +kernel) rfl ?_
    obtain ⟨c14, h⟩ := chkA_some h
    obtain ⟨σ15, e16, h⟩ := bnd_i h
    refine yo_iast 8 40 (by decide) rfl c14 (ov_set1 e16 rfl) (show decode cX1_tell 63 = .ok (.iastore, 1) by decide +kernel) ?_
    refine y_aload_n (show decode cX1_tell 64 = .ok (.aload_n 0, 1) by decide +kernel) 0 rfl ?_
    refine y_dup (show decode cX1_tell 65 = .ok (.dup, 1) by decide +kernel) rfl ?_
    refine y_getf 3 1 5 27 (by decide) rfl (by decide) (by decide) q1_85 (show decode cX1_tell 66 = .ok (.getfield 27, 3) by decide +kernel) (v := .inl (σ15 3 5)) rfl ?_
    refine y_iconst (show decode cX1_tell 69 = .ok (.iconst 1, 1) by decide +kernel) rfl ?_
    obtain ⟨c17, h⟩ := chkI_some h
    refine y_iadd (show decode cX1_tell 70 = .ok (.iadd, 1) by decide +kernel) c17 ?_
    obtain ⟨σ18, e19, h⟩ := bnd_i h
    refine yo_putI 3 1 5 27 (by decide) rfl (by decide) (by decide) q1_85 rfl (show decode cX1_tell 71 = .ok (.putfield 27, 3) by decide +kernel) rfl rfl (ov_set1 e19 rfl) ?_
    refine y_aload_n (show decode cX1_tell 74 = .ok (.aload_n 0, 1) by decide +kernel) 0 rfl ?_
    refine y_getf 3 1 5 27 (by decide) rfl (by decide) (by decide) q1_85 (show decode cX1_tell 75 = .ok (.getfield 27, 3) by decide +kernel) (v := .inl (σ18 3 5)) rfl ?_
    refine y_iconst (show decode cX1_tell 78 = .ok (.iconst 1, 1) by decide +kernel) rfl ?_
    obtain ⟨c20, h⟩ := chkI_some h
    refine y_isub (show decode cX1_tell 79 = .ok (.isub, 1) by decide +kernel) c20 ?_
    cases h
    exact y_iret (show decode cX1_tell 80 = .ok (.ireturn, 1) by decide +kernel) rfl
  · rw [if_neg c1] at h
    refine y_icmp_lt_f (show decode cX1_tell 6 = .ok (.if_icmp .lt 5, 3) by decide +kernel) c1 (by decide) ?_
    refine y_iconst (show decode cX1_tell 9 = .ok (.iconst (-1), 1) by decide +kernel) rfl ?_
    cases h
    exact y_iret (show decode cX1_tell 10 = .ok (.ireturn, 1) by decide +kernel) rfl
abbrev MX1_takeBack : yM := (yX1_takeBack, cX1_takeBack, 2, some .boolean)
def cCt_takeBack (a : Int) (σ : ySt) : Option (Int × ySt) :=
  if a < 0 then
    some (0, σ)
  else
    if a ≥ (σ 3 5) then
      some (0, σ)
    else
      chkA 40 a <|
      if (σ 8 (a).toNat) = (-1) then
        chkA 40 a <|
        bnd (yset σ 8 (a).toNat (σ 3 6)) fun σ6 =>
        some (1, σ6)
      else
        some (0, σ)
set_option maxHeartbeats 4000000 in
set_option maxRecDepth 10000 in
theorem sh_cCt_takeBack {E : yE} {a : Int} {σ : ySt} {ρ : Int} {τ : ySt} (h : cCt_takeBack a σ = some (ρ, τ)) : Con E MX1_takeBack 0 0 0 [.inr (.inr (3 + 1)), .inl a] 150 (ov σ) (some (.inl ρ)) (ov τ) := by
  unfold cCt_takeBack at h
  refine Con.ofY (by decide +kernel) (by simp [yWords, yCat]) (fun hok _ => ?_)
  show Y E MX1_takeBack (yRm 0 0 0) (yQf E (150 + 0) 0 0 (some (.inl ρ)) (ov τ)) 0 [(0, .inr (.inr (3 + 1))), (1, .inl a)] [] (ov σ) 150 0 0
  refine y_iload_n (show decode cX1_takeBack 0 = .ok (.iload_n 1, 1) by decide +kernel) 1 rfl ?_
  by_cases c1 : a < 0
  · rw [if_pos c1] at h
    refine y_if_lt_t (tgt := 22) (show decode cX1_takeBack 1 = .ok (.ifCond .lt 21, 3) by decide +kernel) rfl c1 ?_
    refine y_iconst (show decode cX1_takeBack 22 = .ok (.iconst 0, 1) by decide +kernel) rfl ?_
    cases h
    exact y_zret (show decode cX1_takeBack 23 = .ok (.ireturn, 1) by decide +kernel) rfl (Or.inl rfl)
  · rw [if_neg c1] at h
    refine y_if_lt_f (show decode cX1_takeBack 1 = .ok (.ifCond .lt 21, 3) by decide +kernel) c1 (by decide) ?_
    refine y_iload_n (show decode cX1_takeBack 4 = .ok (.iload_n 1, 1) by decide +kernel) 1 rfl ?_
    refine y_aload_n (show decode cX1_takeBack 5 = .ok (.aload_n 0, 1) by decide +kernel) 0 rfl ?_
    refine y_getf 3 1 5 27 (by decide) rfl (by decide) (by decide) q1_85 (show decode cX1_takeBack 6 = .ok (.getfield 27, 3) by decide +kernel) (v := .inl (σ 3 5)) rfl ?_
    by_cases c2 : a ≥ (σ 3 5)
    · rw [if_pos c2] at h
      refine y_icmp_ge_t (tgt := 22) (show decode cX1_takeBack 9 = .ok (.if_icmp .ge 13, 3) by decide +kernel) rfl c2 ?_
      refine y_iconst (show decode cX1_takeBack 22 = .ok (.iconst 0, 1) by decide +kernel) rfl ?_
      cases h
      exact y_zret (show decode cX1_takeBack 23 = .ok (.ireturn, 1) by decide +kernel) rfl (Or.inl rfl)
    · rw [if_neg c2] at h
      refine y_icmp_ge_f (show decode cX1_takeBack 9 = .ok (.if_icmp .ge 13, 3) by decide +kernel) c2 (by decide) ?_
      refine y_aload_n (show decode cX1_takeBack 12 = .ok (.aload_n 0, 1) by decide +kernel) 0 rfl ?_
      refine y_getf 3 1 4 24 (by decide) rfl (by decide) (by decide) q1_84 (show decode cX1_takeBack 13 = .ok (.getfield 24, 3) by decide +kernel) (v := .inr (.inr (8 + 1))) rfl ?_
      refine y_iload_n (show decode cX1_takeBack 16 = .ok (.iload_n 1, 1) by decide +kernel) 1 rfl ?_
      obtain ⟨c3, h⟩ := chkA_some h
      refine yo_iald 8 40 (by decide) rfl c3 (ov_at rfl) (show decode cX1_takeBack 17 = .ok (.iaload, 1) by decide +kernel) ?_
      refine y_iconst (show decode cX1_takeBack 18 = .ok (.iconst (-1), 1) by decide +kernel) rfl ?_
      by_cases c4 : (σ 8 (a).toNat) = (-1)
      · rw [if_pos c4] at h
        refine y_icmp_eq_t (tgt := 24) (show decode cX1_takeBack 19 = .ok (.if_icmp .eq 5, 3) by decide +kernel) rfl c4 ?_
        refine y_aload_n (show decode cX1_takeBack 24 = .ok (.aload_n 0, 1) by decide +kernel) 0 rfl ?_
        refine y_getf 3 1 4 24 (by decide) rfl (by decide) (by decide) q1_84 (show decode cX1_takeBack 25 = .ok (.getfield 24, 3) by decide +kernel) (v := .inr (.inr (8 + 1))) rfl ?_
        refine y_iload_n (show decode cX1_takeBack 28 = .ok (.iload_n 1, 1) by decide +kernel) 1 rfl ?_
        refine y_aload_n (show decode cX1_takeBack 29 = .ok (.aload_n 0, 1) by decide +kernel) 0 rfl ?_
        refine y_getf 3 1 6 31 (by decide) rfl (by decide) (by decide) q1_87 (show decode cX1_takeBack 30 = .ok (.getfield 31, 3) by decide +kernel) (v := .inl (σ 3 6)) rfl ?_
        obtain ⟨c5, h⟩ := chkA_some h
        obtain ⟨σ6, e7, h⟩ := bnd_i h
        refine yo_iast 8 40 (by decide) rfl c5 (ov_set1 e7 rfl) (show decode cX1_takeBack 33 = .ok (.iastore, 1) by decide +kernel) ?_
        refine y_iconst (show decode cX1_takeBack 34 = .ok (.iconst 1, 1) by decide +kernel) rfl ?_
        cases h
        exact y_zret (show decode cX1_takeBack 35 = .ok (.ireturn, 1) by decide +kernel) rfl (Or.inr rfl)
      · rw [if_neg c4] at h
        refine y_icmp_eq_f (show decode cX1_takeBack 19 = .ok (.if_icmp .eq 5, 3) by decide +kernel) c4 (by decide) ?_
        refine y_iconst (show decode cX1_takeBack 22 = .ok (.iconst 0, 1) by decide +kernel) rfl ?_
        cases h
        exact y_zret (show decode cX1_takeBack 23 = .ok (.ireturn, 1) by decide +kernel) rfl (Or.inl rfl)
abbrev MX4_begin : yM := (yX4_begin, cX4_begin, 2, none)
def cEa_begin (o : Nat) (a : Nat) (σ : ySt) : Option (ySt) :=
  chk (o = 9 ∨ o = 83 ∨ o = 86 ∨ o = 89) <|
  chk (a = 13 ∨ a = 33) <|
  bnd (yset σ o 2 0) fun σ3 =>
  bnd (yset σ3 o 3 0) fun σ5 =>
  chkC 5 5 0 0 5 <|
  bnd (ycpy σ5 (a + 8) ((0 : Int).toNat) (o + 1) ((0 : Int).toNat) ((5 : Int).toNat)) fun σ8 =>
  chkC 5 5 0 0 5 <|
  bnd (ycpy σ8 (a + 8) ((0 : Int).toNat) (o + 2) ((0 : Int).toNat) ((5 : Int).toNat)) fun σ11 =>
  some σ11
set_option maxHeartbeats 4000000 in
set_option maxRecDepth 10000 in
theorem sh_cEa_begin {E : yE} {o : Nat} {a : Nat} {σ : ySt} {τ : ySt} (h : cEa_begin o a σ = some τ) : Con E MX4_begin 1 0 0 [.inr (.inr (o + 1)), .inr (.inr (a + 1))] 150 (ov σ) none (ov τ) := by
  unfold cEa_begin at h
  refine Con.ofY (by decide +kernel) (by simp [yWords, yCat]) (fun hok _ => ?_)
  show Y E MX4_begin (yRm 1 0 0) (yQf E (150 + 0) 0 0 none (ov τ)) 0 [(0, .inr (.inr (o + 1))), (1, .inr (.inr (a + 1)))] [] (ov σ) 150 0 0
  obtain ⟨c1, h⟩ := chk_some h
  obtain ⟨c2, h⟩ := chk_some h
  refine y_aload_n (show decode cX4_begin 0 = .ok (.aload_n 0, 1) by decide +kernel) 0 rfl ?_
  refine y_iconst (show decode cX4_begin 1 = .ok (.iconst 0, 1) by decide +kernel) rfl ?_
  obtain ⟨σ3, e4, h⟩ := bnd_i h
  refine yo_putI o 4 2 18 (by omega) (by rcases c1 with rfl | rfl | rfl | rfl <;> rfl) (by decide) (by decide) q1_115 rfl (show decode cX4_begin 2 = .ok (.putfield 18, 3) by decide +kernel) rfl rfl (ov_set1 e4 (by rcases c1 with rfl | rfl | rfl | rfl <;> rfl)) ?_
  refine y_aload_n (show decode cX4_begin 5 = .ok (.aload_n 0, 1) by decide +kernel) 0 rfl ?_
  refine y_iconst (show decode cX4_begin 6 = .ok (.iconst 0, 1) by decide +kernel) rfl ?_
  obtain ⟨σ5, e6, h⟩ := bnd_i h
  refine yo_putI o 4 3 22 (by omega) (by rcases c1 with rfl | rfl | rfl | rfl <;> rfl) (by decide) (by decide) q1_117 rfl (show decode cX4_begin 7 = .ok (.putfield 22, 3) by decide +kernel) rfl rfl (ov_set1 e6 (by rcases c1 with rfl | rfl | rfl | rfl <;> rfl)) ?_
  refine y_aload_n (show decode cX4_begin 10 = .ok (.aload_n 1, 1) by decide +kernel) 1 rfl ?_
  refine y_getf a 9 4 25 (by omega) (by rcases c2 with rfl | rfl <;> rfl) (by decide) (by decide) q1_212 (show decode cX4_begin 11 = .ok (.getfield 25, 3) by decide +kernel) (v := .inr (.inr ((a + 8) + 1))) (by rcases c2 with rfl | rfl <;> rfl) ?_
  refine y_iconst (show decode cX4_begin 14 = .ok (.iconst 0, 1) by decide +kernel) rfl ?_
  refine y_aload_n (show decode cX4_begin 15 = .ok (.aload_n 0, 1) by decide +kernel) 0 rfl ?_
  refine y_getf o 4 0 9 (by omega) (by rcases c1 with rfl | rfl | rfl | rfl <;> rfl) (by decide) (by decide) q1_111 (show decode cX4_begin 16 = .ok (.getfield 9, 3) by decide +kernel) (v := .inr (.inr ((o + 1) + 1))) (by rcases c1 with rfl | rfl | rfl | rfl <;> rfl) ?_
  refine y_iconst (show decode cX4_begin 19 = .ok (.iconst 0, 1) by decide +kernel) rfl ?_
  refine y_iconst (show decode cX4_begin 20 = .ok (.iconst 5, 1) by decide +kernel) rfl ?_
  obtain ⟨c7, h⟩ := chkC_some h
  obtain ⟨σ8, e9, h⟩ := bnd_i h
  refine y_acopy (a + 8) 5 (o + 1) 5 (by omega) (by rcases c2 with rfl | rfl <;> rfl) (by omega) (by rcases c1 with rfl | rfl | rfl | rfl <;> rfl) c7 q4_123 q4_125 q4_124 q1_21 (show decode cX4_begin 21 = .ok (.invokestatic 30, 3) by decide +kernel) (ov_cpy1 e9 (fun k => (by rcases c2 with rfl | rfl <;> rfl)) (fun k => (by rcases c1 with rfl | rfl | rfl | rfl <;> rfl))) (by decide) (Nat.le_of_ble_eq_true rfl) ?_
  refine y_aload_n (show decode cX4_begin 24 = .ok (.aload_n 1, 1) by decide +kernel) 1 rfl ?_
  refine y_getf a 9 4 25 (by omega) (by rcases c2 with rfl | rfl <;> rfl) (by decide) (by decide) q1_212 (show decode cX4_begin 25 = .ok (.getfield 25, 3) by decide +kernel) (v := .inr (.inr ((a + 8) + 1))) (by rcases c2 with rfl | rfl <;> rfl) ?_
  refine y_iconst (show decode cX4_begin 28 = .ok (.iconst 0, 1) by decide +kernel) rfl ?_
  refine y_aload_n (show decode cX4_begin 29 = .ok (.aload_n 0, 1) by decide +kernel) 0 rfl ?_
  refine y_getf o 4 1 15 (by omega) (by rcases c1 with rfl | rfl | rfl | rfl <;> rfl) (by decide) (by decide) q1_113 (show decode cX4_begin 30 = .ok (.getfield 15, 3) by decide +kernel) (v := .inr (.inr ((o + 2) + 1))) (by rcases c1 with rfl | rfl | rfl | rfl <;> rfl) ?_
  refine y_iconst (show decode cX4_begin 33 = .ok (.iconst 0, 1) by decide +kernel) rfl ?_
  refine y_iconst (show decode cX4_begin 34 = .ok (.iconst 5, 1) by decide +kernel) rfl ?_
  obtain ⟨c10, h⟩ := chkC_some h
  obtain ⟨σ11, e12, h⟩ := bnd_i h
  refine y_acopy (a + 8) 5 (o + 2) 5 (by omega) (by rcases c2 with rfl | rfl <;> rfl) (by omega) (by rcases c1 with rfl | rfl | rfl | rfl <;> rfl) c10 q4_123 q4_125 q4_124 q1_21 (show decode cX4_begin 35 = .ok (.invokestatic 30, 3) by decide +kernel) (ov_cpy1 e12 (fun k => (by rcases c2 with rfl | rfl <;> rfl)) (fun k => (by rcases c1 with rfl | rfl | rfl | rfl <;> rfl))) (by decide) (Nat.le_of_ble_eq_true rfl) ?_
  cases h
  exact y_vret (show decode cX4_begin 38 = .ok (.return_, 1) by decide +kernel) rfl
abbrev MX4_copyFrom : yM := (yX4_copyFrom, cX4_copyFrom, 2, none)
def cEa_copyFrom (o : Nat) (a : Nat) (σ : ySt) : Option (ySt) :=
  chk (o = 9 ∨ o = 83 ∨ o = 86 ∨ o = 89) <|
  chk (a = 9 ∨ a = 83 ∨ a = 86 ∨ a = 89) <|
  bnd (yset σ o 2 (σ a 2)) fun σ3 =>
  bnd (yset σ3 o 3 (σ3 a 3)) fun σ5 =>
  chkC 5 5 0 0 5 <|
  bnd (ycpy σ5 (a + 1) ((0 : Int).toNat) (o + 1) ((0 : Int).toNat) ((5 : Int).toNat)) fun σ8 =>
  chkC 5 5 0 0 5 <|
  bnd (ycpy σ8 (a + 2) ((0 : Int).toNat) (o + 2) ((0 : Int).toNat) ((5 : Int).toNat)) fun σ11 =>
  some σ11
set_option maxHeartbeats 4000000 in
set_option maxRecDepth 10000 in
theorem sh_cEa_copyFrom {E : yE} {o : Nat} {a : Nat} {σ : ySt} {τ : ySt} (h : cEa_copyFrom o a σ = some τ) : Con E MX4_copyFrom 1 0 0 [.inr (.inr (o + 1)), .inr (.inr (a + 1))] 150 (ov σ) none (ov τ) := by
  unfold cEa_copyFrom at h
  refine Con.ofY (by decide +kernel) (by simp [yWords, yCat]) (fun hok _ => ?_)
  show Y E MX4_copyFrom (yRm 1 0 0) (yQf E (150 + 0) 0 0 none (ov τ)) 0 [(0, .inr (.inr (o + 1))), (1, .inr (.inr (a + 1)))] [] (ov σ) 150 0 0
  obtain ⟨c1, h⟩ := chk_some h
  obtain ⟨c2, h⟩ := chk_some h
  refine y_aload_n (show decode cX4_copyFrom 0 = .ok (.aload_n 0, 1) by decide +kernel) 0 rfl ?_
  refine y_aload_n (show decode cX4_copyFrom 1 = .ok (.aload_n 1, 1) by decide +kernel) 1 rfl ?_
  refine y_getf a 4 2 18 (by omega) (by rcases c2 with rfl | rfl | rfl | rfl <;> rfl) (by decide) (by decide) q1_115 (show decode cX4_copyFrom 2 = .ok (.getfield 18, 3) by decide +kernel) (v := .inl (σ a 2)) (by rcases c2 with rfl | rfl | rfl | rfl <;> rfl) ?_
  obtain ⟨σ3, e4, h⟩ := bnd_i h
  refine yo_putI o 4 2 18 (by omega) (by rcases c1 with rfl | rfl | rfl | rfl <;> rfl) (by decide) (by decide) q1_115 rfl (show decode cX4_copyFrom 5 = .ok (.putfield 18, 3) by decide +kernel) rfl rfl (ov_set1 e4 (by rcases c1 with rfl | rfl | rfl | rfl <;> rfl)) ?_
  refine y_aload_n (show decode cX4_copyFrom 8 = .ok (.aload_n 0, 1) by decide +kernel) 0 rfl ?_
  refine y_aload_n (show decode cX4_copyFrom 9 = .ok (.aload_n 1, 1) by decide +kernel) 1 rfl ?_
  refine y_getf a 4 3 22 (by omega) (by rcases c2 with rfl | rfl | rfl | rfl <;> rfl) (by decide) (by decide) q1_117 (show decode cX4_copyFrom 10 = .ok (.getfield 22, 3) by decide +kernel) (v := .inl (σ3 a 3)) (by rcases c2 with rfl | rfl | rfl | rfl <;> rfl) ?_
  obtain ⟨σ5, e6, h⟩ := bnd_i h
  refine yo_putI o 4 3 22 (by omega) (by rcases c1 with rfl | rfl | rfl | rfl <;> rfl) (by decide) (by decide) q1_117 rfl (show decode cX4_copyFrom 13 = .ok (.putfield 22, 3) by decide +kernel) rfl rfl (ov_set1 e6 (by rcases c1 with rfl | rfl | rfl | rfl <;> rfl)) ?_
  refine y_aload_n (show decode cX4_copyFrom 16 = .ok (.aload_n 1, 1) by decide +kernel) 1 rfl ?_
  refine y_getf a 4 0 9 (by omega) (by rcases c2 with rfl | rfl | rfl | rfl <;> rfl) (by decide) (by decide) q1_111 (show decode cX4_copyFrom 17 = .ok (.getfield 9, 3) by decide +kernel) (v := .inr (.inr ((a + 1) + 1))) (by rcases c2 with rfl | rfl | rfl | rfl <;> rfl) ?_
  refine y_iconst (show decode cX4_copyFrom 20 = .ok (.iconst 0, 1) by decide +kernel) rfl ?_
  refine y_aload_n (show decode cX4_copyFrom 21 = .ok (.aload_n 0, 1) by decide +kernel) 0 rfl ?_
  refine y_getf o 4 0 9 (by omega) (by rcases c1 with rfl | rfl | rfl | rfl <;> rfl) (by decide) (by decide) q1_111 (show decode cX4_copyFrom 22 = .ok (.getfield 9, 3) by decide +kernel) (v := .inr (.inr ((o + 1) + 1))) (by rcases c1 with rfl | rfl | rfl | rfl <;> rfl) ?_
  refine y_iconst (show decode cX4_copyFrom 25 = .ok (.iconst 0, 1) by decide +kernel) rfl ?_
  refine y_iconst (show decode cX4_copyFrom 26 = .ok (.iconst 5, 1) by decide +kernel) rfl ?_
  obtain ⟨c7, h⟩ := chkC_some h
  obtain ⟨σ8, e9, h⟩ := bnd_i h
  refine y_acopy (a + 1) 5 (o + 1) 5 (by omega) (by rcases c2 with rfl | rfl | rfl | rfl <;> rfl) (by omega) (by rcases c1 with rfl | rfl | rfl | rfl <;> rfl) c7 q4_123 q4_125 q4_124 q1_21 (show decode cX4_copyFrom 27 = .ok (.invokestatic 30, 3) by decide +kernel) (ov_cpy1 e9 (fun k => (by rcases c2 with rfl | rfl | rfl | rfl <;> rfl)) (fun k => (by rcases c1 with rfl | rfl | rfl | rfl <;> rfl))) (by decide) (Nat.le_of_ble_eq_true rfl) ?_
  refine y_aload_n (show decode cX4_copyFrom 30 = .ok (.aload_n 1, 1) by decide +kernel) 1 rfl ?_
  refine y_getf a 4 1 15 (by omega) (by rcases c2 with rfl | rfl | rfl | rfl <;> rfl) (by decide) (by decide) q1_113 (show decode cX4_copyFrom 31 = .ok (.getfield 15, 3) by decide +kernel) (v := .inr (.inr ((a + 2) + 1))) (by rcases c2 with rfl | rfl | rfl | rfl <;> rfl) ?_
  refine y_iconst (show decode cX4_copyFrom 34 = .ok (.iconst 0, 1) by decide +kernel) rfl ?_
  refine y_aload_n (show decode cX4_copyFrom 35 = .ok (.aload_n 0, 1) by decide +kernel) 0 rfl ?_
  refine y_getf o 4 1 15 (by omega) (by rcases c1 with rfl | rfl | rfl | rfl <;> rfl) (by decide) (by decide) q1_113 (show decode cX4_copyFrom 36 = .ok (.getfield 15, 3) by decide +kernel) (v := .inr (.inr ((o + 2) + 1))) (by rcases c1 with rfl | rfl | rfl | rfl <;> rfl) ?_
  refine y_iconst (show decode cX4_copyFrom 39 = .ok (.iconst 0, 1) by decide +kernel) rfl ?_
  refine y_iconst (show decode cX4_copyFrom 40 = .ok (.iconst 5, 1) by decide +kernel) rfl ?_
  obtain ⟨c10, h⟩ := chkC_some h
  obtain ⟨σ11, e12, h⟩ := bnd_i h
  refine y_acopy (a + 2) 5 (o + 2) 5 (by omega) (by rcases c2 with rfl | rfl | rfl | rfl <;> rfl) (by omega) (by rcases c1 with rfl | rfl | rfl | rfl <;> rfl) c10 q4_123 q4_125 q4_124 q1_21 (show decode cX4_copyFrom 41 = .ok (.invokestatic 30, 3) by decide +kernel) (ov_cpy1 e12 (fun k => (by rcases c2 with rfl | rfl | rfl | rfl <;> rfl)) (fun k => (by rcases c1 with rfl | rfl | rfl | rfl <;> rfl))) (by decide) (Nat.le_of_ble_eq_true rfl) ?_
  cases h
  exact y_vret (show decode cX4_copyFrom 44 = .ok (.return_, 1) by decide +kernel) rfl
abbrev MX4_strikeNow : yM := (yX4_strikeNow, cX4_strikeNow, 4, some .int)
def cEa_strikeNow (N : Nat) (o : Nat) (a : Nat) (σ : ySt) : Option (Int × ySt) :=
  chk (o = 9 ∨ o = 83 ∨ o = 86 ∨ o = 89) <|
  chk (a = 13 ∨ a = 33) <|
  chkC 5 5 0 0 5 <|
  bnd (ycpy σ (o + 2) ((0 : Int).toNat) (o + 1) ((0 : Int).toNat) ((5 : Int).toNat)) fun σ4 =>
  chkI ((σ4 o 2) + 1) <|
  bnd (yset σ4 o 2 ((σ4 o 2) + 1)) fun σ7 =>
  loop2 (fun k11 x9 x10 =>
    if x10 ≥ (σ7 (a + 1) 1) then
      chkI ((σ7 o 3) + x9) <|
      bnd (yset σ7 o 3 ((σ7 o 3) + x9)) fun σ14 =>
      some (x9, σ14)
    else
      bndO (cTw_crowd N a (o + 1) 0 x10 σ7) fun r17 =>
      bndO (cTw_isRight a x10 r17 (σ7 o 2) σ7) fun r19 =>
      bnd (fun (y20 : Int) =>
        chkI (x9 + y20) <|
        chkI (x10 + 1) <|
        k11 (x9 + y20) (x10 + 1)) fun j21 =>
      if r19 = 0 then
        j21 1
      else
        j21 0) N 0 0
set_option maxHeartbeats 4000000 in
set_option maxRecDepth 10000 in
theorem sh_cEa_strikeNow {E : yE} {N : Nat} {o : Nat} {a : Nat} {σ : ySt} {ρ : Int} {τ : ySt} (h : cEa_strikeNow N o a σ = some (ρ, τ)) : Con E MX4_strikeNow 1 0 0 [.inr (.inr (o + 1)), .inr (.inr (a + 1))] 150 (ov σ) (some (.inl ρ)) (ov τ) := by
  unfold cEa_strikeNow at h
  refine Con.ofY (by decide +kernel) (by simp [yWords, yCat]) (fun hok _ => ?_)
  show Y E MX4_strikeNow (yRm 1 0 0) (yQf E (150 + 0) 0 0 (some (.inl ρ)) (ov τ)) 0 [(0, .inr (.inr (o + 1))), (1, .inr (.inr (a + 1)))] [] (ov σ) 150 0 0
  obtain ⟨c1, h⟩ := chk_some h
  obtain ⟨c2, h⟩ := chk_some h
  refine y_aload_n (show decode cX4_strikeNow 0 = .ok (.aload_n 0, 1) by decide +kernel) 0 rfl ?_
  refine y_getf o 4 1 15 (by omega) (by rcases c1 with rfl | rfl | rfl | rfl <;> rfl) (by decide) (by decide) q1_113 (show decode cX4_strikeNow 1 = .ok (.getfield 15, 3) by decide +kernel) (v := .inr (.inr ((o + 2) + 1))) (by rcases c1 with rfl | rfl | rfl | rfl <;> rfl) ?_
  refine y_iconst (show decode cX4_strikeNow 4 = .ok (.iconst 0, 1) by decide +kernel) rfl ?_
  refine y_aload_n (show decode cX4_strikeNow 5 = .ok (.aload_n 0, 1) by decide +kernel) 0 rfl ?_
  refine y_getf o 4 0 9 (by omega) (by rcases c1 with rfl | rfl | rfl | rfl <;> rfl) (by decide) (by decide) q1_111 (show decode cX4_strikeNow 6 = .ok (.getfield 9, 3) by decide +kernel) (v := .inr (.inr ((o + 1) + 1))) (by rcases c1 with rfl | rfl | rfl | rfl <;> rfl) ?_
  refine y_iconst (show decode cX4_strikeNow 9 = .ok (.iconst 0, 1) by decide +kernel) rfl ?_
  refine y_iconst (show decode cX4_strikeNow 10 = .ok (.iconst 5, 1) by decide +kernel) rfl ?_
  obtain ⟨c3, h⟩ := chkC_some h
  obtain ⟨σ4, e5, h⟩ := bnd_i h
  refine y_acopy (o + 2) 5 (o + 1) 5 (by omega) (by rcases c1 with rfl | rfl | rfl | rfl <;> rfl) (by omega) (by rcases c1 with rfl | rfl | rfl | rfl <;> rfl) c3 q4_123 q4_125 q4_124 q1_21 (show decode cX4_strikeNow 11 = .ok (.invokestatic 30, 3) by decide +kernel) (ov_cpy1 e5 (fun k => (by rcases c1 with rfl | rfl | rfl | rfl <;> rfl)) (fun k => (by rcases c1 with rfl | rfl | rfl | rfl <;> rfl))) (by decide) (Nat.le_of_ble_eq_true rfl) ?_
  refine y_aload_n (show decode cX4_strikeNow 14 = .ok (.aload_n 0, 1) by decide +kernel) 0 rfl ?_
  refine y_dup (show decode cX4_strikeNow 15 = .ok (.dup, 1) by decide +kernel) rfl ?_
  refine y_getf o 4 2 18 (by omega) (by rcases c1 with rfl | rfl | rfl | rfl <;> rfl) (by decide) (by decide) q1_115 (show decode cX4_strikeNow 16 = .ok (.getfield 18, 3) by decide +kernel) (v := .inl (σ4 o 2)) (by rcases c1 with rfl | rfl | rfl | rfl <;> rfl) ?_
  refine y_iconst (show decode cX4_strikeNow 19 = .ok (.iconst 1, 1) by decide +kernel) rfl ?_
  obtain ⟨c6, h⟩ := chkI_some h
  refine y_iadd (show decode cX4_strikeNow 20 = .ok (.iadd, 1) by decide +kernel) c6 ?_
  obtain ⟨σ7, e8, h⟩ := bnd_i h
  refine yo_putI o 4 2 18 (by omega) (by rcases c1 with rfl | rfl | rfl | rfl <;> rfl) (by decide) (by decide) q1_115 rfl (show decode cX4_strikeNow 21 = .ok (.putfield 18, 3) by decide +kernel) rfl rfl (ov_set1 e8 (by rcases c1 with rfl | rfl | rfl | rfl <;> rfl)) ?_
  refine y_iconst (show decode cX4_strikeNow 24 = .ok (.iconst 0, 1) by decide +kernel) rfl ?_
  refine y_istore_n (show decode cX4_strikeNow 25 = .ok (.istore_n 2, 1) by decide +kernel) rfl (L1 := [(2, .inl 0), (0, .inr (.inr (o + 1))), (1, .inr (.inr (a + 1)))]) rfl ?_
  refine y_iconst (show decode cX4_strikeNow 26 = .ok (.iconst 0, 1) by decide +kernel) rfl ?_
  refine y_istore_n (show decode cX4_strikeNow 27 = .ok (.istore_n 3, 1) by decide +kernel) rfl (L1 := [(3, .inl 0), (2, .inl 0), (0, .inr (.inr (o + 1))), (1, .inr (.inr (a + 1)))]) rfl ?_
  refine y_pick [2, 3, 1, 0] rfl ?_
  refine loop2_ind (P := fun x9 x10 => Y E MX4_strikeNow (yRm 1 0 0) (yQf E (150 + 0) 0 0 (some (.inl ρ)) (ov τ)) 28 [(0, .inr (.inr (o + 1))), (1, .inr (.inr (a + 1))), (2, .inl x9), (3, .inl x10)] [] (ov σ7) 150 0 0) (fun k11 hk11 x9 x10 h => ?_) _ _ _  h
  refine y_iload_n (show decode cX4_strikeNow 28 = .ok (.iload_n 3, 1) by decide +kernel) 3 rfl ?_
  refine y_aload_n (show decode cX4_strikeNow 29 = .ok (.aload_n 1, 1) by decide +kernel) 1 rfl ?_
  refine y_getf a 9 0 36 (by omega) (by rcases c2 with rfl | rfl <;> rfl) (by decide) (by decide) q1_194 (show decode cX4_strikeNow 30 = .ok (.getfield 36, 3) by decide +kernel) (v := .inr (.inr ((a + 1) + 1))) (by rcases c2 with rfl | rfl <;> rfl) ?_
  refine y_getf (a + 1) 5 1 40 (by omega) (by rcases c2 with rfl | rfl <;> rfl) (by decide) (by decide) q1_150 (show decode cX4_strikeNow 33 = .ok (.getfield 40, 3) by decide +kernel) (v := .inl (σ7 (a + 1) 1)) (by rcases c2 with rfl | rfl <;> rfl) ?_
  by_cases c12 : x10 ≥ (σ7 (a + 1) 1)
  · rw [if_pos c12] at h
    refine y_icmp_ge_t (tgt := 75) (show decode cX4_strikeNow 36 = .ok (.if_icmp .ge 39, 3) by decide +kernel) rfl c12 ?_
    refine y_aload_n (show decode cX4_strikeNow 75 = .ok (.aload_n 0, 1) by decide +kernel) 0 rfl ?_
    refine y_dup (show decode cX4_strikeNow 76 = .ok (.dup, 1) by decide +kernel) rfl ?_
    refine y_getf o 4 3 22 (by omega) (by rcases c1 with rfl | rfl | rfl | rfl <;> rfl) (by decide) (by decide) q1_117 (show decode cX4_strikeNow 77 = .ok (.getfield 22, 3) by decide +kernel) (v := .inl (σ7 o 3)) (by rcases c1 with rfl | rfl | rfl | rfl <;> rfl) ?_
    refine y_iload_n (show decode cX4_strikeNow 80 = .ok (.iload_n 2, 1) by decide +kernel) 2 rfl ?_
    obtain ⟨c13, h⟩ := chkI_some h
    refine y_iadd (show decode cX4_strikeNow 81 = .ok (.iadd, 1) by decide +kernel) c13 ?_
    obtain ⟨σ14, e15, h⟩ := bnd_i h
    refine yo_putI o 4 3 22 (by omega) (by rcases c1 with rfl | rfl | rfl | rfl <;> rfl) (by decide) (by decide) q1_117 rfl (show decode cX4_strikeNow 82 = .ok (.putfield 22, 3) by decide +kernel) rfl rfl (ov_set1 e15 (by rcases c1 with rfl | rfl | rfl | rfl <;> rfl)) ?_
    refine y_iload_n (show decode cX4_strikeNow 85 = .ok (.iload_n 2, 1) by decide +kernel) 2 rfl ?_
    cases h
    exact y_iret (show decode cX4_strikeNow 86 = .ok (.ireturn, 1) by decide +kernel) rfl
  · rw [if_neg c12] at h
    refine y_icmp_ge_f (show decode cX4_strikeNow 36 = .ok (.if_icmp .ge 39, 3) by decide +kernel) c12 (by decide) ?_
    refine y_iload_n (show decode cX4_strikeNow 39 = .ok (.iload_n 2, 1) by decide +kernel) 2 rfl ?_
    refine y_aload_n (show decode cX4_strikeNow 40 = .ok (.aload_n 1, 1) by decide +kernel) 1 rfl ?_
    refine y_iload_n (show decode cX4_strikeNow 41 = .ok (.iload_n 3, 1) by decide +kernel) 3 rfl ?_
    refine y_aload_n (show decode cX4_strikeNow 42 = .ok (.aload_n 1, 1) by decide +kernel) 1 rfl ?_
    refine y_aload_n (show decode cX4_strikeNow 43 = .ok (.aload_n 0, 1) by decide +kernel) 0 rfl ?_
    refine y_getf o 4 0 9 (by omega) (by rcases c1 with rfl | rfl | rfl | rfl <;> rfl) (by decide) (by decide) q1_111 (show decode cX4_strikeNow 44 = .ok (.getfield 9, 3) by decide +kernel) (v := .inr (.inr ((o + 1) + 1))) (by rcases c1 with rfl | rfl | rfl | rfl <;> rfl) ?_
    refine y_iconst (show decode cX4_strikeNow 47 = .ok (.iconst 0, 1) by decide +kernel) rfl ?_
    refine y_iload_n (show decode cX4_strikeNow 48 = .ok (.iload_n 3, 1) by decide +kernel) 3 rfl ?_
    obtain ⟨r17, e16, h⟩ := bndO_some h
    refine y_callV (np := 3) (st := [.inl x10, .inr (.inr (a + 1)), .inl x9]) (as := [.inr (.inr ((o + 1) + 1)), .inl 0, .inl x10]) a 9 (sh_cTw_crowd e16) q4_200 q5_182 q4_198 q4_199 q1_5 (by omega) (by rcases c2 with rfl | rfl <;> rfl) (by decide) rfl (by decide) (by decide +kernel) (by decide) rfl (Nat.le_of_ble_eq_true rfl) (show decode cX4_strikeNow 49 = .ok (.invokevirtual 45, 3) by decide +kernel) rfl ?_
    refine y_aload_n (show decode cX4_strikeNow 52 = .ok (.aload_n 0, 1) by decide +kernel) 0 rfl ?_
    refine y_getf o 4 2 18 (by omega) (by rcases c1 with rfl | rfl | rfl | rfl <;> rfl) (by decide) (by decide) q1_115 (show decode cX4_strikeNow 53 = .ok (.getfield 18, 3) by decide +kernel) (v := .inl (σ7 o 2)) (by rcases c1 with rfl | rfl | rfl | rfl <;> rfl) ?_
    obtain ⟨r19, e18, h⟩ := bndO_some h
    refine y_callV (np := 3) (st := [.inl x9]) (as := [.inl x10, .inl r17, .inl (σ7 o 2)]) a 9 (sh_cTw_isRight e18) q4_168 q5_205 q4_166 q4_167 q1_5 (by omega) (by rcases c2 with rfl | rfl <;> rfl) (by decide) rfl (by decide) (by decide +kernel) (by decide) rfl (Nat.le_of_ble_eq_true rfl) (show decode cX4_strikeNow 56 = .ok (.invokevirtual 49, 3) by decide +kernel) rfl ?_
    refine bnd_j (Q := fun j21 => ∀ (y20 : Int), j21 y20 = some (ρ, τ) → Y E MX4_strikeNow (yRm 1 0 0) (yQf E (150 + 0) 0 0 (some (.inl ρ)) (ov τ)) 67 [(0, .inr (.inr (o + 1))), (1, .inr (.inr (a + 1))), (3, .inl x10)] [.inl y20, .inl x9] (ov σ7) 150 0 0) (fun y20 h => ?_) (fun j21 hj21 h => ?_) h
    · dsimp only at h
      obtain ⟨c22, h⟩ := chkI_some h
      refine y_iadd (show decode cX4_strikeNow 67 = .ok (.iadd, 1) by decide +kernel) c22 ?_
      refine y_istore_n (show decode cX4_strikeNow 68 = .ok (.istore_n 2, 1) by decide +kernel) rfl (L1 := [(2, .inl (x9 + y20)), (0, .inr (.inr (o + 1))), (1, .inr (.inr (a + 1))), (3, .inl x10)]) rfl ?_
      obtain ⟨c23, h⟩ := chkI_some h
      refine y_iinc (show decode cX4_strikeNow 69 = .ok (.iinc 3 1, 3) by decide +kernel) 3 rfl c23 rfl (L1 := [(3, .inl (x10 + 1)), (2, .inl (x9 + y20)), (0, .inr (.inr (o + 1))), (1, .inr (.inr (a + 1)))]) rfl ?_
      refine y_goto (tgt := 28) (show decode cX4_strikeNow 72 = .ok (.goto (-44), 3) by decide +kernel) rfl ?_
      refine y_pick [2, 3, 1, 0] rfl ?_
      exact hk11 _ _ h
    by_cases c24 : r19 = 0
    · rw [if_pos c24] at h
      refine y_if_eq_t (tgt := 66) (show decode cX4_strikeNow 59 = .ok (.ifCond .eq 7, 3) by decide +kernel) rfl c24 ?_
      refine y_iconst (show decode cX4_strikeNow 66 = .ok (.iconst 1, 1) by decide +kernel) rfl ?_
      refine y_pick [0, 1, 3] rfl ?_
      exact hj21 _ h
    · rw [if_neg c24] at h
      refine y_if_eq_f (show decode cX4_strikeNow 59 = .ok (.ifCond .eq 7, 3) by decide +kernel) c24 (by decide) ?_
      refine y_iconst (show decode cX4_strikeNow 62 = .ok (.iconst 0, 1) by decide +kernel) rfl ?_
      refine y_goto (tgt := 67) (show decode cX4_strikeNow 63 = .ok (.goto 4, 3) by decide +kernel) rfl ?_
      refine y_pick [0, 1, 3] rfl ?_
      exact hj21 _ h
abbrev MX4_leastPairing : yM := (yX4_leastPairing, cX4_leastPairing, 6, some .int)
def cEa_leastPairing_b (rec : Nat → Nat → Int → Int → ySt → Option (Int)) (N : Nat) (a : Nat) (b : Int) (c : Int) (σ : ySt) : Option (Int) :=
  chk (a = 13 ∨ a = 33) <|
  if c < (σ (a + 1) 1) then
    if ¬ (b32and (b32shr b c) 1) = 0 then
      chkI (c + 1) <|
      loop2 (fun k7 x5 x6 =>
        if x6 ≥ (σ (a + 1) 1) then
          some x5
        else
          bnd (fun (y9 : Int) =>
            chkI (x6 + 1) <|
            k7 y9 (x6 + 1)) fun j10 =>
          if ¬ (b32and (b32shr b x6) 1) = 1 then
            j10 x5
          else
            chkI (c + 1) <|
            bndO (rec 0 a (b32and b (b32xor (b32shl 1 x6) (-1))) (c + 1) σ) fun r15 =>
            chkI (c * 6) <|
            chkI ((c * 6) + x6) <|
            chkA 36 ((c * 6) + x6) <|
            chkI ((σ (a + 15) (((c * 6) + x6)).toNat) + r15) <|
            bndO (jM_min_7cf53 x5 ((σ (a + 15) (((c * 6) + x6)).toNat) + r15) σ) fun r21 =>
            j10 r21) N 1000000 (c + 1)
    else
      chkI (c + 1) <|
      bndO (rec 0 a b (c + 1) σ) fun r24 =>
      some r24
  else
    some 0
set_option maxHeartbeats 4000000 in
set_option maxRecDepth 10000 in
theorem shb_cEa_leastPairing {E : yE} {rec : Nat → Nat → Int → Int → ySt → Option (Int)} {dp : Nat} {N : Nat} {a : Nat} {b : Int} {c : Int} {σ : ySt} {ρ : Int} (hrec_leastPairing : ∀ {a : Nat} {b : Int} {c : Int} {σ : ySt} {ρ : Int}, rec 0 a b c σ = some ρ → Con E MX4_leastPairing (1 + dp) 0 0 [.inr (.inr (a + 1)), .inl b, .inl c] 150 (ov σ) (some (.inl ρ)) (ov σ)) (h : cEa_leastPairing_b rec N a b c σ = some ρ) : Con E MX4_leastPairing (1 + dp + 1) 0 0 [.inr (.inr (a + 1)), .inl b, .inl c] 150 (ov σ) (some (.inl ρ)) (ov σ) := by
  unfold cEa_leastPairing_b at h
  refine Con.ofY (by decide +kernel) (by simp [yWords, yCat]) (fun hok _ => ?_)
  show Y E MX4_leastPairing (yRm (1 + dp + 1) 0 0) (yQf E (150 + 0) 0 0 (some (.inl ρ)) (ov σ)) 0 [(0, .inr (.inr (a + 1))), (1, .inl b), (2, .inl c)] [] (ov σ) 150 0 0
  obtain ⟨c1, h⟩ := chk_some h
  refine y_iload_n (show decode cX4_leastPairing 0 = .ok (.iload_n 2, 1) by decide +kernel) 2 rfl ?_
  refine y_aload_n (show decode cX4_leastPairing 1 = .ok (.aload_n 0, 1) by decide +kernel) 0 rfl ?_
  refine y_getf a 9 0 36 (by omega) (by rcases c1 with rfl | rfl <;> rfl) (by decide) (by decide) q1_194 (show decode cX4_leastPairing 2 = .ok (.getfield 36, 3) by decide +kernel) (v := .inr (.inr ((a + 1) + 1))) (by rcases c1 with rfl | rfl <;> rfl) ?_
  refine y_getf (a + 1) 5 1 40 (by omega) (by rcases c1 with rfl | rfl <;> rfl) (by decide) (by decide) q1_150 (show decode cX4_leastPairing 5 = .ok (.getfield 40, 3) by decide +kernel) (v := .inl (σ (a + 1) 1)) (by rcases c1 with rfl | rfl <;> rfl) ?_
  by_cases c2 : c < (σ (a + 1) 1)
  · rw [if_pos c2] at h
    refine y_icmp_lt_t (tgt := 13) (show decode cX4_leastPairing 8 = .ok (.if_icmp .lt 5, 3) by decide +kernel) rfl c2 ?_
    refine y_iload_n (show decode cX4_leastPairing 13 = .ok (.iload_n 1, 1) by decide +kernel) 1 rfl ?_
    refine y_iload_n (show decode cX4_leastPairing 14 = .ok (.iload_n 2, 1) by decide +kernel) 2 rfl ?_
    refine y_ishr (show decode cX4_leastPairing 15 = .ok (.ishr, 1) by decide +kernel) ?_
    refine y_iconst (show decode cX4_leastPairing 16 = .ok (.iconst 1, 1) by decide +kernel) rfl ?_
    refine y_iand (show decode cX4_leastPairing 17 = .ok (.iand, 1) by decide +kernel) ?_
    by_cases c3 : ¬ (b32and (b32shr b c) 1) = 0
    · rw [if_pos c3] at h
      refine y_if_ne_t (tgt := 30) (show decode cX4_leastPairing 18 = .ok (.ifCond .ne 12, 3) by decide +kernel) rfl c3 ?_
      refine y_ldc (k := 1000000) (show decode cX4_leastPairing 30 = .ok (.ldc 57, 2) by decide +kernel) q5_186 rfl rfl ?_
      refine y_istore_n (show decode cX4_leastPairing 32 = .ok (.istore_n 3, 1) by decide +kernel) rfl (L1 := [(3, .inl 1000000), (0, .inr (.inr (a + 1))), (1, .inl b), (2, .inl c)]) rfl ?_
      refine y_iload_n (show decode cX4_leastPairing 33 = .ok (.iload_n 2, 1) by decide +kernel) 3 rfl ?_
      refine y_iconst (show decode cX4_leastPairing 34 = .ok (.iconst 1, 1) by decide +kernel) rfl ?_
      obtain ⟨c4, h⟩ := chkI_some h
      refine y_iadd (show decode cX4_leastPairing 35 = .ok (.iadd, 1) by decide +kernel) c4 ?_
      refine y_istore (show decode cX4_leastPairing 36 = .ok (.istore 4, 2) by decide +kernel) rfl (L1 := [(4, .inl (c + 1)), (3, .inl 1000000), (0, .inr (.inr (a + 1))), (1, .inl b), (2, .inl c)]) rfl ?_
      refine y_pick [2, 3, 4, 1, 0] rfl ?_
      refine loop2_ind (P := fun x5 x6 => Y E MX4_leastPairing (yRm (1 + dp + 1) 0 0) (yQf E (150 + 0) 0 0 (some (.inl ρ)) (ov σ)) 38 [(0, .inr (.inr (a + 1))), (1, .inl b), (2, .inl c), (3, .inl x5), (4, .inl x6)] [] (ov σ) 150 0 0) (fun k7 hk7 x5 x6 h => ?_) _ _ _  h
      refine y_iload (show decode cX4_leastPairing 38 = .ok (.iload 4, 2) by decide +kernel) 4 rfl ?_
      refine y_aload_n (show decode cX4_leastPairing 40 = .ok (.aload_n 0, 1) by decide +kernel) 0 rfl ?_
      refine y_getf a 9 0 36 (by omega) (by rcases c1 with rfl | rfl <;> rfl) (by decide) (by decide) q1_194 (show decode cX4_leastPairing 41 = .ok (.getfield 36, 3) by decide +kernel) (v := .inr (.inr ((a + 1) + 1))) (by rcases c1 with rfl | rfl <;> rfl) ?_
      refine y_getf (a + 1) 5 1 40 (by omega) (by rcases c1 with rfl | rfl <;> rfl) (by decide) (by decide) q1_150 (show decode cX4_leastPairing 44 = .ok (.getfield 40, 3) by decide +kernel) (v := .inl (σ (a + 1) 1)) (by rcases c1 with rfl | rfl <;> rfl) ?_
      by_cases c8 : x6 ≥ (σ (a + 1) 1)
      · rw [if_pos c8] at h
        refine y_icmp_ge_t (tgt := 103) (show decode cX4_leastPairing 47 = .ok (.if_icmp .ge 56, 3) by decide +kernel) rfl c8 ?_
        refine y_iload_n (show decode cX4_leastPairing 103 = .ok (.iload_n 3, 1) by decide +kernel) 3 rfl ?_
        cases h
        exact y_iret (show decode cX4_leastPairing 104 = .ok (.ireturn, 1) by decide +kernel) rfl
      · rw [if_neg c8] at h
        refine y_icmp_ge_f (show decode cX4_leastPairing 47 = .ok (.if_icmp .ge 56, 3) by decide +kernel) c8 (by decide) ?_
        refine y_iload_n (show decode cX4_leastPairing 50 = .ok (.iload_n 1, 1) by decide +kernel) 1 rfl ?_
        refine y_iload (show decode cX4_leastPairing 51 = .ok (.iload 4, 2) by decide +kernel) 4 rfl ?_
        refine y_ishr (show decode cX4_leastPairing 53 = .ok (.ishr, 1) by decide +kernel) ?_
        refine y_iconst (show decode cX4_leastPairing 54 = .ok (.iconst 1, 1) by decide +kernel) rfl ?_
        refine y_iand (show decode cX4_leastPairing 55 = .ok (.iand, 1) by decide +kernel) ?_
        refine y_iconst (show decode cX4_leastPairing 56 = .ok (.iconst 1, 1) by decide +kernel) rfl ?_
        refine bnd_j (Q := fun j10 => ∀ (y9 : Int), j10 y9 = some ρ → Y E MX4_leastPairing (yRm (1 + dp + 1) 0 0) (yQf E (150 + 0) 0 0 (some (.inl ρ)) (ov σ)) 97 [(0, .inr (.inr (a + 1))), (1, .inl b), (2, .inl c), (3, .inl y9), (4, .inl x6)] [] (ov σ) 150 0 0) (fun y9 h => ?_) (fun j10 hj10 h => ?_) h
        · dsimp only at h
          obtain ⟨c11, h⟩ := chkI_some h
          refine y_iinc (show decode cX4_leastPairing 97 = .ok (.iinc 4 1, 3) by decide +kernel) 4 rfl c11 rfl (L1 := [(4, .inl (x6 + 1)), (0, .inr (.inr (a + 1))), (1, .inl b), (2, .inl c), (3, .inl y9)]) rfl ?_
          refine y_goto (tgt := 38) (show decode cX4_leastPairing 100 = .ok (.goto (-62), 3) by decide +kernel) rfl ?_
          refine y_pick [1, 2, 3, 4, 0] rfl ?_
          exact hk7 _ _ h
        by_cases c12 : ¬ (b32and (b32shr b x6) 1) = 1
        · rw [if_pos c12] at h
          refine y_icmp_ne_t (tgt := 97) (show decode cX4_leastPairing 57 = .ok (.if_icmp .ne 40, 3) by decide +kernel) rfl c12 ?_
          refine y_pick [0, 1, 2, 3, 4] rfl ?_
          exact hj10 _ h
        · rw [if_neg c12] at h
          refine y_icmp_ne_f (show decode cX4_leastPairing 57 = .ok (.if_icmp .ne 40, 3) by decide +kernel) c12 (by decide) ?_
          refine y_aload_n (show decode cX4_leastPairing 60 = .ok (.aload_n 0, 1) by decide +kernel) 0 rfl ?_
          refine y_iload_n (show decode cX4_leastPairing 61 = .ok (.iload_n 1, 1) by decide +kernel) 1 rfl ?_
          refine y_iconst (show decode cX4_leastPairing 62 = .ok (.iconst 1, 1) by decide +kernel) rfl ?_
          refine y_iload (show decode cX4_leastPairing 63 = .ok (.iload 4, 2) by decide +kernel) 4 rfl ?_
          refine y_ishl (show decode cX4_leastPairing 65 = .ok (.ishl, 1) by decide +kernel) ?_
          refine y_iconst (show decode cX4_leastPairing 66 = .ok (.iconst (-1), 1) by decide +kernel) rfl ?_
          refine y_ixor (show decode cX4_leastPairing 67 = .ok (.ixor, 1) by decide +kernel) ?_
          refine y_iand (show decode cX4_leastPairing 68 = .ok (.iand, 1) by decide +kernel) ?_
          refine y_iload_n (show decode cX4_leastPairing 69 = .ok (.iload_n 2, 1) by decide +kernel) 2 rfl ?_
          refine y_iconst (show decode cX4_leastPairing 70 = .ok (.iconst 1, 1) by decide +kernel) rfl ?_
          obtain ⟨c13, h⟩ := chkI_some h
          refine y_iadd (show decode cX4_leastPairing 71 = .ok (.iadd, 1) by decide +kernel) c13 ?_
          obtain ⟨r15, e14, h⟩ := bndO_some h
          refine y_callS (np := 3) (st := []) (as := [.inr (.inr (a + 1)), .inl (b32and b (b32xor (b32shl 1 x6) (-1))), .inl (c + 1)]) (hrec_leastPairing e14) q5_185 q5_183 q5_184 q1_4 (by decide) (by decide +kernel) (by simp only [yRm, MX4_leastPairing]; omega) rfl (Nat.le_of_ble_eq_true rfl) (show decode cX4_leastPairing 72 = .ok (.invokestatic 53, 3) by decide +kernel) rfl ?_
          refine y_istore (show decode cX4_leastPairing 75 = .ok (.istore 5, 2) by decide +kernel) rfl (L1 := [(5, .inl r15), (0, .inr (.inr (a + 1))), (1, .inl b), (2, .inl c), (3, .inl x5), (4, .inl x6)]) rfl ?_
          refine y_iload_n (show decode cX4_leastPairing 77 = .ok (.iload_n 3, 1) by decide +kernel) 4 rfl ?_
          refine y_aload_n (show decode cX4_leastPairing 78 = .ok (.aload_n 0, 1) by decide +kernel) 1 rfl ?_
          refine y_getf a 9 11 58 (by omega) (by rcases c1 with rfl | rfl <;> rfl) (by decide) (by decide) q1_239 (show decode cX4_leastPairing 79 = .ok (.getfield 58, 3) by decide +kernel) (v := .inr (.inr ((a + 15) + 1))) (by rcases c1 with rfl | rfl <;> rfl) ?_
          refine y_iload_n (show decode cX4_leastPairing 82 = .ok (.iload_n 2, 1) by decide +kernel) 3 rfl ?_
          refine y_bipush (show decode cX4_leastPairing 83 = .ok (.bipush 6, 2) by decide +kernel) rfl rfl ?_
          obtain ⟨c16, h⟩ := chkI_some h
          refine y_imul (show decode cX4_leastPairing 85 = .ok (.imul, 1) by decide +kernel) c16 ?_
          refine y_iload (show decode cX4_leastPairing 86 = .ok (.iload 4, 2) by decide +kernel) 5 rfl ?_
          obtain ⟨c17, h⟩ := chkI_some h
          refine y_iadd (show decode cX4_leastPairing 88 = .ok (.iadd, 1) by decide +kernel) c17 ?_
          obtain ⟨c18, h⟩ := chkA_some h
          refine yo_iald (a + 15) 36 (by omega) (by rcases c1 with rfl | rfl <;> rfl) c18 (ov_at (by rcases c1 with rfl | rfl <;> rfl)) (show decode cX4_leastPairing 89 = .ok (.iaload, 1) by decide +kernel) ?_
          refine y_iload (show decode cX4_leastPairing 90 = .ok (.iload 5, 2) by decide +kernel) 0 rfl ?_
          obtain ⟨c19, h⟩ := chkI_some h
          refine y_iadd (show decode cX4_leastPairing 92 = .ok (.iadd, 1) by decide +kernel) c19 ?_
          obtain ⟨r21, e20, h⟩ := bndO_some h
          refine y_callS (np := 2) (st := []) (as := [.inl x5, .inl ((σ (a + 15) (((c * 6) + x6)).toNat) + r15)]) (sh_jM_min_7cf53 e20) q2_116 q5_187 q2_115 q1_11 (by decide) (by decide +kernel) (by simp only [yRm, MJ9_min_7cf53]; omega) rfl (Nat.le_of_ble_eq_true rfl) (show decode cX4_leastPairing 93 = .ok (.invokestatic 61, 3) by decide +kernel) rfl ?_
          refine y_istore_n (show decode cX4_leastPairing 96 = .ok (.istore_n 3, 1) by decide +kernel) rfl (L1 := [(3, .inl r21), (5, .inl r15), (0, .inr (.inr (a + 1))), (1, .inl b), (2, .inl c), (4, .inl x6)]) rfl ?_
          refine y_pick [2, 3, 4, 0, 5] rfl ?_
          exact hj10 _ h
    · rw [if_neg c3] at h
      refine y_if_ne_f (show decode cX4_leastPairing 18 = .ok (.ifCond .ne 12, 3) by decide +kernel) c3 (by decide) ?_
      refine y_aload_n (show decode cX4_leastPairing 21 = .ok (.aload_n 0, 1) by decide +kernel) 0 rfl ?_
      refine y_iload_n (show decode cX4_leastPairing 22 = .ok (.iload_n 1, 1) by decide +kernel) 1 rfl ?_
      refine y_iload_n (show decode cX4_leastPairing 23 = .ok (.iload_n 2, 1) by decide +kernel) 2 rfl ?_
      refine y_iconst (show decode cX4_leastPairing 24 = .ok (.iconst 1, 1) by decide +kernel) rfl ?_
      obtain ⟨c22, h⟩ := chkI_some h
      refine y_iadd (show decode cX4_leastPairing 25 = .ok (.iadd, 1) by decide +kernel) c22 ?_
      obtain ⟨r24, e23, h⟩ := bndO_some h
      refine y_callS (np := 3) (st := []) (as := [.inr (.inr (a + 1)), .inl b, .inl (c + 1)]) (hrec_leastPairing e23) q5_185 q5_183 q5_184 q1_4 (by decide) (by decide +kernel) (by simp only [yRm, MX4_leastPairing]; omega) rfl (Nat.le_of_ble_eq_true rfl) (show decode cX4_leastPairing 26 = .ok (.invokestatic 53, 3) by decide +kernel) rfl ?_
      cases h
      exact y_iret (show decode cX4_leastPairing 29 = .ok (.ireturn, 1) by decide +kernel) rfl
  · rw [if_neg c2] at h
    refine y_icmp_lt_f (show decode cX4_leastPairing 8 = .ok (.if_icmp .lt 5, 3) by decide +kernel) c2 (by decide) ?_
    refine y_iconst (show decode cX4_leastPairing 11 = .ok (.iconst 0, 1) by decide +kernel) rfl ?_
    cases h
    exact y_iret (show decode cX4_leastPairing 12 = .ok (.ireturn, 1) by decide +kernel) rfl
def cEa_pair (N : Nat) : Nat → Nat → Nat → Int → Int → ySt → Option (Int)
  | 0, _, _, _, _, _ => none
  | d + 1, t, v0, v1, v2, v3 => if t = 0 then cEa_leastPairing_b (cEa_pair N d) N v0 v1 v2 v3 else none
theorem sh_cEa_pair {E : yE} {N : Nat} : ∀ dp : Nat, (∀ (a : Nat) (b : Int) (c : Int) (σ : ySt) (ρ : Int), cEa_pair N dp 0 a b c σ = some ρ → Con E MX4_leastPairing (1 + dp) 0 0 [.inr (.inr (a + 1)), .inl b, .inl c] 150 (ov σ) (some (.inl ρ)) (ov σ))
  | 0 => by intro a b c σ ρ h <;> cases h
  | dp + 1 => by
    have IH := @sh_cEa_pair E N dp
    have ih0 := IH
    · intro a b c σ ρ h
      exact shb_cEa_leastPairing (fun h => ih0 _ _ _ _ _ h) (by simpa [cEa_pair] using h)
theorem sh_cEa_pair_leastPairing {E : yE} {N dp : Nat} {a : Nat} {b : Int} {c : Int} {σ : ySt} {ρ : Int} (h : cEa_pair N dp 0 a b c σ = some ρ) : Con E MX4_leastPairing (1 + dp) 0 0 [.inr (.inr (a + 1)), .inl b, .inl c] 150 (ov σ) (some (.inl ρ)) (ov σ) := (sh_cEa_pair dp) _ _ _ _ _ h
abbrev MX4_leastMending : yM := (yX4_leastMending, cX4_leastMending, 4, some .int)
def cEa_leastMending (N : Nat) (o : Nat) (a : Nat) (σ : ySt) : Option (Int) :=
  chk (o = 9 ∨ o = 83 ∨ o = 86 ∨ o = 89) <|
  chk (a = 13 ∨ a = 33) <|
  loop2 (fun k5 x3 x4 =>
    if x4 ≥ (σ (a + 1) 1) then
      bndO (cEa_pair N 10 0 a x3 0 σ) fun r8 =>
      if r8 ≥ 1000000 then
        some (-1)
      else
        some r8
    else
      bndO (cTw_crowd N a (o + 1) 0 x4 σ) fun r11 =>
      chk ((2 : Int) ≠ 0) <|
      chkI ((r11 : Int).tmod 2) <|
      chkI (x4 + 1) <|
      k5 (b32or x3 (b32shl ((r11 : Int).tmod 2) x4)) (x4 + 1)) N 0 0
set_option maxHeartbeats 4000000 in
set_option maxRecDepth 10000 in
theorem sh_cEa_leastMending {E : yE} {N : Nat} {o : Nat} {a : Nat} {σ : ySt} {ρ : Int} (h : cEa_leastMending N o a σ = some ρ) : Con E MX4_leastMending 12 0 0 [.inr (.inr (o + 1)), .inr (.inr (a + 1))] 150 (ov σ) (some (.inl ρ)) (ov σ) := by
  unfold cEa_leastMending at h
  refine Con.ofY (by decide +kernel) (by simp [yWords, yCat]) (fun hok _ => ?_)
  show Y E MX4_leastMending (yRm 12 0 0) (yQf E (150 + 0) 0 0 (some (.inl ρ)) (ov σ)) 0 [(0, .inr (.inr (o + 1))), (1, .inr (.inr (a + 1)))] [] (ov σ) 150 0 0
  obtain ⟨c1, h⟩ := chk_some h
  obtain ⟨c2, h⟩ := chk_some h
  refine y_iconst (show decode cX4_leastMending 0 = .ok (.iconst 0, 1) by decide +kernel) rfl ?_
  refine y_istore_n (show decode cX4_leastMending 1 = .ok (.istore_n 2, 1) by decide +kernel) rfl (L1 := [(2, .inl 0), (0, .inr (.inr (o + 1))), (1, .inr (.inr (a + 1)))]) rfl ?_
  refine y_iconst (show decode cX4_leastMending 2 = .ok (.iconst 0, 1) by decide +kernel) rfl ?_
  refine y_istore_n (show decode cX4_leastMending 3 = .ok (.istore_n 3, 1) by decide +kernel) rfl (L1 := [(3, .inl 0), (2, .inl 0), (0, .inr (.inr (o + 1))), (1, .inr (.inr (a + 1)))]) rfl ?_
  refine y_pick [2, 3, 1, 0] rfl ?_
  refine loop2_ind (P := fun x3 x4 => Y E MX4_leastMending (yRm 12 0 0) (yQf E (150 + 0) 0 0 (some (.inl ρ)) (ov σ)) 4 [(0, .inr (.inr (o + 1))), (1, .inr (.inr (a + 1))), (2, .inl x3), (3, .inl x4)] [] (ov σ) 150 0 0) (fun k5 hk5 x3 x4 h => ?_) _ _ _  h
  refine y_iload_n (show decode cX4_leastMending 4 = .ok (.iload_n 3, 1) by decide +kernel) 3 rfl ?_
  refine y_aload_n (show decode cX4_leastMending 5 = .ok (.aload_n 1, 1) by decide +kernel) 1 rfl ?_
  refine y_getf a 9 0 36 (by omega) (by rcases c2 with rfl | rfl <;> rfl) (by decide) (by decide) q1_194 (show decode cX4_leastMending 6 = .ok (.getfield 36, 3) by decide +kernel) (v := .inr (.inr ((a + 1) + 1))) (by rcases c2 with rfl | rfl <;> rfl) ?_
  refine y_getf (a + 1) 5 1 40 (by omega) (by rcases c2 with rfl | rfl <;> rfl) (by decide) (by decide) q1_150 (show decode cX4_leastMending 9 = .ok (.getfield 40, 3) by decide +kernel) (v := .inl (σ (a + 1) 1)) (by rcases c2 with rfl | rfl <;> rfl) ?_
  by_cases c6 : x4 ≥ (σ (a + 1) 1)
  · rw [if_pos c6] at h
    refine y_icmp_ge_t (tgt := 38) (show decode cX4_leastMending 12 = .ok (.if_icmp .ge 26, 3) by decide +kernel) rfl c6 ?_
    refine y_aload_n (show decode cX4_leastMending 38 = .ok (.aload_n 1, 1) by decide +kernel) 1 rfl ?_
    refine y_iload_n (show decode cX4_leastMending 39 = .ok (.iload_n 2, 1) by decide +kernel) 2 rfl ?_
    refine y_iconst (show decode cX4_leastMending 40 = .ok (.iconst 0, 1) by decide +kernel) rfl ?_
    obtain ⟨r8, e7, h⟩ := bndO_some h
    refine y_callS (np := 3) (st := []) (as := [.inr (.inr (a + 1)), .inl x3, .inl 0]) (sh_cEa_pair_leastPairing e7) q5_185 q5_183 q5_184 q1_4 (by decide) (by decide +kernel) (by decide) rfl (Nat.le_of_ble_eq_true rfl) (show decode cX4_leastMending 41 = .ok (.invokestatic 53, 3) by decide +kernel) rfl ?_
    refine y_istore_n (show decode cX4_leastMending 44 = .ok (.istore_n 3, 1) by decide +kernel) rfl (L1 := [(3, .inl r8), (0, .inr (.inr (o + 1))), (1, .inr (.inr (a + 1))), (2, .inl x3)]) rfl ?_
    refine y_iload_n (show decode cX4_leastMending 45 = .ok (.iload_n 3, 1) by decide +kernel) 0 rfl ?_
    refine y_ldc (k := 1000000) (show decode cX4_leastMending 46 = .ok (.ldc 57, 2) by decide +kernel) q5_186 rfl rfl ?_
    by_cases c9 : r8 ≥ 1000000
    · rw [if_pos c9] at h
      refine y_icmp_ge_t (tgt := 55) (show decode cX4_leastMending 48 = .ok (.if_icmp .ge 7, 3) by decide +kernel) rfl c9 ?_
      refine y_iconst (show decode cX4_leastMending 55 = .ok (.iconst (-1), 1) by decide +kernel) rfl ?_
      cases h
      exact y_iret (show decode cX4_leastMending 56 = .ok (.ireturn, 1) by decide +kernel) rfl
    · rw [if_neg c9] at h
      refine y_icmp_ge_f (show decode cX4_leastMending 48 = .ok (.if_icmp .ge 7, 3) by decide +kernel) c9 (by decide) ?_
      refine y_iload_n (show decode cX4_leastMending 51 = .ok (.iload_n 3, 1) by decide +kernel) 0 rfl ?_
      refine y_goto (tgt := 56) (show decode cX4_leastMending 52 = .ok (.goto 4, 3) by decide +kernel) rfl ?_
      cases h
      exact y_iret (show decode cX4_leastMending 56 = .ok (.ireturn, 1) by decide +kernel) rfl
  · rw [if_neg c6] at h
    refine y_icmp_ge_f (show decode cX4_leastMending 12 = .ok (.if_icmp .ge 26, 3) by decide +kernel) c6 (by decide) ?_
    refine y_iload_n (show decode cX4_leastMending 15 = .ok (.iload_n 2, 1) by decide +kernel) 2 rfl ?_
    refine y_aload_n (show decode cX4_leastMending 16 = .ok (.aload_n 1, 1) by decide +kernel) 1 rfl ?_
    refine y_aload_n (show decode cX4_leastMending 17 = .ok (.aload_n 0, 1) by decide +kernel) 0 rfl ?_
    refine y_getf o 4 0 9 (by omega) (by rcases c1 with rfl | rfl | rfl | rfl <;> rfl) (by decide) (by decide) q1_111 (show decode cX4_leastMending 18 = .ok (.getfield 9, 3) by decide +kernel) (v := .inr (.inr ((o + 1) + 1))) (by rcases c1 with rfl | rfl | rfl | rfl <;> rfl) ?_
    refine y_iconst (show decode cX4_leastMending 21 = .ok (.iconst 0, 1) by decide +kernel) rfl ?_
    refine y_iload_n (show decode cX4_leastMending 22 = .ok (.iload_n 3, 1) by decide +kernel) 3 rfl ?_
    obtain ⟨r11, e10, h⟩ := bndO_some h
    refine y_callV (np := 3) (st := [.inl x3]) (as := [.inr (.inr ((o + 1) + 1)), .inl 0, .inl x4]) a 9 (sh_cTw_crowd e10) q4_200 q5_182 q4_198 q4_199 q1_5 (by omega) (by rcases c2 with rfl | rfl <;> rfl) (by decide) rfl (by decide) (by decide +kernel) (by decide) rfl (Nat.le_of_ble_eq_true rfl) (show decode cX4_leastMending 23 = .ok (.invokevirtual 45, 3) by decide +kernel) rfl ?_
    refine y_iconst (show decode cX4_leastMending 26 = .ok (.iconst 2, 1) by decide +kernel) rfl ?_
    obtain ⟨c12, h⟩ := chk_some h
    obtain ⟨c13, h⟩ := chkI_some h
    refine y_irem (show decode cX4_leastMending 27 = .ok (.irem, 1) by decide +kernel) c12 c13 ?_
    refine y_iload_n (show decode cX4_leastMending 28 = .ok (.iload_n 3, 1) by decide +kernel) 3 rfl ?_
    refine y_ishl (show decode cX4_leastMending 29 = .ok (.ishl, 1) by decide +kernel) ?_
    refine y_ior (show decode cX4_leastMending 30 = .ok (.ior, 1) by decide +kernel) ?_
    refine y_istore_n (show decode cX4_leastMending 31 = .ok (.istore_n 2, 1) by decide +kernel) rfl (L1 := [(2, .inl (b32or x3 (b32shl ((r11 : Int).tmod 2) x4))), (0, .inr (.inr (o + 1))), (1, .inr (.inr (a + 1))), (3, .inl x4)]) rfl ?_
    obtain ⟨c14, h⟩ := chkI_some h
    refine y_iinc (show decode cX4_leastMending 32 = .ok (.iinc 3 1, 3) by decide +kernel) 3 rfl c14 rfl (L1 := [(3, .inl (x4 + 1)), (2, .inl (b32or x3 (b32shl ((r11 : Int).tmod 2) x4))), (0, .inr (.inr (o + 1))), (1, .inr (.inr (a + 1)))]) rfl ?_
    refine y_goto (tgt := 4) (show decode cX4_leastMending 35 = .ok (.goto (-31), 3) by decide +kernel) rfl ?_
    refine y_pick [2, 3, 1, 0] rfl ?_
    exact hk5 _ _ h
abbrev MX5_isFull : yM := (yX5_isFull, cX5_isFull, 1, some .boolean)
def cNm_isFull (o : Nat) (σ : ySt) : Option (Int) :=
  chk (o = 14 ∨ o = 16 ∨ o = 18 ∨ o = 34 ∨ o = 36 ∨ o = 38) <|
  if (σ o 1) < (yKd (o + 1)).2 then
    some 0
  else
    some 1
set_option maxHeartbeats 4000000 in
set_option maxRecDepth 10000 in
theorem sh_cNm_isFull {E : yE} {o : Nat} {σ : ySt} {ρ : Int} (h : cNm_isFull o σ = some ρ) : Con E MX5_isFull 0 0 0 [.inr (.inr (o + 1))] 150 (ov σ) (some (.inl ρ)) (ov σ) := by
  unfold cNm_isFull at h
  refine Con.ofY (by decide +kernel) (by simp [yWords, yCat]) (fun hok _ => ?_)
  show Y E MX5_isFull (yRm 0 0 0) (yQf E (150 + 0) 0 0 (some (.inl ρ)) (ov σ)) 0 [(0, .inr (.inr (o + 1)))] [] (ov σ) 150 0 0
  obtain ⟨c1, h⟩ := chk_some h
  refine y_aload_n (show decode cX5_isFull 0 = .ok (.aload_n 0, 1) by decide +kernel) 0 rfl ?_
  refine y_getf o 5 1 15 (by omega) (by rcases c1 with rfl | rfl | rfl | rfl | rfl | rfl <;> rfl) (by decide) (by decide) q1_145 (show decode cX5_isFull 1 = .ok (.getfield 15, 3) by decide +kernel) (v := .inl (σ o 1)) (by rcases c1 with rfl | rfl | rfl | rfl | rfl | rfl <;> rfl) ?_
  refine y_aload_n (show decode cX5_isFull 4 = .ok (.aload_n 0, 1) by decide +kernel) 0 rfl ?_
  refine y_getf o 5 0 9 (by omega) (by rcases c1 with rfl | rfl | rfl | rfl | rfl | rfl <;> rfl) (by decide) (by decide) q1_144 (show decode cX5_isFull 5 = .ok (.getfield 9, 3) by decide +kernel) (v := .inr (.inr ((o + 1) + 1))) (by rcases c1 with rfl | rfl | rfl | rfl | rfl | rfl <;> rfl) ?_
  refine y_alen (o + 1) 21 (yKd (o + 1)).2 (by omega) (by rcases c1 with rfl | rfl | rfl | rfl | rfl | rfl <;> rfl) (by decide) (by decide) (yLen_ok (by omega)) (show decode cX5_isFull 8 = .ok (.arraylength, 1) by decide +kernel) ?_
  by_cases c2 : (σ o 1) < (yKd (o + 1)).2
  · rw [if_pos c2] at h
    refine y_icmp_lt_t (tgt := 16) (show decode cX5_isFull 9 = .ok (.if_icmp .lt 7, 3) by decide +kernel) rfl c2 ?_
    refine y_iconst (show decode cX5_isFull 16 = .ok (.iconst 0, 1) by decide +kernel) rfl ?_
    cases h
    exact y_zret (show decode cX5_isFull 17 = .ok (.ireturn, 1) by decide +kernel) rfl (Or.inl rfl)
  · rw [if_neg c2] at h
    refine y_icmp_lt_f (show decode cX5_isFull 9 = .ok (.if_icmp .lt 7, 3) by decide +kernel) c2 (by decide) ?_
    refine y_iconst (show decode cX5_isFull 12 = .ok (.iconst 1, 1) by decide +kernel) rfl ?_
    refine y_goto (tgt := 17) (show decode cX5_isFull 13 = .ok (.goto 4, 3) by decide +kernel) rfl ?_
    cases h
    exact y_zret (show decode cX5_isFull 17 = .ok (.ireturn, 1) by decide +kernel) rfl (Or.inr rfl)
abbrev MX5_find : yM := (yX5_find, cX5_find, 4, some .int)
def cNm_find (N : Nat) (o : Nat) (a : Int) (σ : ySt) : Option (Int) :=
  chk (o = 14 ∨ o = 16 ∨ o = 18 ∨ o = 34 ∨ o = 36 ∨ o = 38) <|
  loop1 (fun k3 x2 =>
    if x2 ≥ (σ o 1) then
      some (-1)
    else
      chkA (yKd (o + 1)).2 x2 <|
      if ¬ (blcmp (σ (o + 1) (x2).toNat) a) = 0 then
        chkI (x2 + 1) <|
        k3 (x2 + 1)
      else
        some x2) N 0
set_option maxHeartbeats 4000000 in
set_option maxRecDepth 10000 in
theorem sh_cNm_find {E : yE} {N : Nat} {o : Nat} {a : Int} {σ : ySt} {ρ : Int} (h : cNm_find N o a σ = some ρ) : Con E MX5_find 0 0 0 [.inr (.inr (o + 1)), .inr (.inl a)] 150 (ov σ) (some (.inl ρ)) (ov σ) := by
  unfold cNm_find at h
  refine Con.ofY (by decide +kernel) (by simp [yWords, yCat]) (fun hok _ => ?_)
  show Y E MX5_find (yRm 0 0 0) (yQf E (150 + 0) 0 0 (some (.inl ρ)) (ov σ)) 0 [(0, .inr (.inr (o + 1))), (1, .inr (.inl a))] [] (ov σ) 150 0 0
  obtain ⟨c1, h⟩ := chk_some h
  refine y_iconst (show decode cX5_find 0 = .ok (.iconst 0, 1) by decide +kernel) rfl ?_
  refine y_istore_n (show decode cX5_find 1 = .ok (.istore_n 3, 1) by decide +kernel) rfl (L1 := [(3, .inl 0), (0, .inr (.inr (o + 1))), (1, .inr (.inl a))]) rfl ?_
  refine y_pick [1, 2, 0] rfl ?_
  refine loop1_ind (P := fun x2 => Y E MX5_find (yRm 0 0 0) (yQf E (150 + 0) 0 0 (some (.inl ρ)) (ov σ)) 2 [(0, .inr (.inr (o + 1))), (1, .inr (.inl a)), (3, .inl x2)] [] (ov σ) 150 0 0) (fun k3 hk3 x2 h => ?_) _ _  h
  refine y_iload_n (show decode cX5_find 2 = .ok (.iload_n 3, 1) by decide +kernel) 2 rfl ?_
  refine y_aload_n (show decode cX5_find 3 = .ok (.aload_n 0, 1) by decide +kernel) 0 rfl ?_
  refine y_getf o 5 1 15 (by omega) (by rcases c1 with rfl | rfl | rfl | rfl | rfl | rfl <;> rfl) (by decide) (by decide) q1_145 (show decode cX5_find 4 = .ok (.getfield 15, 3) by decide +kernel) (v := .inl (σ o 1)) (by rcases c1 with rfl | rfl | rfl | rfl | rfl | rfl <;> rfl) ?_
  by_cases c4 : x2 ≥ (σ o 1)
  · rw [if_pos c4] at h
    refine y_icmp_ge_t (tgt := 29) (show decode cX5_find 7 = .ok (.if_icmp .ge 22, 3) by decide +kernel) rfl c4 ?_
    refine y_iconst (show decode cX5_find 29 = .ok (.iconst (-1), 1) by decide +kernel) rfl ?_
    cases h
    exact y_iret (show decode cX5_find 30 = .ok (.ireturn, 1) by decide +kernel) rfl
  · rw [if_neg c4] at h
    refine y_icmp_ge_f (show decode cX5_find 7 = .ok (.if_icmp .ge 22, 3) by decide +kernel) c4 (by decide) ?_
    refine y_aload_n (show decode cX5_find 10 = .ok (.aload_n 0, 1) by decide +kernel) 0 rfl ?_
    refine y_getf o 5 0 9 (by omega) (by rcases c1 with rfl | rfl | rfl | rfl | rfl | rfl <;> rfl) (by decide) (by decide) q1_144 (show decode cX5_find 11 = .ok (.getfield 9, 3) by decide +kernel) (v := .inr (.inr ((o + 1) + 1))) (by rcases c1 with rfl | rfl | rfl | rfl | rfl | rfl <;> rfl) ?_
    refine y_iload_n (show decode cX5_find 14 = .ok (.iload_n 3, 1) by decide +kernel) 2 rfl ?_
    obtain ⟨c5, h⟩ := chkA_some h
    refine yo_lald (o + 1) (yKd (o + 1)).2 (by omega) (by rcases c1 with rfl | rfl | rfl | rfl | rfl | rfl <;> rfl) c5 (ov_at (by rcases c1 with rfl | rfl | rfl | rfl | rfl | rfl <;> rfl)) (show decode cX5_find 15 = .ok (.laload, 1) by decide +kernel) ?_
    refine y_lload_n (show decode cX5_find 16 = .ok (.lload_n 1, 1) by decide +kernel) 1 rfl ?_
    refine y_lcmp (show decode cX5_find 17 = .ok (.lcmp, 1) by decide +kernel) ?_
    by_cases c6 : ¬ (blcmp (σ (o + 1) (x2).toNat) a) = 0
    · rw [if_pos c6] at h
      refine y_if_ne_t (tgt := 23) (show decode cX5_find 18 = .ok (.ifCond .ne 5, 3) by decide +kernel) rfl c6 ?_
      obtain ⟨c7, h⟩ := chkI_some h
      refine y_iinc (show decode cX5_find 23 = .ok (.iinc 3 1, 3) by decide +kernel) 2 rfl c7 rfl (L1 := [(3, .inl (x2 + 1)), (0, .inr (.inr (o + 1))), (1, .inr (.inl a))]) rfl ?_
      refine y_goto (tgt := 2) (show decode cX5_find 26 = .ok (.goto (-24), 3) by decide +kernel) rfl ?_
      refine y_pick [1, 2, 0] rfl ?_
      exact hk3 _ h
    · rw [if_neg c6] at h
      refine y_if_ne_f (show decode cX5_find 18 = .ok (.ifCond .ne 5, 3) by decide +kernel) c6 (by decide) ?_
      refine y_iload_n (show decode cX5_find 21 = .ok (.iload_n 3, 1) by decide +kernel) 2 rfl ?_
      cases h
      exact y_iret (show decode cX5_find 22 = .ok (.ireturn, 1) by decide +kernel) rfl
abbrev MX5_add : yM := (yX5_add, cX5_add, 3, some .int)
def cNm_add (o : Nat) (a : Int) (σ : ySt) : Option (Int × ySt) :=
  chk (o = 14 ∨ o = 16 ∨ o = 18 ∨ o = 34 ∨ o = 36 ∨ o = 38) <|
  bndO (cNm_isFull o σ) fun r3 =>
  if r3 = 0 then
    chkA (yKd (o + 1)).2 (σ o 1) <|
    bnd (yset σ (o + 1) ((σ o 1)).toNat a) fun σ6 =>
    chkI ((σ6 o 1) + 1) <|
    bnd (yset σ6 o 1 ((σ6 o 1) + 1)) fun σ9 =>
    chkI ((σ9 o 1) - 1) <|
    some (((σ9 o 1) - 1), σ9)
  else
    some ((-1), σ)
set_option maxHeartbeats 4000000 in
set_option maxRecDepth 10000 in
theorem sh_cNm_add {E : yE} {o : Nat} {a : Int} {σ : ySt} {ρ : Int} {τ : ySt} (h : cNm_add o a σ = some (ρ, τ)) : Con E MX5_add 1 0 0 [.inr (.inr (o + 1)), .inr (.inl a)] 150 (ov σ) (some (.inl ρ)) (ov τ) := by
  unfold cNm_add at h
  refine Con.ofY (by decide +kernel) (by simp [yWords, yCat]) (fun hok _ => ?_)
  show Y E MX5_add (yRm 1 0 0) (yQf E (150 + 0) 0 0 (some (.inl ρ)) (ov τ)) 0 [(0, .inr (.inr (o + 1))), (1, .inr (.inl a))] [] (ov σ) 150 0 0
  obtain ⟨c1, h⟩ := chk_some h
  refine y_aload_n (show decode cX5_add 0 = .ok (.aload_n 0, 1) by decide +kernel) 0 rfl ?_
  obtain ⟨r3, e2, h⟩ := bndO_some h
  refine y_callV (np := 0) (st := []) (as := []) o 5 (sh_cNm_isFull e2) q3_227 q4_14 q3_225 q3_226 q1_6 (by omega) (by rcases c1 with rfl | rfl | rfl | rfl | rfl | rfl <;> rfl) (by decide) rfl (by decide) (by decide +kernel) (by decide) rfl (Nat.le_of_ble_eq_true rfl) (show decode cX5_add 1 = .ok (.invokevirtual 19, 3) by decide +kernel) rfl ?_
  by_cases c4 : r3 = 0
  · rw [if_pos c4] at h
    refine y_if_eq_t (tgt := 9) (show decode cX5_add 4 = .ok (.ifCond .eq 5, 3) by decide +kernel) rfl c4 ?_
    refine y_aload_n (show decode cX5_add 9 = .ok (.aload_n 0, 1) by decide +kernel) 0 rfl ?_
    refine y_getf o 5 0 9 (by omega) (by rcases c1 with rfl | rfl | rfl | rfl | rfl | rfl <;> rfl) (by decide) (by decide) q1_144 (show decode cX5_add 10 = .ok (.getfield 9, 3) by decide +kernel) (v := .inr (.inr ((o + 1) + 1))) (by rcases c1 with rfl | rfl | rfl | rfl | rfl | rfl <;> rfl) ?_
    refine y_aload_n (show decode cX5_add 13 = .ok (.aload_n 0, 1) by decide +kernel) 0 rfl ?_
    refine y_getf o 5 1 15 (by omega) (by rcases c1 with rfl | rfl | rfl | rfl | rfl | rfl <;> rfl) (by decide) (by decide) q1_145 (show decode cX5_add 14 = .ok (.getfield 15, 3) by decide +kernel) (v := .inl (σ o 1)) (by rcases c1 with rfl | rfl | rfl | rfl | rfl | rfl <;> rfl) ?_
    refine y_lload_n (show decode cX5_add 17 = .ok (.lload_n 1, 1) by decide +kernel) 1 rfl ?_
    obtain ⟨c5, h⟩ := chkA_some h
    obtain ⟨σ6, e7, h⟩ := bnd_i h
    refine yo_last (o + 1) (yKd (o + 1)).2 (by omega) (by rcases c1 with rfl | rfl | rfl | rfl | rfl | rfl <;> rfl) c5 (ov_set1 e7 (by rcases c1 with rfl | rfl | rfl | rfl | rfl | rfl <;> rfl)) (show decode cX5_add 18 = .ok (.lastore, 1) by decide +kernel) ?_
    refine y_aload_n (show decode cX5_add 19 = .ok (.aload_n 0, 1) by decide +kernel) 0 rfl ?_
    refine y_dup (show decode cX5_add 20 = .ok (.dup, 1) by decide +kernel) rfl ?_
    refine y_getf o 5 1 15 (by omega) (by rcases c1 with rfl | rfl | rfl | rfl | rfl | rfl <;> rfl) (by decide) (by decide) q1_145 (show decode cX5_add 21 = .ok (.getfield 15, 3) by decide +kernel) (v := .inl (σ6 o 1)) (by rcases c1 with rfl | rfl | rfl | rfl | rfl | rfl <;> rfl) ?_
    refine y_iconst (show decode cX5_add 24 = .ok (.iconst 1, 1) by decide +kernel) rfl ?_
    obtain ⟨c8, h⟩ := chkI_some h
    refine y_iadd (show decode cX5_add 25 = .ok (.iadd, 1) by decide +kernel) c8 ?_
    obtain ⟨σ9, e10, h⟩ := bnd_i h
    refine yo_putI o 5 1 15 (by omega) (by rcases c1 with rfl | rfl | rfl | rfl | rfl | rfl <;> rfl) (by decide) (by decide) q1_145 rfl (show decode cX5_add 26 = .ok (.putfield 15, 3) by decide +kernel) rfl rfl (ov_set1 e10 (by rcases c1 with rfl | rfl | rfl | rfl | rfl | rfl <;> rfl)) ?_
    refine y_aload_n (show decode cX5_add 29 = .ok (.aload_n 0, 1) by decide +kernel) 0 rfl ?_
    refine y_getf o 5 1 15 (by omega) (by rcases c1 with rfl | rfl | rfl | rfl | rfl | rfl <;> rfl) (by decide) (by decide) q1_145 (show decode cX5_add 30 = .ok (.getfield 15, 3) by decide +kernel) (v := .inl (σ9 o 1)) (by rcases c1 with rfl | rfl | rfl | rfl | rfl | rfl <;> rfl) ?_
    refine y_iconst (show decode cX5_add 33 = .ok (.iconst 1, 1) by decide +kernel) rfl ?_
    obtain ⟨c11, h⟩ := chkI_some h
    refine y_isub (show decode cX5_add 34 = .ok (.isub, 1) by decide +kernel) c11 ?_
    cases h
    exact y_iret (show decode cX5_add 35 = .ok (.ireturn, 1) by decide +kernel) rfl
  · rw [if_neg c4] at h
    refine y_if_eq_f (show decode cX5_add 4 = .ok (.ifCond .eq 5, 3) by decide +kernel) c4 (by decide) ?_
    refine y_iconst (show decode cX5_add 7 = .ok (.iconst (-1), 1) by decide +kernel) rfl ?_
    cases h
    exact y_iret (show decode cX5_add 8 = .ok (.ireturn, 1) by decide +kernel) rfl
abbrev MX6_stayFrom : yM := (yX6_stayFrom, cX6_stayFrom, 5, none)
def cPl_stayFrom (N : Nat) (o : Nat) (a : Int) (b : Int) (c : Int) (σ : ySt) : Option (ySt) :=
  chk (o = 54 ∨ o = 56) <|
  loopS1 (fun k4 x2 σ3 =>
    if x2 > 8 then
      some σ3
    else
      chkI (x2 * 5) <|
      chkI ((x2 * 5) + b) <|
      chkA 45 ((x2 * 5) + b) <|
      bnd (yset σ3 (o + 1) (((x2 * 5) + b)).toNat c) fun σ9 =>
      chkI (x2 + 1) <|
      k4 (x2 + 1) σ9) N a σ
set_option maxHeartbeats 4000000 in
set_option maxRecDepth 10000 in
theorem sh_cPl_stayFrom {E : yE} {N : Nat} {o : Nat} {a : Int} {b : Int} {c : Int} {σ : ySt} {τ : ySt} (h : cPl_stayFrom N o a b c σ = some τ) : Con E MX6_stayFrom 0 0 0 [.inr (.inr (o + 1)), .inl a, .inl b, .inl c] 150 (ov σ) none (ov τ) := by
  unfold cPl_stayFrom at h
  refine Con.ofY (by decide +kernel) (by simp [yWords, yCat]) (fun hok _ => ?_)
  show Y E MX6_stayFrom (yRm 0 0 0) (yQf E (150 + 0) 0 0 none (ov τ)) 0 [(0, .inr (.inr (o + 1))), (1, .inl a), (2, .inl b), (3, .inl c)] [] (ov σ) 150 0 0
  obtain ⟨c1, h⟩ := chk_some h
  refine y_iload_n (show decode cX6_stayFrom 0 = .ok (.iload_n 1, 1) by decide +kernel) 1 rfl ?_
  refine y_istore (show decode cX6_stayFrom 1 = .ok (.istore 4, 2) by decide +kernel) rfl (L1 := [(4, .inl a), (0, .inr (.inr (o + 1))), (1, .inl a), (2, .inl b), (3, .inl c)]) rfl ?_
  refine y_pick [1, 3, 4, 0] rfl ?_
  refine loopS1_ind (P := fun x2 σ3 => Y E MX6_stayFrom (yRm 0 0 0) (yQf E (150 + 0) 0 0 none (ov τ)) 3 [(0, .inr (.inr (o + 1))), (2, .inl b), (3, .inl c), (4, .inl x2)] [] (ov σ3) 150 0 0) (fun k4 hk4 x2 σ3 h => ?_) _ _ _  h
  refine y_iload (show decode cX6_stayFrom 3 = .ok (.iload 4, 2) by decide +kernel) 3 rfl ?_
  refine y_bipush (show decode cX6_stayFrom 5 = .ok (.bipush 8, 2) by decide +kernel) rfl rfl ?_
  by_cases c5 : x2 > 8
  · rw [if_pos c5] at h
    refine y_icmp_gt_t (tgt := 28) (show decode cX6_stayFrom 7 = .ok (.if_icmp .gt 21, 3) by decide +kernel) rfl c5 ?_
    cases h
    exact y_vret (show decode cX6_stayFrom 28 = .ok (.return_, 1) by decide +kernel) rfl
  · rw [if_neg c5] at h
    refine y_icmp_gt_f (show decode cX6_stayFrom 7 = .ok (.if_icmp .gt 21, 3) by decide +kernel) c5 (by decide) ?_
    refine y_aload_n (show decode cX6_stayFrom 10 = .ok (.aload_n 0, 1) by decide +kernel) 0 rfl ?_
    refine y_getf o 6 0 9 (by omega) (by rcases c1 with rfl | rfl <;> rfl) (by decide) (by decide) q2_90 (show decode cX6_stayFrom 11 = .ok (.getfield 9, 3) by decide +kernel) (v := .inr (.inr ((o + 1) + 1))) (by rcases c1 with rfl | rfl <;> rfl) ?_
    refine y_iload (show decode cX6_stayFrom 14 = .ok (.iload 4, 2) by decide +kernel) 3 rfl ?_
    refine y_iconst (show decode cX6_stayFrom 16 = .ok (.iconst 5, 1) by decide +kernel) rfl ?_
    obtain ⟨c6, h⟩ := chkI_some h
    refine y_imul (show decode cX6_stayFrom 17 = .ok (.imul, 1) by decide +kernel) c6 ?_
    refine y_iload_n (show decode cX6_stayFrom 18 = .ok (.iload_n 2, 1) by decide +kernel) 1 rfl ?_
    obtain ⟨c7, h⟩ := chkI_some h
    refine y_iadd (show decode cX6_stayFrom 19 = .ok (.iadd, 1) by decide +kernel) c7 ?_
    refine y_iload_n (show decode cX6_stayFrom 20 = .ok (.iload_n 3, 1) by decide +kernel) 2 rfl ?_
    obtain ⟨c8, h⟩ := chkA_some h
    obtain ⟨σ9, e10, h⟩ := bnd_i h
    refine yo_iast (o + 1) 45 (by omega) (by rcases c1 with rfl | rfl <;> rfl) c8 (ov_set1 e10 (by rcases c1 with rfl | rfl <;> rfl)) (show decode cX6_stayFrom 21 = .ok (.iastore, 1) by decide +kernel) ?_
    obtain ⟨c11, h⟩ := chkI_some h
    refine y_iinc (show decode cX6_stayFrom 22 = .ok (.iinc 4 1, 3) by decide +kernel) 3 rfl c11 rfl (L1 := [(4, .inl (x2 + 1)), (0, .inr (.inr (o + 1))), (2, .inl b), (3, .inl c)]) rfl ?_
    refine y_goto (tgt := 3) (show decode cX6_stayFrom 25 = .ok (.goto (-22), 3) by decide +kernel) rfl ?_
    refine y_pick [1, 2, 3, 0] rfl ?_
    exact hk4 _ _ h
abbrev MX6_stayHome : yM := (yX6_stayHome, cX6_stayHome, 3, none)
def cPl_stayHome (N : Nat) (o : Nat) (a : Nat) (σ : ySt) : Option (ySt) :=
  chk (o = 54 ∨ o = 56) <|
  chk (a = 13 ∨ a = 33) <|
  loopS1 (fun k5 x3 σ4 =>
    if x3 ≥ (σ4 (a + 3) 1) then
      some σ4
    else
      chkA 5 x3 <|
      bndO (cPl_stayFrom N o 0 x3 (σ4 (a + 8) (x3).toNat) σ4) fun σ9 =>
      chkI (x3 + 1) <|
      k5 (x3 + 1) σ9) N 0 σ
set_option maxHeartbeats 4000000 in
set_option maxRecDepth 10000 in
theorem sh_cPl_stayHome {E : yE} {N : Nat} {o : Nat} {a : Nat} {σ : ySt} {τ : ySt} (h : cPl_stayHome N o a σ = some τ) : Con E MX6_stayHome 1 0 0 [.inr (.inr (o + 1)), .inr (.inr (a + 1))] 150 (ov σ) none (ov τ) := by
  unfold cPl_stayHome at h
  refine Con.ofY (by decide +kernel) (by simp [yWords, yCat]) (fun hok _ => ?_)
  show Y E MX6_stayHome (yRm 1 0 0) (yQf E (150 + 0) 0 0 none (ov τ)) 0 [(0, .inr (.inr (o + 1))), (1, .inr (.inr (a + 1)))] [] (ov σ) 150 0 0
  obtain ⟨c1, h⟩ := chk_some h
  obtain ⟨c2, h⟩ := chk_some h
  refine y_iconst (show decode cX6_stayHome 0 = .ok (.iconst 0, 1) by decide +kernel) rfl ?_
  refine y_istore_n (show decode cX6_stayHome 1 = .ok (.istore_n 2, 1) by decide +kernel) rfl (L1 := [(2, .inl 0), (0, .inr (.inr (o + 1))), (1, .inr (.inr (a + 1)))]) rfl ?_
  refine y_pick [1, 2, 0] rfl ?_
  refine loopS1_ind (P := fun x3 σ4 => Y E MX6_stayHome (yRm 1 0 0) (yQf E (150 + 0) 0 0 none (ov τ)) 2 [(0, .inr (.inr (o + 1))), (1, .inr (.inr (a + 1))), (2, .inl x3)] [] (ov σ4) 150 0 0) (fun k5 hk5 x3 σ4 h => ?_) _ _ _  h
  refine y_iload_n (show decode cX6_stayHome 2 = .ok (.iload_n 2, 1) by decide +kernel) 2 rfl ?_
  refine y_aload_n (show decode cX6_stayHome 3 = .ok (.aload_n 1, 1) by decide +kernel) 1 rfl ?_
  refine y_getf a 9 1 15 (by omega) (by rcases c2 with rfl | rfl <;> rfl) (by decide) (by decide) q1_201 (show decode cX6_stayHome 4 = .ok (.getfield 15, 3) by decide +kernel) (v := .inr (.inr ((a + 3) + 1))) (by rcases c2 with rfl | rfl <;> rfl) ?_
  refine y_getf (a + 3) 5 1 21 (by omega) (by rcases c2 with rfl | rfl <;> rfl) (by decide) (by decide) q1_147 (show decode cX6_stayHome 7 = .ok (.getfield 21, 3) by decide +kernel) (v := .inl (σ4 (a + 3) 1)) (by rcases c2 with rfl | rfl <;> rfl) ?_
  by_cases c6 : x3 ≥ (σ4 (a + 3) 1)
  · rw [if_pos c6] at h
    refine y_icmp_ge_t (tgt := 31) (show decode cX6_stayHome 10 = .ok (.if_icmp .ge 21, 3) by decide +kernel) rfl c6 ?_
    cases h
    exact y_vret (show decode cX6_stayHome 31 = .ok (.return_, 1) by decide +kernel) rfl
  · rw [if_neg c6] at h
    refine y_icmp_ge_f (show decode cX6_stayHome 10 = .ok (.if_icmp .ge 21, 3) by decide +kernel) c6 (by decide) ?_
    refine y_aload_n (show decode cX6_stayHome 13 = .ok (.aload_n 0, 1) by decide +kernel) 0 rfl ?_
    refine y_iconst (show decode cX6_stayHome 14 = .ok (.iconst 0, 1) by decide +kernel) rfl ?_
    refine y_iload_n (show decode cX6_stayHome 15 = .ok (.iload_n 2, 1) by decide +kernel) 2 rfl ?_
    refine y_aload_n (show decode cX6_stayHome 16 = .ok (.aload_n 1, 1) by decide +kernel) 1 rfl ?_
    refine y_getf a 9 4 27 (by omega) (by rcases c2 with rfl | rfl <;> rfl) (by decide) (by decide) q1_213 (show decode cX6_stayHome 17 = .ok (.getfield 27, 3) by decide +kernel) (v := .inr (.inr ((a + 8) + 1))) (by rcases c2 with rfl | rfl <;> rfl) ?_
    refine y_iload_n (show decode cX6_stayHome 20 = .ok (.iload_n 2, 1) by decide +kernel) 2 rfl ?_
    obtain ⟨c7, h⟩ := chkA_some h
    refine yo_iald (a + 8) 5 (by omega) (by rcases c2 with rfl | rfl <;> rfl) c7 (ov_at (by rcases c2 with rfl | rfl <;> rfl)) (show decode cX6_stayHome 21 = .ok (.iaload, 1) by decide +kernel) ?_
    obtain ⟨σ9, e8, h⟩ := bndO_some h
    refine y_callV (np := 3) (st := []) (as := [.inl 0, .inl x3, .inl (σ4 (a + 8) (x3).toNat)]) o 6 (sh_cPl_stayFrom e8) q4_118 q4_115 q4_117 qs2_9 q1_10 (by omega) (by rcases c1 with rfl | rfl <;> rfl) (by decide) rfl (by decide) (by decide +kernel) (by decide) rfl (Nat.le_of_ble_eq_true rfl) (show decode cX6_stayHome 22 = .ok (.invokevirtual 30, 3) by decide +kernel) rfl ?_
    obtain ⟨c10, h⟩ := chkI_some h
    refine y_iinc (show decode cX6_stayHome 25 = .ok (.iinc 2 1, 3) by decide +kernel) 2 rfl c10 rfl (L1 := [(2, .inl (x3 + 1)), (0, .inr (.inr (o + 1))), (1, .inr (.inr (a + 1)))]) rfl ?_
    refine y_goto (tgt := 2) (show decode cX6_stayHome 28 = .ok (.goto (-26), 3) by decide +kernel) rfl ?_
    refine y_pick [1, 2, 0] rfl ?_
    exact hk5 _ _ h
abbrev MX8_isLetter : yM := (yX8_isLetter, cX8_isLetter, 1, some .boolean)
def cTp_isLetter (a : Int) (σ : ySt) : Option (Int) :=
  if a < 97 then
    some 0
  else
    if a > 122 then
      some 0
    else
      some 1
set_option maxHeartbeats 4000000 in
set_option maxRecDepth 10000 in
theorem sh_cTp_isLetter {E : yE} {a : Int} {σ : ySt} {ρ : Int} (h : cTp_isLetter a σ = some ρ) : Con E MX8_isLetter 0 0 0 [.inl a] 150 (ov σ) (some (.inl ρ)) (ov σ) := by
  unfold cTp_isLetter at h
  refine Con.ofY (by decide +kernel) (by simp [yWords, yCat]) (fun hok _ => ?_)
  show Y E MX8_isLetter (yRm 0 0 0) (yQf E (150 + 0) 0 0 (some (.inl ρ)) (ov σ)) 0 [(0, .inl a)] [] (ov σ) 150 0 0
  refine y_iload_n (show decode cX8_isLetter 0 = .ok (.iload_n 0, 1) by decide +kernel) 0 rfl ?_
  refine y_bipush (show decode cX8_isLetter 1 = .ok (.bipush 97, 2) by decide +kernel) rfl rfl ?_
  by_cases c1 : a < 97
  · rw [if_pos c1] at h
    refine y_icmp_lt_t (tgt := 16) (show decode cX8_isLetter 3 = .ok (.if_icmp .lt 13, 3) by decide +kernel) rfl c1 ?_
    refine y_iconst (show decode cX8_isLetter 16 = .ok (.iconst 0, 1) by decide +kernel) rfl ?_
    cases h
    exact y_zret (show decode cX8_isLetter 17 = .ok (.ireturn, 1) by decide +kernel) rfl (Or.inl rfl)
  · rw [if_neg c1] at h
    refine y_icmp_lt_f (show decode cX8_isLetter 3 = .ok (.if_icmp .lt 13, 3) by decide +kernel) c1 (by decide) ?_
    refine y_iload_n (show decode cX8_isLetter 6 = .ok (.iload_n 0, 1) by decide +kernel) 0 rfl ?_
    refine y_bipush (show decode cX8_isLetter 7 = .ok (.bipush 122, 2) by decide +kernel) rfl rfl ?_
    by_cases c2 : a > 122
    · rw [if_pos c2] at h
      refine y_icmp_gt_t (tgt := 16) (show decode cX8_isLetter 9 = .ok (.if_icmp .gt 7, 3) by decide +kernel) rfl c2 ?_
      refine y_iconst (show decode cX8_isLetter 16 = .ok (.iconst 0, 1) by decide +kernel) rfl ?_
      cases h
      exact y_zret (show decode cX8_isLetter 17 = .ok (.ireturn, 1) by decide +kernel) rfl (Or.inl rfl)
    · rw [if_neg c2] at h
      refine y_icmp_gt_f (show decode cX8_isLetter 9 = .ok (.if_icmp .gt 7, 3) by decide +kernel) c2 (by decide) ?_
      refine y_iconst (show decode cX8_isLetter 12 = .ok (.iconst 1, 1) by decide +kernel) rfl ?_
      refine y_goto (tgt := 17) (show decode cX8_isLetter 13 = .ok (.goto 4, 3) by decide +kernel) rfl ?_
      cases h
      exact y_zret (show decode cX8_isLetter 17 = .ok (.ireturn, 1) by decide +kernel) rfl (Or.inr rfl)
abbrev MX8_stepWord : yM := (yX8_stepWord, cX8_stepWord, 1, none)
def cTp_stepWord (N : Nat) (σ : ySt) : Option (ySt) :=
  bnd (yset σ 1 4 0) fun σ1 =>
  loopS0 (fun k4 σ3 =>
    if (σ3 1 8) ≥ (σ3 1 1) then
      some σ3
    else
      chkA 1600 (σ3 1 8) <|
      bndO (cTp_isLetter (σ3 2 ((σ3 1 8)).toNat) σ3) fun r8 =>
      if r8 = 0 then
        some σ3
      else
        chkA 1600 (σ3 1 8) <|
        chkI ((σ3 2 ((σ3 1 8)).toNat) - 97) <|
        chkI (((σ3 2 ((σ3 1 8)).toNat) - 97) + 1) <|
        bnd (yset σ3 1 4 (w64 ((w64 ((σ3 1 4) * 32)) + (bi2l (((σ3 2 ((σ3 1 8)).toNat) - 97) + 1))))) fun σ13 =>
        chkI ((σ13 1 8) + 1) <|
        bnd (yset σ13 1 8 ((σ13 1 8) + 1)) fun σ16 =>
        k4 σ16) N σ1
set_option maxHeartbeats 4000000 in
set_option maxRecDepth 10000 in
theorem sh_cTp_stepWord {E : yE} {N : Nat} {σ : ySt} {τ : ySt} (h : cTp_stepWord N σ = some τ) : Con E MX8_stepWord 1 0 0 [.inr (.inr (1 + 1))] 150 (ov σ) none (ov τ) := by
  unfold cTp_stepWord at h
  refine Con.ofY (by decide +kernel) (by simp [yWords, yCat]) (fun hok _ => ?_)
  show Y E MX8_stepWord (yRm 1 0 0) (yQf E (150 + 0) 0 0 none (ov τ)) 0 [(0, .inr (.inr (1 + 1)))] [] (ov σ) 150 0 0
  refine y_aload_n (show decode cX8_stepWord 0 = .ok (.aload_n 0, 1) by decide +kernel) 0 rfl ?_
  refine y_lconst (z := 0) (show decode cX8_stepWord 1 = .ok (.lconst 0, 1) by decide +kernel) rfl rfl ?_
  obtain ⟨σ1, e2, h⟩ := bnd_i h
  refine yo_putJ 1 8 4 44 (by decide) rfl (by decide) (by decide) q1_46 rfl (show decode cX8_stepWord 2 = .ok (.putfield 44, 3) by decide +kernel) rfl rfl (ov_set1 e2 rfl) ?_
  refine y_pick [0] rfl ?_
  refine loopS0_ind (P := fun σ3 => Y E MX8_stepWord (yRm 1 0 0) (yQf E (150 + 0) 0 0 none (ov τ)) 5 [(0, .inr (.inr (1 + 1)))] [] (ov σ3) 150 0 0) (fun k4 hk4 σ3 h => ?_) _ _  h
  refine y_aload_n (show decode cX8_stepWord 5 = .ok (.aload_n 0, 1) by decide +kernel) 0 rfl ?_
  refine y_getf 1 8 8 25 (by decide) rfl (by decide) (by decide) q1_53 (show decode cX8_stepWord 6 = .ok (.getfield 25, 3) by decide +kernel) (v := .inl (σ3 1 8)) rfl ?_
  refine y_aload_n (show decode cX8_stepWord 9 = .ok (.aload_n 0, 1) by decide +kernel) 0 rfl ?_
  refine y_getf 1 8 1 19 (by decide) rfl (by decide) (by decide) q1_37 (show decode cX8_stepWord 10 = .ok (.getfield 19, 3) by decide +kernel) (v := .inl (σ3 1 1)) rfl ?_
  by_cases c5 : (σ3 1 8) ≥ (σ3 1 1)
  · rw [if_pos c5] at h
    refine y_icmp_ge_t (tgt := 72) (show decode cX8_stepWord 13 = .ok (.if_icmp .ge 59, 3) by decide +kernel) rfl c5 ?_
    cases h
    exact y_vret (show decode cX8_stepWord 72 = .ok (.return_, 1) by decide +kernel) rfl
  · rw [if_neg c5] at h
    refine y_icmp_ge_f (show decode cX8_stepWord 13 = .ok (.if_icmp .ge 59, 3) by decide +kernel) c5 (by decide) ?_
    refine y_aload_n (show decode cX8_stepWord 16 = .ok (.aload_n 0, 1) by decide +kernel) 0 rfl ?_
    refine y_getf 1 8 0 9 (by decide) rfl (by decide) (by decide) q1_36 (show decode cX8_stepWord 17 = .ok (.getfield 9, 3) by decide +kernel) (v := .inr (.inr (2 + 1))) rfl ?_
    refine y_aload_n (show decode cX8_stepWord 20 = .ok (.aload_n 0, 1) by decide +kernel) 0 rfl ?_
    refine y_getf 1 8 8 25 (by decide) rfl (by decide) (by decide) q1_53 (show decode cX8_stepWord 21 = .ok (.getfield 25, 3) by decide +kernel) (v := .inl (σ3 1 8)) rfl ?_
    obtain ⟨c6, h⟩ := chkA_some h
    refine yo_bald 2 1600 (by decide) rfl c6 (ov_at rfl) (show decode cX8_stepWord 24 = .ok (.baload, 1) by decide +kernel) ?_
    obtain ⟨r8, e7, h⟩ := bndO_some h
    refine y_callS (np := 1) (st := []) (as := [.inl (σ3 2 ((σ3 1 8)).toNat)]) (sh_cTp_isLetter e7) q3_93 q3_91 q3_92 q1_2 (by decide) (by decide +kernel) (by decide) rfl (Nat.le_of_ble_eq_true rfl) (show decode cX8_stepWord 25 = .ok (.invokestatic 37, 3) by decide +kernel) rfl ?_
    by_cases c9 : r8 = 0
    · rw [if_pos c9] at h
      refine y_if_eq_t (tgt := 72) (show decode cX8_stepWord 28 = .ok (.ifCond .eq 44, 3) by decide +kernel) rfl c9 ?_
      cases h
      exact y_vret (show decode cX8_stepWord 72 = .ok (.return_, 1) by decide +kernel) rfl
    · rw [if_neg c9] at h
      refine y_if_eq_f (show decode cX8_stepWord 28 = .ok (.ifCond .eq 44, 3) by decide +kernel) c9 (by decide) ?_
      refine y_aload_n (show decode cX8_stepWord 31 = .ok (.aload_n 0, 1) by decide +kernel) 0 rfl ?_
      refine y_aload_n (show decode cX8_stepWord 32 = .ok (.aload_n 0, 1) by decide +kernel) 0 rfl ?_
      refine y_getf 1 8 4 44 (by decide) rfl (by decide) (by decide) q1_46 (show decode cX8_stepWord 33 = .ok (.getfield 44, 3) by decide +kernel) (v := .inr (.inl (σ3 1 4))) rfl ?_
      refine y_ldc2 (k := 32) (show decode cX8_stepWord 36 = .ok (.ldc2_w 66, 3) by decide +kernel) q3_98 rfl rfl ?_
      refine y_lmulW (show decode cX8_stepWord 39 = .ok (.lmul, 1) by decide +kernel) ?_
      refine y_aload_n (show decode cX8_stepWord 40 = .ok (.aload_n 0, 1) by decide +kernel) 0 rfl ?_
      refine y_getf 1 8 0 9 (by decide) rfl (by decide) (by decide) q1_36 (show decode cX8_stepWord 41 = .ok (.getfield 9, 3) by decide +kernel) (v := .inr (.inr (2 + 1))) rfl ?_
      refine y_aload_n (show decode cX8_stepWord 44 = .ok (.aload_n 0, 1) by decide +kernel) 0 rfl ?_
      refine y_getf 1 8 8 25 (by decide) rfl (by decide) (by decide) q1_53 (show decode cX8_stepWord 45 = .ok (.getfield 25, 3) by decide +kernel) (v := .inl (σ3 1 8)) rfl ?_
      obtain ⟨c10, h⟩ := chkA_some h
      refine yo_bald 2 1600 (by decide) rfl c10 (ov_at rfl) (show decode cX8_stepWord 48 = .ok (.baload, 1) by decide +kernel) ?_
      refine y_bipush (show decode cX8_stepWord 49 = .ok (.bipush 97, 2) by decide +kernel) rfl rfl ?_
      obtain ⟨c11, h⟩ := chkI_some h
      refine y_isub (show decode cX8_stepWord 51 = .ok (.isub, 1) by decide +kernel) c11 ?_
      refine y_iconst (show decode cX8_stepWord 52 = .ok (.iconst 1, 1) by decide +kernel) rfl ?_
      obtain ⟨c12, h⟩ := chkI_some h
      refine y_iadd (show decode cX8_stepWord 53 = .ok (.iadd, 1) by decide +kernel) c12 ?_
      refine y_i2l (show decode cX8_stepWord 54 = .ok (.i2l, 1) by decide +kernel) ?_
      refine y_laddW (show decode cX8_stepWord 55 = .ok (.ladd, 1) by decide +kernel) ?_
      obtain ⟨σ13, e14, h⟩ := bnd_i h
      refine yo_putJ 1 8 4 44 (by decide) rfl (by decide) (by decide) q1_46 rfl (show decode cX8_stepWord 56 = .ok (.putfield 44, 3) by decide +kernel) rfl rfl (ov_set1 e14 rfl) ?_
      refine y_aload_n (show decode cX8_stepWord 59 = .ok (.aload_n 0, 1) by decide +kernel) 0 rfl ?_
      refine y_dup (show decode cX8_stepWord 60 = .ok (.dup, 1) by decide +kernel) rfl ?_
      refine y_getf 1 8 8 25 (by decide) rfl (by decide) (by decide) q1_53 (show decode cX8_stepWord 61 = .ok (.getfield 25, 3) by decide +kernel) (v := .inl (σ13 1 8)) rfl ?_
      refine y_iconst (show decode cX8_stepWord 64 = .ok (.iconst 1, 1) by decide +kernel) rfl ?_
      obtain ⟨c15, h⟩ := chkI_some h
      refine y_iadd (show decode cX8_stepWord 65 = .ok (.iadd, 1) by decide +kernel) c15 ?_
      obtain ⟨σ16, e17, h⟩ := bnd_i h
      refine yo_putI 1 8 8 25 (by decide) rfl (by decide) (by decide) q1_53 rfl (show decode cX8_stepWord 66 = .ok (.putfield 25, 3) by decide +kernel) rfl rfl (ov_set1 e17 rfl) ?_
      refine y_goto (tgt := 5) (show decode cX8_stepWord 69 = .ok (.goto (-64), 3) by decide +kernel) rfl ?_
      refine y_pick [0] rfl ?_
      exact hk4 _ h
abbrev MX8_kindOf : yM := (yX8_kindOf, cX8_kindOf, 7, some .int)
def cTp_kindOf (N : Nat) (a : Int) (σ : ySt) : Option (Int) :=
  loop3 (fun k4 x1 x2 x3 =>
    if x3 ≥ 102 then
      some 3
    else
      chkA 102 x3 <|
      bnd (fun (y7 : Int) (y8 : Int) =>
        chkI (x3 + 1) <|
        k4 y7 y8 (x3 + 1)) fun j9 =>
      if (yWd0.getD (x3).toNat 0) = 32 then
        if ¬ (blcmp x2 a) = 0 then
          chkI (x1 + 1) <|
          j9 (x1 + 1) 0
        else
          some x1
      else
        chkI ((yWd0.getD (x3).toNat 0) - 97) <|
        chkI (((yWd0.getD (x3).toNat 0) - 97) + 1) <|
        j9 x1 (w64 ((w64 (x2 * 32)) + (bi2l (((yWd0.getD (x3).toNat 0) - 97) + 1))))) N 100 0 0
set_option maxHeartbeats 4000000 in
set_option maxRecDepth 10000 in
theorem sh_cTp_kindOf {E : yE} {N : Nat} {a : Int} {σ : ySt} {ρ : Int} (h : cTp_kindOf N a σ = some ρ) : Con E MX8_kindOf 7 0 0 [.inr (.inl a)] 150 (ov σ) (some (.inl ρ)) (ov σ) := by
  unfold cTp_kindOf at h
  refine Con.ofY (by decide +kernel) (by simp [yWords, yCat]) (fun hok _ => ?_)
  show Y E MX8_kindOf (yRm 7 0 0) (yQf E (150 + 0) 0 0 (some (.inl ρ)) (ov σ)) 0 [(0, .inr (.inl a))] [] (ov σ) 150 0 0
  refine y_bipush (show decode cX8_kindOf 0 = .ok (.bipush 100, 2) by decide +kernel) rfl rfl ?_
  refine y_istore_n (show decode cX8_kindOf 2 = .ok (.istore_n 2, 1) by decide +kernel) rfl (L1 := [(2, .inl 100), (0, .inr (.inl a))]) rfl ?_
  refine y_lconst (z := 0) (show decode cX8_kindOf 3 = .ok (.lconst 0, 1) by decide +kernel) rfl rfl ?_
  refine y_lstore_n (show decode cX8_kindOf 4 = .ok (.lstore_n 3, 1) by decide +kernel) rfl (L1 := [(3, .inr (.inl 0)), (2, .inl 100), (0, .inr (.inl a))]) rfl ?_
  refine y_iconst (show decode cX8_kindOf 5 = .ok (.iconst 0, 1) by decide +kernel) rfl ?_
  refine y_istore (show decode cX8_kindOf 6 = .ok (.istore 5, 2) by decide +kernel) rfl (L1 := [(5, .inl 0), (3, .inr (.inl 0)), (2, .inl 100), (0, .inr (.inl a))]) rfl ?_
  refine y_pick [3, 2, 1, 0] rfl ?_
  refine loop3_ind (P := fun x1 x2 x3 => Y E MX8_kindOf (yRm 7 0 0) (yQf E (150 + 0) 0 0 (some (.inl ρ)) (ov σ)) 8 [(0, .inr (.inl a)), (2, .inl x1), (3, .inr (.inl x2)), (5, .inl x3)] [] (ov σ) 150 0 0) (fun k4 hk4 x1 x2 x3 h => ?_) _ _ _ _  h
  refine y_iload (show decode cX8_kindOf 8 = .ok (.iload 5, 2) by decide +kernel) 3 rfl ?_
  refine y_strlen rfl (show decode cX8_kindOf 10 = .ok (.ldc 71, 2) by decide +kernel) (show decode cX8_kindOf 12 = .ok (.invokevirtual 73, 3) by decide +kernel) (by decide) (Nat.le_of_ble_eq_true rfl) ?_
  by_cases c5 : x3 ≥ 102
  · rw [if_pos c5] at h
    refine y_icmp_ge_t (tgt := 71) (show decode cX8_kindOf 15 = .ok (.if_icmp .ge 56, 3) by decide +kernel) rfl c5 ?_
    refine y_iconst (show decode cX8_kindOf 71 = .ok (.iconst 3, 1) by decide +kernel) rfl ?_
    cases h
    exact y_iret (show decode cX8_kindOf 72 = .ok (.ireturn, 1) by decide +kernel) rfl
  · rw [if_neg c5] at h
    refine y_icmp_ge_f (show decode cX8_kindOf 15 = .ok (.if_icmp .ge 56, 3) by decide +kernel) c5 (by decide) ?_
    obtain ⟨c6, h⟩ := chkA_some h
    refine y_strchr rfl (show decode cX8_kindOf 18 = .ok (.ldc 71, 2) by decide +kernel) (show decode cX8_kindOf 20 = .ok (.iload 5, 2) by decide +kernel) (show decode cX8_kindOf 22 = .ok (.invokevirtual 76, 3) by decide +kernel) (by decide) (Nat.le_of_ble_eq_true rfl) 3 rfl c6 ?_
    refine y_istore (show decode cX8_kindOf 25 = .ok (.istore 6, 2) by decide +kernel) rfl (L1 := [(6, .inl (yWd0.getD (x3).toNat 0)), (0, .inr (.inl a)), (2, .inl x1), (3, .inr (.inl x2)), (5, .inl x3)]) rfl ?_
    refine y_iload (show decode cX8_kindOf 27 = .ok (.iload 6, 2) by decide +kernel) 0 rfl ?_
    refine y_bipush (show decode cX8_kindOf 29 = .ok (.bipush 32, 2) by decide +kernel) rfl rfl ?_
    refine bnd_j (Q := fun j9 => ∀ (y7 : Int) (y8 : Int), j9 y7 y8 = some ρ → Y E MX8_kindOf (yRm 7 0 0) (yQf E (150 + 0) 0 0 (some (.inl ρ)) (ov σ)) 65 [(0, .inr (.inl a)), (2, .inl y7), (3, .inr (.inl y8)), (5, .inl x3)] [] (ov σ) 150 0 0) (fun y7 y8 h => ?_) (fun j9 hj9 h => ?_) h
    · dsimp only at h
      obtain ⟨c10, h⟩ := chkI_some h
      refine y_iinc (show decode cX8_kindOf 65 = .ok (.iinc 5 1, 3) by decide +kernel) 3 rfl c10 rfl (L1 := [(5, .inl (x3 + 1)), (0, .inr (.inl a)), (2, .inl y7), (3, .inr (.inl y8))]) rfl ?_
      refine y_goto (tgt := 8) (show decode cX8_kindOf 68 = .ok (.goto (-60), 3) by decide +kernel) rfl ?_
      refine y_pick [1, 2, 3, 0] rfl ?_
      exact hk4 _ _ _ h
    by_cases c11 : (yWd0.getD (x3).toNat 0) = 32
    · rw [if_pos c11] at h
      refine y_icmp_eq_t (tgt := 52) (show decode cX8_kindOf 31 = .ok (.if_icmp .eq 21, 3) by decide +kernel) rfl c11 ?_
      refine y_lload_n (show decode cX8_kindOf 52 = .ok (.lload_n 3, 1) by decide +kernel) 3 rfl ?_
      refine y_lload_n (show decode cX8_kindOf 53 = .ok (.lload_n 0, 1) by decide +kernel) 1 rfl ?_
      refine y_lcmp (show decode cX8_kindOf 54 = .ok (.lcmp, 1) by decide +kernel) ?_
      by_cases c12 : ¬ (blcmp x2 a) = 0
      · rw [if_pos c12] at h
        refine y_if_ne_t (tgt := 60) (show decode cX8_kindOf 55 = .ok (.ifCond .ne 5, 3) by decide +kernel) rfl c12 ?_
        refine y_lconst (z := 0) (show decode cX8_kindOf 60 = .ok (.lconst 0, 1) by decide +kernel) rfl rfl ?_
        refine y_lstore_n (show decode cX8_kindOf 61 = .ok (.lstore_n 3, 1) by decide +kernel) rfl (L1 := [(3, .inr (.inl 0)), (6, .inl (yWd0.getD (x3).toNat 0)), (0, .inr (.inl a)), (2, .inl x1), (5, .inl x3)]) rfl ?_
        obtain ⟨c13, h⟩ := chkI_some h
        refine y_iinc (show decode cX8_kindOf 62 = .ok (.iinc 2 1, 3) by decide +kernel) 3 rfl c13 rfl (L1 := [(2, .inl (x1 + 1)), (3, .inr (.inl 0)), (6, .inl (yWd0.getD (x3).toNat 0)), (0, .inr (.inl a)), (5, .inl x3)]) rfl ?_
        refine y_pick [3, 0, 1, 4] rfl ?_
        exact hj9 _ _ h
      · rw [if_neg c12] at h
        refine y_if_ne_f (show decode cX8_kindOf 55 = .ok (.ifCond .ne 5, 3) by decide +kernel) c12 (by decide) ?_
        refine y_iload_n (show decode cX8_kindOf 58 = .ok (.iload_n 2, 1) by decide +kernel) 2 rfl ?_
        cases h
        exact y_iret (show decode cX8_kindOf 59 = .ok (.ireturn, 1) by decide +kernel) rfl
    · rw [if_neg c11] at h
      refine y_icmp_eq_f (show decode cX8_kindOf 31 = .ok (.if_icmp .eq 21, 3) by decide +kernel) c11 (by decide) ?_
      refine y_lload_n (show decode cX8_kindOf 34 = .ok (.lload_n 3, 1) by decide +kernel) 3 rfl ?_
      refine y_ldc2 (k := 32) (show decode cX8_kindOf 35 = .ok (.ldc2_w 66, 3) by decide +kernel) q3_98 rfl rfl ?_
      refine y_lmulW (show decode cX8_kindOf 38 = .ok (.lmul, 1) by decide +kernel) ?_
      refine y_iload (show decode cX8_kindOf 39 = .ok (.iload 6, 2) by decide +kernel) 0 rfl ?_
      refine y_bipush (show decode cX8_kindOf 41 = .ok (.bipush 97, 2) by decide +kernel) rfl rfl ?_
      obtain ⟨c14, h⟩ := chkI_some h
      refine y_isub (show decode cX8_kindOf 43 = .ok (.isub, 1) by decide +kernel) c14 ?_
      refine y_iconst (show decode cX8_kindOf 44 = .ok (.iconst 1, 1) by decide +kernel) rfl ?_
      obtain ⟨c15, h⟩ := chkI_some h
      refine y_iadd (show decode cX8_kindOf 45 = .ok (.iadd, 1) by decide +kernel) c15 ?_
      refine y_i2l (show decode cX8_kindOf 46 = .ok (.i2l, 1) by decide +kernel) ?_
      refine y_laddW (show decode cX8_kindOf 47 = .ok (.ladd, 1) by decide +kernel) ?_
      refine y_lstore_n (show decode cX8_kindOf 48 = .ok (.lstore_n 3, 1) by decide +kernel) rfl (L1 := [(3, .inr (.inl (w64 ((w64 (x2 * 32)) + (bi2l (((yWd0.getD (x3).toNat 0) - 97) + 1)))))), (6, .inl (yWd0.getD (x3).toNat 0)), (0, .inr (.inl a)), (2, .inl x1), (5, .inl x3)]) rfl ?_
      refine y_goto (tgt := 65) (show decode cX8_kindOf 49 = .ok (.goto 16, 3) by decide +kernel) rfl ?_
      refine y_pick [2, 3, 0, 4] rfl ?_
      exact hj9 _ _ h
abbrev MX8_isDigit : yM := (yX8_isDigit, cX8_isDigit, 1, some .boolean)
def cTp_isDigit (a : Int) (σ : ySt) : Option (Int) :=
  if a < 48 then
    some 0
  else
    if a > 57 then
      some 0
    else
      some 1
set_option maxHeartbeats 4000000 in
set_option maxRecDepth 10000 in
theorem sh_cTp_isDigit {E : yE} {a : Int} {σ : ySt} {ρ : Int} (h : cTp_isDigit a σ = some ρ) : Con E MX8_isDigit 0 0 0 [.inl a] 150 (ov σ) (some (.inl ρ)) (ov σ) := by
  unfold cTp_isDigit at h
  refine Con.ofY (by decide +kernel) (by simp [yWords, yCat]) (fun hok _ => ?_)
  show Y E MX8_isDigit (yRm 0 0 0) (yQf E (150 + 0) 0 0 (some (.inl ρ)) (ov σ)) 0 [(0, .inl a)] [] (ov σ) 150 0 0
  refine y_iload_n (show decode cX8_isDigit 0 = .ok (.iload_n 0, 1) by decide +kernel) 0 rfl ?_
  refine y_bipush (show decode cX8_isDigit 1 = .ok (.bipush 48, 2) by decide +kernel) rfl rfl ?_
  by_cases c1 : a < 48
  · rw [if_pos c1] at h
    refine y_icmp_lt_t (tgt := 16) (show decode cX8_isDigit 3 = .ok (.if_icmp .lt 13, 3) by decide +kernel) rfl c1 ?_
    refine y_iconst (show decode cX8_isDigit 16 = .ok (.iconst 0, 1) by decide +kernel) rfl ?_
    cases h
    exact y_zret (show decode cX8_isDigit 17 = .ok (.ireturn, 1) by decide +kernel) rfl (Or.inl rfl)
  · rw [if_neg c1] at h
    refine y_icmp_lt_f (show decode cX8_isDigit 3 = .ok (.if_icmp .lt 13, 3) by decide +kernel) c1 (by decide) ?_
    refine y_iload_n (show decode cX8_isDigit 6 = .ok (.iload_n 0, 1) by decide +kernel) 0 rfl ?_
    refine y_bipush (show decode cX8_isDigit 7 = .ok (.bipush 57, 2) by decide +kernel) rfl rfl ?_
    by_cases c2 : a > 57
    · rw [if_pos c2] at h
      refine y_icmp_gt_t (tgt := 16) (show decode cX8_isDigit 9 = .ok (.if_icmp .gt 7, 3) by decide +kernel) rfl c2 ?_
      refine y_iconst (show decode cX8_isDigit 16 = .ok (.iconst 0, 1) by decide +kernel) rfl ?_
      cases h
      exact y_zret (show decode cX8_isDigit 17 = .ok (.ireturn, 1) by decide +kernel) rfl (Or.inl rfl)
    · rw [if_neg c2] at h
      refine y_icmp_gt_f (show decode cX8_isDigit 9 = .ok (.if_icmp .gt 7, 3) by decide +kernel) c2 (by decide) ?_
      refine y_iconst (show decode cX8_isDigit 12 = .ok (.iconst 1, 1) by decide +kernel) rfl ?_
      refine y_goto (tgt := 17) (show decode cX8_isDigit 13 = .ok (.goto 4, 3) by decide +kernel) rfl ?_
      cases h
      exact y_zret (show decode cX8_isDigit 17 = .ok (.ireturn, 1) by decide +kernel) rfl (Or.inr rfl)
abbrev MX8_stepNumber : yM := (yX8_stepNumber, cX8_stepNumber, 2, none)
def cTp_stepNumber (N : Nat) (σ : ySt) : Option (ySt) :=
  bnd (yset σ 1 5 0) fun σ1 =>
  loopS0 (fun k4 σ3 =>
    bnd (bnd (fun (y6 : Int) =>
        bnd (fun (y8 : Int) =>
          bnd (yset σ3 1 3 y8) fun σ10 =>
          some σ10) fun j9 =>
        if y6 = 0 then
          j9 1
        else
          j9 2) fun j7 =>
      if (w32 ((σ3 1 8) - (σ3 1 2))) > 4 then
        j7 0
      else
        if (σ3 1 8) ≥ (σ3 1 1) then
          j7 1
        else
          chkA 1600 (σ3 1 8) <|
          bndO (cTp_isLetter (σ3 2 ((σ3 1 8)).toNat) σ3) fun r17 =>
          if ¬ r17 = 0 then
            j7 0
          else
            j7 1) fun j5 =>
    if (σ3 1 8) ≥ (σ3 1 1) then
      j5
    else
      chkA 1600 (σ3 1 8) <|
      bndO (cTp_isDigit (σ3 2 ((σ3 1 8)).toNat) σ3) fun r22 =>
      if r22 = 0 then
        j5
      else
        chkA 1600 (σ3 1 8) <|
        bnd (yset σ3 1 5 (w32 ((w32 ((σ3 1 5) * 10)) + (w32 ((σ3 2 ((σ3 1 8)).toNat) - 48))))) fun σ25 =>
        bnd (yset σ25 1 8 (w32 ((σ25 1 8) + 1))) fun σ27 =>
        k4 σ27) N σ1
set_option maxHeartbeats 4000000 in
set_option maxRecDepth 10000 in
theorem sh_cTp_stepNumber {E : yE} {N : Nat} {σ : ySt} {τ : ySt} (h : cTp_stepNumber N σ = some τ) : Con E MX8_stepNumber 1 0 0 [.inr (.inr (1 + 1))] 150 (ov σ) none (ov τ) := by
  unfold cTp_stepNumber at h
  refine Con.ofY (by decide +kernel) (by simp [yWords, yCat]) (fun hok _ => ?_)
  show Y E MX8_stepNumber (yRm 1 0 0) (yQf E (150 + 0) 0 0 none (ov τ)) 0 [(0, .inr (.inr (1 + 1)))] [] (ov σ) 150 0 0
  refine y_aload_n (show decode cX8_stepNumber 0 = .ok (.aload_n 0, 1) by decide +kernel) 0 rfl ?_
  refine y_iconst (show decode cX8_stepNumber 1 = .ok (.iconst 0, 1) by decide +kernel) rfl ?_
  obtain ⟨σ1, e2, h⟩ := bnd_i h
  refine yo_putI 1 8 5 68 (by decide) rfl (by decide) (by decide) q1_47 rfl (show decode cX8_stepNumber 2 = .ok (.putfield 68, 3) by decide +kernel) rfl rfl (ov_set1 e2 rfl) ?_
  refine y_pick [0] rfl ?_
  refine loopS0_ind (P := fun σ3 => Y E MX8_stepNumber (yRm 1 0 0) (yQf E (150 + 0) 0 0 none (ov τ)) 5 [(0, .inr (.inr (1 + 1)))] [] (ov σ3) 150 0 0) (fun k4 hk4 σ3 h => ?_) _ _  h
  refine y_aload_n (show decode cX8_stepNumber 5 = .ok (.aload_n 0, 1) by decide +kernel) 0 rfl ?_
  refine y_getf 1 8 8 25 (by decide) rfl (by decide) (by decide) q1_53 (show decode cX8_stepNumber 6 = .ok (.getfield 25, 3) by decide +kernel) (v := .inl (σ3 1 8)) rfl ?_
  refine y_aload_n (show decode cX8_stepNumber 9 = .ok (.aload_n 0, 1) by decide +kernel) 0 rfl ?_
  refine y_getf 1 8 1 19 (by decide) rfl (by decide) (by decide) q1_37 (show decode cX8_stepNumber 10 = .ok (.getfield 19, 3) by decide +kernel) (v := .inl (σ3 1 1)) rfl ?_
  refine bnd_j (Q := fun j5 => j5 = some τ → Y E MX8_stepNumber (yRm 1 0 0) (yQf E (150 + 0) 0 0 none (ov τ)) 68 [(0, .inr (.inr (1 + 1)))] [] (ov σ3) 150 0 0) (fun h => ?_) (fun j5 hj5 h => ?_) h
  · refine y_aload_n (show decode cX8_stepNumber 68 = .ok (.aload_n 0, 1) by decide +kernel) 0 rfl ?_
    refine y_getf 1 8 8 25 (by decide) rfl (by decide) (by decide) q1_53 (show decode cX8_stepNumber 69 = .ok (.getfield 25, 3) by decide +kernel) (v := .inl (σ3 1 8)) rfl ?_
    refine y_aload_n (show decode cX8_stepNumber 72 = .ok (.aload_n 0, 1) by decide +kernel) 0 rfl ?_
    refine y_getf 1 8 2 31 (by decide) rfl (by decide) (by decide) q1_39 (show decode cX8_stepNumber 73 = .ok (.getfield 31, 3) by decide +kernel) (v := .inl (σ3 1 2)) rfl ?_
    refine y_isubW (show decode cX8_stepNumber 76 = .ok (.isub, 1) by decide +kernel) ?_
    refine y_iconst (show decode cX8_stepNumber 77 = .ok (.iconst 4, 1) by decide +kernel) rfl ?_
    refine bnd_j (Q := fun j7 => ∀ (y6 : Int), j7 y6 = some τ → Y E MX8_stepNumber (yRm 1 0 0) (yQf E (150 + 0) 0 0 none (ov τ)) 112 [(0, .inr (.inr (1 + 1)))] [.inl y6] (ov σ3) 150 0 0) (fun y6 h => ?_) (fun j7 hj7 h => ?_) h
    · dsimp only at h
      refine y_istore_n (show decode cX8_stepNumber 112 = .ok (.istore_n 1, 1) by decide +kernel) rfl (L1 := [(1, .inl y6), (0, .inr (.inr (1 + 1)))]) rfl ?_
      refine y_aload_n (show decode cX8_stepNumber 113 = .ok (.aload_n 0, 1) by decide +kernel) 1 rfl ?_
      refine y_iload_n (show decode cX8_stepNumber 114 = .ok (.iload_n 1, 1) by decide +kernel) 0 rfl ?_
      refine bnd_j (Q := fun j9 => ∀ (y8 : Int), j9 y8 = some τ → Y E MX8_stepNumber (yRm 1 0 0) (yQf E (150 + 0) 0 0 none (ov τ)) 123 [] [.inl y8, .inr (.inr (1 + 1))] (ov σ3) 150 0 0) (fun y8 h => ?_) (fun j9 hj9 h => ?_) h
      · dsimp only at h
        obtain ⟨σ10, e11, h⟩ := bnd_i h
        refine yo_putI 1 8 3 34 (by decide) rfl (by decide) (by decide) q1_43 rfl (show decode cX8_stepNumber 123 = .ok (.putfield 34, 3) by decide +kernel) rfl rfl (ov_set1 e11 rfl) ?_
        cases h
        exact y_vret (show decode cX8_stepNumber 126 = .ok (.return_, 1) by decide +kernel) rfl
      by_cases c12 : y6 = 0
      · rw [if_pos c12] at h
        refine y_if_eq_t (tgt := 122) (show decode cX8_stepNumber 115 = .ok (.ifCond .eq 7, 3) by decide +kernel) rfl c12 ?_
        refine y_iconst (show decode cX8_stepNumber 122 = .ok (.iconst 1, 1) by decide +kernel) rfl ?_
        refine y_pick [] rfl ?_
        exact hj9 _ h
      · rw [if_neg c12] at h
        refine y_if_eq_f (show decode cX8_stepNumber 115 = .ok (.ifCond .eq 7, 3) by decide +kernel) c12 (by decide) ?_
        refine y_iconst (show decode cX8_stepNumber 118 = .ok (.iconst 2, 1) by decide +kernel) rfl ?_
        refine y_goto (tgt := 123) (show decode cX8_stepNumber 119 = .ok (.goto 4, 3) by decide +kernel) rfl ?_
        refine y_pick [] rfl ?_
        exact hj9 _ h
    by_cases c13 : (w32 ((σ3 1 8) - (σ3 1 2))) > 4
    · rw [if_pos c13] at h
      refine y_icmp_gt_t (tgt := 111) (show decode cX8_stepNumber 78 = .ok (.if_icmp .gt 33, 3) by decide +kernel) rfl c13 ?_
      refine y_iconst (show decode cX8_stepNumber 111 = .ok (.iconst 0, 1) by decide +kernel) rfl ?_
      refine y_pick [0] rfl ?_
      exact hj7 _ h
    · rw [if_neg c13] at h
      refine y_icmp_gt_f (show decode cX8_stepNumber 78 = .ok (.if_icmp .gt 33, 3) by decide +kernel) c13 (by decide) ?_
      refine y_aload_n (show decode cX8_stepNumber 81 = .ok (.aload_n 0, 1) by decide +kernel) 0 rfl ?_
      refine y_getf 1 8 8 25 (by decide) rfl (by decide) (by decide) q1_53 (show decode cX8_stepNumber 82 = .ok (.getfield 25, 3) by decide +kernel) (v := .inl (σ3 1 8)) rfl ?_
      refine y_aload_n (show decode cX8_stepNumber 85 = .ok (.aload_n 0, 1) by decide +kernel) 0 rfl ?_
      refine y_getf 1 8 1 19 (by decide) rfl (by decide) (by decide) q1_37 (show decode cX8_stepNumber 86 = .ok (.getfield 19, 3) by decide +kernel) (v := .inl (σ3 1 1)) rfl ?_
      by_cases c14 : (σ3 1 8) ≥ (σ3 1 1)
      · rw [if_pos c14] at h
        refine y_icmp_ge_t (tgt := 107) (show decode cX8_stepNumber 89 = .ok (.if_icmp .ge 18, 3) by decide +kernel) rfl c14 ?_
        refine y_iconst (show decode cX8_stepNumber 107 = .ok (.iconst 1, 1) by decide +kernel) rfl ?_
        refine y_goto (tgt := 112) (show decode cX8_stepNumber 108 = .ok (.goto 4, 3) by decide +kernel) rfl ?_
        refine y_pick [0] rfl ?_
        exact hj7 _ h
      · rw [if_neg c14] at h
        refine y_icmp_ge_f (show decode cX8_stepNumber 89 = .ok (.if_icmp .ge 18, 3) by decide +kernel) c14 (by decide) ?_
        refine y_aload_n (show decode cX8_stepNumber 92 = .ok (.aload_n 0, 1) by decide +kernel) 0 rfl ?_
        refine y_getf 1 8 0 9 (by decide) rfl (by decide) (by decide) q1_36 (show decode cX8_stepNumber 93 = .ok (.getfield 9, 3) by decide +kernel) (v := .inr (.inr (2 + 1))) rfl ?_
        refine y_aload_n (show decode cX8_stepNumber 96 = .ok (.aload_n 0, 1) by decide +kernel) 0 rfl ?_
        refine y_getf 1 8 8 25 (by decide) rfl (by decide) (by decide) q1_53 (show decode cX8_stepNumber 97 = .ok (.getfield 25, 3) by decide +kernel) (v := .inl (σ3 1 8)) rfl ?_
        obtain ⟨c15, h⟩ := chkA_some h
        refine yo_bald 2 1600 (by decide) rfl c15 (ov_at rfl) (show decode cX8_stepNumber 100 = .ok (.baload, 1) by decide +kernel) ?_
        obtain ⟨r17, e16, h⟩ := bndO_some h
        refine y_callS (np := 1) (st := []) (as := [.inl (σ3 2 ((σ3 1 8)).toNat)]) (sh_cTp_isLetter e16) q3_93 q3_91 q3_92 q1_2 (by decide) (by decide +kernel) (by decide) rfl (Nat.le_of_ble_eq_true rfl) (show decode cX8_stepNumber 101 = .ok (.invokestatic 37, 3) by decide +kernel) rfl ?_
        by_cases c18 : ¬ r17 = 0
        · rw [if_pos c18] at h
          refine y_if_ne_t (tgt := 111) (show decode cX8_stepNumber 104 = .ok (.ifCond .ne 7, 3) by decide +kernel) rfl c18 ?_
          refine y_iconst (show decode cX8_stepNumber 111 = .ok (.iconst 0, 1) by decide +kernel) rfl ?_
          refine y_pick [0] rfl ?_
          exact hj7 _ h
        · rw [if_neg c18] at h
          refine y_if_ne_f (show decode cX8_stepNumber 104 = .ok (.ifCond .ne 7, 3) by decide +kernel) c18 (by decide) ?_
          refine y_iconst (show decode cX8_stepNumber 107 = .ok (.iconst 1, 1) by decide +kernel) rfl ?_
          refine y_goto (tgt := 112) (show decode cX8_stepNumber 108 = .ok (.goto 4, 3) by decide +kernel) rfl ?_
          refine y_pick [0] rfl ?_
          exact hj7 _ h
  by_cases c19 : (σ3 1 8) ≥ (σ3 1 1)
  · rw [if_pos c19] at h
    refine y_icmp_ge_t (tgt := 68) (show decode cX8_stepNumber 13 = .ok (.if_icmp .ge 55, 3) by decide +kernel) rfl c19 ?_
    refine y_pick [0] rfl ?_
    exact hj5 h
  · rw [if_neg c19] at h
    refine y_icmp_ge_f (show decode cX8_stepNumber 13 = .ok (.if_icmp .ge 55, 3) by decide +kernel) c19 (by decide) ?_
    refine y_aload_n (show decode cX8_stepNumber 16 = .ok (.aload_n 0, 1) by decide +kernel) 0 rfl ?_
    refine y_getf 1 8 0 9 (by decide) rfl (by decide) (by decide) q1_36 (show decode cX8_stepNumber 17 = .ok (.getfield 9, 3) by decide +kernel) (v := .inr (.inr (2 + 1))) rfl ?_
    refine y_aload_n (show decode cX8_stepNumber 20 = .ok (.aload_n 0, 1) by decide +kernel) 0 rfl ?_
    refine y_getf 1 8 8 25 (by decide) rfl (by decide) (by decide) q1_53 (show decode cX8_stepNumber 21 = .ok (.getfield 25, 3) by decide +kernel) (v := .inl (σ3 1 8)) rfl ?_
    obtain ⟨c20, h⟩ := chkA_some h
    refine yo_bald 2 1600 (by decide) rfl c20 (ov_at rfl) (show decode cX8_stepNumber 24 = .ok (.baload, 1) by decide +kernel) ?_
    obtain ⟨r22, e21, h⟩ := bndO_some h
    refine y_callS (np := 1) (st := []) (as := [.inl (σ3 2 ((σ3 1 8)).toNat)]) (sh_cTp_isDigit e21) q3_153 q3_151 q3_152 q1_2 (by decide) (by decide +kernel) (by decide) rfl (Nat.le_of_ble_eq_true rfl) (show decode cX8_stepNumber 25 = .ok (.invokestatic 52, 3) by decide +kernel) rfl ?_
    by_cases c23 : r22 = 0
    · rw [if_pos c23] at h
      refine y_if_eq_t (tgt := 68) (show decode cX8_stepNumber 28 = .ok (.ifCond .eq 40, 3) by decide +kernel) rfl c23 ?_
      refine y_pick [0] rfl ?_
      exact hj5 h
    · rw [if_neg c23] at h
      refine y_if_eq_f (show decode cX8_stepNumber 28 = .ok (.ifCond .eq 40, 3) by decide +kernel) c23 (by decide) ?_
      refine y_aload_n (show decode cX8_stepNumber 31 = .ok (.aload_n 0, 1) by decide +kernel) 0 rfl ?_
      refine y_aload_n (show decode cX8_stepNumber 32 = .ok (.aload_n 0, 1) by decide +kernel) 0 rfl ?_
      refine y_getf 1 8 5 68 (by decide) rfl (by decide) (by decide) q1_47 (show decode cX8_stepNumber 33 = .ok (.getfield 68, 3) by decide +kernel) (v := .inl (σ3 1 5)) rfl ?_
      refine y_bipush (show decode cX8_stepNumber 36 = .ok (.bipush 10, 2) by decide +kernel) rfl rfl ?_
      refine y_imulW (show decode cX8_stepNumber 38 = .ok (.imul, 1) by decide +kernel) ?_
      refine y_aload_n (show decode cX8_stepNumber 39 = .ok (.aload_n 0, 1) by decide +kernel) 0 rfl ?_
      refine y_getf 1 8 0 9 (by decide) rfl (by decide) (by decide) q1_36 (show decode cX8_stepNumber 40 = .ok (.getfield 9, 3) by decide +kernel) (v := .inr (.inr (2 + 1))) rfl ?_
      refine y_aload_n (show decode cX8_stepNumber 43 = .ok (.aload_n 0, 1) by decide +kernel) 0 rfl ?_
      refine y_getf 1 8 8 25 (by decide) rfl (by decide) (by decide) q1_53 (show decode cX8_stepNumber 44 = .ok (.getfield 25, 3) by decide +kernel) (v := .inl (σ3 1 8)) rfl ?_
      obtain ⟨c24, h⟩ := chkA_some h
      refine yo_bald 2 1600 (by decide) rfl c24 (ov_at rfl) (show decode cX8_stepNumber 47 = .ok (.baload, 1) by decide +kernel) ?_
      refine y_bipush (show decode cX8_stepNumber 48 = .ok (.bipush 48, 2) by decide +kernel) rfl rfl ?_
      refine y_isubW (show decode cX8_stepNumber 50 = .ok (.isub, 1) by decide +kernel) ?_
      refine y_iaddW (show decode cX8_stepNumber 51 = .ok (.iadd, 1) by decide +kernel) ?_
      obtain ⟨σ25, e26, h⟩ := bnd_i h
      refine yo_putI 1 8 5 68 (by decide) rfl (by decide) (by decide) q1_47 rfl (show decode cX8_stepNumber 52 = .ok (.putfield 68, 3) by decide +kernel) rfl rfl (ov_set1 e26 rfl) ?_
      refine y_aload_n (show decode cX8_stepNumber 55 = .ok (.aload_n 0, 1) by decide +kernel) 0 rfl ?_
      refine y_dup (show decode cX8_stepNumber 56 = .ok (.dup, 1) by decide +kernel) rfl ?_
      refine y_getf 1 8 8 25 (by decide) rfl (by decide) (by decide) q1_53 (show decode cX8_stepNumber 57 = .ok (.getfield 25, 3) by decide +kernel) (v := .inl (σ25 1 8)) rfl ?_
      refine y_iconst (show decode cX8_stepNumber 60 = .ok (.iconst 1, 1) by decide +kernel) rfl ?_
      refine y_iaddW (show decode cX8_stepNumber 61 = .ok (.iadd, 1) by decide +kernel) ?_
      obtain ⟨σ27, e28, h⟩ := bnd_i h
      refine yo_putI 1 8 8 25 (by decide) rfl (by decide) (by decide) q1_53 rfl (show decode cX8_stepNumber 62 = .ok (.putfield 25, 3) by decide +kernel) rfl rfl (ov_set1 e28 rfl) ?_
      refine y_goto (tgt := 5) (show decode cX8_stepNumber 65 = .ok (.goto (-60), 3) by decide +kernel) rfl ?_
      refine y_pick [0] rfl ?_
      exact hk4 _ h
abbrev MX8_step : yM := (yX8_step, cX8_step, 2, none)
def cTp_step (N : Nat) (σ : ySt) : Option (ySt) :=
  loopS0 (fun k2 σ1 =>
    bnd (bnd (yset σ1 1 2 (σ1 1 8)) fun σ4 =>
      if (σ4 1 8) < (σ4 1 1) then
        chkA 1600 (σ4 1 8) <|
        bndO (cTp_isLetter (σ4 2 ((σ4 1 8)).toNat) σ4) fun r9 =>
        if r9 = 0 then
          chkA 1600 (σ4 1 8) <|
          bndO (cTp_isDigit (σ4 2 ((σ4 1 8)).toNat) σ4) fun r13 =>
          if r13 = 0 then
            chkA 1600 (σ4 1 8) <|
            chkA 256 (b32i2c (b32and (σ4 2 ((σ4 1 8)).toNat) 255)) <|
            bnd (fun (y17 : Int) =>
              bnd (yset σ4 1 3 y17) fun σ19 =>
              chkI ((σ19 1 8) + 1) <|
              bnd (yset σ19 1 8 ((σ19 1 8) + 1)) fun σ22 =>
              some σ22) fun j18 =>
            if (yIx1 (b32i2c (b32and (σ4 2 ((σ4 1 8)).toNat) 255))) < 0 then
              j18 1
            else
              j18 (b32i2c (b32and (σ4 2 ((σ4 1 8)).toNat) 255))
          else
            bndO (cTp_stepNumber N σ4) fun σ26 =>
            some σ26
        else
          bndO (cTp_stepWord N σ4) fun σ28 =>
          chkI ((σ28 1 8) - (σ28 1 2)) <|
          bnd (fun (y30 : Int) =>
            bnd (yset σ28 1 3 y30) fun σ32 =>
            some σ32) fun j31 =>
          if ((σ28 1 8) - (σ28 1 2)) ≤ 8 then
            bndO (cTp_kindOf N (σ28 1 4) σ28) fun r36 =>
            j31 r36
          else
            j31 1
      else
        bnd (yset σ4 1 3 0) fun σ37 =>
        some σ37) fun j3 =>
    if (σ1 1 8) ≥ (σ1 1 1) then
      j3
    else
      chkA 1600 (σ1 1 8) <|
      bnd (chkI ((σ1 1 8) + 1) <|
        bnd (yset σ1 1 8 ((σ1 1 8) + 1)) fun σ43 =>
        k2 σ43) fun j41 =>
      if (σ1 2 ((σ1 1 8)).toNat) = 32 then
        j41
      else
        chkA 1600 (σ1 1 8) <|
        if ¬ (σ1 2 ((σ1 1 8)).toNat) = 10 then
          j3
        else
          j41) N σ
set_option maxHeartbeats 4000000 in
set_option maxRecDepth 10000 in
theorem sh_cTp_step {E : yE} {N : Nat} {σ : ySt} {τ : ySt} (h : cTp_step N σ = some τ) : Con E MX8_step 8 0 0 [.inr (.inr (1 + 1))] 150 (ov σ) none (ov τ) := by
  unfold cTp_step at h
  refine Con.ofY (by decide +kernel) (by simp [yWords, yCat]) (fun hok _ => ?_)
  show Y E MX8_step (yRm 8 0 0) (yQf E (150 + 0) 0 0 none (ov τ)) 0 [(0, .inr (.inr (1 + 1)))] [] (ov σ) 150 0 0
  refine y_pick [0] rfl ?_
  refine loopS0_ind (P := fun σ1 => Y E MX8_step (yRm 8 0 0) (yQf E (150 + 0) 0 0 none (ov τ)) 0 [(0, .inr (.inr (1 + 1)))] [] (ov σ1) 150 0 0) (fun k2 hk2 σ1 h => ?_) _ _  h
  refine y_aload_n (show decode cX8_step 0 = .ok (.aload_n 0, 1) by decide +kernel) 0 rfl ?_
  refine y_getf 1 8 8 25 (by decide) rfl (by decide) (by decide) q1_53 (show decode cX8_step 1 = .ok (.getfield 25, 3) by decide +kernel) (v := .inl (σ1 1 8)) rfl ?_
  refine y_aload_n (show decode cX8_step 4 = .ok (.aload_n 0, 1) by decide +kernel) 0 rfl ?_
  refine y_getf 1 8 1 19 (by decide) rfl (by decide) (by decide) q1_37 (show decode cX8_step 5 = .ok (.getfield 19, 3) by decide +kernel) (v := .inl (σ1 1 1)) rfl ?_
  refine bnd_j (Q := fun j3 => j3 = some τ → Y E MX8_step (yRm 8 0 0) (yQf E (150 + 0) 0 0 none (ov τ)) 52 [(0, .inr (.inr (1 + 1)))] [] (ov σ1) 150 0 0) (fun h => ?_) (fun j3 hj3 h => ?_) h
  · refine y_aload_n (show decode cX8_step 52 = .ok (.aload_n 0, 1) by decide +kernel) 0 rfl ?_
    refine y_aload_n (show decode cX8_step 53 = .ok (.aload_n 0, 1) by decide +kernel) 0 rfl ?_
    refine y_getf 1 8 8 25 (by decide) rfl (by decide) (by decide) q1_53 (show decode cX8_step 54 = .ok (.getfield 25, 3) by decide +kernel) (v := .inl (σ1 1 8)) rfl ?_
    obtain ⟨σ4, e5, h⟩ := bnd_i h
    refine yo_putI 1 8 2 31 (by decide) rfl (by decide) (by decide) q1_39 rfl (show decode cX8_step 57 = .ok (.putfield 31, 3) by decide +kernel) rfl rfl (ov_set1 e5 rfl) ?_
    refine y_aload_n (show decode cX8_step 60 = .ok (.aload_n 0, 1) by decide +kernel) 0 rfl ?_
    refine y_getf 1 8 8 25 (by decide) rfl (by decide) (by decide) q1_53 (show decode cX8_step 61 = .ok (.getfield 25, 3) by decide +kernel) (v := .inl (σ4 1 8)) rfl ?_
    refine y_aload_n (show decode cX8_step 64 = .ok (.aload_n 0, 1) by decide +kernel) 0 rfl ?_
    refine y_getf 1 8 1 19 (by decide) rfl (by decide) (by decide) q1_37 (show decode cX8_step 65 = .ok (.getfield 19, 3) by decide +kernel) (v := .inl (σ4 1 1)) rfl ?_
    by_cases c6 : (σ4 1 8) < (σ4 1 1)
    · rw [if_pos c6] at h
      refine y_icmp_lt_t (tgt := 79) (show decode cX8_step 68 = .ok (.if_icmp .lt 11, 3) by decide +kernel) rfl c6 ?_
      refine y_aload_n (show decode cX8_step 79 = .ok (.aload_n 0, 1) by decide +kernel) 0 rfl ?_
      refine y_getf 1 8 0 9 (by decide) rfl (by decide) (by decide) q1_36 (show decode cX8_step 80 = .ok (.getfield 9, 3) by decide +kernel) (v := .inr (.inr (2 + 1))) rfl ?_
      refine y_aload_n (show decode cX8_step 83 = .ok (.aload_n 0, 1) by decide +kernel) 0 rfl ?_
      refine y_getf 1 8 8 25 (by decide) rfl (by decide) (by decide) q1_53 (show decode cX8_step 84 = .ok (.getfield 25, 3) by decide +kernel) (v := .inl (σ4 1 8)) rfl ?_
      obtain ⟨c7, h⟩ := chkA_some h
      refine yo_bald 2 1600 (by decide) rfl c7 (ov_at rfl) (show decode cX8_step 87 = .ok (.baload, 1) by decide +kernel) ?_
      obtain ⟨r9, e8, h⟩ := bndO_some h
      refine y_callS (np := 1) (st := []) (as := [.inl (σ4 2 ((σ4 1 8)).toNat)]) (sh_cTp_isLetter e8) q3_93 q3_91 q3_92 q1_2 (by decide) (by decide +kernel) (by decide) rfl (Nat.le_of_ble_eq_true rfl) (show decode cX8_step 88 = .ok (.invokestatic 37, 3) by decide +kernel) rfl ?_
      by_cases c10 : r9 = 0
      · rw [if_pos c10] at h
        refine y_if_eq_t (tgt := 130) (show decode cX8_step 91 = .ok (.ifCond .eq 39, 3) by decide +kernel) rfl c10 ?_
        refine y_aload_n (show decode cX8_step 130 = .ok (.aload_n 0, 1) by decide +kernel) 0 rfl ?_
        refine y_getf 1 8 0 9 (by decide) rfl (by decide) (by decide) q1_36 (show decode cX8_step 131 = .ok (.getfield 9, 3) by decide +kernel) (v := .inr (.inr (2 + 1))) rfl ?_
        refine y_aload_n (show decode cX8_step 134 = .ok (.aload_n 0, 1) by decide +kernel) 0 rfl ?_
        refine y_getf 1 8 8 25 (by decide) rfl (by decide) (by decide) q1_53 (show decode cX8_step 135 = .ok (.getfield 25, 3) by decide +kernel) (v := .inl (σ4 1 8)) rfl ?_
        obtain ⟨c11, h⟩ := chkA_some h
        refine yo_bald 2 1600 (by decide) rfl c11 (ov_at rfl) (show decode cX8_step 138 = .ok (.baload, 1) by decide +kernel) ?_
        obtain ⟨r13, e12, h⟩ := bndO_some h
        refine y_callS (np := 1) (st := []) (as := [.inl (σ4 2 ((σ4 1 8)).toNat)]) (sh_cTp_isDigit e12) q3_153 q3_151 q3_152 q1_2 (by decide) (by decide +kernel) (by decide) rfl (Nat.le_of_ble_eq_true rfl) (show decode cX8_step 139 = .ok (.invokestatic 52, 3) by decide +kernel) rfl ?_
        by_cases c14 : r13 = 0
        · rw [if_pos c14] at h
          refine y_if_eq_t (tgt := 152) (show decode cX8_step 142 = .ok (.ifCond .eq 10, 3) by decide +kernel) rfl c14 ?_
          refine y_aload_n (show decode cX8_step 152 = .ok (.aload_n 0, 1) by decide +kernel) 0 rfl ?_
          refine y_getf 1 8 0 9 (by decide) rfl (by decide) (by decide) q1_36 (show decode cX8_step 153 = .ok (.getfield 9, 3) by decide +kernel) (v := .inr (.inr (2 + 1))) rfl ?_
          refine y_aload_n (show decode cX8_step 156 = .ok (.aload_n 0, 1) by decide +kernel) 0 rfl ?_
          refine y_getf 1 8 8 25 (by decide) rfl (by decide) (by decide) q1_53 (show decode cX8_step 157 = .ok (.getfield 25, 3) by decide +kernel) (v := .inl (σ4 1 8)) rfl ?_
          obtain ⟨c15, h⟩ := chkA_some h
          refine yo_bald 2 1600 (by decide) rfl c15 (ov_at rfl) (show decode cX8_step 160 = .ok (.baload, 1) by decide +kernel) ?_
          refine y_sipush (show decode cX8_step 161 = .ok (.sipush 255, 3) by decide +kernel) rfl rfl ?_
          refine y_iand (show decode cX8_step 164 = .ok (.iand, 1) by decide +kernel) ?_
          refine y_i2c (show decode cX8_step 165 = .ok (.i2c, 1) by decide +kernel) ?_
          refine y_istore_n (show decode cX8_step 166 = .ok (.istore_n 1, 1) by decide +kernel) rfl (L1 := [(1, .inl (b32i2c (b32and (σ4 2 ((σ4 1 8)).toNat) 255))), (0, .inr (.inr (1 + 1)))]) rfl ?_
          refine y_aload_n (show decode cX8_step 167 = .ok (.aload_n 0, 1) by decide +kernel) 1 rfl ?_
          obtain ⟨c16, h⟩ := chkA_some h
          refine y_stridx rfl (show decode cX8_step 168 = .ok (.ldc 58, 2) by decide +kernel) (show decode cX8_step 170 = .ok (.iload_n 1, 1) by decide +kernel) (show decode cX8_step 171 = .ok (.invokevirtual 60, 3) by decide +kernel) (by decide) (Nat.le_of_ble_eq_true rfl) 0 rfl c16 ?_
          refine bnd_j (Q := fun j18 => ∀ (y17 : Int), j18 y17 = some τ → Y E MX8_step (yRm 8 0 0) (yQf E (150 + 0) 0 0 none (ov τ)) 182 [(0, .inr (.inr (1 + 1)))] [.inl y17, .inr (.inr (1 + 1))] (ov σ4) 150 0 0) (fun y17 h => ?_) (fun j18 hj18 h => ?_) h
          · dsimp only at h
            obtain ⟨σ19, e20, h⟩ := bnd_i h
            refine yo_putI 1 8 3 34 (by decide) rfl (by decide) (by decide) q1_43 rfl (show decode cX8_step 182 = .ok (.putfield 34, 3) by decide +kernel) rfl rfl (ov_set1 e20 rfl) ?_
            refine y_aload_n (show decode cX8_step 185 = .ok (.aload_n 0, 1) by decide +kernel) 0 rfl ?_
            refine y_dup (show decode cX8_step 186 = .ok (.dup, 1) by decide +kernel) rfl ?_
            refine y_getf 1 8 8 25 (by decide) rfl (by decide) (by decide) q1_53 (show decode cX8_step 187 = .ok (.getfield 25, 3) by decide +kernel) (v := .inl (σ19 1 8)) rfl ?_
            refine y_iconst (show decode cX8_step 190 = .ok (.iconst 1, 1) by decide +kernel) rfl ?_
            obtain ⟨c21, h⟩ := chkI_some h
            refine y_iadd (show decode cX8_step 191 = .ok (.iadd, 1) by decide +kernel) c21 ?_
            obtain ⟨σ22, e23, h⟩ := bnd_i h
            refine yo_putI 1 8 8 25 (by decide) rfl (by decide) (by decide) q1_53 rfl (show decode cX8_step 192 = .ok (.putfield 25, 3) by decide +kernel) rfl rfl (ov_set1 e23 rfl) ?_
            cases h
            exact y_vret (show decode cX8_step 195 = .ok (.return_, 1) by decide +kernel) rfl
          by_cases c24 : (yIx1 (b32i2c (b32and (σ4 2 ((σ4 1 8)).toNat) 255))) < 0
          · rw [if_pos c24] at h
            refine y_if_lt_t (tgt := 181) (show decode cX8_step 174 = .ok (.ifCond .lt 7, 3) by decide +kernel) rfl c24 ?_
            refine y_iconst (show decode cX8_step 181 = .ok (.iconst 1, 1) by decide +kernel) rfl ?_
            refine y_pick [1] rfl ?_
            exact hj18 _ h
          · rw [if_neg c24] at h
            refine y_if_lt_f (show decode cX8_step 174 = .ok (.ifCond .lt 7, 3) by decide +kernel) c24 (by decide) ?_
            refine y_iload_n (show decode cX8_step 177 = .ok (.iload_n 1, 1) by decide +kernel) 0 rfl ?_
            refine y_goto (tgt := 182) (show decode cX8_step 178 = .ok (.goto 4, 3) by decide +kernel) rfl ?_
            refine y_pick [1] rfl ?_
            exact hj18 _ h
        · rw [if_neg c14] at h
          refine y_if_eq_f (show decode cX8_step 142 = .ok (.ifCond .eq 10, 3) by decide +kernel) c14 (by decide) ?_
          refine y_aload_n (show decode cX8_step 145 = .ok (.aload_n 0, 1) by decide +kernel) 0 rfl ?_
          obtain ⟨σ26, e25, h⟩ := bndO_some h
          refine y_callV (np := 0) (st := []) (as := []) 1 8 (sh_cTp_stepNumber e25) q3_157 q3_154 q3_156 qs1_4 q1_2 (by decide) rfl (by decide) rfl (by decide) (by decide +kernel) (by decide) rfl (Nat.le_of_ble_eq_true rfl) (show decode cX8_step 146 = .ok (.invokevirtual 55, 3) by decide +kernel) rfl ?_
          refine y_goto (tgt := 195) (show decode cX8_step 149 = .ok (.goto 46, 3) by decide +kernel) rfl ?_
          cases h
          exact y_vret (show decode cX8_step 195 = .ok (.return_, 1) by decide +kernel) rfl
      · rw [if_neg c10] at h
        refine y_if_eq_f (show decode cX8_step 91 = .ok (.ifCond .eq 39, 3) by decide +kernel) c10 (by decide) ?_
        refine y_aload_n (show decode cX8_step 94 = .ok (.aload_n 0, 1) by decide +kernel) 0 rfl ?_
        obtain ⟨σ28, e27, h⟩ := bndO_some h
        refine y_callV (np := 0) (st := []) (as := []) 1 8 (sh_cTp_stepWord e27) q3_97 q3_94 q3_96 qs1_3 q1_2 (by decide) rfl (by decide) rfl (by decide) (by decide +kernel) (by decide) rfl (Nat.le_of_ble_eq_true rfl) (show decode cX8_step 95 = .ok (.invokevirtual 41, 3) by decide +kernel) rfl ?_
        refine y_aload_n (show decode cX8_step 98 = .ok (.aload_n 0, 1) by decide +kernel) 0 rfl ?_
        refine y_aload_n (show decode cX8_step 99 = .ok (.aload_n 0, 1) by decide +kernel) 0 rfl ?_
        refine y_getf 1 8 8 25 (by decide) rfl (by decide) (by decide) q1_53 (show decode cX8_step 100 = .ok (.getfield 25, 3) by decide +kernel) (v := .inl (σ28 1 8)) rfl ?_
        refine y_aload_n (show decode cX8_step 103 = .ok (.aload_n 0, 1) by decide +kernel) 0 rfl ?_
        refine y_getf 1 8 2 31 (by decide) rfl (by decide) (by decide) q1_39 (show decode cX8_step 104 = .ok (.getfield 31, 3) by decide +kernel) (v := .inl (σ28 1 2)) rfl ?_
        obtain ⟨c29, h⟩ := chkI_some h
        refine y_isub (show decode cX8_step 107 = .ok (.isub, 1) by decide +kernel) c29 ?_
        refine y_bipush (show decode cX8_step 108 = .ok (.bipush 8, 2) by decide +kernel) rfl rfl ?_
        refine bnd_j (Q := fun j31 => ∀ (y30 : Int), j31 y30 = some τ → Y E MX8_step (yRm 8 0 0) (yQf E (150 + 0) 0 0 none (ov τ)) 124 [] [.inl y30, .inr (.inr (1 + 1))] (ov σ28) 150 0 0) (fun y30 h => ?_) (fun j31 hj31 h => ?_) h
        · dsimp only at h
          obtain ⟨σ32, e33, h⟩ := bnd_i h
          refine yo_putI 1 8 3 34 (by decide) rfl (by decide) (by decide) q1_43 rfl (show decode cX8_step 124 = .ok (.putfield 34, 3) by decide +kernel) rfl rfl (ov_set1 e33 rfl) ?_
          refine y_goto (tgt := 195) (show decode cX8_step 127 = .ok (.goto 68, 3) by decide +kernel) rfl ?_
          cases h
          exact y_vret (show decode cX8_step 195 = .ok (.return_, 1) by decide +kernel) rfl
        by_cases c34 : ((σ28 1 8) - (σ28 1 2)) ≤ 8
        · rw [if_pos c34] at h
          refine y_icmp_le_t (tgt := 117) (show decode cX8_step 110 = .ok (.if_icmp .le 7, 3) by decide +kernel) rfl c34 ?_
          refine y_aload_n (show decode cX8_step 117 = .ok (.aload_n 0, 1) by decide +kernel) 0 rfl ?_
          refine y_getf 1 8 4 44 (by decide) rfl (by decide) (by decide) q1_46 (show decode cX8_step 118 = .ok (.getfield 44, 3) by decide +kernel) (v := .inr (.inl (σ28 1 4))) rfl ?_
          obtain ⟨r36, e35, h⟩ := bndO_some h
          refine y_callS (np := 1) (st := [.inr (.inr (1 + 1))]) (as := [.inr (.inl (σ28 1 4))]) (sh_cTp_kindOf e35) q3_101 q3_99 q3_100 q1_2 (by decide) (by decide +kernel) (by decide) rfl (Nat.le_of_ble_eq_true rfl) (show decode cX8_step 121 = .ok (.invokestatic 48, 3) by decide +kernel) rfl ?_
          refine y_pick [] rfl ?_
          exact hj31 _ h
        · rw [if_neg c34] at h
          refine y_icmp_le_f (show decode cX8_step 110 = .ok (.if_icmp .le 7, 3) by decide +kernel) c34 (by decide) ?_
          refine y_iconst (show decode cX8_step 113 = .ok (.iconst 1, 1) by decide +kernel) rfl ?_
          refine y_goto (tgt := 124) (show decode cX8_step 114 = .ok (.goto 10, 3) by decide +kernel) rfl ?_
          refine y_pick [] rfl ?_
          exact hj31 _ h
    · rw [if_neg c6] at h
      refine y_icmp_lt_f (show decode cX8_step 68 = .ok (.if_icmp .lt 11, 3) by decide +kernel) c6 (by decide) ?_
      refine y_aload_n (show decode cX8_step 71 = .ok (.aload_n 0, 1) by decide +kernel) 0 rfl ?_
      refine y_iconst (show decode cX8_step 72 = .ok (.iconst 0, 1) by decide +kernel) rfl ?_
      obtain ⟨σ37, e38, h⟩ := bnd_i h
      refine yo_putI 1 8 3 34 (by decide) rfl (by decide) (by decide) q1_43 rfl (show decode cX8_step 73 = .ok (.putfield 34, 3) by decide +kernel) rfl rfl (ov_set1 e38 rfl) ?_
      refine y_goto (tgt := 195) (show decode cX8_step 76 = .ok (.goto 119, 3) by decide +kernel) rfl ?_
      cases h
      exact y_vret (show decode cX8_step 195 = .ok (.return_, 1) by decide +kernel) rfl
  by_cases c39 : (σ1 1 8) ≥ (σ1 1 1)
  · rw [if_pos c39] at h
    refine y_icmp_ge_t (tgt := 52) (show decode cX8_step 8 = .ok (.if_icmp .ge 44, 3) by decide +kernel) rfl c39 ?_
    refine y_pick [0] rfl ?_
    exact hj3 h
  · rw [if_neg c39] at h
    refine y_icmp_ge_f (show decode cX8_step 8 = .ok (.if_icmp .ge 44, 3) by decide +kernel) c39 (by decide) ?_
    refine y_aload_n (show decode cX8_step 11 = .ok (.aload_n 0, 1) by decide +kernel) 0 rfl ?_
    refine y_getf 1 8 0 9 (by decide) rfl (by decide) (by decide) q1_36 (show decode cX8_step 12 = .ok (.getfield 9, 3) by decide +kernel) (v := .inr (.inr (2 + 1))) rfl ?_
    refine y_aload_n (show decode cX8_step 15 = .ok (.aload_n 0, 1) by decide +kernel) 0 rfl ?_
    refine y_getf 1 8 8 25 (by decide) rfl (by decide) (by decide) q1_53 (show decode cX8_step 16 = .ok (.getfield 25, 3) by decide +kernel) (v := .inl (σ1 1 8)) rfl ?_
    obtain ⟨c40, h⟩ := chkA_some h
    refine yo_bald 2 1600 (by decide) rfl c40 (ov_at rfl) (show decode cX8_step 19 = .ok (.baload, 1) by decide +kernel) ?_
    refine y_bipush (show decode cX8_step 20 = .ok (.bipush 32, 2) by decide +kernel) rfl rfl ?_
    refine bnd_j (Q := fun j41 => j41 = some τ → Y E MX8_step (yRm 8 0 0) (yQf E (150 + 0) 0 0 none (ov τ)) 39 [(0, .inr (.inr (1 + 1)))] [] (ov σ1) 150 0 0) (fun h => ?_) (fun j41 hj41 h => ?_) h
    · refine y_aload_n (show decode cX8_step 39 = .ok (.aload_n 0, 1) by decide +kernel) 0 rfl ?_
      refine y_dup (show decode cX8_step 40 = .ok (.dup, 1) by decide +kernel) rfl ?_
      refine y_getf 1 8 8 25 (by decide) rfl (by decide) (by decide) q1_53 (show decode cX8_step 41 = .ok (.getfield 25, 3) by decide +kernel) (v := .inl (σ1 1 8)) rfl ?_
      refine y_iconst (show decode cX8_step 44 = .ok (.iconst 1, 1) by decide +kernel) rfl ?_
      obtain ⟨c42, h⟩ := chkI_some h
      refine y_iadd (show decode cX8_step 45 = .ok (.iadd, 1) by decide +kernel) c42 ?_
      obtain ⟨σ43, e44, h⟩ := bnd_i h
      refine yo_putI 1 8 8 25 (by decide) rfl (by decide) (by decide) q1_53 rfl (show decode cX8_step 46 = .ok (.putfield 25, 3) by decide +kernel) rfl rfl (ov_set1 e44 rfl) ?_
      refine y_goto (tgt := 0) (show decode cX8_step 49 = .ok (.goto (-49), 3) by decide +kernel) rfl ?_
      refine y_pick [0] rfl ?_
      exact hk2 _ h
    by_cases c45 : (σ1 2 ((σ1 1 8)).toNat) = 32
    · rw [if_pos c45] at h
      refine y_icmp_eq_t (tgt := 39) (show decode cX8_step 22 = .ok (.if_icmp .eq 17, 3) by decide +kernel) rfl c45 ?_
      refine y_pick [0] rfl ?_
      exact hj41 h
    · rw [if_neg c45] at h
      refine y_icmp_eq_f (show decode cX8_step 22 = .ok (.if_icmp .eq 17, 3) by decide +kernel) c45 (by decide) ?_
      refine y_aload_n (show decode cX8_step 25 = .ok (.aload_n 0, 1) by decide +kernel) 0 rfl ?_
      refine y_getf 1 8 0 9 (by decide) rfl (by decide) (by decide) q1_36 (show decode cX8_step 26 = .ok (.getfield 9, 3) by decide +kernel) (v := .inr (.inr (2 + 1))) rfl ?_
      refine y_aload_n (show decode cX8_step 29 = .ok (.aload_n 0, 1) by decide +kernel) 0 rfl ?_
      refine y_getf 1 8 8 25 (by decide) rfl (by decide) (by decide) q1_53 (show decode cX8_step 30 = .ok (.getfield 25, 3) by decide +kernel) (v := .inl (σ1 1 8)) rfl ?_
      obtain ⟨c46, h⟩ := chkA_some h
      refine yo_bald 2 1600 (by decide) rfl c46 (ov_at rfl) (show decode cX8_step 33 = .ok (.baload, 1) by decide +kernel) ?_
      refine y_bipush (show decode cX8_step 34 = .ok (.bipush 10, 2) by decide +kernel) rfl rfl ?_
      by_cases c47 : ¬ (σ1 2 ((σ1 1 8)).toNat) = 10
      · rw [if_pos c47] at h
        refine y_icmp_ne_t (tgt := 52) (show decode cX8_step 36 = .ok (.if_icmp .ne 16, 3) by decide +kernel) rfl c47 ?_
        refine y_pick [0] rfl ?_
        exact hj3 h
      · rw [if_neg c47] at h
        refine y_icmp_ne_f (show decode cX8_step 36 = .ok (.if_icmp .ne 16, 3) by decide +kernel) c47 (by decide) ?_
        refine y_pick [0] rfl ?_
        exact hj41 h
abbrev MX8_begin : yM := (yX8_begin, cX8_begin, 1, none)
def cTp_begin (N : Nat) (σ : ySt) : Option (ySt) :=
  bnd (yset σ 1 6 0) fun σ1 =>
  bnd (yset σ1 1 7 (-1)) fun σ3 =>
  bnd (yset σ3 1 8 0) fun σ5 =>
  bndO (cTp_step N σ5) fun σ8 =>
  some σ8
set_option maxHeartbeats 4000000 in
set_option maxRecDepth 10000 in
theorem sh_cTp_begin {E : yE} {N : Nat} {σ : ySt} {τ : ySt} (h : cTp_begin N σ = some τ) : Con E MX8_begin 9 0 0 [.inr (.inr (1 + 1))] 150 (ov σ) none (ov τ) := by
  unfold cTp_begin at h
  refine Con.ofY (by decide +kernel) (by simp [yWords, yCat]) (fun hok _ => ?_)
  show Y E MX8_begin (yRm 9 0 0) (yQf E (150 + 0) 0 0 none (ov τ)) 0 [(0, .inr (.inr (1 + 1)))] [] (ov σ) 150 0 0
  refine y_aload_n (show decode cX8_begin 0 = .ok (.aload_n 0, 1) by decide +kernel) 0 rfl ?_
  refine y_iconst (show decode cX8_begin 1 = .ok (.iconst 0, 1) by decide +kernel) rfl ?_
  obtain ⟨σ1, e2, h⟩ := bnd_i h
  refine yo_putI 1 8 6 22 (by decide) rfl (by decide) (by decide) q1_49 rfl (show decode cX8_begin 2 = .ok (.putfield 22, 3) by decide +kernel) rfl rfl (ov_set1 e2 rfl) ?_
  refine y_aload_n (show decode cX8_begin 5 = .ok (.aload_n 0, 1) by decide +kernel) 0 rfl ?_
  refine y_iconst (show decode cX8_begin 6 = .ok (.iconst (-1), 1) by decide +kernel) rfl ?_
  obtain ⟨σ3, e4, h⟩ := bnd_i h
  refine yo_putI 1 8 7 15 (by decide) rfl (by decide) (by decide) q1_51 rfl (show decode cX8_begin 7 = .ok (.putfield 15, 3) by decide +kernel) rfl rfl (ov_set1 e4 rfl) ?_
  refine y_aload_n (show decode cX8_begin 10 = .ok (.aload_n 0, 1) by decide +kernel) 0 rfl ?_
  refine y_iconst (show decode cX8_begin 11 = .ok (.iconst 0, 1) by decide +kernel) rfl ?_
  obtain ⟨σ5, e6, h⟩ := bnd_i h
  refine yo_putI 1 8 8 25 (by decide) rfl (by decide) (by decide) q1_53 rfl (show decode cX8_begin 12 = .ok (.putfield 25, 3) by decide +kernel) rfl rfl (ov_set1 e6 rfl) ?_
  refine y_aload_n (show decode cX8_begin 15 = .ok (.aload_n 0, 1) by decide +kernel) 0 rfl ?_
  obtain ⟨σ8, e7, h⟩ := bndO_some h
  refine y_callV (np := 0) (st := []) (as := []) 1 8 (sh_cTp_step e7) q3_90 q3_87 q3_88 q3_89 q1_2 (by decide) rfl (by decide) rfl (by decide) (by decide +kernel) (by decide) rfl (Nat.le_of_ble_eq_true rfl) (show decode cX8_begin 16 = .ok (.invokevirtual 28, 3) by decide +kernel) rfl ?_
  cases h
  exact y_vret (show decode cX8_begin 19 = .ok (.return_, 1) by decide +kernel) rfl
abbrev MX8_blame : yM := (yX8_blame, cX8_blame, 2, some .boolean)
def cTp_blame (a : Int) (σ : ySt) : Option (Int × ySt) :=
  bnd (yset σ 1 6 a) fun σ1 =>
  bnd (yset σ1 1 7 (σ1 1 2)) fun σ3 =>
  some (0, σ3)
set_option maxHeartbeats 4000000 in
set_option maxRecDepth 10000 in
theorem sh_cTp_blame {E : yE} {a : Int} {σ : ySt} {ρ : Int} {τ : ySt} (h : cTp_blame a σ = some (ρ, τ)) : Con E MX8_blame 0 0 0 [.inr (.inr (1 + 1)), .inl a] 150 (ov σ) (some (.inl ρ)) (ov τ) := by
  unfold cTp_blame at h
  refine Con.ofY (by decide +kernel) (by simp [yWords, yCat]) (fun hok _ => ?_)
  show Y E MX8_blame (yRm 0 0 0) (yQf E (150 + 0) 0 0 (some (.inl ρ)) (ov τ)) 0 [(0, .inr (.inr (1 + 1))), (1, .inl a)] [] (ov σ) 150 0 0
  refine y_aload_n (show decode cX8_blame 0 = .ok (.aload_n 0, 1) by decide +kernel) 0 rfl ?_
  refine y_iload_n (show decode cX8_blame 1 = .ok (.iload_n 1, 1) by decide +kernel) 1 rfl ?_
  obtain ⟨σ1, e2, h⟩ := bnd_i h
  refine yo_putI 1 8 6 22 (by decide) rfl (by decide) (by decide) q1_49 rfl (show decode cX8_blame 2 = .ok (.putfield 22, 3) by decide +kernel) rfl rfl (ov_set1 e2 rfl) ?_
  refine y_aload_n (show decode cX8_blame 5 = .ok (.aload_n 0, 1) by decide +kernel) 0 rfl ?_
  refine y_aload_n (show decode cX8_blame 6 = .ok (.aload_n 0, 1) by decide +kernel) 0 rfl ?_
  refine y_getf 1 8 2 31 (by decide) rfl (by decide) (by decide) q1_39 (show decode cX8_blame 7 = .ok (.getfield 31, 3) by decide +kernel) (v := .inl (σ1 1 2)) rfl ?_
  obtain ⟨σ3, e4, h⟩ := bnd_i h
  refine yo_putI 1 8 7 15 (by decide) rfl (by decide) (by decide) q1_51 rfl (show decode cX8_blame 10 = .ok (.putfield 15, 3) by decide +kernel) rfl rfl (ov_set1 e4 rfl) ?_
  refine y_iconst (show decode cX8_blame 13 = .ok (.iconst 0, 1) by decide +kernel) rfl ?_
  cases h
  exact y_zret (show decode cX8_blame 14 = .ok (.ireturn, 1) by decide +kernel) rfl (Or.inl rfl)
abbrev MX8_refuse : yM := (yX8_refuse, cX8_refuse, 1, some .boolean)
def cTp_refuse (σ : ySt) : Option (Int × ySt) :=
  bnd (fun (y1 : Int) =>
    bndR (cTp_blame y1 σ) fun r4 σ5 =>
    chk (r4 = 0 ∨ r4 = 1) <|
    some (r4, σ5)) fun j2 =>
  if ¬ (σ 1 3) = 1 then
    j2 2
  else
    j2 1
set_option maxHeartbeats 4000000 in
set_option maxRecDepth 10000 in
theorem sh_cTp_refuse {E : yE} {σ : ySt} {ρ : Int} {τ : ySt} (h : cTp_refuse σ = some (ρ, τ)) : Con E MX8_refuse 1 0 0 [.inr (.inr (1 + 1))] 150 (ov σ) (some (.inl ρ)) (ov τ) := by
  unfold cTp_refuse at h
  refine Con.ofY (by decide +kernel) (by simp [yWords, yCat]) (fun hok _ => ?_)
  show Y E MX8_refuse (yRm 1 0 0) (yQf E (150 + 0) 0 0 (some (.inl ρ)) (ov τ)) 0 [(0, .inr (.inr (1 + 1)))] [] (ov σ) 150 0 0
  refine y_aload_n (show decode cX8_refuse 0 = .ok (.aload_n 0, 1) by decide +kernel) 0 rfl ?_
  refine y_aload_n (show decode cX8_refuse 1 = .ok (.aload_n 0, 1) by decide +kernel) 0 rfl ?_
  refine y_getf 1 8 3 34 (by decide) rfl (by decide) (by decide) q1_43 (show decode cX8_refuse 2 = .ok (.getfield 34, 3) by decide +kernel) (v := .inl (σ 1 3)) rfl ?_
  refine y_iconst (show decode cX8_refuse 5 = .ok (.iconst 1, 1) by decide +kernel) rfl ?_
  refine bnd_j (Q := fun j2 => ∀ (y1 : Int), j2 y1 = some (ρ, τ) → Y E MX8_refuse (yRm 1 0 0) (yQf E (150 + 0) 0 0 (some (.inl ρ)) (ov τ)) 14 [] [.inl y1, .inr (.inr (1 + 1))] (ov σ) 150 0 0) (fun y1 h => ?_) (fun j2 hj2 h => ?_) h
  · dsimp only at h
    obtain ⟨r4, σ5, e3, h⟩ := bndR_some h
    refine y_callV (np := 1) (st := []) (as := [.inl y1]) 1 8 (sh_cTp_blame e3) q3_235 q4_5 q3_233 q3_234 q1_2 (by decide) rfl (by decide) rfl (by decide) (by decide +kernel) (by decide) rfl (Nat.le_of_ble_eq_true rfl) (show decode cX8_refuse 14 = .ok (.invokevirtual 80, 3) by decide +kernel) rfl ?_
    obtain ⟨c6, h⟩ := chk_some h
    cases h
    exact y_zret (show decode cX8_refuse 17 = .ok (.ireturn, 1) by decide +kernel) rfl c6
  by_cases c7 : ¬ (σ 1 3) = 1
  · rw [if_pos c7] at h
    refine y_icmp_ne_t (tgt := 13) (show decode cX8_refuse 6 = .ok (.if_icmp .ne 7, 3) by decide +kernel) rfl c7 ?_
    refine y_iconst (show decode cX8_refuse 13 = .ok (.iconst 2, 1) by decide +kernel) rfl ?_
    refine y_pick [] rfl ?_
    exact hj2 _ h
  · rw [if_neg c7] at h
    refine y_icmp_ne_f (show decode cX8_refuse 6 = .ok (.if_icmp .ne 7, 3) by decide +kernel) c7 (by decide) ?_
    refine y_iconst (show decode cX8_refuse 9 = .ok (.iconst 1, 1) by decide +kernel) rfl ?_
    refine y_goto (tgt := 14) (show decode cX8_refuse 10 = .ok (.goto 4, 3) by decide +kernel) rfl ?_
    refine y_pick [] rfl ?_
    exact hj2 _ h
abbrev MX8_passKnown : yM := (yX8_passKnown, cX8_passKnown, 3, some .int)
def cTp_passKnown (N : Nat) (a : Nat) (σ : ySt) : Option (Int × ySt) :=
  chk (a = 14 ∨ a = 16 ∨ a = 18 ∨ a = 34 ∨ a = 36 ∨ a = 38) <|
  if (σ 1 3) = 3 then
    bndO (cNm_find N a (σ 1 4) σ) fun r4 =>
    if ¬ r4 = (-1) then
      bndO (cTp_step N σ) fun σ7 =>
      some (r4, σ7)
    else
      bndR (cTp_blame 5 σ) fun r9 σ10 =>
      some (r4, σ10)
  else
    bndR (cTp_refuse σ) fun r12 σ13 =>
    some ((-1), σ13)
set_option maxHeartbeats 4000000 in
set_option maxRecDepth 10000 in
theorem sh_cTp_passKnown {E : yE} {N : Nat} {a : Nat} {σ : ySt} {ρ : Int} {τ : ySt} (h : cTp_passKnown N a σ = some (ρ, τ)) : Con E MX8_passKnown 9 0 0 [.inr (.inr (1 + 1)), .inr (.inr (a + 1))] 150 (ov σ) (some (.inl ρ)) (ov τ) := by
  unfold cTp_passKnown at h
  refine Con.ofY (by decide +kernel) (by simp [yWords, yCat]) (fun hok _ => ?_)
  show Y E MX8_passKnown (yRm 9 0 0) (yQf E (150 + 0) 0 0 (some (.inl ρ)) (ov τ)) 0 [(0, .inr (.inr (1 + 1))), (1, .inr (.inr (a + 1)))] [] (ov σ) 150 0 0
  obtain ⟨c1, h⟩ := chk_some h
  refine y_iconst (show decode cX8_passKnown 0 = .ok (.iconst (-1), 1) by decide +kernel) rfl ?_
  refine y_istore_n (show decode cX8_passKnown 1 = .ok (.istore_n 2, 1) by decide +kernel) rfl (L1 := [(2, .inl (-1)), (0, .inr (.inr (1 + 1))), (1, .inr (.inr (a + 1)))]) rfl ?_
  refine y_aload_n (show decode cX8_passKnown 2 = .ok (.aload_n 0, 1) by decide +kernel) 1 rfl ?_
  refine y_getf 1 8 3 34 (by decide) rfl (by decide) (by decide) q1_43 (show decode cX8_passKnown 3 = .ok (.getfield 34, 3) by decide +kernel) (v := .inl (σ 1 3)) rfl ?_
  refine y_iconst (show decode cX8_passKnown 6 = .ok (.iconst 3, 1) by decide +kernel) rfl ?_
  by_cases c2 : (σ 1 3) = 3
  · rw [if_pos c2] at h
    refine y_icmp_eq_t (tgt := 18) (show decode cX8_passKnown 7 = .ok (.if_icmp .eq 11, 3) by decide +kernel) rfl c2 ?_
    refine y_aload_n (show decode cX8_passKnown 18 = .ok (.aload_n 1, 1) by decide +kernel) 2 rfl ?_
    refine y_aload_n (show decode cX8_passKnown 19 = .ok (.aload_n 0, 1) by decide +kernel) 1 rfl ?_
    refine y_getf 1 8 4 44 (by decide) rfl (by decide) (by decide) q1_46 (show decode cX8_passKnown 20 = .ok (.getfield 44, 3) by decide +kernel) (v := .inr (.inl (σ 1 4))) rfl ?_
    obtain ⟨r4, e3, h⟩ := bndO_some h
    refine y_callV (np := 1) (st := []) (as := [.inr (.inl (σ 1 4))]) a 5 (sh_cNm_find e3) q4_9 q4_24 q4_7 q4_8 q1_6 (by omega) (by rcases c1 with rfl | rfl | rfl | rfl | rfl | rfl <;> rfl) (by decide) rfl (by decide) (by decide +kernel) (by decide) rfl (Nat.le_of_ble_eq_true rfl) (show decode cX8_passKnown 23 = .ok (.invokevirtual 87, 3) by decide +kernel) rfl ?_
    refine y_istore_n (show decode cX8_passKnown 26 = .ok (.istore_n 2, 1) by decide +kernel) rfl (L1 := [(2, .inl r4), (0, .inr (.inr (1 + 1))), (1, .inr (.inr (a + 1)))]) rfl ?_
    refine y_iload_n (show decode cX8_passKnown 27 = .ok (.iload_n 2, 1) by decide +kernel) 0 rfl ?_
    refine y_iconst (show decode cX8_passKnown 28 = .ok (.iconst (-1), 1) by decide +kernel) rfl ?_
    by_cases c5 : ¬ r4 = (-1)
    · rw [if_pos c5] at h
      refine y_icmp_ne_t (tgt := 41) (show decode cX8_passKnown 29 = .ok (.if_icmp .ne 12, 3) by decide +kernel) rfl c5 ?_
      refine y_aload_n (show decode cX8_passKnown 41 = .ok (.aload_n 0, 1) by decide +kernel) 1 rfl ?_
      obtain ⟨σ7, e6, h⟩ := bndO_some h
      refine y_callV (np := 0) (st := []) (as := []) 1 8 (sh_cTp_step e6) q3_90 q3_87 q3_88 q3_89 q1_2 (by decide) rfl (by decide) rfl (by decide) (by decide +kernel) (by decide) rfl (Nat.le_of_ble_eq_true rfl) (show decode cX8_passKnown 42 = .ok (.invokevirtual 28, 3) by decide +kernel) rfl ?_
      refine y_iload_n (show decode cX8_passKnown 45 = .ok (.iload_n 2, 1) by decide +kernel) 0 rfl ?_
      cases h
      exact y_iret (show decode cX8_passKnown 46 = .ok (.ireturn, 1) by decide +kernel) rfl
    · rw [if_neg c5] at h
      refine y_icmp_ne_f (show decode cX8_passKnown 29 = .ok (.if_icmp .ne 12, 3) by decide +kernel) c5 (by decide) ?_
      refine y_aload_n (show decode cX8_passKnown 32 = .ok (.aload_n 0, 1) by decide +kernel) 1 rfl ?_
      refine y_iconst (show decode cX8_passKnown 33 = .ok (.iconst 5, 1) by decide +kernel) rfl ?_
      obtain ⟨r9, σ10, e8, h⟩ := bndR_some h
      refine y_callV (np := 1) (st := []) (as := [.inl 5]) 1 8 (sh_cTp_blame e8) q3_235 q4_5 q3_233 q3_234 q1_2 (by decide) rfl (by decide) rfl (by decide) (by decide +kernel) (by decide) rfl (Nat.le_of_ble_eq_true rfl) (show decode cX8_passKnown 34 = .ok (.invokevirtual 80, 3) by decide +kernel) rfl ?_
      refine y_pop (show decode cX8_passKnown 37 = .ok (.pop, 1) by decide +kernel) rfl ?_
      refine y_goto (tgt := 45) (show decode cX8_passKnown 38 = .ok (.goto 7, 3) by decide +kernel) rfl ?_
      refine y_iload_n (show decode cX8_passKnown 45 = .ok (.iload_n 2, 1) by decide +kernel) 0 rfl ?_
      cases h
      exact y_iret (show decode cX8_passKnown 46 = .ok (.ireturn, 1) by decide +kernel) rfl
  · rw [if_neg c2] at h
    refine y_icmp_eq_f (show decode cX8_passKnown 7 = .ok (.if_icmp .eq 11, 3) by decide +kernel) c2 (by decide) ?_
    refine y_aload_n (show decode cX8_passKnown 10 = .ok (.aload_n 0, 1) by decide +kernel) 1 rfl ?_
    obtain ⟨r12, σ13, e11, h⟩ := bndR_some h
    refine y_callV (np := 0) (st := []) (as := []) 1 8 (sh_cTp_refuse e11) q4_4 q4_23 q4_2 q4_3 q1_2 (by decide) rfl (by decide) rfl (by decide) (by decide +kernel) (by decide) rfl (Nat.le_of_ble_eq_true rfl) (show decode cX8_passKnown 11 = .ok (.invokevirtual 83, 3) by decide +kernel) rfl ?_
    refine y_pop (show decode cX8_passKnown 14 = .ok (.pop, 1) by decide +kernel) rfl ?_
    refine y_goto (tgt := 45) (show decode cX8_passKnown 15 = .ok (.goto 30, 3) by decide +kernel) rfl ?_
    refine y_iload_n (show decode cX8_passKnown 45 = .ok (.iload_n 2, 1) by decide +kernel) 0 rfl ?_
    cases h
    exact y_iret (show decode cX8_passKnown 46 = .ok (.ireturn, 1) by decide +kernel) rfl
abbrev MX6_readPlaces : yM := (yX6_readPlaces, cX6_readPlaces, 6, some .boolean)
def cPl_readPlaces (N : Nat) (o : Nat) (b : Nat) (c : Int) (σ : ySt) : Option (Int × ySt) :=
  chk (o = 54 ∨ o = 56) <|
  chk (b = 13 ∨ b = 33) <|
  if (σ 1 3) = 3 then
    loopS1 (fun k6 x4 σ5 =>
      if x4 > (σ5 b 17) then
        some (1, σ5)
      else
        if ¬ (σ5 1 3) = 3 then
          some (1, σ5)
        else
          bndR (cTp_passKnown N (b + 1) σ5) fun r10 σ11 =>
          if ¬ r10 = (-1) then
            bndO (cPl_stayFrom N o x4 c r10 σ11) fun σ14 =>
            chkI (x4 + 1) <|
            k6 (x4 + 1) σ14
          else
            some (0, σ11)) N 1 σ
  else
    bndR (cTp_refuse σ) fun r17 σ18 =>
    chk (r17 = 0 ∨ r17 = 1) <|
    some (r17, σ18)
set_option maxHeartbeats 4000000 in
set_option maxRecDepth 10000 in
theorem sh_cPl_readPlaces {E : yE} {N : Nat} {o : Nat} {b : Nat} {c : Int} {σ : ySt} {ρ : Int} {τ : ySt} (h : cPl_readPlaces N o b c σ = some (ρ, τ)) : Con E MX6_readPlaces 10 0 0 [.inr (.inr (o + 1)), .inr (.inr (1 + 1)), .inr (.inr (b + 1)), .inl c] 150 (ov σ) (some (.inl ρ)) (ov τ) := by
  unfold cPl_readPlaces at h
  refine Con.ofY (by decide +kernel) (by simp [yWords, yCat]) (fun hok _ => ?_)
  show Y E MX6_readPlaces (yRm 10 0 0) (yQf E (150 + 0) 0 0 (some (.inl ρ)) (ov τ)) 0 [(0, .inr (.inr (o + 1))), (1, .inr (.inr (1 + 1))), (2, .inr (.inr (b + 1))), (3, .inl c)] [] (ov σ) 150 0 0
  obtain ⟨c1, h⟩ := chk_some h
  obtain ⟨c2, h⟩ := chk_some h
  refine y_aload_n (show decode cX6_readPlaces 0 = .ok (.aload_n 1, 1) by decide +kernel) 1 rfl ?_
  refine y_getf 1 8 3 43 (by decide) rfl (by decide) (by decide) q1_42 (show decode cX6_readPlaces 1 = .ok (.getfield 43, 3) by decide +kernel) (v := .inl (σ 1 3)) rfl ?_
  refine y_iconst (show decode cX6_readPlaces 4 = .ok (.iconst 3, 1) by decide +kernel) rfl ?_
  by_cases c3 : (σ 1 3) = 3
  · rw [if_pos c3] at h
    refine y_icmp_eq_t (tgt := 13) (show decode cX6_readPlaces 5 = .ok (.if_icmp .eq 8, 3) by decide +kernel) rfl c3 ?_
    refine y_iconst (show decode cX6_readPlaces 13 = .ok (.iconst 1, 1) by decide +kernel) rfl ?_
    refine y_istore (show decode cX6_readPlaces 14 = .ok (.istore 4, 2) by decide +kernel) rfl (L1 := [(4, .inl 1), (0, .inr (.inr (o + 1))), (1, .inr (.inr (1 + 1))), (2, .inr (.inr (b + 1))), (3, .inl c)]) rfl ?_
    refine y_pick [1, 2, 3, 4, 0] rfl ?_
    refine loopS1_ind (P := fun x4 σ5 => Y E MX6_readPlaces (yRm 10 0 0) (yQf E (150 + 0) 0 0 (some (.inl ρ)) (ov τ)) 16 [(0, .inr (.inr (o + 1))), (1, .inr (.inr (1 + 1))), (2, .inr (.inr (b + 1))), (3, .inl c), (4, .inl x4)] [] (ov σ5) 150 0 0) (fun k6 hk6 x4 σ5 h => ?_) _ _ _  h
    refine y_iload (show decode cX6_readPlaces 16 = .ok (.iload 4, 2) by decide +kernel) 4 rfl ?_
    refine y_aload_n (show decode cX6_readPlaces 18 = .ok (.aload_n 2, 1) by decide +kernel) 2 rfl ?_
    refine y_getf b 9 17 73 (by omega) (by rcases c2 with rfl | rfl <;> rfl) (by decide) (by decide) q2_21 (show decode cX6_readPlaces 19 = .ok (.getfield 73, 3) by decide +kernel) (v := .inl (σ5 b 17)) (by rcases c2 with rfl | rfl <;> rfl) ?_
    by_cases c7 : x4 > (σ5 b 17)
    · rw [if_pos c7] at h
      refine y_icmp_gt_t (tgt := 66) (show decode cX6_readPlaces 22 = .ok (.if_icmp .gt 44, 3) by decide +kernel) rfl c7 ?_
      refine y_iconst (show decode cX6_readPlaces 66 = .ok (.iconst 1, 1) by decide +kernel) rfl ?_
      cases h
      exact y_zret (show decode cX6_readPlaces 67 = .ok (.ireturn, 1) by decide +kernel) rfl (Or.inr rfl)
    · rw [if_neg c7] at h
      refine y_icmp_gt_f (show decode cX6_readPlaces 22 = .ok (.if_icmp .gt 44, 3) by decide +kernel) c7 (by decide) ?_
      refine y_aload_n (show decode cX6_readPlaces 25 = .ok (.aload_n 1, 1) by decide +kernel) 1 rfl ?_
      refine y_getf 1 8 3 43 (by decide) rfl (by decide) (by decide) q1_42 (show decode cX6_readPlaces 26 = .ok (.getfield 43, 3) by decide +kernel) (v := .inl (σ5 1 3)) rfl ?_
      refine y_iconst (show decode cX6_readPlaces 29 = .ok (.iconst 3, 1) by decide +kernel) rfl ?_
      by_cases c8 : ¬ (σ5 1 3) = 3
      · rw [if_pos c8] at h
        refine y_icmp_ne_t (tgt := 66) (show decode cX6_readPlaces 30 = .ok (.if_icmp .ne 36, 3) by decide +kernel) rfl c8 ?_
        refine y_iconst (show decode cX6_readPlaces 66 = .ok (.iconst 1, 1) by decide +kernel) rfl ?_
        cases h
        exact y_zret (show decode cX6_readPlaces 67 = .ok (.ireturn, 1) by decide +kernel) rfl (Or.inr rfl)
      · rw [if_neg c8] at h
        refine y_icmp_ne_f (show decode cX6_readPlaces 30 = .ok (.if_icmp .ne 36, 3) by decide +kernel) c8 (by decide) ?_
        refine y_aload_n (show decode cX6_readPlaces 33 = .ok (.aload_n 1, 1) by decide +kernel) 1 rfl ?_
        refine y_aload_n (show decode cX6_readPlaces 34 = .ok (.aload_n 2, 1) by decide +kernel) 2 rfl ?_
        refine y_getf b 9 0 76 (by omega) (by rcases c2 with rfl | rfl <;> rfl) (by decide) (by decide) q1_196 (show decode cX6_readPlaces 35 = .ok (.getfield 76, 3) by decide +kernel) (v := .inr (.inr ((b + 1) + 1))) (by rcases c2 with rfl | rfl <;> rfl) ?_
        obtain ⟨r10, σ11, e9, h⟩ := bndR_some h
        refine y_callV (np := 1) (st := []) (as := [.inr (.inr ((b + 1) + 1))]) 1 8 (sh_cTp_passKnown e9) q4_22 q4_138 q4_20 q4_21 q1_2 (by decide) rfl (by decide) rfl (by decide) (by decide +kernel) (by decide) rfl (Nat.le_of_ble_eq_true rfl) (show decode cX6_readPlaces 38 = .ok (.invokevirtual 58, 3) by decide +kernel) rfl ?_
        refine y_istore (show decode cX6_readPlaces 41 = .ok (.istore 5, 2) by decide +kernel) rfl (L1 := [(5, .inl r10), (0, .inr (.inr (o + 1))), (1, .inr (.inr (1 + 1))), (2, .inr (.inr (b + 1))), (3, .inl c), (4, .inl x4)]) rfl ?_
        refine y_iload (show decode cX6_readPlaces 43 = .ok (.iload 5, 2) by decide +kernel) 0 rfl ?_
        refine y_iconst (show decode cX6_readPlaces 45 = .ok (.iconst (-1), 1) by decide +kernel) rfl ?_
        by_cases c12 : ¬ r10 = (-1)
        · rw [if_pos c12] at h
          refine y_icmp_ne_t (tgt := 51) (show decode cX6_readPlaces 46 = .ok (.if_icmp .ne 5, 3) by decide +kernel) rfl c12 ?_
          refine y_aload_n (show decode cX6_readPlaces 51 = .ok (.aload_n 0, 1) by decide +kernel) 1 rfl ?_
          refine y_iload (show decode cX6_readPlaces 52 = .ok (.iload 4, 2) by decide +kernel) 5 rfl ?_
          refine y_iload_n (show decode cX6_readPlaces 54 = .ok (.iload_n 3, 1) by decide +kernel) 4 rfl ?_
          refine y_iload (show decode cX6_readPlaces 55 = .ok (.iload 5, 2) by decide +kernel) 0 rfl ?_
          obtain ⟨σ14, e13, h⟩ := bndO_some h
          refine y_callV (np := 3) (st := []) (as := [.inl x4, .inl c, .inl r10]) o 6 (sh_cPl_stayFrom e13) q4_118 q4_115 q4_117 qs2_9 q1_10 (by omega) (by rcases c1 with rfl | rfl <;> rfl) (by decide) rfl (by decide) (by decide +kernel) (by decide) rfl (Nat.le_of_ble_eq_true rfl) (show decode cX6_readPlaces 57 = .ok (.invokevirtual 30, 3) by decide +kernel) rfl ?_
          obtain ⟨c15, h⟩ := chkI_some h
          refine y_iinc (show decode cX6_readPlaces 60 = .ok (.iinc 4 1, 3) by decide +kernel) 5 rfl c15 rfl (L1 := [(4, .inl (x4 + 1)), (5, .inl r10), (0, .inr (.inr (o + 1))), (1, .inr (.inr (1 + 1))), (2, .inr (.inr (b + 1))), (3, .inl c)]) rfl ?_
          refine y_goto (tgt := 16) (show decode cX6_readPlaces 63 = .ok (.goto (-47), 3) by decide +kernel) rfl ?_
          refine y_pick [2, 3, 4, 5, 0] rfl ?_
          exact hk6 _ _ h
        · rw [if_neg c12] at h
          refine y_icmp_ne_f (show decode cX6_readPlaces 46 = .ok (.if_icmp .ne 5, 3) by decide +kernel) c12 (by decide) ?_
          refine y_iconst (show decode cX6_readPlaces 49 = .ok (.iconst 0, 1) by decide +kernel) rfl ?_
          cases h
          exact y_zret (show decode cX6_readPlaces 50 = .ok (.ireturn, 1) by decide +kernel) rfl (Or.inl rfl)
  · rw [if_neg c3] at h
    refine y_icmp_eq_f (show decode cX6_readPlaces 5 = .ok (.if_icmp .eq 8, 3) by decide +kernel) c3 (by decide) ?_
    refine y_aload_n (show decode cX6_readPlaces 8 = .ok (.aload_n 1, 1) by decide +kernel) 1 rfl ?_
    obtain ⟨r17, σ18, e16, h⟩ := bndR_some h
    refine y_callV (np := 0) (st := []) (as := []) 1 8 (sh_cTp_refuse e16) q4_4 q4_143 q4_2 q4_3 q1_2 (by decide) rfl (by decide) rfl (by decide) (by decide +kernel) (by decide) rfl (Nat.le_of_ble_eq_true rfl) (show decode cX6_readPlaces 9 = .ok (.invokevirtual 69, 3) by decide +kernel) rfl ?_
    obtain ⟨c19, h⟩ := chk_some h
    cases h
    exact y_zret (show decode cX6_readPlaces 12 = .ok (.ireturn, 1) by decide +kernel) rfl c19
abbrev MX8_pass : yM := (yX8_pass, cX8_pass, 2, some .boolean)
def cTp_pass (N : Nat) (a : Int) (σ : ySt) : Option (Int × ySt) :=
  if (σ 1 3) = a then
    bndO (cTp_step N σ) fun σ3 =>
    some (1, σ3)
  else
    bndR (cTp_refuse σ) fun r5 σ6 =>
    chk (r5 = 0 ∨ r5 = 1) <|
    some (r5, σ6)
set_option maxHeartbeats 4000000 in
set_option maxRecDepth 10000 in
theorem sh_cTp_pass {E : yE} {N : Nat} {a : Int} {σ : ySt} {ρ : Int} {τ : ySt} (h : cTp_pass N a σ = some (ρ, τ)) : Con E MX8_pass 9 0 0 [.inr (.inr (1 + 1)), .inl a] 150 (ov σ) (some (.inl ρ)) (ov τ) := by
  unfold cTp_pass at h
  refine Con.ofY (by decide +kernel) (by simp [yWords, yCat]) (fun hok _ => ?_)
  show Y E MX8_pass (yRm 9 0 0) (yQf E (150 + 0) 0 0 (some (.inl ρ)) (ov τ)) 0 [(0, .inr (.inr (1 + 1))), (1, .inl a)] [] (ov σ) 150 0 0
  refine y_aload_n (show decode cX8_pass 0 = .ok (.aload_n 0, 1) by decide +kernel) 0 rfl ?_
  refine y_getf 1 8 3 34 (by decide) rfl (by decide) (by decide) q1_43 (show decode cX8_pass 1 = .ok (.getfield 34, 3) by decide +kernel) (v := .inl (σ 1 3)) rfl ?_
  refine y_iload_n (show decode cX8_pass 4 = .ok (.iload_n 1, 1) by decide +kernel) 1 rfl ?_
  by_cases c1 : (σ 1 3) = a
  · rw [if_pos c1] at h
    refine y_icmp_eq_t (tgt := 13) (show decode cX8_pass 5 = .ok (.if_icmp .eq 8, 3) by decide +kernel) rfl c1 ?_
    refine y_aload_n (show decode cX8_pass 13 = .ok (.aload_n 0, 1) by decide +kernel) 0 rfl ?_
    obtain ⟨σ3, e2, h⟩ := bndO_some h
    refine y_callV (np := 0) (st := []) (as := []) 1 8 (sh_cTp_step e2) q3_90 q3_87 q3_88 q3_89 q1_2 (by decide) rfl (by decide) rfl (by decide) (by decide +kernel) (by decide) rfl (Nat.le_of_ble_eq_true rfl) (show decode cX8_pass 14 = .ok (.invokevirtual 28, 3) by decide +kernel) rfl ?_
    refine y_iconst (show decode cX8_pass 17 = .ok (.iconst 1, 1) by decide +kernel) rfl ?_
    cases h
    exact y_zret (show decode cX8_pass 18 = .ok (.ireturn, 1) by decide +kernel) rfl (Or.inr rfl)
  · rw [if_neg c1] at h
    refine y_icmp_eq_f (show decode cX8_pass 5 = .ok (.if_icmp .eq 8, 3) by decide +kernel) c1 (by decide) ?_
    refine y_aload_n (show decode cX8_pass 8 = .ok (.aload_n 0, 1) by decide +kernel) 0 rfl ?_
    obtain ⟨r5, σ6, e4, h⟩ := bndR_some h
    refine y_callV (np := 0) (st := []) (as := []) 1 8 (sh_cTp_refuse e4) q4_4 q4_23 q4_2 q4_3 q1_2 (by decide) rfl (by decide) rfl (by decide) (by decide +kernel) (by decide) rfl (Nat.le_of_ble_eq_true rfl) (show decode cX8_pass 9 = .ok (.invokevirtual 83, 3) by decide +kernel) rfl ?_
    obtain ⟨c7, h⟩ := chk_some h
    cases h
    exact y_zret (show decode cX8_pass 12 = .ok (.ireturn, 1) by decide +kernel) rfl c7
abbrev MX6_readFrom : yM := (yX6_readFrom, cX6_readFrom, 6, some .int)
def cPl_readFrom (N : Nat) (o : Nat) (b : Nat) (σ : ySt) : Option (Int × ySt) :=
  chk (o = 54 ∨ o = 56) <|
  chk (b = 13 ∨ b = 33) <|
  bndO (cPl_stayHome N o b σ) fun σ4 =>
  bndO (cTp_begin N σ4) fun σ6 =>
  loopS2 (fun k10 x7 x8 σ9 =>
    if x8 ≥ 400 then
      some (x8, σ9)
    else
      if (σ9 1 3) = 0 then
        some (x8, σ9)
      else
        bnd (fun (y13 : Int) =>
          bnd (bndR (cTp_passKnown N (b + 3) σ9) fun r17 σ18 =>
            if r17 = (-1) then
              some ((-1), σ18)
            else
              bndR (cPl_readPlaces N o b r17 σ18) fun r21 σ22 =>
              if r21 = 0 then
                some ((-1), σ22)
              else
                bndR (cTp_pass N 59 σ22) fun r25 σ26 =>
                if ¬ r25 = 0 then
                  chkI (x8 + 1) <|
                  k10 (b32or x7 (b32shl 1 r17)) (x8 + 1) σ26
                else
                  some ((-1), σ26)) fun j15 =>
          if y13 = (-1) then
            j15
          else
            if ¬ (b32and (b32shr x7 y13) 1) = 1 then
              j15
            else
              bndR (cTp_blame 3 σ9) fun r32 σ33 =>
              some ((-1), σ33)) fun j14 =>
        if ¬ (σ9 1 3) = 3 then
          j14 (-1)
        else
          bndO (cNm_find N (b + 3) (σ9 1 4) σ9) fun r36 =>
          j14 r36) N 0 0 σ6
set_option maxHeartbeats 4000000 in
set_option maxRecDepth 10000 in
theorem sh_cPl_readFrom {E : yE} {N : Nat} {o : Nat} {b : Nat} {σ : ySt} {ρ : Int} {τ : ySt} (h : cPl_readFrom N o b σ = some (ρ, τ)) : Con E MX6_readFrom 11 0 0 [.inr (.inr (o + 1)), .inr (.inr (1 + 1)), .inr (.inr (b + 1))] 150 (ov σ) (some (.inl ρ)) (ov τ) := by
  unfold cPl_readFrom at h
  refine Con.ofY (by decide +kernel) (by simp [yWords, yCat]) (fun hok _ => ?_)
  show Y E MX6_readFrom (yRm 11 0 0) (yQf E (150 + 0) 0 0 (some (.inl ρ)) (ov τ)) 0 [(0, .inr (.inr (o + 1))), (1, .inr (.inr (1 + 1))), (2, .inr (.inr (b + 1)))] [] (ov σ) 150 0 0
  obtain ⟨c1, h⟩ := chk_some h
  obtain ⟨c2, h⟩ := chk_some h
  refine y_aload_n (show decode cX6_readFrom 0 = .ok (.aload_n 0, 1) by decide +kernel) 0 rfl ?_
  refine y_aload_n (show decode cX6_readFrom 1 = .ok (.aload_n 2, 1) by decide +kernel) 2 rfl ?_
  obtain ⟨σ4, e3, h⟩ := bndO_some h
  refine y_callV (np := 1) (st := []) (as := [.inr (.inr (b + 1))]) o 6 (sh_cPl_stayHome e3) q4_114 q4_134 q4_112 q4_113 q1_10 (by omega) (by rcases c1 with rfl | rfl <;> rfl) (by decide) rfl (by decide) (by decide +kernel) (by decide) rfl (Nat.le_of_ble_eq_true rfl) (show decode cX6_readFrom 2 = .ok (.invokevirtual 34, 3) by decide +kernel) rfl ?_
  refine y_aload_n (show decode cX6_readFrom 5 = .ok (.aload_n 1, 1) by decide +kernel) 1 rfl ?_
  obtain ⟨σ6, e5, h⟩ := bndO_some h
  refine y_callV (np := 0) (st := []) (as := []) 1 8 (sh_cTp_begin e5) q3_86 q4_135 q3_84 q3_85 q1_2 (by decide) rfl (by decide) rfl (by decide) (by decide +kernel) (by decide) rfl (Nat.le_of_ble_eq_true rfl) (show decode cX6_readFrom 6 = .ok (.invokevirtual 38, 3) by decide +kernel) rfl ?_
  refine y_iconst (show decode cX6_readFrom 9 = .ok (.iconst 0, 1) by decide +kernel) rfl ?_
  refine y_istore_n (show decode cX6_readFrom 10 = .ok (.istore_n 3, 1) by decide +kernel) rfl (L1 := [(3, .inl 0), (0, .inr (.inr (o + 1))), (1, .inr (.inr (1 + 1))), (2, .inr (.inr (b + 1)))]) rfl ?_
  refine y_iconst (show decode cX6_readFrom 11 = .ok (.iconst 0, 1) by decide +kernel) rfl ?_
  refine y_istore (show decode cX6_readFrom 12 = .ok (.istore 4, 2) by decide +kernel) rfl (L1 := [(4, .inl 0), (3, .inl 0), (0, .inr (.inr (o + 1))), (1, .inr (.inr (1 + 1))), (2, .inr (.inr (b + 1)))]) rfl ?_
  refine y_pick [2, 3, 4, 1, 0] rfl ?_
  refine loopS2_ind (P := fun x7 x8 σ9 => Y E MX6_readFrom (yRm 11 0 0) (yQf E (150 + 0) 0 0 (some (.inl ρ)) (ov τ)) 14 [(0, .inr (.inr (o + 1))), (1, .inr (.inr (1 + 1))), (2, .inr (.inr (b + 1))), (3, .inl x7), (4, .inl x8)] [] (ov σ9) 150 0 0) (fun k10 hk10 x7 x8 σ9 h => ?_) _ _ _ _  h
  refine y_iload (show decode cX6_readFrom 14 = .ok (.iload 4, 2) by decide +kernel) 4 rfl ?_
  refine y_sipush (show decode cX6_readFrom 16 = .ok (.sipush 400, 3) by decide +kernel) rfl rfl ?_
  by_cases c11 : x8 ≥ 400
  · rw [if_pos c11] at h
    refine y_icmp_ge_t (tgt := 129) (show decode cX6_readFrom 19 = .ok (.if_icmp .ge 110, 3) by decide +kernel) rfl c11 ?_
    refine y_iload (show decode cX6_readFrom 129 = .ok (.iload 4, 2) by decide +kernel) 4 rfl ?_
    cases h
    exact y_iret (show decode cX6_readFrom 131 = .ok (.ireturn, 1) by decide +kernel) rfl
  · rw [if_neg c11] at h
    refine y_icmp_ge_f (show decode cX6_readFrom 19 = .ok (.if_icmp .ge 110, 3) by decide +kernel) c11 (by decide) ?_
    refine y_aload_n (show decode cX6_readFrom 22 = .ok (.aload_n 1, 1) by decide +kernel) 1 rfl ?_
    refine y_getf 1 8 3 43 (by decide) rfl (by decide) (by decide) q1_42 (show decode cX6_readFrom 23 = .ok (.getfield 43, 3) by decide +kernel) (v := .inl (σ9 1 3)) rfl ?_
    by_cases c12 : (σ9 1 3) = 0
    · rw [if_pos c12] at h
      refine y_if_eq_t (tgt := 129) (show decode cX6_readFrom 26 = .ok (.ifCond .eq 103, 3) by decide +kernel) rfl c12 ?_
      refine y_iload (show decode cX6_readFrom 129 = .ok (.iload 4, 2) by decide +kernel) 4 rfl ?_
      cases h
      exact y_iret (show decode cX6_readFrom 131 = .ok (.ireturn, 1) by decide +kernel) rfl
    · rw [if_neg c12] at h
      refine y_if_eq_f (show decode cX6_readFrom 26 = .ok (.ifCond .eq 103, 3) by decide +kernel) c12 (by decide) ?_
      refine y_aload_n (show decode cX6_readFrom 29 = .ok (.aload_n 1, 1) by decide +kernel) 1 rfl ?_
      refine y_getf 1 8 3 43 (by decide) rfl (by decide) (by decide) q1_42 (show decode cX6_readFrom 30 = .ok (.getfield 43, 3) by decide +kernel) (v := .inl (σ9 1 3)) rfl ?_
      refine y_iconst (show decode cX6_readFrom 33 = .ok (.iconst 3, 1) by decide +kernel) rfl ?_
      refine bnd_j (Q := fun j14 => ∀ (y13 : Int), j14 y13 = some (ρ, τ) → Y E MX6_readFrom (yRm 11 0 0) (yQf E (150 + 0) 0 0 (some (.inl ρ)) (ov τ)) 52 [(0, .inr (.inr (o + 1))), (1, .inr (.inr (1 + 1))), (2, .inr (.inr (b + 1))), (3, .inl x7), (4, .inl x8)] [.inl y13] (ov σ9) 150 0 0) (fun y13 h => ?_) (fun j14 hj14 h => ?_) h
      · dsimp only at h
        refine y_istore (show decode cX6_readFrom 52 = .ok (.istore 5, 2) by decide +kernel) rfl (L1 := [(5, .inl y13), (0, .inr (.inr (o + 1))), (1, .inr (.inr (1 + 1))), (2, .inr (.inr (b + 1))), (3, .inl x7), (4, .inl x8)]) rfl ?_
        refine y_iload (show decode cX6_readFrom 54 = .ok (.iload 5, 2) by decide +kernel) 0 rfl ?_
        refine y_iconst (show decode cX6_readFrom 56 = .ok (.iconst (-1), 1) by decide +kernel) rfl ?_
        refine bnd_j (Q := fun j15 => j15 = some (ρ, τ) → Y E MX6_readFrom (yRm 11 0 0) (yQf E (150 + 0) 0 0 (some (.inl ρ)) (ov τ)) 78 [(0, .inr (.inr (o + 1))), (1, .inr (.inr (1 + 1))), (2, .inr (.inr (b + 1))), (3, .inl x7), (4, .inl x8)] [] (ov σ9) 150 0 0) (fun h => ?_) (fun j15 hj15 h => ?_) h
        · refine y_aload_n (show decode cX6_readFrom 78 = .ok (.aload_n 1, 1) by decide +kernel) 1 rfl ?_
          refine y_aload_n (show decode cX6_readFrom 79 = .ok (.aload_n 2, 1) by decide +kernel) 2 rfl ?_
          refine y_getf b 9 1 15 (by omega) (by rcases c2 with rfl | rfl <;> rfl) (by decide) (by decide) q1_201 (show decode cX6_readFrom 80 = .ok (.getfield 15, 3) by decide +kernel) (v := .inr (.inr ((b + 3) + 1))) (by rcases c2 with rfl | rfl <;> rfl) ?_
          obtain ⟨r17, σ18, e16, h⟩ := bndR_some h
          refine y_callV (np := 1) (st := []) (as := [.inr (.inr ((b + 3) + 1))]) 1 8 (sh_cTp_passKnown e16) q4_22 q4_138 q4_20 q4_21 q1_2 (by decide) rfl (by decide) rfl (by decide) (by decide +kernel) (by decide) rfl (Nat.le_of_ble_eq_true rfl) (show decode cX6_readFrom 83 = .ok (.invokevirtual 58, 3) by decide +kernel) rfl ?_
          refine y_istore (show decode cX6_readFrom 86 = .ok (.istore 5, 2) by decide +kernel) rfl (L1 := [(5, .inl r17), (0, .inr (.inr (o + 1))), (1, .inr (.inr (1 + 1))), (2, .inr (.inr (b + 1))), (3, .inl x7), (4, .inl x8)]) rfl ?_
          refine y_iload (show decode cX6_readFrom 88 = .ok (.iload 5, 2) by decide +kernel) 0 rfl ?_
          refine y_iconst (show decode cX6_readFrom 90 = .ok (.iconst (-1), 1) by decide +kernel) rfl ?_
          by_cases c19 : r17 = (-1)
          · rw [if_pos c19] at h
            refine y_icmp_eq_t (tgt := 114) (show decode cX6_readFrom 91 = .ok (.if_icmp .eq 23, 3) by decide +kernel) rfl c19 ?_
            refine y_iconst (show decode cX6_readFrom 114 = .ok (.iconst (-1), 1) by decide +kernel) rfl ?_
            cases h
            exact y_iret (show decode cX6_readFrom 115 = .ok (.ireturn, 1) by decide +kernel) rfl
          · rw [if_neg c19] at h
            refine y_icmp_eq_f (show decode cX6_readFrom 91 = .ok (.if_icmp .eq 23, 3) by decide +kernel) c19 (by decide) ?_
            refine y_aload_n (show decode cX6_readFrom 94 = .ok (.aload_n 0, 1) by decide +kernel) 1 rfl ?_
            refine y_aload_n (show decode cX6_readFrom 95 = .ok (.aload_n 1, 1) by decide +kernel) 2 rfl ?_
            refine y_aload_n (show decode cX6_readFrom 96 = .ok (.aload_n 2, 1) by decide +kernel) 3 rfl ?_
            refine y_iload (show decode cX6_readFrom 97 = .ok (.iload 5, 2) by decide +kernel) 0 rfl ?_
            obtain ⟨r21, σ22, e20, h⟩ := bndR_some h
            refine y_callV (np := 3) (st := []) (as := [.inr (.inr (1 + 1)), .inr (.inr (b + 1)), .inl r17]) o 6 (sh_cPl_readPlaces e20) q4_142 q4_139 q4_141 qs2_10 q1_10 (by omega) (by rcases c1 with rfl | rfl <;> rfl) (by decide) rfl (by decide) (by decide +kernel) (by decide) rfl (Nat.le_of_ble_eq_true rfl) (show decode cX6_readFrom 99 = .ok (.invokevirtual 62, 3) by decide +kernel) rfl ?_
            by_cases c23 : r21 = 0
            · rw [if_pos c23] at h
              refine y_if_eq_t (tgt := 114) (show decode cX6_readFrom 102 = .ok (.ifCond .eq 12, 3) by decide +kernel) rfl c23 ?_
              refine y_iconst (show decode cX6_readFrom 114 = .ok (.iconst (-1), 1) by decide +kernel) rfl ?_
              cases h
              exact y_iret (show decode cX6_readFrom 115 = .ok (.ireturn, 1) by decide +kernel) rfl
            · rw [if_neg c23] at h
              refine y_if_eq_f (show decode cX6_readFrom 102 = .ok (.ifCond .eq 12, 3) by decide +kernel) c23 (by decide) ?_
              refine y_aload_n (show decode cX6_readFrom 105 = .ok (.aload_n 1, 1) by decide +kernel) 2 rfl ?_
              refine y_bipush (show decode cX6_readFrom 106 = .ok (.bipush 59, 2) by decide +kernel) rfl rfl ?_
              obtain ⟨r25, σ26, e24, h⟩ := bndR_some h
              refine y_callV (np := 1) (st := []) (as := [.inl 59]) 1 8 (sh_cTp_pass e24) q4_33 q4_144 q4_31 q4_32 q1_2 (by decide) rfl (by decide) rfl (by decide) (by decide +kernel) (by decide) rfl (Nat.le_of_ble_eq_true rfl) (show decode cX6_readFrom 108 = .ok (.invokevirtual 66, 3) by decide +kernel) rfl ?_
              by_cases c27 : ¬ r25 = 0
              · rw [if_pos c27] at h
                refine y_if_ne_t (tgt := 116) (show decode cX6_readFrom 111 = .ok (.ifCond .ne 5, 3) by decide +kernel) rfl c27 ?_
                refine y_iload_n (show decode cX6_readFrom 116 = .ok (.iload_n 3, 1) by decide +kernel) 4 rfl ?_
                refine y_iconst (show decode cX6_readFrom 117 = .ok (.iconst 1, 1) by decide +kernel) rfl ?_
                refine y_iload (show decode cX6_readFrom 118 = .ok (.iload 5, 2) by decide +kernel) 0 rfl ?_
                refine y_ishl (show decode cX6_readFrom 120 = .ok (.ishl, 1) by decide +kernel) ?_
                refine y_ior (show decode cX6_readFrom 121 = .ok (.ior, 1) by decide +kernel) ?_
                refine y_istore_n (show decode cX6_readFrom 122 = .ok (.istore_n 3, 1) by decide +kernel) rfl (L1 := [(3, .inl (b32or x7 (b32shl 1 r17))), (5, .inl r17), (0, .inr (.inr (o + 1))), (1, .inr (.inr (1 + 1))), (2, .inr (.inr (b + 1))), (4, .inl x8)]) rfl ?_
                obtain ⟨c28, h⟩ := chkI_some h
                refine y_iinc (show decode cX6_readFrom 123 = .ok (.iinc 4 1, 3) by decide +kernel) 5 rfl c28 rfl (L1 := [(4, .inl (x8 + 1)), (3, .inl (b32or x7 (b32shl 1 r17))), (5, .inl r17), (0, .inr (.inr (o + 1))), (1, .inr (.inr (1 + 1))), (2, .inr (.inr (b + 1)))]) rfl ?_
                refine y_goto (tgt := 14) (show decode cX6_readFrom 126 = .ok (.goto (-112), 3) by decide +kernel) rfl ?_
                refine y_pick [3, 4, 5, 1, 0] rfl ?_
                exact hk10 _ _ _ h
              · rw [if_neg c27] at h
                refine y_if_ne_f (show decode cX6_readFrom 111 = .ok (.ifCond .ne 5, 3) by decide +kernel) c27 (by decide) ?_
                refine y_iconst (show decode cX6_readFrom 114 = .ok (.iconst (-1), 1) by decide +kernel) rfl ?_
                cases h
                exact y_iret (show decode cX6_readFrom 115 = .ok (.ireturn, 1) by decide +kernel) rfl
        by_cases c29 : y13 = (-1)
        · rw [if_pos c29] at h
          refine y_icmp_eq_t (tgt := 78) (show decode cX6_readFrom 57 = .ok (.if_icmp .eq 21, 3) by decide +kernel) rfl c29 ?_
          refine y_pick [1, 2, 3, 4, 5] rfl ?_
          exact hj15 h
        · rw [if_neg c29] at h
          refine y_icmp_eq_f (show decode cX6_readFrom 57 = .ok (.if_icmp .eq 21, 3) by decide +kernel) c29 (by decide) ?_
          refine y_iload_n (show decode cX6_readFrom 60 = .ok (.iload_n 3, 1) by decide +kernel) 4 rfl ?_
          refine y_iload (show decode cX6_readFrom 61 = .ok (.iload 5, 2) by decide +kernel) 0 rfl ?_
          refine y_ishr (show decode cX6_readFrom 63 = .ok (.ishr, 1) by decide +kernel) ?_
          refine y_iconst (show decode cX6_readFrom 64 = .ok (.iconst 1, 1) by decide +kernel) rfl ?_
          refine y_iand (show decode cX6_readFrom 65 = .ok (.iand, 1) by decide +kernel) ?_
          refine y_iconst (show decode cX6_readFrom 66 = .ok (.iconst 1, 1) by decide +kernel) rfl ?_
          by_cases c30 : ¬ (b32and (b32shr x7 y13) 1) = 1
          · rw [if_pos c30] at h
            refine y_icmp_ne_t (tgt := 78) (show decode cX6_readFrom 67 = .ok (.if_icmp .ne 11, 3) by decide +kernel) rfl c30 ?_
            refine y_pick [1, 2, 3, 4, 5] rfl ?_
            exact hj15 h
          · rw [if_neg c30] at h
            refine y_icmp_ne_f (show decode cX6_readFrom 67 = .ok (.if_icmp .ne 11, 3) by decide +kernel) c30 (by decide) ?_
            refine y_aload_n (show decode cX6_readFrom 70 = .ok (.aload_n 1, 1) by decide +kernel) 2 rfl ?_
            refine y_iconst (show decode cX6_readFrom 71 = .ok (.iconst 3, 1) by decide +kernel) rfl ?_
            obtain ⟨r32, σ33, e31, h⟩ := bndR_some h
            refine y_callV (np := 1) (st := []) (as := [.inl 3]) 1 8 (sh_cTp_blame e31) q3_235 q4_137 q3_233 q3_234 q1_2 (by decide) rfl (by decide) rfl (by decide) (by decide +kernel) (by decide) rfl (Nat.le_of_ble_eq_true rfl) (show decode cX6_readFrom 72 = .ok (.invokevirtual 54, 3) by decide +kernel) rfl ?_
            refine y_pop (show decode cX6_readFrom 75 = .ok (.pop, 1) by decide +kernel) rfl ?_
            refine y_iconst (show decode cX6_readFrom 76 = .ok (.iconst (-1), 1) by decide +kernel) rfl ?_
            cases h
            exact y_iret (show decode cX6_readFrom 77 = .ok (.ireturn, 1) by decide +kernel) rfl
      by_cases c34 : ¬ (σ9 1 3) = 3
      · rw [if_pos c34] at h
        refine y_icmp_ne_t (tgt := 51) (show decode cX6_readFrom 34 = .ok (.if_icmp .ne 17, 3) by decide +kernel) rfl c34 ?_
        refine y_iconst (show decode cX6_readFrom 51 = .ok (.iconst (-1), 1) by decide +kernel) rfl ?_
        refine y_pick [0, 1, 2, 3, 4] rfl ?_
        exact hj14 _ h
      · rw [if_neg c34] at h
        refine y_icmp_ne_f (show decode cX6_readFrom 34 = .ok (.if_icmp .ne 17, 3) by decide +kernel) c34 (by decide) ?_
        refine y_aload_n (show decode cX6_readFrom 37 = .ok (.aload_n 2, 1) by decide +kernel) 2 rfl ?_
        refine y_getf b 9 1 15 (by omega) (by rcases c2 with rfl | rfl <;> rfl) (by decide) (by decide) q1_201 (show decode cX6_readFrom 38 = .ok (.getfield 15, 3) by decide +kernel) (v := .inr (.inr ((b + 3) + 1))) (by rcases c2 with rfl | rfl <;> rfl) ?_
        refine y_aload_n (show decode cX6_readFrom 41 = .ok (.aload_n 1, 1) by decide +kernel) 1 rfl ?_
        refine y_getf 1 8 4 46 (by decide) rfl (by decide) (by decide) q1_44 (show decode cX6_readFrom 42 = .ok (.getfield 46, 3) by decide +kernel) (v := .inr (.inl (σ9 1 4))) rfl ?_
        obtain ⟨r36, e35, h⟩ := bndO_some h
        refine y_callV (np := 1) (st := []) (as := [.inr (.inl (σ9 1 4))]) (b + 3) 5 (sh_cNm_find e35) q4_9 q4_136 q4_7 q4_8 q1_6 (by omega) (by rcases c2 with rfl | rfl <;> rfl) (by decide) rfl (by decide) (by decide +kernel) (by decide) rfl (Nat.le_of_ble_eq_true rfl) (show decode cX6_readFrom 45 = .ok (.invokevirtual 50, 3) by decide +kernel) rfl ?_
        refine y_goto (tgt := 52) (show decode cX6_readFrom 48 = .ok (.goto 4, 3) by decide +kernel) rfl ?_
        refine y_pick [0, 1, 2, 3, 4] rfl ?_
        exact hj14 _ h
