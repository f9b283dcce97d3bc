abbrev MX3_layTable : yM := (yX3_layTable, cX3_layTable, 5, none)
def cDs_layTable (N : Nat) (b : Int) (σ : ySt) : Option (ySt) :=
  bndO (jA_fill_fda19 N 60 0 (σ 78 3) 0 σ) fun σ2 =>
  bndO (cDs_keepLawful N (σ2 78 1) σ2) fun σ4 =>
  chkI ((σ4 78 1) - 1) <|
  loopS1 (fun k8 x6 σ7 =>
    if x6 < b then
      some σ7
    else
      loopS2 (fun k13 x10 x11 σ12 =>
        chkT (σ12 78 0) fun T14 =>
        if x11 ≥ (σ12 (T14 + 3) 1) then
          bndO (cDs_keepLawful N x10 σ12) fun σ19 =>
          chkI (x10 + (-1)) <|
          k8 (x10 + (-1)) σ19
        else
          chkI (x10 + 1) <|
          bndO (cDs_layWeights N (x10 + 1) x11 σ12) fun σ23 =>
          bndO (cDs_goBack N x11 σ23) fun σ25 =>
          chkI (x11 + 1) <|
          k13 x10 (x11 + 1) σ25) N x6 0 σ7) N ((σ4 78 1) - 1) σ4
set_option maxHeartbeats 4000000 in
set_option maxRecDepth 10000 in
theorem sh_cDs_layTable {E : yE} {N : Nat} {b : Int} {σ : ySt} {τ : ySt} (h : cDs_layTable N b σ = some τ) : Con E MX3_layTable 3 0 0 [.inr (.inr (59 + 1)), .inr (.inr (78 + 1)), .inl b] 150 (ov σ) none (ov τ) := by
  unfold cDs_layTable at h
  refine Con.ofY (by decide +kernel) (by simp [yWords, yCat]) (fun hok _ => ?_)
  show Y E MX3_layTable (yRm 3 0 0) (yQf E (150 + 0) 0 0 none (ov τ)) 0 [(0, .inr (.inr (59 + 1))), (1, .inr (.inr (78 + 1))), (2, .inl b)] [] (ov σ) 150 0 0
  refine y_aload_n (show decode cX3_layTable 0 = .ok (.aload_n 0, 1) by decide +kernel) 0 rfl ?_
  refine y_getf 59 3 0 9 (by decide) rfl (by decide) (by decide) q2_150 (show decode cX3_layTable 1 = .ok (.getfield 9, 3) by decide +kernel) (v := .inr (.inr (60 + 1))) rfl ?_
  refine y_iconst (show decode cX3_layTable 4 = .ok (.iconst 0, 1) by decide +kernel) rfl ?_
  refine y_aload_n (show decode cX3_layTable 5 = .ok (.aload_n 1, 1) by decide +kernel) 1 rfl ?_
  refine y_getf 78 2 3 50 (by decide) rfl (by decide) (by decide) q2_183 (show decode cX3_layTable 6 = .ok (.getfield 50, 3) by decide +kernel) (v := .inl (σ 78 3)) rfl ?_
  refine y_iconst (show decode cX3_layTable 9 = .ok (.iconst 0, 1) by decide +kernel) rfl ?_
  obtain ⟨σ2, e1, h⟩ := bndO_some h
  refine y_callS (np := 4) (st := []) (as := [.inr (.inr (60 + 1)), .inl 0, .inl (σ 78 3), .inl 0]) (sh_jA_fill_fda19 e1) q5_45 q5_43 q5_44 q1_8 (by decide) (by decide +kernel) (by decide) rfl (Nat.le_of_ble_eq_true rfl) (show decode cX3_layTable 10 = .ok (.invokestatic 89, 3) by decide +kernel) rfl ?_
  refine y_aload_n (show decode cX3_layTable 13 = .ok (.aload_n 0, 1) by decide +kernel) 0 rfl ?_
  refine y_aload_n (show decode cX3_layTable 14 = .ok (.aload_n 1, 1) by decide +kernel) 1 rfl ?_
  refine y_aload_n (show decode cX3_layTable 15 = .ok (.aload_n 1, 1) by decide +kernel) 1 rfl ?_
  refine y_getf 78 2 1 95 (by decide) rfl (by decide) (by decide) q2_178 (show decode cX3_layTable 16 = .ok (.getfield 95, 3) by decide +kernel) (v := .inl (σ2 78 1)) rfl ?_
  obtain ⟨σ4, e3, h⟩ := bndO_some h
  refine y_callV (np := 2) (st := []) (as := [.inr (.inr (78 + 1)), .inl (σ2 78 1)]) 59 3 (sh_cDs_keepLawful e3) q5_52 q5_49 q5_51 qs3_6 q1_13 (by decide) rfl (by decide) rfl (by decide) (by decide +kernel) (by decide) rfl (Nat.le_of_ble_eq_true rfl) (show decode cX3_layTable 19 = .ok (.invokevirtual 98, 3) by decide +kernel) rfl ?_
  refine y_aload_n (show decode cX3_layTable 22 = .ok (.aload_n 1, 1) by decide +kernel) 1 rfl ?_
  refine y_getf 78 2 1 95 (by decide) rfl (by decide) (by decide) q2_178 (show decode cX3_layTable 23 = .ok (.getfield 95, 3) by decide +kernel) (v := .inl (σ4 78 1)) rfl ?_
  refine y_iconst (show decode cX3_layTable 26 = .ok (.iconst 1, 1) by decide +kernel) rfl ?_
  obtain ⟨c5, h⟩ := chkI_some h
  refine y_isub (show decode cX3_layTable 27 = .ok (.isub, 1) by decide +kernel) c5 ?_
  refine y_istore_n (show decode cX3_layTable 28 = .ok (.istore_n 3, 1) by decide +kernel) rfl (L1 := [(3, .inl ((σ4 78 1) - 1)), (0, .inr (.inr (59 + 1))), (1, .inr (.inr (78 + 1))), (2, .inl b)]) rfl ?_
  refine y_pick [1, 2, 3, 0] rfl ?_
  refine loopS1_ind (P := fun x6 σ7 => Y E MX3_layTable (yRm 3 0 0) (yQf E (150 + 0) 0 0 none (ov τ)) 29 [(0, .inr (.inr (59 + 1))), (1, .inr (.inr (78 + 1))), (2, .inl b), (3, .inl x6)] [] (ov σ7) 150 0 0) (fun k8 hk8 x6 σ7 h => ?_) _ _ _  h
  refine y_iload_n (show decode cX3_layTable 29 = .ok (.iload_n 3, 1) by decide +kernel) 3 rfl ?_
  refine y_iload_n (show decode cX3_layTable 30 = .ok (.iload_n 2, 1) by decide +kernel) 2 rfl ?_
  by_cases c9 : x6 < b
  · rw [if_pos c9] at h
    refine y_icmp_lt_t (tgt := 87) (show decode cX3_layTable 31 = .ok (.if_icmp .lt 56, 3) by decide +kernel) rfl c9 ?_
    cases h
    exact y_vret (show decode cX3_layTable 87 = .ok (.return_, 1) by decide +kernel) rfl
  · rw [if_neg c9] at h
    refine y_icmp_lt_f (show decode cX3_layTable 31 = .ok (.if_icmp .lt 56, 3) by decide +kernel) c9 (by decide) ?_
    refine y_iconst (show decode cX3_layTable 34 = .ok (.iconst 0, 1) by decide +kernel) rfl ?_
    refine y_istore (show decode cX3_layTable 35 = .ok (.istore 4, 2) by decide +kernel) rfl (L1 := [(4, .inl 0), (0, .inr (.inr (59 + 1))), (1, .inr (.inr (78 + 1))), (2, .inl b), (3, .inl x6)]) rfl ?_
    refine y_pick [1, 2, 3, 4, 0] rfl ?_
    refine loopS2_ind (P := fun x10 x11 σ12 => Y E MX3_layTable (yRm 3 0 0) (yQf E (150 + 0) 0 0 none (ov τ)) 37 [(0, .inr (.inr (59 + 1))), (1, .inr (.inr (78 + 1))), (2, .inl b), (3, .inl x10), (4, .inl x11)] [] (ov σ12) 150 0 0) (fun k13 hk13 x10 x11 σ12 h => ?_) _ _ _ _  h
    refine y_iload (show decode cX3_layTable 37 = .ok (.iload 4, 2) by decide +kernel) 4 rfl ?_
    refine y_aload_n (show decode cX3_layTable 39 = .ok (.aload_n 1, 1) by decide +kernel) 1 rfl ?_
    obtain ⟨T14, c15, c16, h⟩ := chkT_some h
    refine y_getf 78 2 0 42 (by decide) rfl (by decide) (by decide) q2_175 (show decode cX3_layTable 40 = .ok (.getfield 42, 3) by decide +kernel) (v := .inr (.inr (T14 + 1))) (by rw [← c16]; rfl) ?_
    refine y_getf T14 9 1 65 (by omega) (by rcases c15 with rfl | rfl <;> rfl) (by decide) (by decide) q1_202 (show decode cX3_layTable 43 = .ok (.getfield 65, 3) by decide +kernel) (v := .inr (.inr ((T14 + 3) + 1))) (by rcases c15 with rfl | rfl <;> rfl) ?_
    refine y_getf (T14 + 3) 5 1 71 (by omega) (by rcases c15 with rfl | rfl <;> rfl) (by decide) (by decide) q1_148 (show decode cX3_layTable 46 = .ok (.getfield 71, 3) by decide +kernel) (v := .inl (σ12 (T14 + 3) 1)) (by rcases c15 with rfl | rfl <;> rfl) ?_
    by_cases c17 : x11 ≥ (σ12 (T14 + 3) 1)
    · rw [if_pos c17] at h
      refine y_icmp_ge_t (tgt := 75) (show decode cX3_layTable 49 = .ok (.if_icmp .ge 26, 3) by decide +kernel) rfl c17 ?_
      refine y_aload_n (show decode cX3_layTable 75 = .ok (.aload_n 0, 1) by decide +kernel) 0 rfl ?_
      refine y_aload_n (show decode cX3_layTable 76 = .ok (.aload_n 1, 1) by decide +kernel) 1 rfl ?_
      refine y_iload_n (show decode cX3_layTable 77 = .ok (.iload_n 3, 1) by decide +kernel) 3 rfl ?_
      obtain ⟨σ19, e18, h⟩ := bndO_some h
      refine y_callV (np := 2) (st := []) (as := [.inr (.inr (78 + 1)), .inl x10]) 59 3 (sh_cDs_keepLawful e18) q5_52 q5_49 q5_51 qs3_6 q1_13 (by decide) rfl (by decide) rfl (by decide) (by decide +kernel) (by decide) rfl (Nat.le_of_ble_eq_true rfl) (show decode cX3_layTable 78 = .ok (.invokevirtual 98, 3) by decide +kernel) rfl ?_
      obtain ⟨c20, h⟩ := chkI_some h
      refine y_iinc (show decode cX3_layTable 81 = .ok (.iinc 3 (-1), 3) by decide +kernel) 3 rfl c20 rfl (L1 := [(3, .inl (x10 + (-1))), (0, .inr (.inr (59 + 1))), (1, .inr (.inr (78 + 1))), (2, .inl b), (4, .inl x11)]) rfl ?_
      refine y_goto (tgt := 29) (show decode cX3_layTable 84 = .ok (.goto (-55), 3) by decide +kernel) rfl ?_
      refine y_pick [1, 2, 3, 0] rfl ?_
      exact hk8 _ _ h
    · rw [if_neg c17] at h
      refine y_icmp_ge_f (show decode cX3_layTable 49 = .ok (.if_icmp .ge 26, 3) by decide +kernel) c17 (by decide) ?_
      refine y_aload_n (show decode cX3_layTable 52 = .ok (.aload_n 0, 1) by decide +kernel) 0 rfl ?_
      refine y_aload_n (show decode cX3_layTable 53 = .ok (.aload_n 1, 1) by decide +kernel) 1 rfl ?_
      refine y_iload_n (show decode cX3_layTable 54 = .ok (.iload_n 3, 1) by decide +kernel) 3 rfl ?_
      refine y_iconst (show decode cX3_layTable 55 = .ok (.iconst 1, 1) by decide +kernel) rfl ?_
      obtain ⟨c21, h⟩ := chkI_some h
      refine y_iadd (show decode cX3_layTable 56 = .ok (.iadd, 1) by decide +kernel) c21 ?_
      refine y_iload (show decode cX3_layTable 57 = .ok (.iload 4, 2) by decide +kernel) 4 rfl ?_
      obtain ⟨σ23, e22, h⟩ := bndO_some h
      refine y_callV (np := 3) (st := []) (as := [.inr (.inr (78 + 1)), .inl (x10 + 1), .inl x11]) 59 3 (sh_cDs_layWeights e22) q5_56 q5_53 q5_55 qs3_7 q1_13 (by decide) rfl (by decide) rfl (by decide) (by decide +kernel) (by decide) rfl (Nat.le_of_ble_eq_true rfl) (show decode cX3_layTable 59 = .ok (.invokevirtual 101, 3) by decide +kernel) rfl ?_
      refine y_aload_n (show decode cX3_layTable 62 = .ok (.aload_n 0, 1) by decide +kernel) 0 rfl ?_
      refine y_aload_n (show decode cX3_layTable 63 = .ok (.aload_n 1, 1) by decide +kernel) 1 rfl ?_
      refine y_iload (show decode cX3_layTable 64 = .ok (.iload 4, 2) by decide +kernel) 4 rfl ?_
      obtain ⟨σ25, e24, h⟩ := bndO_some h
      refine y_callV (np := 2) (st := []) (as := [.inr (.inr (78 + 1)), .inl x11]) 59 3 (sh_cDs_goBack e24) q5_61 q5_58 q5_60 qs3_8 q1_13 (by decide) rfl (by decide) rfl (by decide) (by decide +kernel) (by decide) rfl (Nat.le_of_ble_eq_true rfl) (show decode cX3_layTable 66 = .ok (.invokevirtual 105, 3) by decide +kernel) rfl ?_
      obtain ⟨c26, h⟩ := chkI_some h
      refine y_iinc (show decode cX3_layTable 69 = .ok (.iinc 4 1, 3) by decide +kernel) 4 rfl c26 rfl (L1 := [(4, .inl (x11 + 1)), (0, .inr (.inr (59 + 1))), (1, .inr (.inr (78 + 1))), (2, .inl b), (3, .inl x10)]) rfl ?_
      refine y_goto (tgt := 37) (show decode cX3_layTable 72 = .ok (.goto (-35), 3) by decide +kernel) rfl ?_
      refine y_pick [1, 2, 3, 4, 0] rfl ?_
      exact hk13 _ _ _ h
abbrev MX3_startAtHome : yM := (yX3_startAtHome, cX3_startAtHome, 3, none)
def cDs_startAtHome (N : Nat) (a : Nat) (σ : ySt) : Option (ySt) :=
  chk (a = 13 ∨ a = 33) <|
  loopS1 (fun k4 x2 σ3 =>
    if x2 ≥ (σ3 (a + 3) 1) then
      some σ3
    else
      chkA 5 x2 <|
      chkA 5 x2 <|
      bnd (yset σ3 64 (x2).toNat (σ3 (a + 8) (x2).toNat)) fun σ8 =>
      chkI (x2 + 1) <|
      k4 (x2 + 1) σ8) N 0 σ
set_option maxHeartbeats 4000000 in
set_option maxRecDepth 10000 in
theorem sh_cDs_startAtHome {E : yE} {N : Nat} {a : Nat} {σ : ySt} {τ : ySt} (h : cDs_startAtHome N a σ = some τ) : Con E MX3_startAtHome 0 0 0 [.inr (.inr (59 + 1)), .inr (.inr (a + 1))] 150 (ov σ) none (ov τ) := by
  unfold cDs_startAtHome at h
  refine Con.ofY (by decide +kernel) (by simp [yWords, yCat]) (fun hok _ => ?_)
  show Y E MX3_startAtHome (yRm 0 0 0) (yQf E (150 + 0) 0 0 none (ov τ)) 0 [(0, .inr (.inr (59 + 1))), (1, .inr (.inr (a + 1)))] [] (ov σ) 150 0 0
  obtain ⟨c1, h⟩ := chk_some h
  refine y_iconst (show decode cX3_startAtHome 0 = .ok (.iconst 0, 1) by decide +kernel) rfl ?_
  refine y_istore_n (show decode cX3_startAtHome 1 = .ok (.istore_n 2, 1) by decide +kernel) rfl (L1 := [(2, .inl 0), (0, .inr (.inr (59 + 1))), (1, .inr (.inr (a + 1)))]) rfl ?_
  refine y_pick [1, 2, 0] rfl ?_
  refine loopS1_ind (P := fun x2 σ3 => Y E MX3_startAtHome (yRm 0 0 0) (yQf E (150 + 0) 0 0 none (ov τ)) 2 [(0, .inr (.inr (59 + 1))), (1, .inr (.inr (a + 1))), (2, .inl x2)] [] (ov σ3) 150 0 0) (fun k4 hk4 x2 σ3 h => ?_) _ _ _  h
  refine y_iload_n (show decode cX3_startAtHome 2 = .ok (.iload_n 2, 1) by decide +kernel) 2 rfl ?_
  refine y_aload_n (show decode cX3_startAtHome 3 = .ok (.aload_n 1, 1) by decide +kernel) 1 rfl ?_
  refine y_getf a 9 1 65 (by omega) (by rcases c1 with rfl | rfl <;> rfl) (by decide) (by decide) q1_202 (show decode cX3_startAtHome 4 = .ok (.getfield 65, 3) by decide +kernel) (v := .inr (.inr ((a + 3) + 1))) (by rcases c1 with rfl | rfl <;> rfl) ?_
  refine y_getf (a + 3) 5 1 71 (by omega) (by rcases c1 with rfl | rfl <;> rfl) (by decide) (by decide) q1_148 (show decode cX3_startAtHome 7 = .ok (.getfield 71, 3) by decide +kernel) (v := .inl (σ3 (a + 3) 1)) (by rcases c1 with rfl | rfl <;> rfl) ?_
  by_cases c5 : x2 ≥ (σ3 (a + 3) 1)
  · rw [if_pos c5] at h
    refine y_icmp_ge_t (tgt := 31) (show decode cX3_startAtHome 10 = .ok (.if_icmp .ge 21, 3) by decide +kernel) rfl c5 ?_
    cases h
    exact y_vret (show decode cX3_startAtHome 31 = .ok (.return_, 1) by decide +kernel) rfl
  · rw [if_neg c5] at h
    refine y_icmp_ge_f (show decode cX3_startAtHome 10 = .ok (.if_icmp .ge 21, 3) by decide +kernel) c5 (by decide) ?_
    refine y_aload_n (show decode cX3_startAtHome 13 = .ok (.aload_n 0, 1) by decide +kernel) 0 rfl ?_
    refine y_getf 59 3 4 24 (by decide) rfl (by decide) (by decide) q2_154 (show decode cX3_startAtHome 14 = .ok (.getfield 24, 3) by decide +kernel) (v := .inr (.inr (64 + 1))) rfl ?_
    refine y_iload_n (show decode cX3_startAtHome 17 = .ok (.iload_n 2, 1) by decide +kernel) 2 rfl ?_
    refine y_aload_n (show decode cX3_startAtHome 18 = .ok (.aload_n 1, 1) by decide +kernel) 1 rfl ?_
    refine y_getf a 9 4 76 (by omega) (by rcases c1 with rfl | rfl <;> rfl) (by decide) (by decide) q1_214 (show decode cX3_startAtHome 19 = .ok (.getfield 76, 3) by decide +kernel) (v := .inr (.inr ((a + 8) + 1))) (by rcases c1 with rfl | rfl <;> rfl) ?_
    refine y_iload_n (show decode cX3_startAtHome 22 = .ok (.iload_n 2, 1) by decide +kernel) 2 rfl ?_
    obtain ⟨c6, h⟩ := chkA_some h
    refine yo_iald (a + 8) 5 (by omega) (by rcases c1 with rfl | rfl <;> rfl) c6 (ov_at (by rcases c1 with rfl | rfl <;> rfl)) (show decode cX3_startAtHome 23 = .ok (.iaload, 1) by decide +kernel) ?_
    obtain ⟨c7, h⟩ := chkA_some h
    obtain ⟨σ8, e9, h⟩ := bnd_i h
    refine yo_iast 64 5 (by decide) rfl c7 (ov_set1 e9 rfl) (show decode cX3_startAtHome 24 = .ok (.iastore, 1) by decide +kernel) ?_
    obtain ⟨c10, h⟩ := chkI_some h
    refine y_iinc (show decode cX3_startAtHome 25 = .ok (.iinc 2 1, 3) by decide +kernel) 2 rfl c10 rfl (L1 := [(2, .inl (x2 + 1)), (0, .inr (.inr (59 + 1))), (1, .inr (.inr (a + 1)))]) rfl ?_
    refine y_goto (tgt := 2) (show decode cX3_startAtHome 28 = .ok (.goto (-26), 3) by decide +kernel) rfl ?_
    refine y_pick [1, 2, 0] rfl ?_
    exact hk4 _ _ h
abbrev MX3_stepTo : yM := (yX3_stepTo, cX3_stepTo, 6, some .int)
def cDs_stepTo (N : Nat) (b : Int) (c : Int) (σ : ySt) : Option (Int) :=
  loop2 (fun k3 x1 x2 =>
    chkT (σ 78 0) fun T4 =>
    if x2 ≥ (σ (T4 + 3) 1) then
      some x1
    else
      chkA 5 x2 <|
      bndO (cDy_placeIn c x2 σ) fun r10 =>
      bndO (cDy_step b x2 (σ 64 (x2).toNat) r10 σ) fun r12 =>
      chkI (x1 + r12) <|
      chkI (x2 + 1) <|
      k3 (x1 + r12) (x2 + 1)) N 0 0
set_option maxHeartbeats 4000000 in
set_option maxRecDepth 10000 in
theorem sh_cDs_stepTo {E : yE} {N : Nat} {b : Int} {c : Int} {σ : ySt} {ρ : Int} (h : cDs_stepTo N b c σ = some ρ) : Con E MX3_stepTo 1 0 0 [.inr (.inr (59 + 1)), .inr (.inr (78 + 1)), .inl b, .inl c] 150 (ov σ) (some (.inl ρ)) (ov σ) := by
  unfold cDs_stepTo at h
  refine Con.ofY (by decide +kernel) (by simp [yWords, yCat]) (fun hok _ => ?_)
  show Y E MX3_stepTo (yRm 1 0 0) (yQf E (150 + 0) 0 0 (some (.inl ρ)) (ov σ)) 0 [(0, .inr (.inr (59 + 1))), (1, .inr (.inr (78 + 1))), (2, .inl b), (3, .inl c)] [] (ov σ) 150 0 0
  refine y_iconst (show decode cX3_stepTo 0 = .ok (.iconst 0, 1) by decide +kernel) rfl ?_
  refine y_istore (show decode cX3_stepTo 1 = .ok (.istore 4, 2) by decide +kernel) rfl (L1 := [(4, .inl 0), (0, .inr (.inr (59 + 1))), (1, .inr (.inr (78 + 1))), (2, .inl b), (3, .inl c)]) rfl ?_
  refine y_iconst (show decode cX3_stepTo 3 = .ok (.iconst 0, 1) by decide +kernel) rfl ?_
  refine y_istore (show decode cX3_stepTo 4 = .ok (.istore 5, 2) by decide +kernel) rfl (L1 := [(5, .inl 0), (4, .inl 0), (0, .inr (.inr (59 + 1))), (1, .inr (.inr (78 + 1))), (2, .inl b), (3, .inl c)]) rfl ?_
  refine y_pick [2, 3, 4, 5, 1, 0] rfl ?_
  refine loop2_ind (P := fun x1 x2 => Y E MX3_stepTo (yRm 1 0 0) (yQf E (150 + 0) 0 0 (some (.inl ρ)) (ov σ)) 6 [(0, .inr (.inr (59 + 1))), (1, .inr (.inr (78 + 1))), (2, .inl b), (3, .inl c), (4, .inl x1), (5, .inl x2)] [] (ov σ) 150 0 0) (fun k3 hk3 x1 x2 h => ?_) _ _ _  h
  refine y_iload (show decode cX3_stepTo 6 = .ok (.iload 5, 2) by decide +kernel) 5 rfl ?_
  refine y_aload_n (show decode cX3_stepTo 8 = .ok (.aload_n 1, 1) by decide +kernel) 1 rfl ?_
  obtain ⟨T4, c5, c6, h⟩ := chkT_some h
  refine y_getf 78 2 0 42 (by decide) rfl (by decide) (by decide) q2_175 (show decode cX3_stepTo 9 = .ok (.getfield 42, 3) by decide +kernel) (v := .inr (.inr (T4 + 1))) (by rw [← c6]; rfl) ?_
  refine y_getf T4 9 1 65 (by omega) (by rcases c5 with rfl | rfl <;> rfl) (by decide) (by decide) q1_202 (show decode cX3_stepTo 12 = .ok (.getfield 65, 3) by decide +kernel) (v := .inr (.inr ((T4 + 3) + 1))) (by rcases c5 with rfl | rfl <;> rfl) ?_
  refine y_getf (T4 + 3) 5 1 71 (by omega) (by rcases c5 with rfl | rfl <;> rfl) (by decide) (by decide) q1_148 (show decode cX3_stepTo 15 = .ok (.getfield 71, 3) by decide +kernel) (v := .inl (σ (T4 + 3) 1)) (by rcases c5 with rfl | rfl <;> rfl) ?_
  by_cases c7 : x2 ≥ (σ (T4 + 3) 1)
  · rw [if_pos c7] at h
    refine y_icmp_ge_t (tgt := 53) (show decode cX3_stepTo 18 = .ok (.if_icmp .ge 35, 3) by decide +kernel) rfl c7 ?_
    refine y_iload (show decode cX3_stepTo 53 = .ok (.iload 4, 2) by decide +kernel) 4 rfl ?_
    cases h
    exact y_iret (show decode cX3_stepTo 55 = .ok (.ireturn, 1) by decide +kernel) rfl
  · rw [if_neg c7] at h
    refine y_icmp_ge_f (show decode cX3_stepTo 18 = .ok (.if_icmp .ge 35, 3) by decide +kernel) c7 (by decide) ?_
    refine y_iload (show decode cX3_stepTo 21 = .ok (.iload 4, 2) by decide +kernel) 4 rfl ?_
    refine y_aload_n (show decode cX3_stepTo 23 = .ok (.aload_n 1, 1) by decide +kernel) 1 rfl ?_
    refine y_iload_n (show decode cX3_stepTo 24 = .ok (.iload_n 2, 1) by decide +kernel) 2 rfl ?_
    refine y_iload (show decode cX3_stepTo 25 = .ok (.iload 5, 2) by decide +kernel) 5 rfl ?_
    refine y_aload_n (show decode cX3_stepTo 27 = .ok (.aload_n 0, 1) by decide +kernel) 0 rfl ?_
    refine y_getf 59 3 4 24 (by decide) rfl (by decide) (by decide) q2_154 (show decode cX3_stepTo 28 = .ok (.getfield 24, 3) by decide +kernel) (v := .inr (.inr (64 + 1))) rfl ?_
    refine y_iload (show decode cX3_stepTo 31 = .ok (.iload 5, 2) by decide +kernel) 5 rfl ?_
    obtain ⟨c8, h⟩ := chkA_some h
    refine yo_iald 64 5 (by decide) rfl c8 (ov_at rfl) (show decode cX3_stepTo 33 = .ok (.iaload, 1) by decide +kernel) ?_
    refine y_aload_n (show decode cX3_stepTo 34 = .ok (.aload_n 1, 1) by decide +kernel) 1 rfl ?_
    refine y_iload_n (show decode cX3_stepTo 35 = .ok (.iload_n 3, 1) by decide +kernel) 3 rfl ?_
    refine y_iload (show decode cX3_stepTo 36 = .ok (.iload 5, 2) by decide +kernel) 5 rfl ?_
    obtain ⟨r10, e9, h⟩ := bndO_some h
    refine y_callV (np := 2) (st := [.inl (σ 64 (x2).toNat), .inl x2, .inl b, .inr (.inr (78 + 1)), .inl x1]) (as := [.inl c, .inl x2]) 78 2 (sh_cDy_placeIn e9) q5_38 q5_76 q5_36 q5_37 q1_14 (by decide) rfl (by decide) rfl (by decide) (by decide +kernel) (by decide) rfl (Nat.le_of_ble_eq_true rfl) (show decode cX3_stepTo 38 = .ok (.invokevirtual 118, 3) by decide +kernel) rfl ?_
    obtain ⟨r12, e11, h⟩ := bndO_some h
    refine y_callV (np := 4) (st := [.inl x1]) (as := [.inl b, .inl x2, .inl (σ 64 (x2).toNat), .inl r10]) 78 2 (sh_cDy_step e11) q5_11 q5_57 q5_9 q5_10 q1_14 (by decide) rfl (by decide) rfl (by decide) (by decide +kernel) (by decide) rfl (Nat.le_of_ble_eq_true rfl) (show decode cX3_stepTo 41 = .ok (.invokevirtual 108, 3) by decide +kernel) rfl ?_
    obtain ⟨c13, h⟩ := chkI_some h
    refine y_iadd (show decode cX3_stepTo 44 = .ok (.iadd, 1) by decide +kernel) c13 ?_
    refine y_istore (show decode cX3_stepTo 45 = .ok (.istore 4, 2) by decide +kernel) rfl (L1 := [(4, .inl (x1 + r12)), (0, .inr (.inr (59 + 1))), (1, .inr (.inr (78 + 1))), (2, .inl b), (3, .inl c), (5, .inl x2)]) rfl ?_
    obtain ⟨c14, h⟩ := chkI_some h
    refine y_iinc (show decode cX3_stepTo 47 = .ok (.iinc 5 1, 3) by decide +kernel) 5 rfl c14 rfl (L1 := [(5, .inl (x2 + 1)), (4, .inl (x1 + r12)), (0, .inr (.inr (59 + 1))), (1, .inr (.inr (78 + 1))), (2, .inl b), (3, .inl c)]) rfl ?_
    refine y_goto (tgt := 6) (show decode cX3_stepTo 50 = .ok (.goto (-44), 3) by decide +kernel) rfl ?_
    refine y_pick [2, 3, 4, 5, 1, 0] rfl ?_
    exact hk3 _ _ h
abbrev MX3_worthOf : yM := (yX3_worthOf, cX3_worthOf, 4, some .int)
def cDs_worthOf (N : Nat) (σ : ySt) : Option (Int × ySt) :=
  if ¬ (σ 78 2) = 0 then
    bndO (cDs_layLawful N σ) fun σ3 =>
    bndO (cDs_layTable N 1 σ3) fun σ5 =>
    chkT (σ5 78 0) fun T6 =>
    bndO (cDs_startAtHome N T6 σ5) fun σ10 =>
    loop2 (fun k13 x11 x12 =>
      if x12 ≥ (σ10 78 3) then
        if x11 ≥ (-500000) then
          some (x11, σ10)
        else
          some ((-1000000), σ10)
      else
        chkA 7776 x12 <|
        bndO (cDs_stepTo N 1 x12 σ10) fun r18 =>
        chkI ((σ10 60 (x12).toNat) + r18) <|
        bndO (jM_max_7cf53 x11 ((σ10 60 (x12).toNat) + r18) σ10) fun r21 =>
        chkI (x12 + 1) <|
        k13 r21 (x12 + 1)) N (-1000000) 0
  else
    some ((-1000000), σ)
set_option maxHeartbeats 4000000 in
set_option maxRecDepth 10000 in
theorem sh_cDs_worthOf {E : yE} {N : Nat} {σ : ySt} {ρ : Int} {τ : ySt} (h : cDs_worthOf N σ = some (ρ, τ)) : Con E MX3_worthOf 4 0 0 [.inr (.inr (59 + 1)), .inr (.inr (78 + 1))] 150 (ov σ) (some (.inl ρ)) (ov τ) := by
  unfold cDs_worthOf at h
  refine Con.ofY (by decide +kernel) (by simp [yWords, yCat]) (fun hok _ => ?_)
  show Y E MX3_worthOf (yRm 4 0 0) (yQf E (150 + 0) 0 0 (some (.inl ρ)) (ov τ)) 0 [(0, .inr (.inr (59 + 1))), (1, .inr (.inr (78 + 1)))] [] (ov σ) 150 0 0
  refine y_aload_n (show decode cX3_worthOf 0 = .ok (.aload_n 1, 1) by decide +kernel) 1 rfl ?_
  refine y_getf 78 2 2 27 (by decide) rfl (by decide) (by decide) q2_180 (show decode cX3_worthOf 1 = .ok (.getfield 27, 3) by decide +kernel) (v := .inl (σ 78 2)) rfl ?_
  by_cases c1 : ¬ (σ 78 2) = 0
  · rw [if_pos c1] at h
    refine y_if_ne_t (tgt := 10) (show decode cX3_worthOf 4 = .ok (.ifCond .ne 6, 3) by decide +kernel) rfl c1 ?_
    refine y_aload_n (show decode cX3_worthOf 10 = .ok (.aload_n 0, 1) by decide +kernel) 0 rfl ?_
    refine y_aload_n (show decode cX3_worthOf 11 = .ok (.aload_n 1, 1) by decide +kernel) 1 rfl ?_
    obtain ⟨σ3, e2, h⟩ := bndO_some h
    refine y_callV (np := 1) (st := []) (as := [.inr (.inr (78 + 1))]) 59 3 (sh_cDs_layLawful e2) q5_30 q5_27 q5_29 qs3_4 q1_13 (by decide) rfl (by decide) rfl (by decide) (by decide +kernel) (by decide) rfl (Nat.le_of_ble_eq_true rfl) (show decode cX3_worthOf 12 = .ok (.invokevirtual 34, 3) by decide +kernel) rfl ?_
    refine y_aload_n (show decode cX3_worthOf 15 = .ok (.aload_n 0, 1) by decide +kernel) 0 rfl ?_
    refine y_aload_n (show decode cX3_worthOf 16 = .ok (.aload_n 1, 1) by decide +kernel) 1 rfl ?_
    refine y_iconst (show decode cX3_worthOf 17 = .ok (.iconst 1, 1) by decide +kernel) rfl ?_
    obtain ⟨σ5, e4, h⟩ := bndO_some h
    refine y_callV (np := 2) (st := []) (as := [.inr (.inr (78 + 1)), .inl 1]) 59 3 (sh_cDs_layTable e4) q5_42 q5_39 q5_41 qs3_5 q1_13 (by decide) rfl (by decide) rfl (by decide) (by decide +kernel) (by decide) rfl (Nat.le_of_ble_eq_true rfl) (show decode cX3_worthOf 18 = .ok (.invokevirtual 38, 3) by decide +kernel) rfl ?_
    refine y_aload_n (show decode cX3_worthOf 21 = .ok (.aload_n 0, 1) by decide +kernel) 0 rfl ?_
    refine y_aload_n (show decode cX3_worthOf 22 = .ok (.aload_n 1, 1) by decide +kernel) 1 rfl ?_
    obtain ⟨T6, c7, c8, h⟩ := chkT_some h
    refine y_getf 78 2 0 42 (by decide) rfl (by decide) (by decide) q2_175 (show decode cX3_worthOf 23 = .ok (.getfield 42, 3) by decide +kernel) (v := .inr (.inr (T6 + 1))) (by rw [← c8]; rfl) ?_
    obtain ⟨σ10, e9, h⟩ := bndO_some h
    refine y_callV (np := 1) (st := []) (as := [.inr (.inr (T6 + 1))]) 59 3 (sh_cDs_startAtHome e9) q5_71 q5_68 q5_70 qs3_10 q1_13 (by decide) rfl (by decide) rfl (by decide) (by decide +kernel) (by decide) rfl (Nat.le_of_ble_eq_true rfl) (show decode cX3_worthOf 26 = .ok (.invokevirtual 46, 3) by decide +kernel) rfl ?_
    refine y_ldc (k := -1000000) (show decode cX3_worthOf 29 = .ok (.ldc 33, 2) by decide +kernel) q5_26 rfl rfl ?_
    refine y_istore_n (show decode cX3_worthOf 31 = .ok (.istore_n 2, 1) by decide +kernel) rfl (L1 := [(2, .inl (-1000000)), (0, .inr (.inr (59 + 1))), (1, .inr (.inr (78 + 1)))]) rfl ?_
    refine y_iconst (show decode cX3_worthOf 32 = .ok (.iconst 0, 1) by decide +kernel) rfl ?_
    refine y_istore_n (show decode cX3_worthOf 33 = .ok (.istore_n 3, 1) by decide +kernel) rfl (L1 := [(3, .inl 0), (2, .inl (-1000000)), (0, .inr (.inr (59 + 1))), (1, .inr (.inr (78 + 1)))]) rfl ?_
    refine y_pick [2, 3, 1, 0] rfl ?_
    refine loop2_ind (P := fun x11 x12 => Y E MX3_worthOf (yRm 4 0 0) (yQf E (150 + 0) 0 0 (some (.inl ρ)) (ov τ)) 34 [(0, .inr (.inr (59 + 1))), (1, .inr (.inr (78 + 1))), (2, .inl x11), (3, .inl x12)] [] (ov σ10) 150 0 0) (fun k13 hk13 x11 x12 h => ?_) _ _ _  h
    refine y_iload_n (show decode cX3_worthOf 34 = .ok (.iload_n 3, 1) by decide +kernel) 3 rfl ?_
    refine y_aload_n (show decode cX3_worthOf 35 = .ok (.aload_n 1, 1) by decide +kernel) 1 rfl ?_
    refine y_getf 78 2 3 50 (by decide) rfl (by decide) (by decide) q2_183 (show decode cX3_worthOf 36 = .ok (.getfield 50, 3) by decide +kernel) (v := .inl (σ10 78 3)) rfl ?_
    by_cases c14 : x12 ≥ (σ10 78 3)
    · rw [if_pos c14] at h
      refine y_icmp_ge_t (tgt := 67) (show decode cX3_worthOf 39 = .ok (.if_icmp .ge 28, 3) by decide +kernel) rfl c14 ?_
      refine y_iload_n (show decode cX3_worthOf 67 = .ok (.iload_n 2, 1) by decide +kernel) 2 rfl ?_
      refine y_ldc (k := -500000) (show decode cX3_worthOf 68 = .ok (.ldc 64, 2) by decide +kernel) q5_62 rfl rfl ?_
      by_cases c15 : x11 ≥ (-500000)
      · rw [if_pos c15] at h
        refine y_icmp_ge_t (tgt := 78) (show decode cX3_worthOf 70 = .ok (.if_icmp .ge 8, 3) by decide +kernel) rfl c15 ?_
        refine y_iload_n (show decode cX3_worthOf 78 = .ok (.iload_n 2, 1) by decide +kernel) 2 rfl ?_
        cases h
        exact y_iret (show decode cX3_worthOf 79 = .ok (.ireturn, 1) by decide +kernel) rfl
      · rw [if_neg c15] at h
        refine y_icmp_ge_f (show decode cX3_worthOf 70 = .ok (.if_icmp .ge 8, 3) by decide +kernel) c15 (by decide) ?_
        refine y_ldc (k := -1000000) (show decode cX3_worthOf 73 = .ok (.ldc 33, 2) by decide +kernel) q5_26 rfl rfl ?_
        refine y_goto (tgt := 79) (show decode cX3_worthOf 75 = .ok (.goto 4, 3) by decide +kernel) rfl ?_
        cases h
        exact y_iret (show decode cX3_worthOf 79 = .ok (.ireturn, 1) by decide +kernel) rfl
    · rw [if_neg c14] at h
      refine y_icmp_ge_f (show decode cX3_worthOf 39 = .ok (.if_icmp .ge 28, 3) by decide +kernel) c14 (by decide) ?_
      refine y_iload_n (show decode cX3_worthOf 42 = .ok (.iload_n 2, 1) by decide +kernel) 2 rfl ?_
      refine y_aload_n (show decode cX3_worthOf 43 = .ok (.aload_n 0, 1) by decide +kernel) 0 rfl ?_
      refine y_getf 59 3 0 9 (by decide) rfl (by decide) (by decide) q2_150 (show decode cX3_worthOf 44 = .ok (.getfield 9, 3) by decide +kernel) (v := .inr (.inr (60 + 1))) rfl ?_
      refine y_iload_n (show decode cX3_worthOf 47 = .ok (.iload_n 3, 1) by decide +kernel) 3 rfl ?_
      obtain ⟨c16, h⟩ := chkA_some h
      refine yo_iald 60 7776 (by decide) rfl c16 (ov_at rfl) (show decode cX3_worthOf 48 = .ok (.iaload, 1) by decide +kernel) ?_
      refine y_aload_n (show decode cX3_worthOf 49 = .ok (.aload_n 0, 1) by decide +kernel) 0 rfl ?_
      refine y_aload_n (show decode cX3_worthOf 50 = .ok (.aload_n 1, 1) by decide +kernel) 1 rfl ?_
      refine y_iconst (show decode cX3_worthOf 51 = .ok (.iconst 1, 1) by decide +kernel) rfl ?_
      refine y_iload_n (show decode cX3_worthOf 52 = .ok (.iload_n 3, 1) by decide +kernel) 3 rfl ?_
      obtain ⟨r18, e17, h⟩ := bndO_some h
      refine y_callV (np := 3) (st := [.inl (σ10 60 (x12).toNat), .inl x11]) (as := [.inr (.inr (78 + 1)), .inl 1, .inl x12]) 59 3 (sh_cDs_stepTo e17) q5_75 q5_72 q5_74 qs3_11 q1_13 (by decide) rfl (by decide) rfl (by decide) (by decide +kernel) (by decide) rfl (Nat.le_of_ble_eq_true rfl) (show decode cX3_worthOf 53 = .ok (.invokevirtual 54, 3) by decide +kernel) rfl ?_
      obtain ⟨c19, h⟩ := chkI_some h
      refine y_iadd (show decode cX3_worthOf 56 = .ok (.iadd, 1) by decide +kernel) c19 ?_
      obtain ⟨r21, e20, h⟩ := bndO_some h
      refine y_callS (np := 2) (st := []) (as := [.inl x11, .inl ((σ10 60 (x12).toNat) + r18)]) (sh_jM_max_7cf53 e20) q3_176 q5_67 q3_175 q1_11 (by decide) (by decide +kernel) (by decide) rfl (Nat.le_of_ble_eq_true rfl) (show decode cX3_worthOf 57 = .ok (.invokestatic 58, 3) by decide +kernel) rfl ?_
      refine y_istore_n (show decode cX3_worthOf 60 = .ok (.istore_n 2, 1) by decide +kernel) rfl (L1 := [(2, .inl r21), (0, .inr (.inr (59 + 1))), (1, .inr (.inr (78 + 1))), (3, .inl x12)]) rfl ?_
      obtain ⟨c22, h⟩ := chkI_some h
      refine y_iinc (show decode cX3_worthOf 61 = .ok (.iinc 3 1, 3) by decide +kernel) 3 rfl c22 rfl (L1 := [(3, .inl (x12 + 1)), (2, .inl r21), (0, .inr (.inr (59 + 1))), (1, .inr (.inr (78 + 1)))]) rfl ?_
      refine y_goto (tgt := 34) (show decode cX3_worthOf 64 = .ok (.goto (-30), 3) by decide +kernel) rfl ?_
      refine y_pick [2, 3, 1, 0] rfl ?_
      exact hk13 _ _ h
  · rw [if_neg c1] at h
    refine y_if_ne_f (show decode cX3_worthOf 4 = .ok (.ifCond .ne 6, 3) by decide +kernel) c1 (by decide) ?_
    refine y_ldc (k := -1000000) (show decode cX3_worthOf 7 = .ok (.ldc 33, 2) by decide +kernel) q5_26 rfl rfl ?_
    cases h
    exact y_iret (show decode cX3_worthOf 9 = .ok (.ireturn, 1) by decide +kernel) rfl
abbrev MX3_firstOf : yM := (yX3_firstOf, cX3_firstOf, 5, some .int)
def cDs_firstOf (N : Nat) (b : Int) (c : Int) (σ : ySt) : Option (Int) :=
  loop1 (fun k2 x1 =>
    if x1 ≥ (σ 78 3) then
      some 0
    else
      chkA 7776 x1 <|
      bndO (cDs_stepTo N b x1 σ) fun r6 =>
      chkI ((σ 60 (x1).toNat) + r6) <|
      if ¬ ((σ 60 (x1).toNat) + r6) = c then
        chkI (x1 + 1) <|
        k2 (x1 + 1)
      else
        some x1) N 0
set_option maxHeartbeats 4000000 in
set_option maxRecDepth 10000 in
theorem sh_cDs_firstOf {E : yE} {N : Nat} {b : Int} {c : Int} {σ : ySt} {ρ : Int} (h : cDs_firstOf N b c σ = some ρ) : Con E MX3_firstOf 2 0 0 [.inr (.inr (59 + 1)), .inr (.inr (78 + 1)), .inl b, .inl c] 150 (ov σ) (some (.inl ρ)) (ov σ) := by
  unfold cDs_firstOf at h
  refine Con.ofY (by decide +kernel) (by simp [yWords, yCat]) (fun hok _ => ?_)
  show Y E MX3_firstOf (yRm 2 0 0) (yQf E (150 + 0) 0 0 (some (.inl ρ)) (ov σ)) 0 [(0, .inr (.inr (59 + 1))), (1, .inr (.inr (78 + 1))), (2, .inl b), (3, .inl c)] [] (ov σ) 150 0 0
  refine y_iconst (show decode cX3_firstOf 0 = .ok (.iconst 0, 1) by decide +kernel) rfl ?_
  refine y_istore (show decode cX3_firstOf 1 = .ok (.istore 4, 2) by decide +kernel) rfl (L1 := [(4, .inl 0), (0, .inr (.inr (59 + 1))), (1, .inr (.inr (78 + 1))), (2, .inl b), (3, .inl c)]) rfl ?_
  refine y_pick [1, 2, 3, 4, 0] rfl ?_
  refine loop1_ind (P := fun x1 => Y E MX3_firstOf (yRm 2 0 0) (yQf E (150 + 0) 0 0 (some (.inl ρ)) (ov σ)) 3 [(0, .inr (.inr (59 + 1))), (1, .inr (.inr (78 + 1))), (2, .inl b), (3, .inl c), (4, .inl x1)] [] (ov σ) 150 0 0) (fun k2 hk2 x1 h => ?_) _ _  h
  refine y_iload (show decode cX3_firstOf 3 = .ok (.iload 4, 2) by decide +kernel) 4 rfl ?_
  refine y_aload_n (show decode cX3_firstOf 5 = .ok (.aload_n 1, 1) by decide +kernel) 1 rfl ?_
  refine y_getf 78 2 3 50 (by decide) rfl (by decide) (by decide) q2_183 (show decode cX3_firstOf 6 = .ok (.getfield 50, 3) by decide +kernel) (v := .inl (σ 78 3)) rfl ?_
  by_cases c3 : x1 ≥ (σ 78 3)
  · rw [if_pos c3] at h
    refine y_icmp_ge_t (tgt := 41) (show decode cX3_firstOf 9 = .ok (.if_icmp .ge 32, 3) by decide +kernel) rfl c3 ?_
    refine y_iconst (show decode cX3_firstOf 41 = .ok (.iconst 0, 1) by decide +kernel) rfl ?_
    cases h
    exact y_iret (show decode cX3_firstOf 42 = .ok (.ireturn, 1) by decide +kernel) rfl
  · rw [if_neg c3] at h
    refine y_icmp_ge_f (show decode cX3_firstOf 9 = .ok (.if_icmp .ge 32, 3) by decide +kernel) c3 (by decide) ?_
    refine y_aload_n (show decode cX3_firstOf 12 = .ok (.aload_n 0, 1) by decide +kernel) 0 rfl ?_
    refine y_getf 59 3 0 9 (by decide) rfl (by decide) (by decide) q2_150 (show decode cX3_firstOf 13 = .ok (.getfield 9, 3) by decide +kernel) (v := .inr (.inr (60 + 1))) rfl ?_
    refine y_iload (show decode cX3_firstOf 16 = .ok (.iload 4, 2) by decide +kernel) 4 rfl ?_
    obtain ⟨c4, h⟩ := chkA_some h
    refine yo_iald 60 7776 (by decide) rfl c4 (ov_at rfl) (show decode cX3_firstOf 18 = .ok (.iaload, 1) by decide +kernel) ?_
    refine y_aload_n (show decode cX3_firstOf 19 = .ok (.aload_n 0, 1) by decide +kernel) 0 rfl ?_
    refine y_aload_n (show decode cX3_firstOf 20 = .ok (.aload_n 1, 1) by decide +kernel) 1 rfl ?_
    refine y_iload_n (show decode cX3_firstOf 21 = .ok (.iload_n 2, 1) by decide +kernel) 2 rfl ?_
    refine y_iload (show decode cX3_firstOf 22 = .ok (.iload 4, 2) by decide +kernel) 4 rfl ?_
    obtain ⟨r6, e5, h⟩ := bndO_some h
    refine y_callV (np := 3) (st := [.inl (σ 60 (x1).toNat)]) (as := [.inr (.inr (78 + 1)), .inl b, .inl x1]) 59 3 (sh_cDs_stepTo e5) q5_75 q5_72 q5_74 qs3_11 q1_13 (by decide) rfl (by decide) rfl (by decide) (by decide +kernel) (by decide) rfl (Nat.le_of_ble_eq_true rfl) (show decode cX3_firstOf 24 = .ok (.invokevirtual 54, 3) by decide +kernel) rfl ?_
    obtain ⟨c7, h⟩ := chkI_some h
    refine y_iadd (show decode cX3_firstOf 27 = .ok (.iadd, 1) by decide +kernel) c7 ?_
    refine y_iload_n (show decode cX3_firstOf 28 = .ok (.iload_n 3, 1) by decide +kernel) 3 rfl ?_
    by_cases c8 : ¬ ((σ 60 (x1).toNat) + r6) = c
    · rw [if_pos c8] at h
      refine y_icmp_ne_t (tgt := 35) (show decode cX3_firstOf 29 = .ok (.if_icmp .ne 6, 3) by decide +kernel) rfl c8 ?_
      obtain ⟨c9, h⟩ := chkI_some h
      refine y_iinc (show decode cX3_firstOf 35 = .ok (.iinc 4 1, 3) by decide +kernel) 4 rfl c9 rfl (L1 := [(4, .inl (x1 + 1)), (0, .inr (.inr (59 + 1))), (1, .inr (.inr (78 + 1))), (2, .inl b), (3, .inl c)]) rfl ?_
      refine y_goto (tgt := 3) (show decode cX3_firstOf 38 = .ok (.goto (-35), 3) by decide +kernel) rfl ?_
      refine y_pick [1, 2, 3, 4, 0] rfl ?_
      exact hk2 _ h
    · rw [if_neg c8] at h
      refine y_icmp_ne_f (show decode cX3_firstOf 29 = .ok (.if_icmp .ne 6, 3) by decide +kernel) c8 (by decide) ?_
      refine y_iload (show decode cX3_firstOf 32 = .ok (.iload 4, 2) by decide +kernel) 4 rfl ?_
      cases h
      exact y_iret (show decode cX3_firstOf 34 = .ok (.ireturn, 1) by decide +kernel) rfl
abbrev MX3_layFirstRow : yM := (yX3_layFirstRow, cX3_layFirstRow, 8, none)
def cDs_layFirstRow (N : Nat) (b : Int) (c : Nat) (σ : ySt) : Option (ySt) :=
  chk ((yKd c).1 = 20 ∧ c < 150) <|
  chkT (σ 78 0) fun T2 =>
  bndO (cDs_startAtHome N T2 σ) fun σ6 =>
  loopS2 (fun k10 x7 x8 σ9 =>
    if x8 > (σ9 78 1) then
      some σ9
    else
      bndO (cDs_firstOf N x8 x7 σ9) fun r13 =>
      bndO (cDs_stepTo N x8 r13 σ9) fun r15 =>
      chkI (x7 - r15) <|
      loopS2 (fun k20 x17 x18 σ19 =>
        chkT (σ19 78 0) fun T21 =>
        if x18 ≥ (σ19 (T21 + 3) 1) then
          chkI (x17 + 1) <|
          bndO (cDs_layTable N (x17 + 1) σ19) fun σ27 =>
          chkI (x17 + 1) <|
          k10 (x7 - r15) (x17 + 1) σ27
        else
          bndO (cDy_placeIn r13 x18 σ19) fun r30 =>
          chkA 5 x18 <|
          bnd (yset σ19 64 (x18).toNat r30) fun σ32 =>
          chkI (x17 * 5) <|
          chkI ((x17 * 5) + x18) <|
          chkA 5 x18 <|
          chkA (yKd c).2 ((x17 * 5) + x18) <|
          bnd (yset σ32 c (((x17 * 5) + x18)).toNat (σ32 64 (x18).toNat)) fun σ38 =>
          chkI (x18 + 1) <|
          k20 x17 (x18 + 1) σ38) N x8 0 σ9) N b 1 σ6
set_option maxHeartbeats 4000000 in
set_option maxRecDepth 10000 in
theorem sh_cDs_layFirstRow {E : yE} {N : Nat} {b : Int} {c : Nat} {σ : ySt} {τ : ySt} (h : cDs_layFirstRow N b c σ = some τ) : Con E MX3_layFirstRow 4 0 0 [.inr (.inr (59 + 1)), .inr (.inr (78 + 1)), .inl b, .inr (.inr (c + 1))] 150 (ov σ) none (ov τ) := by
  unfold cDs_layFirstRow at h
  refine Con.ofY (by decide +kernel) (by simp [yWords, yCat]) (fun hok _ => ?_)
  show Y E MX3_layFirstRow (yRm 4 0 0) (yQf E (150 + 0) 0 0 none (ov τ)) 0 [(0, .inr (.inr (59 + 1))), (1, .inr (.inr (78 + 1))), (2, .inl b), (3, .inr (.inr (c + 1)))] [] (ov σ) 150 0 0
  obtain ⟨c1, h⟩ := chk_some h
  refine y_iload_n (show decode cX3_layFirstRow 0 = .ok (.iload_n 2, 1) by decide +kernel) 2 rfl ?_
  refine y_istore (show decode cX3_layFirstRow 1 = .ok (.istore 4, 2) by decide +kernel) rfl (L1 := [(4, .inl b), (0, .inr (.inr (59 + 1))), (1, .inr (.inr (78 + 1))), (2, .inl b), (3, .inr (.inr (c + 1)))]) rfl ?_
  refine y_aload_n (show decode cX3_layFirstRow 3 = .ok (.aload_n 0, 1) by decide +kernel) 1 rfl ?_
  refine y_aload_n (show decode cX3_layFirstRow 4 = .ok (.aload_n 1, 1) by decide +kernel) 2 rfl ?_
  obtain ⟨T2, c3, c4, h⟩ := chkT_some h
  refine y_getf 78 2 0 42 (by decide) rfl (by decide) (by decide) q2_175 (show decode cX3_layFirstRow 5 = .ok (.getfield 42, 3) by decide +kernel) (v := .inr (.inr (T2 + 1))) (by rw [← c4]; rfl) ?_
  obtain ⟨σ6, e5, h⟩ := bndO_some h
  refine y_callV (np := 1) (st := []) (as := [.inr (.inr (T2 + 1))]) 59 3 (sh_cDs_startAtHome e5) q5_71 q5_68 q5_70 qs3_10 q1_13 (by decide) rfl (by decide) rfl (by decide) (by decide +kernel) (by decide) rfl (Nat.le_of_ble_eq_true rfl) (show decode cX3_layFirstRow 8 = .ok (.invokevirtual 46, 3) by decide +kernel) rfl ?_
  refine y_iconst (show decode cX3_layFirstRow 11 = .ok (.iconst 1, 1) by decide +kernel) rfl ?_
  refine y_istore (show decode cX3_layFirstRow 12 = .ok (.istore 5, 2) by decide +kernel) rfl (L1 := [(5, .inl 1), (4, .inl b), (0, .inr (.inr (59 + 1))), (1, .inr (.inr (78 + 1))), (2, .inl b), (3, .inr (.inr (c + 1)))]) rfl ?_
  refine y_pick [2, 3, 5, 1, 0] rfl ?_
  refine loopS2_ind (P := fun x7 x8 σ9 => Y E MX3_layFirstRow (yRm 4 0 0) (yQf E (150 + 0) 0 0 none (ov τ)) 14 [(0, .inr (.inr (59 + 1))), (1, .inr (.inr (78 + 1))), (3, .inr (.inr (c + 1))), (4, .inl x7), (5, .inl x8)] [] (ov σ9) 150 0 0) (fun k10 hk10 x7 x8 σ9 h => ?_) _ _ _ _  h
  refine y_iload (show decode cX3_layFirstRow 14 = .ok (.iload 5, 2) by decide +kernel) 4 rfl ?_
  refine y_aload_n (show decode cX3_layFirstRow 16 = .ok (.aload_n 1, 1) by decide +kernel) 1 rfl ?_
  refine y_getf 78 2 1 95 (by decide) rfl (by decide) (by decide) q2_178 (show decode cX3_layFirstRow 17 = .ok (.getfield 95, 3) by decide +kernel) (v := .inl (σ9 78 1)) rfl ?_
  by_cases c11 : x8 > (σ9 78 1)
  · rw [if_pos c11] at h
    refine y_icmp_gt_t (tgt := 118) (show decode cX3_layFirstRow 20 = .ok (.if_icmp .gt 98, 3) by decide +kernel) rfl c11 ?_
    cases h
    exact y_vret (show decode cX3_layFirstRow 118 = .ok (.return_, 1) by decide +kernel) rfl
  · rw [if_neg c11] at h
    refine y_icmp_gt_f (show decode cX3_layFirstRow 20 = .ok (.if_icmp .gt 98, 3) by decide +kernel) c11 (by decide) ?_
    refine y_aload_n (show decode cX3_layFirstRow 23 = .ok (.aload_n 0, 1) by decide +kernel) 0 rfl ?_
    refine y_aload_n (show decode cX3_layFirstRow 24 = .ok (.aload_n 1, 1) by decide +kernel) 1 rfl ?_
    refine y_iload (show decode cX3_layFirstRow 25 = .ok (.iload 5, 2) by decide +kernel) 4 rfl ?_
    refine y_iload (show decode cX3_layFirstRow 27 = .ok (.iload 4, 2) by decide +kernel) 3 rfl ?_
    obtain ⟨r13, e12, h⟩ := bndO_some h
    refine y_callV (np := 3) (st := []) (as := [.inr (.inr (78 + 1)), .inl x8, .inl x7]) 59 3 (sh_cDs_firstOf e12) q5_85 q5_82 q5_84 qs3_12 q1_13 (by decide) rfl (by decide) rfl (by decide) (by decide +kernel) (by decide) rfl (Nat.le_of_ble_eq_true rfl) (show decode cX3_layFirstRow 29 = .ok (.invokevirtual 121, 3) by decide +kernel) rfl ?_
    refine y_istore (show decode cX3_layFirstRow 32 = .ok (.istore 6, 2) by decide +kernel) rfl (L1 := [(6, .inl r13), (0, .inr (.inr (59 + 1))), (1, .inr (.inr (78 + 1))), (3, .inr (.inr (c + 1))), (4, .inl x7), (5, .inl x8)]) rfl ?_
    refine y_iload (show decode cX3_layFirstRow 34 = .ok (.iload 4, 2) by decide +kernel) 4 rfl ?_
    refine y_aload_n (show decode cX3_layFirstRow 36 = .ok (.aload_n 0, 1) by decide +kernel) 1 rfl ?_
    refine y_aload_n (show decode cX3_layFirstRow 37 = .ok (.aload_n 1, 1) by decide +kernel) 2 rfl ?_
    refine y_iload (show decode cX3_layFirstRow 38 = .ok (.iload 5, 2) by decide +kernel) 5 rfl ?_
    refine y_iload (show decode cX3_layFirstRow 40 = .ok (.iload 6, 2) by decide +kernel) 0 rfl ?_
    obtain ⟨r15, e14, h⟩ := bndO_some h
    refine y_callV (np := 3) (st := [.inl x7]) (as := [.inr (.inr (78 + 1)), .inl x8, .inl r13]) 59 3 (sh_cDs_stepTo e14) q5_75 q5_72 q5_74 qs3_11 q1_13 (by decide) rfl (by decide) rfl (by decide) (by decide +kernel) (by decide) rfl (Nat.le_of_ble_eq_true rfl) (show decode cX3_layFirstRow 42 = .ok (.invokevirtual 54, 3) by decide +kernel) rfl ?_
    obtain ⟨c16, h⟩ := chkI_some h
    refine y_isub (show decode cX3_layFirstRow 45 = .ok (.isub, 1) by decide +kernel) c16 ?_
    refine y_istore (show decode cX3_layFirstRow 46 = .ok (.istore 4, 2) by decide +kernel) rfl (L1 := [(4, .inl (x7 - r15)), (6, .inl r13), (0, .inr (.inr (59 + 1))), (1, .inr (.inr (78 + 1))), (3, .inr (.inr (c + 1))), (5, .inl x8)]) rfl ?_
    refine y_iconst (show decode cX3_layFirstRow 48 = .ok (.iconst 0, 1) by decide +kernel) rfl ?_
    refine y_istore (show decode cX3_layFirstRow 49 = .ok (.istore 7, 2) by decide +kernel) rfl (L1 := [(7, .inl 0), (4, .inl (x7 - r15)), (6, .inl r13), (0, .inr (.inr (59 + 1))), (1, .inr (.inr (78 + 1))), (3, .inr (.inr (c + 1))), (5, .inl x8)]) rfl ?_
    refine y_pick [3, 4, 5, 1, 6, 2, 0] rfl ?_
    refine loopS2_ind (P := fun x17 x18 σ19 => Y E MX3_layFirstRow (yRm 4 0 0) (yQf E (150 + 0) 0 0 none (ov τ)) 51 [(0, .inr (.inr (59 + 1))), (1, .inr (.inr (78 + 1))), (3, .inr (.inr (c + 1))), (4, .inl (x7 - r15)), (5, .inl x17), (6, .inl r13), (7, .inl x18)] [] (ov σ19) 150 0 0) (fun k20 hk20 x17 x18 σ19 h => ?_) _ _ _ _  h
    refine y_iload (show decode cX3_layFirstRow 51 = .ok (.iload 7, 2) by decide +kernel) 6 rfl ?_
    refine y_aload_n (show decode cX3_layFirstRow 53 = .ok (.aload_n 1, 1) by decide +kernel) 1 rfl ?_
    obtain ⟨T21, c22, c23, h⟩ := chkT_some h
    refine y_getf 78 2 0 42 (by decide) rfl (by decide) (by decide) q2_175 (show decode cX3_layFirstRow 54 = .ok (.getfield 42, 3) by decide +kernel) (v := .inr (.inr (T21 + 1))) (by rw [← c23]; rfl) ?_
    refine y_getf T21 9 1 65 (by omega) (by rcases c22 with rfl | rfl <;> rfl) (by decide) (by decide) q1_202 (show decode cX3_layFirstRow 57 = .ok (.getfield 65, 3) by decide +kernel) (v := .inr (.inr ((T21 + 3) + 1))) (by rcases c22 with rfl | rfl <;> rfl) ?_
    refine y_getf (T21 + 3) 5 1 71 (by omega) (by rcases c22 with rfl | rfl <;> rfl) (by decide) (by decide) q1_148 (show decode cX3_layFirstRow 60 = .ok (.getfield 71, 3) by decide +kernel) (v := .inl (σ19 (T21 + 3) 1)) (by rcases c22 with rfl | rfl <;> rfl) ?_
    by_cases c24 : x18 ≥ (σ19 (T21 + 3) 1)
    · rw [if_pos c24] at h
      refine y_icmp_ge_t (tgt := 103) (show decode cX3_layFirstRow 63 = .ok (.if_icmp .ge 40, 3) by decide +kernel) rfl c24 ?_
      refine y_aload_n (show decode cX3_layFirstRow 103 = .ok (.aload_n 0, 1) by decide +kernel) 0 rfl ?_
      refine y_aload_n (show decode cX3_layFirstRow 104 = .ok (.aload_n 1, 1) by decide +kernel) 1 rfl ?_
      refine y_iload (show decode cX3_layFirstRow 105 = .ok (.iload 5, 2) by decide +kernel) 4 rfl ?_
      refine y_iconst (show decode cX3_layFirstRow 107 = .ok (.iconst 1, 1) by decide +kernel) rfl ?_
      obtain ⟨c25, h⟩ := chkI_some h
      refine y_iadd (show decode cX3_layFirstRow 108 = .ok (.iadd, 1) by decide +kernel) c25 ?_
      obtain ⟨σ27, e26, h⟩ := bndO_some h
      refine y_callV (np := 2) (st := []) (as := [.inr (.inr (78 + 1)), .inl (x17 + 1)]) 59 3 (sh_cDs_layTable e26) q5_42 q5_39 q5_41 qs3_5 q1_13 (by decide) rfl (by decide) rfl (by decide) (by decide +kernel) (by decide) rfl (Nat.le_of_ble_eq_true rfl) (show decode cX3_layFirstRow 109 = .ok (.invokevirtual 38, 3) by decide +kernel) rfl ?_
      obtain ⟨c28, h⟩ := chkI_some h
      refine y_iinc (show decode cX3_layFirstRow 112 = .ok (.iinc 5 1, 3) by decide +kernel) 4 rfl c28 rfl (L1 := [(5, .inl (x17 + 1)), (0, .inr (.inr (59 + 1))), (1, .inr (.inr (78 + 1))), (3, .inr (.inr (c + 1))), (4, .inl (x7 - r15)), (6, .inl r13), (7, .inl x18)]) rfl ?_
      refine y_goto (tgt := 14) (show decode cX3_layFirstRow 115 = .ok (.goto (-101), 3) by decide +kernel) rfl ?_
      refine y_pick [1, 2, 3, 4, 0] rfl ?_
      exact hk10 _ _ _ h
    · rw [if_neg c24] at h
      refine y_icmp_ge_f (show decode cX3_layFirstRow 63 = .ok (.if_icmp .ge 40, 3) by decide +kernel) c24 (by decide) ?_
      refine y_aload_n (show decode cX3_layFirstRow 66 = .ok (.aload_n 0, 1) by decide +kernel) 0 rfl ?_
      refine y_getf 59 3 4 24 (by decide) rfl (by decide) (by decide) q2_154 (show decode cX3_layFirstRow 67 = .ok (.getfield 24, 3) by decide +kernel) (v := .inr (.inr (64 + 1))) rfl ?_
      refine y_iload (show decode cX3_layFirstRow 70 = .ok (.iload 7, 2) by decide +kernel) 6 rfl ?_
      refine y_aload_n (show decode cX3_layFirstRow 72 = .ok (.aload_n 1, 1) by decide +kernel) 1 rfl ?_
      refine y_iload (show decode cX3_layFirstRow 73 = .ok (.iload 6, 2) by decide +kernel) 5 rfl ?_
      refine y_iload (show decode cX3_layFirstRow 75 = .ok (.iload 7, 2) by decide +kernel) 6 rfl ?_
      obtain ⟨r30, e29, h⟩ := bndO_some h
      refine y_callV (np := 2) (st := [.inl x18, .inr (.inr (64 + 1))]) (as := [.inl r13, .inl x18]) 78 2 (sh_cDy_placeIn e29) q5_38 q5_76 q5_36 q5_37 q1_14 (by decide) rfl (by decide) rfl (by decide) (by decide +kernel) (by decide) rfl (Nat.le_of_ble_eq_true rfl) (show decode cX3_layFirstRow 77 = .ok (.invokevirtual 118, 3) by decide +kernel) rfl ?_
      obtain ⟨c31, h⟩ := chkA_some h
      obtain ⟨σ32, e33, h⟩ := bnd_i h
      refine yo_iast 64 5 (by decide) rfl c31 (ov_set1 e33 rfl) (show decode cX3_layFirstRow 80 = .ok (.iastore, 1) by decide +kernel) ?_
      refine y_aload_n (show decode cX3_layFirstRow 81 = .ok (.aload_n 3, 1) by decide +kernel) 2 rfl ?_
      refine y_iload (show decode cX3_layFirstRow 82 = .ok (.iload 5, 2) by decide +kernel) 4 rfl ?_
      refine y_iconst (show decode cX3_layFirstRow 84 = .ok (.iconst 5, 1) by decide +kernel) rfl ?_
      obtain ⟨c34, h⟩ := chkI_some h
      refine y_imul (show decode cX3_layFirstRow 85 = .ok (.imul, 1) by decide +kernel) c34 ?_
      refine y_iload (show decode cX3_layFirstRow 86 = .ok (.iload 7, 2) by decide +kernel) 6 rfl ?_
      obtain ⟨c35, h⟩ := chkI_some h
      refine y_iadd (show decode cX3_layFirstRow 88 = .ok (.iadd, 1) by decide +kernel) c35 ?_
      refine y_aload_n (show decode cX3_layFirstRow 89 = .ok (.aload_n 0, 1) by decide +kernel) 0 rfl ?_
      refine y_getf 59 3 4 24 (by decide) rfl (by decide) (by decide) q2_154 (show decode cX3_layFirstRow 90 = .ok (.getfield 24, 3) by decide +kernel) (v := .inr (.inr (64 + 1))) rfl ?_
      refine y_iload (show decode cX3_layFirstRow 93 = .ok (.iload 7, 2) by decide +kernel) 6 rfl ?_
      obtain ⟨c36, h⟩ := chkA_some h
      refine yo_iald 64 5 (by decide) rfl c36 (ov_at rfl) (show decode cX3_layFirstRow 95 = .ok (.iaload, 1) by decide +kernel) ?_
      obtain ⟨c37, h⟩ := chkA_some h
      obtain ⟨σ38, e39, h⟩ := bnd_i h
      refine yo_iast c (yKd c).2 c1.2 (yArr_kd c1) c37 (ov_set1 e39 (yArr_cr (by rw [c1.1]; decide) c1.2 _)) (show decode cX3_layFirstRow 96 = .ok (.iastore, 1) by decide +kernel) ?_
      obtain ⟨c40, h⟩ := chkI_some h
      refine y_iinc (show decode cX3_layFirstRow 97 = .ok (.iinc 7 1, 3) by decide +kernel) 6 rfl c40 rfl (L1 := [(7, .inl (x18 + 1)), (0, .inr (.inr (59 + 1))), (1, .inr (.inr (78 + 1))), (3, .inr (.inr (c + 1))), (4, .inl (x7 - r15)), (5, .inl x17), (6, .inl r13)]) rfl ?_
      refine y_goto (tgt := 51) (show decode cX3_layFirstRow 100 = .ok (.goto (-49), 3) by decide +kernel) rfl ?_
      refine y_pick [1, 2, 3, 4, 5, 6, 0] rfl ?_
      exact hk20 _ _ _ h
abbrev MX0_bestWorth : yM := (yX0_bestWorth, cX0_bestWorth, 2, some .int)
def cAn_bestWorth (N : Nat) (a : Int) (σ : ySt) : Option (Int × ySt) :=
  chkA 3 a <|
  bnd (fun (σ2 : ySt) =>
    chkA 3 a <|
    some ((σ2 66 (a).toNat), σ2)) fun j3 =>
  if ¬ (σ 65 (a).toNat) = 0 then
    j3 σ
  else
    chkT (σ 58 0) fun T6 =>
    bndO (cDy_lay N T6 a 1 σ) fun σ10 =>
    bndR (cDs_worthOf N σ10) fun r12 σ13 =>
    chkA 3 a <|
    bnd (yset σ13 66 (a).toNat r12) fun σ15 =>
    chkA 3 a <|
    bnd (fun (σ18 : ySt) =>
      chkA 3 a <|
      bnd (yset σ18 65 (a).toNat 1) fun σ21 =>
      j3 σ21) fun j19 =>
    if (σ15 66 (a).toNat) = (-1000000) then
      j19 σ15
    else
      chkA 3 a <|
      chkW a fun T25 =>
      bndO (cDs_layFirstRow N (σ15 66 (a).toNat) T25 σ15) fun σ31 =>
      j19 σ31
set_option maxHeartbeats 4000000 in
set_option maxRecDepth 10000 in
theorem sh_cAn_bestWorth {E : yE} {N : Nat} {a : Int} {σ : ySt} {ρ : Int} {τ : ySt} (h : cAn_bestWorth N a σ = some (ρ, τ)) : Con E MX0_bestWorth 5 0 0 [.inr (.inr (58 + 1)), .inl a] 150 (ov σ) (some (.inl ρ)) (ov τ) := by
  unfold cAn_bestWorth at h
  refine Con.ofY (by decide +kernel) (by simp [yWords, yCat]) (fun hok _ => ?_)
  show Y E MX0_bestWorth (yRm 5 0 0) (yQf E (150 + 0) 0 0 (some (.inl ρ)) (ov τ)) 0 [(0, .inr (.inr (58 + 1))), (1, .inl a)] [] (ov σ) 150 0 0
  refine y_aload_n (show decode cX0_bestWorth 0 = .ok (.aload_n 0, 1) by decide +kernel) 0 rfl ?_
  refine y_getf 58 0 3 18 (by decide) rfl (by decide) (by decide) q2_220 (show decode cX0_bestWorth 1 = .ok (.getfield 18, 3) by decide +kernel) (v := .inr (.inr (65 + 1))) rfl ?_
  refine y_iload_n (show decode cX0_bestWorth 4 = .ok (.iload_n 1, 1) by decide +kernel) 1 rfl ?_
  obtain ⟨c1, h⟩ := chkA_some h
  refine yo_zald 65 3 (by decide) rfl c1 (ov_at rfl) (show decode cX0_bestWorth 5 = .ok (.baload, 1) by decide +kernel) ?_
  refine bnd_j (Q := fun j3 => ∀ (σ2 : ySt), j3 σ2 = some (ρ, τ) → Y E MX0_bestWorth (yRm 5 0 0) (yQf E (150 + 0) 0 0 (some (.inl ρ)) (ov τ)) 80 [(0, .inr (.inr (58 + 1))), (1, .inl a)] [] (ov σ2) 150 0 0) (fun σ2 h => ?_) (fun j3 hj3 h => ?_) h
  · dsimp only at h
    refine y_aload_n (show decode cX0_bestWorth 80 = .ok (.aload_n 0, 1) by decide +kernel) 0 rfl ?_
    refine y_getf 58 0 4 22 (by decide) rfl (by decide) (by decide) q2_221 (show decode cX0_bestWorth 81 = .ok (.getfield 22, 3) by decide +kernel) (v := .inr (.inr (66 + 1))) rfl ?_
    refine y_iload_n (show decode cX0_bestWorth 84 = .ok (.iload_n 1, 1) by decide +kernel) 1 rfl ?_
    obtain ⟨c4, h⟩ := chkA_some h
    refine yo_iald 66 3 (by decide) rfl c4 (ov_at rfl) (show decode cX0_bestWorth 85 = .ok (.iaload, 1) by decide +kernel) ?_
    cases h
    exact y_iret (show decode cX0_bestWorth 86 = .ok (.ireturn, 1) by decide +kernel) rfl
  by_cases c5 : ¬ (σ 65 (a).toNat) = 0
  · rw [if_pos c5] at h
    refine y_if_ne_t (tgt := 80) (show decode cX0_bestWorth 6 = .ok (.ifCond .ne 74, 3) by decide +kernel) rfl c5 ?_
    refine y_pick [0, 1] rfl ?_
    exact hj3 _ h
  · rw [if_neg c5] at h
    refine y_if_ne_f (show decode cX0_bestWorth 6 = .ok (.ifCond .ne 74, 3) by decide +kernel) c5 (by decide) ?_
    refine y_aload_n (show decode cX0_bestWorth 9 = .ok (.aload_n 0, 1) by decide +kernel) 0 rfl ?_
    refine y_getf 58 0 1 61 (by decide) rfl (by decide) (by decide) q2_218 (show decode cX0_bestWorth 10 = .ok (.getfield 61, 3) by decide +kernel) (v := .inr (.inr (78 + 1))) rfl ?_
    refine y_aload_n (show decode cX0_bestWorth 13 = .ok (.aload_n 0, 1) by decide +kernel) 0 rfl ?_
    obtain ⟨T6, c7, c8, h⟩ := chkT_some h
    refine y_getf 58 0 0 52 (by decide) rfl (by decide) (by decide) q2_217 (show decode cX0_bestWorth 14 = .ok (.getfield 52, 3) by decide +kernel) (v := .inr (.inr (T6 + 1))) (by rw [← c8]; rfl) ?_
    refine y_iload_n (show decode cX0_bestWorth 17 = .ok (.iload_n 1, 1) by decide +kernel) 1 rfl ?_
    refine y_iconst (show decode cX0_bestWorth 18 = .ok (.iconst 1, 1) by decide +kernel) rfl ?_
    obtain ⟨σ10, e9, h⟩ := bndO_some h
    refine y_callV (np := 3) (st := []) (as := [.inr (.inr (T6 + 1)), .inl a, .inl 1]) 78 2 (sh_cDy_lay e9) q4_220 q4_217 q4_218 q4_219 q1_14 (by decide) rfl (by decide) rfl (by decide) (by decide +kernel) (by decide) rfl (Nat.le_of_ble_eq_true rfl) (show decode cX0_bestWorth 19 = .ok (.invokevirtual 69, 3) by decide +kernel) rfl ?_
    refine y_aload_n (show decode cX0_bestWorth 22 = .ok (.aload_n 0, 1) by decide +kernel) 0 rfl ?_
    refine y_getf 58 0 4 22 (by decide) rfl (by decide) (by decide) q2_221 (show decode cX0_bestWorth 23 = .ok (.getfield 22, 3) by decide +kernel) (v := .inr (.inr (66 + 1))) rfl ?_
    refine y_iload_n (show decode cX0_bestWorth 26 = .ok (.iload_n 1, 1) by decide +kernel) 1 rfl ?_
    refine y_aload_n (show decode cX0_bestWorth 27 = .ok (.aload_n 0, 1) by decide +kernel) 0 rfl ?_
    refine y_getf 58 0 2 12 (by decide) rfl (by decide) (by decide) q2_219 (show decode cX0_bestWorth 28 = .ok (.getfield 12, 3) by decide +kernel) (v := .inr (.inr (59 + 1))) rfl ?_
    refine y_aload_n (show decode cX0_bestWorth 31 = .ok (.aload_n 0, 1) by decide +kernel) 0 rfl ?_
    refine y_getf 58 0 1 61 (by decide) rfl (by decide) (by decide) q2_218 (show decode cX0_bestWorth 32 = .ok (.getfield 61, 3) by decide +kernel) (v := .inr (.inr (78 + 1))) rfl ?_
    obtain ⟨r12, σ13, e11, h⟩ := bndR_some h
    refine y_callV (np := 1) (st := [.inl a, .inr (.inr (66 + 1))]) (as := [.inr (.inr (78 + 1))]) 59 3 (sh_cDs_worthOf e11) q5_25 q5_22 q5_23 q5_24 q1_13 (by decide) rfl (by decide) rfl (by decide) (by decide +kernel) (by decide) rfl (Nat.le_of_ble_eq_true rfl) (show decode cX0_bestWorth 35 = .ok (.invokevirtual 79, 3) by decide +kernel) rfl ?_
    obtain ⟨c14, h⟩ := chkA_some h
    obtain ⟨σ15, e16, h⟩ := bnd_i h
    refine yo_iast 66 3 (by decide) rfl c14 (ov_set1 e16 rfl) (show decode cX0_bestWorth 38 = .ok (.iastore, 1) by decide +kernel) ?_
    refine y_aload_n (show decode cX0_bestWorth 39 = .ok (.aload_n 0, 1) by decide +kernel) 0 rfl ?_
    refine y_getf 58 0 4 22 (by decide) rfl (by decide) (by decide) q2_221 (show decode cX0_bestWorth 40 = .ok (.getfield 22, 3) by decide +kernel) (v := .inr (.inr (66 + 1))) rfl ?_
    refine y_iload_n (show decode cX0_bestWorth 43 = .ok (.iload_n 1, 1) by decide +kernel) 1 rfl ?_
    obtain ⟨c17, h⟩ := chkA_some h
    refine yo_iald 66 3 (by decide) rfl c17 (ov_at rfl) (show decode cX0_bestWorth 44 = .ok (.iaload, 1) by decide +kernel) ?_
    refine y_ldc (k := -1000000) (show decode cX0_bestWorth 45 = .ok (.ldc 82, 2) by decide +kernel) q5_77 rfl rfl ?_
    refine bnd_j (Q := fun j19 => ∀ (σ18 : ySt), j19 σ18 = some (ρ, τ) → Y E MX0_bestWorth (yRm 5 0 0) (yQf E (150 + 0) 0 0 (some (.inl ρ)) (ov τ)) 73 [(0, .inr (.inr (58 + 1))), (1, .inl a)] [] (ov σ18) 150 0 0) (fun σ18 h => ?_) (fun j19 hj19 h => ?_) h
    · dsimp only at h
      refine y_aload_n (show decode cX0_bestWorth 73 = .ok (.aload_n 0, 1) by decide +kernel) 0 rfl ?_
      refine y_getf 58 0 3 18 (by decide) rfl (by decide) (by decide) q2_220 (show decode cX0_bestWorth 74 = .ok (.getfield 18, 3) by decide +kernel) (v := .inr (.inr (65 + 1))) rfl ?_
      refine y_iload_n (show decode cX0_bestWorth 77 = .ok (.iload_n 1, 1) by decide +kernel) 1 rfl ?_
      refine y_iconst (show decode cX0_bestWorth 78 = .ok (.iconst 1, 1) by decide +kernel) rfl ?_
      obtain ⟨c20, h⟩ := chkA_some h
      obtain ⟨σ21, e22, h⟩ := bnd_i h
      refine yo_zast 65 3 (by decide) rfl c20 (Or.inr rfl) (ov_set1 e22 rfl) (show decode cX0_bestWorth 79 = .ok (.bastore, 1) by decide +kernel) ?_
      refine y_pick [0, 1] rfl ?_
      exact hj3 _ h
    by_cases c23 : (σ15 66 (a).toNat) = (-1000000)
    · rw [if_pos c23] at h
      refine y_icmp_eq_t (tgt := 73) (show decode cX0_bestWorth 47 = .ok (.if_icmp .eq 26, 3) by decide +kernel) rfl c23 ?_
      refine y_pick [0, 1] rfl ?_
      exact hj19 _ h
    · rw [if_neg c23] at h
      refine y_icmp_eq_f (show decode cX0_bestWorth 47 = .ok (.if_icmp .eq 26, 3) by decide +kernel) c23 (by decide) ?_
      refine y_aload_n (show decode cX0_bestWorth 50 = .ok (.aload_n 0, 1) by decide +kernel) 0 rfl ?_
      refine y_getf 58 0 2 12 (by decide) rfl (by decide) (by decide) q2_219 (show decode cX0_bestWorth 51 = .ok (.getfield 12, 3) by decide +kernel) (v := .inr (.inr (59 + 1))) rfl ?_
      refine y_aload_n (show decode cX0_bestWorth 54 = .ok (.aload_n 0, 1) by decide +kernel) 0 rfl ?_
      refine y_getf 58 0 1 61 (by decide) rfl (by decide) (by decide) q2_218 (show decode cX0_bestWorth 55 = .ok (.getfield 61, 3) by decide +kernel) (v := .inr (.inr (78 + 1))) rfl ?_
      refine y_aload_n (show decode cX0_bestWorth 58 = .ok (.aload_n 0, 1) by decide +kernel) 0 rfl ?_
      refine y_getf 58 0 4 22 (by decide) rfl (by decide) (by decide) q2_221 (show decode cX0_bestWorth 59 = .ok (.getfield 22, 3) by decide +kernel) (v := .inr (.inr (66 + 1))) rfl ?_
      refine y_iload_n (show decode cX0_bestWorth 62 = .ok (.iload_n 1, 1) by decide +kernel) 1 rfl ?_
      obtain ⟨c24, h⟩ := chkA_some h
      refine yo_iald 66 3 (by decide) rfl c24 (ov_at rfl) (show decode cX0_bestWorth 63 = .ok (.iaload, 1) by decide +kernel) ?_
      refine y_aload_n (show decode cX0_bestWorth 64 = .ok (.aload_n 0, 1) by decide +kernel) 0 rfl ?_
      refine y_getf 58 0 5 28 (by decide) rfl (by decide) (by decide) q2_222 (show decode cX0_bestWorth 65 = .ok (.getfield 28, 3) by decide +kernel) (v := .inr (.inr (67 + 1))) rfl ?_
      refine y_iload_n (show decode cX0_bestWorth 68 = .ok (.iload_n 1, 1) by decide +kernel) 1 rfl ?_
      obtain ⟨T25, c26, c27, c28, c29, h⟩ := chkW_some h
      refine y_aald 67 25 3 (by decide) rfl (by decide) c28 c29 (show decode cX0_bestWorth 69 = .ok (.aaload, 1) by decide +kernel) (v := .inr (.inr (T25 + 1))) (by rw [c27]) ?_
      obtain ⟨σ31, e30, h⟩ := bndO_some h
      refine y_callV (np := 3) (st := []) (as := [.inr (.inr (78 + 1)), .inl (σ15 66 (a).toNat), .inr (.inr (T25 + 1))]) 59 3 (sh_cDs_layFirstRow e30) q5_81 q5_78 q5_79 q5_80 q1_13 (by decide) rfl (by decide) rfl (by decide) (by decide +kernel) (by decide) rfl (Nat.le_of_ble_eq_true rfl) (show decode cX0_bestWorth 70 = .ok (.invokevirtual 83, 3) by decide +kernel) rfl ?_
      refine y_pick [0, 1] rfl ?_
      exact hj19 _ h
abbrev MX0_bestPlace : yM := (yX0_bestPlace, cX0_bestPlace, 4, some .int)
def cAn_bestPlace (N : Nat) (a : Int) (b : Int) (c : Int) (σ : ySt) : Option (Int × ySt) :=
  bndR (cAn_bestWorth N a σ) fun r2 σ3 =>
  if ¬ r2 = (-1000000) then
    chkW a fun T5 =>
    chkI (b * 5) <|
    chkI ((b * 5) + c) <|
    chkA 45 ((b * 5) + c) <|
    some ((σ3 T5 (((b * 5) + c)).toNat), σ3)
  else
    some ((-1), σ3)
set_option maxHeartbeats 4000000 in
set_option maxRecDepth 10000 in
theorem sh_cAn_bestPlace {E : yE} {N : Nat} {a : Int} {b : Int} {c : Int} {σ : ySt} {ρ : Int} {τ : ySt} (h : cAn_bestPlace N a b c σ = some (ρ, τ)) : Con E MX0_bestPlace 6 0 0 [.inr (.inr (58 + 1)), .inl a, .inl b, .inl c] 150 (ov σ) (some (.inl ρ)) (ov τ) := by
  unfold cAn_bestPlace at h
  refine Con.ofY (by decide +kernel) (by simp [yWords, yCat]) (fun hok _ => ?_)
  show Y E MX0_bestPlace (yRm 6 0 0) (yQf E (150 + 0) 0 0 (some (.inl ρ)) (ov τ)) 0 [(0, .inr (.inr (58 + 1))), (1, .inl a), (2, .inl b), (3, .inl c)] [] (ov σ) 150 0 0
  refine y_aload_n (show decode cX0_bestPlace 0 = .ok (.aload_n 0, 1) by decide +kernel) 0 rfl ?_
  refine y_iload_n (show decode cX0_bestPlace 1 = .ok (.iload_n 1, 1) by decide +kernel) 1 rfl ?_
  obtain ⟨r2, σ3, e1, h⟩ := bndR_some h
  refine y_callV (np := 1) (st := []) (as := [.inl a]) 58 0 (sh_cAn_bestWorth e1) q5_21 q5_98 q5_19 q5_20 q1_12 (by decide) rfl (by decide) rfl (by decide) (by decide +kernel) (by decide) rfl (Nat.le_of_ble_eq_true rfl) (show decode cX0_bestPlace 2 = .ok (.invokevirtual 87, 3) by decide +kernel) rfl ?_
  refine y_ldc (k := -1000000) (show decode cX0_bestPlace 5 = .ok (.ldc 82, 2) by decide +kernel) q5_77 rfl rfl ?_
  by_cases c4 : ¬ r2 = (-1000000)
  · rw [if_pos c4] at h
    refine y_icmp_ne_t (tgt := 14) (show decode cX0_bestPlace 7 = .ok (.if_icmp .ne 7, 3) by decide +kernel) rfl c4 ?_
    refine y_aload_n (show decode cX0_bestPlace 14 = .ok (.aload_n 0, 1) by decide +kernel) 0 rfl ?_
    refine y_getf 58 0 5 28 (by decide) rfl (by decide) (by decide) q2_222 (show decode cX0_bestPlace 15 = .ok (.getfield 28, 3) by decide +kernel) (v := .inr (.inr (67 + 1))) rfl ?_
    refine y_iload_n (show decode cX0_bestPlace 18 = .ok (.iload_n 1, 1) by decide +kernel) 1 rfl ?_
    obtain ⟨T5, c6, c7, c8, c9, h⟩ := chkW_some h
    refine y_aald 67 25 3 (by decide) rfl (by decide) c8 c9 (show decode cX0_bestPlace 19 = .ok (.aaload, 1) by decide +kernel) (v := .inr (.inr (T5 + 1))) (by rw [c7]) ?_
    refine y_iload_n (show decode cX0_bestPlace 20 = .ok (.iload_n 2, 1) by decide +kernel) 2 rfl ?_
    refine y_iconst (show decode cX0_bestPlace 21 = .ok (.iconst 5, 1) by decide +kernel) rfl ?_
    obtain ⟨c10, h⟩ := chkI_some h
    refine y_imul (show decode cX0_bestPlace 22 = .ok (.imul, 1) by decide +kernel) c10 ?_
    refine y_iload_n (show decode cX0_bestPlace 23 = .ok (.iload_n 3, 1) by decide +kernel) 3 rfl ?_
    obtain ⟨c11, h⟩ := chkI_some h
    refine y_iadd (show decode cX0_bestPlace 24 = .ok (.iadd, 1) by decide +kernel) c11 ?_
    obtain ⟨c12, h⟩ := chkA_some h
    refine yo_iald T5 45 (by omega) (by rcases c6 with rfl | rfl | rfl <;> rfl) c12 (ov_at (by rcases c6 with rfl | rfl | rfl <;> rfl)) (show decode cX0_bestPlace 25 = .ok (.iaload, 1) by decide +kernel) ?_
    cases h
    exact y_iret (show decode cX0_bestPlace 26 = .ok (.ireturn, 1) by decide +kernel) rfl
  · rw [if_neg c4] at h
    refine y_icmp_ne_f (show decode cX0_bestPlace 7 = .ok (.if_icmp .ne 7, 3) by decide +kernel) c4 (by decide) ?_
    refine y_iconst (show decode cX0_bestPlace 10 = .ok (.iconst (-1), 1) by decide +kernel) rfl ?_
    refine y_goto (tgt := 26) (show decode cX0_bestPlace 11 = .ok (.goto 15, 3) by decide +kernel) rfl ?_
    cases h
    exact y_iret (show decode cX0_bestPlace 26 = .ok (.ireturn, 1) by decide +kernel) rfl
abbrev MX2_freeStroke : yM := (yX2_freeStroke, cX2_freeStroke, 3, none)
def cDy_freeStroke (N : Nat) (a : Int) (σ : ySt) : Option (ySt) :=
  loopS1 (fun k3 x1 σ2 =>
    if x1 ≥ 36 then
      some σ2
    else
      chkA 36 x1 <|
      chkA 36 x1 <|
      bnd (yset σ2 82 (x1).toNat (b32or (σ2 82 (x1).toNat) (b32shl 1 a))) fun σ7 =>
      chkI (x1 + 1) <|
      k3 (x1 + 1) σ7) N 0 σ
set_option maxHeartbeats 4000000 in
set_option maxRecDepth 10000 in
theorem sh_cDy_freeStroke {E : yE} {N : Nat} {a : Int} {σ : ySt} {τ : ySt} (h : cDy_freeStroke N a σ = some τ) : Con E MX2_freeStroke 0 0 0 [.inr (.inr (78 + 1)), .inl a] 150 (ov σ) none (ov τ) := by
  unfold cDy_freeStroke at h
  refine Con.ofY (by decide +kernel) (by simp [yWords, yCat]) (fun hok _ => ?_)
  show Y E MX2_freeStroke (yRm 0 0 0) (yQf E (150 + 0) 0 0 none (ov τ)) 0 [(0, .inr (.inr (78 + 1))), (1, .inl a)] [] (ov σ) 150 0 0
  refine y_iconst (show decode cX2_freeStroke 0 = .ok (.iconst 0, 1) by decide +kernel) rfl ?_
  refine y_istore_n (show decode cX2_freeStroke 1 = .ok (.istore_n 2, 1) by decide +kernel) rfl (L1 := [(2, .inl 0), (0, .inr (.inr (78 + 1))), (1, .inl a)]) rfl ?_
  refine y_pick [1, 2, 0] rfl ?_
  refine loopS1_ind (P := fun x1 σ2 => Y E MX2_freeStroke (yRm 0 0 0) (yQf E (150 + 0) 0 0 none (ov τ)) 2 [(0, .inr (.inr (78 + 1))), (1, .inl a), (2, .inl x1)] [] (ov σ2) 150 0 0) (fun k3 hk3 x1 σ2 h => ?_) _ _ _  h
  refine y_iload_n (show decode cX2_freeStroke 2 = .ok (.iload_n 2, 1) by decide +kernel) 2 rfl ?_
  refine y_bipush (show decode cX2_freeStroke 3 = .ok (.bipush 36, 2) by decide +kernel) rfl rfl ?_
  by_cases c4 : x1 ≥ 36
  · rw [if_pos c4] at h
    refine y_icmp_ge_t (tgt := 26) (show decode cX2_freeStroke 5 = .ok (.if_icmp .ge 21, 3) by decide +kernel) rfl c4 ?_
    cases h
    exact y_vret (show decode cX2_freeStroke 26 = .ok (.return_, 1) by decide +kernel) rfl
  · rw [if_neg c4] at h
    refine y_icmp_ge_f (show decode cX2_freeStroke 5 = .ok (.if_icmp .ge 21, 3) by decide +kernel) c4 (by decide) ?_
    refine y_aload_n (show decode cX2_freeStroke 8 = .ok (.aload_n 0, 1) by decide +kernel) 0 rfl ?_
    refine y_getf 78 2 7 21 (by decide) rfl (by decide) (by decide) q2_191 (show decode cX2_freeStroke 9 = .ok (.getfield 21, 3) by decide +kernel) (v := .inr (.inr (82 + 1))) rfl ?_
    refine y_iload_n (show decode cX2_freeStroke 12 = .ok (.iload_n 2, 1) by decide +kernel) 2 rfl ?_
    refine y_dup2 (show decode cX2_freeStroke 13 = .ok (.dup2, 1) by decide +kernel) rfl rfl ?_
    obtain ⟨c5, h⟩ := chkA_some h
    refine yo_iald 82 36 (by decide) rfl c5 (ov_at rfl) (show decode cX2_freeStroke 14 = .ok (.iaload, 1) by decide +kernel) ?_
    refine y_iconst (show decode cX2_freeStroke 15 = .ok (.iconst 1, 1) by decide +kernel) rfl ?_
    refine y_iload_n (show decode cX2_freeStroke 16 = .ok (.iload_n 1, 1) by decide +kernel) 1 rfl ?_
    refine y_ishl (show decode cX2_freeStroke 17 = .ok (.ishl, 1) by decide +kernel) ?_
    refine y_ior (show decode cX2_freeStroke 18 = .ok (.ior, 1) by decide +kernel) ?_
    obtain ⟨c6, h⟩ := chkA_some h
    obtain ⟨σ7, e8, h⟩ := bnd_i h
    refine yo_iast 82 36 (by decide) rfl c6 (ov_set1 e8 rfl) (show decode cX2_freeStroke 19 = .ok (.iastore, 1) by decide +kernel) ?_
    obtain ⟨c9, h⟩ := chkI_some h
    refine y_iinc (show decode cX2_freeStroke 20 = .ok (.iinc 2 1, 3) by decide +kernel) 2 rfl c9 rfl (L1 := [(2, .inl (x1 + 1)), (0, .inr (.inr (78 + 1))), (1, .inl a)]) rfl ?_
    refine y_goto (tgt := 2) (show decode cX2_freeStroke 23 = .ok (.goto (-21), 3) by decide +kernel) rfl ?_
    refine y_pick [1, 2, 0] rfl ?_
    exact hk3 _ _ h
abbrev MX0_findBreak : yM := (yX0_findBreak, cX0_findBreak, 4, none)
def cAn_findBreak (N : Nat) (a : Int) (σ : ySt) : Option (ySt) :=
  chkA 3 a <|
  if (σ 71 (a).toNat) = 0 then
    chkA 3 a <|
    bnd (yset σ 72 (a).toNat (-1000000)) fun σ4 =>
    chkA 3 a <|
    bnd (yset σ4 73 (a).toNat (-1000000)) fun σ7 =>
    loopS1 (fun k11 x9 σ10 =>
      chkT (σ10 58 0) fun T12 =>
      if x9 > (σ10 T12 17) then
        chkA 3 a <|
        bnd (yset σ10 71 (a).toNat 1) fun σ17 =>
        some σ17
      else
        chkT (σ10 58 0) fun T19 =>
        bndO (cDy_lay N T19 a 1 σ10) fun σ23 =>
        bndO (cDy_freeStroke N x9 σ23) fun σ25 =>
        bndR (cDs_worthOf N σ25) fun r27 σ28 =>
        chkA 3 a <|
        bnd (fun (σ30 : ySt) =>
          chkI (x9 + 1) <|
          k11 (x9 + 1) σ30) fun j31 =>
        if r27 ≤ (σ28 72 (a).toNat) then
          j31 σ28
        else
          chkA 3 a <|
          bnd (yset σ28 72 (a).toNat r27) fun σ35 =>
          chkA 3 a <|
          bnd (yset σ35 73 (a).toNat x9) fun σ38 =>
          j31 σ38) N 1 σ7
  else
    some σ
set_option maxHeartbeats 4000000 in
set_option maxRecDepth 10000 in
theorem sh_cAn_findBreak {E : yE} {N : Nat} {a : Int} {σ : ySt} {τ : ySt} (h : cAn_findBreak N a σ = some τ) : Con E MX0_findBreak 5 0 0 [.inr (.inr (58 + 1)), .inl a] 150 (ov σ) none (ov τ) := by
  unfold cAn_findBreak at h
  refine Con.ofY (by decide +kernel) (by simp [yWords, yCat]) (fun hok _ => ?_)
  show Y E MX0_findBreak (yRm 5 0 0) (yQf E (150 + 0) 0 0 none (ov τ)) 0 [(0, .inr (.inr (58 + 1))), (1, .inl a)] [] (ov σ) 150 0 0
  refine y_aload_n (show decode cX0_findBreak 0 = .ok (.aload_n 0, 1) by decide +kernel) 0 rfl ?_
  refine y_getf 58 0 6 31 (by decide) rfl (by decide) (by decide) q2_223 (show decode cX0_findBreak 1 = .ok (.getfield 31, 3) by decide +kernel) (v := .inr (.inr (71 + 1))) rfl ?_
  refine y_iload_n (show decode cX0_findBreak 4 = .ok (.iload_n 1, 1) by decide +kernel) 1 rfl ?_
  obtain ⟨c1, h⟩ := chkA_some h
  refine yo_zald 71 3 (by decide) rfl c1 (ov_at rfl) (show decode cX0_findBreak 5 = .ok (.baload, 1) by decide +kernel) ?_
  by_cases c2 : (σ 71 (a).toNat) = 0
  · rw [if_pos c2] at h
    refine y_if_eq_t (tgt := 10) (show decode cX0_findBreak 6 = .ok (.ifCond .eq 4, 3) by decide +kernel) rfl c2 ?_
    refine y_aload_n (show decode cX0_findBreak 10 = .ok (.aload_n 0, 1) by decide +kernel) 0 rfl ?_
    refine y_getf 58 0 7 34 (by decide) rfl (by decide) (by decide) q2_224 (show decode cX0_findBreak 11 = .ok (.getfield 34, 3) by decide +kernel) (v := .inr (.inr (72 + 1))) rfl ?_
    refine y_iload_n (show decode cX0_findBreak 14 = .ok (.iload_n 1, 1) by decide +kernel) 1 rfl ?_
    refine y_ldc (k := -1000000) (show decode cX0_findBreak 15 = .ok (.ldc 82, 2) by decide +kernel) q5_77 rfl rfl ?_
    obtain ⟨c3, h⟩ := chkA_some h
    obtain ⟨σ4, e5, h⟩ := bnd_i h
    refine yo_iast 72 3 (by decide) rfl c3 (ov_set1 e5 rfl) (show decode cX0_findBreak 17 = .ok (.iastore, 1) by decide +kernel) ?_
    refine y_aload_n (show decode cX0_findBreak 18 = .ok (.aload_n 0, 1) by decide +kernel) 0 rfl ?_
    refine y_getf 58 0 8 37 (by decide) rfl (by decide) (by decide) q2_226 (show decode cX0_findBreak 19 = .ok (.getfield 37, 3) by decide +kernel) (v := .inr (.inr (73 + 1))) rfl ?_
    refine y_iload_n (show decode cX0_findBreak 22 = .ok (.iload_n 1, 1) by decide +kernel) 1 rfl ?_
    refine y_ldc (k := -1000000) (show decode cX0_findBreak 23 = .ok (.ldc 82, 2) by decide +kernel) q5_77 rfl rfl ?_
    obtain ⟨c6, h⟩ := chkA_some h
    obtain ⟨σ7, e8, h⟩ := bnd_i h
    refine yo_iast 73 3 (by decide) rfl c6 (ov_set1 e8 rfl) (show decode cX0_findBreak 25 = .ok (.iastore, 1) by decide +kernel) ?_
    refine y_iconst (show decode cX0_findBreak 26 = .ok (.iconst 1, 1) by decide +kernel) rfl ?_
    refine y_istore_n (show decode cX0_findBreak 27 = .ok (.istore_n 2, 1) by decide +kernel) rfl (L1 := [(2, .inl 1), (0, .inr (.inr (58 + 1))), (1, .inl a)]) rfl ?_
    refine y_pick [1, 2, 0] rfl ?_
    refine loopS1_ind (P := fun x9 σ10 => Y E MX0_findBreak (yRm 5 0 0) (yQf E (150 + 0) 0 0 none (ov τ)) 28 [(0, .inr (.inr (58 + 1))), (1, .inl a), (2, .inl x9)] [] (ov σ10) 150 0 0) (fun k11 hk11 x9 σ10 h => ?_) _ _ _  h
    refine y_iload_n (show decode cX0_findBreak 28 = .ok (.iload_n 2, 1) by decide +kernel) 2 rfl ?_
    refine y_aload_n (show decode cX0_findBreak 29 = .ok (.aload_n 0, 1) by decide +kernel) 0 rfl ?_
    obtain ⟨T12, c13, c14, h⟩ := chkT_some h
    refine y_getf 58 0 0 52 (by decide) rfl (by decide) (by decide) q2_217 (show decode cX0_findBreak 30 = .ok (.getfield 52, 3) by decide +kernel) (v := .inr (.inr (T12 + 1))) (by rw [← c14]; rfl) ?_
    refine y_getf T12 9 17 90 (by omega) (by rcases c13 with rfl | rfl <;> rfl) (by decide) (by decide) q2_22 (show decode cX0_findBreak 33 = .ok (.getfield 90, 3) by decide +kernel) (v := .inl (σ10 T12 17)) (by rcases c13 with rfl | rfl <;> rfl) ?_
    by_cases c15 : x9 > (σ10 T12 17)
    · rw [if_pos c15] at h
      refine y_icmp_gt_t (tgt := 102) (show decode cX0_findBreak 36 = .ok (.if_icmp .gt 66, 3) by decide +kernel) rfl c15 ?_
      refine y_aload_n (show decode cX0_findBreak 102 = .ok (.aload_n 0, 1) by decide +kernel) 0 rfl ?_
      refine y_getf 58 0 6 31 (by decide) rfl (by decide) (by decide) q2_223 (show decode cX0_findBreak 103 = .ok (.getfield 31, 3) by decide +kernel) (v := .inr (.inr (71 + 1))) rfl ?_
      refine y_iload_n (show decode cX0_findBreak 106 = .ok (.iload_n 1, 1) by decide +kernel) 1 rfl ?_
      refine y_iconst (show decode cX0_findBreak 107 = .ok (.iconst 1, 1) by decide +kernel) rfl ?_
      obtain ⟨c16, h⟩ := chkA_some h
      obtain ⟨σ17, e18, h⟩ := bnd_i h
      refine yo_zast 71 3 (by decide) rfl c16 (Or.inr rfl) (ov_set1 e18 rfl) (show decode cX0_findBreak 108 = .ok (.bastore, 1) by decide +kernel) ?_
      cases h
      exact y_vret (show decode cX0_findBreak 109 = .ok (.return_, 1) by decide +kernel) rfl
    · rw [if_neg c15] at h
      refine y_icmp_gt_f (show decode cX0_findBreak 36 = .ok (.if_icmp .gt 66, 3) by decide +kernel) c15 (by decide) ?_
      refine y_aload_n (show decode cX0_findBreak 39 = .ok (.aload_n 0, 1) by decide +kernel) 0 rfl ?_
      refine y_getf 58 0 1 61 (by decide) rfl (by decide) (by decide) q2_218 (show decode cX0_findBreak 40 = .ok (.getfield 61, 3) by decide +kernel) (v := .inr (.inr (78 + 1))) rfl ?_
      refine y_aload_n (show decode cX0_findBreak 43 = .ok (.aload_n 0, 1) by decide +kernel) 0 rfl ?_
      obtain ⟨T19, c20, c21, h⟩ := chkT_some h
      refine y_getf 58 0 0 52 (by decide) rfl (by decide) (by decide) q2_217 (show decode cX0_findBreak 44 = .ok (.getfield 52, 3) by decide +kernel) (v := .inr (.inr (T19 + 1))) (by rw [← c21]; rfl) ?_
      refine y_iload_n (show decode cX0_findBreak 47 = .ok (.iload_n 1, 1) by decide +kernel) 1 rfl ?_
      refine y_iconst (show decode cX0_findBreak 48 = .ok (.iconst 1, 1) by decide +kernel) rfl ?_
      obtain ⟨σ23, e22, h⟩ := bndO_some h
      refine y_callV (np := 3) (st := []) (as := [.inr (.inr (T19 + 1)), .inl a, .inl 1]) 78 2 (sh_cDy_lay e22) q4_220 q4_217 q4_218 q4_219 q1_14 (by decide) rfl (by decide) rfl (by decide) (by decide +kernel) (by decide) rfl (Nat.le_of_ble_eq_true rfl) (show decode cX0_findBreak 49 = .ok (.invokevirtual 69, 3) by decide +kernel) rfl ?_
      refine y_aload_n (show decode cX0_findBreak 52 = .ok (.aload_n 0, 1) by decide +kernel) 0 rfl ?_
      refine y_getf 58 0 1 61 (by decide) rfl (by decide) (by decide) q2_218 (show decode cX0_findBreak 53 = .ok (.getfield 61, 3) by decide +kernel) (v := .inr (.inr (78 + 1))) rfl ?_
      refine y_iload_n (show decode cX0_findBreak 56 = .ok (.iload_n 2, 1) by decide +kernel) 2 rfl ?_
      obtain ⟨σ25, e24, h⟩ := bndO_some h
      refine y_callV (np := 1) (st := []) (as := [.inl x9]) 78 2 (sh_cDy_freeStroke e24) q5_110 q5_107 q5_108 q5_109 q1_14 (by decide) rfl (by decide) rfl (by decide) (by decide +kernel) (by decide) rfl (Nat.le_of_ble_eq_true rfl) (show decode cX0_findBreak 57 = .ok (.invokevirtual 96, 3) by decide +kernel) rfl ?_
      refine y_aload_n (show decode cX0_findBreak 60 = .ok (.aload_n 0, 1) by decide +kernel) 0 rfl ?_
      refine y_getf 58 0 2 12 (by decide) rfl (by decide) (by decide) q2_219 (show decode cX0_findBreak 61 = .ok (.getfield 12, 3) by decide +kernel) (v := .inr (.inr (59 + 1))) rfl ?_
      refine y_aload_n (show decode cX0_findBreak 64 = .ok (.aload_n 0, 1) by decide +kernel) 0 rfl ?_
      refine y_getf 58 0 1 61 (by decide) rfl (by decide) (by decide) q2_218 (show decode cX0_findBreak 65 = .ok (.getfield 61, 3) by decide +kernel) (v := .inr (.inr (78 + 1))) rfl ?_
      obtain ⟨r27, σ28, e26, h⟩ := bndR_some h
      refine y_callV (np := 1) (st := []) (as := [.inr (.inr (78 + 1))]) 59 3 (sh_cDs_worthOf e26) q5_25 q5_22 q5_23 q5_24 q1_13 (by decide) rfl (by decide) rfl (by decide) (by decide +kernel) (by decide) rfl (Nat.le_of_ble_eq_true rfl) (show decode cX0_findBreak 68 = .ok (.invokevirtual 79, 3) by decide +kernel) rfl ?_
      refine y_istore_n (show decode cX0_findBreak 71 = .ok (.istore_n 3, 1) by decide +kernel) rfl (L1 := [(3, .inl r27), (0, .inr (.inr (58 + 1))), (1, .inl a), (2, .inl x9)]) rfl ?_
      refine y_iload_n (show decode cX0_findBreak 72 = .ok (.iload_n 3, 1) by decide +kernel) 0 rfl ?_
      refine y_aload_n (show decode cX0_findBreak 73 = .ok (.aload_n 0, 1) by decide +kernel) 1 rfl ?_
      refine y_getf 58 0 7 34 (by decide) rfl (by decide) (by decide) q2_224 (show decode cX0_findBreak 74 = .ok (.getfield 34, 3) by decide +kernel) (v := .inr (.inr (72 + 1))) rfl ?_
      refine y_iload_n (show decode cX0_findBreak 77 = .ok (.iload_n 1, 1) by decide +kernel) 2 rfl ?_
      obtain ⟨c29, h⟩ := chkA_some h
      refine yo_iald 72 3 (by decide) rfl c29 (ov_at rfl) (show decode cX0_findBreak 78 = .ok (.iaload, 1) by decide +kernel) ?_
      refine bnd_j (Q := fun j31 => ∀ (σ30 : ySt), j31 σ30 = some τ → Y E MX0_findBreak (yRm 5 0 0) (yQf E (150 + 0) 0 0 none (ov τ)) 96 [(0, .inr (.inr (58 + 1))), (1, .inl a), (2, .inl x9)] [] (ov σ30) 150 0 0) (fun σ30 h => ?_) (fun j31 hj31 h => ?_) h
      · dsimp only at h
        obtain ⟨c32, h⟩ := chkI_some h
        refine y_iinc (show decode cX0_findBreak 96 = .ok (.iinc 2 1, 3) by decide +kernel) 2 rfl c32 rfl (L1 := [(2, .inl (x9 + 1)), (0, .inr (.inr (58 + 1))), (1, .inl a)]) rfl ?_
        refine y_goto (tgt := 28) (show decode cX0_findBreak 99 = .ok (.goto (-71), 3) by decide +kernel) rfl ?_
        refine y_pick [1, 2, 0] rfl ?_
        exact hk11 _ _ h
      by_cases c33 : r27 ≤ (σ28 72 (a).toNat)
      · rw [if_pos c33] at h
        refine y_icmp_le_t (tgt := 96) (show decode cX0_findBreak 79 = .ok (.if_icmp .le 17, 3) by decide +kernel) rfl c33 ?_
        refine y_pick [1, 2, 3] rfl ?_
        exact hj31 _ h
      · rw [if_neg c33] at h
        refine y_icmp_le_f (show decode cX0_findBreak 79 = .ok (.if_icmp .le 17, 3) by decide +kernel) c33 (by decide) ?_
        refine y_aload_n (show decode cX0_findBreak 82 = .ok (.aload_n 0, 1) by decide +kernel) 1 rfl ?_
        refine y_getf 58 0 7 34 (by decide) rfl (by decide) (by decide) q2_224 (show decode cX0_findBreak 83 = .ok (.getfield 34, 3) by decide +kernel) (v := .inr (.inr (72 + 1))) rfl ?_
        refine y_iload_n (show decode cX0_findBreak 86 = .ok (.iload_n 1, 1) by decide +kernel) 2 rfl ?_
        refine y_iload_n (show decode cX0_findBreak 87 = .ok (.iload_n 3, 1) by decide +kernel) 0 rfl ?_
        obtain ⟨c34, h⟩ := chkA_some h
        obtain ⟨σ35, e36, h⟩ := bnd_i h
        refine yo_iast 72 3 (by decide) rfl c34 (ov_set1 e36 rfl) (show decode cX0_findBreak 88 = .ok (.iastore, 1) by decide +kernel) ?_
        refine y_aload_n (show decode cX0_findBreak 89 = .ok (.aload_n 0, 1) by decide +kernel) 1 rfl ?_
        refine y_getf 58 0 8 37 (by decide) rfl (by decide) (by decide) q2_226 (show decode cX0_findBreak 90 = .ok (.getfield 37, 3) by decide +kernel) (v := .inr (.inr (73 + 1))) rfl ?_
        refine y_iload_n (show decode cX0_findBreak 93 = .ok (.iload_n 1, 1) by decide +kernel) 2 rfl ?_
        refine y_iload_n (show decode cX0_findBreak 94 = .ok (.iload_n 2, 1) by decide +kernel) 3 rfl ?_
        obtain ⟨c37, h⟩ := chkA_some h
        obtain ⟨σ38, e39, h⟩ := bnd_i h
        refine yo_iast 73 3 (by decide) rfl c37 (ov_set1 e39 rfl) (show decode cX0_findBreak 95 = .ok (.iastore, 1) by decide +kernel) ?_
        refine y_pick [1, 2, 3] rfl ?_
        exact hj31 _ h
  · rw [if_neg c2] at h
    refine y_if_eq_f (show decode cX0_findBreak 6 = .ok (.ifCond .eq 4, 3) by decide +kernel) c2 (by decide) ?_
    cases h
    exact y_vret (show decode cX0_findBreak 9 = .ok (.return_, 1) by decide +kernel) rfl
abbrev MX2_freePlace : yM := (yX2_freePlace, cX2_freePlace, 3, none)
def cDy_freePlace (N : Nat) (a : Int) (σ : ySt) : Option (ySt) :=
  loopS1 (fun k3 x1 σ2 =>
    if x1 ≥ 6 then
      some σ2
    else
      chkI (a * 6) <|
      chkI ((a * 6) + x1) <|
      chkA 36 ((a * 6) + x1) <|
      bnd (yset σ2 82 (((a * 6) + x1)).toNat 510) fun σ8 =>
      chkI (x1 + 1) <|
      k3 (x1 + 1) σ8) N 0 σ
set_option maxHeartbeats 4000000 in
set_option maxRecDepth 10000 in
theorem sh_cDy_freePlace {E : yE} {N : Nat} {a : Int} {σ : ySt} {τ : ySt} (h : cDy_freePlace N a σ = some τ) : Con E MX2_freePlace 0 0 0 [.inr (.inr (78 + 1)), .inl a] 150 (ov σ) none (ov τ) := by
  unfold cDy_freePlace at h
  refine Con.ofY (by decide +kernel) (by simp [yWords, yCat]) (fun hok _ => ?_)
  show Y E MX2_freePlace (yRm 0 0 0) (yQf E (150 + 0) 0 0 none (ov τ)) 0 [(0, .inr (.inr (78 + 1))), (1, .inl a)] [] (ov σ) 150 0 0
  refine y_iconst (show decode cX2_freePlace 0 = .ok (.iconst 0, 1) by decide +kernel) rfl ?_
  refine y_istore_n (show decode cX2_freePlace 1 = .ok (.istore_n 2, 1) by decide +kernel) rfl (L1 := [(2, .inl 0), (0, .inr (.inr (78 + 1))), (1, .inl a)]) rfl ?_
  refine y_pick [1, 2, 0] rfl ?_
  refine loopS1_ind (P := fun x1 σ2 => Y E MX2_freePlace (yRm 0 0 0) (yQf E (150 + 0) 0 0 none (ov τ)) 2 [(0, .inr (.inr (78 + 1))), (1, .inl a), (2, .inl x1)] [] (ov σ2) 150 0 0) (fun k3 hk3 x1 σ2 h => ?_) _ _ _  h
  refine y_iload_n (show decode cX2_freePlace 2 = .ok (.iload_n 2, 1) by decide +kernel) 2 rfl ?_
  refine y_bipush (show decode cX2_freePlace 3 = .ok (.bipush 6, 2) by decide +kernel) rfl rfl ?_
  by_cases c4 : x1 ≥ 6
  · rw [if_pos c4] at h
    refine y_icmp_ge_t (tgt := 28) (show decode cX2_freePlace 5 = .ok (.if_icmp .ge 23, 3) by decide +kernel) rfl c4 ?_
    cases h
    exact y_vret (show decode cX2_freePlace 28 = .ok (.return_, 1) by decide +kernel) rfl
  · rw [if_neg c4] at h
    refine y_icmp_ge_f (show decode cX2_freePlace 5 = .ok (.if_icmp .ge 23, 3) by decide +kernel) c4 (by decide) ?_
    refine y_aload_n (show decode cX2_freePlace 8 = .ok (.aload_n 0, 1) by decide +kernel) 0 rfl ?_
    refine y_getf 78 2 7 21 (by decide) rfl (by decide) (by decide) q2_191 (show decode cX2_freePlace 9 = .ok (.getfield 21, 3) by decide +kernel) (v := .inr (.inr (82 + 1))) rfl ?_
    refine y_iload_n (show decode cX2_freePlace 12 = .ok (.iload_n 1, 1) by decide +kernel) 1 rfl ?_
    refine y_bipush (show decode cX2_freePlace 13 = .ok (.bipush 6, 2) by decide +kernel) rfl rfl ?_
    obtain ⟨c5, h⟩ := chkI_some h
    refine y_imul (show decode cX2_freePlace 15 = .ok (.imul, 1) by decide +kernel) c5 ?_
    refine y_iload_n (show decode cX2_freePlace 16 = .ok (.iload_n 2, 1) by decide +kernel) 2 rfl ?_
    obtain ⟨c6, h⟩ := chkI_some h
    refine y_iadd (show decode cX2_freePlace 17 = .ok (.iadd, 1) by decide +kernel) c6 ?_
    refine y_sipush (show decode cX2_freePlace 18 = .ok (.sipush 510, 3) by decide +kernel) rfl rfl ?_
    obtain ⟨c7, h⟩ := chkA_some h
    obtain ⟨σ8, e9, h⟩ := bnd_i h
    refine yo_iast 82 36 (by decide) rfl c7 (ov_set1 e9 rfl) (show decode cX2_freePlace 21 = .ok (.iastore, 1) by decide +kernel) ?_
    obtain ⟨c10, h⟩ := chkI_some h
    refine y_iinc (show decode cX2_freePlace 22 = .ok (.iinc 2 1, 3) by decide +kernel) 2 rfl c10 rfl (L1 := [(2, .inl (x1 + 1)), (0, .inr (.inr (78 + 1))), (1, .inl a)]) rfl ?_
    refine y_goto (tgt := 2) (show decode cX2_freePlace 25 = .ok (.goto (-23), 3) by decide +kernel) rfl ?_
    refine y_pick [1, 2, 0] rfl ?_
    exact hk3 _ _ h
abbrev MX0_spareWorth : yM := (yX0_spareWorth, cX0_spareWorth, 3, some .int)
def cAn_spareWorth (N : Nat) (a : Int) (b : Int) (σ : ySt) : Option (Int × ySt) :=
  chkT (σ 58 0) fun T1 =>
  bndO (cDy_lay N T1 b 1 σ) fun σ5 =>
  bndO (cDy_freePlace N a σ5) fun σ7 =>
  bndR (cDs_worthOf N σ7) fun r9 σ10 =>
  some (r9, σ10)
set_option maxHeartbeats 4000000 in
set_option maxRecDepth 10000 in
theorem sh_cAn_spareWorth {E : yE} {N : Nat} {a : Int} {b : Int} {σ : ySt} {ρ : Int} {τ : ySt} (h : cAn_spareWorth N a b σ = some (ρ, τ)) : Con E MX0_spareWorth 5 0 0 [.inr (.inr (58 + 1)), .inl a, .inl b] 150 (ov σ) (some (.inl ρ)) (ov τ) := by
  unfold cAn_spareWorth at h
  refine Con.ofY (by decide +kernel) (by simp [yWords, yCat]) (fun hok _ => ?_)
  show Y E MX0_spareWorth (yRm 5 0 0) (yQf E (150 + 0) 0 0 (some (.inl ρ)) (ov τ)) 0 [(0, .inr (.inr (58 + 1))), (1, .inl a), (2, .inl b)] [] (ov σ) 150 0 0
  refine y_aload_n (show decode cX0_spareWorth 0 = .ok (.aload_n 0, 1) by decide +kernel) 0 rfl ?_
  refine y_getf 58 0 1 61 (by decide) rfl (by decide) (by decide) q2_218 (show decode cX0_spareWorth 1 = .ok (.getfield 61, 3) by decide +kernel) (v := .inr (.inr (78 + 1))) rfl ?_
  refine y_aload_n (show decode cX0_spareWorth 4 = .ok (.aload_n 0, 1) by decide +kernel) 0 rfl ?_
  obtain ⟨T1, c2, c3, h⟩ := chkT_some h
  refine y_getf 58 0 0 52 (by decide) rfl (by decide) (by decide) q2_217 (show decode cX0_spareWorth 5 = .ok (.getfield 52, 3) by decide +kernel) (v := .inr (.inr (T1 + 1))) (by rw [← c3]; rfl) ?_
  refine y_iload_n (show decode cX0_spareWorth 8 = .ok (.iload_n 2, 1) by decide +kernel) 2 rfl ?_
  refine y_iconst (show decode cX0_spareWorth 9 = .ok (.iconst 1, 1) by decide +kernel) rfl ?_
  obtain ⟨σ5, e4, h⟩ := bndO_some h
  refine y_callV (np := 3) (st := []) (as := [.inr (.inr (T1 + 1)), .inl b, .inl 1]) 78 2 (sh_cDy_lay e4) q4_220 q4_217 q4_218 q4_219 q1_14 (by decide) rfl (by decide) rfl (by decide) (by decide +kernel) (by decide) rfl (Nat.le_of_ble_eq_true rfl) (show decode cX0_spareWorth 10 = .ok (.invokevirtual 69, 3) by decide +kernel) rfl ?_
  refine y_aload_n (show decode cX0_spareWorth 13 = .ok (.aload_n 0, 1) by decide +kernel) 0 rfl ?_
  refine y_getf 58 0 1 61 (by decide) rfl (by decide) (by decide) q2_218 (show decode cX0_spareWorth 14 = .ok (.getfield 61, 3) by decide +kernel) (v := .inr (.inr (78 + 1))) rfl ?_
  refine y_iload_n (show decode cX0_spareWorth 17 = .ok (.iload_n 1, 1) by decide +kernel) 1 rfl ?_
  obtain ⟨σ7, e6, h⟩ := bndO_some h
  refine y_callV (np := 1) (st := []) (as := [.inl a]) 78 2 (sh_cDy_freePlace e6) q5_122 q5_119 q5_120 q5_121 q1_14 (by decide) rfl (by decide) rfl (by decide) (by decide +kernel) (by decide) rfl (Nat.le_of_ble_eq_true rfl) (show decode cX0_spareWorth 18 = .ok (.invokevirtual 100, 3) by decide +kernel) rfl ?_
  refine y_aload_n (show decode cX0_spareWorth 21 = .ok (.aload_n 0, 1) by decide +kernel) 0 rfl ?_
  refine y_getf 58 0 2 12 (by decide) rfl (by decide) (by decide) q2_219 (show decode cX0_spareWorth 22 = .ok (.getfield 12, 3) by decide +kernel) (v := .inr (.inr (59 + 1))) rfl ?_
  refine y_aload_n (show decode cX0_spareWorth 25 = .ok (.aload_n 0, 1) by decide +kernel) 0 rfl ?_
  refine y_getf 58 0 1 61 (by decide) rfl (by decide) (by decide) q2_218 (show decode cX0_spareWorth 26 = .ok (.getfield 61, 3) by decide +kernel) (v := .inr (.inr (78 + 1))) rfl ?_
  obtain ⟨r9, σ10, e8, h⟩ := bndR_some h
  refine y_callV (np := 1) (st := []) (as := [.inr (.inr (78 + 1))]) 59 3 (sh_cDs_worthOf e8) q5_25 q5_22 q5_23 q5_24 q1_13 (by decide) rfl (by decide) rfl (by decide) (by decide +kernel) (by decide) rfl (Nat.le_of_ble_eq_true rfl) (show decode cX0_spareWorth 29 = .ok (.invokevirtual 79, 3) by decide +kernel) rfl ?_
  cases h
  exact y_iret (show decode cX0_spareWorth 32 = .ok (.ireturn, 1) by decide +kernel) rfl
abbrev MX0_oftenWorth : yM := (yX0_oftenWorth, cX0_oftenWorth, 3, some .int)
def cAn_oftenWorth (N : Nat) (a : Int) (b : Int) (σ : ySt) : Option (Int × ySt) :=
  chkT (σ 58 0) fun T1 =>
  bndO (cDy_lay N T1 b a σ) fun σ5 =>
  bndR (cDs_worthOf N σ5) fun r7 σ8 =>
  some (r7, σ8)
set_option maxHeartbeats 4000000 in
set_option maxRecDepth 10000 in
theorem sh_cAn_oftenWorth {E : yE} {N : Nat} {a : Int} {b : Int} {σ : ySt} {ρ : Int} {τ : ySt} (h : cAn_oftenWorth N a b σ = some (ρ, τ)) : Con E MX0_oftenWorth 5 0 0 [.inr (.inr (58 + 1)), .inl a, .inl b] 150 (ov σ) (some (.inl ρ)) (ov τ) := by
  unfold cAn_oftenWorth at h
  refine Con.ofY (by decide +kernel) (by simp [yWords, yCat]) (fun hok _ => ?_)
  show Y E MX0_oftenWorth (yRm 5 0 0) (yQf E (150 + 0) 0 0 (some (.inl ρ)) (ov τ)) 0 [(0, .inr (.inr (58 + 1))), (1, .inl a), (2, .inl b)] [] (ov σ) 150 0 0
  refine y_aload_n (show decode cX0_oftenWorth 0 = .ok (.aload_n 0, 1) by decide +kernel) 0 rfl ?_
  refine y_getf 58 0 1 61 (by decide) rfl (by decide) (by decide) q2_218 (show decode cX0_oftenWorth 1 = .ok (.getfield 61, 3) by decide +kernel) (v := .inr (.inr (78 + 1))) rfl ?_
  refine y_aload_n (show decode cX0_oftenWorth 4 = .ok (.aload_n 0, 1) by decide +kernel) 0 rfl ?_
  obtain ⟨T1, c2, c3, h⟩ := chkT_some h
  refine y_getf 58 0 0 52 (by decide) rfl (by decide) (by decide) q2_217 (show decode cX0_oftenWorth 5 = .ok (.getfield 52, 3) by decide +kernel) (v := .inr (.inr (T1 + 1))) (by rw [← c3]; rfl) ?_
  refine y_iload_n (show decode cX0_oftenWorth 8 = .ok (.iload_n 2, 1) by decide +kernel) 2 rfl ?_
  refine y_iload_n (show decode cX0_oftenWorth 9 = .ok (.iload_n 1, 1) by decide +kernel) 1 rfl ?_
  obtain ⟨σ5, e4, h⟩ := bndO_some h
  refine y_callV (np := 3) (st := []) (as := [.inr (.inr (T1 + 1)), .inl b, .inl a]) 78 2 (sh_cDy_lay e4) q4_220 q4_217 q4_218 q4_219 q1_14 (by decide) rfl (by decide) rfl (by decide) (by decide +kernel) (by decide) rfl (Nat.le_of_ble_eq_true rfl) (show decode cX0_oftenWorth 10 = .ok (.invokevirtual 69, 3) by decide +kernel) rfl ?_
  refine y_aload_n (show decode cX0_oftenWorth 13 = .ok (.aload_n 0, 1) by decide +kernel) 0 rfl ?_
  refine y_getf 58 0 2 12 (by decide) rfl (by decide) (by decide) q2_219 (show decode cX0_oftenWorth 14 = .ok (.getfield 12, 3) by decide +kernel) (v := .inr (.inr (59 + 1))) rfl ?_
  refine y_aload_n (show decode cX0_oftenWorth 17 = .ok (.aload_n 0, 1) by decide +kernel) 0 rfl ?_
  refine y_getf 58 0 1 61 (by decide) rfl (by decide) (by decide) q2_218 (show decode cX0_oftenWorth 18 = .ok (.getfield 61, 3) by decide +kernel) (v := .inr (.inr (78 + 1))) rfl ?_
  obtain ⟨r7, σ8, e6, h⟩ := bndR_some h
  refine y_callV (np := 1) (st := []) (as := [.inr (.inr (78 + 1))]) 59 3 (sh_cDs_worthOf e6) q5_25 q5_22 q5_23 q5_24 q1_13 (by decide) rfl (by decide) rfl (by decide) (by decide +kernel) (by decide) rfl (Nat.le_of_ble_eq_true rfl) (show decode cX0_oftenWorth 21 = .ok (.invokevirtual 79, 3) by decide +kernel) rfl ?_
  cases h
  exact y_iret (show decode cX0_oftenWorth 24 = .ok (.ireturn, 1) by decide +kernel) rfl
abbrev MX2_build : yM := (yX2_build, cX2_build, 11, some .boolean)
def cDy_build (N : Nat) (a : Int) (b : Int) (c : Int) (σ : ySt) : Option (Int × ySt) :=
  loopS2 (fun k4 x1 x2 σ3 =>
    chkT (σ3 78 0) fun T5 =>
    if x2 ≥ (σ3 (T5 + 1) 1) then
      chk (x1 = 0 ∨ x1 = 1) <|
      some (x1, σ3)
    else
      loopS3 (fun k14 x10 x11 x12 σ13 =>
        chkT (σ13 78 0) fun T15 =>
        if x12 ≥ (σ13 (T15 + 1) 1) then
          chkI (x11 + 1) <|
          k4 x10 (x11 + 1) σ13
        else
          chkT (σ13 78 0) fun T20 =>
          chkI (x11 * 6) <|
          chkI ((x11 * 6) + a) <|
          chkA 36 ((x11 * 6) + a) <|
          chkI ((σ13 (T20 + 15) (((x11 * 6) + a)).toNat) + c) <|
          chkT (σ13 78 0) fun T27 =>
          chkI (b * 6) <|
          chkI ((b * 6) + x12) <|
          chkA 36 ((b * 6) + x12) <|
          chkI (((σ13 (T20 + 15) (((x11 * 6) + a)).toNat) + c) + (σ13 (T27 + 15) (((b * 6) + x12)).toNat)) <|
          chkT (σ13 78 0) fun T34 =>
          chkI (x11 * 6) <|
          chkI ((x11 * 6) + b) <|
          chkA 36 ((x11 * 6) + b) <|
          chkI ((σ13 (T34 + 15) (((x11 * 6) + b)).toNat) + c) <|
          chkT (σ13 78 0) fun T41 =>
          chkI (a * 6) <|
          chkI ((a * 6) + x12) <|
          chkA 36 ((a * 6) + x12) <|
          chkI (((σ13 (T34 + 15) (((x11 * 6) + b)).toNat) + c) + (σ13 (T41 + 15) (((a * 6) + x12)).toNat)) <|
          chkT (σ13 78 0) fun T48 =>
          chkI (x11 * 6) <|
          chkI ((x11 * 6) + x12) <|
          chkA 36 ((x11 * 6) + x12) <|
          bndO (jM_min_7cf53 (((σ13 (T20 + 15) (((x11 * 6) + a)).toNat) + c) + (σ13 (T27 + 15) (((b * 6) + x12)).toNat)) (((σ13 (T34 + 15) (((x11 * 6) + b)).toNat) + c) + (σ13 (T41 + 15) (((a * 6) + x12)).toNat)) σ13) fun r55 =>
          bndO (jM_min_7cf53 (σ13 (T48 + 15) (((x11 * 6) + x12)).toNat) r55 σ13) fun r57 =>
          bndO (cDy_walkOf r57 σ13) fun r59 =>
          chkI (x11 * 6) <|
          chkI ((x11 * 6) + x12) <|
          chkA 36 ((x11 * 6) + x12) <|
          bnd (fun (y63 : Int) =>
            chkI (x11 * 6) <|
            chkI ((x11 * 6) + x12) <|
            chkA 36 ((x11 * 6) + x12) <|
            bnd (yset σ13 80 (((x11 * 6) + x12)).toNat r59) fun σ68 =>
            chkI (x12 + 1) <|
            k14 (b32or x10 y63) x11 (x12 + 1) σ68) fun j64 =>
          if r59 = (σ13 80 (((x11 * 6) + x12)).toNat) then
            j64 0
          else
            j64 1) N x1 x2 0 σ3) N 0 0 σ
set_option maxHeartbeats 4000000 in
set_option maxRecDepth 10000 in
theorem sh_cDy_build {E : yE} {N : Nat} {a : Int} {b : Int} {c : Int} {σ : ySt} {ρ : Int} {τ : ySt} (h : cDy_build N a b c σ = some (ρ, τ)) : Con E MX2_build 1 0 0 [.inr (.inr (78 + 1)), .inl a, .inl b, .inl c] 150 (ov σ) (some (.inl ρ)) (ov τ) := by
  unfold cDy_build at h
  refine Con.ofY (by decide +kernel) (by simp [yWords, yCat]) (fun hok _ => ?_)
  show Y E MX2_build (yRm 1 0 0) (yQf E (150 + 0) 0 0 (some (.inl ρ)) (ov τ)) 0 [(0, .inr (.inr (78 + 1))), (1, .inl a), (2, .inl b), (3, .inl c)] [] (ov σ) 150 0 0
  refine y_iconst (show decode cX2_build 0 = .ok (.iconst 0, 1) by decide +kernel) rfl ?_
  refine y_istore (show decode cX2_build 1 = .ok (.istore 4, 2) by decide +kernel) rfl (L1 := [(4, .inl 0), (0, .inr (.inr (78 + 1))), (1, .inl a), (2, .inl b), (3, .inl c)]) rfl ?_
  refine y_iconst (show decode cX2_build 3 = .ok (.iconst 0, 1) by decide +kernel) rfl ?_
  refine y_istore (show decode cX2_build 4 = .ok (.istore 5, 2) by decide +kernel) rfl (L1 := [(5, .inl 0), (4, .inl 0), (0, .inr (.inr (78 + 1))), (1, .inl a), (2, .inl b), (3, .inl c)]) rfl ?_
  refine y_pick [2, 3, 4, 5, 1, 0] rfl ?_
  refine loopS2_ind (P := fun x1 x2 σ3 => Y E MX2_build (yRm 1 0 0) (yQf E (150 + 0) 0 0 (some (.inl ρ)) (ov τ)) 6 [(0, .inr (.inr (78 + 1))), (1, .inl a), (2, .inl b), (3, .inl c), (4, .inl x1), (5, .inl x2)] [] (ov σ3) 150 0 0) (fun k4 hk4 x1 x2 σ3 h => ?_) _ _ _ _  h
  refine y_iload (show decode cX2_build 6 = .ok (.iload 5, 2) by decide +kernel) 5 rfl ?_
  refine y_aload_n (show decode cX2_build 8 = .ok (.aload_n 0, 1) by decide +kernel) 0 rfl ?_
  obtain ⟨T5, c6, c7, h⟩ := chkT_some h
  refine y_getf 78 2 0 24 (by decide) rfl (by decide) (by decide) q2_174 (show decode cX2_build 9 = .ok (.getfield 24, 3) by decide +kernel) (v := .inr (.inr (T5 + 1))) (by rw [← c7]; rfl) ?_
  refine y_getf T5 9 0 89 (by omega) (by rcases c6 with rfl | rfl <;> rfl) (by decide) (by decide) q1_195 (show decode cX2_build 12 = .ok (.getfield 89, 3) by decide +kernel) (v := .inr (.inr ((T5 + 1) + 1))) (by rcases c6 with rfl | rfl <;> rfl) ?_
  refine y_getf (T5 + 1) 5 1 84 (by omega) (by rcases c6 with rfl | rfl <;> rfl) (by decide) (by decide) q1_149 (show decode cX2_build 15 = .ok (.getfield 84, 3) by decide +kernel) (v := .inl (σ3 (T5 + 1) 1)) (by rcases c6 with rfl | rfl <;> rfl) ?_
  by_cases c8 : x2 ≥ (σ3 (T5 + 1) 1)
  · rw [if_pos c8] at h
    refine y_icmp_ge_t (tgt := 200) (show decode cX2_build 18 = .ok (.if_icmp .ge 182, 3) by decide +kernel) rfl c8 ?_
    refine y_iload (show decode cX2_build 200 = .ok (.iload 4, 2) by decide +kernel) 4 rfl ?_
    obtain ⟨c9, h⟩ := chk_some h
    cases h
    exact y_zret (show decode cX2_build 202 = .ok (.ireturn, 1) by decide +kernel) rfl c9
  · rw [if_neg c8] at h
    refine y_icmp_ge_f (show decode cX2_build 18 = .ok (.if_icmp .ge 182, 3) by decide +kernel) c8 (by decide) ?_
    refine y_iconst (show decode cX2_build 21 = .ok (.iconst 0, 1) by decide +kernel) rfl ?_
    refine y_istore (show decode cX2_build 22 = .ok (.istore 6, 2) by decide +kernel) rfl (L1 := [(6, .inl 0), (0, .inr (.inr (78 + 1))), (1, .inl a), (2, .inl b), (3, .inl c), (4, .inl x1), (5, .inl x2)]) rfl ?_
    refine y_pick [1, 2, 3, 4, 5, 6, 0] rfl ?_
    refine loopS3_ind (P := fun x10 x11 x12 σ13 => Y E MX2_build (yRm 1 0 0) (yQf E (150 + 0) 0 0 (some (.inl ρ)) (ov τ)) 24 [(0, .inr (.inr (78 + 1))), (1, .inl a), (2, .inl b), (3, .inl c), (4, .inl x10), (5, .inl x11), (6, .inl x12)] [] (ov σ13) 150 0 0) (fun k14 hk14 x10 x11 x12 σ13 h => ?_) _ _ _ _ _  h
    refine y_iload (show decode cX2_build 24 = .ok (.iload 6, 2) by decide +kernel) 6 rfl ?_
    refine y_aload_n (show decode cX2_build 26 = .ok (.aload_n 0, 1) by decide +kernel) 0 rfl ?_
    obtain ⟨T15, c16, c17, h⟩ := chkT_some h
    refine y_getf 78 2 0 24 (by decide) rfl (by decide) (by decide) q2_174 (show decode cX2_build 27 = .ok (.getfield 24, 3) by decide +kernel) (v := .inr (.inr (T15 + 1))) (by rw [← c17]; rfl) ?_
    refine y_getf T15 9 0 89 (by omega) (by rcases c16 with rfl | rfl <;> rfl) (by decide) (by decide) q1_195 (show decode cX2_build 30 = .ok (.getfield 89, 3) by decide +kernel) (v := .inr (.inr ((T15 + 1) + 1))) (by rcases c16 with rfl | rfl <;> rfl) ?_
    refine y_getf (T15 + 1) 5 1 84 (by omega) (by rcases c16 with rfl | rfl <;> rfl) (by decide) (by decide) q1_149 (show decode cX2_build 33 = .ok (.getfield 84, 3) by decide +kernel) (v := .inl (σ13 (T15 + 1) 1)) (by rcases c16 with rfl | rfl <;> rfl) ?_
    by_cases c18 : x12 ≥ (σ13 (T15 + 1) 1)
    · rw [if_pos c18] at h
      refine y_icmp_ge_t (tgt := 194) (show decode cX2_build 36 = .ok (.if_icmp .ge 158, 3) by decide +kernel) rfl c18 ?_
      obtain ⟨c19, h⟩ := chkI_some h
      refine y_iinc (show decode cX2_build 194 = .ok (.iinc 5 1, 3) by decide +kernel) 5 rfl c19 rfl (L1 := [(5, .inl (x11 + 1)), (0, .inr (.inr (78 + 1))), (1, .inl a), (2, .inl b), (3, .inl c), (4, .inl x10), (6, .inl x12)]) rfl ?_
      refine y_goto (tgt := 6) (show decode cX2_build 197 = .ok (.goto (-191), 3) by decide +kernel) rfl ?_
      refine y_pick [1, 2, 3, 4, 5, 0] rfl ?_
      exact hk4 _ _ _ h
    · rw [if_neg c18] at h
      refine y_icmp_ge_f (show decode cX2_build 36 = .ok (.if_icmp .ge 158, 3) by decide +kernel) c18 (by decide) ?_
      refine y_aload_n (show decode cX2_build 39 = .ok (.aload_n 0, 1) by decide +kernel) 0 rfl ?_
      obtain ⟨T20, c21, c22, h⟩ := chkT_some h
      refine y_getf 78 2 0 24 (by decide) rfl (by decide) (by decide) q2_174 (show decode cX2_build 40 = .ok (.getfield 24, 3) by decide +kernel) (v := .inr (.inr (T20 + 1))) (by rw [← c22]; rfl) ?_
      refine y_getf T20 9 11 60 (by omega) (by rcases c21 with rfl | rfl <;> rfl) (by decide) (by decide) q1_238 (show decode cX2_build 43 = .ok (.getfield 60, 3) by decide +kernel) (v := .inr (.inr ((T20 + 15) + 1))) (by rcases c21 with rfl | rfl <;> rfl) ?_
      refine y_iload (show decode cX2_build 46 = .ok (.iload 5, 2) by decide +kernel) 5 rfl ?_
      refine y_bipush (show decode cX2_build 48 = .ok (.bipush 6, 2) by decide +kernel) rfl rfl ?_
      obtain ⟨c23, h⟩ := chkI_some h
      refine y_imul (show decode cX2_build 50 = .ok (.imul, 1) by decide +kernel) c23 ?_
      refine y_iload_n (show decode cX2_build 51 = .ok (.iload_n 1, 1) by decide +kernel) 1 rfl ?_
      obtain ⟨c24, h⟩ := chkI_some h
      refine y_iadd (show decode cX2_build 52 = .ok (.iadd, 1) by decide +kernel) c24 ?_
      obtain ⟨c25, h⟩ := chkA_some h
      refine yo_iald (T20 + 15) 36 (by omega) (by rcases c21 with rfl | rfl <;> rfl) c25 (ov_at (by rcases c21 with rfl | rfl <;> rfl)) (show decode cX2_build 53 = .ok (.iaload, 1) by decide +kernel) ?_
      refine y_iload_n (show decode cX2_build 54 = .ok (.iload_n 3, 1) by decide +kernel) 3 rfl ?_
      obtain ⟨c26, h⟩ := chkI_some h
      refine y_iadd (show decode cX2_build 55 = .ok (.iadd, 1) by decide +kernel) c26 ?_
      refine y_aload_n (show decode cX2_build 56 = .ok (.aload_n 0, 1) by decide +kernel) 0 rfl ?_
      obtain ⟨T27, c28, c29, h⟩ := chkT_some h
      refine y_getf 78 2 0 24 (by decide) rfl (by decide) (by decide) q2_174 (show decode cX2_build 57 = .ok (.getfield 24, 3) by decide +kernel) (v := .inr (.inr (T27 + 1))) (by rw [← c29]; rfl) ?_
      refine y_getf T27 9 11 60 (by omega) (by rcases c28 with rfl | rfl <;> rfl) (by decide) (by decide) q1_238 (show decode cX2_build 60 = .ok (.getfield 60, 3) by decide +kernel) (v := .inr (.inr ((T27 + 15) + 1))) (by rcases c28 with rfl | rfl <;> rfl) ?_
      refine y_iload_n (show decode cX2_build 63 = .ok (.iload_n 2, 1) by decide +kernel) 2 rfl ?_
      refine y_bipush (show decode cX2_build 64 = .ok (.bipush 6, 2) by decide +kernel) rfl rfl ?_
      obtain ⟨c30, h⟩ := chkI_some h
      refine y_imul (show decode cX2_build 66 = .ok (.imul, 1) by decide +kernel) c30 ?_
      refine y_iload (show decode cX2_build 67 = .ok (.iload 6, 2) by decide +kernel) 6 rfl ?_
      obtain ⟨c31, h⟩ := chkI_some h
      refine y_iadd (show decode cX2_build 69 = .ok (.iadd, 1) by decide +kernel) c31 ?_
      obtain ⟨c32, h⟩ := chkA_some h
      refine yo_iald (T27 + 15) 36 (by omega) (by rcases c28 with rfl | rfl <;> rfl) c32 (ov_at (by rcases c28 with rfl | rfl <;> rfl)) (show decode cX2_build 70 = .ok (.iaload, 1) by decide +kernel) ?_
      obtain ⟨c33, h⟩ := chkI_some h
      refine y_iadd (show decode cX2_build 71 = .ok (.iadd, 1) by decide +kernel) c33 ?_
      refine y_istore (show decode cX2_build 72 = .ok (.istore 7, 2) by decide +kernel) rfl (L1 := [(7, .inl (((σ13 (T20 + 15) (((x11 * 6) + a)).toNat) + c) + (σ13 (T27 + 15) (((b * 6) + x12)).toNat))), (0, .inr (.inr (78 + 1))), (1, .inl a), (2, .inl b), (3, .inl c), (4, .inl x10), (5, .inl x11), (6, .inl x12)]) rfl ?_
      refine y_aload_n (show decode cX2_build 74 = .ok (.aload_n 0, 1) by decide +kernel) 1 rfl ?_
      obtain ⟨T34, c35, c36, h⟩ := chkT_some h
      refine y_getf 78 2 0 24 (by decide) rfl (by decide) (by decide) q2_174 (show decode cX2_build 75 = .ok (.getfield 24, 3) by decide +kernel) (v := .inr (.inr (T34 + 1))) (by rw [← c36]; rfl) ?_
      refine y_getf T34 9 11 60 (by omega) (by rcases c35 with rfl | rfl <;> rfl) (by decide) (by decide) q1_238 (show decode cX2_build 78 = .ok (.getfield 60, 3) by decide +kernel) (v := .inr (.inr ((T34 + 15) + 1))) (by rcases c35 with rfl | rfl <;> rfl) ?_
      refine y_iload (show decode cX2_build 81 = .ok (.iload 5, 2) by decide +kernel) 6 rfl ?_
      refine y_bipush (show decode cX2_build 83 = .ok (.bipush 6, 2) by decide +kernel) rfl rfl ?_
      obtain ⟨c37, h⟩ := chkI_some h
      refine y_imul (show decode cX2_build 85 = .ok (.imul, 1) by decide +kernel) c37 ?_
      refine y_iload_n (show decode cX2_build 86 = .ok (.iload_n 2, 1) by decide +kernel) 3 rfl ?_
      obtain ⟨c38, h⟩ := chkI_some h
      refine y_iadd (show decode cX2_build 87 = .ok (.iadd, 1) by decide +kernel) c38 ?_
      obtain ⟨c39, h⟩ := chkA_some h
      refine yo_iald (T34 + 15) 36 (by omega) (by rcases c35 with rfl | rfl <;> rfl) c39 (ov_at (by rcases c35 with rfl | rfl <;> rfl)) (show decode cX2_build 88 = .ok (.iaload, 1) by decide +kernel) ?_
      refine y_iload_n (show decode cX2_build 89 = .ok (.iload_n 3, 1) by decide +kernel) 4 rfl ?_
      obtain ⟨c40, h⟩ := chkI_some h
      refine y_iadd (show decode cX2_build 90 = .ok (.iadd, 1) by decide +kernel) c40 ?_
      refine y_aload_n (show decode cX2_build 91 = .ok (.aload_n 0, 1) by decide +kernel) 1 rfl ?_
      obtain ⟨T41, c42, c43, h⟩ := chkT_some h
      refine y_getf 78 2 0 24 (by decide) rfl (by decide) (by decide) q2_174 (show decode cX2_build 92 = .ok (.getfield 24, 3) by decide +kernel) (v := .inr (.inr (T41 + 1))) (by rw [← c43]; rfl) ?_
      refine y_getf T41 9 11 60 (by omega) (by rcases c42 with rfl | rfl <;> rfl) (by decide) (by decide) q1_238 (show decode cX2_build 95 = .ok (.getfield 60, 3) by decide +kernel) (v := .inr (.inr ((T41 + 15) + 1))) (by rcases c42 with rfl | rfl <;> rfl) ?_
      refine y_iload_n (show decode cX2_build 98 = .ok (.iload_n 1, 1) by decide +kernel) 2 rfl ?_
      refine y_bipush (show decode cX2_build 99 = .ok (.bipush 6, 2) by decide +kernel) rfl rfl ?_
      obtain ⟨c44, h⟩ := chkI_some h
      refine y_imul (show decode cX2_build 101 = .ok (.imul, 1) by decide +kernel) c44 ?_
      refine y_iload (show decode cX2_build 102 = .ok (.iload 6, 2) by decide +kernel) 7 rfl ?_
      obtain ⟨c45, h⟩ := chkI_some h
      refine y_iadd (show decode cX2_build 104 = .ok (.iadd, 1) by decide +kernel) c45 ?_
      obtain ⟨c46, h⟩ := chkA_some h
      refine yo_iald (T41 + 15) 36 (by omega) (by rcases c42 with rfl | rfl <;> rfl) c46 (ov_at (by rcases c42 with rfl | rfl <;> rfl)) (show decode cX2_build 105 = .ok (.iaload, 1) by decide +kernel) ?_
      obtain ⟨c47, h⟩ := chkI_some h
      refine y_iadd (show decode cX2_build 106 = .ok (.iadd, 1) by decide +kernel) c47 ?_
      refine y_istore (show decode cX2_build 107 = .ok (.istore 8, 2) by decide +kernel) rfl (L1 := [(8, .inl (((σ13 (T34 + 15) (((x11 * 6) + b)).toNat) + c) + (σ13 (T41 + 15) (((a * 6) + x12)).toNat))), (7, .inl (((σ13 (T20 + 15) (((x11 * 6) + a)).toNat) + c) + (σ13 (T27 + 15) (((b * 6) + x12)).toNat))), (0, .inr (.inr (78 + 1))), (1, .inl a), (2, .inl b), (3, .inl c), (4, .inl x10), (5, .inl x11), (6, .inl x12)]) rfl ?_
      refine y_aload_n (show decode cX2_build 109 = .ok (.aload_n 0, 1) by decide +kernel) 2 rfl ?_
      obtain ⟨T48, c49, c50, h⟩ := chkT_some h
      refine y_getf 78 2 0 24 (by decide) rfl (by decide) (by decide) q2_174 (show decode cX2_build 110 = .ok (.getfield 24, 3) by decide +kernel) (v := .inr (.inr (T48 + 1))) (by rw [← c50]; rfl) ?_
      refine y_getf T48 9 11 60 (by omega) (by rcases c49 with rfl | rfl <;> rfl) (by decide) (by decide) q1_238 (show decode cX2_build 113 = .ok (.getfield 60, 3) by decide +kernel) (v := .inr (.inr ((T48 + 15) + 1))) (by rcases c49 with rfl | rfl <;> rfl) ?_
      refine y_iload (show decode cX2_build 116 = .ok (.iload 5, 2) by decide +kernel) 7 rfl ?_
      refine y_bipush (show decode cX2_build 118 = .ok (.bipush 6, 2) by decide +kernel) rfl rfl ?_
      obtain ⟨c51, h⟩ := chkI_some h
      refine y_imul (show decode cX2_build 120 = .ok (.imul, 1) by decide +kernel) c51 ?_
      refine y_iload (show decode cX2_build 121 = .ok (.iload 6, 2) by decide +kernel) 8 rfl ?_
      obtain ⟨c52, h⟩ := chkI_some h
      refine y_iadd (show decode cX2_build 123 = .ok (.iadd, 1) by decide +kernel) c52 ?_
      obtain ⟨c53, h⟩ := chkA_some h
      refine yo_iald (T48 + 15) 36 (by omega) (by rcases c49 with rfl | rfl <;> rfl) c53 (ov_at (by rcases c49 with rfl | rfl <;> rfl)) (show decode cX2_build 124 = .ok (.iaload, 1) by decide +kernel) ?_
      refine y_iload (show decode cX2_build 125 = .ok (.iload 7, 2) by decide +kernel) 1 rfl ?_
      refine y_iload (show decode cX2_build 127 = .ok (.iload 8, 2) by decide +kernel) 0 rfl ?_
      obtain ⟨r55, e54, h⟩ := bndO_some h
      refine y_callS (np := 2) (st := [.inl (σ13 (T48 + 15) (((x11 * 6) + x12)).toNat)]) (as := [.inl (((σ13 (T20 + 15) (((x11 * 6) + a)).toNat) + c) + (σ13 (T27 + 15) (((b * 6) + x12)).toNat)), .inl (((σ13 (T34 + 15) (((x11 * 6) + b)).toNat) + c) + (σ13 (T41 + 15) (((a * 6) + x12)).toNat))]) (sh_jM_min_7cf53 e54) q2_116 q5_143 q2_115 q1_11 (by decide) (by decide +kernel) (by decide) rfl (Nat.le_of_ble_eq_true rfl) (show decode cX2_build 129 = .ok (.invokestatic 112, 3) by decide +kernel) rfl ?_
      obtain ⟨r57, e56, h⟩ := bndO_some h
      refine y_callS (np := 2) (st := []) (as := [.inl (σ13 (T48 + 15) (((x11 * 6) + x12)).toNat), .inl r55]) (sh_jM_min_7cf53 e56) q2_116 q5_143 q2_115 q1_11 (by decide) (by decide +kernel) (by decide) rfl (Nat.le_of_ble_eq_true rfl) (show decode cX2_build 132 = .ok (.invokestatic 112, 3) by decide +kernel) rfl ?_
      refine y_istore (show decode cX2_build 135 = .ok (.istore 9, 2) by decide +kernel) rfl (L1 := [(9, .inl r57), (8, .inl (((σ13 (T34 + 15) (((x11 * 6) + b)).toNat) + c) + (σ13 (T41 + 15) (((a * 6) + x12)).toNat))), (7, .inl (((σ13 (T20 + 15) (((x11 * 6) + a)).toNat) + c) + (σ13 (T27 + 15) (((b * 6) + x12)).toNat))), (0, .inr (.inr (78 + 1))), (1, .inl a), (2, .inl b), (3, .inl c), (4, .inl x10), (5, .inl x11), (6, .inl x12)]) rfl ?_
      refine y_aload_n (show decode cX2_build 137 = .ok (.aload_n 0, 1) by decide +kernel) 3 rfl ?_
      refine y_iload (show decode cX2_build 138 = .ok (.iload 9, 2) by decide +kernel) 0 rfl ?_
      obtain ⟨r59, e58, h⟩ := bndO_some h
      refine y_callV (np := 1) (st := []) (as := [.inl r57]) 78 2 (sh_cDy_walkOf e58) q4_233 q4_230 q4_232 qs3_1 q1_14 (by decide) rfl (by decide) rfl (by decide) (by decide +kernel) (by decide) rfl (Nat.le_of_ble_eq_true rfl) (show decode cX2_build 140 = .ok (.invokevirtual 63, 3) by decide +kernel) rfl ?_
      refine y_istore (show decode cX2_build 143 = .ok (.istore 10, 2) by decide +kernel) rfl (L1 := [(10, .inl r59), (9, .inl r57), (8, .inl (((σ13 (T34 + 15) (((x11 * 6) + b)).toNat) + c) + (σ13 (T41 + 15) (((a * 6) + x12)).toNat))), (7, .inl (((σ13 (T20 + 15) (((x11 * 6) + a)).toNat) + c) + (σ13 (T27 + 15) (((b * 6) + x12)).toNat))), (0, .inr (.inr (78 + 1))), (1, .inl a), (2, .inl b), (3, .inl c), (4, .inl x10), (5, .inl x11), (6, .inl x12)]) rfl ?_
      refine y_iload (show decode cX2_build 145 = .ok (.iload 4, 2) by decide +kernel) 8 rfl ?_
      refine y_iload (show decode cX2_build 147 = .ok (.iload 10, 2) by decide +kernel) 0 rfl ?_
      refine y_aload_n (show decode cX2_build 149 = .ok (.aload_n 0, 1) by decide +kernel) 4 rfl ?_
      refine y_getf 78 2 5 15 (by decide) rfl (by decide) (by decide) q2_188 (show decode cX2_build 150 = .ok (.getfield 15, 3) by decide +kernel) (v := .inr (.inr (80 + 1))) rfl ?_
      refine y_iload (show decode cX2_build 153 = .ok (.iload 5, 2) by decide +kernel) 9 rfl ?_
      refine y_bipush (show decode cX2_build 155 = .ok (.bipush 6, 2) by decide +kernel) rfl rfl ?_
      obtain ⟨c60, h⟩ := chkI_some h
      refine y_imul (show decode cX2_build 157 = .ok (.imul, 1) by decide +kernel) c60 ?_
      refine y_iload (show decode cX2_build 158 = .ok (.iload 6, 2) by decide +kernel) 10 rfl ?_
      obtain ⟨c61, h⟩ := chkI_some h
      refine y_iadd (show decode cX2_build 160 = .ok (.iadd, 1) by decide +kernel) c61 ?_
      obtain ⟨c62, h⟩ := chkA_some h
      refine yo_iald 80 36 (by decide) rfl c62 (ov_at rfl) (show decode cX2_build 161 = .ok (.iaload, 1) by decide +kernel) ?_
      refine bnd_j (Q := fun j64 => ∀ (y63 : Int), j64 y63 = some (ρ, τ) → Y E MX2_build (yRm 1 0 0) (yQf E (150 + 0) 0 0 (some (.inl ρ)) (ov τ)) 170 [(0, .inr (.inr (78 + 1))), (1, .inl a), (2, .inl b), (3, .inl c), (5, .inl x11), (6, .inl x12), (10, .inl r59)] [.inl y63, .inl x10] (ov σ13) 150 0 0) (fun y63 h => ?_) (fun j64 hj64 h => ?_) h
      · dsimp only at h
        refine y_ior (show decode cX2_build 170 = .ok (.ior, 1) by decide +kernel) ?_
        refine y_istore (show decode cX2_build 171 = .ok (.istore 4, 2) by decide +kernel) rfl (L1 := [(4, .inl (b32or x10 y63)), (0, .inr (.inr (78 + 1))), (1, .inl a), (2, .inl b), (3, .inl c), (5, .inl x11), (6, .inl x12), (10, .inl r59)]) rfl ?_
        refine y_aload_n (show decode cX2_build 173 = .ok (.aload_n 0, 1) by decide +kernel) 1 rfl ?_
        refine y_getf 78 2 5 15 (by decide) rfl (by decide) (by decide) q2_188 (show decode cX2_build 174 = .ok (.getfield 15, 3) by decide +kernel) (v := .inr (.inr (80 + 1))) rfl ?_
        refine y_iload (show decode cX2_build 177 = .ok (.iload 5, 2) by decide +kernel) 5 rfl ?_
        refine y_bipush (show decode cX2_build 179 = .ok (.bipush 6, 2) by decide +kernel) rfl rfl ?_
        obtain ⟨c65, h⟩ := chkI_some h
        refine y_imul (show decode cX2_build 181 = .ok (.imul, 1) by decide +kernel) c65 ?_
        refine y_iload (show decode cX2_build 182 = .ok (.iload 6, 2) by decide +kernel) 6 rfl ?_
        obtain ⟨c66, h⟩ := chkI_some h
        refine y_iadd (show decode cX2_build 184 = .ok (.iadd, 1) by decide +kernel) c66 ?_
        refine y_iload (show decode cX2_build 185 = .ok (.iload 10, 2) by decide +kernel) 7 rfl ?_
        obtain ⟨c67, h⟩ := chkA_some h
        obtain ⟨σ68, e69, h⟩ := bnd_i h
        refine yo_iast 80 36 (by decide) rfl c67 (ov_set1 e69 rfl) (show decode cX2_build 187 = .ok (.iastore, 1) by decide +kernel) ?_
        obtain ⟨c70, h⟩ := chkI_some h
        refine y_iinc (show decode cX2_build 188 = .ok (.iinc 6 1, 3) by decide +kernel) 6 rfl c70 rfl (L1 := [(6, .inl (x12 + 1)), (4, .inl (b32or x10 y63)), (0, .inr (.inr (78 + 1))), (1, .inl a), (2, .inl b), (3, .inl c), (5, .inl x11), (10, .inl r59)]) rfl ?_
        refine y_goto (tgt := 24) (show decode cX2_build 191 = .ok (.goto (-167), 3) by decide +kernel) rfl ?_
        refine y_pick [2, 3, 4, 5, 1, 6, 0] rfl ?_
        exact hk14 _ _ _ _ h
      by_cases c71 : r59 = (σ13 80 (((x11 * 6) + x12)).toNat)
      · rw [if_pos c71] at h
        refine y_icmp_eq_t (tgt := 169) (show decode cX2_build 162 = .ok (.if_icmp .eq 7, 3) by decide +kernel) rfl c71 ?_
        refine y_iconst (show decode cX2_build 169 = .ok (.iconst 0, 1) by decide +kernel) rfl ?_
        refine y_pick [4, 5, 6, 7, 9, 10, 0] rfl ?_
        exact hj64 _ h
      · rw [if_neg c71] at h
        refine y_icmp_eq_f (show decode cX2_build 162 = .ok (.if_icmp .eq 7, 3) by decide +kernel) c71 (by decide) ?_
        refine y_iconst (show decode cX2_build 165 = .ok (.iconst 1, 1) by decide +kernel) rfl ?_
        refine y_goto (tgt := 170) (show decode cX2_build 166 = .ok (.goto 4, 3) by decide +kernel) rfl ?_
        refine y_pick [4, 5, 6, 7, 9, 10, 0] rfl ?_
        exact hj64 _ h
abbrev MX0_findBuilt : yM := (yX0_findBuilt, cX0_findBuilt, 7, none)
def cAn_findBuilt (N : Nat) (a : Int) (b : Int) (σ : ySt) : Option (ySt) :=
  chkA 3 b <|
  if ¬ (σ 74 (b).toNat) = a then
    bndR (cAn_bestWorth N b σ) fun r4 σ5 =>
    chkA 3 b <|
    bnd (yset σ5 75 (b).toNat (-1000000)) fun σ7 =>
    chkA 3 b <|
    bnd (yset σ7 76 (b).toNat (-1000000)) fun σ10 =>
    loopS1 (fun k14 x12 σ13 =>
      chkT (σ13 58 0) fun T15 =>
      if x12 ≥ (σ13 (T15 + 1) 1) then
        chkA 3 b <|
        bnd (yset σ13 74 (b).toNat a) fun σ20 =>
        some σ20
      else
        chkI (x12 + 1) <|
        loopS2 (fun k26 x23 x24 σ25 =>
          chkT (σ25 58 0) fun T27 =>
          if x24 ≥ (σ25 (T27 + 1) 1) then
            chkI (x23 + 1) <|
            k14 (x23 + 1) σ25
          else
            chkT (σ25 58 0) fun T32 =>
            bndO (cDy_lay N T32 b 1 σ25) fun σ36 =>
            bndR (cDy_build N x23 x24 a σ36) fun r38 σ39 =>
            bnd (fun (y40 : Int) (σ41 : ySt) =>
              chkA 3 b <|
              bnd (fun (σ44 : ySt) =>
                chkI (x24 + 1) <|
                k26 x23 (x24 + 1) σ44) fun j45 =>
              if y40 ≤ (σ41 75 (b).toNat) then
                j45 σ41
              else
                chkA 3 b <|
                bnd (yset σ41 75 (b).toNat y40) fun σ49 =>
                chkI (100 * x23) <|
                chkI ((100 * x23) + x24) <|
                chkA 3 b <|
                bnd (yset σ49 76 (b).toNat ((100 * x23) + x24)) fun σ54 =>
                j45 σ54) fun j42 =>
            if r38 = 0 then
              j42 r4 σ39
            else
              bndR (cDs_worthOf N σ39) fun r58 σ59 =>
              j42 r58 σ59) N x12 (x12 + 1) σ13) N 0 σ10
  else
    some σ
set_option maxHeartbeats 4000000 in
set_option maxRecDepth 10000 in
theorem sh_cAn_findBuilt {E : yE} {N : Nat} {a : Int} {b : Int} {σ : ySt} {τ : ySt} (h : cAn_findBuilt N a b σ = some τ) : Con E MX0_findBuilt 6 0 0 [.inr (.inr (58 + 1)), .inl a, .inl b] 150 (ov σ) none (ov τ) := by
  unfold cAn_findBuilt at h
  refine Con.ofY (by decide +kernel) (by simp [yWords, yCat]) (fun hok _ => ?_)
  show Y E MX0_findBuilt (yRm 6 0 0) (yQf E (150 + 0) 0 0 none (ov τ)) 0 [(0, .inr (.inr (58 + 1))), (1, .inl a), (2, .inl b)] [] (ov σ) 150 0 0
  refine y_aload_n (show decode cX0_findBuilt 0 = .ok (.aload_n 0, 1) by decide +kernel) 0 rfl ?_
  refine y_getf 58 0 9 40 (by decide) rfl (by decide) (by decide) q2_228 (show decode cX0_findBuilt 1 = .ok (.getfield 40, 3) by decide +kernel) (v := .inr (.inr (74 + 1))) rfl ?_
  refine y_iload_n (show decode cX0_findBuilt 4 = .ok (.iload_n 2, 1) by decide +kernel) 2 rfl ?_
  obtain ⟨c1, h⟩ := chkA_some h
  refine yo_iald 74 3 (by decide) rfl c1 (ov_at rfl) (show decode cX0_findBuilt 5 = .ok (.iaload, 1) by decide +kernel) ?_
  refine y_iload_n (show decode cX0_findBuilt 6 = .ok (.iload_n 1, 1) by decide +kernel) 1 rfl ?_
  by_cases c2 : ¬ (σ 74 (b).toNat) = a
  · rw [if_pos c2] at h
    refine y_icmp_ne_t (tgt := 11) (show decode cX0_findBuilt 7 = .ok (.if_icmp .ne 4, 3) by decide +kernel) rfl c2 ?_
    refine y_aload_n (show decode cX0_findBuilt 11 = .ok (.aload_n 0, 1) by decide +kernel) 0 rfl ?_
    refine y_iload_n (show decode cX0_findBuilt 12 = .ok (.iload_n 2, 1) by decide +kernel) 2 rfl ?_
    obtain ⟨r4, σ5, e3, h⟩ := bndR_some h
    refine y_callV (np := 1) (st := []) (as := [.inl b]) 58 0 (sh_cAn_bestWorth e3) q5_21 q5_98 q5_19 q5_20 q1_12 (by decide) rfl (by decide) rfl (by decide) (by decide +kernel) (by decide) rfl (Nat.le_of_ble_eq_true rfl) (show decode cX0_findBuilt 13 = .ok (.invokevirtual 87, 3) by decide +kernel) rfl ?_
    refine y_istore_n (show decode cX0_findBuilt 16 = .ok (.istore_n 3, 1) by decide +kernel) rfl (L1 := [(3, .inl r4), (0, .inr (.inr (58 + 1))), (1, .inl a), (2, .inl b)]) rfl ?_
    refine y_aload_n (show decode cX0_findBuilt 17 = .ok (.aload_n 0, 1) by decide +kernel) 1 rfl ?_
    refine y_getf 58 0 10 43 (by decide) rfl (by decide) (by decide) q2_229 (show decode cX0_findBuilt 18 = .ok (.getfield 43, 3) by decide +kernel) (v := .inr (.inr (75 + 1))) rfl ?_
    refine y_iload_n (show decode cX0_findBuilt 21 = .ok (.iload_n 2, 1) by decide +kernel) 3 rfl ?_
    refine y_ldc (k := -1000000) (show decode cX0_findBuilt 22 = .ok (.ldc 82, 2) by decide +kernel) q5_77 rfl rfl ?_
    obtain ⟨c6, h⟩ := chkA_some h
    obtain ⟨σ7, e8, h⟩ := bnd_i h
    refine yo_iast 75 3 (by decide) rfl c6 (ov_set1 e8 rfl) (show decode cX0_findBuilt 24 = .ok (.iastore, 1) by decide +kernel) ?_
    refine y_aload_n (show decode cX0_findBuilt 25 = .ok (.aload_n 0, 1) by decide +kernel) 1 rfl ?_
    refine y_getf 58 0 11 46 (by decide) rfl (by decide) (by decide) q2_231 (show decode cX0_findBuilt 26 = .ok (.getfield 46, 3) by decide +kernel) (v := .inr (.inr (76 + 1))) rfl ?_
    refine y_iload_n (show decode cX0_findBuilt 29 = .ok (.iload_n 2, 1) by decide +kernel) 3 rfl ?_
    refine y_ldc (k := -1000000) (show decode cX0_findBuilt 30 = .ok (.ldc 82, 2) by decide +kernel) q5_77 rfl rfl ?_
    obtain ⟨c9, h⟩ := chkA_some h
    obtain ⟨σ10, e11, h⟩ := bnd_i h
    refine yo_iast 76 3 (by decide) rfl c9 (ov_set1 e11 rfl) (show decode cX0_findBuilt 32 = .ok (.iastore, 1) by decide +kernel) ?_
    refine y_iconst (show decode cX0_findBuilt 33 = .ok (.iconst 0, 1) by decide +kernel) rfl ?_
    refine y_istore (show decode cX0_findBuilt 34 = .ok (.istore 4, 2) by decide +kernel) rfl (L1 := [(4, .inl 0), (3, .inl r4), (0, .inr (.inr (58 + 1))), (1, .inl a), (2, .inl b)]) rfl ?_
    refine y_pick [2, 3, 4, 1, 0] rfl ?_
    refine loopS1_ind (P := fun x12 σ13 => Y E MX0_findBuilt (yRm 6 0 0) (yQf E (150 + 0) 0 0 none (ov τ)) 36 [(0, .inr (.inr (58 + 1))), (1, .inl a), (2, .inl b), (3, .inl r4), (4, .inl x12)] [] (ov σ13) 150 0 0) (fun k14 hk14 x12 σ13 h => ?_) _ _ _  h
    refine y_iload (show decode cX0_findBuilt 36 = .ok (.iload 4, 2) by decide +kernel) 4 rfl ?_
    refine y_aload_n (show decode cX0_findBuilt 38 = .ok (.aload_n 0, 1) by decide +kernel) 0 rfl ?_
    obtain ⟨T15, c16, c17, h⟩ := chkT_some h
    refine y_getf 58 0 0 52 (by decide) rfl (by decide) (by decide) q2_217 (show decode cX0_findBuilt 39 = .ok (.getfield 52, 3) by decide +kernel) (v := .inr (.inr (T15 + 1))) (by rw [← c17]; rfl) ?_
    refine y_getf T15 9 0 103 (by omega) (by rcases c16 with rfl | rfl <;> rfl) (by decide) (by decide) q1_198 (show decode cX0_findBuilt 42 = .ok (.getfield 103, 3) by decide +kernel) (v := .inr (.inr ((T15 + 1) + 1))) (by rcases c16 with rfl | rfl <;> rfl) ?_
    refine y_getf (T15 + 1) 5 1 107 (by omega) (by rcases c16 with rfl | rfl <;> rfl) (by decide) (by decide) q1_152 (show decode cX0_findBuilt 45 = .ok (.getfield 107, 3) by decide +kernel) (v := .inl (σ13 (T15 + 1) 1)) (by rcases c16 with rfl | rfl <;> rfl) ?_
    by_cases c18 : x12 ≥ (σ13 (T15 + 1) 1)
    · rw [if_pos c18] at h
      refine y_icmp_ge_t (tgt := 162) (show decode cX0_findBuilt 48 = .ok (.if_icmp .ge 114, 3) by decide +kernel) rfl c18 ?_
      refine y_aload_n (show decode cX0_findBuilt 162 = .ok (.aload_n 0, 1) by decide +kernel) 0 rfl ?_
      refine y_getf 58 0 9 40 (by decide) rfl (by decide) (by decide) q2_228 (show decode cX0_findBuilt 163 = .ok (.getfield 40, 3) by decide +kernel) (v := .inr (.inr (74 + 1))) rfl ?_
      refine y_iload_n (show decode cX0_findBuilt 166 = .ok (.iload_n 2, 1) by decide +kernel) 2 rfl ?_
      refine y_iload_n (show decode cX0_findBuilt 167 = .ok (.iload_n 1, 1) by decide +kernel) 1 rfl ?_
      obtain ⟨c19, h⟩ := chkA_some h
      obtain ⟨σ20, e21, h⟩ := bnd_i h
      refine yo_iast 74 3 (by decide) rfl c19 (ov_set1 e21 rfl) (show decode cX0_findBuilt 168 = .ok (.iastore, 1) by decide +kernel) ?_
      cases h
      exact y_vret (show decode cX0_findBuilt 169 = .ok (.return_, 1) by decide +kernel) rfl
    · rw [if_neg c18] at h
      refine y_icmp_ge_f (show decode cX0_findBuilt 48 = .ok (.if_icmp .ge 114, 3) by decide +kernel) c18 (by decide) ?_
      refine y_iload (show decode cX0_findBuilt 51 = .ok (.iload 4, 2) by decide +kernel) 4 rfl ?_
      refine y_iconst (show decode cX0_findBuilt 53 = .ok (.iconst 1, 1) by decide +kernel) rfl ?_
      obtain ⟨c22, h⟩ := chkI_some h
      refine y_iadd (show decode cX0_findBuilt 54 = .ok (.iadd, 1) by decide +kernel) c22 ?_
      refine y_istore (show decode cX0_findBuilt 55 = .ok (.istore 5, 2) by decide +kernel) rfl (L1 := [(5, .inl (x12 + 1)), (0, .inr (.inr (58 + 1))), (1, .inl a), (2, .inl b), (3, .inl r4), (4, .inl x12)]) rfl ?_
      refine y_pick [1, 2, 3, 4, 5, 0] rfl ?_
      refine loopS2_ind (P := fun x23 x24 σ25 => Y E MX0_findBuilt (yRm 6 0 0) (yQf E (150 + 0) 0 0 none (ov τ)) 57 [(0, .inr (.inr (58 + 1))), (1, .inl a), (2, .inl b), (3, .inl r4), (4, .inl x23), (5, .inl x24)] [] (ov σ25) 150 0 0) (fun k26 hk26 x23 x24 σ25 h => ?_) _ _ _ _  h
      refine y_iload (show decode cX0_findBuilt 57 = .ok (.iload 5, 2) by decide +kernel) 5 rfl ?_
      refine y_aload_n (show decode cX0_findBuilt 59 = .ok (.aload_n 0, 1) by decide +kernel) 0 rfl ?_
      obtain ⟨T27, c28, c29, h⟩ := chkT_some h
      refine y_getf 58 0 0 52 (by decide) rfl (by decide) (by decide) q2_217 (show decode cX0_findBuilt 60 = .ok (.getfield 52, 3) by decide +kernel) (v := .inr (.inr (T27 + 1))) (by rw [← c29]; rfl) ?_
      refine y_getf T27 9 0 103 (by omega) (by rcases c28 with rfl | rfl <;> rfl) (by decide) (by decide) q1_198 (show decode cX0_findBuilt 63 = .ok (.getfield 103, 3) by decide +kernel) (v := .inr (.inr ((T27 + 1) + 1))) (by rcases c28 with rfl | rfl <;> rfl) ?_
      refine y_getf (T27 + 1) 5 1 107 (by omega) (by rcases c28 with rfl | rfl <;> rfl) (by decide) (by decide) q1_152 (show decode cX0_findBuilt 66 = .ok (.getfield 107, 3) by decide +kernel) (v := .inl (σ25 (T27 + 1) 1)) (by rcases c28 with rfl | rfl <;> rfl) ?_
      by_cases c30 : x24 ≥ (σ25 (T27 + 1) 1)
      · rw [if_pos c30] at h
        refine y_icmp_ge_t (tgt := 156) (show decode cX0_findBuilt 69 = .ok (.if_icmp .ge 87, 3) by decide +kernel) rfl c30 ?_
        obtain ⟨c31, h⟩ := chkI_some h
        refine y_iinc (show decode cX0_findBuilt 156 = .ok (.iinc 4 1, 3) by decide +kernel) 4 rfl c31 rfl (L1 := [(4, .inl (x23 + 1)), (0, .inr (.inr (58 + 1))), (1, .inl a), (2, .inl b), (3, .inl r4), (5, .inl x24)]) rfl ?_
        refine y_goto (tgt := 36) (show decode cX0_findBuilt 159 = .ok (.goto (-123), 3) by decide +kernel) rfl ?_
        refine y_pick [1, 2, 3, 4, 0] rfl ?_
        exact hk14 _ _ h
      · rw [if_neg c30] at h
        refine y_icmp_ge_f (show decode cX0_findBuilt 69 = .ok (.if_icmp .ge 87, 3) by decide +kernel) c30 (by decide) ?_
        refine y_aload_n (show decode cX0_findBuilt 72 = .ok (.aload_n 0, 1) by decide +kernel) 0 rfl ?_
        refine y_getf 58 0 1 61 (by decide) rfl (by decide) (by decide) q2_218 (show decode cX0_findBuilt 73 = .ok (.getfield 61, 3) by decide +kernel) (v := .inr (.inr (78 + 1))) rfl ?_
        refine y_aload_n (show decode cX0_findBuilt 76 = .ok (.aload_n 0, 1) by decide +kernel) 0 rfl ?_
        obtain ⟨T32, c33, c34, h⟩ := chkT_some h
        refine y_getf 58 0 0 52 (by decide) rfl (by decide) (by decide) q2_217 (show decode cX0_findBuilt 77 = .ok (.getfield 52, 3) by decide +kernel) (v := .inr (.inr (T32 + 1))) (by rw [← c34]; rfl) ?_
        refine y_iload_n (show decode cX0_findBuilt 80 = .ok (.iload_n 2, 1) by decide +kernel) 2 rfl ?_
        refine y_iconst (show decode cX0_findBuilt 81 = .ok (.iconst 1, 1) by decide +kernel) rfl ?_
        obtain ⟨σ36, e35, h⟩ := bndO_some h
        refine y_callV (np := 3) (st := []) (as := [.inr (.inr (T32 + 1)), .inl b, .inl 1]) 78 2 (sh_cDy_lay e35) q4_220 q4_217 q4_218 q4_219 q1_14 (by decide) rfl (by decide) rfl (by decide) (by decide +kernel) (by decide) rfl (Nat.le_of_ble_eq_true rfl) (show decode cX0_findBuilt 82 = .ok (.invokevirtual 69, 3) by decide +kernel) rfl ?_
        refine y_aload_n (show decode cX0_findBuilt 85 = .ok (.aload_n 0, 1) by decide +kernel) 0 rfl ?_
        refine y_getf 58 0 1 61 (by decide) rfl (by decide) (by decide) q2_218 (show decode cX0_findBuilt 86 = .ok (.getfield 61, 3) by decide +kernel) (v := .inr (.inr (78 + 1))) rfl ?_
        refine y_iload (show decode cX0_findBuilt 89 = .ok (.iload 4, 2) by decide +kernel) 4 rfl ?_
        refine y_iload (show decode cX0_findBuilt 91 = .ok (.iload 5, 2) by decide +kernel) 5 rfl ?_
        refine y_iload_n (show decode cX0_findBuilt 93 = .ok (.iload_n 1, 1) by decide +kernel) 1 rfl ?_
        obtain ⟨r38, σ39, e37, h⟩ := bndR_some h
        refine y_callV (np := 3) (st := []) (as := [.inl x23, .inl x24, .inl a]) 78 2 (sh_cDy_build e37) q5_142 q5_139 q5_140 q5_141 q1_14 (by decide) rfl (by decide) rfl (by decide) (by decide +kernel) (by decide) rfl (Nat.le_of_ble_eq_true rfl) (show decode cX0_findBuilt 94 = .ok (.invokevirtual 112, 3) by decide +kernel) rfl ?_
        refine bnd_j (Q := fun j42 => ∀ (y40 : Int) (σ41 : ySt), j42 y40 σ41 = some τ → Y E MX0_findBuilt (yRm 6 0 0) (yQf E (150 + 0) 0 0 none (ov τ)) 115 [(0, .inr (.inr (58 + 1))), (1, .inl a), (2, .inl b), (3, .inl r4), (4, .inl x23), (5, .inl x24)] [.inl y40] (ov σ41) 150 0 0) (fun y40 σ41 h => ?_) (fun j42 hj42 h => ?_) h
        · dsimp only at h
          refine y_istore (show decode cX0_findBuilt 115 = .ok (.istore 6, 2) by decide +kernel) rfl (L1 := [(6, .inl y40), (0, .inr (.inr (58 + 1))), (1, .inl a), (2, .inl b), (3, .inl r4), (4, .inl x23), (5, .inl x24)]) rfl ?_
          refine y_iload (show decode cX0_findBuilt 117 = .ok (.iload 6, 2) by decide +kernel) 0 rfl ?_
          refine y_aload_n (show decode cX0_findBuilt 119 = .ok (.aload_n 0, 1) by decide +kernel) 1 rfl ?_
          refine y_getf 58 0 10 43 (by decide) rfl (by decide) (by decide) q2_229 (show decode cX0_findBuilt 120 = .ok (.getfield 43, 3) by decide +kernel) (v := .inr (.inr (75 + 1))) rfl ?_
          refine y_iload_n (show decode cX0_findBuilt 123 = .ok (.iload_n 2, 1) by decide +kernel) 3 rfl ?_
          obtain ⟨c43, h⟩ := chkA_some h
          refine yo_iald 75 3 (by decide) rfl c43 (ov_at rfl) (show decode cX0_findBuilt 124 = .ok (.iaload, 1) by decide +kernel) ?_
          refine bnd_j (Q := fun j45 => ∀ (σ44 : ySt), j45 σ44 = some τ → Y E MX0_findBuilt (yRm 6 0 0) (yQf E (150 + 0) 0 0 none (ov τ)) 150 [(0, .inr (.inr (58 + 1))), (1, .inl a), (2, .inl b), (3, .inl r4), (4, .inl x23), (5, .inl x24)] [] (ov σ44) 150 0 0) (fun σ44 h => ?_) (fun j45 hj45 h => ?_) h
          · dsimp only at h
            obtain ⟨c46, h⟩ := chkI_some h
            refine y_iinc (show decode cX0_findBuilt 150 = .ok (.iinc 5 1, 3) by decide +kernel) 5 rfl c46 rfl (L1 := [(5, .inl (x24 + 1)), (0, .inr (.inr (58 + 1))), (1, .inl a), (2, .inl b), (3, .inl r4), (4, .inl x23)]) rfl ?_
            refine y_goto (tgt := 57) (show decode cX0_findBuilt 153 = .ok (.goto (-96), 3) by decide +kernel) rfl ?_
            refine y_pick [1, 2, 3, 4, 5, 0] rfl ?_
            exact hk26 _ _ _ h
          by_cases c47 : y40 ≤ (σ41 75 (b).toNat)
          · rw [if_pos c47] at h
            refine y_icmp_le_t (tgt := 150) (show decode cX0_findBuilt 125 = .ok (.if_icmp .le 25, 3) by decide +kernel) rfl c47 ?_
            refine y_pick [1, 2, 3, 4, 5, 6] rfl ?_
            exact hj45 _ h
          · rw [if_neg c47] at h
            refine y_icmp_le_f (show decode cX0_findBuilt 125 = .ok (.if_icmp .le 25, 3) by decide +kernel) c47 (by decide) ?_
            refine y_aload_n (show decode cX0_findBuilt 128 = .ok (.aload_n 0, 1) by decide +kernel) 1 rfl ?_
            refine y_getf 58 0 10 43 (by decide) rfl (by decide) (by decide) q2_229 (show decode cX0_findBuilt 129 = .ok (.getfield 43, 3) by decide +kernel) (v := .inr (.inr (75 + 1))) rfl ?_
            refine y_iload_n (show decode cX0_findBuilt 132 = .ok (.iload_n 2, 1) by decide +kernel) 3 rfl ?_
            refine y_iload (show decode cX0_findBuilt 133 = .ok (.iload 6, 2) by decide +kernel) 0 rfl ?_
            obtain ⟨c48, h⟩ := chkA_some h
            obtain ⟨σ49, e50, h⟩ := bnd_i h
            refine yo_iast 75 3 (by decide) rfl c48 (ov_set1 e50 rfl) (show decode cX0_findBuilt 135 = .ok (.iastore, 1) by decide +kernel) ?_
            refine y_aload_n (show decode cX0_findBuilt 136 = .ok (.aload_n 0, 1) by decide +kernel) 1 rfl ?_
            refine y_getf 58 0 11 46 (by decide) rfl (by decide) (by decide) q2_231 (show decode cX0_findBuilt 137 = .ok (.getfield 46, 3) by decide +kernel) (v := .inr (.inr (76 + 1))) rfl ?_
            refine y_iload_n (show decode cX0_findBuilt 140 = .ok (.iload_n 2, 1) by decide +kernel) 3 rfl ?_
            refine y_bipush (show decode cX0_findBuilt 141 = .ok (.bipush 100, 2) by decide +kernel) rfl rfl ?_
            refine y_iload (show decode cX0_findBuilt 143 = .ok (.iload 4, 2) by decide +kernel) 5 rfl ?_
            obtain ⟨c51, h⟩ := chkI_some h
            refine y_imul (show decode cX0_findBuilt 145 = .ok (.imul, 1) by decide +kernel) c51 ?_
            refine y_iload (show decode cX0_findBuilt 146 = .ok (.iload 5, 2) by decide +kernel) 6 rfl ?_
            obtain ⟨c52, h⟩ := chkI_some h
            refine y_iadd (show decode cX0_findBuilt 148 = .ok (.iadd, 1) by decide +kernel) c52 ?_
            obtain ⟨c53, h⟩ := chkA_some h
            obtain ⟨σ54, e55, h⟩ := bnd_i h
            refine yo_iast 76 3 (by decide) rfl c53 (ov_set1 e55 rfl) (show decode cX0_findBuilt 149 = .ok (.iastore, 1) by decide +kernel) ?_
            refine y_pick [1, 2, 3, 4, 5, 6] rfl ?_
            exact hj45 _ h
        by_cases c56 : r38 = 0
        · rw [if_pos c56] at h
          refine y_if_eq_t (tgt := 114) (show decode cX0_findBuilt 97 = .ok (.ifCond .eq 17, 3) by decide +kernel) rfl c56 ?_
          refine y_iload_n (show decode cX0_findBuilt 114 = .ok (.iload_n 3, 1) by decide +kernel) 3 rfl ?_
          refine y_pick [0, 1, 2, 3, 4, 5] rfl ?_
          exact hj42 _ _ h
        · rw [if_neg c56] at h
          refine y_if_eq_f (show decode cX0_findBuilt 97 = .ok (.ifCond .eq 17, 3) by decide +kernel) c56 (by decide) ?_
          refine y_aload_n (show decode cX0_findBuilt 100 = .ok (.aload_n 0, 1) by decide +kernel) 0 rfl ?_
          refine y_getf 58 0 2 12 (by decide) rfl (by decide) (by decide) q2_219 (show decode cX0_findBuilt 101 = .ok (.getfield 12, 3) by decide +kernel) (v := .inr (.inr (59 + 1))) rfl ?_
          refine y_aload_n (show decode cX0_findBuilt 104 = .ok (.aload_n 0, 1) by decide +kernel) 0 rfl ?_
          refine y_getf 58 0 1 61 (by decide) rfl (by decide) (by decide) q2_218 (show decode cX0_findBuilt 105 = .ok (.getfield 61, 3) by decide +kernel) (v := .inr (.inr (78 + 1))) rfl ?_
          obtain ⟨r58, σ59, e57, h⟩ := bndR_some h
          refine y_callV (np := 1) (st := []) (as := [.inr (.inr (78 + 1))]) 59 3 (sh_cDs_worthOf e57) q5_25 q5_22 q5_23 q5_24 q1_13 (by decide) rfl (by decide) rfl (by decide) (by decide +kernel) (by decide) rfl (Nat.le_of_ble_eq_true rfl) (show decode cX0_findBuilt 108 = .ok (.invokevirtual 79, 3) by decide +kernel) rfl ?_
          refine y_goto (tgt := 115) (show decode cX0_findBuilt 111 = .ok (.goto 4, 3) by decide +kernel) rfl ?_
          refine y_pick [0, 1, 2, 3, 4, 5] rfl ?_
          exact hj42 _ _ h
  · rw [if_neg c2] at h
    refine y_icmp_ne_f (show decode cX0_findBuilt 7 = .ok (.if_icmp .ne 4, 3) by decide +kernel) c2 (by decide) ?_
    cases h
    exact y_vret (show decode cX0_findBuilt 10 = .ok (.return_, 1) by decide +kernel) rfl
abbrev MX1_narrow : yM := (yX1_narrow, cX1_narrow, 6, none)
def cCt_narrow (N : Nat) (a : Int) (b : Nat) (σ : ySt) : Option (ySt) :=
  chk ((yKd b).1 = 20 ∧ b < 150) <|
  loopS1 (fun k4 x2 σ3 =>
    if x2 ≥ (σ3 3 5) then
      some σ3
    else
      loopS2 (fun k9 x6 x7 σ8 =>
        bnd (chkI (x6 + 1) <|
          k4 (x6 + 1) σ8) fun j10 =>
        if x7 ≥ 6 then
          j10
        else
          if ¬ (blcmp (b64and (b64shr a x6) 1) 1) = 0 then
            j10
          else
            chkA 40 x6 <|
            bnd (fun (σ15 : ySt) =>
              chkI (x7 + 1) <|
              k9 x6 (x7 + 1) σ15) fun j16 =>
            if x7 = (σ8 6 (x6).toNat) then
              j16 σ8
            else
              chkA 40 x6 <|
              chkI ((σ8 5 (x6).toNat) * 6) <|
              chkI (((σ8 5 (x6).toNat) * 6) + x7) <|
              chkA (yKd b).2 (((σ8 5 (x6).toNat) * 6) + x7) <|
              chkA 40 x6 <|
              chkA (yKd b).2 (((σ8 5 (x6).toNat) * 6) + x7) <|
              bnd (yset σ8 b ((((σ8 5 (x6).toNat) * 6) + x7)).toNat (b32and (σ8 b ((((σ8 5 (x6).toNat) * 6) + x7)).toNat) (b32xor (b32shl 1 (σ8 4 (x6).toNat)) (-1)))) fun σ25 =>
              j16 σ25) N x2 0 σ3) N 0 σ
set_option maxHeartbeats 4000000 in
set_option maxRecDepth 10000 in
theorem sh_cCt_narrow {E : yE} {N : Nat} {a : Int} {b : Nat} {σ : ySt} {τ : ySt} (h : cCt_narrow N a b σ = some τ) : Con E MX1_narrow 0 0 0 [.inr (.inr (3 + 1)), .inr (.inl a), .inr (.inr (b + 1))] 150 (ov σ) none (ov τ) := by
  unfold cCt_narrow at h
  refine Con.ofY (by decide +kernel) (by simp [yWords, yCat]) (fun hok _ => ?_)
  show Y E MX1_narrow (yRm 0 0 0) (yQf E (150 + 0) 0 0 none (ov τ)) 0 [(0, .inr (.inr (3 + 1))), (1, .inr (.inl a)), (3, .inr (.inr (b + 1)))] [] (ov σ) 150 0 0
  obtain ⟨c1, h⟩ := chk_some h
  refine y_iconst (show decode cX1_narrow 0 = .ok (.iconst 0, 1) by decide +kernel) rfl ?_
  refine y_istore (show decode cX1_narrow 1 = .ok (.istore 4, 2) by decide +kernel) rfl (L1 := [(4, .inl 0), (0, .inr (.inr (3 + 1))), (1, .inr (.inl a)), (3, .inr (.inr (b + 1)))]) rfl ?_
  refine y_pick [1, 2, 3, 0] rfl ?_
  refine loopS1_ind (P := fun x2 σ3 => Y E MX1_narrow (yRm 0 0 0) (yQf E (150 + 0) 0 0 none (ov τ)) 3 [(0, .inr (.inr (3 + 1))), (1, .inr (.inl a)), (3, .inr (.inr (b + 1))), (4, .inl x2)] [] (ov σ3) 150 0 0) (fun k4 hk4 x2 σ3 h => ?_) _ _ _  h
  refine y_iload (show decode cX1_narrow 3 = .ok (.iload 4, 2) by decide +kernel) 3 rfl ?_
  refine y_aload_n (show decode cX1_narrow 5 = .ok (.aload_n 0, 1) by decide +kernel) 0 rfl ?_
  refine y_getf 3 1 5 27 (by decide) rfl (by decide) (by decide) q1_85 (show decode cX1_narrow 6 = .ok (.getfield 27, 3) by decide +kernel) (v := .inl (σ3 3 5)) rfl ?_
  by_cases c5 : x2 ≥ (σ3 3 5)
  · rw [if_pos c5] at h
    refine y_icmp_ge_t (tgt := 86) (show decode cX1_narrow 9 = .ok (.if_icmp .ge 77, 3) by decide +kernel) rfl c5 ?_
    cases h
    exact y_vret (show decode cX1_narrow 86 = .ok (.return_, 1) by decide +kernel) rfl
  · rw [if_neg c5] at h
    refine y_icmp_ge_f (show decode cX1_narrow 9 = .ok (.if_icmp .ge 77, 3) by decide +kernel) c5 (by decide) ?_
    refine y_iconst (show decode cX1_narrow 12 = .ok (.iconst 0, 1) by decide +kernel) rfl ?_
    refine y_istore (show decode cX1_narrow 13 = .ok (.istore 5, 2) by decide +kernel) rfl (L1 := [(5, .inl 0), (0, .inr (.inr (3 + 1))), (1, .inr (.inl a)), (3, .inr (.inr (b + 1))), (4, .inl x2)]) rfl ?_
    refine y_pick [1, 2, 3, 4, 0] rfl ?_
    refine loopS2_ind (P := fun x6 x7 σ8 => Y E MX1_narrow (yRm 0 0 0) (yQf E (150 + 0) 0 0 none (ov τ)) 15 [(0, .inr (.inr (3 + 1))), (1, .inr (.inl a)), (3, .inr (.inr (b + 1))), (4, .inl x6), (5, .inl x7)] [] (ov σ8) 150 0 0) (fun k9 hk9 x6 x7 σ8 h => ?_) _ _ _ _  h
    refine y_iload (show decode cX1_narrow 15 = .ok (.iload 5, 2) by decide +kernel) 4 rfl ?_
    refine y_bipush (show decode cX1_narrow 17 = .ok (.bipush 6, 2) by decide +kernel) rfl rfl ?_
    refine bnd_j (Q := fun j10 => j10 = some τ → Y E MX1_narrow (yRm 0 0 0) (yQf E (150 + 0) 0 0 none (ov τ)) 80 [(0, .inr (.inr (3 + 1))), (1, .inr (.inl a)), (3, .inr (.inr (b + 1))), (4, .inl x6)] [] (ov σ8) 150 0 0) (fun h => ?_) (fun j10 hj10 h => ?_) h
    · obtain ⟨c11, h⟩ := chkI_some h
      refine y_iinc (show decode cX1_narrow 80 = .ok (.iinc 4 1, 3) by decide +kernel) 3 rfl c11 rfl (L1 := [(4, .inl (x6 + 1)), (0, .inr (.inr (3 + 1))), (1, .inr (.inl a)), (3, .inr (.inr (b + 1)))]) rfl ?_
      refine y_goto (tgt := 3) (show decode cX1_narrow 83 = .ok (.goto (-80), 3) by decide +kernel) rfl ?_
      refine y_pick [1, 2, 3, 0] rfl ?_
      exact hk4 _ _ h
    by_cases c12 : x7 ≥ 6
    · rw [if_pos c12] at h
      refine y_icmp_ge_t (tgt := 80) (show decode cX1_narrow 19 = .ok (.if_icmp .ge 61, 3) by decide +kernel) rfl c12 ?_
      refine y_pick [0, 1, 2, 3] rfl ?_
      exact hj10 h
    · rw [if_neg c12] at h
      refine y_icmp_ge_f (show decode cX1_narrow 19 = .ok (.if_icmp .ge 61, 3) by decide +kernel) c12 (by decide) ?_
      refine y_lload_n (show decode cX1_narrow 22 = .ok (.lload_n 1, 1) by decide +kernel) 1 rfl ?_
      refine y_iload (show decode cX1_narrow 23 = .ok (.iload 4, 2) by decide +kernel) 3 rfl ?_
      refine y_lshr (show decode cX1_narrow 25 = .ok (.lshr, 1) by decide +kernel) ?_
      refine y_lconst (z := 1) (show decode cX1_narrow 26 = .ok (.lconst 1, 1) by decide +kernel) rfl rfl ?_
      refine y_land (show decode cX1_narrow 27 = .ok (.land, 1) by decide +kernel) ?_
      refine y_lconst (z := 1) (show decode cX1_narrow 28 = .ok (.lconst 1, 1) by decide +kernel) rfl rfl ?_
      refine y_lcmp (show decode cX1_narrow 29 = .ok (.lcmp, 1) by decide +kernel) ?_
      by_cases c13 : ¬ (blcmp (b64and (b64shr a x6) 1) 1) = 0
      · rw [if_pos c13] at h
        refine y_if_ne_t (tgt := 80) (show decode cX1_narrow 30 = .ok (.ifCond .ne 50, 3) by decide +kernel) rfl c13 ?_
        refine y_pick [0, 1, 2, 3] rfl ?_
        exact hj10 h
      · rw [if_neg c13] at h
        refine y_if_ne_f (show decode cX1_narrow 30 = .ok (.ifCond .ne 50, 3) by decide +kernel) c13 (by decide) ?_
        refine y_iload (show decode cX1_narrow 33 = .ok (.iload 5, 2) by decide +kernel) 4 rfl ?_
        refine y_aload_n (show decode cX1_narrow 35 = .ok (.aload_n 0, 1) by decide +kernel) 0 rfl ?_
        refine y_getf 3 1 2 18 (by decide) rfl (by decide) (by decide) q1_82 (show decode cX1_narrow 36 = .ok (.getfield 18, 3) by decide +kernel) (v := .inr (.inr (6 + 1))) rfl ?_
        refine y_iload (show decode cX1_narrow 39 = .ok (.iload 4, 2) by decide +kernel) 3 rfl ?_
        obtain ⟨c14, h⟩ := chkA_some h
        refine yo_iald 6 40 (by decide) rfl c14 (ov_at rfl) (show decode cX1_narrow 41 = .ok (.iaload, 1) by decide +kernel) ?_
        refine bnd_j (Q := fun j16 => ∀ (σ15 : ySt), j16 σ15 = some τ → Y E MX1_narrow (yRm 0 0 0) (yQf E (150 + 0) 0 0 none (ov τ)) 74 [(0, .inr (.inr (3 + 1))), (1, .inr (.inl a)), (3, .inr (.inr (b + 1))), (4, .inl x6), (5, .inl x7)] [] (ov σ15) 150 0 0) (fun σ15 h => ?_) (fun j16 hj16 h => ?_) h
        · dsimp only at h
          obtain ⟨c17, h⟩ := chkI_some h
          refine y_iinc (show decode cX1_narrow 74 = .ok (.iinc 5 1, 3) by decide +kernel) 4 rfl c17 rfl (L1 := [(5, .inl (x7 + 1)), (0, .inr (.inr (3 + 1))), (1, .inr (.inl a)), (3, .inr (.inr (b + 1))), (4, .inl x6)]) rfl ?_
          refine y_goto (tgt := 15) (show decode cX1_narrow 77 = .ok (.goto (-62), 3) by decide +kernel) rfl ?_
          refine y_pick [1, 2, 3, 4, 0] rfl ?_
          exact hk9 _ _ _ h
        by_cases c18 : x7 = (σ8 6 (x6).toNat)
        · rw [if_pos c18] at h
          refine y_icmp_eq_t (tgt := 74) (show decode cX1_narrow 42 = .ok (.if_icmp .eq 32, 3) by decide +kernel) rfl c18 ?_
          refine y_pick [0, 1, 2, 3, 4] rfl ?_
          exact hj16 _ h
        · rw [if_neg c18] at h
          refine y_icmp_eq_f (show decode cX1_narrow 42 = .ok (.if_icmp .eq 32, 3) by decide +kernel) c18 (by decide) ?_
          refine y_aload_n (show decode cX1_narrow 45 = .ok (.aload_n 3, 1) by decide +kernel) 2 rfl ?_
          refine y_aload_n (show decode cX1_narrow 46 = .ok (.aload_n 0, 1) by decide +kernel) 0 rfl ?_
          refine y_getf 3 1 1 15 (by decide) rfl (by decide) (by decide) q1_81 (show decode cX1_narrow 47 = .ok (.getfield 15, 3) by decide +kernel) (v := .inr (.inr (5 + 1))) rfl ?_
          refine y_iload (show decode cX1_narrow 50 = .ok (.iload 4, 2) by decide +kernel) 3 rfl ?_
          obtain ⟨c19, h⟩ := chkA_some h
          refine yo_iald 5 40 (by decide) rfl c19 (ov_at rfl) (show decode cX1_narrow 52 = .ok (.iaload, 1) by decide +kernel) ?_
          refine y_bipush (show decode cX1_narrow 53 = .ok (.bipush 6, 2) by decide +kernel) rfl rfl ?_
          obtain ⟨c20, h⟩ := chkI_some h
          refine y_imul (show decode cX1_narrow 55 = .ok (.imul, 1) by decide +kernel) c20 ?_
          refine y_iload (show decode cX1_narrow 56 = .ok (.iload 5, 2) by decide +kernel) 4 rfl ?_
          obtain ⟨c21, h⟩ := chkI_some h
          refine y_iadd (show decode cX1_narrow 58 = .ok (.iadd, 1) by decide +kernel) c21 ?_
          refine y_dup2 (show decode cX1_narrow 59 = .ok (.dup2, 1) by decide +kernel) rfl rfl ?_
          obtain ⟨c22, h⟩ := chkA_some h
          refine yo_iald b (yKd b).2 c1.2 (yArr_kd c1) c22 (ov_at (yArr_cr (by rw [c1.1]; decide) c1.2 _)) (show decode cX1_narrow 60 = .ok (.iaload, 1) by decide +kernel) ?_
          refine y_iconst (show decode cX1_narrow 61 = .ok (.iconst 1, 1) by decide +kernel) rfl ?_
          refine y_aload_n (show decode cX1_narrow 62 = .ok (.aload_n 0, 1) by decide +kernel) 0 rfl ?_
          refine y_getf 3 1 0 9 (by decide) rfl (by decide) (by decide) q1_80 (show decode cX1_narrow 63 = .ok (.getfield 9, 3) by decide +kernel) (v := .inr (.inr (4 + 1))) rfl ?_
          refine y_iload (show decode cX1_narrow 66 = .ok (.iload 4, 2) by decide +kernel) 3 rfl ?_
          obtain ⟨c23, h⟩ := chkA_some h
          refine yo_iald 4 40 (by decide) rfl c23 (ov_at rfl) (show decode cX1_narrow 68 = .ok (.iaload, 1) by decide +kernel) ?_
          refine y_ishl (show decode cX1_narrow 69 = .ok (.ishl, 1) by decide +kernel) ?_
          refine y_iconst (show decode cX1_narrow 70 = .ok (.iconst (-1), 1) by decide +kernel) rfl ?_
          refine y_ixor (show decode cX1_narrow 71 = .ok (.ixor, 1) by decide +kernel) ?_
          refine y_iand (show decode cX1_narrow 72 = .ok (.iand, 1) by decide +kernel) ?_
          obtain ⟨c24, h⟩ := chkA_some h
          obtain ⟨σ25, e26, h⟩ := bnd_i h
          refine yo_iast b (yKd b).2 c1.2 (yArr_kd c1) c24 (ov_set1 e26 (yArr_cr (by rw [c1.1]; decide) c1.2 _)) (show decode cX1_narrow 73 = .ok (.iastore, 1) by decide +kernel) ?_
          refine y_pick [0, 1, 2, 3, 4] rfl ?_
          exact hj16 _ h
abbrev MX3_homeState : yM := (yX3_homeState, cX3_homeState, 3, some .int)
def cDs_homeState (N : Nat) (σ : ySt) : Option (Int) :=
  loop2 (fun k3 x1 x2 =>
    chkT (σ 78 0) fun T4 =>
    if x2 ≥ (σ (T4 + 3) 1) then
      some x1
    else
      chkA 5 x2 <|
      chkT (σ 78 0) fun T9 =>
      chkA 5 x2 <|
      chkI ((σ 79 (x2).toNat) * (σ (T9 + 8) (x2).toNat)) <|
      chkI (x1 + ((σ 79 (x2).toNat) * (σ (T9 + 8) (x2).toNat))) <|
      chkI (x2 + 1) <|
      k3 (x1 + ((σ 79 (x2).toNat) * (σ (T9 + 8) (x2).toNat))) (x2 + 1)) N 0 0
set_option maxHeartbeats 4000000 in
set_option maxRecDepth 10000 in
theorem sh_cDs_homeState {E : yE} {N : Nat} {σ : ySt} {ρ : Int} (h : cDs_homeState N σ = some ρ) : Con E MX3_homeState 0 0 0 [.inr (.inr (78 + 1))] 150 (ov σ) (some (.inl ρ)) (ov σ) := by
  unfold cDs_homeState at h
  refine Con.ofY (by decide +kernel) (by simp [yWords, yCat]) (fun hok _ => ?_)
  show Y E MX3_homeState (yRm 0 0 0) (yQf E (150 + 0) 0 0 (some (.inl ρ)) (ov σ)) 0 [(0, .inr (.inr (78 + 1)))] [] (ov σ) 150 0 0
  refine y_iconst (show decode cX3_homeState 0 = .ok (.iconst 0, 1) by decide +kernel) rfl ?_
  refine y_istore_n (show decode cX3_homeState 1 = .ok (.istore_n 1, 1) by decide +kernel) rfl (L1 := [(1, .inl 0), (0, .inr (.inr (78 + 1)))]) rfl ?_
  refine y_iconst (show decode cX3_homeState 2 = .ok (.iconst 0, 1) by decide +kernel) rfl ?_
  refine y_istore_n (show decode cX3_homeState 3 = .ok (.istore_n 2, 1) by decide +kernel) rfl (L1 := [(2, .inl 0), (1, .inl 0), (0, .inr (.inr (78 + 1)))]) rfl ?_
  refine y_pick [2, 1, 0] rfl ?_
  refine loop2_ind (P := fun x1 x2 => Y E MX3_homeState (yRm 0 0 0) (yQf E (150 + 0) 0 0 (some (.inl ρ)) (ov σ)) 4 [(0, .inr (.inr (78 + 1))), (1, .inl x1), (2, .inl x2)] [] (ov σ) 150 0 0) (fun k3 hk3 x1 x2 h => ?_) _ _ _  h
  refine y_iload_n (show decode cX3_homeState 4 = .ok (.iload_n 2, 1) by decide +kernel) 2 rfl ?_
  refine y_aload_n (show decode cX3_homeState 5 = .ok (.aload_n 0, 1) by decide +kernel) 0 rfl ?_
  obtain ⟨T4, c5, c6, h⟩ := chkT_some h
  refine y_getf 78 2 0 42 (by decide) rfl (by decide) (by decide) q2_175 (show decode cX3_homeState 6 = .ok (.getfield 42, 3) by decide +kernel) (v := .inr (.inr (T4 + 1))) (by rw [← c6]; rfl) ?_
  refine y_getf T4 9 1 65 (by omega) (by rcases c5 with rfl | rfl <;> rfl) (by decide) (by decide) q1_202 (show decode cX3_homeState 9 = .ok (.getfield 65, 3) by decide +kernel) (v := .inr (.inr ((T4 + 3) + 1))) (by rcases c5 with rfl | rfl <;> rfl) ?_
  refine y_getf (T4 + 3) 5 1 71 (by omega) (by rcases c5 with rfl | rfl <;> rfl) (by decide) (by decide) q1_148 (show decode cX3_homeState 12 = .ok (.getfield 71, 3) by decide +kernel) (v := .inl (σ (T4 + 3) 1)) (by rcases c5 with rfl | rfl <;> rfl) ?_
  by_cases c7 : x2 ≥ (σ (T4 + 3) 1)
  · rw [if_pos c7] at h
    refine y_icmp_ge_t (tgt := 43) (show decode cX3_homeState 15 = .ok (.if_icmp .ge 28, 3) by decide +kernel) rfl c7 ?_
    refine y_iload_n (show decode cX3_homeState 43 = .ok (.iload_n 1, 1) by decide +kernel) 1 rfl ?_
    cases h
    exact y_iret (show decode cX3_homeState 44 = .ok (.ireturn, 1) by decide +kernel) rfl
  · rw [if_neg c7] at h
    refine y_icmp_ge_f (show decode cX3_homeState 15 = .ok (.if_icmp .ge 28, 3) by decide +kernel) c7 (by decide) ?_
    refine y_iload_n (show decode cX3_homeState 18 = .ok (.iload_n 1, 1) by decide +kernel) 1 rfl ?_
    refine y_aload_n (show decode cX3_homeState 19 = .ok (.aload_n 0, 1) by decide +kernel) 0 rfl ?_
    refine y_getf 78 2 4 112 (by decide) rfl (by decide) (by decide) q2_187 (show decode cX3_homeState 20 = .ok (.getfield 112, 3) by decide +kernel) (v := .inr (.inr (79 + 1))) rfl ?_
    refine y_iload_n (show decode cX3_homeState 23 = .ok (.iload_n 2, 1) by decide +kernel) 2 rfl ?_
    obtain ⟨c8, h⟩ := chkA_some h
    refine yo_iald 79 5 (by decide) rfl c8 (ov_at rfl) (show decode cX3_homeState 24 = .ok (.iaload, 1) by decide +kernel) ?_
    refine y_aload_n (show decode cX3_homeState 25 = .ok (.aload_n 0, 1) by decide +kernel) 0 rfl ?_
    obtain ⟨T9, c10, c11, h⟩ := chkT_some h
    refine y_getf 78 2 0 42 (by decide) rfl (by decide) (by decide) q2_175 (show decode cX3_homeState 26 = .ok (.getfield 42, 3) by decide +kernel) (v := .inr (.inr (T9 + 1))) (by rw [← c11]; rfl) ?_
    refine y_getf T9 9 4 76 (by omega) (by rcases c10 with rfl | rfl <;> rfl) (by decide) (by decide) q1_214 (show decode cX3_homeState 29 = .ok (.getfield 76, 3) by decide +kernel) (v := .inr (.inr ((T9 + 8) + 1))) (by rcases c10 with rfl | rfl <;> rfl) ?_
    refine y_iload_n (show decode cX3_homeState 32 = .ok (.iload_n 2, 1) by decide +kernel) 2 rfl ?_
    obtain ⟨c12, h⟩ := chkA_some h
    refine yo_iald (T9 + 8) 5 (by omega) (by rcases c10 with rfl | rfl <;> rfl) c12 (ov_at (by rcases c10 with rfl | rfl <;> rfl)) (show decode cX3_homeState 33 = .ok (.iaload, 1) by decide +kernel) ?_
    obtain ⟨c13, h⟩ := chkI_some h
    refine y_imul (show decode cX3_homeState 34 = .ok (.imul, 1) by decide +kernel) c13 ?_
    obtain ⟨c14, h⟩ := chkI_some h
    refine y_iadd (show decode cX3_homeState 35 = .ok (.iadd, 1) by decide +kernel) c14 ?_
    refine y_istore_n (show decode cX3_homeState 36 = .ok (.istore_n 1, 1) by decide +kernel) rfl (L1 := [(1, .inl (x1 + ((σ 79 (x2).toNat) * (σ (T9 + 8) (x2).toNat)))), (0, .inr (.inr (78 + 1))), (2, .inl x2)]) rfl ?_
    obtain ⟨c15, h⟩ := chkI_some h
    refine y_iinc (show decode cX3_homeState 37 = .ok (.iinc 2 1, 3) by decide +kernel) 2 rfl c15 rfl (L1 := [(2, .inl (x2 + 1)), (1, .inl (x1 + ((σ 79 (x2).toNat) * (σ (T9 + 8) (x2).toNat)))), (0, .inr (.inr (78 + 1)))]) rfl ?_
    refine y_goto (tgt := 4) (show decode cX3_homeState 40 = .ok (.goto (-36), 3) by decide +kernel) rfl ?_
    refine y_pick [2, 1, 0] rfl ?_
    exact hk3 _ _ h
abbrev MX3_goAll : yM := (yX3_goAll, cX3_goAll, 3, none)
def cDs_goAll (N : Nat) (σ : ySt) : Option (ySt) :=
  loopS1 (fun k3 x1 σ2 =>
    chkT (σ2 78 0) fun T4 =>
    if x1 ≥ (σ2 (T4 + 3) 1) then
      some σ2
    else
      bndO (cDs_goBack N x1 σ2) fun σ9 =>
      chkI (x1 + 1) <|
      k3 (x1 + 1) σ9) N 0 σ
set_option maxHeartbeats 4000000 in
set_option maxRecDepth 10000 in
theorem sh_cDs_goAll {E : yE} {N : Nat} {σ : ySt} {τ : ySt} (h : cDs_goAll N σ = some τ) : Con E MX3_goAll 3 0 0 [.inr (.inr (59 + 1)), .inr (.inr (78 + 1))] 150 (ov σ) none (ov τ) := by
  unfold cDs_goAll at h
  refine Con.ofY (by decide +kernel) (by simp [yWords, yCat]) (fun hok _ => ?_)
  show Y E MX3_goAll (yRm 3 0 0) (yQf E (150 + 0) 0 0 none (ov τ)) 0 [(0, .inr (.inr (59 + 1))), (1, .inr (.inr (78 + 1)))] [] (ov σ) 150 0 0
  refine y_iconst (show decode cX3_goAll 0 = .ok (.iconst 0, 1) by decide +kernel) rfl ?_
  refine y_istore_n (show decode cX3_goAll 1 = .ok (.istore_n 2, 1) by decide +kernel) rfl (L1 := [(2, .inl 0), (0, .inr (.inr (59 + 1))), (1, .inr (.inr (78 + 1)))]) rfl ?_
  refine y_pick [1, 2, 0] rfl ?_
  refine loopS1_ind (P := fun x1 σ2 => Y E MX3_goAll (yRm 3 0 0) (yQf E (150 + 0) 0 0 none (ov τ)) 2 [(0, .inr (.inr (59 + 1))), (1, .inr (.inr (78 + 1))), (2, .inl x1)] [] (ov σ2) 150 0 0) (fun k3 hk3 x1 σ2 h => ?_) _ _ _  h
  refine y_iload_n (show decode cX3_goAll 2 = .ok (.iload_n 2, 1) by decide +kernel) 2 rfl ?_
  refine y_aload_n (show decode cX3_goAll 3 = .ok (.aload_n 1, 1) by decide +kernel) 1 rfl ?_
  obtain ⟨T4, c5, c6, h⟩ := chkT_some h
  refine y_getf 78 2 0 42 (by decide) rfl (by decide) (by decide) q2_175 (show decode cX3_goAll 4 = .ok (.getfield 42, 3) by decide +kernel) (v := .inr (.inr (T4 + 1))) (by rw [← c6]; rfl) ?_
  refine y_getf T4 9 1 65 (by omega) (by rcases c5 with rfl | rfl <;> rfl) (by decide) (by decide) q1_202 (show decode cX3_goAll 7 = .ok (.getfield 65, 3) by decide +kernel) (v := .inr (.inr ((T4 + 3) + 1))) (by rcases c5 with rfl | rfl <;> rfl) ?_
  refine y_getf (T4 + 3) 5 1 71 (by omega) (by rcases c5 with rfl | rfl <;> rfl) (by decide) (by decide) q1_148 (show decode cX3_goAll 10 = .ok (.getfield 71, 3) by decide +kernel) (v := .inl (σ2 (T4 + 3) 1)) (by rcases c5 with rfl | rfl <;> rfl) ?_
  by_cases c7 : x1 ≥ (σ2 (T4 + 3) 1)
  · rw [if_pos c7] at h
    refine y_icmp_ge_t (tgt := 28) (show decode cX3_goAll 13 = .ok (.if_icmp .ge 15, 3) by decide +kernel) rfl c7 ?_
    cases h
    exact y_vret (show decode cX3_goAll 28 = .ok (.return_, 1) by decide +kernel) rfl
  · rw [if_neg c7] at h
    refine y_icmp_ge_f (show decode cX3_goAll 13 = .ok (.if_icmp .ge 15, 3) by decide +kernel) c7 (by decide) ?_
    refine y_aload_n (show decode cX3_goAll 16 = .ok (.aload_n 0, 1) by decide +kernel) 0 rfl ?_
    refine y_aload_n (show decode cX3_goAll 17 = .ok (.aload_n 1, 1) by decide +kernel) 1 rfl ?_
    refine y_iload_n (show decode cX3_goAll 18 = .ok (.iload_n 2, 1) by decide +kernel) 2 rfl ?_
    obtain ⟨σ9, e8, h⟩ := bndO_some h
    refine y_callV (np := 2) (st := []) (as := [.inr (.inr (78 + 1)), .inl x1]) 59 3 (sh_cDs_goBack e8) q5_61 q5_58 q5_60 qs3_8 q1_13 (by decide) rfl (by decide) rfl (by decide) (by decide +kernel) (by decide) rfl (Nat.le_of_ble_eq_true rfl) (show decode cX3_goAll 19 = .ok (.invokevirtual 105, 3) by decide +kernel) rfl ?_
    obtain ⟨c10, h⟩ := chkI_some h
    refine y_iinc (show decode cX3_goAll 22 = .ok (.iinc 2 1, 3) by decide +kernel) 2 rfl c10 rfl (L1 := [(2, .inl (x1 + 1)), (0, .inr (.inr (59 + 1))), (1, .inr (.inr (78 + 1)))]) rfl ?_
    refine y_goto (tgt := 2) (show decode cX3_goAll 25 = .ok (.goto (-23), 3) by decide +kernel) rfl ?_
    refine y_pick [1, 2, 0] rfl ?_
    exact hk3 _ _ h
abbrev MX3_layAlive : yM := (yX3_layAlive, cX3_layAlive, 5, none)
def cDs_layAlive (N : Nat) (b : Nat) (σ : ySt) : Option (ySt) :=
  chk ((yKd b).1 = 20 ∧ b < 150) <|
  bndO (cDs_layLawful N σ) fun σ3 =>
  chkC 36 36 0 0 36 <|
  bnd (ycpy σ3 80 ((0 : Int).toNat) 62 ((0 : Int).toNat) ((36 : Int).toNat)) fun σ5 =>
  bndO (jA_fill_fda19 N b 0 (σ5 78 3) 0 σ5) fun σ8 =>
  bndO (jA_fill_fda19 N 60 0 (σ8 78 3) (-1000000) σ8) fun σ10 =>
  bndO (cDs_homeState N σ10) fun r12 =>
  chkA 7776 r12 <|
  bnd (yset σ10 60 (r12).toNat 0) fun σ14 =>
  loopS1 (fun k18 x16 σ17 =>
    if x16 > (σ17 78 1) then
      chkI ((σ17 78 1) - 1) <|
      loopS1 (fun k23 x21 σ22 =>
        if x21 < 1 then
          some σ22
        else
          bndO (cDs_goAll N σ22) fun σ26 =>
          loopS2 (fun k30 x27 x28 σ29 =>
            if x28 ≥ (σ29 78 3) then
              chkI (x27 + (-1)) <|
              k23 (x27 + (-1)) σ29
            else
              chkA 7776 x28 <|
              bnd (fun (σ34 : ySt) =>
                chkI (x28 + 1) <|
                k30 x27 (x28 + 1) σ34) fun j35 =>
              bnd (chkA (yKd b).2 x28 <|
                chkA (yKd b).2 x28 <|
                bnd (yset σ29 b (x28).toNat (b32and (σ29 b (x28).toNat) (b32xor (b32shl 1 x27) (-1)))) fun σ40 =>
                chkA 7776 x28 <|
                bnd (yset σ40 60 (x28).toNat (-1000000)) fun σ43 =>
                j35 σ43) fun j37 =>
              if (σ29 60 (x28).toNat) < (-500000) then
                j37
              else
                chkA (yKd b).2 x28 <|
                if ¬ (b32and (b32shr (σ29 b (x28).toNat) x27) 1) = 0 then
                  j35 σ29
                else
                  j37) N x21 0 σ26) N ((σ17 78 1) - 1) σ17
    else
      bndO (cDs_goAll N σ17) fun σ49 =>
      loopS2 (fun k53 x50 x51 σ52 =>
        if x51 ≥ (σ52 78 3) then
          chkI (x50 + 1) <|
          k18 (x50 + 1) σ52
        else
          chkA 7776 x51 <|
          bnd (fun (σ57 : ySt) =>
            chkI (x51 + 1) <|
            k53 x50 (x51 + 1) σ57) fun j58 =>
          bnd (chkA 7776 x51 <|
            bnd (yset σ52 60 (x51).toNat (-1000000)) fun σ62 =>
            j58 σ62) fun j60 =>
          if (σ52 60 (x51).toNat) ≤ (-500000) then
            j60
          else
            chkA 7776 x51 <|
            if ¬ (b32and (b32shr (σ52 61 (x51).toNat) x50) 1) = 1 then
              j60
            else
              chkA (yKd b).2 x51 <|
              chkA (yKd b).2 x51 <|
              bnd (yset σ52 b (x51).toNat (b32or (σ52 b (x51).toNat) (b32shl 1 x50))) fun σ69 =>
              j58 σ69) N x16 0 σ49) N 1 σ14
set_option maxHeartbeats 4000000 in
set_option maxRecDepth 10000 in
theorem sh_cDs_layAlive {E : yE} {N : Nat} {b : Nat} {σ : ySt} {τ : ySt} (h : cDs_layAlive N b σ = some τ) : Con E MX3_layAlive 4 0 0 [.inr (.inr (59 + 1)), .inr (.inr (78 + 1)), .inr (.inr (b + 1))] 150 (ov σ) none (ov τ) := by
  unfold cDs_layAlive at h
  refine Con.ofY (by decide +kernel) (by simp [yWords, yCat]) (fun hok _ => ?_)
  show Y E MX3_layAlive (yRm 4 0 0) (yQf E (150 + 0) 0 0 none (ov τ)) 0 [(0, .inr (.inr (59 + 1))), (1, .inr (.inr (78 + 1))), (2, .inr (.inr (b + 1)))] [] (ov σ) 150 0 0
  obtain ⟨c1, h⟩ := chk_some h
  refine y_aload_n (show decode cX3_layAlive 0 = .ok (.aload_n 0, 1) by decide +kernel) 0 rfl ?_
  refine y_aload_n (show decode cX3_layAlive 1 = .ok (.aload_n 1, 1) by decide +kernel) 1 rfl ?_
  obtain ⟨σ3, e2, h⟩ := bndO_some h
  refine y_callV (np := 1) (st := []) (as := [.inr (.inr (78 + 1))]) 59 3 (sh_cDs_layLawful e2) q5_30 q5_27 q5_29 qs3_4 q1_13 (by decide) rfl (by decide) rfl (by decide) (by decide +kernel) (by decide) rfl (Nat.le_of_ble_eq_true rfl) (show decode cX3_layAlive 2 = .ok (.invokevirtual 34, 3) by decide +kernel) rfl ?_
  refine y_aload_n (show decode cX3_layAlive 5 = .ok (.aload_n 1, 1) by decide +kernel) 1 rfl ?_
  refine y_getf 78 2 5 124 (by decide) rfl (by decide) (by decide) q2_189 (show decode cX3_layAlive 6 = .ok (.getfield 124, 3) by decide +kernel) (v := .inr (.inr (80 + 1))) rfl ?_
  refine y_iconst (show decode cX3_layAlive 9 = .ok (.iconst 0, 1) by decide +kernel) rfl ?_
  refine y_aload_n (show decode cX3_layAlive 10 = .ok (.aload_n 0, 1) by decide +kernel) 0 rfl ?_
  refine y_getf 59 3 2 18 (by decide) rfl (by decide) (by decide) q2_152 (show decode cX3_layAlive 11 = .ok (.getfield 18, 3) by decide +kernel) (v := .inr (.inr (62 + 1))) rfl ?_
  refine y_iconst (show decode cX3_layAlive 14 = .ok (.iconst 0, 1) by decide +kernel) rfl ?_
  refine y_bipush (show decode cX3_layAlive 15 = .ok (.bipush 36, 2) by decide +kernel) rfl rfl ?_
  obtain ⟨c4, h⟩ := chkC_some h
  obtain ⟨σ5, e6, h⟩ := bnd_i h
  refine y_acopy 80 36 62 36 (by decide) rfl (by decide) rfl c4 q5_164 q4_125 q4_124 q1_21 (show decode cX3_layAlive 17 = .ok (.invokestatic 127, 3) by decide +kernel) (ov_cpy1 e6 (fun k => rfl) (fun k => rfl)) (by decide) (Nat.le_of_ble_eq_true rfl) ?_
  refine y_aload_n (show decode cX3_layAlive 20 = .ok (.aload_n 2, 1) by decide +kernel) 2 rfl ?_
  refine y_iconst (show decode cX3_layAlive 21 = .ok (.iconst 0, 1) by decide +kernel) rfl ?_
  refine y_aload_n (show decode cX3_layAlive 22 = .ok (.aload_n 1, 1) by decide +kernel) 1 rfl ?_
  refine y_getf 78 2 3 50 (by decide) rfl (by decide) (by decide) q2_183 (show decode cX3_layAlive 23 = .ok (.getfield 50, 3) by decide +kernel) (v := .inl (σ5 78 3)) rfl ?_
  refine y_iconst (show decode cX3_layAlive 26 = .ok (.iconst 0, 1) by decide +kernel) rfl ?_
  obtain ⟨σ8, e7, h⟩ := bndO_some h
  refine y_callS (np := 4) (st := []) (as := [.inr (.inr (b + 1)), .inl 0, .inl (σ5 78 3), .inl 0]) (sh_jA_fill_fda19 e7) q5_45 q5_43 q5_44 q1_8 (by decide) (by decide +kernel) (by decide) rfl (Nat.le_of_ble_eq_true rfl) (show decode cX3_layAlive 27 = .ok (.invokestatic 89, 3) by decide +kernel) rfl ?_
  refine y_aload_n (show decode cX3_layAlive 30 = .ok (.aload_n 0, 1) by decide +kernel) 0 rfl ?_
  refine y_getf 59 3 0 9 (by decide) rfl (by decide) (by decide) q2_150 (show decode cX3_layAlive 31 = .ok (.getfield 9, 3) by decide +kernel) (v := .inr (.inr (60 + 1))) rfl ?_
  refine y_iconst (show decode cX3_layAlive 34 = .ok (.iconst 0, 1) by decide +kernel) rfl ?_
  refine y_aload_n (show decode cX3_layAlive 35 = .ok (.aload_n 1, 1) by decide +kernel) 1 rfl ?_
  refine y_getf 78 2 3 50 (by decide) rfl (by decide) (by decide) q2_183 (show decode cX3_layAlive 36 = .ok (.getfield 50, 3) by decide +kernel) (v := .inl (σ8 78 3)) rfl ?_
  refine y_ldc (k := -1000000) (show decode cX3_layAlive 39 = .ok (.ldc 33, 2) by decide +kernel) q5_26 rfl rfl ?_
  obtain ⟨σ10, e9, h⟩ := bndO_some h
  refine y_callS (np := 4) (st := []) (as := [.inr (.inr (60 + 1)), .inl 0, .inl (σ8 78 3), .inl (-1000000)]) (sh_jA_fill_fda19 e9) q5_45 q5_43 q5_44 q1_8 (by decide) (by decide +kernel) (by decide) rfl (Nat.le_of_ble_eq_true rfl) (show decode cX3_layAlive 41 = .ok (.invokestatic 89, 3) by decide +kernel) rfl ?_
  refine y_aload_n (show decode cX3_layAlive 44 = .ok (.aload_n 0, 1) by decide +kernel) 0 rfl ?_
  refine y_getf 59 3 0 9 (by decide) rfl (by decide) (by decide) q2_150 (show decode cX3_layAlive 45 = .ok (.getfield 9, 3) by decide +kernel) (v := .inr (.inr (60 + 1))) rfl ?_
  refine y_aload_n (show decode cX3_layAlive 48 = .ok (.aload_n 1, 1) by decide +kernel) 1 rfl ?_
  obtain ⟨r12, e11, h⟩ := bndO_some h
  refine y_callS (np := 1) (st := [.inr (.inr (60 + 1))]) (as := [.inr (.inr (78 + 1))]) (sh_cDs_homeState e11) q5_167 q5_165 q5_166 q1_13 (by decide) (by decide +kernel) (by decide) rfl (Nat.le_of_ble_eq_true rfl) (show decode cX3_layAlive 49 = .ok (.invokestatic 133, 3) by decide +kernel) rfl ?_
  refine y_iconst (show decode cX3_layAlive 52 = .ok (.iconst 0, 1) by decide +kernel) rfl ?_
  obtain ⟨c13, h⟩ := chkA_some h
  obtain ⟨σ14, e15, h⟩ := bnd_i h
  refine yo_iast 60 7776 (by decide) rfl c13 (ov_set1 e15 rfl) (show decode cX3_layAlive 53 = .ok (.iastore, 1) by decide +kernel) ?_
  refine y_iconst (show decode cX3_layAlive 54 = .ok (.iconst 1, 1) by decide +kernel) rfl ?_
  refine y_istore_n (show decode cX3_layAlive 55 = .ok (.istore_n 3, 1) by decide +kernel) rfl (L1 := [(3, .inl 1), (0, .inr (.inr (59 + 1))), (1, .inr (.inr (78 + 1))), (2, .inr (.inr (b + 1)))]) rfl ?_
  refine y_pick [1, 2, 3, 0] rfl ?_
  refine loopS1_ind (P := fun x16 σ17 => Y E MX3_layAlive (yRm 4 0 0) (yQf E (150 + 0) 0 0 none (ov τ)) 56 [(0, .inr (.inr (59 + 1))), (1, .inr (.inr (78 + 1))), (2, .inr (.inr (b + 1))), (3, .inl x16)] [] (ov σ17) 150 0 0) (fun k18 hk18 x16 σ17 h => ?_) _ _ _  h
  refine y_iload_n (show decode cX3_layAlive 56 = .ok (.iload_n 3, 1) by decide +kernel) 3 rfl ?_
  refine y_aload_n (show decode cX3_layAlive 57 = .ok (.aload_n 1, 1) by decide +kernel) 1 rfl ?_
  refine y_getf 78 2 1 95 (by decide) rfl (by decide) (by decide) q2_178 (show decode cX3_layAlive 58 = .ok (.getfield 95, 3) by decide +kernel) (v := .inl (σ17 78 1)) rfl ?_
  by_cases c19 : x16 > (σ17 78 1)
  · rw [if_pos c19] at h
    refine y_icmp_gt_t (tgt := 142) (show decode cX3_layAlive 61 = .ok (.if_icmp .gt 81, 3) by decide +kernel) rfl c19 ?_
    refine y_aload_n (show decode cX3_layAlive 142 = .ok (.aload_n 1, 1) by decide +kernel) 1 rfl ?_
    refine y_getf 78 2 1 95 (by decide) rfl (by decide) (by decide) q2_178 (show decode cX3_layAlive 143 = .ok (.getfield 95, 3) by decide +kernel) (v := .inl (σ17 78 1)) rfl ?_
    refine y_iconst (show decode cX3_layAlive 146 = .ok (.iconst 1, 1) by decide +kernel) rfl ?_
    obtain ⟨c20, h⟩ := chkI_some h
    refine y_isub (show decode cX3_layAlive 147 = .ok (.isub, 1) by decide +kernel) c20 ?_
    refine y_istore_n (show decode cX3_layAlive 148 = .ok (.istore_n 3, 1) by decide +kernel) rfl (L1 := [(3, .inl ((σ17 78 1) - 1)), (0, .inr (.inr (59 + 1))), (1, .inr (.inr (78 + 1))), (2, .inr (.inr (b + 1)))]) rfl ?_
    refine y_pick [1, 2, 3, 0] rfl ?_
    refine loopS1_ind (P := fun x21 σ22 => Y E MX3_layAlive (yRm 4 0 0) (yQf E (150 + 0) 0 0 none (ov τ)) 149 [(0, .inr (.inr (59 + 1))), (1, .inr (.inr (78 + 1))), (2, .inr (.inr (b + 1))), (3, .inl x21)] [] (ov σ22) 150 0 0) (fun k23 hk23 x21 σ22 h => ?_) _ _ _  h
    refine y_iload_n (show decode cX3_layAlive 149 = .ok (.iload_n 3, 1) by decide +kernel) 3 rfl ?_
    refine y_iconst (show decode cX3_layAlive 150 = .ok (.iconst 1, 1) by decide +kernel) rfl ?_
    by_cases c24 : x21 < 1
    · rw [if_pos c24] at h
      refine y_icmp_lt_t (tgt := 227) (show decode cX3_layAlive 151 = .ok (.if_icmp .lt 76, 3) by decide +kernel) rfl c24 ?_
      cases h
      exact y_vret (show decode cX3_layAlive 227 = .ok (.return_, 1) by decide +kernel) rfl
    · rw [if_neg c24] at h
      refine y_icmp_lt_f (show decode cX3_layAlive 151 = .ok (.if_icmp .lt 76, 3) by decide +kernel) c24 (by decide) ?_
      refine y_aload_n (show decode cX3_layAlive 154 = .ok (.aload_n 0, 1) by decide +kernel) 0 rfl ?_
      refine y_aload_n (show decode cX3_layAlive 155 = .ok (.aload_n 1, 1) by decide +kernel) 1 rfl ?_
      obtain ⟨σ26, e25, h⟩ := bndO_some h
      refine y_callV (np := 1) (st := []) (as := [.inr (.inr (78 + 1))]) 59 3 (sh_cDs_goAll e25) q5_171 q5_168 q5_170 qs3_14 q1_13 (by decide) rfl (by decide) rfl (by decide) (by decide +kernel) (by decide) rfl (Nat.le_of_ble_eq_true rfl) (show decode cX3_layAlive 156 = .ok (.invokevirtual 137, 3) by decide +kernel) rfl ?_
      refine y_iconst (show decode cX3_layAlive 159 = .ok (.iconst 0, 1) by decide +kernel) rfl ?_
      refine y_istore (show decode cX3_layAlive 160 = .ok (.istore 4, 2) by decide +kernel) rfl (L1 := [(4, .inl 0), (0, .inr (.inr (59 + 1))), (1, .inr (.inr (78 + 1))), (2, .inr (.inr (b + 1))), (3, .inl x21)]) rfl ?_
      refine y_pick [1, 2, 3, 4, 0] rfl ?_
      refine loopS2_ind (P := fun x27 x28 σ29 => Y E MX3_layAlive (yRm 4 0 0) (yQf E (150 + 0) 0 0 none (ov τ)) 162 [(0, .inr (.inr (59 + 1))), (1, .inr (.inr (78 + 1))), (2, .inr (.inr (b + 1))), (3, .inl x27), (4, .inl x28)] [] (ov σ29) 150 0 0) (fun k30 hk30 x27 x28 σ29 h => ?_) _ _ _ _  h
      refine y_iload (show decode cX3_layAlive 162 = .ok (.iload 4, 2) by decide +kernel) 4 rfl ?_
      refine y_aload_n (show decode cX3_layAlive 164 = .ok (.aload_n 1, 1) by decide +kernel) 1 rfl ?_
      refine y_getf 78 2 3 50 (by decide) rfl (by decide) (by decide) q2_183 (show decode cX3_layAlive 165 = .ok (.getfield 50, 3) by decide +kernel) (v := .inl (σ29 78 3)) rfl ?_
      by_cases c31 : x28 ≥ (σ29 78 3)
      · rw [if_pos c31] at h
        refine y_icmp_ge_t (tgt := 221) (show decode cX3_layAlive 168 = .ok (.if_icmp .ge 53, 3) by decide +kernel) rfl c31 ?_
        obtain ⟨c32, h⟩ := chkI_some h
        refine y_iinc (show decode cX3_layAlive 221 = .ok (.iinc 3 (-1), 3) by decide +kernel) 3 rfl c32 rfl (L1 := [(3, .inl (x27 + (-1))), (0, .inr (.inr (59 + 1))), (1, .inr (.inr (78 + 1))), (2, .inr (.inr (b + 1))), (4, .inl x28)]) rfl ?_
        refine y_goto (tgt := 149) (show decode cX3_layAlive 224 = .ok (.goto (-75), 3) by decide +kernel) rfl ?_
        refine y_pick [1, 2, 3, 0] rfl ?_
        exact hk23 _ _ h
      · rw [if_neg c31] at h
        refine y_icmp_ge_f (show decode cX3_layAlive 168 = .ok (.if_icmp .ge 53, 3) by decide +kernel) c31 (by decide) ?_
        refine y_aload_n (show decode cX3_layAlive 171 = .ok (.aload_n 0, 1) by decide +kernel) 0 rfl ?_
        refine y_getf 59 3 0 9 (by decide) rfl (by decide) (by decide) q2_150 (show decode cX3_layAlive 172 = .ok (.getfield 9, 3) by decide +kernel) (v := .inr (.inr (60 + 1))) rfl ?_
        refine y_iload (show decode cX3_layAlive 175 = .ok (.iload 4, 2) by decide +kernel) 4 rfl ?_
        obtain ⟨c33, h⟩ := chkA_some h
        refine yo_iald 60 7776 (by decide) rfl c33 (ov_at rfl) (show decode cX3_layAlive 177 = .ok (.iaload, 1) by decide +kernel) ?_
        refine y_ldc (k := -500000) (show decode cX3_layAlive 178 = .ok (.ldc 64, 2) by decide +kernel) q5_62 rfl rfl ?_
        refine bnd_j (Q := fun j35 => ∀ (σ34 : ySt), j35 σ34 = some τ → Y E MX3_layAlive (yRm 4 0 0) (yQf E (150 + 0) 0 0 none (ov τ)) 215 [(0, .inr (.inr (59 + 1))), (1, .inr (.inr (78 + 1))), (2, .inr (.inr (b + 1))), (3, .inl x27), (4, .inl x28)] [] (ov σ34) 150 0 0) (fun σ34 h => ?_) (fun j35 hj35 h => ?_) h
        · dsimp only at h
          obtain ⟨c36, h⟩ := chkI_some h
          refine y_iinc (show decode cX3_layAlive 215 = .ok (.iinc 4 1, 3) by decide +kernel) 4 rfl c36 rfl (L1 := [(4, .inl (x28 + 1)), (0, .inr (.inr (59 + 1))), (1, .inr (.inr (78 + 1))), (2, .inr (.inr (b + 1))), (3, .inl x27)]) rfl ?_
          refine y_goto (tgt := 162) (show decode cX3_layAlive 218 = .ok (.goto (-56), 3) by decide +kernel) rfl ?_
          refine y_pick [1, 2, 3, 4, 0] rfl ?_
          exact hk30 _ _ _ h
        refine bnd_j (Q := fun j37 => j37 = some τ → Y E MX3_layAlive (yRm 4 0 0) (yQf E (150 + 0) 0 0 none (ov τ)) 194 [(0, .inr (.inr (59 + 1))), (1, .inr (.inr (78 + 1))), (2, .inr (.inr (b + 1))), (3, .inl x27), (4, .inl x28)] [] (ov σ29) 150 0 0) (fun h => ?_) (fun j37 hj37 h => ?_) h
        · refine y_aload_n (show decode cX3_layAlive 194 = .ok (.aload_n 2, 1) by decide +kernel) 2 rfl ?_
          refine y_iload (show decode cX3_layAlive 195 = .ok (.iload 4, 2) by decide +kernel) 4 rfl ?_
          refine y_dup2 (show decode cX3_layAlive 197 = .ok (.dup2, 1) by decide +kernel) rfl rfl ?_
          obtain ⟨c38, h⟩ := chkA_some h
          refine yo_iald b (yKd b).2 c1.2 (yArr_kd c1) c38 (ov_at (yArr_cr (by rw [c1.1]; decide) c1.2 _)) (show decode cX3_layAlive 198 = .ok (.iaload, 1) by decide +kernel) ?_
          refine y_iconst (show decode cX3_layAlive 199 = .ok (.iconst 1, 1) by decide +kernel) rfl ?_
          refine y_iload_n (show decode cX3_layAlive 200 = .ok (.iload_n 3, 1) by decide +kernel) 3 rfl ?_
          refine y_ishl (show decode cX3_layAlive 201 = .ok (.ishl, 1) by decide +kernel) ?_
          refine y_iconst (show decode cX3_layAlive 202 = .ok (.iconst (-1), 1) by decide +kernel) rfl ?_
          refine y_ixor (show decode cX3_layAlive 203 = .ok (.ixor, 1) by decide +kernel) ?_
          refine y_iand (show decode cX3_layAlive 204 = .ok (.iand, 1) by decide +kernel) ?_
          obtain ⟨c39, h⟩ := chkA_some h
          obtain ⟨σ40, e41, h⟩ := bnd_i h
          refine yo_iast b (yKd b).2 c1.2 (yArr_kd c1) c39 (ov_set1 e41 (yArr_cr (by rw [c1.1]; decide) c1.2 _)) (show decode cX3_layAlive 205 = .ok (.iastore, 1) by decide +kernel) ?_
          refine y_aload_n (show decode cX3_layAlive 206 = .ok (.aload_n 0, 1) by decide +kernel) 0 rfl ?_
          refine y_getf 59 3 0 9 (by decide) rfl (by decide) (by decide) q2_150 (show decode cX3_layAlive 207 = .ok (.getfield 9, 3) by decide +kernel) (v := .inr (.inr (60 + 1))) rfl ?_
          refine y_iload (show decode cX3_layAlive 210 = .ok (.iload 4, 2) by decide +kernel) 4 rfl ?_
          refine y_ldc (k := -1000000) (show decode cX3_layAlive 212 = .ok (.ldc 33, 2) by decide +kernel) q5_26 rfl rfl ?_
          obtain ⟨c42, h⟩ := chkA_some h
          obtain ⟨σ43, e44, h⟩ := bnd_i h
          refine yo_iast 60 7776 (by decide) rfl c42 (ov_set1 e44 rfl) (show decode cX3_layAlive 214 = .ok (.iastore, 1) by decide +kernel) ?_
          refine y_pick [0, 1, 2, 3, 4] rfl ?_
          exact hj35 _ h
        by_cases c45 : (σ29 60 (x28).toNat) < (-500000)
        · rw [if_pos c45] at h
          refine y_icmp_lt_t (tgt := 194) (show decode cX3_layAlive 180 = .ok (.if_icmp .lt 14, 3) by decide +kernel) rfl c45 ?_
          refine y_pick [0, 1, 2, 3, 4] rfl ?_
          exact hj37 h
        · rw [if_neg c45] at h
          refine y_icmp_lt_f (show decode cX3_layAlive 180 = .ok (.if_icmp .lt 14, 3) by decide +kernel) c45 (by decide) ?_
          refine y_aload_n (show decode cX3_layAlive 183 = .ok (.aload_n 2, 1) by decide +kernel) 2 rfl ?_
          refine y_iload (show decode cX3_layAlive 184 = .ok (.iload 4, 2) by decide +kernel) 4 rfl ?_
          obtain ⟨c46, h⟩ := chkA_some h
          refine yo_iald b (yKd b).2 c1.2 (yArr_kd c1) c46 (ov_at (yArr_cr (by rw [c1.1]; decide) c1.2 _)) (show decode cX3_layAlive 186 = .ok (.iaload, 1) by decide +kernel) ?_
          refine y_iload_n (show decode cX3_layAlive 187 = .ok (.iload_n 3, 1) by decide +kernel) 3 rfl ?_
          refine y_ishr (show decode cX3_layAlive 188 = .ok (.ishr, 1) by decide +kernel) ?_
          refine y_iconst (show decode cX3_layAlive 189 = .ok (.iconst 1, 1) by decide +kernel) rfl ?_
          refine y_iand (show decode cX3_layAlive 190 = .ok (.iand, 1) by decide +kernel) ?_
          by_cases c47 : ¬ (b32and (b32shr (σ29 b (x28).toNat) x27) 1) = 0
          · rw [if_pos c47] at h
            refine y_if_ne_t (tgt := 215) (show decode cX3_layAlive 191 = .ok (.ifCond .ne 24, 3) by decide +kernel) rfl c47 ?_
            refine y_pick [0, 1, 2, 3, 4] rfl ?_
            exact hj35 _ h
          · rw [if_neg c47] at h
            refine y_if_ne_f (show decode cX3_layAlive 191 = .ok (.ifCond .ne 24, 3) by decide +kernel) c47 (by decide) ?_
            refine y_pick [0, 1, 2, 3, 4] rfl ?_
            exact hj37 h
  · rw [if_neg c19] at h
    refine y_icmp_gt_f (show decode cX3_layAlive 61 = .ok (.if_icmp .gt 81, 3) by decide +kernel) c19 (by decide) ?_
    refine y_aload_n (show decode cX3_layAlive 64 = .ok (.aload_n 0, 1) by decide +kernel) 0 rfl ?_
    refine y_aload_n (show decode cX3_layAlive 65 = .ok (.aload_n 1, 1) by decide +kernel) 1 rfl ?_
    obtain ⟨σ49, e48, h⟩ := bndO_some h
    refine y_callV (np := 1) (st := []) (as := [.inr (.inr (78 + 1))]) 59 3 (sh_cDs_goAll e48) q5_171 q5_168 q5_170 qs3_14 q1_13 (by decide) rfl (by decide) rfl (by decide) (by decide +kernel) (by decide) rfl (Nat.le_of_ble_eq_true rfl) (show decode cX3_layAlive 66 = .ok (.invokevirtual 137, 3) by decide +kernel) rfl ?_
    refine y_iconst (show decode cX3_layAlive 69 = .ok (.iconst 0, 1) by decide +kernel) rfl ?_
    refine y_istore (show decode cX3_layAlive 70 = .ok (.istore 4, 2) by decide +kernel) rfl (L1 := [(4, .inl 0), (0, .inr (.inr (59 + 1))), (1, .inr (.inr (78 + 1))), (2, .inr (.inr (b + 1))), (3, .inl x16)]) rfl ?_
    refine y_pick [1, 2, 3, 4, 0] rfl ?_
    refine loopS2_ind (P := fun x50 x51 σ52 => Y E MX3_layAlive (yRm 4 0 0) (yQf E (150 + 0) 0 0 none (ov τ)) 72 [(0, .inr (.inr (59 + 1))), (1, .inr (.inr (78 + 1))), (2, .inr (.inr (b + 1))), (3, .inl x50), (4, .inl x51)] [] (ov σ52) 150 0 0) (fun k53 hk53 x50 x51 σ52 h => ?_) _ _ _ _  h
    refine y_iload (show decode cX3_layAlive 72 = .ok (.iload 4, 2) by decide +kernel) 4 rfl ?_
    refine y_aload_n (show decode cX3_layAlive 74 = .ok (.aload_n 1, 1) by decide +kernel) 1 rfl ?_
    refine y_getf 78 2 3 50 (by decide) rfl (by decide) (by decide) q2_183 (show decode cX3_layAlive 75 = .ok (.getfield 50, 3) by decide +kernel) (v := .inl (σ52 78 3)) rfl ?_
    by_cases c54 : x51 ≥ (σ52 78 3)
    · rw [if_pos c54] at h
      refine y_icmp_ge_t (tgt := 136) (show decode cX3_layAlive 78 = .ok (.if_icmp .ge 58, 3) by decide +kernel) rfl c54 ?_
      obtain ⟨c55, h⟩ := chkI_some h
      refine y_iinc (show decode cX3_layAlive 136 = .ok (.iinc 3 1, 3) by decide +kernel) 3 rfl c55 rfl (L1 := [(3, .inl (x50 + 1)), (0, .inr (.inr (59 + 1))), (1, .inr (.inr (78 + 1))), (2, .inr (.inr (b + 1))), (4, .inl x51)]) rfl ?_
      refine y_goto (tgt := 56) (show decode cX3_layAlive 139 = .ok (.goto (-83), 3) by decide +kernel) rfl ?_
      refine y_pick [1, 2, 3, 0] rfl ?_
      exact hk18 _ _ h
    · rw [if_neg c54] at h
      refine y_icmp_ge_f (show decode cX3_layAlive 78 = .ok (.if_icmp .ge 58, 3) by decide +kernel) c54 (by decide) ?_
      refine y_aload_n (show decode cX3_layAlive 81 = .ok (.aload_n 0, 1) by decide +kernel) 0 rfl ?_
      refine y_getf 59 3 0 9 (by decide) rfl (by decide) (by decide) q2_150 (show decode cX3_layAlive 82 = .ok (.getfield 9, 3) by decide +kernel) (v := .inr (.inr (60 + 1))) rfl ?_
      refine y_iload (show decode cX3_layAlive 85 = .ok (.iload 4, 2) by decide +kernel) 4 rfl ?_
      obtain ⟨c56, h⟩ := chkA_some h
      refine yo_iald 60 7776 (by decide) rfl c56 (ov_at rfl) (show decode cX3_layAlive 87 = .ok (.iaload, 1) by decide +kernel) ?_
      refine y_ldc (k := -500000) (show decode cX3_layAlive 88 = .ok (.ldc 64, 2) by decide +kernel) q5_62 rfl rfl ?_
      refine bnd_j (Q := fun j58 => ∀ (σ57 : ySt), j58 σ57 = some τ → Y E MX3_layAlive (yRm 4 0 0) (yQf E (150 + 0) 0 0 none (ov τ)) 130 [(0, .inr (.inr (59 + 1))), (1, .inr (.inr (78 + 1))), (2, .inr (.inr (b + 1))), (3, .inl x50), (4, .inl x51)] [] (ov σ57) 150 0 0) (fun σ57 h => ?_) (fun j58 hj58 h => ?_) h
      · dsimp only at h
        obtain ⟨c59, h⟩ := chkI_some h
        refine y_iinc (show decode cX3_layAlive 130 = .ok (.iinc 4 1, 3) by decide +kernel) 4 rfl c59 rfl (L1 := [(4, .inl (x51 + 1)), (0, .inr (.inr (59 + 1))), (1, .inr (.inr (78 + 1))), (2, .inr (.inr (b + 1))), (3, .inl x50)]) rfl ?_
        refine y_goto (tgt := 72) (show decode cX3_layAlive 133 = .ok (.goto (-61), 3) by decide +kernel) rfl ?_
        refine y_pick [1, 2, 3, 4, 0] rfl ?_
        exact hk53 _ _ _ h
      refine bnd_j (Q := fun j60 => j60 = some τ → Y E MX3_layAlive (yRm 4 0 0) (yQf E (150 + 0) 0 0 none (ov τ)) 121 [(0, .inr (.inr (59 + 1))), (1, .inr (.inr (78 + 1))), (2, .inr (.inr (b + 1))), (3, .inl x50), (4, .inl x51)] [] (ov σ52) 150 0 0) (fun h => ?_) (fun j60 hj60 h => ?_) h
      · refine y_aload_n (show decode cX3_layAlive 121 = .ok (.aload_n 0, 1) by decide +kernel) 0 rfl ?_
        refine y_getf 59 3 0 9 (by decide) rfl (by decide) (by decide) q2_150 (show decode cX3_layAlive 122 = .ok (.getfield 9, 3) by decide +kernel) (v := .inr (.inr (60 + 1))) rfl ?_
        refine y_iload (show decode cX3_layAlive 125 = .ok (.iload 4, 2) by decide +kernel) 4 rfl ?_
        refine y_ldc (k := -1000000) (show decode cX3_layAlive 127 = .ok (.ldc 33, 2) by decide +kernel) q5_26 rfl rfl ?_
        obtain ⟨c61, h⟩ := chkA_some h
        obtain ⟨σ62, e63, h⟩ := bnd_i h
        refine yo_iast 60 7776 (by decide) rfl c61 (ov_set1 e63 rfl) (show decode cX3_layAlive 129 = .ok (.iastore, 1) by decide +kernel) ?_
        refine y_pick [0, 1, 2, 3, 4] rfl ?_
        exact hj58 _ h
      by_cases c64 : (σ52 60 (x51).toNat) ≤ (-500000)
      · rw [if_pos c64] at h
        refine y_icmp_le_t (tgt := 121) (show decode cX3_layAlive 90 = .ok (.if_icmp .le 31, 3) by decide +kernel) rfl c64 ?_
        refine y_pick [0, 1, 2, 3, 4] rfl ?_
        exact hj60 h
      · rw [if_neg c64] at h
        refine y_icmp_le_f (show decode cX3_layAlive 90 = .ok (.if_icmp .le 31, 3) by decide +kernel) c64 (by decide) ?_
        refine y_aload_n (show decode cX3_layAlive 93 = .ok (.aload_n 0, 1) by decide +kernel) 0 rfl ?_
        refine y_getf 59 3 1 15 (by decide) rfl (by decide) (by decide) q2_151 (show decode cX3_layAlive 94 = .ok (.getfield 15, 3) by decide +kernel) (v := .inr (.inr (61 + 1))) rfl ?_
        refine y_iload (show decode cX3_layAlive 97 = .ok (.iload 4, 2) by decide +kernel) 4 rfl ?_
        obtain ⟨c65, h⟩ := chkA_some h
        refine yo_iald 61 7776 (by decide) rfl c65 (ov_at rfl) (show decode cX3_layAlive 99 = .ok (.iaload, 1) by decide +kernel) ?_
        refine y_iload_n (show decode cX3_layAlive 100 = .ok (.iload_n 3, 1) by decide +kernel) 3 rfl ?_
        refine y_ishr (show decode cX3_layAlive 101 = .ok (.ishr, 1) by decide +kernel) ?_
        refine y_iconst (show decode cX3_layAlive 102 = .ok (.iconst 1, 1) by decide +kernel) rfl ?_
        refine y_iand (show decode cX3_layAlive 103 = .ok (.iand, 1) by decide +kernel) ?_
        refine y_iconst (show decode cX3_layAlive 104 = .ok (.iconst 1, 1) by decide +kernel) rfl ?_
        by_cases c66 : ¬ (b32and (b32shr (σ52 61 (x51).toNat) x50) 1) = 1
        · rw [if_pos c66] at h
          refine y_icmp_ne_t (tgt := 121) (show decode cX3_layAlive 105 = .ok (.if_icmp .ne 16, 3) by decide +kernel) rfl c66 ?_
          refine y_pick [0, 1, 2, 3, 4] rfl ?_
          exact hj60 h
        · rw [if_neg c66] at h
          refine y_icmp_ne_f (show decode cX3_layAlive 105 = .ok (.if_icmp .ne 16, 3) by decide +kernel) c66 (by decide) ?_
          refine y_aload_n (show decode cX3_layAlive 108 = .ok (.aload_n 2, 1) by decide +kernel) 2 rfl ?_
          refine y_iload (show decode cX3_layAlive 109 = .ok (.iload 4, 2) by decide +kernel) 4 rfl ?_
          refine y_dup2 (show decode cX3_layAlive 111 = .ok (.dup2, 1) by decide +kernel) rfl rfl ?_
          obtain ⟨c67, h⟩ := chkA_some h
          refine yo_iald b (yKd b).2 c1.2 (yArr_kd c1) c67 (ov_at (yArr_cr (by rw [c1.1]; decide) c1.2 _)) (show decode cX3_layAlive 112 = .ok (.iaload, 1) by decide +kernel) ?_
          refine y_iconst (show decode cX3_layAlive 113 = .ok (.iconst 1, 1) by decide +kernel) rfl ?_
          refine y_iload_n (show decode cX3_layAlive 114 = .ok (.iload_n 3, 1) by decide +kernel) 3 rfl ?_
          refine y_ishl (show decode cX3_layAlive 115 = .ok (.ishl, 1) by decide +kernel) ?_
          refine y_ior (show decode cX3_layAlive 116 = .ok (.ior, 1) by decide +kernel) ?_
          obtain ⟨c68, h⟩ := chkA_some h
          obtain ⟨σ69, e70, h⟩ := bnd_i h
          refine yo_iast b (yKd b).2 c1.2 (yArr_kd c1) c68 (ov_set1 e70 (yArr_cr (by rw [c1.1]; decide) c1.2 _)) (show decode cX3_layAlive 117 = .ok (.iastore, 1) by decide +kernel) ?_
          refine y_goto (tgt := 130) (show decode cX3_layAlive 118 = .ok (.goto 12, 3) by decide +kernel) rfl ?_
          refine y_pick [0, 1, 2, 3, 4] rfl ?_
          exact hj58 _ h
abbrev MX0_findAlive : yM := (yX0_findAlive, cX0_findAlive, 4, none)
def cAn_findAlive (N : Nat) (b : Int) (σ : ySt) : Option (ySt) :=
  chkT (σ 58 0) fun T1 =>
  bndO (cDy_lay N T1 0 1 σ) fun σ5 =>
  bnd (bndO (cCt_narrow N b 82 σ5) fun σ8 =>
    bndO (cDs_layAlive N 77 σ8) fun σ10 =>
    bnd (yset σ10 58 13 1) fun σ11 =>
    bnd (yset σ11 58 14 b) fun σ13 =>
    some σ13) fun j6 =>
  if (σ5 58 13) = 0 then
    j6
  else
    if ¬ (blcmp (σ5 58 14) b) = 0 then
      j6
    else
      some σ5
set_option maxHeartbeats 4000000 in
set_option maxRecDepth 10000 in
theorem sh_cAn_findAlive {E : yE} {N : Nat} {b : Int} {σ : ySt} {τ : ySt} (h : cAn_findAlive N b σ = some τ) : Con E MX0_findAlive 5 0 0 [.inr (.inr (58 + 1)), .inr (.inr (3 + 1)), .inr (.inl b)] 150 (ov σ) none (ov τ) := by
  unfold cAn_findAlive at h
  refine Con.ofY (by decide +kernel) (by simp [yWords, yCat]) (fun hok _ => ?_)
  show Y E MX0_findAlive (yRm 5 0 0) (yQf E (150 + 0) 0 0 none (ov τ)) 0 [(0, .inr (.inr (58 + 1))), (1, .inr (.inr (3 + 1))), (2, .inr (.inl b))] [] (ov σ) 150 0 0
  refine y_aload_n (show decode cX0_findAlive 0 = .ok (.aload_n 0, 1) by decide +kernel) 0 rfl ?_
  refine y_getf 58 0 1 61 (by decide) rfl (by decide) (by decide) q2_218 (show decode cX0_findAlive 1 = .ok (.getfield 61, 3) by decide +kernel) (v := .inr (.inr (78 + 1))) rfl ?_
  refine y_aload_n (show decode cX0_findAlive 4 = .ok (.aload_n 0, 1) by decide +kernel) 0 rfl ?_
  obtain ⟨T1, c2, c3, h⟩ := chkT_some h
  refine y_getf 58 0 0 52 (by decide) rfl (by decide) (by decide) q2_217 (show decode cX0_findAlive 5 = .ok (.getfield 52, 3) by decide +kernel) (v := .inr (.inr (T1 + 1))) (by rw [← c3]; rfl) ?_
  refine y_iconst (show decode cX0_findAlive 8 = .ok (.iconst 0, 1) by decide +kernel) rfl ?_
  refine y_iconst (show decode cX0_findAlive 9 = .ok (.iconst 1, 1) by decide +kernel) rfl ?_
  obtain ⟨σ5, e4, h⟩ := bndO_some h
  refine y_callV (np := 3) (st := []) (as := [.inr (.inr (T1 + 1)), .inl 0, .inl 1]) 78 2 (sh_cDy_lay e4) q4_220 q4_217 q4_218 q4_219 q1_14 (by decide) rfl (by decide) rfl (by decide) (by decide +kernel) (by decide) rfl (Nat.le_of_ble_eq_true rfl) (show decode cX0_findAlive 10 = .ok (.invokevirtual 69, 3) by decide +kernel) rfl ?_
  refine y_aload_n (show decode cX0_findAlive 13 = .ok (.aload_n 0, 1) by decide +kernel) 0 rfl ?_
  refine y_getf 58 0 13 65 (by decide) rfl (by decide) (by decide) q2_234 (show decode cX0_findAlive 14 = .ok (.getfield 65, 3) by decide +kernel) (v := .inl (σ5 58 13)) rfl ?_
  refine bnd_j (Q := fun j6 => j6 = some τ → Y E MX0_findAlive (yRm 5 0 0) (yQf E (150 + 0) 0 0 none (ov τ)) 30 [(0, .inr (.inr (58 + 1))), (1, .inr (.inr (3 + 1))), (2, .inr (.inl b))] [] (ov σ5) 150 0 0) (fun h => ?_) (fun j6 hj6 h => ?_) h
  · refine y_aload_n (show decode cX0_findAlive 30 = .ok (.aload_n 1, 1) by decide +kernel) 1 rfl ?_
    refine y_lload_n (show decode cX0_findAlive 31 = .ok (.lload_n 2, 1) by decide +kernel) 2 rfl ?_
    refine y_aload_n (show decode cX0_findAlive 32 = .ok (.aload_n 0, 1) by decide +kernel) 0 rfl ?_
    refine y_getf 58 0 1 61 (by decide) rfl (by decide) (by decide) q2_218 (show decode cX0_findAlive 33 = .ok (.getfield 61, 3) by decide +kernel) (v := .inr (.inr (78 + 1))) rfl ?_
    refine y_getf 78 2 7 120 (by decide) rfl (by decide) (by decide) q2_193 (show decode cX0_findAlive 36 = .ok (.getfield 120, 3) by decide +kernel) (v := .inr (.inr (82 + 1))) rfl ?_
    obtain ⟨σ8, e7, h⟩ := bndO_some h
    refine y_callV (np := 2) (st := []) (as := [.inr (.inl b), .inr (.inr (82 + 1))]) 3 1 (sh_cCt_narrow e7) q5_159 q5_156 q5_157 q5_158 q1_3 (by decide) rfl (by decide) rfl (by decide) (by decide +kernel) (by decide) rfl (Nat.le_of_ble_eq_true rfl) (show decode cX0_findAlive 39 = .ok (.invokevirtual 123, 3) by decide +kernel) rfl ?_
    refine y_aload_n (show decode cX0_findAlive 42 = .ok (.aload_n 0, 1) by decide +kernel) 0 rfl ?_
    refine y_getf 58 0 2 12 (by decide) rfl (by decide) (by decide) q2_219 (show decode cX0_findAlive 43 = .ok (.getfield 12, 3) by decide +kernel) (v := .inr (.inr (59 + 1))) rfl ?_
    refine y_aload_n (show decode cX0_findAlive 46 = .ok (.aload_n 0, 1) by decide +kernel) 0 rfl ?_
    refine y_getf 58 0 1 61 (by decide) rfl (by decide) (by decide) q2_218 (show decode cX0_findAlive 47 = .ok (.getfield 61, 3) by decide +kernel) (v := .inr (.inr (78 + 1))) rfl ?_
    refine y_aload_n (show decode cX0_findAlive 50 = .ok (.aload_n 0, 1) by decide +kernel) 0 rfl ?_
    refine y_getf 58 0 12 49 (by decide) rfl (by decide) (by decide) q2_233 (show decode cX0_findAlive 51 = .ok (.getfield 49, 3) by decide +kernel) (v := .inr (.inr (77 + 1))) rfl ?_
    obtain ⟨σ10, e9, h⟩ := bndO_some h
    refine y_callV (np := 2) (st := []) (as := [.inr (.inr (78 + 1)), .inr (.inr (77 + 1))]) 59 3 (sh_cDs_layAlive e9) q5_163 q5_160 q5_161 q5_162 q1_13 (by decide) rfl (by decide) rfl (by decide) (by decide +kernel) (by decide) rfl (Nat.le_of_ble_eq_true rfl) (show decode cX0_findAlive 54 = .ok (.invokevirtual 129, 3) by decide +kernel) rfl ?_
    refine y_aload_n (show decode cX0_findAlive 57 = .ok (.aload_n 0, 1) by decide +kernel) 0 rfl ?_
    refine y_iconst (show decode cX0_findAlive 58 = .ok (.iconst 1, 1) by decide +kernel) rfl ?_
    obtain ⟨σ11, e12, h⟩ := bnd_i h
    refine yo_putZ 58 0 13 65 (by decide) rfl (by decide) (by decide) q2_234 rfl (show decode cX0_findAlive 59 = .ok (.putfield 65, 3) by decide +kernel) rfl rfl (Or.inr rfl) (ov_set1 e12 rfl) ?_
    refine y_aload_n (show decode cX0_findAlive 62 = .ok (.aload_n 0, 1) by decide +kernel) 0 rfl ?_
    refine y_lload_n (show decode cX0_findAlive 63 = .ok (.lload_n 2, 1) by decide +kernel) 2 rfl ?_
    obtain ⟨σ13, e14, h⟩ := bnd_i h
    refine yo_putJ 58 0 14 116 (by decide) rfl (by decide) (by decide) q2_235 rfl (show decode cX0_findAlive 64 = .ok (.putfield 116, 3) by decide +kernel) rfl rfl (ov_set1 e14 rfl) ?_
    cases h
    exact y_vret (show decode cX0_findAlive 67 = .ok (.return_, 1) by decide +kernel) rfl
  by_cases c15 : (σ5 58 13) = 0
  · rw [if_pos c15] at h
    refine y_if_eq_t (tgt := 30) (show decode cX0_findAlive 17 = .ok (.ifCond .eq 13, 3) by decide +kernel) rfl c15 ?_
    refine y_pick [0, 1, 2] rfl ?_
    exact hj6 h
  · rw [if_neg c15] at h
    refine y_if_eq_f (show decode cX0_findAlive 17 = .ok (.ifCond .eq 13, 3) by decide +kernel) c15 (by decide) ?_
    refine y_aload_n (show decode cX0_findAlive 20 = .ok (.aload_n 0, 1) by decide +kernel) 0 rfl ?_
    refine y_getf 58 0 14 116 (by decide) rfl (by decide) (by decide) q2_235 (show decode cX0_findAlive 21 = .ok (.getfield 116, 3) by decide +kernel) (v := .inr (.inl (σ5 58 14))) rfl ?_
    refine y_lload_n (show decode cX0_findAlive 24 = .ok (.lload_n 2, 1) by decide +kernel) 2 rfl ?_
    refine y_lcmp (show decode cX0_findAlive 25 = .ok (.lcmp, 1) by decide +kernel) ?_
    by_cases c16 : ¬ (blcmp (σ5 58 14) b) = 0
    · rw [if_pos c16] at h
      refine y_if_ne_t (tgt := 30) (show decode cX0_findAlive 26 = .ok (.ifCond .ne 4, 3) by decide +kernel) rfl c16 ?_
      refine y_pick [0, 1, 2] rfl ?_
      exact hj6 h
    · rw [if_neg c16] at h
      refine y_if_ne_f (show decode cX0_findAlive 26 = .ok (.ifCond .ne 4, 3) by decide +kernel) c16 (by decide) ?_
      cases h
      exact y_vret (show decode cX0_findAlive 29 = .ok (.return_, 1) by decide +kernel) rfl
abbrev MX0_firstMeeting : yM := (yX0_firstMeeting, cX0_firstMeeting, 7, some .int)
def cAn_firstMeeting (N : Nat) (a : Int) (b : Int) (c : Int) (σ : ySt) : Option (Int × ySt) :=
  bndO (cAn_findAlive N 0 σ) fun σ2 =>
  loop2 (fun k5 x3 x4 =>
    if x4 ≥ (σ2 78 3) then
      loop2 (fun k9 x7 x8 =>
        chkT (σ2 58 0) fun T10 =>
        if x8 > (σ2 T10 17) then
          some ((-1), σ2)
        else
          if ¬ (b32and (b32shr x7 x8) 1) = 1 then
            chkI (x8 + 1) <|
            k9 x7 (x8 + 1)
          else
            some (x8, σ2)) N x3 1
    else
      bndO (cDy_placeIn x4 a σ2) fun r17 =>
      bnd (fun (y18 : Int) =>
        chkI (x4 + 1) <|
        k5 y18 (x4 + 1)) fun j19 =>
      if ¬ r17 = c then
        j19 x3
      else
        bndO (cDy_placeIn x4 b σ2) fun r23 =>
        if ¬ r23 = c then
          j19 x3
        else
          bndO (cDy_crowds N x4 σ2) fun r26 =>
          chkI (3 * c) <|
          if ¬ (b32and (b32shr r26 (3 * c)) 7) = 2 then
            j19 x3
          else
            chkA 7776 x4 <|
            j19 (b32or x3 (σ2 77 (x4).toNat))) N 0 0
set_option maxHeartbeats 4000000 in
set_option maxRecDepth 10000 in
theorem sh_cAn_firstMeeting {E : yE} {N : Nat} {a : Int} {b : Int} {c : Int} {σ : ySt} {ρ : Int} {τ : ySt} (h : cAn_firstMeeting N a b c σ = some (ρ, τ)) : Con E MX0_firstMeeting 6 0 0 [.inr (.inr (58 + 1)), .inl a, .inl b, .inl c, .inr (.inr (3 + 1))] 150 (ov σ) (some (.inl ρ)) (ov τ) := by
  unfold cAn_firstMeeting at h
  refine Con.ofY (by decide +kernel) (by simp [yWords, yCat]) (fun hok _ => ?_)
  show Y E MX0_firstMeeting (yRm 6 0 0) (yQf E (150 + 0) 0 0 (some (.inl ρ)) (ov τ)) 0 [(0, .inr (.inr (58 + 1))), (1, .inl a), (2, .inl b), (3, .inl c), (4, .inr (.inr (3 + 1)))] [] (ov σ) 150 0 0
  refine y_aload_n (show decode cX0_firstMeeting 0 = .ok (.aload_n 0, 1) by decide +kernel) 0 rfl ?_
  refine y_aload (show decode cX0_firstMeeting 1 = .ok (.aload 4, 2) by decide +kernel) 4 rfl ?_
  refine y_lconst (z := 0) (show decode cX0_firstMeeting 3 = .ok (.lconst 0, 1) by decide +kernel) rfl rfl ?_
  obtain ⟨σ2, e1, h⟩ := bndO_some h
  refine y_callV (np := 2) (st := []) (as := [.inr (.inr (3 + 1)), .inr (.inl 0)]) 58 0 (sh_cAn_findAlive e1) q5_155 q5_152 q5_154 qs3_13 q1_12 (by decide) rfl (by decide) rfl (by decide) (by decide +kernel) (by decide) rfl (Nat.le_of_ble_eq_true rfl) (show decode cX0_firstMeeting 4 = .ok (.invokevirtual 133, 3) by decide +kernel) rfl ?_
  refine y_iconst (show decode cX0_firstMeeting 7 = .ok (.iconst 0, 1) by decide +kernel) rfl ?_
  refine y_istore (show decode cX0_firstMeeting 8 = .ok (.istore 5, 2) by decide +kernel) rfl (L1 := [(5, .inl 0), (0, .inr (.inr (58 + 1))), (1, .inl a), (2, .inl b), (3, .inl c), (4, .inr (.inr (3 + 1)))]) rfl ?_
  refine y_iconst (show decode cX0_firstMeeting 10 = .ok (.iconst 0, 1) by decide +kernel) rfl ?_
  refine y_istore (show decode cX0_firstMeeting 11 = .ok (.istore 6, 2) by decide +kernel) rfl (L1 := [(6, .inl 0), (5, .inl 0), (0, .inr (.inr (58 + 1))), (1, .inl a), (2, .inl b), (3, .inl c), (4, .inr (.inr (3 + 1)))]) rfl ?_
  refine y_pick [2, 3, 4, 5, 1, 0] rfl ?_
  refine loop2_ind (P := fun x3 x4 => Y E MX0_firstMeeting (yRm 6 0 0) (yQf E (150 + 0) 0 0 (some (.inl ρ)) (ov τ)) 13 [(0, .inr (.inr (58 + 1))), (1, .inl a), (2, .inl b), (3, .inl c), (5, .inl x3), (6, .inl x4)] [] (ov σ2) 150 0 0) (fun k5 hk5 x3 x4 h => ?_) _ _ _  h
  refine y_iload (show decode cX0_firstMeeting 13 = .ok (.iload 6, 2) by decide +kernel) 5 rfl ?_
  refine y_aload_n (show decode cX0_firstMeeting 15 = .ok (.aload_n 0, 1) by decide +kernel) 0 rfl ?_
  refine y_getf 58 0 1 61 (by decide) rfl (by decide) (by decide) q2_218 (show decode cX0_firstMeeting 16 = .ok (.getfield 61, 3) by decide +kernel) (v := .inr (.inr (78 + 1))) rfl ?_
  refine y_getf 78 2 3 137 (by decide) rfl (by decide) (by decide) q2_185 (show decode cX0_firstMeeting 19 = .ok (.getfield 137, 3) by decide +kernel) (v := .inl (σ2 78 3)) rfl ?_
  by_cases c6 : x4 ≥ (σ2 78 3)
  · rw [if_pos c6] at h
    refine y_icmp_ge_t (tgt := 91) (show decode cX0_firstMeeting 22 = .ok (.if_icmp .ge 69, 3) by decide +kernel) rfl c6 ?_
    refine y_iconst (show decode cX0_firstMeeting 91 = .ok (.iconst 1, 1) by decide +kernel) rfl ?_
    refine y_istore (show decode cX0_firstMeeting 92 = .ok (.istore 6, 2) by decide +kernel) rfl (L1 := [(6, .inl 1), (0, .inr (.inr (58 + 1))), (1, .inl a), (2, .inl b), (3, .inl c), (5, .inl x3)]) rfl ?_
    refine y_pick [1, 5, 0] rfl ?_
    refine loop2_ind (P := fun x7 x8 => Y E MX0_firstMeeting (yRm 6 0 0) (yQf E (150 + 0) 0 0 (some (.inl ρ)) (ov τ)) 94 [(0, .inr (.inr (58 + 1))), (5, .inl x7), (6, .inl x8)] [] (ov σ2) 150 0 0) (fun k9 hk9 x7 x8 h => ?_) _ _ _  h
    refine y_iload (show decode cX0_firstMeeting 94 = .ok (.iload 6, 2) by decide +kernel) 2 rfl ?_
    refine y_aload_n (show decode cX0_firstMeeting 96 = .ok (.aload_n 0, 1) by decide +kernel) 0 rfl ?_
    obtain ⟨T10, c11, c12, h⟩ := chkT_some h
    refine y_getf 58 0 0 52 (by decide) rfl (by decide) (by decide) q2_217 (show decode cX0_firstMeeting 97 = .ok (.getfield 52, 3) by decide +kernel) (v := .inr (.inr (T10 + 1))) (by rw [← c12]; rfl) ?_
    refine y_getf T10 9 17 90 (by omega) (by rcases c11 with rfl | rfl <;> rfl) (by decide) (by decide) q2_22 (show decode cX0_firstMeeting 100 = .ok (.getfield 90, 3) by decide +kernel) (v := .inl (σ2 T10 17)) (by rcases c11 with rfl | rfl <;> rfl) ?_
    by_cases c13 : x8 > (σ2 T10 17)
    · rw [if_pos c13] at h
      refine y_icmp_gt_t (tgt := 126) (show decode cX0_firstMeeting 103 = .ok (.if_icmp .gt 23, 3) by decide +kernel) rfl c13 ?_
      refine y_iconst (show decode cX0_firstMeeting 126 = .ok (.iconst (-1), 1) by decide +kernel) rfl ?_
      cases h
      exact y_iret (show decode cX0_firstMeeting 127 = .ok (.ireturn, 1) by decide +kernel) rfl
    · rw [if_neg c13] at h
      refine y_icmp_gt_f (show decode cX0_firstMeeting 103 = .ok (.if_icmp .gt 23, 3) by decide +kernel) c13 (by decide) ?_
      refine y_iload (show decode cX0_firstMeeting 106 = .ok (.iload 5, 2) by decide +kernel) 1 rfl ?_
      refine y_iload (show decode cX0_firstMeeting 108 = .ok (.iload 6, 2) by decide +kernel) 2 rfl ?_
      refine y_ishr (show decode cX0_firstMeeting 110 = .ok (.ishr, 1) by decide +kernel) ?_
      refine y_iconst (show decode cX0_firstMeeting 111 = .ok (.iconst 1, 1) by decide +kernel) rfl ?_
      refine y_iand (show decode cX0_firstMeeting 112 = .ok (.iand, 1) by decide +kernel) ?_
      refine y_iconst (show decode cX0_firstMeeting 113 = .ok (.iconst 1, 1) by decide +kernel) rfl ?_
      by_cases c14 : ¬ (b32and (b32shr x7 x8) 1) = 1
      · rw [if_pos c14] at h
        refine y_icmp_ne_t (tgt := 120) (show decode cX0_firstMeeting 114 = .ok (.if_icmp .ne 6, 3) by decide +kernel) rfl c14 ?_
        obtain ⟨c15, h⟩ := chkI_some h
        refine y_iinc (show decode cX0_firstMeeting 120 = .ok (.iinc 6 1, 3) by decide +kernel) 2 rfl c15 rfl (L1 := [(6, .inl (x8 + 1)), (0, .inr (.inr (58 + 1))), (5, .inl x7)]) rfl ?_
        refine y_goto (tgt := 94) (show decode cX0_firstMeeting 123 = .ok (.goto (-29), 3) by decide +kernel) rfl ?_
        refine y_pick [1, 2, 0] rfl ?_
        exact hk9 _ _ h
      · rw [if_neg c14] at h
        refine y_icmp_ne_f (show decode cX0_firstMeeting 114 = .ok (.if_icmp .ne 6, 3) by decide +kernel) c14 (by decide) ?_
        refine y_iload (show decode cX0_firstMeeting 117 = .ok (.iload 6, 2) by decide +kernel) 2 rfl ?_
        cases h
        exact y_iret (show decode cX0_firstMeeting 119 = .ok (.ireturn, 1) by decide +kernel) rfl
  · rw [if_neg c6] at h
    refine y_icmp_ge_f (show decode cX0_firstMeeting 22 = .ok (.if_icmp .ge 69, 3) by decide +kernel) c6 (by decide) ?_
    refine y_aload_n (show decode cX0_firstMeeting 25 = .ok (.aload_n 0, 1) by decide +kernel) 0 rfl ?_
    refine y_getf 58 0 1 61 (by decide) rfl (by decide) (by decide) q2_218 (show decode cX0_firstMeeting 26 = .ok (.getfield 61, 3) by decide +kernel) (v := .inr (.inr (78 + 1))) rfl ?_
    refine y_iload (show decode cX0_firstMeeting 29 = .ok (.iload 6, 2) by decide +kernel) 5 rfl ?_
    refine y_iload_n (show decode cX0_firstMeeting 31 = .ok (.iload_n 1, 1) by decide +kernel) 1 rfl ?_
    obtain ⟨r17, e16, h⟩ := bndO_some h
    refine y_callV (np := 2) (st := []) (as := [.inl x4, .inl a]) 78 2 (sh_cDy_placeIn e16) q5_38 q5_172 q5_36 q5_37 q1_14 (by decide) rfl (by decide) rfl (by decide) (by decide +kernel) (by decide) rfl (Nat.le_of_ble_eq_true rfl) (show decode cX0_firstMeeting 32 = .ok (.invokevirtual 140, 3) by decide +kernel) rfl ?_
    refine y_iload_n (show decode cX0_firstMeeting 35 = .ok (.iload_n 3, 1) by decide +kernel) 3 rfl ?_
    refine bnd_j (Q := fun j19 => ∀ (y18 : Int), j19 y18 = some (ρ, τ) → Y E MX0_firstMeeting (yRm 6 0 0) (yQf E (150 + 0) 0 0 (some (.inl ρ)) (ov τ)) 85 [(0, .inr (.inr (58 + 1))), (1, .inl a), (2, .inl b), (3, .inl c), (5, .inl y18), (6, .inl x4)] [] (ov σ2) 150 0 0) (fun y18 h => ?_) (fun j19 hj19 h => ?_) h
    · dsimp only at h
      obtain ⟨c20, h⟩ := chkI_some h
      refine y_iinc (show decode cX0_firstMeeting 85 = .ok (.iinc 6 1, 3) by decide +kernel) 5 rfl c20 rfl (L1 := [(6, .inl (x4 + 1)), (0, .inr (.inr (58 + 1))), (1, .inl a), (2, .inl b), (3, .inl c), (5, .inl y18)]) rfl ?_
      refine y_goto (tgt := 13) (show decode cX0_firstMeeting 88 = .ok (.goto (-75), 3) by decide +kernel) rfl ?_
      refine y_pick [1, 2, 3, 4, 5, 0] rfl ?_
      exact hk5 _ _ h
    by_cases c21 : ¬ r17 = c
    · rw [if_pos c21] at h
      refine y_icmp_ne_t (tgt := 85) (show decode cX0_firstMeeting 36 = .ok (.if_icmp .ne 49, 3) by decide +kernel) rfl c21 ?_
      refine y_pick [0, 1, 2, 3, 4, 5] rfl ?_
      exact hj19 _ h
    · rw [if_neg c21] at h
      refine y_icmp_ne_f (show decode cX0_firstMeeting 36 = .ok (.if_icmp .ne 49, 3) by decide +kernel) c21 (by decide) ?_
      refine y_aload_n (show decode cX0_firstMeeting 39 = .ok (.aload_n 0, 1) by decide +kernel) 0 rfl ?_
      refine y_getf 58 0 1 61 (by decide) rfl (by decide) (by decide) q2_218 (show decode cX0_firstMeeting 40 = .ok (.getfield 61, 3) by decide +kernel) (v := .inr (.inr (78 + 1))) rfl ?_
      refine y_iload (show decode cX0_firstMeeting 43 = .ok (.iload 6, 2) by decide +kernel) 5 rfl ?_
      refine y_iload_n (show decode cX0_firstMeeting 45 = .ok (.iload_n 2, 1) by decide +kernel) 2 rfl ?_
      obtain ⟨r23, e22, h⟩ := bndO_some h
      refine y_callV (np := 2) (st := []) (as := [.inl x4, .inl b]) 78 2 (sh_cDy_placeIn e22) q5_38 q5_172 q5_36 q5_37 q1_14 (by decide) rfl (by decide) rfl (by decide) (by decide +kernel) (by decide) rfl (Nat.le_of_ble_eq_true rfl) (show decode cX0_firstMeeting 46 = .ok (.invokevirtual 140, 3) by decide +kernel) rfl ?_
      refine y_iload_n (show decode cX0_firstMeeting 49 = .ok (.iload_n 3, 1) by decide +kernel) 3 rfl ?_
      by_cases c24 : ¬ r23 = c
      · rw [if_pos c24] at h
        refine y_icmp_ne_t (tgt := 85) (show decode cX0_firstMeeting 50 = .ok (.if_icmp .ne 35, 3) by decide +kernel) rfl c24 ?_
        refine y_pick [0, 1, 2, 3, 4, 5] rfl ?_
        exact hj19 _ h
      · rw [if_neg c24] at h
        refine y_icmp_ne_f (show decode cX0_firstMeeting 50 = .ok (.if_icmp .ne 35, 3) by decide +kernel) c24 (by decide) ?_
        refine y_aload_n (show decode cX0_firstMeeting 53 = .ok (.aload_n 0, 1) by decide +kernel) 0 rfl ?_
        refine y_getf 58 0 1 61 (by decide) rfl (by decide) (by decide) q2_218 (show decode cX0_firstMeeting 54 = .ok (.getfield 61, 3) by decide +kernel) (v := .inr (.inr (78 + 1))) rfl ?_
        refine y_iload (show decode cX0_firstMeeting 57 = .ok (.iload 6, 2) by decide +kernel) 5 rfl ?_
        obtain ⟨r26, e25, h⟩ := bndO_some h
        refine y_callV (np := 1) (st := []) (as := [.inl x4]) 78 2 (sh_cDy_crowds e25) q5_34 q5_173 q5_32 q5_33 q1_14 (by decide) rfl (by decide) rfl (by decide) (by decide +kernel) (by decide) rfl (Nat.le_of_ble_eq_true rfl) (show decode cX0_firstMeeting 59 = .ok (.invokevirtual 144, 3) by decide +kernel) rfl ?_
        refine y_iconst (show decode cX0_firstMeeting 62 = .ok (.iconst 3, 1) by decide +kernel) rfl ?_
        refine y_iload_n (show decode cX0_firstMeeting 63 = .ok (.iload_n 3, 1) by decide +kernel) 3 rfl ?_
        obtain ⟨c27, h⟩ := chkI_some h
        refine y_imul (show decode cX0_firstMeeting 64 = .ok (.imul, 1) by decide +kernel) c27 ?_
        refine y_ishr (show decode cX0_firstMeeting 65 = .ok (.ishr, 1) by decide +kernel) ?_
        refine y_bipush (show decode cX0_firstMeeting 66 = .ok (.bipush 7, 2) by decide +kernel) rfl rfl ?_
        refine y_iand (show decode cX0_firstMeeting 68 = .ok (.iand, 1) by decide +kernel) ?_
        refine y_iconst (show decode cX0_firstMeeting 69 = .ok (.iconst 2, 1) by decide +kernel) rfl ?_
        by_cases c28 : ¬ (b32and (b32shr r26 (3 * c)) 7) = 2
        · rw [if_pos c28] at h
          refine y_icmp_ne_t (tgt := 85) (show decode cX0_firstMeeting 70 = .ok (.if_icmp .ne 15, 3) by decide +kernel) rfl c28 ?_
          refine y_pick [0, 1, 2, 3, 4, 5] rfl ?_
          exact hj19 _ h
        · rw [if_neg c28] at h
          refine y_icmp_ne_f (show decode cX0_firstMeeting 70 = .ok (.if_icmp .ne 15, 3) by decide +kernel) c28 (by decide) ?_
          refine y_iload (show decode cX0_firstMeeting 73 = .ok (.iload 5, 2) by decide +kernel) 4 rfl ?_
          refine y_aload_n (show decode cX0_firstMeeting 75 = .ok (.aload_n 0, 1) by decide +kernel) 0 rfl ?_
          refine y_getf 58 0 12 49 (by decide) rfl (by decide) (by decide) q2_233 (show decode cX0_firstMeeting 76 = .ok (.getfield 49, 3) by decide +kernel) (v := .inr (.inr (77 + 1))) rfl ?_
          refine y_iload (show decode cX0_firstMeeting 79 = .ok (.iload 6, 2) by decide +kernel) 5 rfl ?_
          obtain ⟨c29, h⟩ := chkA_some h
          refine yo_iald 77 7776 (by decide) rfl c29 (ov_at rfl) (show decode cX0_firstMeeting 81 = .ok (.iaload, 1) by decide +kernel) ?_
          refine y_ior (show decode cX0_firstMeeting 82 = .ok (.ior, 1) by decide +kernel) ?_
          refine y_istore (show decode cX0_firstMeeting 83 = .ok (.istore 5, 2) by decide +kernel) rfl (L1 := [(5, .inl (b32or x3 (σ2 77 (x4).toNat))), (0, .inr (.inr (58 + 1))), (1, .inl a), (2, .inl b), (3, .inl c), (6, .inl x4)]) rfl ?_
          refine y_pick [1, 2, 3, 4, 0, 5] rfl ?_
          exact hj19 _ h
