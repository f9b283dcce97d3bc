abbrev MX6_note : yM := (yX6_note, cX6_note, 4, none)
def cPl_note (o : Nat) (a : Int) (b : Int) (c : Int) (σ : ySt) : Option (ySt) :=
  chk (o = 54 ∨ o = 56) <|
  if ¬ (σ o 1) = 0 then
    some σ
  else
    if c = (-1) then
      some σ
    else
      bnd (yset σ o 1 a) fun σ4 =>
      bnd (yset σ4 o 2 b) fun σ6 =>
      bnd (yset σ6 o 3 c) fun σ8 =>
      some σ8
set_option maxHeartbeats 4000000 in
set_option maxRecDepth 10000 in
theorem sh_cPl_note {E : yE} {o : Nat} {a : Int} {b : Int} {c : Int} {σ : ySt} {τ : ySt} (h : cPl_note o a b c σ = some τ) : Con E MX6_note 0 0 0 [.inr (.inr (o + 1)), .inl a, .inl b, .inl c] 150 (ov σ) none (ov τ) := by
  unfold cPl_note at h
  refine Con.ofY (by decide +kernel) (by simp [yWords, yCat]) (fun hok _ => ?_)
  show Y E MX6_note (yRm 0 0 0) (yQf E (150 + 0) 0 0 none (ov τ)) 0 [(0, .inr (.inr (o + 1))), (1, .inl a), (2, .inl b), (3, .inl c)] [] (ov σ) 150 0 0
  obtain ⟨c1, h⟩ := chk_some h
  refine y_aload_n (show decode cX6_note 0 = .ok (.aload_n 0, 1) by decide +kernel) 0 rfl ?_
  refine y_getf o 6 1 79 (by omega) (by rcases c1 with rfl | rfl <;> rfl) (by decide) (by decide) q2_91 (show decode cX6_note 1 = .ok (.getfield 79, 3) by decide +kernel) (v := .inl (σ o 1)) (by rcases c1 with rfl | rfl <;> rfl) ?_
  by_cases c2 : ¬ (σ o 1) = 0
  · rw [if_pos c2] at h
    refine y_if_ne_t (tgt := 27) (show decode cX6_note 4 = .ok (.ifCond .ne 23, 3) by decide +kernel) rfl c2 ?_
    cases h
    exact y_vret (show decode cX6_note 27 = .ok (.return_, 1) by decide +kernel) rfl
  · rw [if_neg c2] at h
    refine y_if_ne_f (show decode cX6_note 4 = .ok (.ifCond .ne 23, 3) by decide +kernel) c2 (by decide) ?_
    refine y_iload_n (show decode cX6_note 7 = .ok (.iload_n 3, 1) by decide +kernel) 3 rfl ?_
    refine y_iconst (show decode cX6_note 8 = .ok (.iconst (-1), 1) by decide +kernel) rfl ?_
    by_cases c3 : c = (-1)
    · rw [if_pos c3] at h
      refine y_icmp_eq_t (tgt := 27) (show decode cX6_note 9 = .ok (.if_icmp .eq 18, 3) by decide +kernel) rfl c3 ?_
      cases h
      exact y_vret (show decode cX6_note 27 = .ok (.return_, 1) by decide +kernel) rfl
    · rw [if_neg c3] at h
      refine y_icmp_eq_f (show decode cX6_note 9 = .ok (.if_icmp .eq 18, 3) by decide +kernel) c3 (by decide) ?_
      refine y_aload_n (show decode cX6_note 12 = .ok (.aload_n 0, 1) by decide +kernel) 0 rfl ?_
      refine y_iload_n (show decode cX6_note 13 = .ok (.iload_n 1, 1) by decide +kernel) 1 rfl ?_
      obtain ⟨σ4, e5, h⟩ := bnd_i h
      refine yo_putI o 6 1 79 (by omega) (by rcases c1 with rfl | rfl <;> rfl) (by decide) (by decide) q2_91 rfl (show decode cX6_note 14 = .ok (.putfield 79, 3) by decide +kernel) rfl rfl (ov_set1 e5 (by rcases c1 with rfl | rfl <;> rfl)) ?_
      refine y_aload_n (show decode cX6_note 17 = .ok (.aload_n 0, 1) by decide +kernel) 0 rfl ?_
      refine y_iload_n (show decode cX6_note 18 = .ok (.iload_n 2, 1) by decide +kernel) 2 rfl ?_
      obtain ⟨σ6, e7, h⟩ := bnd_i h
      refine yo_putI o 6 2 82 (by omega) (by rcases c1 with rfl | rfl <;> rfl) (by decide) (by decide) q2_93 rfl (show decode cX6_note 19 = .ok (.putfield 82, 3) by decide +kernel) rfl rfl (ov_set1 e7 (by rcases c1 with rfl | rfl <;> rfl)) ?_
      refine y_aload_n (show decode cX6_note 22 = .ok (.aload_n 0, 1) by decide +kernel) 0 rfl ?_
      refine y_iload_n (show decode cX6_note 23 = .ok (.iload_n 3, 1) by decide +kernel) 3 rfl ?_
      obtain ⟨σ8, e9, h⟩ := bnd_i h
      refine yo_putI o 6 3 85 (by omega) (by rcases c1 with rfl | rfl <;> rfl) (by decide) (by decide) q2_95 rfl (show decode cX6_note 24 = .ok (.putfield 85, 3) by decide +kernel) rfl rfl (ov_set1 e9 (by rcases c1 with rfl | rfl <;> rfl)) ?_
      cases h
      exact y_vret (show decode cX6_note 27 = .ok (.return_, 1) by decide +kernel) rfl
abbrev MX6_firstUndone : yM := (yX6_firstUndone, cX6_firstUndone, 4, some .int)
def cPl_firstUndone (N : Nat) (o : Nat) (a : Nat) (b : Int) (σ : ySt) : Option (Int) :=
  chk (o = 54 ∨ o = 56) <|
  chk (a = 13 ∨ a = 33) <|
  loop1 (fun k4 x3 =>
    if x3 ≥ (σ a 14) then
      some (-1)
    else
      chkA 8 x3 <|
      bnd (chkI (x3 + 1) <|
        k4 (x3 + 1)) fun j7 =>
      if ¬ (σ (a + 13) (x3).toNat) = b then
        j7
      else
        chkA 8 x3 <|
        bndO (cPl_placeAt o b (σ (a + 11) (x3).toNat) σ) fun r12 =>
        chkA 8 x3 <|
        if r12 = (σ (a + 12) (x3).toNat) then
          j7
        else
          some x3) N 0
set_option maxHeartbeats 4000000 in
set_option maxRecDepth 10000 in
theorem sh_cPl_firstUndone {E : yE} {N : Nat} {o : Nat} {a : Nat} {b : Int} {σ : ySt} {ρ : Int} (h : cPl_firstUndone N o a b σ = some ρ) : Con E MX6_firstUndone 1 0 0 [.inr (.inr (o + 1)), .inr (.inr (a + 1)), .inl b] 150 (ov σ) (some (.inl ρ)) (ov σ) := by
  unfold cPl_firstUndone at h
  refine Con.ofY (by decide +kernel) (by simp [yWords, yCat]) (fun hok _ => ?_)
  show Y E MX6_firstUndone (yRm 1 0 0) (yQf E (150 + 0) 0 0 (some (.inl ρ)) (ov σ)) 0 [(0, .inr (.inr (o + 1))), (1, .inr (.inr (a + 1))), (2, .inl b)] [] (ov σ) 150 0 0
  obtain ⟨c1, h⟩ := chk_some h
  obtain ⟨c2, h⟩ := chk_some h
  refine y_iconst (show decode cX6_firstUndone 0 = .ok (.iconst 0, 1) by decide +kernel) rfl ?_
  refine y_istore_n (show decode cX6_firstUndone 1 = .ok (.istore_n 3, 1) by decide +kernel) rfl (L1 := [(3, .inl 0), (0, .inr (.inr (o + 1))), (1, .inr (.inr (a + 1))), (2, .inl b)]) rfl ?_
  refine y_pick [1, 2, 3, 0] rfl ?_
  refine loop1_ind (P := fun x3 => Y E MX6_firstUndone (yRm 1 0 0) (yQf E (150 + 0) 0 0 (some (.inl ρ)) (ov σ)) 2 [(0, .inr (.inr (o + 1))), (1, .inr (.inr (a + 1))), (2, .inl b), (3, .inl x3)] [] (ov σ) 150 0 0) (fun k4 hk4 x3 h => ?_) _ _  h
  refine y_iload_n (show decode cX6_firstUndone 2 = .ok (.iload_n 3, 1) by decide +kernel) 3 rfl ?_
  refine y_aload_n (show decode cX6_firstUndone 3 = .ok (.aload_n 1, 1) by decide +kernel) 1 rfl ?_
  refine y_getf a 9 14 117 (by omega) (by rcases c2 with rfl | rfl <;> rfl) (by decide) (by decide) q2_9 (show decode cX6_firstUndone 4 = .ok (.getfield 117, 3) by decide +kernel) (v := .inl (σ a 14)) (by rcases c2 with rfl | rfl <;> rfl) ?_
  by_cases c5 : x3 ≥ (σ a 14)
  · rw [if_pos c5] at h
    refine y_icmp_ge_t (tgt := 48) (show decode cX6_firstUndone 7 = .ok (.if_icmp .ge 41, 3) by decide +kernel) rfl c5 ?_
    refine y_iconst (show decode cX6_firstUndone 48 = .ok (.iconst (-1), 1) by decide +kernel) rfl ?_
    cases h
    exact y_iret (show decode cX6_firstUndone 49 = .ok (.ireturn, 1) by decide +kernel) rfl
  · rw [if_neg c5] at h
    refine y_icmp_ge_f (show decode cX6_firstUndone 7 = .ok (.if_icmp .ge 41, 3) by decide +kernel) c5 (by decide) ?_
    refine y_aload_n (show decode cX6_firstUndone 10 = .ok (.aload_n 1, 1) by decide +kernel) 1 rfl ?_
    refine y_getf a 9 9 120 (by omega) (by rcases c2 with rfl | rfl <;> rfl) (by decide) (by decide) q1_232 (show decode cX6_firstUndone 11 = .ok (.getfield 120, 3) by decide +kernel) (v := .inr (.inr ((a + 13) + 1))) (by rcases c2 with rfl | rfl <;> rfl) ?_
    refine y_iload_n (show decode cX6_firstUndone 14 = .ok (.iload_n 3, 1) by decide +kernel) 3 rfl ?_
    obtain ⟨c6, h⟩ := chkA_some h
    refine yo_iald (a + 13) 8 (by omega) (by rcases c2 with rfl | rfl <;> rfl) c6 (ov_at (by rcases c2 with rfl | rfl <;> rfl)) (show decode cX6_firstUndone 15 = .ok (.iaload, 1) by decide +kernel) ?_
    refine y_iload_n (show decode cX6_firstUndone 16 = .ok (.iload_n 2, 1) by decide +kernel) 2 rfl ?_
    refine bnd_j (Q := fun j7 => j7 = some ρ → Y E MX6_firstUndone (yRm 1 0 0) (yQf E (150 + 0) 0 0 (some (.inl ρ)) (ov σ)) 42 [(0, .inr (.inr (o + 1))), (1, .inr (.inr (a + 1))), (2, .inl b), (3, .inl x3)] [] (ov σ) 150 0 0) (fun h => ?_) (fun j7 hj7 h => ?_) h
    · obtain ⟨c8, h⟩ := chkI_some h
      refine y_iinc (show decode cX6_firstUndone 42 = .ok (.iinc 3 1, 3) by decide +kernel) 3 rfl c8 rfl (L1 := [(3, .inl (x3 + 1)), (0, .inr (.inr (o + 1))), (1, .inr (.inr (a + 1))), (2, .inl b)]) rfl ?_
      refine y_goto (tgt := 2) (show decode cX6_firstUndone 45 = .ok (.goto (-43), 3) by decide +kernel) rfl ?_
      refine y_pick [1, 2, 3, 0] rfl ?_
      exact hk4 _ h
    by_cases c9 : ¬ (σ (a + 13) (x3).toNat) = b
    · rw [if_pos c9] at h
      refine y_icmp_ne_t (tgt := 42) (show decode cX6_firstUndone 17 = .ok (.if_icmp .ne 25, 3) by decide +kernel) rfl c9 ?_
      refine y_pick [0, 1, 2, 3] rfl ?_
      exact hj7 h
    · rw [if_neg c9] at h
      refine y_icmp_ne_f (show decode cX6_firstUndone 17 = .ok (.if_icmp .ne 25, 3) by decide +kernel) c9 (by decide) ?_
      refine y_aload_n (show decode cX6_firstUndone 20 = .ok (.aload_n 0, 1) by decide +kernel) 0 rfl ?_
      refine y_iload_n (show decode cX6_firstUndone 21 = .ok (.iload_n 2, 1) by decide +kernel) 2 rfl ?_
      refine y_aload_n (show decode cX6_firstUndone 22 = .ok (.aload_n 1, 1) by decide +kernel) 1 rfl ?_
      refine y_getf a 9 7 123 (by omega) (by rcases c2 with rfl | rfl <;> rfl) (by decide) (by decide) q1_224 (show decode cX6_firstUndone 23 = .ok (.getfield 123, 3) by decide +kernel) (v := .inr (.inr ((a + 11) + 1))) (by rcases c2 with rfl | rfl <;> rfl) ?_
      refine y_iload_n (show decode cX6_firstUndone 26 = .ok (.iload_n 3, 1) by decide +kernel) 3 rfl ?_
      obtain ⟨c10, h⟩ := chkA_some h
      refine yo_iald (a + 11) 8 (by omega) (by rcases c2 with rfl | rfl <;> rfl) c10 (ov_at (by rcases c2 with rfl | rfl <;> rfl)) (show decode cX6_firstUndone 27 = .ok (.iaload, 1) by decide +kernel) ?_
      obtain ⟨r12, e11, h⟩ := bndO_some h
      refine y_callV (np := 2) (st := []) (as := [.inl b, .inl (σ (a + 11) (x3).toNat)]) o 6 (sh_cPl_placeAt e11) q4_184 q4_181 q4_182 q4_183 q1_10 (by omega) (by rcases c1 with rfl | rfl <;> rfl) (by decide) rfl (by decide) (by decide +kernel) (by decide) rfl (Nat.le_of_ble_eq_true rfl) (show decode cX6_firstUndone 28 = .ok (.invokevirtual 101, 3) by decide +kernel) rfl ?_
      refine y_aload_n (show decode cX6_firstUndone 31 = .ok (.aload_n 1, 1) by decide +kernel) 1 rfl ?_
      refine y_getf a 9 8 126 (by omega) (by rcases c2 with rfl | rfl <;> rfl) (by decide) (by decide) q1_228 (show decode cX6_firstUndone 32 = .ok (.getfield 126, 3) by decide +kernel) (v := .inr (.inr ((a + 12) + 1))) (by rcases c2 with rfl | rfl <;> rfl) ?_
      refine y_iload_n (show decode cX6_firstUndone 35 = .ok (.iload_n 3, 1) by decide +kernel) 3 rfl ?_
      obtain ⟨c13, h⟩ := chkA_some h
      refine yo_iald (a + 12) 8 (by omega) (by rcases c2 with rfl | rfl <;> rfl) c13 (ov_at (by rcases c2 with rfl | rfl <;> rfl)) (show decode cX6_firstUndone 36 = .ok (.iaload, 1) by decide +kernel) ?_
      by_cases c14 : r12 = (σ (a + 12) (x3).toNat)
      · rw [if_pos c14] at h
        refine y_icmp_eq_t (tgt := 42) (show decode cX6_firstUndone 37 = .ok (.if_icmp .eq 5, 3) by decide +kernel) rfl c14 ?_
        refine y_pick [0, 1, 2, 3] rfl ?_
        exact hj7 h
      · rw [if_neg c14] at h
        refine y_icmp_eq_f (show decode cX6_firstUndone 37 = .ok (.if_icmp .eq 5, 3) by decide +kernel) c14 (by decide) ?_
        refine y_iload_n (show decode cX6_firstUndone 40 = .ok (.iload_n 3, 1) by decide +kernel) 3 rfl ?_
        cases h
        exact y_iret (show decode cX6_firstUndone 41 = .ok (.ireturn, 1) by decide +kernel) rfl
abbrev MX6_judgeIn : yM := (yX6_judgeIn, cX6_judgeIn, 3, none)
def cPl_judgeIn (N : Nat) (o : Nat) (a : Nat) (σ : ySt) : Option (ySt) :=
  chk (o = 54 ∨ o = 56) <|
  chk (a = 13 ∨ a = 33) <|
  bnd (yset σ o 1 0) fun σ3 =>
  bnd (yset σ3 o 2 (-1)) fun σ5 =>
  bnd (yset σ5 o 3 (-1)) fun σ7 =>
  loopS1 (fun k11 x9 σ10 =>
    if x9 > (σ10 a 17) then
      some σ10
    else
      if ¬ (σ10 o 1) = 0 then
        some σ10
      else
        bndO (cPl_firstLate N o a x9 σ10) fun r15 =>
        bndO (cPl_note o 1 x9 r15 σ10) fun σ17 =>
        bndO (cPl_firstWrong N o a x9 σ17) fun r19 =>
        bndO (cPl_note o 2 x9 r19 σ17) fun σ21 =>
        bndO (cPl_firstUndone N o a x9 σ21) fun r23 =>
        bndO (cPl_note o 3 x9 r23 σ21) fun σ25 =>
        chkI (x9 + 1) <|
        k11 (x9 + 1) σ25) N 1 σ7
set_option maxHeartbeats 4000000 in
set_option maxRecDepth 10000 in
theorem sh_cPl_judgeIn {E : yE} {N : Nat} {o : Nat} {a : Nat} {σ : ySt} {τ : ySt} (h : cPl_judgeIn N o a σ = some τ) : Con E MX6_judgeIn 2 0 0 [.inr (.inr (o + 1)), .inr (.inr (a + 1))] 150 (ov σ) none (ov τ) := by
  unfold cPl_judgeIn at h
  refine Con.ofY (by decide +kernel) (by simp [yWords, yCat]) (fun hok _ => ?_)
  show Y E MX6_judgeIn (yRm 2 0 0) (yQf E (150 + 0) 0 0 none (ov τ)) 0 [(0, .inr (.inr (o + 1))), (1, .inr (.inr (a + 1)))] [] (ov σ) 150 0 0
  obtain ⟨c1, h⟩ := chk_some h
  obtain ⟨c2, h⟩ := chk_some h
  refine y_aload_n (show decode cX6_judgeIn 0 = .ok (.aload_n 0, 1) by decide +kernel) 0 rfl ?_
  refine y_iconst (show decode cX6_judgeIn 1 = .ok (.iconst 0, 1) by decide +kernel) rfl ?_
  obtain ⟨σ3, e4, h⟩ := bnd_i h
  refine yo_putI o 6 1 79 (by omega) (by rcases c1 with rfl | rfl <;> rfl) (by decide) (by decide) q2_91 rfl (show decode cX6_judgeIn 2 = .ok (.putfield 79, 3) by decide +kernel) rfl rfl (ov_set1 e4 (by rcases c1 with rfl | rfl <;> rfl)) ?_
  refine y_aload_n (show decode cX6_judgeIn 5 = .ok (.aload_n 0, 1) by decide +kernel) 0 rfl ?_
  refine y_iconst (show decode cX6_judgeIn 6 = .ok (.iconst (-1), 1) by decide +kernel) rfl ?_
  obtain ⟨σ5, e6, h⟩ := bnd_i h
  refine yo_putI o 6 2 82 (by omega) (by rcases c1 with rfl | rfl <;> rfl) (by decide) (by decide) q2_93 rfl (show decode cX6_judgeIn 7 = .ok (.putfield 82, 3) by decide +kernel) rfl rfl (ov_set1 e6 (by rcases c1 with rfl | rfl <;> rfl)) ?_
  refine y_aload_n (show decode cX6_judgeIn 10 = .ok (.aload_n 0, 1) by decide +kernel) 0 rfl ?_
  refine y_iconst (show decode cX6_judgeIn 11 = .ok (.iconst (-1), 1) by decide +kernel) rfl ?_
  obtain ⟨σ7, e8, h⟩ := bnd_i h
  refine yo_putI o 6 3 85 (by omega) (by rcases c1 with rfl | rfl <;> rfl) (by decide) (by decide) q2_95 rfl (show decode cX6_judgeIn 12 = .ok (.putfield 85, 3) by decide +kernel) rfl rfl (ov_set1 e8 (by rcases c1 with rfl | rfl <;> rfl)) ?_
  refine y_iconst (show decode cX6_judgeIn 15 = .ok (.iconst 1, 1) by decide +kernel) rfl ?_
  refine y_istore_n (show decode cX6_judgeIn 16 = .ok (.istore_n 2, 1) by decide +kernel) rfl (L1 := [(2, .inl 1), (0, .inr (.inr (o + 1))), (1, .inr (.inr (a + 1)))]) rfl ?_
  refine y_pick [1, 2, 0] rfl ?_
  refine loopS1_ind (P := fun x9 σ10 => Y E MX6_judgeIn (yRm 2 0 0) (yQf E (150 + 0) 0 0 none (ov τ)) 17 [(0, .inr (.inr (o + 1))), (1, .inr (.inr (a + 1))), (2, .inl x9)] [] (ov σ10) 150 0 0) (fun k11 hk11 x9 σ10 h => ?_) _ _ _  h
  refine y_iload_n (show decode cX6_judgeIn 17 = .ok (.iload_n 2, 1) by decide +kernel) 2 rfl ?_
  refine y_aload_n (show decode cX6_judgeIn 18 = .ok (.aload_n 1, 1) by decide +kernel) 1 rfl ?_
  refine y_getf a 9 17 73 (by omega) (by rcases c2 with rfl | rfl <;> rfl) (by decide) (by decide) q2_21 (show decode cX6_judgeIn 19 = .ok (.getfield 73, 3) by decide +kernel) (v := .inl (σ10 a 17)) (by rcases c2 with rfl | rfl <;> rfl) ?_
  by_cases c12 : x9 > (σ10 a 17)
  · rw [if_pos c12] at h
    refine y_icmp_gt_t (tgt := 74) (show decode cX6_judgeIn 22 = .ok (.if_icmp .gt 52, 3) by decide +kernel) rfl c12 ?_
    cases h
    exact y_vret (show decode cX6_judgeIn 74 = .ok (.return_, 1) by decide +kernel) rfl
  · rw [if_neg c12] at h
    refine y_icmp_gt_f (show decode cX6_judgeIn 22 = .ok (.if_icmp .gt 52, 3) by decide +kernel) c12 (by decide) ?_
    refine y_aload_n (show decode cX6_judgeIn 25 = .ok (.aload_n 0, 1) by decide +kernel) 0 rfl ?_
    refine y_getf o 6 1 79 (by omega) (by rcases c1 with rfl | rfl <;> rfl) (by decide) (by decide) q2_91 (show decode cX6_judgeIn 26 = .ok (.getfield 79, 3) by decide +kernel) (v := .inl (σ10 o 1)) (by rcases c1 with rfl | rfl <;> rfl) ?_
    by_cases c13 : ¬ (σ10 o 1) = 0
    · rw [if_pos c13] at h
      refine y_if_ne_t (tgt := 74) (show decode cX6_judgeIn 29 = .ok (.ifCond .ne 45, 3) by decide +kernel) rfl c13 ?_
      cases h
      exact y_vret (show decode cX6_judgeIn 74 = .ok (.return_, 1) by decide +kernel) rfl
    · rw [if_neg c13] at h
      refine y_if_ne_f (show decode cX6_judgeIn 29 = .ok (.ifCond .ne 45, 3) by decide +kernel) c13 (by decide) ?_
      refine y_aload_n (show decode cX6_judgeIn 32 = .ok (.aload_n 0, 1) by decide +kernel) 0 rfl ?_
      refine y_iconst (show decode cX6_judgeIn 33 = .ok (.iconst 1, 1) by decide +kernel) rfl ?_
      refine y_iload_n (show decode cX6_judgeIn 34 = .ok (.iload_n 2, 1) by decide +kernel) 2 rfl ?_
      refine y_aload_n (show decode cX6_judgeIn 35 = .ok (.aload_n 0, 1) by decide +kernel) 0 rfl ?_
      refine y_aload_n (show decode cX6_judgeIn 36 = .ok (.aload_n 1, 1) by decide +kernel) 1 rfl ?_
      refine y_iload_n (show decode cX6_judgeIn 37 = .ok (.iload_n 2, 1) by decide +kernel) 2 rfl ?_
      obtain ⟨r15, e14, h⟩ := bndO_some h
      refine y_callV (np := 2) (st := [.inl x9, .inl 1, .inr (.inr (o + 1))]) (as := [.inr (.inr (a + 1)), .inl x9]) o 6 (sh_cPl_firstLate e14) q4_180 q4_177 q4_179 qs2_11 q1_10 (by omega) (by rcases c1 with rfl | rfl <;> rfl) (by decide) rfl (by decide) (by decide +kernel) (by decide) rfl (Nat.le_of_ble_eq_true rfl) (show decode cX6_judgeIn 38 = .ok (.invokevirtual 88, 3) by decide +kernel) rfl ?_
      obtain ⟨σ17, e16, h⟩ := bndO_some h
      refine y_callV (np := 3) (st := []) (as := [.inl 1, .inl x9, .inl r15]) o 6 (sh_cPl_note e16) q4_192 q4_189 q4_191 qs2_12 q1_10 (by omega) (by rcases c1 with rfl | rfl <;> rfl) (by decide) rfl (by decide) (by decide +kernel) (by decide) rfl (Nat.le_of_ble_eq_true rfl) (show decode cX6_judgeIn 41 = .ok (.invokevirtual 92, 3) by decide +kernel) rfl ?_
      refine y_aload_n (show decode cX6_judgeIn 44 = .ok (.aload_n 0, 1) by decide +kernel) 0 rfl ?_
      refine y_iconst (show decode cX6_judgeIn 45 = .ok (.iconst 2, 1) by decide +kernel) rfl ?_
      refine y_iload_n (show decode cX6_judgeIn 46 = .ok (.iload_n 2, 1) by decide +kernel) 2 rfl ?_
      refine y_aload_n (show decode cX6_judgeIn 47 = .ok (.aload_n 0, 1) by decide +kernel) 0 rfl ?_
      refine y_aload_n (show decode cX6_judgeIn 48 = .ok (.aload_n 1, 1) by decide +kernel) 1 rfl ?_
      refine y_iload_n (show decode cX6_judgeIn 49 = .ok (.iload_n 2, 1) by decide +kernel) 2 rfl ?_
      obtain ⟨r19, e18, h⟩ := bndO_some h
      refine y_callV (np := 2) (st := [.inl x9, .inl 2, .inr (.inr (o + 1))]) (as := [.inr (.inr (a + 1)), .inl x9]) o 6 (sh_cPl_firstWrong e18) q4_196 q4_193 q4_195 qs2_13 q1_10 (by omega) (by rcases c1 with rfl | rfl <;> rfl) (by decide) rfl (by decide) (by decide +kernel) (by decide) rfl (Nat.le_of_ble_eq_true rfl) (show decode cX6_judgeIn 50 = .ok (.invokevirtual 95, 3) by decide +kernel) rfl ?_
      obtain ⟨σ21, e20, h⟩ := bndO_some h
      refine y_callV (np := 3) (st := []) (as := [.inl 2, .inl x9, .inl r19]) o 6 (sh_cPl_note e20) q4_192 q4_189 q4_191 qs2_12 q1_10 (by omega) (by rcases c1 with rfl | rfl <;> rfl) (by decide) rfl (by decide) (by decide +kernel) (by decide) rfl (Nat.le_of_ble_eq_true rfl) (show decode cX6_judgeIn 53 = .ok (.invokevirtual 92, 3) by decide +kernel) rfl ?_
      refine y_aload_n (show decode cX6_judgeIn 56 = .ok (.aload_n 0, 1) by decide +kernel) 0 rfl ?_
      refine y_iconst (show decode cX6_judgeIn 57 = .ok (.iconst 3, 1) by decide +kernel) rfl ?_
      refine y_iload_n (show decode cX6_judgeIn 58 = .ok (.iload_n 2, 1) by decide +kernel) 2 rfl ?_
      refine y_aload_n (show decode cX6_judgeIn 59 = .ok (.aload_n 0, 1) by decide +kernel) 0 rfl ?_
      refine y_aload_n (show decode cX6_judgeIn 60 = .ok (.aload_n 1, 1) by decide +kernel) 1 rfl ?_
      refine y_iload_n (show decode cX6_judgeIn 61 = .ok (.iload_n 2, 1) by decide +kernel) 2 rfl ?_
      obtain ⟨r23, e22, h⟩ := bndO_some h
      refine y_callV (np := 2) (st := [.inl x9, .inl 3, .inr (.inr (o + 1))]) (as := [.inr (.inr (a + 1)), .inl x9]) o 6 (sh_cPl_firstUndone e22) q4_205 q4_202 q4_204 qs2_14 q1_10 (by omega) (by rcases c1 with rfl | rfl <;> rfl) (by decide) rfl (by decide) (by decide +kernel) (by decide) rfl (Nat.le_of_ble_eq_true rfl) (show decode cX6_judgeIn 62 = .ok (.invokevirtual 98, 3) by decide +kernel) rfl ?_
      obtain ⟨σ25, e24, h⟩ := bndO_some h
      refine y_callV (np := 3) (st := []) (as := [.inl 3, .inl x9, .inl r23]) o 6 (sh_cPl_note e24) q4_192 q4_189 q4_191 qs2_12 q1_10 (by omega) (by rcases c1 with rfl | rfl <;> rfl) (by decide) rfl (by decide) (by decide +kernel) (by decide) rfl (Nat.le_of_ble_eq_true rfl) (show decode cX6_judgeIn 65 = .ok (.invokevirtual 92, 3) by decide +kernel) rfl ?_
      obtain ⟨c26, h⟩ := chkI_some h
      refine y_iinc (show decode cX6_judgeIn 68 = .ok (.iinc 2 1, 3) by decide +kernel) 2 rfl c26 rfl (L1 := [(2, .inl (x9 + 1)), (0, .inr (.inr (o + 1))), (1, .inr (.inr (a + 1)))]) rfl ?_
      refine y_goto (tgt := 17) (show decode cX6_judgeIn 71 = .ok (.goto (-54), 3) by decide +kernel) rfl ?_
      refine y_pick [1, 2, 0] rfl ?_
      exact hk11 _ _ h
abbrev MX7_clear : yM := (yX7_clear, cX7_clear, 1, none)
def cRu_clear (o : Nat) (σ : ySt) : Option (ySt) :=
  chk (o = 30 ∨ o = 50) <|
  bnd (yset σ o 2 0) fun σ2 =>
  bnd (yset σ2 o 3 0) fun σ4 =>
  some σ4
set_option maxHeartbeats 4000000 in
set_option maxRecDepth 10000 in
theorem sh_cRu_clear {E : yE} {o : Nat} {σ : ySt} {τ : ySt} (h : cRu_clear o σ = some τ) : Con E MX7_clear 0 0 0 [.inr (.inr (o + 1))] 150 (ov σ) none (ov τ) := by
  unfold cRu_clear at h
  refine Con.ofY (by decide +kernel) (by simp [yWords, yCat]) (fun hok _ => ?_)
  show Y E MX7_clear (yRm 0 0 0) (yQf E (150 + 0) 0 0 none (ov τ)) 0 [(0, .inr (.inr (o + 1)))] [] (ov σ) 150 0 0
  obtain ⟨c1, h⟩ := chk_some h
  refine y_aload_n (show decode cX7_clear 0 = .ok (.aload_n 0, 1) by decide +kernel) 0 rfl ?_
  refine y_iconst (show decode cX7_clear 1 = .ok (.iconst 0, 1) by decide +kernel) rfl ?_
  obtain ⟨σ2, e3, h⟩ := bnd_i h
  refine yo_putI o 7 2 18 (by omega) (by rcases c1 with rfl | rfl <;> rfl) (by decide) (by decide) q1_167 rfl (show decode cX7_clear 2 = .ok (.putfield 18, 3) by decide +kernel) rfl rfl (ov_set1 e3 (by rcases c1 with rfl | rfl <;> rfl)) ?_
  refine y_aload_n (show decode cX7_clear 5 = .ok (.aload_n 0, 1) by decide +kernel) 0 rfl ?_
  refine y_iconst (show decode cX7_clear 6 = .ok (.iconst 0, 1) by decide +kernel) rfl ?_
  obtain ⟨σ4, e5, h⟩ := bnd_i h
  refine yo_putI o 7 3 22 (by omega) (by rcases c1 with rfl | rfl <;> rfl) (by decide) (by decide) q1_168 rfl (show decode cX7_clear 7 = .ok (.putfield 22, 3) by decide +kernel) rfl rfl (ov_set1 e5 (by rcases c1 with rfl | rfl <;> rfl)) ?_
  cases h
  exact y_vret (show decode cX7_clear 10 = .ok (.return_, 1) by decide +kernel) rfl
abbrev MX7_put : yM := (yX7_put, cX7_put, 2, some .boolean)
def cRu_put (o : Nat) (a : Int) (σ : ySt) : Option (Int × ySt) :=
  chk (o = 30 ∨ o = 50) <|
  if (σ o 2) < 400 then
    chkA 400 (σ o 2) <|
    bnd (yset σ (o + 1) ((σ o 2)).toNat a) fun σ4 =>
    chkI ((σ4 o 2) + 1) <|
    bnd (yset σ4 o 2 ((σ4 o 2) + 1)) fun σ7 =>
    some (1, σ7)
  else
    some (0, σ)
set_option maxHeartbeats 4000000 in
set_option maxRecDepth 10000 in
theorem sh_cRu_put {E : yE} {o : Nat} {a : Int} {σ : ySt} {ρ : Int} {τ : ySt} (h : cRu_put o a σ = some (ρ, τ)) : Con E MX7_put 0 0 0 [.inr (.inr (o + 1)), .inl a] 150 (ov σ) (some (.inl ρ)) (ov τ) := by
  unfold cRu_put at h
  refine Con.ofY (by decide +kernel) (by simp [yWords, yCat]) (fun hok _ => ?_)
  show Y E MX7_put (yRm 0 0 0) (yQf E (150 + 0) 0 0 (some (.inl ρ)) (ov τ)) 0 [(0, .inr (.inr (o + 1))), (1, .inl a)] [] (ov σ) 150 0 0
  obtain ⟨c1, h⟩ := chk_some h
  refine y_aload_n (show decode cX7_put 0 = .ok (.aload_n 0, 1) by decide +kernel) 0 rfl ?_
  refine y_getf o 7 2 18 (by omega) (by rcases c1 with rfl | rfl <;> rfl) (by decide) (by decide) q1_167 (show decode cX7_put 1 = .ok (.getfield 18, 3) by decide +kernel) (v := .inl (σ o 2)) (by rcases c1 with rfl | rfl <;> rfl) ?_
  refine y_sipush (show decode cX7_put 4 = .ok (.sipush 400, 3) by decide +kernel) rfl rfl ?_
  by_cases c2 : (σ o 2) < 400
  · rw [if_pos c2] at h
    refine y_icmp_lt_t (tgt := 12) (show decode cX7_put 7 = .ok (.if_icmp .lt 5, 3) by decide +kernel) rfl c2 ?_
    refine y_aload_n (show decode cX7_put 12 = .ok (.aload_n 0, 1) by decide +kernel) 0 rfl ?_
    refine y_getf o 7 0 9 (by omega) (by rcases c1 with rfl | rfl <;> rfl) (by decide) (by decide) q1_165 (show decode cX7_put 13 = .ok (.getfield 9, 3) by decide +kernel) (v := .inr (.inr ((o + 1) + 1))) (by rcases c1 with rfl | rfl <;> rfl) ?_
    refine y_aload_n (show decode cX7_put 16 = .ok (.aload_n 0, 1) by decide +kernel) 0 rfl ?_
    refine y_getf o 7 2 18 (by omega) (by rcases c1 with rfl | rfl <;> rfl) (by decide) (by decide) q1_167 (show decode cX7_put 17 = .ok (.getfield 18, 3) by decide +kernel) (v := .inl (σ o 2)) (by rcases c1 with rfl | rfl <;> rfl) ?_
    refine y_iload_n (show decode cX7_put 20 = .ok (.iload_n 1, 1) by decide +kernel) 1 rfl ?_
    obtain ⟨c3, h⟩ := chkA_some h
    obtain ⟨σ4, e5, h⟩ := bnd_i h
    refine yo_iast (o + 1) 400 (by omega) (by rcases c1 with rfl | rfl <;> rfl) c3 (ov_set1 e5 (by rcases c1 with rfl | rfl <;> rfl)) (show decode cX7_put 21 = .ok (.iastore, 1) by decide +kernel) ?_
    refine y_aload_n (show decode cX7_put 22 = .ok (.aload_n 0, 1) by decide +kernel) 0 rfl ?_
    refine y_dup (show decode cX7_put 23 = .ok (.dup, 1) by decide +kernel) rfl ?_
    refine y_getf o 7 2 18 (by omega) (by rcases c1 with rfl | rfl <;> rfl) (by decide) (by decide) q1_167 (show decode cX7_put 24 = .ok (.getfield 18, 3) by decide +kernel) (v := .inl (σ4 o 2)) (by rcases c1 with rfl | rfl <;> rfl) ?_
    refine y_iconst (show decode cX7_put 27 = .ok (.iconst 1, 1) by decide +kernel) rfl ?_
    obtain ⟨c6, h⟩ := chkI_some h
    refine y_iadd (show decode cX7_put 28 = .ok (.iadd, 1) by decide +kernel) c6 ?_
    obtain ⟨σ7, e8, h⟩ := bnd_i h
    refine yo_putI o 7 2 18 (by omega) (by rcases c1 with rfl | rfl <;> rfl) (by decide) (by decide) q1_167 rfl (show decode cX7_put 29 = .ok (.putfield 18, 3) by decide +kernel) rfl rfl (ov_set1 e8 (by rcases c1 with rfl | rfl <;> rfl)) ?_
    refine y_iconst (show decode cX7_put 32 = .ok (.iconst 1, 1) by decide +kernel) rfl ?_
    cases h
    exact y_zret (show decode cX7_put 33 = .ok (.ireturn, 1) by decide +kernel) rfl (Or.inr rfl)
  · rw [if_neg c2] at h
    refine y_icmp_lt_f (show decode cX7_put 7 = .ok (.if_icmp .lt 5, 3) by decide +kernel) c2 (by decide) ?_
    refine y_iconst (show decode cX7_put 10 = .ok (.iconst 0, 1) by decide +kernel) rfl ?_
    cases h
    exact y_zret (show decode cX7_put 11 = .ok (.ireturn, 1) by decide +kernel) rfl (Or.inl rfl)
abbrev MX7_isName : yM := (yX7_isName, cX7_isName, 1, some .boolean)
def cRu_isName (a : Int) (σ : ySt) : Option (Int) :=
  if a = 117 then
    some 1
  else
    if a = 109 then
      some 1
    else
      if a = 100 then
        some 1
      else
        if ¬ a = 118 then
          some 0
        else
          some 1
set_option maxHeartbeats 4000000 in
set_option maxRecDepth 10000 in
theorem sh_cRu_isName {E : yE} {a : Int} {σ : ySt} {ρ : Int} (h : cRu_isName a σ = some ρ) : Con E MX7_isName 0 0 0 [.inl a] 150 (ov σ) (some (.inl ρ)) (ov σ) := by
  unfold cRu_isName at h
  refine Con.ofY (by decide +kernel) (by simp [yWords, yCat]) (fun hok _ => ?_)
  show Y E MX7_isName (yRm 0 0 0) (yQf E (150 + 0) 0 0 (some (.inl ρ)) (ov σ)) 0 [(0, .inl a)] [] (ov σ) 150 0 0
  refine y_iload_n (show decode cX7_isName 0 = .ok (.iload_n 0, 1) by decide +kernel) 0 rfl ?_
  refine y_bipush (show decode cX7_isName 1 = .ok (.bipush 117, 2) by decide +kernel) rfl rfl ?_
  by_cases c1 : a = 117
  · rw [if_pos c1] at h
    refine y_icmp_eq_t (tgt := 24) (show decode cX7_isName 3 = .ok (.if_icmp .eq 21, 3) by decide +kernel) rfl c1 ?_
    refine y_iconst (show decode cX7_isName 24 = .ok (.iconst 1, 1) by decide +kernel) rfl ?_
    refine y_goto (tgt := 29) (show decode cX7_isName 25 = .ok (.goto 4, 3) by decide +kernel) rfl ?_
    cases h
    exact y_zret (show decode cX7_isName 29 = .ok (.ireturn, 1) by decide +kernel) rfl (Or.inr rfl)
  · rw [if_neg c1] at h
    refine y_icmp_eq_f (show decode cX7_isName 3 = .ok (.if_icmp .eq 21, 3) by decide +kernel) c1 (by decide) ?_
    refine y_iload_n (show decode cX7_isName 6 = .ok (.iload_n 0, 1) by decide +kernel) 0 rfl ?_
    refine y_bipush (show decode cX7_isName 7 = .ok (.bipush 109, 2) by decide +kernel) rfl rfl ?_
    by_cases c2 : a = 109
    · rw [if_pos c2] at h
      refine y_icmp_eq_t (tgt := 24) (show decode cX7_isName 9 = .ok (.if_icmp .eq 15, 3) by decide +kernel) rfl c2 ?_
      refine y_iconst (show decode cX7_isName 24 = .ok (.iconst 1, 1) by decide +kernel) rfl ?_
      refine y_goto (tgt := 29) (show decode cX7_isName 25 = .ok (.goto 4, 3) by decide +kernel) rfl ?_
      cases h
      exact y_zret (show decode cX7_isName 29 = .ok (.ireturn, 1) by decide +kernel) rfl (Or.inr rfl)
    · rw [if_neg c2] at h
      refine y_icmp_eq_f (show decode cX7_isName 9 = .ok (.if_icmp .eq 15, 3) by decide +kernel) c2 (by decide) ?_
      refine y_iload_n (show decode cX7_isName 12 = .ok (.iload_n 0, 1) by decide +kernel) 0 rfl ?_
      refine y_bipush (show decode cX7_isName 13 = .ok (.bipush 100, 2) by decide +kernel) rfl rfl ?_
      by_cases c3 : a = 100
      · rw [if_pos c3] at h
        refine y_icmp_eq_t (tgt := 24) (show decode cX7_isName 15 = .ok (.if_icmp .eq 9, 3) by decide +kernel) rfl c3 ?_
        refine y_iconst (show decode cX7_isName 24 = .ok (.iconst 1, 1) by decide +kernel) rfl ?_
        refine y_goto (tgt := 29) (show decode cX7_isName 25 = .ok (.goto 4, 3) by decide +kernel) rfl ?_
        cases h
        exact y_zret (show decode cX7_isName 29 = .ok (.ireturn, 1) by decide +kernel) rfl (Or.inr rfl)
      · rw [if_neg c3] at h
        refine y_icmp_eq_f (show decode cX7_isName 15 = .ok (.if_icmp .eq 9, 3) by decide +kernel) c3 (by decide) ?_
        refine y_iload_n (show decode cX7_isName 18 = .ok (.iload_n 0, 1) by decide +kernel) 0 rfl ?_
        refine y_bipush (show decode cX7_isName 19 = .ok (.bipush 118, 2) by decide +kernel) rfl rfl ?_
        by_cases c4 : ¬ a = 118
        · rw [if_pos c4] at h
          refine y_icmp_ne_t (tgt := 28) (show decode cX7_isName 21 = .ok (.if_icmp .ne 7, 3) by decide +kernel) rfl c4 ?_
          refine y_iconst (show decode cX7_isName 28 = .ok (.iconst 0, 1) by decide +kernel) rfl ?_
          cases h
          exact y_zret (show decode cX7_isName 29 = .ok (.ireturn, 1) by decide +kernel) rfl (Or.inl rfl)
        · rw [if_neg c4] at h
          refine y_icmp_ne_f (show decode cX7_isName 21 = .ok (.if_icmp .ne 7, 3) by decide +kernel) c4 (by decide) ?_
          refine y_iconst (show decode cX7_isName 24 = .ok (.iconst 1, 1) by decide +kernel) rfl ?_
          refine y_goto (tgt := 29) (show decode cX7_isName 25 = .ok (.goto 4, 3) by decide +kernel) rfl ?_
          cases h
          exact y_zret (show decode cX7_isName 29 = .ok (.ireturn, 1) by decide +kernel) rfl (Or.inr rfl)
abbrev MX7_beginsUnit : yM := (yX7_beginsUnit, cX7_beginsUnit, 1, some .boolean)
def cRu_beginsUnit (a : Int) (σ : ySt) : Option (Int) :=
  if a = 2 then
    some 1
  else
    if a = 40 then
      some 1
    else
      bndO (cRu_isName a σ) fun r4 =>
      if r4 = 0 then
        some 0
      else
        some 1
set_option maxHeartbeats 4000000 in
set_option maxRecDepth 10000 in
theorem sh_cRu_beginsUnit {E : yE} {a : Int} {σ : ySt} {ρ : Int} (h : cRu_beginsUnit a σ = some ρ) : Con E MX7_beginsUnit 1 0 0 [.inl a] 150 (ov σ) (some (.inl ρ)) (ov σ) := by
  unfold cRu_beginsUnit at h
  refine Con.ofY (by decide +kernel) (by simp [yWords, yCat]) (fun hok _ => ?_)
  show Y E MX7_beginsUnit (yRm 1 0 0) (yQf E (150 + 0) 0 0 (some (.inl ρ)) (ov σ)) 0 [(0, .inl a)] [] (ov σ) 150 0 0
  refine y_iload_n (show decode cX7_beginsUnit 0 = .ok (.iload_n 0, 1) by decide +kernel) 0 rfl ?_
  refine y_iconst (show decode cX7_beginsUnit 1 = .ok (.iconst 2, 1) by decide +kernel) rfl ?_
  by_cases c1 : a = 2
  · rw [if_pos c1] at h
    refine y_icmp_eq_t (tgt := 18) (show decode cX7_beginsUnit 2 = .ok (.if_icmp .eq 16, 3) by decide +kernel) rfl c1 ?_
    refine y_iconst (show decode cX7_beginsUnit 18 = .ok (.iconst 1, 1) by decide +kernel) rfl ?_
    refine y_goto (tgt := 23) (show decode cX7_beginsUnit 19 = .ok (.goto 4, 3) by decide +kernel) rfl ?_
    cases h
    exact y_zret (show decode cX7_beginsUnit 23 = .ok (.ireturn, 1) by decide +kernel) rfl (Or.inr rfl)
  · rw [if_neg c1] at h
    refine y_icmp_eq_f (show decode cX7_beginsUnit 2 = .ok (.if_icmp .eq 16, 3) by decide +kernel) c1 (by decide) ?_
    refine y_iload_n (show decode cX7_beginsUnit 5 = .ok (.iload_n 0, 1) by decide +kernel) 0 rfl ?_
    refine y_bipush (show decode cX7_beginsUnit 6 = .ok (.bipush 40, 2) by decide +kernel) rfl rfl ?_
    by_cases c2 : a = 40
    · rw [if_pos c2] at h
      refine y_icmp_eq_t (tgt := 18) (show decode cX7_beginsUnit 8 = .ok (.if_icmp .eq 10, 3) by decide +kernel) rfl c2 ?_
      refine y_iconst (show decode cX7_beginsUnit 18 = .ok (.iconst 1, 1) by decide +kernel) rfl ?_
      refine y_goto (tgt := 23) (show decode cX7_beginsUnit 19 = .ok (.goto 4, 3) by decide +kernel) rfl ?_
      cases h
      exact y_zret (show decode cX7_beginsUnit 23 = .ok (.ireturn, 1) by decide +kernel) rfl (Or.inr rfl)
    · rw [if_neg c2] at h
      refine y_icmp_eq_f (show decode cX7_beginsUnit 8 = .ok (.if_icmp .eq 10, 3) by decide +kernel) c2 (by decide) ?_
      refine y_iload_n (show decode cX7_beginsUnit 11 = .ok (.iload_n 0, 1) by decide +kernel) 0 rfl ?_
      obtain ⟨r4, e3, h⟩ := bndO_some h
      refine y_callS (np := 1) (st := []) (as := [.inl a]) (sh_cRu_isName e3) q2_131 q2_129 q2_130 q1_7 (by decide) (by decide +kernel) (by decide) rfl (Nat.le_of_ble_eq_true rfl) (show decode cX7_beginsUnit 12 = .ok (.invokestatic 75, 3) by decide +kernel) rfl ?_
      by_cases c5 : r4 = 0
      · rw [if_pos c5] at h
        refine y_if_eq_t (tgt := 22) (show decode cX7_beginsUnit 15 = .ok (.ifCond .eq 7, 3) by decide +kernel) rfl c5 ?_
        refine y_iconst (show decode cX7_beginsUnit 22 = .ok (.iconst 0, 1) by decide +kernel) rfl ?_
        cases h
        exact y_zret (show decode cX7_beginsUnit 23 = .ok (.ireturn, 1) by decide +kernel) rfl (Or.inl rfl)
      · rw [if_neg c5] at h
        refine y_if_eq_f (show decode cX7_beginsUnit 15 = .ok (.ifCond .eq 7, 3) by decide +kernel) c5 (by decide) ?_
        refine y_iconst (show decode cX7_beginsUnit 18 = .ok (.iconst 1, 1) by decide +kernel) rfl ?_
        refine y_goto (tgt := 23) (show decode cX7_beginsUnit 19 = .ok (.goto 4, 3) by decide +kernel) rfl ?_
        cases h
        exact y_zret (show decode cX7_beginsUnit 23 = .ok (.ireturn, 1) by decide +kernel) rfl (Or.inr rfl)
abbrev MX7_readEither : yM := (yX7_readEither, cX7_readEither, 5, some .boolean)
abbrev MX7_readBoth : yM := (yX7_readBoth, cX7_readBoth, 5, some .boolean)
abbrev MX7_readOne : yM := (yX7_readOne, cX7_readOne, 3, some .boolean)
abbrev MX7_readRelation : yM := (yX7_readRelation, cX7_readRelation, 4, some .boolean)
abbrev MX7_readSum : yM := (yX7_readSum, cX7_readSum, 6, some .boolean)
abbrev MX7_readTerm : yM := (yX7_readTerm, cX7_readTerm, 6, some .boolean)
abbrev MX7_readUnit : yM := (yX7_readUnit, cX7_readUnit, 5, some .boolean)
def cRu_readEither_b (rec : Nat → Nat → Int → ySt → Option (Int × ySt)) (N : Nat) (o : Nat) (b : Int) (σ : ySt) : Option (Int × ySt) :=
  chk (o = 30 ∨ o = 50) <|
  bndR (rec 1 o b σ) fun r3 σ4 =>
  loopS2 (fun k8 x5 x6 σ7 =>
    if x6 ≥ 1600 then
      chk (x5 = 0 ∨ x5 = 1) <|
      some (x5, σ7)
    else
      if x5 = 0 then
        chk (x5 = 0 ∨ x5 = 1) <|
        some (x5, σ7)
      else
        if ¬ (σ7 1 3) = 114 then
          chk (x5 = 0 ∨ x5 = 1) <|
          some (x5, σ7)
        else
          bndO (cTp_step N σ7) fun σ16 =>
          bndR (rec 1 o b σ16) fun r18 σ19 =>
          bnd (fun (y20 : Int) (σ21 : ySt) =>
            chkI (x6 + 1) <|
            k8 y20 (x6 + 1) σ21) fun j22 =>
          if r18 = 0 then
            j22 0 σ19
          else
            bndR (cRu_put o (-114) σ19) fun r26 σ27 =>
            if r26 = 0 then
              j22 0 σ27
            else
              j22 1 σ27) N r3 0 σ4
set_option maxHeartbeats 4000000 in
set_option maxRecDepth 10000 in
theorem shb_cRu_readEither {E : yE} {rec : Nat → Nat → Int → ySt → Option (Int × ySt)} {dp : Nat} {N : Nat} {o : Nat} {b : Int} {σ : ySt} {ρ : Int} {τ : ySt} (hrec_readBoth : ∀ {o : Nat} {b : Int} {σ : ySt} {ρ : Int} {τ : ySt}, rec 1 o b σ = some (ρ, τ) → Con E MX7_readBoth (10 + dp) 0 0 [.inr (.inr (o + 1)), .inr (.inr (1 + 1)), .inl b] 150 (ov σ) (some (.inl ρ)) (ov τ)) (h : cRu_readEither_b rec N o b σ = some (ρ, τ)) : Con E MX7_readEither (10 + dp + 1) 0 0 [.inr (.inr (o + 1)), .inr (.inr (1 + 1)), .inl b] 150 (ov σ) (some (.inl ρ)) (ov τ) := by
  unfold cRu_readEither_b at h
  refine Con.ofY (by decide +kernel) (by simp [yWords, yCat]) (fun hok _ => ?_)
  show Y E MX7_readEither (yRm (10 + dp + 1) 0 0) (yQf E (150 + 0) 0 0 (some (.inl ρ)) (ov τ)) 0 [(0, .inr (.inr (o + 1))), (1, .inr (.inr (1 + 1))), (2, .inl b)] [] (ov σ) 150 0 0
  obtain ⟨c1, h⟩ := chk_some h
  refine y_aload_n (show decode cX7_readEither 0 = .ok (.aload_n 0, 1) by decide +kernel) 0 rfl ?_
  refine y_aload_n (show decode cX7_readEither 1 = .ok (.aload_n 1, 1) by decide +kernel) 1 rfl ?_
  refine y_iload_n (show decode cX7_readEither 2 = .ok (.iload_n 2, 1) by decide +kernel) 2 rfl ?_
  obtain ⟨r3, σ4, e2, h⟩ := bndR_some h
  refine y_callV (np := 2) (st := []) (as := [.inr (.inr (1 + 1)), .inl b]) o 7 (hrec_readBoth e2) q4_73 q4_70 q4_72 qs2_2 q1_7 (by omega) (by rcases c1 with rfl | rfl <;> rfl) (by decide) rfl (by decide) (by decide +kernel) (by simp only [yRm, MX7_readBoth]; omega) rfl (Nat.le_of_ble_eq_true rfl) (show decode cX7_readEither 3 = .ok (.invokevirtual 25, 3) by decide +kernel) rfl ?_
  refine y_istore_n (show decode cX7_readEither 6 = .ok (.istore_n 3, 1) by decide +kernel) rfl (L1 := [(3, .inl r3), (0, .inr (.inr (o + 1))), (1, .inr (.inr (1 + 1))), (2, .inl b)]) rfl ?_
  refine y_iconst (show decode cX7_readEither 7 = .ok (.iconst 0, 1) by decide +kernel) rfl ?_
  refine y_istore (show decode cX7_readEither 8 = .ok (.istore 4, 2) by decide +kernel) rfl (L1 := [(4, .inl 0), (3, .inl r3), (0, .inr (.inr (o + 1))), (1, .inr (.inr (1 + 1))), (2, .inl b)]) rfl ?_
  refine y_pick [2, 3, 4, 1, 0] rfl ?_
  refine loopS2_ind (P := fun x5 x6 σ7 => Y E MX7_readEither (yRm (10 + dp + 1) 0 0) (yQf E (150 + 0) 0 0 (some (.inl ρ)) (ov τ)) 10 [(0, .inr (.inr (o + 1))), (1, .inr (.inr (1 + 1))), (2, .inl b), (3, .inl x5), (4, .inl x6)] [] (ov σ7) 150 0 0) (fun k8 hk8 x5 x6 σ7 h => ?_) _ _ _ _  h
  refine y_iload (show decode cX7_readEither 10 = .ok (.iload 4, 2) by decide +kernel) 4 rfl ?_
  refine y_sipush (show decode cX7_readEither 12 = .ok (.sipush 1600, 3) by decide +kernel) rfl rfl ?_
  by_cases c9 : x6 ≥ 1600
  · rw [if_pos c9] at h
    refine y_icmp_ge_t (tgt := 65) (show decode cX7_readEither 15 = .ok (.if_icmp .ge 50, 3) by decide +kernel) rfl c9 ?_
    refine y_iload_n (show decode cX7_readEither 65 = .ok (.iload_n 3, 1) by decide +kernel) 3 rfl ?_
    obtain ⟨c10, h⟩ := chk_some h
    cases h
    exact y_zret (show decode cX7_readEither 66 = .ok (.ireturn, 1) by decide +kernel) rfl c10
  · rw [if_neg c9] at h
    refine y_icmp_ge_f (show decode cX7_readEither 15 = .ok (.if_icmp .ge 50, 3) by decide +kernel) c9 (by decide) ?_
    refine y_iload_n (show decode cX7_readEither 18 = .ok (.iload_n 3, 1) by decide +kernel) 3 rfl ?_
    by_cases c11 : x5 = 0
    · rw [if_pos c11] at h
      refine y_if_eq_t (tgt := 65) (show decode cX7_readEither 19 = .ok (.ifCond .eq 46, 3) by decide +kernel) rfl c11 ?_
      refine y_iload_n (show decode cX7_readEither 65 = .ok (.iload_n 3, 1) by decide +kernel) 3 rfl ?_
      obtain ⟨c12, h⟩ := chk_some h
      cases h
      exact y_zret (show decode cX7_readEither 66 = .ok (.ireturn, 1) by decide +kernel) rfl c12
    · rw [if_neg c11] at h
      refine y_if_eq_f (show decode cX7_readEither 19 = .ok (.ifCond .eq 46, 3) by decide +kernel) c11 (by decide) ?_
      refine y_aload_n (show decode cX7_readEither 22 = .ok (.aload_n 1, 1) by decide +kernel) 1 rfl ?_
      refine y_getf 1 8 3 29 (by decide) rfl (by decide) (by decide) q1_41 (show decode cX7_readEither 23 = .ok (.getfield 29, 3) by decide +kernel) (v := .inl (σ7 1 3)) rfl ?_
      refine y_bipush (show decode cX7_readEither 26 = .ok (.bipush 114, 2) by decide +kernel) rfl rfl ?_
      by_cases c13 : ¬ (σ7 1 3) = 114
      · rw [if_pos c13] at h
        refine y_icmp_ne_t (tgt := 65) (show decode cX7_readEither 28 = .ok (.if_icmp .ne 37, 3) by decide +kernel) rfl c13 ?_
        refine y_iload_n (show decode cX7_readEither 65 = .ok (.iload_n 3, 1) by decide +kernel) 3 rfl ?_
        obtain ⟨c14, h⟩ := chk_some h
        cases h
        exact y_zret (show decode cX7_readEither 66 = .ok (.ireturn, 1) by decide +kernel) rfl c14
      · rw [if_neg c13] at h
        refine y_icmp_ne_f (show decode cX7_readEither 28 = .ok (.if_icmp .ne 37, 3) by decide +kernel) c13 (by decide) ?_
        refine y_aload_n (show decode cX7_readEither 31 = .ok (.aload_n 1, 1) by decide +kernel) 1 rfl ?_
        obtain ⟨σ16, e15, h⟩ := bndO_some h
        refine y_callV (np := 0) (st := []) (as := []) 1 8 (sh_cTp_step e15) q3_90 q4_99 q3_88 q3_89 q1_2 (by decide) rfl (by decide) rfl (by decide) (by decide +kernel) (by simp only [yRm, MX8_step]; omega) rfl (Nat.le_of_ble_eq_true rfl) (show decode cX7_readEither 32 = .ok (.invokevirtual 34, 3) by decide +kernel) rfl ?_
        refine y_aload_n (show decode cX7_readEither 35 = .ok (.aload_n 0, 1) by decide +kernel) 0 rfl ?_
        refine y_aload_n (show decode cX7_readEither 36 = .ok (.aload_n 1, 1) by decide +kernel) 1 rfl ?_
        refine y_iload_n (show decode cX7_readEither 37 = .ok (.iload_n 2, 1) by decide +kernel) 2 rfl ?_
        obtain ⟨r18, σ19, e17, h⟩ := bndR_some h
        refine y_callV (np := 2) (st := []) (as := [.inr (.inr (1 + 1)), .inl b]) o 7 (hrec_readBoth e17) q4_73 q4_70 q4_72 qs2_2 q1_7 (by omega) (by rcases c1 with rfl | rfl <;> rfl) (by decide) rfl (by decide) (by decide +kernel) (by simp only [yRm, MX7_readBoth]; omega) rfl (Nat.le_of_ble_eq_true rfl) (show decode cX7_readEither 38 = .ok (.invokevirtual 25, 3) by decide +kernel) rfl ?_
        refine bnd_j (Q := fun j22 => ∀ (y20 : Int) (σ21 : ySt), j22 y20 σ21 = some (ρ, τ) → Y E MX7_readEither (yRm (10 + dp + 1) 0 0) (yQf E (150 + 0) 0 0 (some (.inl ρ)) (ov τ)) 58 [(0, .inr (.inr (o + 1))), (1, .inr (.inr (1 + 1))), (2, .inl b), (4, .inl x6)] [.inl y20] (ov σ21) 150 0 0) (fun y20 σ21 h => ?_) (fun j22 hj22 h => ?_) h
        · dsimp only at h
          refine y_istore_n (show decode cX7_readEither 58 = .ok (.istore_n 3, 1) by decide +kernel) rfl (L1 := [(3, .inl y20), (0, .inr (.inr (o + 1))), (1, .inr (.inr (1 + 1))), (2, .inl b), (4, .inl x6)]) rfl ?_
          obtain ⟨c23, h⟩ := chkI_some h
          refine y_iinc (show decode cX7_readEither 59 = .ok (.iinc 4 1, 3) by decide +kernel) 4 rfl c23 rfl (L1 := [(4, .inl (x6 + 1)), (3, .inl y20), (0, .inr (.inr (o + 1))), (1, .inr (.inr (1 + 1))), (2, .inl b)]) rfl ?_
          refine y_goto (tgt := 10) (show decode cX7_readEither 62 = .ok (.goto (-52), 3) by decide +kernel) rfl ?_
          refine y_pick [2, 3, 4, 1, 0] rfl ?_
          exact hk8 _ _ _ h
        by_cases c24 : r18 = 0
        · rw [if_pos c24] at h
          refine y_if_eq_t (tgt := 57) (show decode cX7_readEither 41 = .ok (.ifCond .eq 16, 3) by decide +kernel) rfl c24 ?_
          refine y_iconst (show decode cX7_readEither 57 = .ok (.iconst 0, 1) by decide +kernel) rfl ?_
          refine y_pick [0, 1, 2, 4] rfl ?_
          exact hj22 _ _ h
        · rw [if_neg c24] at h
          refine y_if_eq_f (show decode cX7_readEither 41 = .ok (.ifCond .eq 16, 3) by decide +kernel) c24 (by decide) ?_
          refine y_aload_n (show decode cX7_readEither 44 = .ok (.aload_n 0, 1) by decide +kernel) 0 rfl ?_
          refine y_bipush (show decode cX7_readEither 45 = .ok (.bipush (-114), 2) by decide +kernel) rfl rfl ?_
          obtain ⟨r26, σ27, e25, h⟩ := bndR_some h
          refine y_callV (np := 1) (st := []) (as := [.inl (-114)]) o 7 (sh_cRu_put e25) q4_105 q4_102 q4_104 qs2_8 q1_7 (by omega) (by rcases c1 with rfl | rfl <;> rfl) (by decide) rfl (by decide) (by decide +kernel) (by simp only [yRm, MX7_put]; omega) rfl (Nat.le_of_ble_eq_true rfl) (show decode cX7_readEither 47 = .ok (.invokevirtual 37, 3) by decide +kernel) rfl ?_
          by_cases c28 : r26 = 0
          · rw [if_pos c28] at h
            refine y_if_eq_t (tgt := 57) (show decode cX7_readEither 50 = .ok (.ifCond .eq 7, 3) by decide +kernel) rfl c28 ?_
            refine y_iconst (show decode cX7_readEither 57 = .ok (.iconst 0, 1) by decide +kernel) rfl ?_
            refine y_pick [0, 1, 2, 4] rfl ?_
            exact hj22 _ _ h
          · rw [if_neg c28] at h
            refine y_if_eq_f (show decode cX7_readEither 50 = .ok (.ifCond .eq 7, 3) by decide +kernel) c28 (by decide) ?_
            refine y_iconst (show decode cX7_readEither 53 = .ok (.iconst 1, 1) by decide +kernel) rfl ?_
            refine y_goto (tgt := 58) (show decode cX7_readEither 54 = .ok (.goto 4, 3) by decide +kernel) rfl ?_
            refine y_pick [0, 1, 2, 4] rfl ?_
            exact hj22 _ _ h
def cRu_readBoth_b (rec : Nat → Nat → Int → ySt → Option (Int × ySt)) (N : Nat) (o : Nat) (b : Int) (σ : ySt) : Option (Int × ySt) :=
  chk (o = 30 ∨ o = 50) <|
  bndR (rec 2 o b σ) fun r3 σ4 =>
  loopS2 (fun k8 x5 x6 σ7 =>
    if x6 ≥ 1600 then
      chk (x5 = 0 ∨ x5 = 1) <|
      some (x5, σ7)
    else
      if x5 = 0 then
        chk (x5 = 0 ∨ x5 = 1) <|
        some (x5, σ7)
      else
        if ¬ (σ7 1 3) = 115 then
          chk (x5 = 0 ∨ x5 = 1) <|
          some (x5, σ7)
        else
          bndO (cTp_step N σ7) fun σ16 =>
          bndR (rec 2 o b σ16) fun r18 σ19 =>
          bnd (fun (y20 : Int) (σ21 : ySt) =>
            chkI (x6 + 1) <|
            k8 y20 (x6 + 1) σ21) fun j22 =>
          if r18 = 0 then
            j22 0 σ19
          else
            bndR (cRu_put o (-115) σ19) fun r26 σ27 =>
            if r26 = 0 then
              j22 0 σ27
            else
              j22 1 σ27) N r3 0 σ4
set_option maxHeartbeats 4000000 in
set_option maxRecDepth 10000 in
theorem shb_cRu_readBoth {E : yE} {rec : Nat → Nat → Int → ySt → Option (Int × ySt)} {dp : Nat} {N : Nat} {o : Nat} {b : Int} {σ : ySt} {ρ : Int} {τ : ySt} (hrec_readOne : ∀ {o : Nat} {b : Int} {σ : ySt} {ρ : Int} {τ : ySt}, rec 2 o b σ = some (ρ, τ) → Con E MX7_readOne (10 + dp) 0 0 [.inr (.inr (o + 1)), .inr (.inr (1 + 1)), .inl b] 150 (ov σ) (some (.inl ρ)) (ov τ)) (h : cRu_readBoth_b rec N o b σ = some (ρ, τ)) : Con E MX7_readBoth (10 + dp + 1) 0 0 [.inr (.inr (o + 1)), .inr (.inr (1 + 1)), .inl b] 150 (ov σ) (some (.inl ρ)) (ov τ) := by
  unfold cRu_readBoth_b at h
  refine Con.ofY (by decide +kernel) (by simp [yWords, yCat]) (fun hok _ => ?_)
  show Y E MX7_readBoth (yRm (10 + dp + 1) 0 0) (yQf E (150 + 0) 0 0 (some (.inl ρ)) (ov τ)) 0 [(0, .inr (.inr (o + 1))), (1, .inr (.inr (1 + 1))), (2, .inl b)] [] (ov σ) 150 0 0
  obtain ⟨c1, h⟩ := chk_some h
  refine y_aload_n (show decode cX7_readBoth 0 = .ok (.aload_n 0, 1) by decide +kernel) 0 rfl ?_
  refine y_aload_n (show decode cX7_readBoth 1 = .ok (.aload_n 1, 1) by decide +kernel) 1 rfl ?_
  refine y_iload_n (show decode cX7_readBoth 2 = .ok (.iload_n 2, 1) by decide +kernel) 2 rfl ?_
  obtain ⟨r3, σ4, e2, h⟩ := bndR_some h
  refine y_callV (np := 2) (st := []) (as := [.inr (.inr (1 + 1)), .inl b]) o 7 (hrec_readOne e2) q4_77 q4_74 q4_76 qs2_3 q1_7 (by omega) (by rcases c1 with rfl | rfl <;> rfl) (by decide) rfl (by decide) (by decide +kernel) (by simp only [yRm, MX7_readOne]; omega) rfl (Nat.le_of_ble_eq_true rfl) (show decode cX7_readBoth 3 = .ok (.invokevirtual 41, 3) by decide +kernel) rfl ?_
  refine y_istore_n (show decode cX7_readBoth 6 = .ok (.istore_n 3, 1) by decide +kernel) rfl (L1 := [(3, .inl r3), (0, .inr (.inr (o + 1))), (1, .inr (.inr (1 + 1))), (2, .inl b)]) rfl ?_
  refine y_iconst (show decode cX7_readBoth 7 = .ok (.iconst 0, 1) by decide +kernel) rfl ?_
  refine y_istore (show decode cX7_readBoth 8 = .ok (.istore 4, 2) by decide +kernel) rfl (L1 := [(4, .inl 0), (3, .inl r3), (0, .inr (.inr (o + 1))), (1, .inr (.inr (1 + 1))), (2, .inl b)]) rfl ?_
  refine y_pick [2, 3, 4, 1, 0] rfl ?_
  refine loopS2_ind (P := fun x5 x6 σ7 => Y E MX7_readBoth (yRm (10 + dp + 1) 0 0) (yQf E (150 + 0) 0 0 (some (.inl ρ)) (ov τ)) 10 [(0, .inr (.inr (o + 1))), (1, .inr (.inr (1 + 1))), (2, .inl b), (3, .inl x5), (4, .inl x6)] [] (ov σ7) 150 0 0) (fun k8 hk8 x5 x6 σ7 h => ?_) _ _ _ _  h
  refine y_iload (show decode cX7_readBoth 10 = .ok (.iload 4, 2) by decide +kernel) 4 rfl ?_
  refine y_sipush (show decode cX7_readBoth 12 = .ok (.sipush 1600, 3) by decide +kernel) rfl rfl ?_
  by_cases c9 : x6 ≥ 1600
  · rw [if_pos c9] at h
    refine y_icmp_ge_t (tgt := 65) (show decode cX7_readBoth 15 = .ok (.if_icmp .ge 50, 3) by decide +kernel) rfl c9 ?_
    refine y_iload_n (show decode cX7_readBoth 65 = .ok (.iload_n 3, 1) by decide +kernel) 3 rfl ?_
    obtain ⟨c10, h⟩ := chk_some h
    cases h
    exact y_zret (show decode cX7_readBoth 66 = .ok (.ireturn, 1) by decide +kernel) rfl c10
  · rw [if_neg c9] at h
    refine y_icmp_ge_f (show decode cX7_readBoth 15 = .ok (.if_icmp .ge 50, 3) by decide +kernel) c9 (by decide) ?_
    refine y_iload_n (show decode cX7_readBoth 18 = .ok (.iload_n 3, 1) by decide +kernel) 3 rfl ?_
    by_cases c11 : x5 = 0
    · rw [if_pos c11] at h
      refine y_if_eq_t (tgt := 65) (show decode cX7_readBoth 19 = .ok (.ifCond .eq 46, 3) by decide +kernel) rfl c11 ?_
      refine y_iload_n (show decode cX7_readBoth 65 = .ok (.iload_n 3, 1) by decide +kernel) 3 rfl ?_
      obtain ⟨c12, h⟩ := chk_some h
      cases h
      exact y_zret (show decode cX7_readBoth 66 = .ok (.ireturn, 1) by decide +kernel) rfl c12
    · rw [if_neg c11] at h
      refine y_if_eq_f (show decode cX7_readBoth 19 = .ok (.ifCond .eq 46, 3) by decide +kernel) c11 (by decide) ?_
      refine y_aload_n (show decode cX7_readBoth 22 = .ok (.aload_n 1, 1) by decide +kernel) 1 rfl ?_
      refine y_getf 1 8 3 29 (by decide) rfl (by decide) (by decide) q1_41 (show decode cX7_readBoth 23 = .ok (.getfield 29, 3) by decide +kernel) (v := .inl (σ7 1 3)) rfl ?_
      refine y_bipush (show decode cX7_readBoth 26 = .ok (.bipush 115, 2) by decide +kernel) rfl rfl ?_
      by_cases c13 : ¬ (σ7 1 3) = 115
      · rw [if_pos c13] at h
        refine y_icmp_ne_t (tgt := 65) (show decode cX7_readBoth 28 = .ok (.if_icmp .ne 37, 3) by decide +kernel) rfl c13 ?_
        refine y_iload_n (show decode cX7_readBoth 65 = .ok (.iload_n 3, 1) by decide +kernel) 3 rfl ?_
        obtain ⟨c14, h⟩ := chk_some h
        cases h
        exact y_zret (show decode cX7_readBoth 66 = .ok (.ireturn, 1) by decide +kernel) rfl c14
      · rw [if_neg c13] at h
        refine y_icmp_ne_f (show decode cX7_readBoth 28 = .ok (.if_icmp .ne 37, 3) by decide +kernel) c13 (by decide) ?_
        refine y_aload_n (show decode cX7_readBoth 31 = .ok (.aload_n 1, 1) by decide +kernel) 1 rfl ?_
        obtain ⟨σ16, e15, h⟩ := bndO_some h
        refine y_callV (np := 0) (st := []) (as := []) 1 8 (sh_cTp_step e15) q3_90 q4_99 q3_88 q3_89 q1_2 (by decide) rfl (by decide) rfl (by decide) (by decide +kernel) (by simp only [yRm, MX8_step]; omega) rfl (Nat.le_of_ble_eq_true rfl) (show decode cX7_readBoth 32 = .ok (.invokevirtual 34, 3) by decide +kernel) rfl ?_
        refine y_aload_n (show decode cX7_readBoth 35 = .ok (.aload_n 0, 1) by decide +kernel) 0 rfl ?_
        refine y_aload_n (show decode cX7_readBoth 36 = .ok (.aload_n 1, 1) by decide +kernel) 1 rfl ?_
        refine y_iload_n (show decode cX7_readBoth 37 = .ok (.iload_n 2, 1) by decide +kernel) 2 rfl ?_
        obtain ⟨r18, σ19, e17, h⟩ := bndR_some h
        refine y_callV (np := 2) (st := []) (as := [.inr (.inr (1 + 1)), .inl b]) o 7 (hrec_readOne e17) q4_77 q4_74 q4_76 qs2_3 q1_7 (by omega) (by rcases c1 with rfl | rfl <;> rfl) (by decide) rfl (by decide) (by decide +kernel) (by simp only [yRm, MX7_readOne]; omega) rfl (Nat.le_of_ble_eq_true rfl) (show decode cX7_readBoth 38 = .ok (.invokevirtual 41, 3) by decide +kernel) rfl ?_
        refine bnd_j (Q := fun j22 => ∀ (y20 : Int) (σ21 : ySt), j22 y20 σ21 = some (ρ, τ) → Y E MX7_readBoth (yRm (10 + dp + 1) 0 0) (yQf E (150 + 0) 0 0 (some (.inl ρ)) (ov τ)) 58 [(0, .inr (.inr (o + 1))), (1, .inr (.inr (1 + 1))), (2, .inl b), (4, .inl x6)] [.inl y20] (ov σ21) 150 0 0) (fun y20 σ21 h => ?_) (fun j22 hj22 h => ?_) h
        · dsimp only at h
          refine y_istore_n (show decode cX7_readBoth 58 = .ok (.istore_n 3, 1) by decide +kernel) rfl (L1 := [(3, .inl y20), (0, .inr (.inr (o + 1))), (1, .inr (.inr (1 + 1))), (2, .inl b), (4, .inl x6)]) rfl ?_
          obtain ⟨c23, h⟩ := chkI_some h
          refine y_iinc (show decode cX7_readBoth 59 = .ok (.iinc 4 1, 3) by decide +kernel) 4 rfl c23 rfl (L1 := [(4, .inl (x6 + 1)), (3, .inl y20), (0, .inr (.inr (o + 1))), (1, .inr (.inr (1 + 1))), (2, .inl b)]) rfl ?_
          refine y_goto (tgt := 10) (show decode cX7_readBoth 62 = .ok (.goto (-52), 3) by decide +kernel) rfl ?_
          refine y_pick [2, 3, 4, 1, 0] rfl ?_
          exact hk8 _ _ _ h
        by_cases c24 : r18 = 0
        · rw [if_pos c24] at h
          refine y_if_eq_t (tgt := 57) (show decode cX7_readBoth 41 = .ok (.ifCond .eq 16, 3) by decide +kernel) rfl c24 ?_
          refine y_iconst (show decode cX7_readBoth 57 = .ok (.iconst 0, 1) by decide +kernel) rfl ?_
          refine y_pick [0, 1, 2, 4] rfl ?_
          exact hj22 _ _ h
        · rw [if_neg c24] at h
          refine y_if_eq_f (show decode cX7_readBoth 41 = .ok (.ifCond .eq 16, 3) by decide +kernel) c24 (by decide) ?_
          refine y_aload_n (show decode cX7_readBoth 44 = .ok (.aload_n 0, 1) by decide +kernel) 0 rfl ?_
          refine y_bipush (show decode cX7_readBoth 45 = .ok (.bipush (-115), 2) by decide +kernel) rfl rfl ?_
          obtain ⟨r26, σ27, e25, h⟩ := bndR_some h
          refine y_callV (np := 1) (st := []) (as := [.inl (-115)]) o 7 (sh_cRu_put e25) q4_105 q4_102 q4_104 qs2_8 q1_7 (by omega) (by rcases c1 with rfl | rfl <;> rfl) (by decide) rfl (by decide) (by decide +kernel) (by simp only [yRm, MX7_put]; omega) rfl (Nat.le_of_ble_eq_true rfl) (show decode cX7_readBoth 47 = .ok (.invokevirtual 37, 3) by decide +kernel) rfl ?_
          by_cases c28 : r26 = 0
          · rw [if_pos c28] at h
            refine y_if_eq_t (tgt := 57) (show decode cX7_readBoth 50 = .ok (.ifCond .eq 7, 3) by decide +kernel) rfl c28 ?_
            refine y_iconst (show decode cX7_readBoth 57 = .ok (.iconst 0, 1) by decide +kernel) rfl ?_
            refine y_pick [0, 1, 2, 4] rfl ?_
            exact hj22 _ _ h
          · rw [if_neg c28] at h
            refine y_if_eq_f (show decode cX7_readBoth 50 = .ok (.ifCond .eq 7, 3) by decide +kernel) c28 (by decide) ?_
            refine y_iconst (show decode cX7_readBoth 53 = .ok (.iconst 1, 1) by decide +kernel) rfl ?_
            refine y_goto (tgt := 58) (show decode cX7_readBoth 54 = .ok (.goto 4, 3) by decide +kernel) rfl ?_
            refine y_pick [0, 1, 2, 4] rfl ?_
            exact hj22 _ _ h
def cRu_readOne_b (rec : Nat → Nat → Int → ySt → Option (Int × ySt)) (N : Nat) (o : Nat) (b : Int) (σ : ySt) : Option (Int × ySt) :=
  chk (o = 30 ∨ o = 50) <|
  if (σ 1 3) = 116 then
    if b ≤ 6 then
      bndO (cTp_step N σ) fun σ5 =>
      chkI (b + 1) <|
      bndR (rec 2 o (b + 1) σ5) fun r8 σ9 =>
      if r8 = 0 then
        some (0, σ9)
      else
        bndR (cRu_put o (-116) σ9) fun r12 σ13 =>
        if r12 = 0 then
          some (0, σ13)
        else
          some (1, σ13)
    else
      bndR (cTp_blame 2 σ) fun r16 σ17 =>
      chk (r16 = 0 ∨ r16 = 1) <|
      some (r16, σ17)
  else
    bndR (rec 3 o b σ) fun r20 σ21 =>
    chk (r20 = 0 ∨ r20 = 1) <|
    some (r20, σ21)
set_option maxHeartbeats 4000000 in
set_option maxRecDepth 10000 in
theorem shb_cRu_readOne {E : yE} {rec : Nat → Nat → Int → ySt → Option (Int × ySt)} {dp : Nat} {N : Nat} {o : Nat} {b : Int} {σ : ySt} {ρ : Int} {τ : ySt} (hrec_readRelation : ∀ {o : Nat} {b : Int} {σ : ySt} {ρ : Int} {τ : ySt}, rec 3 o b σ = some (ρ, τ) → Con E MX7_readRelation (10 + dp) 0 0 [.inr (.inr (o + 1)), .inr (.inr (1 + 1)), .inl b] 150 (ov σ) (some (.inl ρ)) (ov τ)) (hrec_readOne : ∀ {o : Nat} {b : Int} {σ : ySt} {ρ : Int} {τ : ySt}, rec 2 o b σ = some (ρ, τ) → Con E MX7_readOne (10 + dp) 0 0 [.inr (.inr (o + 1)), .inr (.inr (1 + 1)), .inl b] 150 (ov σ) (some (.inl ρ)) (ov τ)) (h : cRu_readOne_b rec N o b σ = some (ρ, τ)) : Con E MX7_readOne (10 + dp + 1) 0 0 [.inr (.inr (o + 1)), .inr (.inr (1 + 1)), .inl b] 150 (ov σ) (some (.inl ρ)) (ov τ) := by
  unfold cRu_readOne_b at h
  refine Con.ofY (by decide +kernel) (by simp [yWords, yCat]) (fun hok _ => ?_)
  show Y E MX7_readOne (yRm (10 + dp + 1) 0 0) (yQf E (150 + 0) 0 0 (some (.inl ρ)) (ov τ)) 0 [(0, .inr (.inr (o + 1))), (1, .inr (.inr (1 + 1))), (2, .inl b)] [] (ov σ) 150 0 0
  obtain ⟨c1, h⟩ := chk_some h
  refine y_aload_n (show decode cX7_readOne 0 = .ok (.aload_n 1, 1) by decide +kernel) 1 rfl ?_
  refine y_getf 1 8 3 29 (by decide) rfl (by decide) (by decide) q1_41 (show decode cX7_readOne 1 = .ok (.getfield 29, 3) by decide +kernel) (v := .inl (σ 1 3)) rfl ?_
  refine y_bipush (show decode cX7_readOne 4 = .ok (.bipush 116, 2) by decide +kernel) rfl rfl ?_
  by_cases c2 : (σ 1 3) = 116
  · rw [if_pos c2] at h
    refine y_icmp_eq_t (tgt := 16) (show decode cX7_readOne 6 = .ok (.if_icmp .eq 10, 3) by decide +kernel) rfl c2 ?_
    refine y_iload_n (show decode cX7_readOne 16 = .ok (.iload_n 2, 1) by decide +kernel) 2 rfl ?_
    refine y_bipush (show decode cX7_readOne 17 = .ok (.bipush 6, 2) by decide +kernel) rfl rfl ?_
    by_cases c3 : b ≤ 6
    · rw [if_pos c3] at h
      refine y_icmp_le_t (tgt := 28) (show decode cX7_readOne 19 = .ok (.if_icmp .le 9, 3) by decide +kernel) rfl c3 ?_
      refine y_aload_n (show decode cX7_readOne 28 = .ok (.aload_n 1, 1) by decide +kernel) 1 rfl ?_
      obtain ⟨σ5, e4, h⟩ := bndO_some h
      refine y_callV (np := 0) (st := []) (as := []) 1 8 (sh_cTp_step e4) q3_90 q4_99 q3_88 q3_89 q1_2 (by decide) rfl (by decide) rfl (by decide) (by decide +kernel) (by simp only [yRm, MX8_step]; omega) rfl (Nat.le_of_ble_eq_true rfl) (show decode cX7_readOne 29 = .ok (.invokevirtual 34, 3) by decide +kernel) rfl ?_
      refine y_aload_n (show decode cX7_readOne 32 = .ok (.aload_n 0, 1) by decide +kernel) 0 rfl ?_
      refine y_aload_n (show decode cX7_readOne 33 = .ok (.aload_n 1, 1) by decide +kernel) 1 rfl ?_
      refine y_iload_n (show decode cX7_readOne 34 = .ok (.iload_n 2, 1) by decide +kernel) 2 rfl ?_
      refine y_iconst (show decode cX7_readOne 35 = .ok (.iconst 1, 1) by decide +kernel) rfl ?_
      obtain ⟨c6, h⟩ := chkI_some h
      refine y_iadd (show decode cX7_readOne 36 = .ok (.iadd, 1) by decide +kernel) c6 ?_
      obtain ⟨r8, σ9, e7, h⟩ := bndR_some h
      refine y_callV (np := 2) (st := []) (as := [.inr (.inr (1 + 1)), .inl (b + 1)]) o 7 (hrec_readOne e7) q4_77 q4_74 q4_76 qs2_3 q1_7 (by omega) (by rcases c1 with rfl | rfl <;> rfl) (by decide) rfl (by decide) (by decide +kernel) (by simp only [yRm, MX7_readOne]; omega) rfl (Nat.le_of_ble_eq_true rfl) (show decode cX7_readOne 37 = .ok (.invokevirtual 41, 3) by decide +kernel) rfl ?_
      by_cases c10 : r8 = 0
      · rw [if_pos c10] at h
        refine y_if_eq_t (tgt := 56) (show decode cX7_readOne 40 = .ok (.ifCond .eq 16, 3) by decide +kernel) rfl c10 ?_
        refine y_iconst (show decode cX7_readOne 56 = .ok (.iconst 0, 1) by decide +kernel) rfl ?_
        cases h
        exact y_zret (show decode cX7_readOne 57 = .ok (.ireturn, 1) by decide +kernel) rfl (Or.inl rfl)
      · rw [if_neg c10] at h
        refine y_if_eq_f (show decode cX7_readOne 40 = .ok (.ifCond .eq 16, 3) by decide +kernel) c10 (by decide) ?_
        refine y_aload_n (show decode cX7_readOne 43 = .ok (.aload_n 0, 1) by decide +kernel) 0 rfl ?_
        refine y_bipush (show decode cX7_readOne 44 = .ok (.bipush (-116), 2) by decide +kernel) rfl rfl ?_
        obtain ⟨r12, σ13, e11, h⟩ := bndR_some h
        refine y_callV (np := 1) (st := []) (as := [.inl (-116)]) o 7 (sh_cRu_put e11) q4_105 q4_102 q4_104 qs2_8 q1_7 (by omega) (by rcases c1 with rfl | rfl <;> rfl) (by decide) rfl (by decide) (by decide +kernel) (by simp only [yRm, MX7_put]; omega) rfl (Nat.le_of_ble_eq_true rfl) (show decode cX7_readOne 46 = .ok (.invokevirtual 37, 3) by decide +kernel) rfl ?_
        by_cases c14 : r12 = 0
        · rw [if_pos c14] at h
          refine y_if_eq_t (tgt := 56) (show decode cX7_readOne 49 = .ok (.ifCond .eq 7, 3) by decide +kernel) rfl c14 ?_
          refine y_iconst (show decode cX7_readOne 56 = .ok (.iconst 0, 1) by decide +kernel) rfl ?_
          cases h
          exact y_zret (show decode cX7_readOne 57 = .ok (.ireturn, 1) by decide +kernel) rfl (Or.inl rfl)
        · rw [if_neg c14] at h
          refine y_if_eq_f (show decode cX7_readOne 49 = .ok (.ifCond .eq 7, 3) by decide +kernel) c14 (by decide) ?_
          refine y_iconst (show decode cX7_readOne 52 = .ok (.iconst 1, 1) by decide +kernel) rfl ?_
          refine y_goto (tgt := 57) (show decode cX7_readOne 53 = .ok (.goto 4, 3) by decide +kernel) rfl ?_
          cases h
          exact y_zret (show decode cX7_readOne 57 = .ok (.ireturn, 1) by decide +kernel) rfl (Or.inr rfl)
    · rw [if_neg c3] at h
      refine y_icmp_le_f (show decode cX7_readOne 19 = .ok (.if_icmp .le 9, 3) by decide +kernel) c3 (by decide) ?_
      refine y_aload_n (show decode cX7_readOne 22 = .ok (.aload_n 1, 1) by decide +kernel) 1 rfl ?_
      refine y_iconst (show decode cX7_readOne 23 = .ok (.iconst 2, 1) by decide +kernel) rfl ?_
      obtain ⟨r16, σ17, e15, h⟩ := bndR_some h
      refine y_callV (np := 1) (st := []) (as := [.inl 2]) 1 8 (sh_cTp_blame e15) q3_235 q4_98 q3_233 q3_234 q1_2 (by decide) rfl (by decide) rfl (by decide) (by decide +kernel) (by simp only [yRm, MX8_blame]; omega) rfl (Nat.le_of_ble_eq_true rfl) (show decode cX7_readOne 24 = .ok (.invokevirtual 47, 3) by decide +kernel) rfl ?_
      obtain ⟨c18, h⟩ := chk_some h
      cases h
      exact y_zret (show decode cX7_readOne 27 = .ok (.ireturn, 1) by decide +kernel) rfl c18
  · rw [if_neg c2] at h
    refine y_icmp_eq_f (show decode cX7_readOne 6 = .ok (.if_icmp .eq 10, 3) by decide +kernel) c2 (by decide) ?_
    refine y_aload_n (show decode cX7_readOne 9 = .ok (.aload_n 0, 1) by decide +kernel) 0 rfl ?_
    refine y_aload_n (show decode cX7_readOne 10 = .ok (.aload_n 1, 1) by decide +kernel) 1 rfl ?_
    refine y_iload_n (show decode cX7_readOne 11 = .ok (.iload_n 2, 1) by decide +kernel) 2 rfl ?_
    obtain ⟨r20, σ21, e19, h⟩ := bndR_some h
    refine y_callV (np := 2) (st := []) (as := [.inr (.inr (1 + 1)), .inl b]) o 7 (hrec_readRelation e19) q4_81 q4_78 q4_80 qs2_4 q1_7 (by omega) (by rcases c1 with rfl | rfl <;> rfl) (by decide) rfl (by decide) (by decide +kernel) (by simp only [yRm, MX7_readRelation]; omega) rfl (Nat.le_of_ble_eq_true rfl) (show decode cX7_readOne 12 = .ok (.invokevirtual 44, 3) by decide +kernel) rfl ?_
    obtain ⟨c22, h⟩ := chk_some h
    cases h
    exact y_zret (show decode cX7_readOne 15 = .ok (.ireturn, 1) by decide +kernel) rfl c22
def cRu_readRelation_b (rec : Nat → Nat → Int → ySt → Option (Int × ySt)) (N : Nat) (o : Nat) (b : Int) (σ : ySt) : Option (Int × ySt) :=
  chk (o = 30 ∨ o = 50) <|
  bndR (rec 4 o b σ) fun r3 σ4 =>
  if ¬ r3 = 0 then
    bnd (bndO (cTp_step N σ4) fun σ8 =>
      bndR (rec 4 o b σ8) fun r10 σ11 =>
      if r10 = 0 then
        some (0, σ11)
      else
        chkI (-(σ4 1 3)) <|
        bndR (cRu_put o (-(σ4 1 3)) σ11) fun r15 σ16 =>
        if r15 = 0 then
          some (0, σ16)
        else
          some (1, σ16)) fun j6 =>
    if (σ4 1 3) = 60 then
      j6
    else
      if (σ4 1 3) = 62 then
        j6
      else
        if (σ4 1 3) = 61 then
          j6
        else
          some (1, σ4)
  else
    some (0, σ4)
set_option maxHeartbeats 4000000 in
set_option maxRecDepth 10000 in
theorem shb_cRu_readRelation {E : yE} {rec : Nat → Nat → Int → ySt → Option (Int × ySt)} {dp : Nat} {N : Nat} {o : Nat} {b : Int} {σ : ySt} {ρ : Int} {τ : ySt} (hrec_readSum : ∀ {o : Nat} {b : Int} {σ : ySt} {ρ : Int} {τ : ySt}, rec 4 o b σ = some (ρ, τ) → Con E MX7_readSum (10 + dp) 0 0 [.inr (.inr (o + 1)), .inr (.inr (1 + 1)), .inl b] 150 (ov σ) (some (.inl ρ)) (ov τ)) (h : cRu_readRelation_b rec N o b σ = some (ρ, τ)) : Con E MX7_readRelation (10 + dp + 1) 0 0 [.inr (.inr (o + 1)), .inr (.inr (1 + 1)), .inl b] 150 (ov σ) (some (.inl ρ)) (ov τ) := by
  unfold cRu_readRelation_b at h
  refine Con.ofY (by decide +kernel) (by simp [yWords, yCat]) (fun hok _ => ?_)
  show Y E MX7_readRelation (yRm (10 + dp + 1) 0 0) (yQf E (150 + 0) 0 0 (some (.inl ρ)) (ov τ)) 0 [(0, .inr (.inr (o + 1))), (1, .inr (.inr (1 + 1))), (2, .inl b)] [] (ov σ) 150 0 0
  obtain ⟨c1, h⟩ := chk_some h
  refine y_aload_n (show decode cX7_readRelation 0 = .ok (.aload_n 0, 1) by decide +kernel) 0 rfl ?_
  refine y_aload_n (show decode cX7_readRelation 1 = .ok (.aload_n 1, 1) by decide +kernel) 1 rfl ?_
  refine y_iload_n (show decode cX7_readRelation 2 = .ok (.iload_n 2, 1) by decide +kernel) 2 rfl ?_
  obtain ⟨r3, σ4, e2, h⟩ := bndR_some h
  refine y_callV (np := 2) (st := []) (as := [.inr (.inr (1 + 1)), .inl b]) o 7 (hrec_readSum e2) q4_85 q4_82 q4_84 qs2_5 q1_7 (by omega) (by rcases c1 with rfl | rfl <;> rfl) (by decide) rfl (by decide) (by decide +kernel) (by simp only [yRm, MX7_readSum]; omega) rfl (Nat.le_of_ble_eq_true rfl) (show decode cX7_readRelation 3 = .ok (.invokevirtual 50, 3) by decide +kernel) rfl ?_
  by_cases c5 : ¬ r3 = 0
  · rw [if_pos c5] at h
    refine y_if_ne_t (tgt := 11) (show decode cX7_readRelation 6 = .ok (.ifCond .ne 5, 3) by decide +kernel) rfl c5 ?_
    refine y_aload_n (show decode cX7_readRelation 11 = .ok (.aload_n 1, 1) by decide +kernel) 1 rfl ?_
    refine y_getf 1 8 3 29 (by decide) rfl (by decide) (by decide) q1_41 (show decode cX7_readRelation 12 = .ok (.getfield 29, 3) by decide +kernel) (v := .inl (σ4 1 3)) rfl ?_
    refine y_istore_n (show decode cX7_readRelation 15 = .ok (.istore_n 3, 1) by decide +kernel) rfl (L1 := [(3, .inl (σ4 1 3)), (0, .inr (.inr (o + 1))), (1, .inr (.inr (1 + 1))), (2, .inl b)]) rfl ?_
    refine y_iload_n (show decode cX7_readRelation 16 = .ok (.iload_n 3, 1) by decide +kernel) 0 rfl ?_
    refine y_bipush (show decode cX7_readRelation 17 = .ok (.bipush 60, 2) by decide +kernel) rfl rfl ?_
    refine bnd_j (Q := fun j6 => j6 = some (ρ, τ) → Y E MX7_readRelation (yRm (10 + dp + 1) 0 0) (yQf E (150 + 0) 0 0 (some (.inl ρ)) (ov τ)) 36 [(0, .inr (.inr (o + 1))), (1, .inr (.inr (1 + 1))), (2, .inl b), (3, .inl (σ4 1 3))] [] (ov σ4) 150 0 0) (fun h => ?_) (fun j6 hj6 h => ?_) h
    · refine y_aload_n (show decode cX7_readRelation 36 = .ok (.aload_n 1, 1) by decide +kernel) 1 rfl ?_
      obtain ⟨σ8, e7, h⟩ := bndO_some h
      refine y_callV (np := 0) (st := []) (as := []) 1 8 (sh_cTp_step e7) q3_90 q4_99 q3_88 q3_89 q1_2 (by decide) rfl (by decide) rfl (by decide) (by decide +kernel) (by simp only [yRm, MX8_step]; omega) rfl (Nat.le_of_ble_eq_true rfl) (show decode cX7_readRelation 37 = .ok (.invokevirtual 34, 3) by decide +kernel) rfl ?_
      refine y_aload_n (show decode cX7_readRelation 40 = .ok (.aload_n 0, 1) by decide +kernel) 0 rfl ?_
      refine y_aload_n (show decode cX7_readRelation 41 = .ok (.aload_n 1, 1) by decide +kernel) 1 rfl ?_
      refine y_iload_n (show decode cX7_readRelation 42 = .ok (.iload_n 2, 1) by decide +kernel) 2 rfl ?_
      obtain ⟨r10, σ11, e9, h⟩ := bndR_some h
      refine y_callV (np := 2) (st := []) (as := [.inr (.inr (1 + 1)), .inl b]) o 7 (hrec_readSum e9) q4_85 q4_82 q4_84 qs2_5 q1_7 (by omega) (by rcases c1 with rfl | rfl <;> rfl) (by decide) rfl (by decide) (by decide +kernel) (by simp only [yRm, MX7_readSum]; omega) rfl (Nat.le_of_ble_eq_true rfl) (show decode cX7_readRelation 43 = .ok (.invokevirtual 50, 3) by decide +kernel) rfl ?_
      by_cases c12 : r10 = 0
      · rw [if_pos c12] at h
        refine y_if_eq_t (tgt := 62) (show decode cX7_readRelation 46 = .ok (.ifCond .eq 16, 3) by decide +kernel) rfl c12 ?_
        refine y_iconst (show decode cX7_readRelation 62 = .ok (.iconst 0, 1) by decide +kernel) rfl ?_
        cases h
        exact y_zret (show decode cX7_readRelation 63 = .ok (.ireturn, 1) by decide +kernel) rfl (Or.inl rfl)
      · rw [if_neg c12] at h
        refine y_if_eq_f (show decode cX7_readRelation 46 = .ok (.ifCond .eq 16, 3) by decide +kernel) c12 (by decide) ?_
        refine y_aload_n (show decode cX7_readRelation 49 = .ok (.aload_n 0, 1) by decide +kernel) 0 rfl ?_
        refine y_iload_n (show decode cX7_readRelation 50 = .ok (.iload_n 3, 1) by decide +kernel) 3 rfl ?_
        obtain ⟨c13, h⟩ := chkI_some h
        refine y_ineg (show decode cX7_readRelation 51 = .ok (.ineg, 1) by decide +kernel) c13 ?_
        obtain ⟨r15, σ16, e14, h⟩ := bndR_some h
        refine y_callV (np := 1) (st := []) (as := [.inl (-(σ4 1 3))]) o 7 (sh_cRu_put e14) q4_105 q4_102 q4_104 qs2_8 q1_7 (by omega) (by rcases c1 with rfl | rfl <;> rfl) (by decide) rfl (by decide) (by decide +kernel) (by simp only [yRm, MX7_put]; omega) rfl (Nat.le_of_ble_eq_true rfl) (show decode cX7_readRelation 52 = .ok (.invokevirtual 37, 3) by decide +kernel) rfl ?_
        by_cases c17 : r15 = 0
        · rw [if_pos c17] at h
          refine y_if_eq_t (tgt := 62) (show decode cX7_readRelation 55 = .ok (.ifCond .eq 7, 3) by decide +kernel) rfl c17 ?_
          refine y_iconst (show decode cX7_readRelation 62 = .ok (.iconst 0, 1) by decide +kernel) rfl ?_
          cases h
          exact y_zret (show decode cX7_readRelation 63 = .ok (.ireturn, 1) by decide +kernel) rfl (Or.inl rfl)
        · rw [if_neg c17] at h
          refine y_if_eq_f (show decode cX7_readRelation 55 = .ok (.ifCond .eq 7, 3) by decide +kernel) c17 (by decide) ?_
          refine y_iconst (show decode cX7_readRelation 58 = .ok (.iconst 1, 1) by decide +kernel) rfl ?_
          refine y_goto (tgt := 63) (show decode cX7_readRelation 59 = .ok (.goto 4, 3) by decide +kernel) rfl ?_
          cases h
          exact y_zret (show decode cX7_readRelation 63 = .ok (.ireturn, 1) by decide +kernel) rfl (Or.inr rfl)
    by_cases c18 : (σ4 1 3) = 60
    · rw [if_pos c18] at h
      refine y_icmp_eq_t (tgt := 36) (show decode cX7_readRelation 19 = .ok (.if_icmp .eq 17, 3) by decide +kernel) rfl c18 ?_
      refine y_pick [1, 2, 3, 0] rfl ?_
      exact hj6 h
    · rw [if_neg c18] at h
      refine y_icmp_eq_f (show decode cX7_readRelation 19 = .ok (.if_icmp .eq 17, 3) by decide +kernel) c18 (by decide) ?_
      refine y_iload_n (show decode cX7_readRelation 22 = .ok (.iload_n 3, 1) by decide +kernel) 0 rfl ?_
      refine y_bipush (show decode cX7_readRelation 23 = .ok (.bipush 62, 2) by decide +kernel) rfl rfl ?_
      by_cases c19 : (σ4 1 3) = 62
      · rw [if_pos c19] at h
        refine y_icmp_eq_t (tgt := 36) (show decode cX7_readRelation 25 = .ok (.if_icmp .eq 11, 3) by decide +kernel) rfl c19 ?_
        refine y_pick [1, 2, 3, 0] rfl ?_
        exact hj6 h
      · rw [if_neg c19] at h
        refine y_icmp_eq_f (show decode cX7_readRelation 25 = .ok (.if_icmp .eq 11, 3) by decide +kernel) c19 (by decide) ?_
        refine y_iload_n (show decode cX7_readRelation 28 = .ok (.iload_n 3, 1) by decide +kernel) 0 rfl ?_
        refine y_bipush (show decode cX7_readRelation 29 = .ok (.bipush 61, 2) by decide +kernel) rfl rfl ?_
        by_cases c20 : (σ4 1 3) = 61
        · rw [if_pos c20] at h
          refine y_icmp_eq_t (tgt := 36) (show decode cX7_readRelation 31 = .ok (.if_icmp .eq 5, 3) by decide +kernel) rfl c20 ?_
          refine y_pick [1, 2, 3, 0] rfl ?_
          exact hj6 h
        · rw [if_neg c20] at h
          refine y_icmp_eq_f (show decode cX7_readRelation 31 = .ok (.if_icmp .eq 5, 3) by decide +kernel) c20 (by decide) ?_
          refine y_iconst (show decode cX7_readRelation 34 = .ok (.iconst 1, 1) by decide +kernel) rfl ?_
          cases h
          exact y_zret (show decode cX7_readRelation 35 = .ok (.ireturn, 1) by decide +kernel) rfl (Or.inr rfl)
  · rw [if_neg c5] at h
    refine y_if_ne_f (show decode cX7_readRelation 6 = .ok (.ifCond .ne 5, 3) by decide +kernel) c5 (by decide) ?_
    refine y_iconst (show decode cX7_readRelation 9 = .ok (.iconst 0, 1) by decide +kernel) rfl ?_
    cases h
    exact y_zret (show decode cX7_readRelation 10 = .ok (.ireturn, 1) by decide +kernel) rfl (Or.inl rfl)
def cRu_readSum_b (rec : Nat → Nat → Int → ySt → Option (Int × ySt)) (N : Nat) (o : Nat) (b : Int) (σ : ySt) : Option (Int × ySt) :=
  chk (o = 30 ∨ o = 50) <|
  bndR (rec 5 o b σ) fun r3 σ4 =>
  loopS2 (fun k8 x5 x6 σ7 =>
    if x6 ≥ 1600 then
      chk (x5 = 0 ∨ x5 = 1) <|
      some (x5, σ7)
    else
      if x5 = 0 then
        chk (x5 = 0 ∨ x5 = 1) <|
        some (x5, σ7)
      else
        bnd (bndO (cTp_step N σ7) fun σ15 =>
          bndR (rec 5 o b σ15) fun r17 σ18 =>
          bnd (fun (y19 : Int) (σ20 : ySt) =>
            chkI (x6 + 1) <|
            k8 y19 (x6 + 1) σ20) fun j21 =>
          if r17 = 0 then
            j21 0 σ18
          else
            chkI (-(σ7 1 3)) <|
            bndR (cRu_put o (-(σ7 1 3)) σ18) fun r26 σ27 =>
            if r26 = 0 then
              j21 0 σ27
            else
              j21 1 σ27) fun j13 =>
        if (σ7 1 3) = 43 then
          j13
        else
          if ¬ (σ7 1 3) = 45 then
            chk (x5 = 0 ∨ x5 = 1) <|
            some (x5, σ7)
          else
            j13) N r3 0 σ4
set_option maxHeartbeats 4000000 in
set_option maxRecDepth 10000 in
theorem shb_cRu_readSum {E : yE} {rec : Nat → Nat → Int → ySt → Option (Int × ySt)} {dp : Nat} {N : Nat} {o : Nat} {b : Int} {σ : ySt} {ρ : Int} {τ : ySt} (hrec_readTerm : ∀ {o : Nat} {b : Int} {σ : ySt} {ρ : Int} {τ : ySt}, rec 5 o b σ = some (ρ, τ) → Con E MX7_readTerm (10 + dp) 0 0 [.inr (.inr (o + 1)), .inr (.inr (1 + 1)), .inl b] 150 (ov σ) (some (.inl ρ)) (ov τ)) (h : cRu_readSum_b rec N o b σ = some (ρ, τ)) : Con E MX7_readSum (10 + dp + 1) 0 0 [.inr (.inr (o + 1)), .inr (.inr (1 + 1)), .inl b] 150 (ov σ) (some (.inl ρ)) (ov τ) := by
  unfold cRu_readSum_b at h
  refine Con.ofY (by decide +kernel) (by simp [yWords, yCat]) (fun hok _ => ?_)
  show Y E MX7_readSum (yRm (10 + dp + 1) 0 0) (yQf E (150 + 0) 0 0 (some (.inl ρ)) (ov τ)) 0 [(0, .inr (.inr (o + 1))), (1, .inr (.inr (1 + 1))), (2, .inl b)] [] (ov σ) 150 0 0
  obtain ⟨c1, h⟩ := chk_some h
  refine y_aload_n (show decode cX7_readSum 0 = .ok (.aload_n 0, 1) by decide +kernel) 0 rfl ?_
  refine y_aload_n (show decode cX7_readSum 1 = .ok (.aload_n 1, 1) by decide +kernel) 1 rfl ?_
  refine y_iload_n (show decode cX7_readSum 2 = .ok (.iload_n 2, 1) by decide +kernel) 2 rfl ?_
  obtain ⟨r3, σ4, e2, h⟩ := bndR_some h
  refine y_callV (np := 2) (st := []) (as := [.inr (.inr (1 + 1)), .inl b]) o 7 (hrec_readTerm e2) q4_89 q4_86 q4_88 qs2_6 q1_7 (by omega) (by rcases c1 with rfl | rfl <;> rfl) (by decide) rfl (by decide) (by decide +kernel) (by simp only [yRm, MX7_readTerm]; omega) rfl (Nat.le_of_ble_eq_true rfl) (show decode cX7_readSum 3 = .ok (.invokevirtual 53, 3) by decide +kernel) rfl ?_
  refine y_istore_n (show decode cX7_readSum 6 = .ok (.istore_n 3, 1) by decide +kernel) rfl (L1 := [(3, .inl r3), (0, .inr (.inr (o + 1))), (1, .inr (.inr (1 + 1))), (2, .inl b)]) rfl ?_
  refine y_iconst (show decode cX7_readSum 7 = .ok (.iconst 0, 1) by decide +kernel) rfl ?_
  refine y_istore (show decode cX7_readSum 8 = .ok (.istore 4, 2) by decide +kernel) rfl (L1 := [(4, .inl 0), (3, .inl r3), (0, .inr (.inr (o + 1))), (1, .inr (.inr (1 + 1))), (2, .inl b)]) rfl ?_
  refine y_pick [2, 3, 4, 1, 0] rfl ?_
  refine loopS2_ind (P := fun x5 x6 σ7 => Y E MX7_readSum (yRm (10 + dp + 1) 0 0) (yQf E (150 + 0) 0 0 (some (.inl ρ)) (ov τ)) 10 [(0, .inr (.inr (o + 1))), (1, .inr (.inr (1 + 1))), (2, .inl b), (3, .inl x5), (4, .inl x6)] [] (ov σ7) 150 0 0) (fun k8 hk8 x5 x6 σ7 h => ?_) _ _ _ _  h
  refine y_iload (show decode cX7_readSum 10 = .ok (.iload 4, 2) by decide +kernel) 4 rfl ?_
  refine y_sipush (show decode cX7_readSum 12 = .ok (.sipush 1600, 3) by decide +kernel) rfl rfl ?_
  by_cases c9 : x6 ≥ 1600
  · rw [if_pos c9] at h
    refine y_icmp_ge_t (tgt := 81) (show decode cX7_readSum 15 = .ok (.if_icmp .ge 66, 3) by decide +kernel) rfl c9 ?_
    refine y_iload_n (show decode cX7_readSum 81 = .ok (.iload_n 3, 1) by decide +kernel) 3 rfl ?_
    obtain ⟨c10, h⟩ := chk_some h
    cases h
    exact y_zret (show decode cX7_readSum 82 = .ok (.ireturn, 1) by decide +kernel) rfl c10
  · rw [if_neg c9] at h
    refine y_icmp_ge_f (show decode cX7_readSum 15 = .ok (.if_icmp .ge 66, 3) by decide +kernel) c9 (by decide) ?_
    refine y_iload_n (show decode cX7_readSum 18 = .ok (.iload_n 3, 1) by decide +kernel) 3 rfl ?_
    by_cases c11 : x5 = 0
    · rw [if_pos c11] at h
      refine y_if_eq_t (tgt := 81) (show decode cX7_readSum 19 = .ok (.ifCond .eq 62, 3) by decide +kernel) rfl c11 ?_
      refine y_iload_n (show decode cX7_readSum 81 = .ok (.iload_n 3, 1) by decide +kernel) 3 rfl ?_
      obtain ⟨c12, h⟩ := chk_some h
      cases h
      exact y_zret (show decode cX7_readSum 82 = .ok (.ireturn, 1) by decide +kernel) rfl c12
    · rw [if_neg c11] at h
      refine y_if_eq_f (show decode cX7_readSum 19 = .ok (.ifCond .eq 62, 3) by decide +kernel) c11 (by decide) ?_
      refine y_aload_n (show decode cX7_readSum 22 = .ok (.aload_n 1, 1) by decide +kernel) 1 rfl ?_
      refine y_getf 1 8 3 29 (by decide) rfl (by decide) (by decide) q1_41 (show decode cX7_readSum 23 = .ok (.getfield 29, 3) by decide +kernel) (v := .inl (σ7 1 3)) rfl ?_
      refine y_bipush (show decode cX7_readSum 26 = .ok (.bipush 43, 2) by decide +kernel) rfl rfl ?_
      refine bnd_j (Q := fun j13 => j13 = some (ρ, τ) → Y E MX7_readSum (yRm (10 + dp + 1) 0 0) (yQf E (150 + 0) 0 0 (some (.inl ρ)) (ov τ)) 40 [(0, .inr (.inr (o + 1))), (1, .inr (.inr (1 + 1))), (2, .inl b), (4, .inl x6)] [] (ov σ7) 150 0 0) (fun h => ?_) (fun j13 hj13 h => ?_) h
      · refine y_aload_n (show decode cX7_readSum 40 = .ok (.aload_n 1, 1) by decide +kernel) 1 rfl ?_
        refine y_getf 1 8 3 29 (by decide) rfl (by decide) (by decide) q1_41 (show decode cX7_readSum 41 = .ok (.getfield 29, 3) by decide +kernel) (v := .inl (σ7 1 3)) rfl ?_
        refine y_istore (show decode cX7_readSum 44 = .ok (.istore 5, 2) by decide +kernel) rfl (L1 := [(5, .inl (σ7 1 3)), (0, .inr (.inr (o + 1))), (1, .inr (.inr (1 + 1))), (2, .inl b), (4, .inl x6)]) rfl ?_
        refine y_aload_n (show decode cX7_readSum 46 = .ok (.aload_n 1, 1) by decide +kernel) 2 rfl ?_
        obtain ⟨σ15, e14, h⟩ := bndO_some h
        refine y_callV (np := 0) (st := []) (as := []) 1 8 (sh_cTp_step e14) q3_90 q4_99 q3_88 q3_89 q1_2 (by decide) rfl (by decide) rfl (by decide) (by decide +kernel) (by simp only [yRm, MX8_step]; omega) rfl (Nat.le_of_ble_eq_true rfl) (show decode cX7_readSum 47 = .ok (.invokevirtual 34, 3) by decide +kernel) rfl ?_
        refine y_aload_n (show decode cX7_readSum 50 = .ok (.aload_n 0, 1) by decide +kernel) 1 rfl ?_
        refine y_aload_n (show decode cX7_readSum 51 = .ok (.aload_n 1, 1) by decide +kernel) 2 rfl ?_
        refine y_iload_n (show decode cX7_readSum 52 = .ok (.iload_n 2, 1) by decide +kernel) 3 rfl ?_
        obtain ⟨r17, σ18, e16, h⟩ := bndR_some h
        refine y_callV (np := 2) (st := []) (as := [.inr (.inr (1 + 1)), .inl b]) o 7 (hrec_readTerm e16) q4_89 q4_86 q4_88 qs2_6 q1_7 (by omega) (by rcases c1 with rfl | rfl <;> rfl) (by decide) rfl (by decide) (by decide +kernel) (by simp only [yRm, MX7_readTerm]; omega) rfl (Nat.le_of_ble_eq_true rfl) (show decode cX7_readSum 53 = .ok (.invokevirtual 53, 3) by decide +kernel) rfl ?_
        refine bnd_j (Q := fun j21 => ∀ (y19 : Int) (σ20 : ySt), j21 y19 σ20 = some (ρ, τ) → Y E MX7_readSum (yRm (10 + dp + 1) 0 0) (yQf E (150 + 0) 0 0 (some (.inl ρ)) (ov τ)) 74 [(0, .inr (.inr (o + 1))), (1, .inr (.inr (1 + 1))), (2, .inl b), (4, .inl x6)] [.inl y19] (ov σ20) 150 0 0) (fun y19 σ20 h => ?_) (fun j21 hj21 h => ?_) h
        · dsimp only at h
          refine y_istore_n (show decode cX7_readSum 74 = .ok (.istore_n 3, 1) by decide +kernel) rfl (L1 := [(3, .inl y19), (0, .inr (.inr (o + 1))), (1, .inr (.inr (1 + 1))), (2, .inl b), (4, .inl x6)]) rfl ?_
          obtain ⟨c22, h⟩ := chkI_some h
          refine y_iinc (show decode cX7_readSum 75 = .ok (.iinc 4 1, 3) by decide +kernel) 4 rfl c22 rfl (L1 := [(4, .inl (x6 + 1)), (3, .inl y19), (0, .inr (.inr (o + 1))), (1, .inr (.inr (1 + 1))), (2, .inl b)]) rfl ?_
          refine y_goto (tgt := 10) (show decode cX7_readSum 78 = .ok (.goto (-68), 3) by decide +kernel) rfl ?_
          refine y_pick [2, 3, 4, 1, 0] rfl ?_
          exact hk8 _ _ _ h
        by_cases c23 : r17 = 0
        · rw [if_pos c23] at h
          refine y_if_eq_t (tgt := 73) (show decode cX7_readSum 56 = .ok (.ifCond .eq 17, 3) by decide +kernel) rfl c23 ?_
          refine y_iconst (show decode cX7_readSum 73 = .ok (.iconst 0, 1) by decide +kernel) rfl ?_
          refine y_pick [1, 2, 3, 4] rfl ?_
          exact hj21 _ _ h
        · rw [if_neg c23] at h
          refine y_if_eq_f (show decode cX7_readSum 56 = .ok (.ifCond .eq 17, 3) by decide +kernel) c23 (by decide) ?_
          refine y_aload_n (show decode cX7_readSum 59 = .ok (.aload_n 0, 1) by decide +kernel) 1 rfl ?_
          refine y_iload (show decode cX7_readSum 60 = .ok (.iload 5, 2) by decide +kernel) 0 rfl ?_
          obtain ⟨c24, h⟩ := chkI_some h
          refine y_ineg (show decode cX7_readSum 62 = .ok (.ineg, 1) by decide +kernel) c24 ?_
          obtain ⟨r26, σ27, e25, h⟩ := bndR_some h
          refine y_callV (np := 1) (st := []) (as := [.inl (-(σ7 1 3))]) o 7 (sh_cRu_put e25) q4_105 q4_102 q4_104 qs2_8 q1_7 (by omega) (by rcases c1 with rfl | rfl <;> rfl) (by decide) rfl (by decide) (by decide +kernel) (by simp only [yRm, MX7_put]; omega) rfl (Nat.le_of_ble_eq_true rfl) (show decode cX7_readSum 63 = .ok (.invokevirtual 37, 3) by decide +kernel) rfl ?_
          by_cases c28 : r26 = 0
          · rw [if_pos c28] at h
            refine y_if_eq_t (tgt := 73) (show decode cX7_readSum 66 = .ok (.ifCond .eq 7, 3) by decide +kernel) rfl c28 ?_
            refine y_iconst (show decode cX7_readSum 73 = .ok (.iconst 0, 1) by decide +kernel) rfl ?_
            refine y_pick [1, 2, 3, 4] rfl ?_
            exact hj21 _ _ h
          · rw [if_neg c28] at h
            refine y_if_eq_f (show decode cX7_readSum 66 = .ok (.ifCond .eq 7, 3) by decide +kernel) c28 (by decide) ?_
            refine y_iconst (show decode cX7_readSum 69 = .ok (.iconst 1, 1) by decide +kernel) rfl ?_
            refine y_goto (tgt := 74) (show decode cX7_readSum 70 = .ok (.goto 4, 3) by decide +kernel) rfl ?_
            refine y_pick [1, 2, 3, 4] rfl ?_
            exact hj21 _ _ h
      by_cases c29 : (σ7 1 3) = 43
      · rw [if_pos c29] at h
        refine y_icmp_eq_t (tgt := 40) (show decode cX7_readSum 28 = .ok (.if_icmp .eq 12, 3) by decide +kernel) rfl c29 ?_
        refine y_pick [0, 1, 2, 4] rfl ?_
        exact hj13 h
      · rw [if_neg c29] at h
        refine y_icmp_eq_f (show decode cX7_readSum 28 = .ok (.if_icmp .eq 12, 3) by decide +kernel) c29 (by decide) ?_
        refine y_aload_n (show decode cX7_readSum 31 = .ok (.aload_n 1, 1) by decide +kernel) 1 rfl ?_
        refine y_getf 1 8 3 29 (by decide) rfl (by decide) (by decide) q1_41 (show decode cX7_readSum 32 = .ok (.getfield 29, 3) by decide +kernel) (v := .inl (σ7 1 3)) rfl ?_
        refine y_bipush (show decode cX7_readSum 35 = .ok (.bipush 45, 2) by decide +kernel) rfl rfl ?_
        by_cases c30 : ¬ (σ7 1 3) = 45
        · rw [if_pos c30] at h
          refine y_icmp_ne_t (tgt := 81) (show decode cX7_readSum 37 = .ok (.if_icmp .ne 44, 3) by decide +kernel) rfl c30 ?_
          refine y_iload_n (show decode cX7_readSum 81 = .ok (.iload_n 3, 1) by decide +kernel) 3 rfl ?_
          obtain ⟨c31, h⟩ := chk_some h
          cases h
          exact y_zret (show decode cX7_readSum 82 = .ok (.ireturn, 1) by decide +kernel) rfl c31
        · rw [if_neg c30] at h
          refine y_icmp_ne_f (show decode cX7_readSum 37 = .ok (.if_icmp .ne 44, 3) by decide +kernel) c30 (by decide) ?_
          refine y_pick [0, 1, 2, 4] rfl ?_
          exact hj13 h
def cRu_readTerm_b (rec : Nat → Nat → Int → ySt → Option (Int × ySt)) (N : Nat) (o : Nat) (b : Int) (σ : ySt) : Option (Int × ySt) :=
  chk (o = 30 ∨ o = 50) <|
  bndR (rec 6 o b σ) fun r3 σ4 =>
  loopS2 (fun k8 x5 x6 σ7 =>
    if x6 ≥ 1600 then
      chk (x5 = 0 ∨ x5 = 1) <|
      some (x5, σ7)
    else
      if x5 = 0 then
        chk (x5 = 0 ∨ x5 = 1) <|
        some (x5, σ7)
      else
        bnd (bndO (cTp_step N σ7) fun σ15 =>
          bndR (rec 6 o b σ15) fun r17 σ18 =>
          bnd (fun (y19 : Int) (σ20 : ySt) =>
            chkI (x6 + 1) <|
            k8 y19 (x6 + 1) σ20) fun j21 =>
          if r17 = 0 then
            j21 0 σ18
          else
            chkI (-(σ7 1 3)) <|
            bndR (cRu_put o (-(σ7 1 3)) σ18) fun r26 σ27 =>
            if r26 = 0 then
              j21 0 σ27
            else
              j21 1 σ27) fun j13 =>
        if (σ7 1 3) = 42 then
          j13
        else
          if ¬ (σ7 1 3) = 47 then
            chk (x5 = 0 ∨ x5 = 1) <|
            some (x5, σ7)
          else
            j13) N r3 0 σ4
set_option maxHeartbeats 4000000 in
set_option maxRecDepth 10000 in
theorem shb_cRu_readTerm {E : yE} {rec : Nat → Nat → Int → ySt → Option (Int × ySt)} {dp : Nat} {N : Nat} {o : Nat} {b : Int} {σ : ySt} {ρ : Int} {τ : ySt} (hrec_readUnit : ∀ {o : Nat} {b : Int} {σ : ySt} {ρ : Int} {τ : ySt}, rec 6 o b σ = some (ρ, τ) → Con E MX7_readUnit (10 + dp) 0 0 [.inr (.inr (o + 1)), .inr (.inr (1 + 1)), .inl b] 150 (ov σ) (some (.inl ρ)) (ov τ)) (h : cRu_readTerm_b rec N o b σ = some (ρ, τ)) : Con E MX7_readTerm (10 + dp + 1) 0 0 [.inr (.inr (o + 1)), .inr (.inr (1 + 1)), .inl b] 150 (ov σ) (some (.inl ρ)) (ov τ) := by
  unfold cRu_readTerm_b at h
  refine Con.ofY (by decide +kernel) (by simp [yWords, yCat]) (fun hok _ => ?_)
  show Y E MX7_readTerm (yRm (10 + dp + 1) 0 0) (yQf E (150 + 0) 0 0 (some (.inl ρ)) (ov τ)) 0 [(0, .inr (.inr (o + 1))), (1, .inr (.inr (1 + 1))), (2, .inl b)] [] (ov σ) 150 0 0
  obtain ⟨c1, h⟩ := chk_some h
  refine y_aload_n (show decode cX7_readTerm 0 = .ok (.aload_n 0, 1) by decide +kernel) 0 rfl ?_
  refine y_aload_n (show decode cX7_readTerm 1 = .ok (.aload_n 1, 1) by decide +kernel) 1 rfl ?_
  refine y_iload_n (show decode cX7_readTerm 2 = .ok (.iload_n 2, 1) by decide +kernel) 2 rfl ?_
  obtain ⟨r3, σ4, e2, h⟩ := bndR_some h
  refine y_callV (np := 2) (st := []) (as := [.inr (.inr (1 + 1)), .inl b]) o 7 (hrec_readUnit e2) q4_93 q4_90 q4_92 qs2_7 q1_7 (by omega) (by rcases c1 with rfl | rfl <;> rfl) (by decide) rfl (by decide) (by decide +kernel) (by simp only [yRm, MX7_readUnit]; omega) rfl (Nat.le_of_ble_eq_true rfl) (show decode cX7_readTerm 3 = .ok (.invokevirtual 56, 3) by decide +kernel) rfl ?_
  refine y_istore_n (show decode cX7_readTerm 6 = .ok (.istore_n 3, 1) by decide +kernel) rfl (L1 := [(3, .inl r3), (0, .inr (.inr (o + 1))), (1, .inr (.inr (1 + 1))), (2, .inl b)]) rfl ?_
  refine y_iconst (show decode cX7_readTerm 7 = .ok (.iconst 0, 1) by decide +kernel) rfl ?_
  refine y_istore (show decode cX7_readTerm 8 = .ok (.istore 4, 2) by decide +kernel) rfl (L1 := [(4, .inl 0), (3, .inl r3), (0, .inr (.inr (o + 1))), (1, .inr (.inr (1 + 1))), (2, .inl b)]) rfl ?_
  refine y_pick [2, 3, 4, 1, 0] rfl ?_
  refine loopS2_ind (P := fun x5 x6 σ7 => Y E MX7_readTerm (yRm (10 + dp + 1) 0 0) (yQf E (150 + 0) 0 0 (some (.inl ρ)) (ov τ)) 10 [(0, .inr (.inr (o + 1))), (1, .inr (.inr (1 + 1))), (2, .inl b), (3, .inl x5), (4, .inl x6)] [] (ov σ7) 150 0 0) (fun k8 hk8 x5 x6 σ7 h => ?_) _ _ _ _  h
  refine y_iload (show decode cX7_readTerm 10 = .ok (.iload 4, 2) by decide +kernel) 4 rfl ?_
  refine y_sipush (show decode cX7_readTerm 12 = .ok (.sipush 1600, 3) by decide +kernel) rfl rfl ?_
  by_cases c9 : x6 ≥ 1600
  · rw [if_pos c9] at h
    refine y_icmp_ge_t (tgt := 81) (show decode cX7_readTerm 15 = .ok (.if_icmp .ge 66, 3) by decide +kernel) rfl c9 ?_
    refine y_iload_n (show decode cX7_readTerm 81 = .ok (.iload_n 3, 1) by decide +kernel) 3 rfl ?_
    obtain ⟨c10, h⟩ := chk_some h
    cases h
    exact y_zret (show decode cX7_readTerm 82 = .ok (.ireturn, 1) by decide +kernel) rfl c10
  · rw [if_neg c9] at h
    refine y_icmp_ge_f (show decode cX7_readTerm 15 = .ok (.if_icmp .ge 66, 3) by decide +kernel) c9 (by decide) ?_
    refine y_iload_n (show decode cX7_readTerm 18 = .ok (.iload_n 3, 1) by decide +kernel) 3 rfl ?_
    by_cases c11 : x5 = 0
    · rw [if_pos c11] at h
      refine y_if_eq_t (tgt := 81) (show decode cX7_readTerm 19 = .ok (.ifCond .eq 62, 3) by decide +kernel) rfl c11 ?_
      refine y_iload_n (show decode cX7_readTerm 81 = .ok (.iload_n 3, 1) by decide +kernel) 3 rfl ?_
      obtain ⟨c12, h⟩ := chk_some h
      cases h
      exact y_zret (show decode cX7_readTerm 82 = .ok (.ireturn, 1) by decide +kernel) rfl c12
    · rw [if_neg c11] at h
      refine y_if_eq_f (show decode cX7_readTerm 19 = .ok (.ifCond .eq 62, 3) by decide +kernel) c11 (by decide) ?_
      refine y_aload_n (show decode cX7_readTerm 22 = .ok (.aload_n 1, 1) by decide +kernel) 1 rfl ?_
      refine y_getf 1 8 3 29 (by decide) rfl (by decide) (by decide) q1_41 (show decode cX7_readTerm 23 = .ok (.getfield 29, 3) by decide +kernel) (v := .inl (σ7 1 3)) rfl ?_
      refine y_bipush (show decode cX7_readTerm 26 = .ok (.bipush 42, 2) by decide +kernel) rfl rfl ?_
      refine bnd_j (Q := fun j13 => j13 = some (ρ, τ) → Y E MX7_readTerm (yRm (10 + dp + 1) 0 0) (yQf E (150 + 0) 0 0 (some (.inl ρ)) (ov τ)) 40 [(0, .inr (.inr (o + 1))), (1, .inr (.inr (1 + 1))), (2, .inl b), (4, .inl x6)] [] (ov σ7) 150 0 0) (fun h => ?_) (fun j13 hj13 h => ?_) h
      · refine y_aload_n (show decode cX7_readTerm 40 = .ok (.aload_n 1, 1) by decide +kernel) 1 rfl ?_
        refine y_getf 1 8 3 29 (by decide) rfl (by decide) (by decide) q1_41 (show decode cX7_readTerm 41 = .ok (.getfield 29, 3) by decide +kernel) (v := .inl (σ7 1 3)) rfl ?_
        refine y_istore (show decode cX7_readTerm 44 = .ok (.istore 5, 2) by decide +kernel) rfl (L1 := [(5, .inl (σ7 1 3)), (0, .inr (.inr (o + 1))), (1, .inr (.inr (1 + 1))), (2, .inl b), (4, .inl x6)]) rfl ?_
        refine y_aload_n (show decode cX7_readTerm 46 = .ok (.aload_n 1, 1) by decide +kernel) 2 rfl ?_
        obtain ⟨σ15, e14, h⟩ := bndO_some h
        refine y_callV (np := 0) (st := []) (as := []) 1 8 (sh_cTp_step e14) q3_90 q4_99 q3_88 q3_89 q1_2 (by decide) rfl (by decide) rfl (by decide) (by decide +kernel) (by simp only [yRm, MX8_step]; omega) rfl (Nat.le_of_ble_eq_true rfl) (show decode cX7_readTerm 47 = .ok (.invokevirtual 34, 3) by decide +kernel) rfl ?_
        refine y_aload_n (show decode cX7_readTerm 50 = .ok (.aload_n 0, 1) by decide +kernel) 1 rfl ?_
        refine y_aload_n (show decode cX7_readTerm 51 = .ok (.aload_n 1, 1) by decide +kernel) 2 rfl ?_
        refine y_iload_n (show decode cX7_readTerm 52 = .ok (.iload_n 2, 1) by decide +kernel) 3 rfl ?_
        obtain ⟨r17, σ18, e16, h⟩ := bndR_some h
        refine y_callV (np := 2) (st := []) (as := [.inr (.inr (1 + 1)), .inl b]) o 7 (hrec_readUnit e16) q4_93 q4_90 q4_92 qs2_7 q1_7 (by omega) (by rcases c1 with rfl | rfl <;> rfl) (by decide) rfl (by decide) (by decide +kernel) (by simp only [yRm, MX7_readUnit]; omega) rfl (Nat.le_of_ble_eq_true rfl) (show decode cX7_readTerm 53 = .ok (.invokevirtual 56, 3) by decide +kernel) rfl ?_
        refine bnd_j (Q := fun j21 => ∀ (y19 : Int) (σ20 : ySt), j21 y19 σ20 = some (ρ, τ) → Y E MX7_readTerm (yRm (10 + dp + 1) 0 0) (yQf E (150 + 0) 0 0 (some (.inl ρ)) (ov τ)) 74 [(0, .inr (.inr (o + 1))), (1, .inr (.inr (1 + 1))), (2, .inl b), (4, .inl x6)] [.inl y19] (ov σ20) 150 0 0) (fun y19 σ20 h => ?_) (fun j21 hj21 h => ?_) h
        · dsimp only at h
          refine y_istore_n (show decode cX7_readTerm 74 = .ok (.istore_n 3, 1) by decide +kernel) rfl (L1 := [(3, .inl y19), (0, .inr (.inr (o + 1))), (1, .inr (.inr (1 + 1))), (2, .inl b), (4, .inl x6)]) rfl ?_
          obtain ⟨c22, h⟩ := chkI_some h
          refine y_iinc (show decode cX7_readTerm 75 = .ok (.iinc 4 1, 3) by decide +kernel) 4 rfl c22 rfl (L1 := [(4, .inl (x6 + 1)), (3, .inl y19), (0, .inr (.inr (o + 1))), (1, .inr (.inr (1 + 1))), (2, .inl b)]) rfl ?_
          refine y_goto (tgt := 10) (show decode cX7_readTerm 78 = .ok (.goto (-68), 3) by decide +kernel) rfl ?_
          refine y_pick [2, 3, 4, 1, 0] rfl ?_
          exact hk8 _ _ _ h
        by_cases c23 : r17 = 0
        · rw [if_pos c23] at h
          refine y_if_eq_t (tgt := 73) (show decode cX7_readTerm 56 = .ok (.ifCond .eq 17, 3) by decide +kernel) rfl c23 ?_
          refine y_iconst (show decode cX7_readTerm 73 = .ok (.iconst 0, 1) by decide +kernel) rfl ?_
          refine y_pick [1, 2, 3, 4] rfl ?_
          exact hj21 _ _ h
        · rw [if_neg c23] at h
          refine y_if_eq_f (show decode cX7_readTerm 56 = .ok (.ifCond .eq 17, 3) by decide +kernel) c23 (by decide) ?_
          refine y_aload_n (show decode cX7_readTerm 59 = .ok (.aload_n 0, 1) by decide +kernel) 1 rfl ?_
          refine y_iload (show decode cX7_readTerm 60 = .ok (.iload 5, 2) by decide +kernel) 0 rfl ?_
          obtain ⟨c24, h⟩ := chkI_some h
          refine y_ineg (show decode cX7_readTerm 62 = .ok (.ineg, 1) by decide +kernel) c24 ?_
          obtain ⟨r26, σ27, e25, h⟩ := bndR_some h
          refine y_callV (np := 1) (st := []) (as := [.inl (-(σ7 1 3))]) o 7 (sh_cRu_put e25) q4_105 q4_102 q4_104 qs2_8 q1_7 (by omega) (by rcases c1 with rfl | rfl <;> rfl) (by decide) rfl (by decide) (by decide +kernel) (by simp only [yRm, MX7_put]; omega) rfl (Nat.le_of_ble_eq_true rfl) (show decode cX7_readTerm 63 = .ok (.invokevirtual 37, 3) by decide +kernel) rfl ?_
          by_cases c28 : r26 = 0
          · rw [if_pos c28] at h
            refine y_if_eq_t (tgt := 73) (show decode cX7_readTerm 66 = .ok (.ifCond .eq 7, 3) by decide +kernel) rfl c28 ?_
            refine y_iconst (show decode cX7_readTerm 73 = .ok (.iconst 0, 1) by decide +kernel) rfl ?_
            refine y_pick [1, 2, 3, 4] rfl ?_
            exact hj21 _ _ h
          · rw [if_neg c28] at h
            refine y_if_eq_f (show decode cX7_readTerm 66 = .ok (.ifCond .eq 7, 3) by decide +kernel) c28 (by decide) ?_
            refine y_iconst (show decode cX7_readTerm 69 = .ok (.iconst 1, 1) by decide +kernel) rfl ?_
            refine y_goto (tgt := 74) (show decode cX7_readTerm 70 = .ok (.goto 4, 3) by decide +kernel) rfl ?_
            refine y_pick [1, 2, 3, 4] rfl ?_
            exact hj21 _ _ h
      by_cases c29 : (σ7 1 3) = 42
      · rw [if_pos c29] at h
        refine y_icmp_eq_t (tgt := 40) (show decode cX7_readTerm 28 = .ok (.if_icmp .eq 12, 3) by decide +kernel) rfl c29 ?_
        refine y_pick [0, 1, 2, 4] rfl ?_
        exact hj13 h
      · rw [if_neg c29] at h
        refine y_icmp_eq_f (show decode cX7_readTerm 28 = .ok (.if_icmp .eq 12, 3) by decide +kernel) c29 (by decide) ?_
        refine y_aload_n (show decode cX7_readTerm 31 = .ok (.aload_n 1, 1) by decide +kernel) 1 rfl ?_
        refine y_getf 1 8 3 29 (by decide) rfl (by decide) (by decide) q1_41 (show decode cX7_readTerm 32 = .ok (.getfield 29, 3) by decide +kernel) (v := .inl (σ7 1 3)) rfl ?_
        refine y_bipush (show decode cX7_readTerm 35 = .ok (.bipush 47, 2) by decide +kernel) rfl rfl ?_
        by_cases c30 : ¬ (σ7 1 3) = 47
        · rw [if_pos c30] at h
          refine y_icmp_ne_t (tgt := 81) (show decode cX7_readTerm 37 = .ok (.if_icmp .ne 44, 3) by decide +kernel) rfl c30 ?_
          refine y_iload_n (show decode cX7_readTerm 81 = .ok (.iload_n 3, 1) by decide +kernel) 3 rfl ?_
          obtain ⟨c31, h⟩ := chk_some h
          cases h
          exact y_zret (show decode cX7_readTerm 82 = .ok (.ireturn, 1) by decide +kernel) rfl c31
        · rw [if_neg c30] at h
          refine y_icmp_ne_f (show decode cX7_readTerm 37 = .ok (.if_icmp .ne 44, 3) by decide +kernel) c30 (by decide) ?_
          refine y_pick [0, 1, 2, 4] rfl ?_
          exact hj13 h
def cRu_readUnit_b (rec : Nat → Nat → Int → ySt → Option (Int × ySt)) (N : Nat) (o : Nat) (b : Int) (σ : ySt) : Option (Int × ySt) :=
  chk (o = 30 ∨ o = 50) <|
  bndO (cRu_beginsUnit (σ 1 3) σ) fun r3 =>
  if ¬ r3 = 0 then
    bnd (fun (y5 : Int) =>
      bnd (bndR (cTp_blame 2 σ) fun r9 σ10 =>
        chk (r9 = 0 ∨ r9 = 1) <|
        some (r9, σ10)) fun j7 =>
      if (σ o 3) ≥ 40 then
        j7
      else
        bnd (chkI ((σ o 3) + 1) <|
          bnd (yset σ o 3 ((σ o 3) + 1)) fun σ15 =>
          bnd (fun (y17 : Int) =>
            bndO (cTp_step N σ15) fun σ20 =>
            if y5 = 0 then
              bndR (cRu_put o y17 σ20) fun r23 σ24 =>
              chk (r23 = 0 ∨ r23 = 1) <|
              some (r23, σ24)
            else
              chkI (b + 1) <|
              bndR (rec 0 o (b + 1) σ20) fun r28 σ29 =>
              if r28 = 0 then
                some (0, σ29)
              else
                bndR (cTp_pass N 41 σ29) fun r32 σ33 =>
                if r32 = 0 then
                  some (0, σ33)
                else
                  some (1, σ33)) fun j18 =>
          if ¬ (σ15 1 3) = 2 then
            chkI (-(σ15 1 3)) <|
            j18 (-(σ15 1 3))
          else
            j18 (σ15 1 5)) fun j13 =>
        if y5 = 0 then
          j13
        else
          if b ≤ 6 then
            j13
          else
            j7) fun j6 =>
    if ¬ (σ 1 3) = 40 then
      j6 0
    else
      j6 1
  else
    bndR (cTp_refuse σ) fun r41 σ42 =>
    chk (r41 = 0 ∨ r41 = 1) <|
    some (r41, σ42)
set_option maxHeartbeats 4000000 in
set_option maxRecDepth 10000 in
theorem shb_cRu_readUnit {E : yE} {rec : Nat → Nat → Int → ySt → Option (Int × ySt)} {dp : Nat} {N : Nat} {o : Nat} {b : Int} {σ : ySt} {ρ : Int} {τ : ySt} (hrec_readEither : ∀ {o : Nat} {b : Int} {σ : ySt} {ρ : Int} {τ : ySt}, rec 0 o b σ = some (ρ, τ) → Con E MX7_readEither (10 + dp) 0 0 [.inr (.inr (o + 1)), .inr (.inr (1 + 1)), .inl b] 150 (ov σ) (some (.inl ρ)) (ov τ)) (h : cRu_readUnit_b rec N o b σ = some (ρ, τ)) : Con E MX7_readUnit (10 + dp + 1) 0 0 [.inr (.inr (o + 1)), .inr (.inr (1 + 1)), .inl b] 150 (ov σ) (some (.inl ρ)) (ov τ) := by
  unfold cRu_readUnit_b at h
  refine Con.ofY (by decide +kernel) (by simp [yWords, yCat]) (fun hok _ => ?_)
  show Y E MX7_readUnit (yRm (10 + dp + 1) 0 0) (yQf E (150 + 0) 0 0 (some (.inl ρ)) (ov τ)) 0 [(0, .inr (.inr (o + 1))), (1, .inr (.inr (1 + 1))), (2, .inl b)] [] (ov σ) 150 0 0
  obtain ⟨c1, h⟩ := chk_some h
  refine y_aload_n (show decode cX7_readUnit 0 = .ok (.aload_n 1, 1) by decide +kernel) 1 rfl ?_
  refine y_getf 1 8 3 29 (by decide) rfl (by decide) (by decide) q1_41 (show decode cX7_readUnit 1 = .ok (.getfield 29, 3) by decide +kernel) (v := .inl (σ 1 3)) rfl ?_
  obtain ⟨r3, e2, h⟩ := bndO_some h
  refine y_callS (np := 1) (st := []) (as := [.inl (σ 1 3)]) (sh_cRu_beginsUnit e2) q4_96 q4_94 q4_95 q1_7 (by decide) (by decide +kernel) (by simp only [yRm, MX7_beginsUnit]; omega) rfl (Nat.le_of_ble_eq_true rfl) (show decode cX7_readUnit 4 = .ok (.invokestatic 59, 3) by decide +kernel) rfl ?_
  by_cases c4 : ¬ r3 = 0
  · rw [if_pos c4] at h
    refine y_if_ne_t (tgt := 15) (show decode cX7_readUnit 7 = .ok (.ifCond .ne 8, 3) by decide +kernel) rfl c4 ?_
    refine y_aload_n (show decode cX7_readUnit 15 = .ok (.aload_n 1, 1) by decide +kernel) 1 rfl ?_
    refine y_getf 1 8 3 29 (by decide) rfl (by decide) (by decide) q1_41 (show decode cX7_readUnit 16 = .ok (.getfield 29, 3) by decide +kernel) (v := .inl (σ 1 3)) rfl ?_
    refine y_bipush (show decode cX7_readUnit 19 = .ok (.bipush 40, 2) by decide +kernel) rfl rfl ?_
    refine bnd_j (Q := fun j6 => ∀ (y5 : Int), j6 y5 = some (ρ, τ) → Y E MX7_readUnit (yRm (10 + dp + 1) 0 0) (yQf E (150 + 0) 0 0 (some (.inl ρ)) (ov τ)) 29 [(0, .inr (.inr (o + 1))), (1, .inr (.inr (1 + 1))), (2, .inl b)] [.inl y5] (ov σ) 150 0 0) (fun y5 h => ?_) (fun j6 hj6 h => ?_) h
    · dsimp only at h
      refine y_istore_n (show decode cX7_readUnit 29 = .ok (.istore_n 3, 1) by decide +kernel) rfl (L1 := [(3, .inl y5), (0, .inr (.inr (o + 1))), (1, .inr (.inr (1 + 1))), (2, .inl b)]) rfl ?_
      refine y_aload_n (show decode cX7_readUnit 30 = .ok (.aload_n 0, 1) by decide +kernel) 1 rfl ?_
      refine y_getf o 7 3 22 (by omega) (by rcases c1 with rfl | rfl <;> rfl) (by decide) (by decide) q1_168 (show decode cX7_readUnit 31 = .ok (.getfield 22, 3) by decide +kernel) (v := .inl (σ o 3)) (by rcases c1 with rfl | rfl <;> rfl) ?_
      refine y_bipush (show decode cX7_readUnit 34 = .ok (.bipush 40, 2) by decide +kernel) rfl rfl ?_
      refine bnd_j (Q := fun j7 => j7 = some (ρ, τ) → Y E MX7_readUnit (yRm (10 + dp + 1) 0 0) (yQf E (150 + 0) 0 0 (some (.inl ρ)) (ov τ)) 49 [(1, .inr (.inr (1 + 1)))] [] (ov σ) 150 0 0) (fun h => ?_) (fun j7 hj7 h => ?_) h
      · refine y_aload_n (show decode cX7_readUnit 49 = .ok (.aload_n 1, 1) by decide +kernel) 0 rfl ?_
        refine y_iconst (show decode cX7_readUnit 50 = .ok (.iconst 2, 1) by decide +kernel) rfl ?_
        obtain ⟨r9, σ10, e8, h⟩ := bndR_some h
        refine y_callV (np := 1) (st := []) (as := [.inl 2]) 1 8 (sh_cTp_blame e8) q3_235 q4_98 q3_233 q3_234 q1_2 (by decide) rfl (by decide) rfl (by decide) (by decide +kernel) (by simp only [yRm, MX8_blame]; omega) rfl (Nat.le_of_ble_eq_true rfl) (show decode cX7_readUnit 51 = .ok (.invokevirtual 47, 3) by decide +kernel) rfl ?_
        obtain ⟨c11, h⟩ := chk_some h
        cases h
        exact y_zret (show decode cX7_readUnit 54 = .ok (.ireturn, 1) by decide +kernel) rfl c11
      by_cases c12 : (σ o 3) ≥ 40
      · rw [if_pos c12] at h
        refine y_icmp_ge_t (tgt := 49) (show decode cX7_readUnit 36 = .ok (.if_icmp .ge 13, 3) by decide +kernel) rfl c12 ?_
        refine y_pick [2] rfl ?_
        exact hj7 h
      · rw [if_neg c12] at h
        refine y_icmp_ge_f (show decode cX7_readUnit 36 = .ok (.if_icmp .ge 13, 3) by decide +kernel) c12 (by decide) ?_
        refine y_iload_n (show decode cX7_readUnit 39 = .ok (.iload_n 3, 1) by decide +kernel) 0 rfl ?_
        refine bnd_j (Q := fun j13 => j13 = some (ρ, τ) → Y E MX7_readUnit (yRm (10 + dp + 1) 0 0) (yQf E (150 + 0) 0 0 (some (.inl ρ)) (ov τ)) 55 [(0, .inr (.inr (o + 1))), (1, .inr (.inr (1 + 1))), (2, .inl b), (3, .inl y5)] [] (ov σ) 150 0 0) (fun h => ?_) (fun j13 hj13 h => ?_) h
        · refine y_aload_n (show decode cX7_readUnit 55 = .ok (.aload_n 0, 1) by decide +kernel) 0 rfl ?_
          refine y_dup (show decode cX7_readUnit 56 = .ok (.dup, 1) by decide +kernel) rfl ?_
          refine y_getf o 7 3 22 (by omega) (by rcases c1 with rfl | rfl <;> rfl) (by decide) (by decide) q1_168 (show decode cX7_readUnit 57 = .ok (.getfield 22, 3) by decide +kernel) (v := .inl (σ o 3)) (by rcases c1 with rfl | rfl <;> rfl) ?_
          refine y_iconst (show decode cX7_readUnit 60 = .ok (.iconst 1, 1) by decide +kernel) rfl ?_
          obtain ⟨c14, h⟩ := chkI_some h
          refine y_iadd (show decode cX7_readUnit 61 = .ok (.iadd, 1) by decide +kernel) c14 ?_
          obtain ⟨σ15, e16, h⟩ := bnd_i h
          refine yo_putI o 7 3 22 (by omega) (by rcases c1 with rfl | rfl <;> rfl) (by decide) (by decide) q1_168 rfl (show decode cX7_readUnit 62 = .ok (.putfield 22, 3) by decide +kernel) rfl rfl (ov_set1 e16 (by rcases c1 with rfl | rfl <;> rfl)) ?_
          refine y_aload_n (show decode cX7_readUnit 65 = .ok (.aload_n 1, 1) by decide +kernel) 1 rfl ?_
          refine y_getf 1 8 3 29 (by decide) rfl (by decide) (by decide) q1_41 (show decode cX7_readUnit 66 = .ok (.getfield 29, 3) by decide +kernel) (v := .inl (σ15 1 3)) rfl ?_
          refine y_iconst (show decode cX7_readUnit 69 = .ok (.iconst 2, 1) by decide +kernel) rfl ?_
          refine bnd_j (Q := fun j18 => ∀ (y17 : Int), j18 y17 = some (ρ, τ) → Y E MX7_readUnit (yRm (10 + dp + 1) 0 0) (yQf E (150 + 0) 0 0 (some (.inl ρ)) (ov τ)) 85 [(0, .inr (.inr (o + 1))), (1, .inr (.inr (1 + 1))), (2, .inl b), (3, .inl y5)] [.inl y17] (ov σ15) 150 0 0) (fun y17 h => ?_) (fun j18 hj18 h => ?_) h
          · dsimp only at h
            refine y_istore (show decode cX7_readUnit 85 = .ok (.istore 4, 2) by decide +kernel) rfl (L1 := [(4, .inl y17), (0, .inr (.inr (o + 1))), (1, .inr (.inr (1 + 1))), (2, .inl b), (3, .inl y5)]) rfl ?_
            refine y_aload_n (show decode cX7_readUnit 87 = .ok (.aload_n 1, 1) by decide +kernel) 2 rfl ?_
            obtain ⟨σ20, e19, h⟩ := bndO_some h
            refine y_callV (np := 0) (st := []) (as := []) 1 8 (sh_cTp_step e19) q3_90 q4_99 q3_88 q3_89 q1_2 (by decide) rfl (by decide) rfl (by decide) (by decide +kernel) (by simp only [yRm, MX8_step]; omega) rfl (Nat.le_of_ble_eq_true rfl) (show decode cX7_readUnit 88 = .ok (.invokevirtual 34, 3) by decide +kernel) rfl ?_
            refine y_iload_n (show decode cX7_readUnit 91 = .ok (.iload_n 3, 1) by decide +kernel) 4 rfl ?_
            by_cases c21 : y5 = 0
            · rw [if_pos c21] at h
              refine y_if_eq_t (tgt := 123) (show decode cX7_readUnit 92 = .ok (.ifCond .eq 31, 3) by decide +kernel) rfl c21 ?_
              refine y_aload_n (show decode cX7_readUnit 123 = .ok (.aload_n 0, 1) by decide +kernel) 1 rfl ?_
              refine y_iload (show decode cX7_readUnit 124 = .ok (.iload 4, 2) by decide +kernel) 0 rfl ?_
              obtain ⟨r23, σ24, e22, h⟩ := bndR_some h
              refine y_callV (np := 1) (st := []) (as := [.inl y17]) o 7 (sh_cRu_put e22) q4_105 q4_102 q4_104 qs2_8 q1_7 (by omega) (by rcases c1 with rfl | rfl <;> rfl) (by decide) rfl (by decide) (by decide +kernel) (by simp only [yRm, MX7_put]; omega) rfl (Nat.le_of_ble_eq_true rfl) (show decode cX7_readUnit 126 = .ok (.invokevirtual 37, 3) by decide +kernel) rfl ?_
              obtain ⟨c25, h⟩ := chk_some h
              cases h
              exact y_zret (show decode cX7_readUnit 129 = .ok (.ireturn, 1) by decide +kernel) rfl c25
            · rw [if_neg c21] at h
              refine y_if_eq_f (show decode cX7_readUnit 92 = .ok (.ifCond .eq 31, 3) by decide +kernel) c21 (by decide) ?_
              refine y_aload_n (show decode cX7_readUnit 95 = .ok (.aload_n 0, 1) by decide +kernel) 1 rfl ?_
              refine y_aload_n (show decode cX7_readUnit 96 = .ok (.aload_n 1, 1) by decide +kernel) 2 rfl ?_
              refine y_iload_n (show decode cX7_readUnit 97 = .ok (.iload_n 2, 1) by decide +kernel) 3 rfl ?_
              refine y_iconst (show decode cX7_readUnit 98 = .ok (.iconst 1, 1) by decide +kernel) rfl ?_
              obtain ⟨c26, h⟩ := chkI_some h
              refine y_iadd (show decode cX7_readUnit 99 = .ok (.iadd, 1) by decide +kernel) c26 ?_
              obtain ⟨r28, σ29, e27, h⟩ := bndR_some h
              refine y_callV (np := 2) (st := []) (as := [.inr (.inr (1 + 1)), .inl (b + 1)]) o 7 (hrec_readEither e27) q4_69 q4_100 q4_68 qs2_1 q1_7 (by omega) (by rcases c1 with rfl | rfl <;> rfl) (by decide) rfl (by decide) (by decide +kernel) (by simp only [yRm, MX7_readEither]; omega) rfl (Nat.le_of_ble_eq_true rfl) (show decode cX7_readUnit 100 = .ok (.invokevirtual 69, 3) by decide +kernel) rfl ?_
              by_cases c30 : r28 = 0
              · rw [if_pos c30] at h
                refine y_if_eq_t (tgt := 119) (show decode cX7_readUnit 103 = .ok (.ifCond .eq 16, 3) by decide +kernel) rfl c30 ?_
                refine y_iconst (show decode cX7_readUnit 119 = .ok (.iconst 0, 1) by decide +kernel) rfl ?_
                refine y_goto (tgt := 129) (show decode cX7_readUnit 120 = .ok (.goto 9, 3) by decide +kernel) rfl ?_
                cases h
                exact y_zret (show decode cX7_readUnit 129 = .ok (.ireturn, 1) by decide +kernel) rfl (Or.inl rfl)
              · rw [if_neg c30] at h
                refine y_if_eq_f (show decode cX7_readUnit 103 = .ok (.ifCond .eq 16, 3) by decide +kernel) c30 (by decide) ?_
                refine y_aload_n (show decode cX7_readUnit 106 = .ok (.aload_n 1, 1) by decide +kernel) 2 rfl ?_
                refine y_bipush (show decode cX7_readUnit 107 = .ok (.bipush 41, 2) by decide +kernel) rfl rfl ?_
                obtain ⟨r32, σ33, e31, h⟩ := bndR_some h
                refine y_callV (np := 1) (st := []) (as := [.inl 41]) 1 8 (sh_cTp_pass e31) q4_33 q4_101 q4_31 q4_32 q1_2 (by decide) rfl (by decide) rfl (by decide) (by decide +kernel) (by simp only [yRm, MX8_pass]; omega) rfl (Nat.le_of_ble_eq_true rfl) (show decode cX7_readUnit 109 = .ok (.invokevirtual 72, 3) by decide +kernel) rfl ?_
                by_cases c34 : r32 = 0
                · rw [if_pos c34] at h
                  refine y_if_eq_t (tgt := 119) (show decode cX7_readUnit 112 = .ok (.ifCond .eq 7, 3) by decide +kernel) rfl c34 ?_
                  refine y_iconst (show decode cX7_readUnit 119 = .ok (.iconst 0, 1) by decide +kernel) rfl ?_
                  refine y_goto (tgt := 129) (show decode cX7_readUnit 120 = .ok (.goto 9, 3) by decide +kernel) rfl ?_
                  cases h
                  exact y_zret (show decode cX7_readUnit 129 = .ok (.ireturn, 1) by decide +kernel) rfl (Or.inl rfl)
                · rw [if_neg c34] at h
                  refine y_if_eq_f (show decode cX7_readUnit 112 = .ok (.ifCond .eq 7, 3) by decide +kernel) c34 (by decide) ?_
                  refine y_iconst (show decode cX7_readUnit 115 = .ok (.iconst 1, 1) by decide +kernel) rfl ?_
                  refine y_goto (tgt := 129) (show decode cX7_readUnit 116 = .ok (.goto 13, 3) by decide +kernel) rfl ?_
                  cases h
                  exact y_zret (show decode cX7_readUnit 129 = .ok (.ireturn, 1) by decide +kernel) rfl (Or.inr rfl)
          by_cases c35 : ¬ (σ15 1 3) = 2
          · rw [if_pos c35] at h
            refine y_icmp_ne_t (tgt := 80) (show decode cX7_readUnit 70 = .ok (.if_icmp .ne 10, 3) by decide +kernel) rfl c35 ?_
            refine y_aload_n (show decode cX7_readUnit 80 = .ok (.aload_n 1, 1) by decide +kernel) 1 rfl ?_
            refine y_getf 1 8 3 29 (by decide) rfl (by decide) (by decide) q1_41 (show decode cX7_readUnit 81 = .ok (.getfield 29, 3) by decide +kernel) (v := .inl (σ15 1 3)) rfl ?_
            obtain ⟨c36, h⟩ := chkI_some h
            refine y_ineg (show decode cX7_readUnit 84 = .ok (.ineg, 1) by decide +kernel) c36 ?_
            refine y_pick [0, 1, 2, 3] rfl ?_
            exact hj18 _ h
          · rw [if_neg c35] at h
            refine y_icmp_ne_f (show decode cX7_readUnit 70 = .ok (.if_icmp .ne 10, 3) by decide +kernel) c35 (by decide) ?_
            refine y_aload_n (show decode cX7_readUnit 73 = .ok (.aload_n 1, 1) by decide +kernel) 1 rfl ?_
            refine y_getf 1 8 5 66 (by decide) rfl (by decide) (by decide) q1_48 (show decode cX7_readUnit 74 = .ok (.getfield 66, 3) by decide +kernel) (v := .inl (σ15 1 5)) rfl ?_
            refine y_goto (tgt := 85) (show decode cX7_readUnit 77 = .ok (.goto 8, 3) by decide +kernel) rfl ?_
            refine y_pick [0, 1, 2, 3] rfl ?_
            exact hj18 _ h
        by_cases c37 : y5 = 0
        · rw [if_pos c37] at h
          refine y_if_eq_t (tgt := 55) (show decode cX7_readUnit 40 = .ok (.ifCond .eq 15, 3) by decide +kernel) rfl c37 ?_
          refine y_pick [1, 2, 3, 0] rfl ?_
          exact hj13 h
        · rw [if_neg c37] at h
          refine y_if_eq_f (show decode cX7_readUnit 40 = .ok (.ifCond .eq 15, 3) by decide +kernel) c37 (by decide) ?_
          refine y_iload_n (show decode cX7_readUnit 43 = .ok (.iload_n 2, 1) by decide +kernel) 3 rfl ?_
          refine y_bipush (show decode cX7_readUnit 44 = .ok (.bipush 6, 2) by decide +kernel) rfl rfl ?_
          by_cases c38 : b ≤ 6
          · rw [if_pos c38] at h
            refine y_icmp_le_t (tgt := 55) (show decode cX7_readUnit 46 = .ok (.if_icmp .le 9, 3) by decide +kernel) rfl c38 ?_
            refine y_pick [1, 2, 3, 0] rfl ?_
            exact hj13 h
          · rw [if_neg c38] at h
            refine y_icmp_le_f (show decode cX7_readUnit 46 = .ok (.if_icmp .le 9, 3) by decide +kernel) c38 (by decide) ?_
            refine y_pick [2] rfl ?_
            exact hj7 h
    by_cases c39 : ¬ (σ 1 3) = 40
    · rw [if_pos c39] at h
      refine y_icmp_ne_t (tgt := 28) (show decode cX7_readUnit 21 = .ok (.if_icmp .ne 7, 3) by decide +kernel) rfl c39 ?_
      refine y_iconst (show decode cX7_readUnit 28 = .ok (.iconst 0, 1) by decide +kernel) rfl ?_
      refine y_pick [0, 1, 2] rfl ?_
      exact hj6 _ h
    · rw [if_neg c39] at h
      refine y_icmp_ne_f (show decode cX7_readUnit 21 = .ok (.if_icmp .ne 7, 3) by decide +kernel) c39 (by decide) ?_
      refine y_iconst (show decode cX7_readUnit 24 = .ok (.iconst 1, 1) by decide +kernel) rfl ?_
      refine y_goto (tgt := 29) (show decode cX7_readUnit 25 = .ok (.goto 4, 3) by decide +kernel) rfl ?_
      refine y_pick [0, 1, 2] rfl ?_
      exact hj6 _ h
  · rw [if_neg c4] at h
    refine y_if_ne_f (show decode cX7_readUnit 7 = .ok (.ifCond .ne 8, 3) by decide +kernel) c4 (by decide) ?_
    refine y_aload_n (show decode cX7_readUnit 10 = .ok (.aload_n 1, 1) by decide +kernel) 1 rfl ?_
    obtain ⟨r41, σ42, e40, h⟩ := bndR_some h
    refine y_callV (np := 0) (st := []) (as := []) 1 8 (sh_cTp_refuse e40) q4_4 q4_97 q4_2 q4_3 q1_2 (by decide) rfl (by decide) rfl (by decide) (by decide +kernel) (by simp only [yRm, MX8_refuse]; omega) rfl (Nat.le_of_ble_eq_true rfl) (show decode cX7_readUnit 11 = .ok (.invokevirtual 62, 3) by decide +kernel) rfl ?_
    obtain ⟨c43, h⟩ := chk_some h
    cases h
    exact y_zret (show decode cX7_readUnit 14 = .ok (.ireturn, 1) by decide +kernel) rfl c43
def cRu_read (N : Nat) : Nat → Nat → Nat → Int → ySt → Option (Int × ySt)
  | 0, _, _, _, _ => none
  | d + 1, t, v0, v1, v2 => if t = 0 then cRu_readEither_b (cRu_read N d) N v0 v1 v2 else if t = 1 then cRu_readBoth_b (cRu_read N d) N v0 v1 v2 else if t = 2 then cRu_readOne_b (cRu_read N d) N v0 v1 v2 else if t = 3 then cRu_readRelation_b (cRu_read N d) N v0 v1 v2 else if t = 4 then cRu_readSum_b (cRu_read N d) N v0 v1 v2 else if t = 5 then cRu_readTerm_b (cRu_read N d) N v0 v1 v2 else if t = 6 then cRu_readUnit_b (cRu_read N d) N v0 v1 v2 else none
theorem sh_cRu_read {E : yE} {N : Nat} : ∀ dp : Nat, (∀ (o : Nat) (b : Int) (σ : ySt) (ρ : Int) (τ : ySt), cRu_read N dp 0 o b σ = some (ρ, τ) → Con E MX7_readEither (10 + dp) 0 0 [.inr (.inr (o + 1)), .inr (.inr (1 + 1)), .inl b] 150 (ov σ) (some (.inl ρ)) (ov τ)) ∧ (∀ (o : Nat) (b : Int) (σ : ySt) (ρ : Int) (τ : ySt), cRu_read N dp 1 o b σ = some (ρ, τ) → Con E MX7_readBoth (10 + dp) 0 0 [.inr (.inr (o + 1)), .inr (.inr (1 + 1)), .inl b] 150 (ov σ) (some (.inl ρ)) (ov τ)) ∧ (∀ (o : Nat) (b : Int) (σ : ySt) (ρ : Int) (τ : ySt), cRu_read N dp 2 o b σ = some (ρ, τ) → Con E MX7_readOne (10 + dp) 0 0 [.inr (.inr (o + 1)), .inr (.inr (1 + 1)), .inl b] 150 (ov σ) (some (.inl ρ)) (ov τ)) ∧ (∀ (o : Nat) (b : Int) (σ : ySt) (ρ : Int) (τ : ySt), cRu_read N dp 3 o b σ = some (ρ, τ) → Con E MX7_readRelation (10 + dp) 0 0 [.inr (.inr (o + 1)), .inr (.inr (1 + 1)), .inl b] 150 (ov σ) (some (.inl ρ)) (ov τ)) ∧ (∀ (o : Nat) (b : Int) (σ : ySt) (ρ : Int) (τ : ySt), cRu_read N dp 4 o b σ = some (ρ, τ) → Con E MX7_readSum (10 + dp) 0 0 [.inr (.inr (o + 1)), .inr (.inr (1 + 1)), .inl b] 150 (ov σ) (some (.inl ρ)) (ov τ)) ∧ (∀ (o : Nat) (b : Int) (σ : ySt) (ρ : Int) (τ : ySt), cRu_read N dp 5 o b σ = some (ρ, τ) → Con E MX7_readTerm (10 + dp) 0 0 [.inr (.inr (o + 1)), .inr (.inr (1 + 1)), .inl b] 150 (ov σ) (some (.inl ρ)) (ov τ)) ∧ (∀ (o : Nat) (b : Int) (σ : ySt) (ρ : Int) (τ : ySt), cRu_read N dp 6 o b σ = some (ρ, τ) → Con E MX7_readUnit (10 + dp) 0 0 [.inr (.inr (o + 1)), .inr (.inr (1 + 1)), .inl b] 150 (ov σ) (some (.inl ρ)) (ov τ))
  | 0 => by refine ⟨?_, ?_, ?_, ?_, ?_, ?_, ?_⟩ <;> intro o b σ ρ τ h <;> cases h
  | dp + 1 => by
    have IH := @sh_cRu_read E N dp
    obtain ⟨ih0, ih1, ih2, ih3, ih4, ih5, ih6⟩ := IH
    refine ⟨?_, ?_, ?_, ?_, ?_, ?_, ?_⟩
    · intro o b σ ρ τ h
      exact shb_cRu_readEither (fun h => ih1 _ _ _ _ _ h) (by simpa [cRu_read] using h)
    · intro o b σ ρ τ h
      exact shb_cRu_readBoth (fun h => ih2 _ _ _ _ _ h) (by simpa [cRu_read] using h)
    · intro o b σ ρ τ h
      exact shb_cRu_readOne (fun h => ih3 _ _ _ _ _ h) (fun h => ih2 _ _ _ _ _ h) (by simpa [cRu_read] using h)
    · intro o b σ ρ τ h
      exact shb_cRu_readRelation (fun h => ih4 _ _ _ _ _ h) (by simpa [cRu_read] using h)
    · intro o b σ ρ τ h
      exact shb_cRu_readSum (fun h => ih5 _ _ _ _ _ h) (by simpa [cRu_read] using h)
    · intro o b σ ρ τ h
      exact shb_cRu_readTerm (fun h => ih6 _ _ _ _ _ h) (by simpa [cRu_read] using h)
    · intro o b σ ρ τ h
      exact shb_cRu_readUnit (fun h => ih0 _ _ _ _ _ h) (by simpa [cRu_read] using h)
theorem sh_cRu_read_readEither {E : yE} {N dp : Nat} {o : Nat} {b : Int} {σ : ySt} {ρ : Int} {τ : ySt} (h : cRu_read N dp 0 o b σ = some (ρ, τ)) : Con E MX7_readEither (10 + dp) 0 0 [.inr (.inr (o + 1)), .inr (.inr (1 + 1)), .inl b] 150 (ov σ) (some (.inl ρ)) (ov τ) := (sh_cRu_read dp).1 _ _ _ _ _ h
theorem sh_cRu_read_readBoth {E : yE} {N dp : Nat} {o : Nat} {b : Int} {σ : ySt} {ρ : Int} {τ : ySt} (h : cRu_read N dp 1 o b σ = some (ρ, τ)) : Con E MX7_readBoth (10 + dp) 0 0 [.inr (.inr (o + 1)), .inr (.inr (1 + 1)), .inl b] 150 (ov σ) (some (.inl ρ)) (ov τ) := (sh_cRu_read dp).2.1 _ _ _ _ _ h
theorem sh_cRu_read_readOne {E : yE} {N dp : Nat} {o : Nat} {b : Int} {σ : ySt} {ρ : Int} {τ : ySt} (h : cRu_read N dp 2 o b σ = some (ρ, τ)) : Con E MX7_readOne (10 + dp) 0 0 [.inr (.inr (o + 1)), .inr (.inr (1 + 1)), .inl b] 150 (ov σ) (some (.inl ρ)) (ov τ) := (sh_cRu_read dp).2.2.1 _ _ _ _ _ h
theorem sh_cRu_read_readRelation {E : yE} {N dp : Nat} {o : Nat} {b : Int} {σ : ySt} {ρ : Int} {τ : ySt} (h : cRu_read N dp 3 o b σ = some (ρ, τ)) : Con E MX7_readRelation (10 + dp) 0 0 [.inr (.inr (o + 1)), .inr (.inr (1 + 1)), .inl b] 150 (ov σ) (some (.inl ρ)) (ov τ) := (sh_cRu_read dp).2.2.2.1 _ _ _ _ _ h
theorem sh_cRu_read_readSum {E : yE} {N dp : Nat} {o : Nat} {b : Int} {σ : ySt} {ρ : Int} {τ : ySt} (h : cRu_read N dp 4 o b σ = some (ρ, τ)) : Con E MX7_readSum (10 + dp) 0 0 [.inr (.inr (o + 1)), .inr (.inr (1 + 1)), .inl b] 150 (ov σ) (some (.inl ρ)) (ov τ) := (sh_cRu_read dp).2.2.2.2.1 _ _ _ _ _ h
theorem sh_cRu_read_readTerm {E : yE} {N dp : Nat} {o : Nat} {b : Int} {σ : ySt} {ρ : Int} {τ : ySt} (h : cRu_read N dp 5 o b σ = some (ρ, τ)) : Con E MX7_readTerm (10 + dp) 0 0 [.inr (.inr (o + 1)), .inr (.inr (1 + 1)), .inl b] 150 (ov σ) (some (.inl ρ)) (ov τ) := (sh_cRu_read dp).2.2.2.2.2.1 _ _ _ _ _ h
theorem sh_cRu_read_readUnit {E : yE} {N dp : Nat} {o : Nat} {b : Int} {σ : ySt} {ρ : Int} {τ : ySt} (h : cRu_read N dp 6 o b σ = some (ρ, τ)) : Con E MX7_readUnit (10 + dp) 0 0 [.inr (.inr (o + 1)), .inr (.inr (1 + 1)), .inl b] 150 (ov σ) (some (.inl ρ)) (ov τ) := (sh_cRu_read dp).2.2.2.2.2.2 _ _ _ _ _ h
abbrev MX7_named : yM := (yX7_named, cX7_named, 5, some .int)
def cRu_named (a : Int) (b : Int) (c : Int) (d : Int) (e : Int) (σ : ySt) : Option (Int) :=
  if a = 100 then
    some d
  else
  if a = 109 then
    some c
  else
  if a = 117 then
    some b
  else
  some e
set_option maxHeartbeats 4000000 in
set_option maxRecDepth 10000 in
theorem sh_cRu_named {E : yE} {a : Int} {b : Int} {c : Int} {d : Int} {e : Int} {σ : ySt} {ρ : Int} (h : cRu_named a b c d e σ = some ρ) : Con E MX7_named 0 0 0 [.inl a, .inl b, .inl c, .inl d, .inl e] 150 (ov σ) (some (.inl ρ)) (ov σ) := by
  unfold cRu_named at h
  refine Con.ofY (by decide +kernel) (by simp [yWords, yCat]) (fun hok _ => ?_)
  show Y E MX7_named (yRm 0 0 0) (yQf E (150 + 0) 0 0 (some (.inl ρ)) (ov σ)) 0 [(0, .inl a), (1, .inl b), (2, .inl c), (3, .inl d), (4, .inl e)] [] (ov σ) 150 0 0
  refine y_iload_n (show decode cX7_named 0 = .ok (.iload_n 0, 1) by decide +kernel) 0 rfl ?_
  by_cases c1 : a = 100
  · rw [if_pos c1] at h
    refine y_lookup (off := 39) (tgt := 40) (show decode cX7_named 1 = .ok (.lookupswitch 41 #[(100, 39), (109, 37), (117, 35)], 35) by decide +kernel) (by decide) (by rw [c1]; rfl) rfl ?_
    refine y_iload_n (show decode cX7_named 40 = .ok (.iload_n 3, 1) by decide +kernel) 3 rfl ?_
    cases h
    exact y_iret (show decode cX7_named 41 = .ok (.ireturn, 1) by decide +kernel) rfl
  rw [if_neg c1] at h
  by_cases c2 : a = 109
  · rw [if_pos c2] at h
    refine y_lookup (off := 37) (tgt := 38) (show decode cX7_named 1 = .ok (.lookupswitch 41 #[(100, 39), (109, 37), (117, 35)], 35) by decide +kernel) (by decide) (by rw [c2]; rfl) rfl ?_
    refine y_iload_n (show decode cX7_named 38 = .ok (.iload_n 2, 1) by decide +kernel) 2 rfl ?_
    cases h
    exact y_iret (show decode cX7_named 39 = .ok (.ireturn, 1) by decide +kernel) rfl
  rw [if_neg c2] at h
  by_cases c3 : a = 117
  · rw [if_pos c3] at h
    refine y_lookup (off := 35) (tgt := 36) (show decode cX7_named 1 = .ok (.lookupswitch 41 #[(100, 39), (109, 37), (117, 35)], 35) by decide +kernel) (by decide) (by rw [c3]; rfl) rfl ?_
    refine y_iload_n (show decode cX7_named 36 = .ok (.iload_n 1, 1) by decide +kernel) 1 rfl ?_
    cases h
    exact y_iret (show decode cX7_named 37 = .ok (.ireturn, 1) by decide +kernel) rfl
  rw [if_neg c3] at h
  refine y_lookup (off := 41) (tgt := 42) (show decode cX7_named 1 = .ok (.lookupswitch 41 #[(100, 39), (109, 37), (117, 35)], 35) by decide +kernel) (by decide) (by simp only [List.toList_toArray]; rw [Op.lookupswitch.offset_cons, if_neg (fun q => c1 q.symm), Op.lookupswitch.offset_cons, if_neg (fun q => c2 q.symm), Op.lookupswitch.offset_cons, if_neg (fun q => c3 q.symm)]; rfl) rfl ?_
  refine y_iload (show decode cX7_named 42 = .ok (.iload 4, 2) by decide +kernel) 4 rfl ?_
  cases h
  exact y_iret (show decode cX7_named 44 = .ok (.ireturn, 1) by decide +kernel) rfl
abbrev MX7_joined : yM := (yX7_joined, cX7_joined, 3, some .int)
def cRu_joined (a : Int) (b : Int) (c : Int) (σ : ySt) : Option (Int) :=
  if a = 42 then
    some (w32 (b * c))
  else
  if a = 43 then
    some (w32 (b + c))
  else
  if a = 45 then
    some (w32 (b - c))
  else
  if a = 47 then
    if ¬ c = 0 then
      chk ((c : Int) ≠ 0) <|
      some (w32 ((b : Int).tdiv c))
    else
      some 0
  else
  if a = 60 then
    if b ≥ c then
      some 0
    else
      some 1
  else
  if a = 61 then
    if ¬ b = c then
      some 0
    else
      some 1
  else
  if a = 62 then
    if b ≤ c then
      some 0
    else
      some 1
  else
  if a = 114 then
    if ¬ b = 0 then
      some 1
    else
      if c = 0 then
        some 0
      else
        some 1
  else
  if a = 115 then
    if b = 0 then
      some 0
    else
      if c = 0 then
        some 0
      else
        some 1
  else
  some 0
set_option maxHeartbeats 4000000 in
set_option maxRecDepth 10000 in
theorem sh_cRu_joined {E : yE} {a : Int} {b : Int} {c : Int} {σ : ySt} {ρ : Int} (h : cRu_joined a b c σ = some ρ) : Con E MX7_joined 0 0 0 [.inl a, .inl b, .inl c] 150 (ov σ) (some (.inl ρ)) (ov σ) := by
  unfold cRu_joined at h
  refine Con.ofY (by decide +kernel) (by simp [yWords, yCat]) (fun hok _ => ?_)
  show Y E MX7_joined (yRm 0 0 0) (yQf E (150 + 0) 0 0 (some (.inl ρ)) (ov σ)) 0 [(0, .inl a), (1, .inl b), (2, .inl c)] [] (ov σ) 150 0 0
  refine y_iload_n (show decode cX7_joined 0 = .ok (.iload_n 0, 1) by decide +kernel) 0 rfl ?_
  by_cases c1 : a = 42
  · rw [if_pos c1] at h
    refine y_lookup (off := 91) (tgt := 92) (show decode cX7_joined 1 = .ok (.lookupswitch 168 #[(42, 91), (43, 83), (45, 87), (47, 95), (60, 107), (61, 129), (62, 118), (114, 154), (115, 140)], 83) by decide +kernel) (by decide) (by rw [c1]; rfl) rfl ?_
    refine y_iload_n (show decode cX7_joined 92 = .ok (.iload_n 1, 1) by decide +kernel) 1 rfl ?_
    refine y_iload_n (show decode cX7_joined 93 = .ok (.iload_n 2, 1) by decide +kernel) 2 rfl ?_
    refine y_imulW (show decode cX7_joined 94 = .ok (.imul, 1) by decide +kernel) ?_
    cases h
    exact y_iret (show decode cX7_joined 95 = .ok (.ireturn, 1) by decide +kernel) rfl
  rw [if_neg c1] at h
  by_cases c2 : a = 43
  · rw [if_pos c2] at h
    refine y_lookup (off := 83) (tgt := 84) (show decode cX7_joined 1 = .ok (.lookupswitch 168 #[(42, 91), (43, 83), (45, 87), (47, 95), (60, 107), (61, 129), (62, 118), (114, 154), (115, 140)], 83) by decide +kernel) (by decide) (by rw [c2]; rfl) rfl ?_
    refine y_iload_n (show decode cX7_joined 84 = .ok (.iload_n 1, 1) by decide +kernel) 1 rfl ?_
    refine y_iload_n (show decode cX7_joined 85 = .ok (.iload_n 2, 1) by decide +kernel) 2 rfl ?_
    refine y_iaddW (show decode cX7_joined 86 = .ok (.iadd, 1) by decide +kernel) ?_
    cases h
    exact y_iret (show decode cX7_joined 87 = .ok (.ireturn, 1) by decide +kernel) rfl
  rw [if_neg c2] at h
  by_cases c3 : a = 45
  · rw [if_pos c3] at h
    refine y_lookup (off := 87) (tgt := 88) (show decode cX7_joined 1 = .ok (.lookupswitch 168 #[(42, 91), (43, 83), (45, 87), (47, 95), (60, 107), (61, 129), (62, 118), (114, 154), (115, 140)], 83) by decide +kernel) (by decide) (by rw [c3]; rfl) rfl ?_
    refine y_iload_n (show decode cX7_joined 88 = .ok (.iload_n 1, 1) by decide +kernel) 1 rfl ?_
    refine y_iload_n (show decode cX7_joined 89 = .ok (.iload_n 2, 1) by decide +kernel) 2 rfl ?_
    refine y_isubW (show decode cX7_joined 90 = .ok (.isub, 1) by decide +kernel) ?_
    cases h
    exact y_iret (show decode cX7_joined 91 = .ok (.ireturn, 1) by decide +kernel) rfl
  rw [if_neg c3] at h
  by_cases c4 : a = 47
  · rw [if_pos c4] at h
    refine y_lookup (off := 95) (tgt := 96) (show decode cX7_joined 1 = .ok (.lookupswitch 168 #[(42, 91), (43, 83), (45, 87), (47, 95), (60, 107), (61, 129), (62, 118), (114, 154), (115, 140)], 83) by decide +kernel) (by decide) (by rw [c4]; rfl) rfl ?_
    refine y_iload_n (show decode cX7_joined 96 = .ok (.iload_n 2, 1) by decide +kernel) 2 rfl ?_
    by_cases c5 : ¬ c = 0
    · rw [if_pos c5] at h
      refine y_if_ne_t (tgt := 104) (show decode cX7_joined 97 = .ok (.ifCond .ne 7, 3) by decide +kernel) rfl c5 ?_
      refine y_iload_n (show decode cX7_joined 104 = .ok (.iload_n 1, 1) by decide +kernel) 1 rfl ?_
      refine y_iload_n (show decode cX7_joined 105 = .ok (.iload_n 2, 1) by decide +kernel) 2 rfl ?_
      obtain ⟨c6, h⟩ := chk_some h
      refine y_idivW (show decode cX7_joined 106 = .ok (.idiv, 1) by decide +kernel) c6 ?_
      cases h
      exact y_iret (show decode cX7_joined 107 = .ok (.ireturn, 1) by decide +kernel) rfl
    · rw [if_neg c5] at h
      refine y_if_ne_f (show decode cX7_joined 97 = .ok (.ifCond .ne 7, 3) by decide +kernel) c5 (by decide) ?_
      refine y_iconst (show decode cX7_joined 100 = .ok (.iconst 0, 1) by decide +kernel) rfl ?_
      refine y_goto (tgt := 107) (show decode cX7_joined 101 = .ok (.goto 6, 3) by decide +kernel) rfl ?_
      cases h
      exact y_iret (show decode cX7_joined 107 = .ok (.ireturn, 1) by decide +kernel) rfl
  rw [if_neg c4] at h
  by_cases c7 : a = 60
  · rw [if_pos c7] at h
    refine y_lookup (off := 107) (tgt := 108) (show decode cX7_joined 1 = .ok (.lookupswitch 168 #[(42, 91), (43, 83), (45, 87), (47, 95), (60, 107), (61, 129), (62, 118), (114, 154), (115, 140)], 83) by decide +kernel) (by decide) (by rw [c7]; rfl) rfl ?_
    refine y_iload_n (show decode cX7_joined 108 = .ok (.iload_n 1, 1) by decide +kernel) 1 rfl ?_
    refine y_iload_n (show decode cX7_joined 109 = .ok (.iload_n 2, 1) by decide +kernel) 2 rfl ?_
    by_cases c8 : b ≥ c
    · rw [if_pos c8] at h
      refine y_icmp_ge_t (tgt := 117) (show decode cX7_joined 110 = .ok (.if_icmp .ge 7, 3) by decide +kernel) rfl c8 ?_
      refine y_iconst (show decode cX7_joined 117 = .ok (.iconst 0, 1) by decide +kernel) rfl ?_
      cases h
      exact y_iret (show decode cX7_joined 118 = .ok (.ireturn, 1) by decide +kernel) rfl
    · rw [if_neg c8] at h
      refine y_icmp_ge_f (show decode cX7_joined 110 = .ok (.if_icmp .ge 7, 3) by decide +kernel) c8 (by decide) ?_
      refine y_iconst (show decode cX7_joined 113 = .ok (.iconst 1, 1) by decide +kernel) rfl ?_
      refine y_goto (tgt := 118) (show decode cX7_joined 114 = .ok (.goto 4, 3) by decide +kernel) rfl ?_
      cases h
      exact y_iret (show decode cX7_joined 118 = .ok (.ireturn, 1) by decide +kernel) rfl
  rw [if_neg c7] at h
  by_cases c9 : a = 61
  · rw [if_pos c9] at h
    refine y_lookup (off := 129) (tgt := 130) (show decode cX7_joined 1 = .ok (.lookupswitch 168 #[(42, 91), (43, 83), (45, 87), (47, 95), (60, 107), (61, 129), (62, 118), (114, 154), (115, 140)], 83) by decide +kernel) (by decide) (by rw [c9]; rfl) rfl ?_
    refine y_iload_n (show decode cX7_joined 130 = .ok (.iload_n 1, 1) by decide +kernel) 1 rfl ?_
    refine y_iload_n (show decode cX7_joined 131 = .ok (.iload_n 2, 1) by decide +kernel) 2 rfl ?_
    by_cases c10 : ¬ b = c
    · rw [if_pos c10] at h
      refine y_icmp_ne_t (tgt := 139) (show decode cX7_joined 132 = .ok (.if_icmp .ne 7, 3) by decide +kernel) rfl c10 ?_
      refine y_iconst (show decode cX7_joined 139 = .ok (.iconst 0, 1) by decide +kernel) rfl ?_
      cases h
      exact y_iret (show decode cX7_joined 140 = .ok (.ireturn, 1) by decide +kernel) rfl
    · rw [if_neg c10] at h
      refine y_icmp_ne_f (show decode cX7_joined 132 = .ok (.if_icmp .ne 7, 3) by decide +kernel) c10 (by decide) ?_
      refine y_iconst (show decode cX7_joined 135 = .ok (.iconst 1, 1) by decide +kernel) rfl ?_
      refine y_goto (tgt := 140) (show decode cX7_joined 136 = .ok (.goto 4, 3) by decide +kernel) rfl ?_
      cases h
      exact y_iret (show decode cX7_joined 140 = .ok (.ireturn, 1) by decide +kernel) rfl
  rw [if_neg c9] at h
  by_cases c11 : a = 62
  · rw [if_pos c11] at h
    refine y_lookup (off := 118) (tgt := 119) (show decode cX7_joined 1 = .ok (.lookupswitch 168 #[(42, 91), (43, 83), (45, 87), (47, 95), (60, 107), (61, 129), (62, 118), (114, 154), (115, 140)], 83) by decide +kernel) (by decide) (by rw [c11]; rfl) rfl ?_
    refine y_iload_n (show decode cX7_joined 119 = .ok (.iload_n 1, 1) by decide +kernel) 1 rfl ?_
    refine y_iload_n (show decode cX7_joined 120 = .ok (.iload_n 2, 1) by decide +kernel) 2 rfl ?_
    by_cases c12 : b ≤ c
    · rw [if_pos c12] at h
      refine y_icmp_le_t (tgt := 128) (show decode cX7_joined 121 = .ok (.if_icmp .le 7, 3) by decide +kernel) rfl c12 ?_
      refine y_iconst (show decode cX7_joined 128 = .ok (.iconst 0, 1) by decide +kernel) rfl ?_
      cases h
      exact y_iret (show decode cX7_joined 129 = .ok (.ireturn, 1) by decide +kernel) rfl
    · rw [if_neg c12] at h
      refine y_icmp_le_f (show decode cX7_joined 121 = .ok (.if_icmp .le 7, 3) by decide +kernel) c12 (by decide) ?_
      refine y_iconst (show decode cX7_joined 124 = .ok (.iconst 1, 1) by decide +kernel) rfl ?_
      refine y_goto (tgt := 129) (show decode cX7_joined 125 = .ok (.goto 4, 3) by decide +kernel) rfl ?_
      cases h
      exact y_iret (show decode cX7_joined 129 = .ok (.ireturn, 1) by decide +kernel) rfl
  rw [if_neg c11] at h
  by_cases c13 : a = 114
  · rw [if_pos c13] at h
    refine y_lookup (off := 154) (tgt := 155) (show decode cX7_joined 1 = .ok (.lookupswitch 168 #[(42, 91), (43, 83), (45, 87), (47, 95), (60, 107), (61, 129), (62, 118), (114, 154), (115, 140)], 83) by decide +kernel) (by decide) (by rw [c13]; rfl) rfl ?_
    refine y_iload_n (show decode cX7_joined 155 = .ok (.iload_n 1, 1) by decide +kernel) 1 rfl ?_
    by_cases c14 : ¬ b = 0
    · rw [if_pos c14] at h
      refine y_if_ne_t (tgt := 163) (show decode cX7_joined 156 = .ok (.ifCond .ne 7, 3) by decide +kernel) rfl c14 ?_
      refine y_iconst (show decode cX7_joined 163 = .ok (.iconst 1, 1) by decide +kernel) rfl ?_
      refine y_goto (tgt := 168) (show decode cX7_joined 164 = .ok (.goto 4, 3) by decide +kernel) rfl ?_
      cases h
      exact y_iret (show decode cX7_joined 168 = .ok (.ireturn, 1) by decide +kernel) rfl
    · rw [if_neg c14] at h
      refine y_if_ne_f (show decode cX7_joined 156 = .ok (.ifCond .ne 7, 3) by decide +kernel) c14 (by decide) ?_
      refine y_iload_n (show decode cX7_joined 159 = .ok (.iload_n 2, 1) by decide +kernel) 2 rfl ?_
      by_cases c15 : c = 0
      · rw [if_pos c15] at h
        refine y_if_eq_t (tgt := 167) (show decode cX7_joined 160 = .ok (.ifCond .eq 7, 3) by decide +kernel) rfl c15 ?_
        refine y_iconst (show decode cX7_joined 167 = .ok (.iconst 0, 1) by decide +kernel) rfl ?_
        cases h
        exact y_iret (show decode cX7_joined 168 = .ok (.ireturn, 1) by decide +kernel) rfl
      · rw [if_neg c15] at h
        refine y_if_eq_f (show decode cX7_joined 160 = .ok (.ifCond .eq 7, 3) by decide +kernel) c15 (by decide) ?_
        refine y_iconst (show decode cX7_joined 163 = .ok (.iconst 1, 1) by decide +kernel) rfl ?_
        refine y_goto (tgt := 168) (show decode cX7_joined 164 = .ok (.goto 4, 3) by decide +kernel) rfl ?_
        cases h
        exact y_iret (show decode cX7_joined 168 = .ok (.ireturn, 1) by decide +kernel) rfl
  rw [if_neg c13] at h
  by_cases c16 : a = 115
  · rw [if_pos c16] at h
    refine y_lookup (off := 140) (tgt := 141) (show decode cX7_joined 1 = .ok (.lookupswitch 168 #[(42, 91), (43, 83), (45, 87), (47, 95), (60, 107), (61, 129), (62, 118), (114, 154), (115, 140)], 83) by decide +kernel) (by decide) (by rw [c16]; rfl) rfl ?_
    refine y_iload_n (show decode cX7_joined 141 = .ok (.iload_n 1, 1) by decide +kernel) 1 rfl ?_
    by_cases c17 : b = 0
    · rw [if_pos c17] at h
      refine y_if_eq_t (tgt := 153) (show decode cX7_joined 142 = .ok (.ifCond .eq 11, 3) by decide +kernel) rfl c17 ?_
      refine y_iconst (show decode cX7_joined 153 = .ok (.iconst 0, 1) by decide +kernel) rfl ?_
      cases h
      exact y_iret (show decode cX7_joined 154 = .ok (.ireturn, 1) by decide +kernel) rfl
    · rw [if_neg c17] at h
      refine y_if_eq_f (show decode cX7_joined 142 = .ok (.ifCond .eq 11, 3) by decide +kernel) c17 (by decide) ?_
      refine y_iload_n (show decode cX7_joined 145 = .ok (.iload_n 2, 1) by decide +kernel) 2 rfl ?_
      by_cases c18 : c = 0
      · rw [if_pos c18] at h
        refine y_if_eq_t (tgt := 153) (show decode cX7_joined 146 = .ok (.ifCond .eq 7, 3) by decide +kernel) rfl c18 ?_
        refine y_iconst (show decode cX7_joined 153 = .ok (.iconst 0, 1) by decide +kernel) rfl ?_
        cases h
        exact y_iret (show decode cX7_joined 154 = .ok (.ireturn, 1) by decide +kernel) rfl
      · rw [if_neg c18] at h
        refine y_if_eq_f (show decode cX7_joined 146 = .ok (.ifCond .eq 7, 3) by decide +kernel) c18 (by decide) ?_
        refine y_iconst (show decode cX7_joined 149 = .ok (.iconst 1, 1) by decide +kernel) rfl ?_
        refine y_goto (tgt := 154) (show decode cX7_joined 150 = .ok (.goto 4, 3) by decide +kernel) rfl ?_
        cases h
        exact y_iret (show decode cX7_joined 154 = .ok (.ireturn, 1) by decide +kernel) rfl
  rw [if_neg c16] at h
  refine y_lookup (off := 168) (tgt := 169) (show decode cX7_joined 1 = .ok (.lookupswitch 168 #[(42, 91), (43, 83), (45, 87), (47, 95), (60, 107), (61, 129), (62, 118), (114, 154), (115, 140)], 83) by decide +kernel) (by decide) (by simp only [List.toList_toArray]; rw [Op.lookupswitch.offset_cons, if_neg (fun q => c1 q.symm), Op.lookupswitch.offset_cons, if_neg (fun q => c2 q.symm), Op.lookupswitch.offset_cons, if_neg (fun q => c3 q.symm), Op.lookupswitch.offset_cons, if_neg (fun q => c4 q.symm), Op.lookupswitch.offset_cons, if_neg (fun q => c7 q.symm), Op.lookupswitch.offset_cons, if_neg (fun q => c9 q.symm), Op.lookupswitch.offset_cons, if_neg (fun q => c11 q.symm), Op.lookupswitch.offset_cons, if_neg (fun q => c13 q.symm), Op.lookupswitch.offset_cons, if_neg (fun q => c16 q.symm)]; rfl) rfl ?_
  refine y_iconst (show decode cX7_joined 169 = .ok (.iconst 0, 1) by decide +kernel) rfl ?_
  cases h
  exact y_iret (show decode cX7_joined 170 = .ok (.ireturn, 1) by decide +kernel) rfl
abbrev MX7_holds : yM := (yX7_holds, cX7_holds, 8, some .boolean)
def cRu_holds (N : Nat) (o : Nat) (a : Int) (b : Int) (c : Int) (d : Int) (σ : ySt) : Option (Int × ySt) :=
  chk (o = 30 ∨ o = 50) <|
  if ¬ (σ o 2) = 0 then
    loopS2 (fun k6 x3 x4 σ5 =>
      if x4 ≥ (σ5 o 2) then
        chkA 40 0 <|
        if (σ5 (o + 2) ((0 : Int).toNat)) = 0 then
          some (0, σ5)
        else
          some (1, σ5)
      else
        chkA 400 x4 <|
        bnd (fun (y11 : Int) (σ12 : ySt) =>
          chkI (x4 + 1) <|
          k6 y11 (x4 + 1) σ12) fun j13 =>
        bnd (if x3 ≥ 40 then
            j13 x3 σ5
          else
            bnd (fun (y17 : Int) =>
              chkA 40 x3 <|
              bnd (yset σ5 (o + 2) (x3).toNat y17) fun σ20 =>
              chkI (x3 + 1) <|
              j13 (x3 + 1) σ20) fun j18 =>
            if (σ5 (o + 1) (x4).toNat) < 0 then
              chkI (-(σ5 (o + 1) (x4).toNat)) <|
              bndO (cRu_named (-(σ5 (o + 1) (x4).toNat)) a b c d σ5) fun r26 =>
              j18 r26
            else
              j18 (σ5 (o + 1) (x4).toNat)) fun j15 =>
        if (σ5 (o + 1) (x4).toNat) ≥ 0 then
          j15
        else
          chkI (-(σ5 (o + 1) (x4).toNat)) <|
          bndO (cRu_isName (-(σ5 (o + 1) (x4).toNat)) σ5) fun r30 =>
          if r30 = 0 then
            if ¬ (σ5 (o + 1) (x4).toNat) = (-116) then
              if x3 ≤ 1 then
                j13 x3 σ5
              else
                chkI (x3 + (-1)) <|
                chkI ((x3 + (-1)) - 1) <|
                chkI (-(σ5 (o + 1) (x4).toNat)) <|
                chkI ((x3 + (-1)) - 1) <|
                chkA 40 ((x3 + (-1)) - 1) <|
                chkA 40 (x3 + (-1)) <|
                bndO (cRu_joined (-(σ5 (o + 1) (x4).toNat)) (σ5 (o + 2) (((x3 + (-1)) - 1)).toNat) (σ5 (o + 2) ((x3 + (-1))).toNat) σ5) fun r41 =>
                chkA 40 ((x3 + (-1)) - 1) <|
                bnd (yset σ5 (o + 2) (((x3 + (-1)) - 1)).toNat r41) fun σ43 =>
                j13 (x3 + (-1)) σ43
            else
              if x3 ≤ 0 then
                j13 x3 σ5
              else
                chkI (x3 - 1) <|
                chkI (x3 - 1) <|
                chkA 40 (x3 - 1) <|
                bnd (fun (y49 : Int) =>
                  chkA 40 (x3 - 1) <|
                  bnd (yset σ5 (o + 2) ((x3 - 1)).toNat y49) fun σ52 =>
                  j13 x3 σ52) fun j50 =>
                if ¬ (σ5 (o + 2) ((x3 - 1)).toNat) = 0 then
                  j50 0
                else
                  j50 1
          else
            j15) N 0 0 σ
  else
    chk ((2 : Int) ≠ 0) <|
    chkI ((a : Int).tmod 2) <|
    if ¬ ((a : Int).tmod 2) = 0 then
      some (0, σ)
    else
      some (1, σ)
set_option maxHeartbeats 4000000 in
set_option maxRecDepth 10000 in
theorem sh_cRu_holds {E : yE} {N : Nat} {o : Nat} {a : Int} {b : Int} {c : Int} {d : Int} {σ : ySt} {ρ : Int} {τ : ySt} (h : cRu_holds N o a b c d σ = some (ρ, τ)) : Con E MX7_holds 1 0 0 [.inr (.inr (o + 1)), .inl a, .inl b, .inl c, .inl d] 150 (ov σ) (some (.inl ρ)) (ov τ) := by
  unfold cRu_holds at h
  refine Con.ofY (by decide +kernel) (by simp [yWords, yCat]) (fun hok _ => ?_)
  show Y E MX7_holds (yRm 1 0 0) (yQf E (150 + 0) 0 0 (some (.inl ρ)) (ov τ)) 0 [(0, .inr (.inr (o + 1))), (1, .inl a), (2, .inl b), (3, .inl c), (4, .inl d)] [] (ov σ) 150 0 0
  obtain ⟨c1, h⟩ := chk_some h
  refine y_aload_n (show decode cX7_holds 0 = .ok (.aload_n 0, 1) by decide +kernel) 0 rfl ?_
  refine y_getf o 7 2 18 (by omega) (by rcases c1 with rfl | rfl <;> rfl) (by decide) (by decide) q1_167 (show decode cX7_holds 1 = .ok (.getfield 18, 3) by decide +kernel) (v := .inl (σ o 2)) (by rcases c1 with rfl | rfl <;> rfl) ?_
  by_cases c2 : ¬ (σ o 2) = 0
  · rw [if_pos c2] at h
    refine y_if_ne_t (tgt := 19) (show decode cX7_holds 4 = .ok (.ifCond .ne 15, 3) by decide +kernel) rfl c2 ?_
    refine y_iconst (show decode cX7_holds 19 = .ok (.iconst 0, 1) by decide +kernel) rfl ?_
    refine y_istore (show decode cX7_holds 20 = .ok (.istore 5, 2) by decide +kernel) rfl (L1 := [(5, .inl 0), (0, .inr (.inr (o + 1))), (1, .inl a), (2, .inl b), (3, .inl c), (4, .inl d)]) rfl ?_
    refine y_iconst (show decode cX7_holds 22 = .ok (.iconst 0, 1) by decide +kernel) rfl ?_
    refine y_istore (show decode cX7_holds 23 = .ok (.istore 6, 2) by decide +kernel) rfl (L1 := [(6, .inl 0), (5, .inl 0), (0, .inr (.inr (o + 1))), (1, .inl a), (2, .inl b), (3, .inl c), (4, .inl d)]) rfl ?_
    refine y_pick [2, 3, 4, 5, 6, 1, 0] rfl ?_
    refine loopS2_ind (P := fun x3 x4 σ5 => Y E MX7_holds (yRm 1 0 0) (yQf E (150 + 0) 0 0 (some (.inl ρ)) (ov τ)) 25 [(0, .inr (.inr (o + 1))), (1, .inl a), (2, .inl b), (3, .inl c), (4, .inl d), (5, .inl x3), (6, .inl x4)] [] (ov σ5) 150 0 0) (fun k6 hk6 x3 x4 σ5 h => ?_) _ _ _ _  h
    refine y_iload (show decode cX7_holds 25 = .ok (.iload 6, 2) by decide +kernel) 6 rfl ?_
    refine y_aload_n (show decode cX7_holds 27 = .ok (.aload_n 0, 1) by decide +kernel) 0 rfl ?_
    refine y_getf o 7 2 18 (by omega) (by rcases c1 with rfl | rfl <;> rfl) (by decide) (by decide) q1_167 (show decode cX7_holds 28 = .ok (.getfield 18, 3) by decide +kernel) (v := .inl (σ5 o 2)) (by rcases c1 with rfl | rfl <;> rfl) ?_
    by_cases c7 : x4 ≥ (σ5 o 2)
    · rw [if_pos c7] at h
      refine y_icmp_ge_t (tgt := 185) (show decode cX7_holds 31 = .ok (.if_icmp .ge 154, 3) by decide +kernel) rfl c7 ?_
      refine y_aload_n (show decode cX7_holds 185 = .ok (.aload_n 0, 1) by decide +kernel) 0 rfl ?_
      refine y_getf o 7 1 15 (by omega) (by rcases c1 with rfl | rfl <;> rfl) (by decide) (by decide) q1_166 (show decode cX7_holds 186 = .ok (.getfield 15, 3) by decide +kernel) (v := .inr (.inr ((o + 2) + 1))) (by rcases c1 with rfl | rfl <;> rfl) ?_
      refine y_iconst (show decode cX7_holds 189 = .ok (.iconst 0, 1) by decide +kernel) rfl ?_
      obtain ⟨c8, h⟩ := chkA_some h
      refine yo_iald (o + 2) 40 (by omega) (by rcases c1 with rfl | rfl <;> rfl) c8 (ov_at (by rcases c1 with rfl | rfl <;> rfl)) (show decode cX7_holds 190 = .ok (.iaload, 1) by decide +kernel) ?_
      by_cases c9 : (σ5 (o + 2) ((0 : Int).toNat)) = 0
      · rw [if_pos c9] at h
        refine y_if_eq_t (tgt := 198) (show decode cX7_holds 191 = .ok (.ifCond .eq 7, 3) by decide +kernel) rfl c9 ?_
        refine y_iconst (show decode cX7_holds 198 = .ok (.iconst 0, 1) by decide +kernel) rfl ?_
        cases h
        exact y_zret (show decode cX7_holds 199 = .ok (.ireturn, 1) by decide +kernel) rfl (Or.inl rfl)
      · rw [if_neg c9] at h
        refine y_if_eq_f (show decode cX7_holds 191 = .ok (.ifCond .eq 7, 3) by decide +kernel) c9 (by decide) ?_
        refine y_iconst (show decode cX7_holds 194 = .ok (.iconst 1, 1) by decide +kernel) rfl ?_
        refine y_goto (tgt := 199) (show decode cX7_holds 195 = .ok (.goto 4, 3) by decide +kernel) rfl ?_
        cases h
        exact y_zret (show decode cX7_holds 199 = .ok (.ireturn, 1) by decide +kernel) rfl (Or.inr rfl)
    · rw [if_neg c7] at h
      refine y_icmp_ge_f (show decode cX7_holds 31 = .ok (.if_icmp .ge 154, 3) by decide +kernel) c7 (by decide) ?_
      refine y_aload_n (show decode cX7_holds 34 = .ok (.aload_n 0, 1) by decide +kernel) 0 rfl ?_
      refine y_getf o 7 0 9 (by omega) (by rcases c1 with rfl | rfl <;> rfl) (by decide) (by decide) q1_165 (show decode cX7_holds 35 = .ok (.getfield 9, 3) by decide +kernel) (v := .inr (.inr ((o + 1) + 1))) (by rcases c1 with rfl | rfl <;> rfl) ?_
      refine y_iload (show decode cX7_holds 38 = .ok (.iload 6, 2) by decide +kernel) 6 rfl ?_
      obtain ⟨c10, h⟩ := chkA_some h
      refine yo_iald (o + 1) 400 (by omega) (by rcases c1 with rfl | rfl <;> rfl) c10 (ov_at (by rcases c1 with rfl | rfl <;> rfl)) (show decode cX7_holds 40 = .ok (.iaload, 1) by decide +kernel) ?_
      refine y_istore (show decode cX7_holds 41 = .ok (.istore 7, 2) by decide +kernel) rfl (L1 := [(7, .inl (σ5 (o + 1) (x4).toNat)), (0, .inr (.inr (o + 1))), (1, .inl a), (2, .inl b), (3, .inl c), (4, .inl d), (5, .inl x3), (6, .inl x4)]) rfl ?_
      refine y_iload (show decode cX7_holds 43 = .ok (.iload 7, 2) by decide +kernel) 0 rfl ?_
      refine bnd_j (Q := fun j13 => ∀ (y11 : Int) (σ12 : ySt), j13 y11 σ12 = some (ρ, τ) → Y E MX7_holds (yRm 1 0 0) (yQf E (150 + 0) 0 0 (some (.inl ρ)) (ov τ)) 179 [(0, .inr (.inr (o + 1))), (1, .inl a), (2, .inl b), (3, .inl c), (4, .inl d), (5, .inl y11), (6, .inl x4)] [] (ov σ12) 150 0 0) (fun y11 σ12 h => ?_) (fun j13 hj13 h => ?_) h
      · dsimp only at h
        obtain ⟨c14, h⟩ := chkI_some h
        refine y_iinc (show decode cX7_holds 179 = .ok (.iinc 6 1, 3) by decide +kernel) 6 rfl c14 rfl (L1 := [(6, .inl (x4 + 1)), (0, .inr (.inr (o + 1))), (1, .inl a), (2, .inl b), (3, .inl c), (4, .inl d), (5, .inl y11)]) rfl ?_
        refine y_goto (tgt := 25) (show decode cX7_holds 182 = .ok (.goto (-157), 3) by decide +kernel) rfl ?_
        refine y_pick [1, 2, 3, 4, 5, 6, 0] rfl ?_
        exact hk6 _ _ _ h
      refine bnd_j (Q := fun j15 => j15 = some (ρ, τ) → Y E MX7_holds (yRm 1 0 0) (yQf E (150 + 0) 0 0 (some (.inl ρ)) (ov τ)) 57 [(0, .inr (.inr (o + 1))), (1, .inl a), (2, .inl b), (3, .inl c), (4, .inl d), (5, .inl x3), (6, .inl x4), (7, .inl (σ5 (o + 1) (x4).toNat))] [] (ov σ5) 150 0 0) (fun h => ?_) (fun j15 hj15 h => ?_) h
      · refine y_iload (show decode cX7_holds 57 = .ok (.iload 5, 2) by decide +kernel) 5 rfl ?_
        refine y_bipush (show decode cX7_holds 59 = .ok (.bipush 40, 2) by decide +kernel) rfl rfl ?_
        by_cases c16 : x3 ≥ 40
        · rw [if_pos c16] at h
          refine y_icmp_ge_t (tgt := 179) (show decode cX7_holds 61 = .ok (.if_icmp .ge 118, 3) by decide +kernel) rfl c16 ?_
          refine y_pick [0, 1, 2, 3, 4, 5, 6] rfl ?_
          exact hj13 _ _ h
        · rw [if_neg c16] at h
          refine y_icmp_ge_f (show decode cX7_holds 61 = .ok (.if_icmp .ge 118, 3) by decide +kernel) c16 (by decide) ?_
          refine y_aload_n (show decode cX7_holds 64 = .ok (.aload_n 0, 1) by decide +kernel) 0 rfl ?_
          refine y_getf o 7 1 15 (by omega) (by rcases c1 with rfl | rfl <;> rfl) (by decide) (by decide) q1_166 (show decode cX7_holds 65 = .ok (.getfield 15, 3) by decide +kernel) (v := .inr (.inr ((o + 2) + 1))) (by rcases c1 with rfl | rfl <;> rfl) ?_
          refine y_iload (show decode cX7_holds 68 = .ok (.iload 5, 2) by decide +kernel) 5 rfl ?_
          refine y_iload (show decode cX7_holds 70 = .ok (.iload 7, 2) by decide +kernel) 7 rfl ?_
          refine bnd_j (Q := fun j18 => ∀ (y17 : Int), j18 y17 = some (ρ, τ) → Y E MX7_holds (yRm 1 0 0) (yQf E (150 + 0) 0 0 (some (.inl ρ)) (ov τ)) 91 [(0, .inr (.inr (o + 1))), (1, .inl a), (2, .inl b), (3, .inl c), (4, .inl d), (5, .inl x3), (6, .inl x4)] [.inl y17, .inl x3, .inr (.inr ((o + 2) + 1))] (ov σ5) 150 0 0) (fun y17 h => ?_) (fun j18 hj18 h => ?_) h
          · dsimp only at h
            obtain ⟨c19, h⟩ := chkA_some h
            obtain ⟨σ20, e21, h⟩ := bnd_i h
            refine yo_iast (o + 2) 40 (by omega) (by rcases c1 with rfl | rfl <;> rfl) c19 (ov_set1 e21 (by rcases c1 with rfl | rfl <;> rfl)) (show decode cX7_holds 91 = .ok (.iastore, 1) by decide +kernel) ?_
            obtain ⟨c22, h⟩ := chkI_some h
            refine y_iinc (show decode cX7_holds 92 = .ok (.iinc 5 1, 3) by decide +kernel) 5 rfl c22 rfl (L1 := [(5, .inl (x3 + 1)), (0, .inr (.inr (o + 1))), (1, .inl a), (2, .inl b), (3, .inl c), (4, .inl d), (6, .inl x4)]) rfl ?_
            refine y_goto (tgt := 179) (show decode cX7_holds 95 = .ok (.goto 84, 3) by decide +kernel) rfl ?_
            refine y_pick [1, 2, 3, 4, 5, 0, 6] rfl ?_
            exact hj13 _ _ h
          by_cases c23 : (σ5 (o + 1) (x4).toNat) < 0
          · rw [if_pos c23] at h
            refine y_if_lt_t (tgt := 80) (show decode cX7_holds 72 = .ok (.ifCond .lt 8, 3) by decide +kernel) rfl c23 ?_
            refine y_iload (show decode cX7_holds 80 = .ok (.iload 7, 2) by decide +kernel) 7 rfl ?_
            obtain ⟨c24, h⟩ := chkI_some h
            refine y_ineg (show decode cX7_holds 82 = .ok (.ineg, 1) by decide +kernel) c24 ?_
            refine y_iload_n (show decode cX7_holds 83 = .ok (.iload_n 1, 1) by decide +kernel) 1 rfl ?_
            refine y_iload_n (show decode cX7_holds 84 = .ok (.iload_n 2, 1) by decide +kernel) 2 rfl ?_
            refine y_iload_n (show decode cX7_holds 85 = .ok (.iload_n 3, 1) by decide +kernel) 3 rfl ?_
            refine y_iload (show decode cX7_holds 86 = .ok (.iload 4, 2) by decide +kernel) 4 rfl ?_
            obtain ⟨r26, e25, h⟩ := bndO_some h
            refine y_callS (np := 5) (st := [.inl x3, .inr (.inr ((o + 2) + 1))]) (as := [.inl (-(σ5 (o + 1) (x4).toNat)), .inl a, .inl b, .inl c, .inl d]) (sh_cRu_named e25) q2_134 q2_132 q2_133 q1_7 (by decide) (by decide +kernel) (by decide) rfl (Nat.le_of_ble_eq_true rfl) (show decode cX7_holds 88 = .ok (.invokestatic 78, 3) by decide +kernel) rfl ?_
            refine y_pick [0, 1, 2, 3, 4, 5, 6] rfl ?_
            exact hj18 _ h
          · rw [if_neg c23] at h
            refine y_if_lt_f (show decode cX7_holds 72 = .ok (.ifCond .lt 8, 3) by decide +kernel) c23 (by decide) ?_
            refine y_iload (show decode cX7_holds 75 = .ok (.iload 7, 2) by decide +kernel) 7 rfl ?_
            refine y_goto (tgt := 91) (show decode cX7_holds 77 = .ok (.goto 14, 3) by decide +kernel) rfl ?_
            refine y_pick [0, 1, 2, 3, 4, 5, 6] rfl ?_
            exact hj18 _ h
      by_cases c27 : (σ5 (o + 1) (x4).toNat) ≥ 0
      · rw [if_pos c27] at h
        refine y_if_ge_t (tgt := 57) (show decode cX7_holds 45 = .ok (.ifCond .ge 12, 3) by decide +kernel) rfl c27 ?_
        refine y_pick [1, 2, 3, 4, 5, 6, 7, 0] rfl ?_
        exact hj15 h
      · rw [if_neg c27] at h
        refine y_if_ge_f (show decode cX7_holds 45 = .ok (.ifCond .ge 12, 3) by decide +kernel) c27 (by decide) ?_
        refine y_iload (show decode cX7_holds 48 = .ok (.iload 7, 2) by decide +kernel) 0 rfl ?_
        obtain ⟨c28, h⟩ := chkI_some h
        refine y_ineg (show decode cX7_holds 50 = .ok (.ineg, 1) by decide +kernel) c28 ?_
        obtain ⟨r30, e29, h⟩ := bndO_some h
        refine y_callS (np := 1) (st := []) (as := [.inl (-(σ5 (o + 1) (x4).toNat))]) (sh_cRu_isName e29) q2_131 q2_129 q2_130 q1_7 (by decide) (by decide +kernel) (by decide) rfl (Nat.le_of_ble_eq_true rfl) (show decode cX7_holds 51 = .ok (.invokestatic 75, 3) by decide +kernel) rfl ?_
        by_cases c31 : r30 = 0
        · rw [if_pos c31] at h
          refine y_if_eq_t (tgt := 98) (show decode cX7_holds 54 = .ok (.ifCond .eq 44, 3) by decide +kernel) rfl c31 ?_
          refine y_iload (show decode cX7_holds 98 = .ok (.iload 7, 2) by decide +kernel) 0 rfl ?_
          refine y_bipush (show decode cX7_holds 100 = .ok (.bipush (-116), 2) by decide +kernel) rfl rfl ?_
          by_cases c32 : ¬ (σ5 (o + 1) (x4).toNat) = (-116)
          · rw [if_pos c32] at h
            refine y_icmp_ne_t (tgt := 139) (show decode cX7_holds 102 = .ok (.if_icmp .ne 37, 3) by decide +kernel) rfl c32 ?_
            refine y_iload (show decode cX7_holds 139 = .ok (.iload 5, 2) by decide +kernel) 6 rfl ?_
            refine y_iconst (show decode cX7_holds 141 = .ok (.iconst 1, 1) by decide +kernel) rfl ?_
            by_cases c33 : x3 ≤ 1
            · rw [if_pos c33] at h
              refine y_icmp_le_t (tgt := 179) (show decode cX7_holds 142 = .ok (.if_icmp .le 37, 3) by decide +kernel) rfl c33 ?_
              refine y_pick [1, 2, 3, 4, 5, 6, 7] rfl ?_
              exact hj13 _ _ h
            · rw [if_neg c33] at h
              refine y_icmp_le_f (show decode cX7_holds 142 = .ok (.if_icmp .le 37, 3) by decide +kernel) c33 (by decide) ?_
              obtain ⟨c34, h⟩ := chkI_some h
              refine y_iinc (show decode cX7_holds 145 = .ok (.iinc 5 (-1), 3) by decide +kernel) 6 rfl c34 rfl (L1 := [(5, .inl (x3 + (-1))), (7, .inl (σ5 (o + 1) (x4).toNat)), (0, .inr (.inr (o + 1))), (1, .inl a), (2, .inl b), (3, .inl c), (4, .inl d), (6, .inl x4)]) rfl ?_
              refine y_aload_n (show decode cX7_holds 148 = .ok (.aload_n 0, 1) by decide +kernel) 2 rfl ?_
              refine y_getf o 7 1 15 (by omega) (by rcases c1 with rfl | rfl <;> rfl) (by decide) (by decide) q1_166 (show decode cX7_holds 149 = .ok (.getfield 15, 3) by decide +kernel) (v := .inr (.inr ((o + 2) + 1))) (by rcases c1 with rfl | rfl <;> rfl) ?_
              refine y_iload (show decode cX7_holds 152 = .ok (.iload 5, 2) by decide +kernel) 0 rfl ?_
              refine y_iconst (show decode cX7_holds 154 = .ok (.iconst 1, 1) by decide +kernel) rfl ?_
              obtain ⟨c35, h⟩ := chkI_some h
              refine y_isub (show decode cX7_holds 155 = .ok (.isub, 1) by decide +kernel) c35 ?_
              refine y_iload (show decode cX7_holds 156 = .ok (.iload 7, 2) by decide +kernel) 1 rfl ?_
              obtain ⟨c36, h⟩ := chkI_some h
              refine y_ineg (show decode cX7_holds 158 = .ok (.ineg, 1) by decide +kernel) c36 ?_
              refine y_aload_n (show decode cX7_holds 159 = .ok (.aload_n 0, 1) by decide +kernel) 2 rfl ?_
              refine y_getf o 7 1 15 (by omega) (by rcases c1 with rfl | rfl <;> rfl) (by decide) (by decide) q1_166 (show decode cX7_holds 160 = .ok (.getfield 15, 3) by decide +kernel) (v := .inr (.inr ((o + 2) + 1))) (by rcases c1 with rfl | rfl <;> rfl) ?_
              refine y_iload (show decode cX7_holds 163 = .ok (.iload 5, 2) by decide +kernel) 0 rfl ?_
              refine y_iconst (show decode cX7_holds 165 = .ok (.iconst 1, 1) by decide +kernel) rfl ?_
              obtain ⟨c37, h⟩ := chkI_some h
              refine y_isub (show decode cX7_holds 166 = .ok (.isub, 1) by decide +kernel) c37 ?_
              obtain ⟨c38, h⟩ := chkA_some h
              refine yo_iald (o + 2) 40 (by omega) (by rcases c1 with rfl | rfl <;> rfl) c38 (ov_at (by rcases c1 with rfl | rfl <;> rfl)) (show decode cX7_holds 167 = .ok (.iaload, 1) by decide +kernel) ?_
              refine y_aload_n (show decode cX7_holds 168 = .ok (.aload_n 0, 1) by decide +kernel) 2 rfl ?_
              refine y_getf o 7 1 15 (by omega) (by rcases c1 with rfl | rfl <;> rfl) (by decide) (by decide) q1_166 (show decode cX7_holds 169 = .ok (.getfield 15, 3) by decide +kernel) (v := .inr (.inr ((o + 2) + 1))) (by rcases c1 with rfl | rfl <;> rfl) ?_
              refine y_iload (show decode cX7_holds 172 = .ok (.iload 5, 2) by decide +kernel) 0 rfl ?_
              obtain ⟨c39, h⟩ := chkA_some h
              refine yo_iald (o + 2) 40 (by omega) (by rcases c1 with rfl | rfl <;> rfl) c39 (ov_at (by rcases c1 with rfl | rfl <;> rfl)) (show decode cX7_holds 174 = .ok (.iaload, 1) by decide +kernel) ?_
              obtain ⟨r41, e40, h⟩ := bndO_some h
              refine y_callS (np := 3) (st := [.inl ((x3 + (-1)) - 1), .inr (.inr ((o + 2) + 1))]) (as := [.inl (-(σ5 (o + 1) (x4).toNat)), .inl (σ5 (o + 2) (((x3 + (-1)) - 1)).toNat), .inl (σ5 (o + 2) ((x3 + (-1))).toNat)]) (sh_cRu_joined e40) q2_137 q2_135 q2_136 q1_7 (by decide) (by decide +kernel) (by decide) rfl (Nat.le_of_ble_eq_true rfl) (show decode cX7_holds 175 = .ok (.invokestatic 82, 3) by decide +kernel) rfl ?_
              obtain ⟨c42, h⟩ := chkA_some h
              obtain ⟨σ43, e44, h⟩ := bnd_i h
              refine yo_iast (o + 2) 40 (by omega) (by rcases c1 with rfl | rfl <;> rfl) c42 (ov_set1 e44 (by rcases c1 with rfl | rfl <;> rfl)) (show decode cX7_holds 178 = .ok (.iastore, 1) by decide +kernel) ?_
              refine y_pick [2, 3, 4, 5, 6, 0, 7] rfl ?_
              exact hj13 _ _ h
          · rw [if_neg c32] at h
            refine y_icmp_ne_f (show decode cX7_holds 102 = .ok (.if_icmp .ne 37, 3) by decide +kernel) c32 (by decide) ?_
            refine y_iload (show decode cX7_holds 105 = .ok (.iload 5, 2) by decide +kernel) 6 rfl ?_
            by_cases c45 : x3 ≤ 0
            · rw [if_pos c45] at h
              refine y_if_le_t (tgt := 179) (show decode cX7_holds 107 = .ok (.ifCond .le 72, 3) by decide +kernel) rfl c45 ?_
              refine y_pick [1, 2, 3, 4, 5, 6, 7] rfl ?_
              exact hj13 _ _ h
            · rw [if_neg c45] at h
              refine y_if_le_f (show decode cX7_holds 107 = .ok (.ifCond .le 72, 3) by decide +kernel) c45 (by decide) ?_
              refine y_aload_n (show decode cX7_holds 110 = .ok (.aload_n 0, 1) by decide +kernel) 1 rfl ?_
              refine y_getf o 7 1 15 (by omega) (by rcases c1 with rfl | rfl <;> rfl) (by decide) (by decide) q1_166 (show decode cX7_holds 111 = .ok (.getfield 15, 3) by decide +kernel) (v := .inr (.inr ((o + 2) + 1))) (by rcases c1 with rfl | rfl <;> rfl) ?_
              refine y_iload (show decode cX7_holds 114 = .ok (.iload 5, 2) by decide +kernel) 6 rfl ?_
              refine y_iconst (show decode cX7_holds 116 = .ok (.iconst 1, 1) by decide +kernel) rfl ?_
              obtain ⟨c46, h⟩ := chkI_some h
              refine y_isub (show decode cX7_holds 117 = .ok (.isub, 1) by decide +kernel) c46 ?_
              refine y_aload_n (show decode cX7_holds 118 = .ok (.aload_n 0, 1) by decide +kernel) 1 rfl ?_
              refine y_getf o 7 1 15 (by omega) (by rcases c1 with rfl | rfl <;> rfl) (by decide) (by decide) q1_166 (show decode cX7_holds 119 = .ok (.getfield 15, 3) by decide +kernel) (v := .inr (.inr ((o + 2) + 1))) (by rcases c1 with rfl | rfl <;> rfl) ?_
              refine y_iload (show decode cX7_holds 122 = .ok (.iload 5, 2) by decide +kernel) 6 rfl ?_
              refine y_iconst (show decode cX7_holds 124 = .ok (.iconst 1, 1) by decide +kernel) rfl ?_
              obtain ⟨c47, h⟩ := chkI_some h
              refine y_isub (show decode cX7_holds 125 = .ok (.isub, 1) by decide +kernel) c47 ?_
              obtain ⟨c48, h⟩ := chkA_some h
              refine yo_iald (o + 2) 40 (by omega) (by rcases c1 with rfl | rfl <;> rfl) c48 (ov_at (by rcases c1 with rfl | rfl <;> rfl)) (show decode cX7_holds 126 = .ok (.iaload, 1) by decide +kernel) ?_
              refine bnd_j (Q := fun j50 => ∀ (y49 : Int), j50 y49 = some (ρ, τ) → Y E MX7_holds (yRm 1 0 0) (yQf E (150 + 0) 0 0 (some (.inl ρ)) (ov τ)) 135 [(0, .inr (.inr (o + 1))), (1, .inl a), (2, .inl b), (3, .inl c), (4, .inl d), (5, .inl x3), (6, .inl x4)] [.inl y49, .inl (x3 - 1), .inr (.inr ((o + 2) + 1))] (ov σ5) 150 0 0) (fun y49 h => ?_) (fun j50 hj50 h => ?_) h
              · dsimp only at h
                obtain ⟨c51, h⟩ := chkA_some h
                obtain ⟨σ52, e53, h⟩ := bnd_i h
                refine yo_iast (o + 2) 40 (by omega) (by rcases c1 with rfl | rfl <;> rfl) c51 (ov_set1 e53 (by rcases c1 with rfl | rfl <;> rfl)) (show decode cX7_holds 135 = .ok (.iastore, 1) by decide +kernel) ?_
                refine y_goto (tgt := 179) (show decode cX7_holds 136 = .ok (.goto 43, 3) by decide +kernel) rfl ?_
                refine y_pick [0, 1, 2, 3, 4, 5, 6] rfl ?_
                exact hj13 _ _ h
              by_cases c54 : ¬ (σ5 (o + 2) ((x3 - 1)).toNat) = 0
              · rw [if_pos c54] at h
                refine y_if_ne_t (tgt := 134) (show decode cX7_holds 127 = .ok (.ifCond .ne 7, 3) by decide +kernel) rfl c54 ?_
                refine y_iconst (show decode cX7_holds 134 = .ok (.iconst 0, 1) by decide +kernel) rfl ?_
                refine y_pick [1, 2, 3, 4, 5, 6, 7] rfl ?_
                exact hj50 _ h
              · rw [if_neg c54] at h
                refine y_if_ne_f (show decode cX7_holds 127 = .ok (.ifCond .ne 7, 3) by decide +kernel) c54 (by decide) ?_
                refine y_iconst (show decode cX7_holds 130 = .ok (.iconst 1, 1) by decide +kernel) rfl ?_
                refine y_goto (tgt := 135) (show decode cX7_holds 131 = .ok (.goto 4, 3) by decide +kernel) rfl ?_
                refine y_pick [1, 2, 3, 4, 5, 6, 7] rfl ?_
                exact hj50 _ h
        · rw [if_neg c31] at h
          refine y_if_eq_f (show decode cX7_holds 54 = .ok (.ifCond .eq 44, 3) by decide +kernel) c31 (by decide) ?_
          refine y_pick [1, 2, 3, 4, 5, 6, 7, 0] rfl ?_
          exact hj15 h
  · rw [if_neg c2] at h
    refine y_if_ne_f (show decode cX7_holds 4 = .ok (.ifCond .ne 15, 3) by decide +kernel) c2 (by decide) ?_
    refine y_iload_n (show decode cX7_holds 7 = .ok (.iload_n 1, 1) by decide +kernel) 1 rfl ?_
    refine y_iconst (show decode cX7_holds 8 = .ok (.iconst 2, 1) by decide +kernel) rfl ?_
    obtain ⟨c55, h⟩ := chk_some h
    obtain ⟨c56, h⟩ := chkI_some h
    refine y_irem (show decode cX7_holds 9 = .ok (.irem, 1) by decide +kernel) c55 c56 ?_
    by_cases c57 : ¬ ((a : Int).tmod 2) = 0
    · rw [if_pos c57] at h
      refine y_if_ne_t (tgt := 17) (show decode cX7_holds 10 = .ok (.ifCond .ne 7, 3) by decide +kernel) rfl c57 ?_
      refine y_iconst (show decode cX7_holds 17 = .ok (.iconst 0, 1) by decide +kernel) rfl ?_
      cases h
      exact y_zret (show decode cX7_holds 18 = .ok (.ireturn, 1) by decide +kernel) rfl (Or.inl rfl)
    · rw [if_neg c57] at h
      refine y_if_ne_f (show decode cX7_holds 10 = .ok (.ifCond .ne 7, 3) by decide +kernel) c57 (by decide) ?_
      refine y_iconst (show decode cX7_holds 13 = .ok (.iconst 1, 1) by decide +kernel) rfl ?_
      refine y_goto (tgt := 18) (show decode cX7_holds 14 = .ok (.goto 4, 3) by decide +kernel) rfl ?_
      cases h
      exact y_zret (show decode cX7_holds 18 = .ok (.ireturn, 1) by decide +kernel) rfl (Or.inr rfl)
abbrev MX8_hasRoom : yM := (yX8_hasRoom, cX8_hasRoom, 2, some .boolean)
def cTp_hasRoom (a : Int) (σ : ySt) : Option (Int) :=
  chkI ((σ 1 1) + a) <|
  if ((σ 1 1) + a) > 1600 then
    some 0
  else
    some 1
set_option maxHeartbeats 4000000 in
set_option maxRecDepth 10000 in
theorem sh_cTp_hasRoom {E : yE} {a : Int} {σ : ySt} {ρ : Int} (h : cTp_hasRoom a σ = some ρ) : Con E MX8_hasRoom 0 0 0 [.inr (.inr (1 + 1)), .inl a] 150 (ov σ) (some (.inl ρ)) (ov σ) := by
  unfold cTp_hasRoom at h
  refine Con.ofY (by decide +kernel) (by simp [yWords, yCat]) (fun hok _ => ?_)
  show Y E MX8_hasRoom (yRm 0 0 0) (yQf E (150 + 0) 0 0 (some (.inl ρ)) (ov σ)) 0 [(0, .inr (.inr (1 + 1))), (1, .inl a)] [] (ov σ) 150 0 0
  refine y_aload_n (show decode cX8_hasRoom 0 = .ok (.aload_n 0, 1) by decide +kernel) 0 rfl ?_
  refine y_getf 1 8 1 19 (by decide) rfl (by decide) (by decide) q1_37 (show decode cX8_hasRoom 1 = .ok (.getfield 19, 3) by decide +kernel) (v := .inl (σ 1 1)) rfl ?_
  refine y_iload_n (show decode cX8_hasRoom 4 = .ok (.iload_n 1, 1) by decide +kernel) 1 rfl ?_
  obtain ⟨c1, h⟩ := chkI_some h
  refine y_iadd (show decode cX8_hasRoom 5 = .ok (.iadd, 1) by decide +kernel) c1 ?_
  refine y_sipush (show decode cX8_hasRoom 6 = .ok (.sipush 1600, 3) by decide +kernel) rfl rfl ?_
  by_cases c2 : ((σ 1 1) + a) > 1600
  · rw [if_pos c2] at h
    refine y_icmp_gt_t (tgt := 16) (show decode cX8_hasRoom 9 = .ok (.if_icmp .gt 7, 3) by decide +kernel) rfl c2 ?_
    refine y_iconst (show decode cX8_hasRoom 16 = .ok (.iconst 0, 1) by decide +kernel) rfl ?_
    cases h
    exact y_zret (show decode cX8_hasRoom 17 = .ok (.ireturn, 1) by decide +kernel) rfl (Or.inl rfl)
  · rw [if_neg c2] at h
    refine y_icmp_gt_f (show decode cX8_hasRoom 9 = .ok (.if_icmp .gt 7, 3) by decide +kernel) c2 (by decide) ?_
    refine y_iconst (show decode cX8_hasRoom 12 = .ok (.iconst 1, 1) by decide +kernel) rfl ?_
    refine y_goto (tgt := 17) (show decode cX8_hasRoom 13 = .ok (.goto 4, 3) by decide +kernel) rfl ?_
    cases h
    exact y_zret (show decode cX8_hasRoom 17 = .ok (.ireturn, 1) by decide +kernel) rfl (Or.inr rfl)
abbrev MX8_putFour : yM := (yX8_putFour, cX8_putFour, 3, none)
def cTp_putFour (N : Nat) (a : Int) (σ : ySt) : Option (ySt) :=
  loopS1 (fun k3 x1 σ2 =>
    if x1 < 0 then
      some σ2
    else
      if (σ2 1 1) ≥ 1600 then
        some σ2
      else
        chkA 1600 (σ2 1 1) <|
        bnd (yset σ2 2 ((σ2 1 1)).toNat (b32i2b (b32i2b (b32shr a x1)))) fun σ7 =>
        chkI ((σ7 1 1) + 1) <|
        bnd (yset σ7 1 1 ((σ7 1 1) + 1)) fun σ10 =>
        chkI (x1 + (-8)) <|
        k3 (x1 + (-8)) σ10) N 24 σ
set_option maxHeartbeats 4000000 in
set_option maxRecDepth 10000 in
theorem sh_cTp_putFour {E : yE} {N : Nat} {a : Int} {σ : ySt} {τ : ySt} (h : cTp_putFour N a σ = some τ) : Con E MX8_putFour 0 0 0 [.inr (.inr (1 + 1)), .inl a] 150 (ov σ) none (ov τ) := by
  unfold cTp_putFour at h
  refine Con.ofY (by decide +kernel) (by simp [yWords, yCat]) (fun hok _ => ?_)
  show Y E MX8_putFour (yRm 0 0 0) (yQf E (150 + 0) 0 0 none (ov τ)) 0 [(0, .inr (.inr (1 + 1))), (1, .inl a)] [] (ov σ) 150 0 0
  refine y_bipush (show decode cX8_putFour 0 = .ok (.bipush 24, 2) by decide +kernel) rfl rfl ?_
  refine y_istore_n (show decode cX8_putFour 2 = .ok (.istore_n 2, 1) by decide +kernel) rfl (L1 := [(2, .inl 24), (0, .inr (.inr (1 + 1))), (1, .inl a)]) rfl ?_
  refine y_pick [1, 2, 0] rfl ?_
  refine loopS1_ind (P := fun x1 σ2 => Y E MX8_putFour (yRm 0 0 0) (yQf E (150 + 0) 0 0 none (ov τ)) 3 [(0, .inr (.inr (1 + 1))), (1, .inl a), (2, .inl x1)] [] (ov σ2) 150 0 0) (fun k3 hk3 x1 σ2 h => ?_) _ _ _  h
  refine y_iload_n (show decode cX8_putFour 3 = .ok (.iload_n 2, 1) by decide +kernel) 2 rfl ?_
  by_cases c4 : x1 < 0
  · rw [if_pos c4] at h
    refine y_if_lt_t (tgt := 46) (show decode cX8_putFour 4 = .ok (.ifCond .lt 42, 3) by decide +kernel) rfl c4 ?_
    cases h
    exact y_vret (show decode cX8_putFour 46 = .ok (.return_, 1) by decide +kernel) rfl
  · rw [if_neg c4] at h
    refine y_if_lt_f (show decode cX8_putFour 4 = .ok (.ifCond .lt 42, 3) by decide +kernel) c4 (by decide) ?_
    refine y_aload_n (show decode cX8_putFour 7 = .ok (.aload_n 0, 1) by decide +kernel) 0 rfl ?_
    refine y_getf 1 8 1 19 (by decide) rfl (by decide) (by decide) q1_37 (show decode cX8_putFour 8 = .ok (.getfield 19, 3) by decide +kernel) (v := .inl (σ2 1 1)) rfl ?_
    refine y_sipush (show decode cX8_putFour 11 = .ok (.sipush 1600, 3) by decide +kernel) rfl rfl ?_
    by_cases c5 : (σ2 1 1) ≥ 1600
    · rw [if_pos c5] at h
      refine y_icmp_ge_t (tgt := 46) (show decode cX8_putFour 14 = .ok (.if_icmp .ge 32, 3) by decide +kernel) rfl c5 ?_
      cases h
      exact y_vret (show decode cX8_putFour 46 = .ok (.return_, 1) by decide +kernel) rfl
    · rw [if_neg c5] at h
      refine y_icmp_ge_f (show decode cX8_putFour 14 = .ok (.if_icmp .ge 32, 3) by decide +kernel) c5 (by decide) ?_
      refine y_aload_n (show decode cX8_putFour 17 = .ok (.aload_n 0, 1) by decide +kernel) 0 rfl ?_
      refine y_getf 1 8 0 9 (by decide) rfl (by decide) (by decide) q1_36 (show decode cX8_putFour 18 = .ok (.getfield 9, 3) by decide +kernel) (v := .inr (.inr (2 + 1))) rfl ?_
      refine y_aload_n (show decode cX8_putFour 21 = .ok (.aload_n 0, 1) by decide +kernel) 0 rfl ?_
      refine y_getf 1 8 1 19 (by decide) rfl (by decide) (by decide) q1_37 (show decode cX8_putFour 22 = .ok (.getfield 19, 3) by decide +kernel) (v := .inl (σ2 1 1)) rfl ?_
      refine y_iload_n (show decode cX8_putFour 25 = .ok (.iload_n 1, 1) by decide +kernel) 1 rfl ?_
      refine y_iload_n (show decode cX8_putFour 26 = .ok (.iload_n 2, 1) by decide +kernel) 2 rfl ?_
      refine y_ishr (show decode cX8_putFour 27 = .ok (.ishr, 1) by decide +kernel) ?_
      refine y_i2b (show decode cX8_putFour 28 = .ok (.i2b, 1) by decide +kernel) ?_
      obtain ⟨c6, h⟩ := chkA_some h
      obtain ⟨σ7, e8, h⟩ := bnd_i h
      refine yo_bast 2 1600 (by decide) rfl c6 (ov_set1 e8 rfl) (show decode cX8_putFour 29 = .ok (.bastore, 1) by decide +kernel) ?_
      refine y_aload_n (show decode cX8_putFour 30 = .ok (.aload_n 0, 1) by decide +kernel) 0 rfl ?_
      refine y_dup (show decode cX8_putFour 31 = .ok (.dup, 1) by decide +kernel) rfl ?_
      refine y_getf 1 8 1 19 (by decide) rfl (by decide) (by decide) q1_37 (show decode cX8_putFour 32 = .ok (.getfield 19, 3) by decide +kernel) (v := .inl (σ7 1 1)) rfl ?_
      refine y_iconst (show decode cX8_putFour 35 = .ok (.iconst 1, 1) by decide +kernel) rfl ?_
      obtain ⟨c9, h⟩ := chkI_some h
      refine y_iadd (show decode cX8_putFour 36 = .ok (.iadd, 1) by decide +kernel) c9 ?_
      obtain ⟨σ10, e11, h⟩ := bnd_i h
      refine yo_putI 1 8 1 19 (by decide) rfl (by decide) (by decide) q1_37 rfl (show decode cX8_putFour 37 = .ok (.putfield 19, 3) by decide +kernel) rfl rfl (ov_set1 e11 rfl) ?_
      obtain ⟨c12, h⟩ := chkI_some h
      refine y_iinc (show decode cX8_putFour 40 = .ok (.iinc 2 (-8), 3) by decide +kernel) 2 rfl c12 rfl (L1 := [(2, .inl (x1 + (-8))), (0, .inr (.inr (1 + 1))), (1, .inl a)]) rfl ?_
      refine y_goto (tgt := 3) (show decode cX8_putFour 43 = .ok (.goto (-40), 3) by decide +kernel) rfl ?_
      refine y_pick [1, 2, 0] rfl ?_
      exact hk3 _ _ h
abbrev MX8_passNumber : yM := (yX8_passNumber, cX8_passNumber, 4, some .int)
def cTp_passNumber (N : Nat) (a : Int) (b : Int) (σ : ySt) : Option (Int × ySt) :=
  if (σ 1 3) = 2 then
    bnd (bndR (cTp_blame 4 σ) fun r4 σ5 =>
      some ((-1), σ5)) fun j2 =>
    if (σ 1 5) < a then
      j2
    else
      if (σ 1 5) ≤ b then
        bndO (cTp_step N σ) fun σ9 =>
        some ((σ 1 5), σ9)
      else
        j2
  else
    bndR (cTp_refuse σ) fun r11 σ12 =>
    some ((-1), σ12)
set_option maxHeartbeats 4000000 in
set_option maxRecDepth 10000 in
theorem sh_cTp_passNumber {E : yE} {N : Nat} {a : Int} {b : Int} {σ : ySt} {ρ : Int} {τ : ySt} (h : cTp_passNumber N a b σ = some (ρ, τ)) : Con E MX8_passNumber 9 0 0 [.inr (.inr (1 + 1)), .inl a, .inl b] 150 (ov σ) (some (.inl ρ)) (ov τ) := by
  unfold cTp_passNumber at h
  refine Con.ofY (by decide +kernel) (by simp [yWords, yCat]) (fun hok _ => ?_)
  show Y E MX8_passNumber (yRm 9 0 0) (yQf E (150 + 0) 0 0 (some (.inl ρ)) (ov τ)) 0 [(0, .inr (.inr (1 + 1))), (1, .inl a), (2, .inl b)] [] (ov σ) 150 0 0
  refine y_iconst (show decode cX8_passNumber 0 = .ok (.iconst (-1), 1) by decide +kernel) rfl ?_
  refine y_istore_n (show decode cX8_passNumber 1 = .ok (.istore_n 3, 1) by decide +kernel) rfl (L1 := [(3, .inl (-1)), (0, .inr (.inr (1 + 1))), (1, .inl a), (2, .inl b)]) rfl ?_
  refine y_aload_n (show decode cX8_passNumber 2 = .ok (.aload_n 0, 1) by decide +kernel) 1 rfl ?_
  refine y_getf 1 8 3 34 (by decide) rfl (by decide) (by decide) q1_43 (show decode cX8_passNumber 3 = .ok (.getfield 34, 3) by decide +kernel) (v := .inl (σ 1 3)) rfl ?_
  refine y_iconst (show decode cX8_passNumber 6 = .ok (.iconst 2, 1) by decide +kernel) rfl ?_
  by_cases c1 : (σ 1 3) = 2
  · rw [if_pos c1] at h
    refine y_icmp_eq_t (tgt := 18) (show decode cX8_passNumber 7 = .ok (.if_icmp .eq 11, 3) by decide +kernel) rfl c1 ?_
    refine y_aload_n (show decode cX8_passNumber 18 = .ok (.aload_n 0, 1) by decide +kernel) 1 rfl ?_
    refine y_getf 1 8 5 68 (by decide) rfl (by decide) (by decide) q1_47 (show decode cX8_passNumber 19 = .ok (.getfield 68, 3) by decide +kernel) (v := .inl (σ 1 5)) rfl ?_
    refine y_iload_n (show decode cX8_passNumber 22 = .ok (.iload_n 1, 1) by decide +kernel) 2 rfl ?_
    refine bnd_j (Q := fun j2 => j2 = some (ρ, τ) → Y E MX8_passNumber (yRm 9 0 0) (yQf E (150 + 0) 0 0 (some (.inl ρ)) (ov τ)) 34 [(0, .inr (.inr (1 + 1))), (3, .inl (-1))] [] (ov σ) 150 0 0) (fun h => ?_) (fun j2 hj2 h => ?_) h
    · refine y_aload_n (show decode cX8_passNumber 34 = .ok (.aload_n 0, 1) by decide +kernel) 0 rfl ?_
      refine y_iconst (show decode cX8_passNumber 35 = .ok (.iconst 4, 1) by decide +kernel) rfl ?_
      obtain ⟨r4, σ5, e3, h⟩ := bndR_some h
      refine y_callV (np := 1) (st := []) (as := [.inl 4]) 1 8 (sh_cTp_blame e3) q3_235 q4_5 q3_233 q3_234 q1_2 (by decide) rfl (by decide) rfl (by decide) (by decide +kernel) (by decide) rfl (Nat.le_of_ble_eq_true rfl) (show decode cX8_passNumber 36 = .ok (.invokevirtual 80, 3) by decide +kernel) rfl ?_
      refine y_pop (show decode cX8_passNumber 39 = .ok (.pop, 1) by decide +kernel) rfl ?_
      refine y_goto (tgt := 52) (show decode cX8_passNumber 40 = .ok (.goto 12, 3) by decide +kernel) rfl ?_
      refine y_iload_n (show decode cX8_passNumber 52 = .ok (.iload_n 3, 1) by decide +kernel) 1 rfl ?_
      cases h
      exact y_iret (show decode cX8_passNumber 53 = .ok (.ireturn, 1) by decide +kernel) rfl
    by_cases c6 : (σ 1 5) < a
    · rw [if_pos c6] at h
      refine y_icmp_lt_t (tgt := 34) (show decode cX8_passNumber 23 = .ok (.if_icmp .lt 11, 3) by decide +kernel) rfl c6 ?_
      refine y_pick [1, 0] rfl ?_
      exact hj2 h
    · rw [if_neg c6] at h
      refine y_icmp_lt_f (show decode cX8_passNumber 23 = .ok (.if_icmp .lt 11, 3) by decide +kernel) c6 (by decide) ?_
      refine y_aload_n (show decode cX8_passNumber 26 = .ok (.aload_n 0, 1) by decide +kernel) 1 rfl ?_
      refine y_getf 1 8 5 68 (by decide) rfl (by decide) (by decide) q1_47 (show decode cX8_passNumber 27 = .ok (.getfield 68, 3) by decide +kernel) (v := .inl (σ 1 5)) rfl ?_
      refine y_iload_n (show decode cX8_passNumber 30 = .ok (.iload_n 2, 1) by decide +kernel) 3 rfl ?_
      by_cases c7 : (σ 1 5) ≤ b
      · rw [if_pos c7] at h
        refine y_icmp_le_t (tgt := 43) (show decode cX8_passNumber 31 = .ok (.if_icmp .le 12, 3) by decide +kernel) rfl c7 ?_
        refine y_aload_n (show decode cX8_passNumber 43 = .ok (.aload_n 0, 1) by decide +kernel) 1 rfl ?_
        refine y_getf 1 8 5 68 (by decide) rfl (by decide) (by decide) q1_47 (show decode cX8_passNumber 44 = .ok (.getfield 68, 3) by decide +kernel) (v := .inl (σ 1 5)) rfl ?_
        refine y_istore_n (show decode cX8_passNumber 47 = .ok (.istore_n 3, 1) by decide +kernel) rfl (L1 := [(3, .inl (σ 1 5)), (0, .inr (.inr (1 + 1))), (1, .inl a), (2, .inl b)]) rfl ?_
        refine y_aload_n (show decode cX8_passNumber 48 = .ok (.aload_n 0, 1) by decide +kernel) 1 rfl ?_
        obtain ⟨σ9, e8, h⟩ := bndO_some h
        refine y_callV (np := 0) (st := []) (as := []) 1 8 (sh_cTp_step e8) q3_90 q3_87 q3_88 q3_89 q1_2 (by decide) rfl (by decide) rfl (by decide) (by decide +kernel) (by decide) rfl (Nat.le_of_ble_eq_true rfl) (show decode cX8_passNumber 49 = .ok (.invokevirtual 28, 3) by decide +kernel) rfl ?_
        refine y_iload_n (show decode cX8_passNumber 52 = .ok (.iload_n 3, 1) by decide +kernel) 0 rfl ?_
        cases h
        exact y_iret (show decode cX8_passNumber 53 = .ok (.ireturn, 1) by decide +kernel) rfl
      · rw [if_neg c7] at h
        refine y_icmp_le_f (show decode cX8_passNumber 31 = .ok (.if_icmp .le 12, 3) by decide +kernel) c7 (by decide) ?_
        refine y_pick [1, 0] rfl ?_
        exact hj2 h
  · rw [if_neg c1] at h
    refine y_icmp_eq_f (show decode cX8_passNumber 7 = .ok (.if_icmp .eq 11, 3) by decide +kernel) c1 (by decide) ?_
    refine y_aload_n (show decode cX8_passNumber 10 = .ok (.aload_n 0, 1) by decide +kernel) 1 rfl ?_
    obtain ⟨r11, σ12, e10, h⟩ := bndR_some h
    refine y_callV (np := 0) (st := []) (as := []) 1 8 (sh_cTp_refuse e10) q4_4 q4_23 q4_2 q4_3 q1_2 (by decide) rfl (by decide) rfl (by decide) (by decide +kernel) (by decide) rfl (Nat.le_of_ble_eq_true rfl) (show decode cX8_passNumber 11 = .ok (.invokevirtual 83, 3) by decide +kernel) rfl ?_
    refine y_pop (show decode cX8_passNumber 14 = .ok (.pop, 1) by decide +kernel) rfl ?_
    refine y_goto (tgt := 52) (show decode cX8_passNumber 15 = .ok (.goto 37, 3) by decide +kernel) rfl ?_
    refine y_iload_n (show decode cX8_passNumber 52 = .ok (.iload_n 3, 1) by decide +kernel) 0 rfl ?_
    cases h
    exact y_iret (show decode cX8_passNumber 53 = .ok (.ireturn, 1) by decide +kernel) rfl
abbrev MX9_clear : yM := (yX9_clear, cX9_clear, 2, none)
def cTw_clear (N : Nat) (o : Nat) (σ : ySt) : Option (ySt) :=
  chk (o = 13 ∨ o = 33) <|
  bnd (yset σ (o + 1) 1 0) fun σ2 =>
  bnd (yset σ2 (o + 3) 1 0) fun σ4 =>
  bnd (yset σ4 (o + 5) 1 0) fun σ6 =>
  bnd (yset σ6 o 14 0) fun σ8 =>
  bnd (yset σ8 o 15 0) fun σ10 =>
  bnd (yset σ10 o 16 60) fun σ12 =>
  bnd (yset σ12 o 17 3) fun σ14 =>
  bndO (cRu_clear (o + 17) σ14) fun σ17 =>
  bndO (jA_fill_53178 N (o + 15) 1000000 σ17) fun σ19 =>
  loopS1 (fun k22 x20 σ21 =>
    if x20 ≥ 6 then
      some σ21
    else
      chkI (x20 * 6) <|
      chkI ((x20 * 6) + x20) <|
      chkA 36 ((x20 * 6) + x20) <|
      bnd (yset σ21 (o + 15) (((x20 * 6) + x20)).toNat 0) fun σ27 =>
      chkI (x20 + 1) <|
      k22 (x20 + 1) σ27) N 0 σ19
set_option maxHeartbeats 4000000 in
set_option maxRecDepth 10000 in
theorem sh_cTw_clear {E : yE} {N : Nat} {o : Nat} {σ : ySt} {τ : ySt} (h : cTw_clear N o σ = some τ) : Con E MX9_clear 1 0 0 [.inr (.inr (o + 1))] 150 (ov σ) none (ov τ) := by
  unfold cTw_clear at h
  refine Con.ofY (by decide +kernel) (by simp [yWords, yCat]) (fun hok _ => ?_)
  show Y E MX9_clear (yRm 1 0 0) (yQf E (150 + 0) 0 0 none (ov τ)) 0 [(0, .inr (.inr (o + 1)))] [] (ov σ) 150 0 0
  obtain ⟨c1, h⟩ := chk_some h
  refine y_aload_n (show decode cX9_clear 0 = .ok (.aload_n 0, 1) by decide +kernel) 0 rfl ?_
  refine y_getf o 9 0 14 (by omega) (by rcases c1 with rfl | rfl <;> rfl) (by decide) (by decide) q1_192 (show decode cX9_clear 1 = .ok (.getfield 14, 3) by decide +kernel) (v := .inr (.inr ((o + 1) + 1))) (by rcases c1 with rfl | rfl <;> rfl) ?_
  refine y_iconst (show decode cX9_clear 4 = .ok (.iconst 0, 1) by decide +kernel) rfl ?_
  obtain ⟨σ2, e3, h⟩ := bnd_i h
  refine yo_putI (o + 1) 5 1 68 (by omega) (by rcases c1 with rfl | rfl <;> rfl) (by decide) (by decide) q1_146 rfl (show decode cX9_clear 5 = .ok (.putfield 68, 3) by decide +kernel) rfl rfl (ov_set1 e3 (by rcases c1 with rfl | rfl <;> rfl)) ?_
  refine y_aload_n (show decode cX9_clear 8 = .ok (.aload_n 0, 1) by decide +kernel) 0 rfl ?_
  refine y_getf o 9 1 20 (by omega) (by rcases c1 with rfl | rfl <;> rfl) (by decide) (by decide) q1_200 (show decode cX9_clear 9 = .ok (.getfield 20, 3) by decide +kernel) (v := .inr (.inr ((o + 3) + 1))) (by rcases c1 with rfl | rfl <;> rfl) ?_
  refine y_iconst (show decode cX9_clear 12 = .ok (.iconst 0, 1) by decide +kernel) rfl ?_
  obtain ⟨σ4, e5, h⟩ := bnd_i h
  refine yo_putI (o + 3) 5 1 68 (by omega) (by rcases c1 with rfl | rfl <;> rfl) (by decide) (by decide) q1_146 rfl (show decode cX9_clear 13 = .ok (.putfield 68, 3) by decide +kernel) rfl rfl (ov_set1 e5 (by rcases c1 with rfl | rfl <;> rfl)) ?_
  refine y_aload_n (show decode cX9_clear 16 = .ok (.aload_n 0, 1) by decide +kernel) 0 rfl ?_
  refine y_getf o 9 2 23 (by omega) (by rcases c1 with rfl | rfl <;> rfl) (by decide) (by decide) q1_206 (show decode cX9_clear 17 = .ok (.getfield 23, 3) by decide +kernel) (v := .inr (.inr ((o + 5) + 1))) (by rcases c1 with rfl | rfl <;> rfl) ?_
  refine y_iconst (show decode cX9_clear 20 = .ok (.iconst 0, 1) by decide +kernel) rfl ?_
  obtain ⟨σ6, e7, h⟩ := bnd_i h
  refine yo_putI (o + 5) 5 1 68 (by omega) (by rcases c1 with rfl | rfl <;> rfl) (by decide) (by decide) q1_146 rfl (show decode cX9_clear 21 = .ok (.putfield 68, 3) by decide +kernel) rfl rfl (ov_set1 e7 (by rcases c1 with rfl | rfl <;> rfl)) ?_
  refine y_aload_n (show decode cX9_clear 24 = .ok (.aload_n 0, 1) by decide +kernel) 0 rfl ?_
  refine y_iconst (show decode cX9_clear 25 = .ok (.iconst 0, 1) by decide +kernel) rfl ?_
  obtain ⟨σ8, e9, h⟩ := bnd_i h
  refine yo_putI o 9 14 72 (by omega) (by rcases c1 with rfl | rfl <;> rfl) (by decide) (by decide) q2_7 rfl (show decode cX9_clear 26 = .ok (.putfield 72, 3) by decide +kernel) rfl rfl (ov_set1 e9 (by rcases c1 with rfl | rfl <;> rfl)) ?_
  refine y_aload_n (show decode cX9_clear 29 = .ok (.aload_n 0, 1) by decide +kernel) 0 rfl ?_
  refine y_iconst (show decode cX9_clear 30 = .ok (.iconst 0, 1) by decide +kernel) rfl ?_
  obtain ⟨σ10, e11, h⟩ := bnd_i h
  refine yo_putI o 9 15 75 (by omega) (by rcases c1 with rfl | rfl <;> rfl) (by decide) (by decide) q2_12 rfl (show decode cX9_clear 31 = .ok (.putfield 75, 3) by decide +kernel) rfl rfl (ov_set1 e11 (by rcases c1 with rfl | rfl <;> rfl)) ?_
  refine y_aload_n (show decode cX9_clear 34 = .ok (.aload_n 0, 1) by decide +kernel) 0 rfl ?_
  refine y_bipush (show decode cX9_clear 35 = .ok (.bipush 60, 2) by decide +kernel) rfl rfl ?_
  obtain ⟨σ12, e13, h⟩ := bnd_i h
  refine yo_putI o 9 16 78 (by omega) (by rcases c1 with rfl | rfl <;> rfl) (by decide) (by decide) q2_16 rfl (show decode cX9_clear 37 = .ok (.putfield 78, 3) by decide +kernel) rfl rfl (ov_set1 e13 (by rcases c1 with rfl | rfl <;> rfl)) ?_
  refine y_aload_n (show decode cX9_clear 40 = .ok (.aload_n 0, 1) by decide +kernel) 0 rfl ?_
  refine y_iconst (show decode cX9_clear 41 = .ok (.iconst 3, 1) by decide +kernel) rfl ?_
  obtain ⟨σ14, e15, h⟩ := bnd_i h
  refine yo_putI o 9 17 81 (by omega) (by rcases c1 with rfl | rfl <;> rfl) (by decide) (by decide) q2_20 rfl (show decode cX9_clear 42 = .ok (.putfield 81, 3) by decide +kernel) rfl rfl (ov_set1 e15 (by rcases c1 with rfl | rfl <;> rfl)) ?_
  refine y_aload_n (show decode cX9_clear 45 = .ok (.aload_n 0, 1) by decide +kernel) 0 rfl ?_
  refine y_getf o 9 13 61 (by omega) (by rcases c1 with rfl | rfl <;> rfl) (by decide) (by decide) q2_4 (show decode cX9_clear 46 = .ok (.getfield 61, 3) by decide +kernel) (v := .inr (.inr ((o + 17) + 1))) (by rcases c1 with rfl | rfl <;> rfl) ?_
  obtain ⟨σ17, e16, h⟩ := bndO_some h
  refine y_callV (np := 0) (st := []) (as := []) (o + 17) 7 (sh_cRu_clear e16) q1_187 q1_184 q1_185 q1_186 q1_7 (by omega) (by rcases c1 with rfl | rfl <;> rfl) (by decide) rfl (by decide) (by decide +kernel) (by decide) rfl (Nat.le_of_ble_eq_true rfl) (show decode cX9_clear 49 = .ok (.invokevirtual 84, 3) by decide +kernel) rfl ?_
  refine y_aload_n (show decode cX9_clear 52 = .ok (.aload_n 0, 1) by decide +kernel) 0 rfl ?_
  refine y_getf o 9 11 52 (by omega) (by rcases c1 with rfl | rfl <;> rfl) (by decide) (by decide) q1_237 (show decode cX9_clear 53 = .ok (.getfield 52, 3) by decide +kernel) (v := .inr (.inr ((o + 15) + 1))) (by rcases c1 with rfl | rfl <;> rfl) ?_
  refine y_ldc (k := 1000000) (show decode cX9_clear 56 = .ok (.ldc 85, 2) by decide +kernel) q1_188 rfl rfl ?_
  obtain ⟨σ19, e18, h⟩ := bndO_some h
  refine y_callS (np := 2) (st := []) (as := [.inr (.inr ((o + 15) + 1)), .inl 1000000]) (sh_jA_fill_53178 e18) q1_191 q1_189 q1_190 q1_8 (by decide) (by decide +kernel) (by decide) rfl (Nat.le_of_ble_eq_true rfl) (show decode cX9_clear 58 = .ok (.invokestatic 86, 3) by decide +kernel) rfl ?_
  refine y_iconst (show decode cX9_clear 61 = .ok (.iconst 0, 1) by decide +kernel) rfl ?_
  refine y_istore_n (show decode cX9_clear 62 = .ok (.istore_n 1, 1) by decide +kernel) rfl (L1 := [(1, .inl 0), (0, .inr (.inr (o + 1)))]) rfl ?_
  refine y_pick [1, 0] rfl ?_
  refine loopS1_ind (P := fun x20 σ21 => Y E MX9_clear (yRm 1 0 0) (yQf E (150 + 0) 0 0 none (ov τ)) 63 [(0, .inr (.inr (o + 1))), (1, .inl x20)] [] (ov σ21) 150 0 0) (fun k22 hk22 x20 σ21 h => ?_) _ _ _  h
  refine y_iload_n (show decode cX9_clear 63 = .ok (.iload_n 1, 1) by decide +kernel) 1 rfl ?_
  refine y_bipush (show decode cX9_clear 64 = .ok (.bipush 6, 2) by decide +kernel) rfl rfl ?_
  by_cases c23 : x20 ≥ 6
  · rw [if_pos c23] at h
    refine y_icmp_ge_t (tgt := 87) (show decode cX9_clear 66 = .ok (.if_icmp .ge 21, 3) by decide +kernel) rfl c23 ?_
    cases h
    exact y_vret (show decode cX9_clear 87 = .ok (.return_, 1) by decide +kernel) rfl
  · rw [if_neg c23] at h
    refine y_icmp_ge_f (show decode cX9_clear 66 = .ok (.if_icmp .ge 21, 3) by decide +kernel) c23 (by decide) ?_
    refine y_aload_n (show decode cX9_clear 69 = .ok (.aload_n 0, 1) by decide +kernel) 0 rfl ?_
    refine y_getf o 9 11 52 (by omega) (by rcases c1 with rfl | rfl <;> rfl) (by decide) (by decide) q1_237 (show decode cX9_clear 70 = .ok (.getfield 52, 3) by decide +kernel) (v := .inr (.inr ((o + 15) + 1))) (by rcases c1 with rfl | rfl <;> rfl) ?_
    refine y_iload_n (show decode cX9_clear 73 = .ok (.iload_n 1, 1) by decide +kernel) 1 rfl ?_
    refine y_bipush (show decode cX9_clear 74 = .ok (.bipush 6, 2) by decide +kernel) rfl rfl ?_
    obtain ⟨c24, h⟩ := chkI_some h
    refine y_imul (show decode cX9_clear 76 = .ok (.imul, 1) by decide +kernel) c24 ?_
    refine y_iload_n (show decode cX9_clear 77 = .ok (.iload_n 1, 1) by decide +kernel) 1 rfl ?_
    obtain ⟨c25, h⟩ := chkI_some h
    refine y_iadd (show decode cX9_clear 78 = .ok (.iadd, 1) by decide +kernel) c25 ?_
    refine y_iconst (show decode cX9_clear 79 = .ok (.iconst 0, 1) by decide +kernel) rfl ?_
    obtain ⟨c26, h⟩ := chkA_some h
    obtain ⟨σ27, e28, h⟩ := bnd_i h
    refine yo_iast (o + 15) 36 (by omega) (by rcases c1 with rfl | rfl <;> rfl) c26 (ov_set1 e28 (by rcases c1 with rfl | rfl <;> rfl)) (show decode cX9_clear 80 = .ok (.iastore, 1) by decide +kernel) ?_
    obtain ⟨c29, h⟩ := chkI_some h
    refine y_iinc (show decode cX9_clear 81 = .ok (.iinc 1 1, 3) by decide +kernel) 1 rfl c29 rfl (L1 := [(1, .inl (x20 + 1)), (0, .inr (.inr (o + 1)))]) rfl ?_
    refine y_goto (tgt := 63) (show decode cX9_clear 84 = .ok (.goto (-21), 3) by decide +kernel) rfl ?_
    refine y_pick [1, 0] rfl ?_
    exact hk22 _ _ h
abbrev MX9_addWay : yM := (yX9_addWay, cX9_addWay, 4, none)
def cTw_addWay (o : Nat) (a : Int) (b : Int) (c : Int) (σ : ySt) : Option (ySt) :=
  chk (o = 13 ∨ o = 33) <|
  chkI (a * 6) <|
  chkI ((a * 6) + b) <|
  chkA 36 ((a * 6) + b) <|
  bnd (yset σ (o + 15) (((a * 6) + b)).toNat c) fun σ5 =>
  chkI (b * 6) <|
  chkI ((b * 6) + a) <|
  chkA 36 ((b * 6) + a) <|
  bnd (yset σ5 (o + 15) (((b * 6) + a)).toNat c) fun σ10 =>
  chkI ((σ10 o 15) + 1) <|
  bnd (yset σ10 o 15 ((σ10 o 15) + 1)) fun σ13 =>
  some σ13
set_option maxHeartbeats 4000000 in
set_option maxRecDepth 10000 in
theorem sh_cTw_addWay {E : yE} {o : Nat} {a : Int} {b : Int} {c : Int} {σ : ySt} {τ : ySt} (h : cTw_addWay o a b c σ = some τ) : Con E MX9_addWay 0 0 0 [.inr (.inr (o + 1)), .inl a, .inl b, .inl c] 150 (ov σ) none (ov τ) := by
  unfold cTw_addWay at h
  refine Con.ofY (by decide +kernel) (by simp [yWords, yCat]) (fun hok _ => ?_)
  show Y E MX9_addWay (yRm 0 0 0) (yQf E (150 + 0) 0 0 none (ov τ)) 0 [(0, .inr (.inr (o + 1))), (1, .inl a), (2, .inl b), (3, .inl c)] [] (ov σ) 150 0 0
  obtain ⟨c1, h⟩ := chk_some h
  refine y_aload_n (show decode cX9_addWay 0 = .ok (.aload_n 0, 1) by decide +kernel) 0 rfl ?_
  refine y_getf o 9 11 52 (by omega) (by rcases c1 with rfl | rfl <;> rfl) (by decide) (by decide) q1_237 (show decode cX9_addWay 1 = .ok (.getfield 52, 3) by decide +kernel) (v := .inr (.inr ((o + 15) + 1))) (by rcases c1 with rfl | rfl <;> rfl) ?_
  refine y_iload_n (show decode cX9_addWay 4 = .ok (.iload_n 1, 1) by decide +kernel) 1 rfl ?_
  refine y_bipush (show decode cX9_addWay 5 = .ok (.bipush 6, 2) by decide +kernel) rfl rfl ?_
  obtain ⟨c2, h⟩ := chkI_some h
  refine y_imul (show decode cX9_addWay 7 = .ok (.imul, 1) by decide +kernel) c2 ?_
  refine y_iload_n (show decode cX9_addWay 8 = .ok (.iload_n 2, 1) by decide +kernel) 2 rfl ?_
  obtain ⟨c3, h⟩ := chkI_some h
  refine y_iadd (show decode cX9_addWay 9 = .ok (.iadd, 1) by decide +kernel) c3 ?_
  refine y_iload_n (show decode cX9_addWay 10 = .ok (.iload_n 3, 1) by decide +kernel) 3 rfl ?_
  obtain ⟨c4, h⟩ := chkA_some h
  obtain ⟨σ5, e6, h⟩ := bnd_i h
  refine yo_iast (o + 15) 36 (by omega) (by rcases c1 with rfl | rfl <;> rfl) c4 (ov_set1 e6 (by rcases c1 with rfl | rfl <;> rfl)) (show decode cX9_addWay 11 = .ok (.iastore, 1) by decide +kernel) ?_
  refine y_aload_n (show decode cX9_addWay 12 = .ok (.aload_n 0, 1) by decide +kernel) 0 rfl ?_
  refine y_getf o 9 11 52 (by omega) (by rcases c1 with rfl | rfl <;> rfl) (by decide) (by decide) q1_237 (show decode cX9_addWay 13 = .ok (.getfield 52, 3) by decide +kernel) (v := .inr (.inr ((o + 15) + 1))) (by rcases c1 with rfl | rfl <;> rfl) ?_
  refine y_iload_n (show decode cX9_addWay 16 = .ok (.iload_n 2, 1) by decide +kernel) 2 rfl ?_
  refine y_bipush (show decode cX9_addWay 17 = .ok (.bipush 6, 2) by decide +kernel) rfl rfl ?_
  obtain ⟨c7, h⟩ := chkI_some h
  refine y_imul (show decode cX9_addWay 19 = .ok (.imul, 1) by decide +kernel) c7 ?_
  refine y_iload_n (show decode cX9_addWay 20 = .ok (.iload_n 1, 1) by decide +kernel) 1 rfl ?_
  obtain ⟨c8, h⟩ := chkI_some h
  refine y_iadd (show decode cX9_addWay 21 = .ok (.iadd, 1) by decide +kernel) c8 ?_
  refine y_iload_n (show decode cX9_addWay 22 = .ok (.iload_n 3, 1) by decide +kernel) 3 rfl ?_
  obtain ⟨c9, h⟩ := chkA_some h
  obtain ⟨σ10, e11, h⟩ := bnd_i h
  refine yo_iast (o + 15) 36 (by omega) (by rcases c1 with rfl | rfl <;> rfl) c9 (ov_set1 e11 (by rcases c1 with rfl | rfl <;> rfl)) (show decode cX9_addWay 23 = .ok (.iastore, 1) by decide +kernel) ?_
  refine y_aload_n (show decode cX9_addWay 24 = .ok (.aload_n 0, 1) by decide +kernel) 0 rfl ?_
  refine y_dup (show decode cX9_addWay 25 = .ok (.dup, 1) by decide +kernel) rfl ?_
  refine y_getf o 9 15 75 (by omega) (by rcases c1 with rfl | rfl <;> rfl) (by decide) (by decide) q2_12 (show decode cX9_addWay 26 = .ok (.getfield 75, 3) by decide +kernel) (v := .inl (σ10 o 15)) (by rcases c1 with rfl | rfl <;> rfl) ?_
  refine y_iconst (show decode cX9_addWay 29 = .ok (.iconst 1, 1) by decide +kernel) rfl ?_
  obtain ⟨c12, h⟩ := chkI_some h
  refine y_iadd (show decode cX9_addWay 30 = .ok (.iadd, 1) by decide +kernel) c12 ?_
  obtain ⟨σ13, e14, h⟩ := bnd_i h
  refine yo_putI o 9 15 75 (by omega) (by rcases c1 with rfl | rfl <;> rfl) (by decide) (by decide) q2_12 rfl (show decode cX9_addWay 31 = .ok (.putfield 75, 3) by decide +kernel) rfl rfl (ov_set1 e14 (by rcases c1 with rfl | rfl <;> rfl)) ?_
  cases h
  exact y_vret (show decode cX9_addWay 34 = .ok (.return_, 1) by decide +kernel) rfl
abbrev MX9_layLeast : yM := (yX9_layLeast, cX9_layLeast, 6, none)
def cTw_layLeast (N : Nat) (o : Nat) (σ : ySt) : Option (ySt) :=
  chk (o = 13 ∨ o = 33) <|
  loopS1 (fun k4 x2 σ3 =>
    if x2 ≥ (σ (o + 1) 1) then
      some σ3
    else
      loopS2 (fun k9 x6 x7 σ8 =>
        if x7 ≥ (σ (o + 1) 1) then
          chkI (x6 + 1) <|
          k4 (x6 + 1) σ8
        else
          loopS3 (fun k16 x12 x13 x14 σ15 =>
            if x14 ≥ (σ (o + 1) 1) then
              chkI (x13 + 1) <|
              k9 x12 (x13 + 1) σ15
            else
              chkI (x13 * 6) <|
              chkI ((x13 * 6) + x12) <|
              chkA 36 ((x13 * 6) + x12) <|
              chkI (x12 * 6) <|
              chkI ((x12 * 6) + x14) <|
              chkA 36 ((x12 * 6) + x14) <|
              chkI ((σ15 (o + 15) (((x13 * 6) + x12)).toNat) + (σ15 (o + 15) (((x12 * 6) + x14)).toNat)) <|
              chkI (x13 * 6) <|
              chkI ((x13 * 6) + x14) <|
              chkI (x13 * 6) <|
              chkI ((x13 * 6) + x14) <|
              chkA 36 ((x13 * 6) + x14) <|
              bndO (jM_min_7cf53 (σ15 (o + 15) (((x13 * 6) + x14)).toNat) ((σ15 (o + 15) (((x13 * 6) + x12)).toNat) + (σ15 (o + 15) (((x12 * 6) + x14)).toNat)) σ15) fun r32 =>
              chkA 36 ((x13 * 6) + x14) <|
              bnd (yset σ15 (o + 15) (((x13 * 6) + x14)).toNat r32) fun σ34 =>
              chkI (x14 + 1) <|
              k16 x12 x13 (x14 + 1) σ34) N x6 x7 0 σ8) N x2 0 σ3) N 0 σ
set_option maxHeartbeats 4000000 in
set_option maxRecDepth 10000 in
theorem sh_cTw_layLeast {E : yE} {N : Nat} {o : Nat} {σ : ySt} {τ : ySt} (h : cTw_layLeast N o σ = some τ) : Con E MX9_layLeast 1 0 0 [.inr (.inr (o + 1))] 150 (ov σ) none (ov τ) := by
  unfold cTw_layLeast at h
  refine Con.ofY (by decide +kernel) (by simp [yWords, yCat]) (fun hok _ => ?_)
  show Y E MX9_layLeast (yRm 1 0 0) (yQf E (150 + 0) 0 0 none (ov τ)) 0 [(0, .inr (.inr (o + 1)))] [] (ov σ) 150 0 0
  obtain ⟨c1, h⟩ := chk_some h
  refine y_aload_n (show decode cX9_layLeast 0 = .ok (.aload_n 0, 1) by decide +kernel) 0 rfl ?_
  refine y_getf o 9 0 14 (by omega) (by rcases c1 with rfl | rfl <;> rfl) (by decide) (by decide) q1_192 (show decode cX9_layLeast 1 = .ok (.getfield 14, 3) by decide +kernel) (v := .inr (.inr ((o + 1) + 1))) (by rcases c1 with rfl | rfl <;> rfl) ?_
  refine y_getf (o + 1) 5 1 68 (by omega) (by rcases c1 with rfl | rfl <;> rfl) (by decide) (by decide) q1_146 (show decode cX9_layLeast 4 = .ok (.getfield 68, 3) by decide +kernel) (v := .inl (σ (o + 1) 1)) (by rcases c1 with rfl | rfl <;> rfl) ?_
  refine y_istore_n (show decode cX9_layLeast 7 = .ok (.istore_n 1, 1) by decide +kernel) rfl (L1 := [(1, .inl (σ (o + 1) 1)), (0, .inr (.inr (o + 1)))]) rfl ?_
  refine y_iconst (show decode cX9_layLeast 8 = .ok (.iconst 0, 1) by decide +kernel) rfl ?_
  refine y_istore_n (show decode cX9_layLeast 9 = .ok (.istore_n 2, 1) by decide +kernel) rfl (L1 := [(2, .inl 0), (1, .inl (σ (o + 1) 1)), (0, .inr (.inr (o + 1)))]) rfl ?_
  refine y_pick [2, 1, 0] rfl ?_
  refine loopS1_ind (P := fun x2 σ3 => Y E MX9_layLeast (yRm 1 0 0) (yQf E (150 + 0) 0 0 none (ov τ)) 10 [(0, .inr (.inr (o + 1))), (1, .inl (σ (o + 1) 1)), (2, .inl x2)] [] (ov σ3) 150 0 0) (fun k4 hk4 x2 σ3 h => ?_) _ _ _  h
  refine y_iload_n (show decode cX9_layLeast 10 = .ok (.iload_n 2, 1) by decide +kernel) 2 rfl ?_
  refine y_iload_n (show decode cX9_layLeast 11 = .ok (.iload_n 1, 1) by decide +kernel) 1 rfl ?_
  by_cases c5 : x2 ≥ (σ (o + 1) 1)
  · rw [if_pos c5] at h
    refine y_icmp_ge_t (tgt := 104) (show decode cX9_layLeast 12 = .ok (.if_icmp .ge 92, 3) by decide +kernel) rfl c5 ?_
    cases h
    exact y_vret (show decode cX9_layLeast 104 = .ok (.return_, 1) by decide +kernel) rfl
  · rw [if_neg c5] at h
    refine y_icmp_ge_f (show decode cX9_layLeast 12 = .ok (.if_icmp .ge 92, 3) by decide +kernel) c5 (by decide) ?_
    refine y_iconst (show decode cX9_layLeast 15 = .ok (.iconst 0, 1) by decide +kernel) rfl ?_
    refine y_istore_n (show decode cX9_layLeast 16 = .ok (.istore_n 3, 1) by decide +kernel) rfl (L1 := [(3, .inl 0), (0, .inr (.inr (o + 1))), (1, .inl (σ (o + 1) 1)), (2, .inl x2)]) rfl ?_
    refine y_pick [1, 2, 3, 0] rfl ?_
    refine loopS2_ind (P := fun x6 x7 σ8 => Y E MX9_layLeast (yRm 1 0 0) (yQf E (150 + 0) 0 0 none (ov τ)) 17 [(0, .inr (.inr (o + 1))), (1, .inl (σ (o + 1) 1)), (2, .inl x6), (3, .inl x7)] [] (ov σ8) 150 0 0) (fun k9 hk9 x6 x7 σ8 h => ?_) _ _ _ _  h
    refine y_iload_n (show decode cX9_layLeast 17 = .ok (.iload_n 3, 1) by decide +kernel) 3 rfl ?_
    refine y_iload_n (show decode cX9_layLeast 18 = .ok (.iload_n 1, 1) by decide +kernel) 1 rfl ?_
    by_cases c10 : x7 ≥ (σ (o + 1) 1)
    · rw [if_pos c10] at h
      refine y_icmp_ge_t (tgt := 98) (show decode cX9_layLeast 19 = .ok (.if_icmp .ge 79, 3) by decide +kernel) rfl c10 ?_
      obtain ⟨c11, h⟩ := chkI_some h
      refine y_iinc (show decode cX9_layLeast 98 = .ok (.iinc 2 1, 3) by decide +kernel) 2 rfl c11 rfl (L1 := [(2, .inl (x6 + 1)), (0, .inr (.inr (o + 1))), (1, .inl (σ (o + 1) 1)), (3, .inl x7)]) rfl ?_
      refine y_goto (tgt := 10) (show decode cX9_layLeast 101 = .ok (.goto (-91), 3) by decide +kernel) rfl ?_
      refine y_pick [1, 2, 0] rfl ?_
      exact hk4 _ _ h
    · rw [if_neg c10] at h
      refine y_icmp_ge_f (show decode cX9_layLeast 19 = .ok (.if_icmp .ge 79, 3) by decide +kernel) c10 (by decide) ?_
      refine y_iconst (show decode cX9_layLeast 22 = .ok (.iconst 0, 1) by decide +kernel) rfl ?_
      refine y_istore (show decode cX9_layLeast 23 = .ok (.istore 4, 2) by decide +kernel) rfl (L1 := [(4, .inl 0), (0, .inr (.inr (o + 1))), (1, .inl (σ (o + 1) 1)), (2, .inl x6), (3, .inl x7)]) rfl ?_
      refine y_pick [1, 2, 3, 4, 0] rfl ?_
      refine loopS3_ind (P := fun x12 x13 x14 σ15 => Y E MX9_layLeast (yRm 1 0 0) (yQf E (150 + 0) 0 0 none (ov τ)) 25 [(0, .inr (.inr (o + 1))), (1, .inl (σ (o + 1) 1)), (2, .inl x12), (3, .inl x13), (4, .inl x14)] [] (ov σ15) 150 0 0) (fun k16 hk16 x12 x13 x14 σ15 h => ?_) _ _ _ _ _  h
      refine y_iload (show decode cX9_layLeast 25 = .ok (.iload 4, 2) by decide +kernel) 4 rfl ?_
      refine y_iload_n (show decode cX9_layLeast 27 = .ok (.iload_n 1, 1) by decide +kernel) 1 rfl ?_
      by_cases c17 : x14 ≥ (σ (o + 1) 1)
      · rw [if_pos c17] at h
        refine y_icmp_ge_t (tgt := 92) (show decode cX9_layLeast 28 = .ok (.if_icmp .ge 64, 3) by decide +kernel) rfl c17 ?_
        obtain ⟨c18, h⟩ := chkI_some h
        refine y_iinc (show decode cX9_layLeast 92 = .ok (.iinc 3 1, 3) by decide +kernel) 3 rfl c18 rfl (L1 := [(3, .inl (x13 + 1)), (0, .inr (.inr (o + 1))), (1, .inl (σ (o + 1) 1)), (2, .inl x12), (4, .inl x14)]) rfl ?_
        refine y_goto (tgt := 17) (show decode cX9_layLeast 95 = .ok (.goto (-78), 3) by decide +kernel) rfl ?_
        refine y_pick [1, 2, 3, 0] rfl ?_
        exact hk9 _ _ _ h
      · rw [if_neg c17] at h
        refine y_icmp_ge_f (show decode cX9_layLeast 28 = .ok (.if_icmp .ge 64, 3) by decide +kernel) c17 (by decide) ?_
        refine y_aload_n (show decode cX9_layLeast 31 = .ok (.aload_n 0, 1) by decide +kernel) 0 rfl ?_
        refine y_getf o 9 11 52 (by omega) (by rcases c1 with rfl | rfl <;> rfl) (by decide) (by decide) q1_237 (show decode cX9_layLeast 32 = .ok (.getfield 52, 3) by decide +kernel) (v := .inr (.inr ((o + 15) + 1))) (by rcases c1 with rfl | rfl <;> rfl) ?_
        refine y_iload_n (show decode cX9_layLeast 35 = .ok (.iload_n 3, 1) by decide +kernel) 3 rfl ?_
        refine y_bipush (show decode cX9_layLeast 36 = .ok (.bipush 6, 2) by decide +kernel) rfl rfl ?_
        obtain ⟨c19, h⟩ := chkI_some h
        refine y_imul (show decode cX9_layLeast 38 = .ok (.imul, 1) by decide +kernel) c19 ?_
        refine y_iload_n (show decode cX9_layLeast 39 = .ok (.iload_n 2, 1) by decide +kernel) 2 rfl ?_
        obtain ⟨c20, h⟩ := chkI_some h
        refine y_iadd (show decode cX9_layLeast 40 = .ok (.iadd, 1) by decide +kernel) c20 ?_
        obtain ⟨c21, h⟩ := chkA_some h
        refine yo_iald (o + 15) 36 (by omega) (by rcases c1 with rfl | rfl <;> rfl) c21 (ov_at (by rcases c1 with rfl | rfl <;> rfl)) (show decode cX9_layLeast 41 = .ok (.iaload, 1) by decide +kernel) ?_
        refine y_aload_n (show decode cX9_layLeast 42 = .ok (.aload_n 0, 1) by decide +kernel) 0 rfl ?_
        refine y_getf o 9 11 52 (by omega) (by rcases c1 with rfl | rfl <;> rfl) (by decide) (by decide) q1_237 (show decode cX9_layLeast 43 = .ok (.getfield 52, 3) by decide +kernel) (v := .inr (.inr ((o + 15) + 1))) (by rcases c1 with rfl | rfl <;> rfl) ?_
        refine y_iload_n (show decode cX9_layLeast 46 = .ok (.iload_n 2, 1) by decide +kernel) 2 rfl ?_
        refine y_bipush (show decode cX9_layLeast 47 = .ok (.bipush 6, 2) by decide +kernel) rfl rfl ?_
        obtain ⟨c22, h⟩ := chkI_some h
        refine y_imul (show decode cX9_layLeast 49 = .ok (.imul, 1) by decide +kernel) c22 ?_
        refine y_iload (show decode cX9_layLeast 50 = .ok (.iload 4, 2) by decide +kernel) 4 rfl ?_
        obtain ⟨c23, h⟩ := chkI_some h
        refine y_iadd (show decode cX9_layLeast 52 = .ok (.iadd, 1) by decide +kernel) c23 ?_
        obtain ⟨c24, h⟩ := chkA_some h
        refine yo_iald (o + 15) 36 (by omega) (by rcases c1 with rfl | rfl <;> rfl) c24 (ov_at (by rcases c1 with rfl | rfl <;> rfl)) (show decode cX9_layLeast 53 = .ok (.iaload, 1) by decide +kernel) ?_
        obtain ⟨c25, h⟩ := chkI_some h
        refine y_iadd (show decode cX9_layLeast 54 = .ok (.iadd, 1) by decide +kernel) c25 ?_
        refine y_istore (show decode cX9_layLeast 55 = .ok (.istore 5, 2) by decide +kernel) rfl (L1 := [(5, .inl ((σ15 (o + 15) (((x13 * 6) + x12)).toNat) + (σ15 (o + 15) (((x12 * 6) + x14)).toNat))), (0, .inr (.inr (o + 1))), (1, .inl (σ (o + 1) 1)), (2, .inl x12), (3, .inl x13), (4, .inl x14)]) rfl ?_
        refine y_aload_n (show decode cX9_layLeast 57 = .ok (.aload_n 0, 1) by decide +kernel) 1 rfl ?_
        refine y_getf o 9 11 52 (by omega) (by rcases c1 with rfl | rfl <;> rfl) (by decide) (by decide) q1_237 (show decode cX9_layLeast 58 = .ok (.getfield 52, 3) by decide +kernel) (v := .inr (.inr ((o + 15) + 1))) (by rcases c1 with rfl | rfl <;> rfl) ?_
        refine y_iload_n (show decode cX9_layLeast 61 = .ok (.iload_n 3, 1) by decide +kernel) 4 rfl ?_
        refine y_bipush (show decode cX9_layLeast 62 = .ok (.bipush 6, 2) by decide +kernel) rfl rfl ?_
        obtain ⟨c26, h⟩ := chkI_some h
        refine y_imul (show decode cX9_layLeast 64 = .ok (.imul, 1) by decide +kernel) c26 ?_
        refine y_iload (show decode cX9_layLeast 65 = .ok (.iload 4, 2) by decide +kernel) 5 rfl ?_
        obtain ⟨c27, h⟩ := chkI_some h
        refine y_iadd (show decode cX9_layLeast 67 = .ok (.iadd, 1) by decide +kernel) c27 ?_
        refine y_aload_n (show decode cX9_layLeast 68 = .ok (.aload_n 0, 1) by decide +kernel) 1 rfl ?_
        refine y_getf o 9 11 52 (by omega) (by rcases c1 with rfl | rfl <;> rfl) (by decide) (by decide) q1_237 (show decode cX9_layLeast 69 = .ok (.getfield 52, 3) by decide +kernel) (v := .inr (.inr ((o + 15) + 1))) (by rcases c1 with rfl | rfl <;> rfl) ?_
        refine y_iload_n (show decode cX9_layLeast 72 = .ok (.iload_n 3, 1) by decide +kernel) 4 rfl ?_
        refine y_bipush (show decode cX9_layLeast 73 = .ok (.bipush 6, 2) by decide +kernel) rfl rfl ?_
        obtain ⟨c28, h⟩ := chkI_some h
        refine y_imul (show decode cX9_layLeast 75 = .ok (.imul, 1) by decide +kernel) c28 ?_
        refine y_iload (show decode cX9_layLeast 76 = .ok (.iload 4, 2) by decide +kernel) 5 rfl ?_
        obtain ⟨c29, h⟩ := chkI_some h
        refine y_iadd (show decode cX9_layLeast 78 = .ok (.iadd, 1) by decide +kernel) c29 ?_
        obtain ⟨c30, h⟩ := chkA_some h
        refine yo_iald (o + 15) 36 (by omega) (by rcases c1 with rfl | rfl <;> rfl) c30 (ov_at (by rcases c1 with rfl | rfl <;> rfl)) (show decode cX9_layLeast 79 = .ok (.iaload, 1) by decide +kernel) ?_
        refine y_iload (show decode cX9_layLeast 80 = .ok (.iload 5, 2) by decide +kernel) 0 rfl ?_
        obtain ⟨r32, e31, h⟩ := bndO_some h
        refine y_callS (np := 2) (st := [.inl ((x13 * 6) + x14), .inr (.inr ((o + 15) + 1))]) (as := [.inl (σ15 (o + 15) (((x13 * 6) + x14)).toNat), .inl ((σ15 (o + 15) (((x13 * 6) + x12)).toNat) + (σ15 (o + 15) (((x12 * 6) + x14)).toNat))]) (sh_jM_min_7cf53 e31) q2_116 q2_114 q2_115 q1_11 (by decide) (by decide +kernel) (by decide) rfl (Nat.le_of_ble_eq_true rfl) (show decode cX9_layLeast 82 = .ok (.invokestatic 99, 3) by decide +kernel) rfl ?_
        obtain ⟨c33, h⟩ := chkA_some h
        obtain ⟨σ34, e35, h⟩ := bnd_i h
        refine yo_iast (o + 15) 36 (by omega) (by rcases c1 with rfl | rfl <;> rfl) c33 (ov_set1 e35 (by rcases c1 with rfl | rfl <;> rfl)) (show decode cX9_layLeast 85 = .ok (.iastore, 1) by decide +kernel) ?_
        obtain ⟨c36, h⟩ := chkI_some h
        refine y_iinc (show decode cX9_layLeast 86 = .ok (.iinc 4 1, 3) by decide +kernel) 5 rfl c36 rfl (L1 := [(4, .inl (x14 + 1)), (5, .inl ((σ15 (o + 15) (((x13 * 6) + x12)).toNat) + (σ15 (o + 15) (((x12 * 6) + x14)).toNat))), (0, .inr (.inr (o + 1))), (1, .inl (σ (o + 1) 1)), (2, .inl x12), (3, .inl x13)]) rfl ?_
        refine y_goto (tgt := 25) (show decode cX9_layLeast 89 = .ok (.goto (-64), 3) by decide +kernel) rfl ?_
        refine y_pick [2, 3, 4, 5, 0] rfl ?_
        exact hk16 _ _ _ _ h
abbrev MX9_dogsAt : yM := (yX9_dogsAt, cX9_dogsAt, 4, some .int)
def cTw_dogsAt (N : Nat) (o : Nat) (a : Int) (σ : ySt) : Option (Int) :=
  chk (o = 13 ∨ o = 33) <|
  loop2 (fun k4 x2 x3 =>
    if x3 ≥ (σ (o + 5) 1) then
      some x2
    else
      chkA 3 x3 <|
      bnd (fun (y7 : Int) =>
        chkI (x2 + y7) <|
        chkI (x3 + 1) <|
        k4 (x2 + y7) (x3 + 1)) fun j8 =>
      if ¬ (σ (o + 10) (x3).toNat) = a then
        j8 0
      else
        j8 1) N 0 0
set_option maxHeartbeats 4000000 in
set_option maxRecDepth 10000 in
theorem sh_cTw_dogsAt {E : yE} {N : Nat} {o : Nat} {a : Int} {σ : ySt} {ρ : Int} (h : cTw_dogsAt N o a σ = some ρ) : Con E MX9_dogsAt 0 0 0 [.inr (.inr (o + 1)), .inl a] 150 (ov σ) (some (.inl ρ)) (ov σ) := by
  unfold cTw_dogsAt at h
  refine Con.ofY (by decide +kernel) (by simp [yWords, yCat]) (fun hok _ => ?_)
  show Y E MX9_dogsAt (yRm 0 0 0) (yQf E (150 + 0) 0 0 (some (.inl ρ)) (ov σ)) 0 [(0, .inr (.inr (o + 1))), (1, .inl a)] [] (ov σ) 150 0 0
  obtain ⟨c1, h⟩ := chk_some h
  refine y_iconst (show decode cX9_dogsAt 0 = .ok (.iconst 0, 1) by decide +kernel) rfl ?_
  refine y_istore_n (show decode cX9_dogsAt 1 = .ok (.istore_n 2, 1) by decide +kernel) rfl (L1 := [(2, .inl 0), (0, .inr (.inr (o + 1))), (1, .inl a)]) rfl ?_
  refine y_iconst (show decode cX9_dogsAt 2 = .ok (.iconst 0, 1) by decide +kernel) rfl ?_
  refine y_istore_n (show decode cX9_dogsAt 3 = .ok (.istore_n 3, 1) by decide +kernel) rfl (L1 := [(3, .inl 0), (2, .inl 0), (0, .inr (.inr (o + 1))), (1, .inl a)]) rfl ?_
  refine y_pick [2, 3, 1, 0] rfl ?_
  refine loop2_ind (P := fun x2 x3 => Y E MX9_dogsAt (yRm 0 0 0) (yQf E (150 + 0) 0 0 (some (.inl ρ)) (ov σ)) 4 [(0, .inr (.inr (o + 1))), (1, .inl a), (2, .inl x2), (3, .inl x3)] [] (ov σ) 150 0 0) (fun k4 hk4 x2 x3 h => ?_) _ _ _  h
  refine y_iload_n (show decode cX9_dogsAt 4 = .ok (.iload_n 3, 1) by decide +kernel) 3 rfl ?_
  refine y_aload_n (show decode cX9_dogsAt 5 = .ok (.aload_n 0, 1) by decide +kernel) 0 rfl ?_
  refine y_getf o 9 2 23 (by omega) (by rcases c1 with rfl | rfl <;> rfl) (by decide) (by decide) q1_206 (show decode cX9_dogsAt 6 = .ok (.getfield 23, 3) by decide +kernel) (v := .inr (.inr ((o + 5) + 1))) (by rcases c1 with rfl | rfl <;> rfl) ?_
  refine y_getf (o + 5) 5 1 68 (by omega) (by rcases c1 with rfl | rfl <;> rfl) (by decide) (by decide) q1_146 (show decode cX9_dogsAt 9 = .ok (.getfield 68, 3) by decide +kernel) (v := .inl (σ (o + 5) 1)) (by rcases c1 with rfl | rfl <;> rfl) ?_
  by_cases c5 : x3 ≥ (σ (o + 5) 1)
  · rw [if_pos c5] at h
    refine y_icmp_ge_t (tgt := 39) (show decode cX9_dogsAt 12 = .ok (.if_icmp .ge 27, 3) by decide +kernel) rfl c5 ?_
    refine y_iload_n (show decode cX9_dogsAt 39 = .ok (.iload_n 2, 1) by decide +kernel) 2 rfl ?_
    cases h
    exact y_iret (show decode cX9_dogsAt 40 = .ok (.ireturn, 1) by decide +kernel) rfl
  · rw [if_neg c5] at h
    refine y_icmp_ge_f (show decode cX9_dogsAt 12 = .ok (.if_icmp .ge 27, 3) by decide +kernel) c5 (by decide) ?_
    refine y_iload_n (show decode cX9_dogsAt 15 = .ok (.iload_n 2, 1) by decide +kernel) 2 rfl ?_
    refine y_aload_n (show decode cX9_dogsAt 16 = .ok (.aload_n 0, 1) by decide +kernel) 0 rfl ?_
    refine y_getf o 9 6 37 (by omega) (by rcases c1 with rfl | rfl <;> rfl) (by decide) (by decide) q1_220 (show decode cX9_dogsAt 17 = .ok (.getfield 37, 3) by decide +kernel) (v := .inr (.inr ((o + 10) + 1))) (by rcases c1 with rfl | rfl <;> rfl) ?_
    refine y_iload_n (show decode cX9_dogsAt 20 = .ok (.iload_n 3, 1) by decide +kernel) 3 rfl ?_
    obtain ⟨c6, h⟩ := chkA_some h
    refine yo_iald (o + 10) 3 (by omega) (by rcases c1 with rfl | rfl <;> rfl) c6 (ov_at (by rcases c1 with rfl | rfl <;> rfl)) (show decode cX9_dogsAt 21 = .ok (.iaload, 1) by decide +kernel) ?_
    refine y_iload_n (show decode cX9_dogsAt 22 = .ok (.iload_n 1, 1) by decide +kernel) 1 rfl ?_
    refine bnd_j (Q := fun j8 => ∀ (y7 : Int), j8 y7 = some ρ → Y E MX9_dogsAt (yRm 0 0 0) (yQf E (150 + 0) 0 0 (some (.inl ρ)) (ov σ)) 31 [(0, .inr (.inr (o + 1))), (1, .inl a), (3, .inl x3)] [.inl y7, .inl x2] (ov σ) 150 0 0) (fun y7 h => ?_) (fun j8 hj8 h => ?_) h
    · dsimp only at h
      obtain ⟨c9, h⟩ := chkI_some h
      refine y_iadd (show decode cX9_dogsAt 31 = .ok (.iadd, 1) by decide +kernel) c9 ?_
      refine y_istore_n (show decode cX9_dogsAt 32 = .ok (.istore_n 2, 1) by decide +kernel) rfl (L1 := [(2, .inl (x2 + y7)), (0, .inr (.inr (o + 1))), (1, .inl a), (3, .inl x3)]) rfl ?_
      obtain ⟨c10, h⟩ := chkI_some h
      refine y_iinc (show decode cX9_dogsAt 33 = .ok (.iinc 3 1, 3) by decide +kernel) 3 rfl c10 rfl (L1 := [(3, .inl (x3 + 1)), (2, .inl (x2 + y7)), (0, .inr (.inr (o + 1))), (1, .inl a)]) rfl ?_
      refine y_goto (tgt := 4) (show decode cX9_dogsAt 36 = .ok (.goto (-32), 3) by decide +kernel) rfl ?_
      refine y_pick [2, 3, 1, 0] rfl ?_
      exact hk4 _ _ h
    by_cases c11 : ¬ (σ (o + 10) (x3).toNat) = a
    · rw [if_pos c11] at h
      refine y_icmp_ne_t (tgt := 30) (show decode cX9_dogsAt 23 = .ok (.if_icmp .ne 7, 3) by decide +kernel) rfl c11 ?_
      refine y_iconst (show decode cX9_dogsAt 30 = .ok (.iconst 0, 1) by decide +kernel) rfl ?_
      refine y_pick [0, 1, 3] rfl ?_
      exact hj8 _ h
    · rw [if_neg c11] at h
      refine y_icmp_ne_f (show decode cX9_dogsAt 23 = .ok (.if_icmp .ne 7, 3) by decide +kernel) c11 (by decide) ?_
      refine y_iconst (show decode cX9_dogsAt 26 = .ok (.iconst 1, 1) by decide +kernel) rfl ?_
      refine y_goto (tgt := 31) (show decode cX9_dogsAt 27 = .ok (.goto 4, 3) by decide +kernel) rfl ?_
      refine y_pick [0, 1, 3] rfl ?_
      exact hj8 _ h
abbrev MX9_strokesRight : yM := (yX9_strokesRight, cX9_strokesRight, 5, some .int)
def cTw_strokesRight (N : Nat) (o : Nat) (a : Int) (b : Int) (σ : ySt) : Option (Int × ySt) :=
  chk (o = 13 ∨ o = 33) <|
  chkA 6 a <|
  bnd (loopS2 (fun k7 x4 x5 σ6 =>
      if x5 > 8 then
        some (x4, σ6)
      else
        bndO (cTw_dogsAt N o a σ6) fun r10 =>
        bndR (cRu_holds N (o + 17) b x5 a r10 σ6) fun r12 σ13 =>
        bnd (fun (y14 : Int) =>
          chkI (x5 + 1) <|
          k7 y14 (x5 + 1) σ13) fun j15 =>
        if r12 = 0 then
          j15 x4
        else
          j15 (b32or x4 (b32shl 1 x5))) N 0 1 σ) fun j3 =>
  if (σ (o + 7) (a).toNat) = 0 then
    j3
  else
    if b ≤ 0 then
      j3
    else
      some (0, σ)
set_option maxHeartbeats 4000000 in
set_option maxRecDepth 10000 in
theorem sh_cTw_strokesRight {E : yE} {N : Nat} {o : Nat} {a : Int} {b : Int} {σ : ySt} {ρ : Int} {τ : ySt} (h : cTw_strokesRight N o a b σ = some (ρ, τ)) : Con E MX9_strokesRight 2 0 0 [.inr (.inr (o + 1)), .inl a, .inl b] 150 (ov σ) (some (.inl ρ)) (ov τ) := by
  unfold cTw_strokesRight at h
  refine Con.ofY (by decide +kernel) (by simp [yWords, yCat]) (fun hok _ => ?_)
  show Y E MX9_strokesRight (yRm 2 0 0) (yQf E (150 + 0) 0 0 (some (.inl ρ)) (ov τ)) 0 [(0, .inr (.inr (o + 1))), (1, .inl a), (2, .inl b)] [] (ov σ) 150 0 0
  obtain ⟨c1, h⟩ := chk_some h
  refine y_aload_n (show decode cX9_strokesRight 0 = .ok (.aload_n 0, 1) by decide +kernel) 0 rfl ?_
  refine y_getf o 9 3 26 (by omega) (by rcases c1 with rfl | rfl <;> rfl) (by decide) (by decide) q1_209 (show decode cX9_strokesRight 1 = .ok (.getfield 26, 3) by decide +kernel) (v := .inr (.inr ((o + 7) + 1))) (by rcases c1 with rfl | rfl <;> rfl) ?_
  refine y_iload_n (show decode cX9_strokesRight 4 = .ok (.iload_n 1, 1) by decide +kernel) 1 rfl ?_
  obtain ⟨c2, h⟩ := chkA_some h
  refine yo_zald (o + 7) 6 (by omega) (by rcases c1 with rfl | rfl <;> rfl) c2 (ov_at (by rcases c1 with rfl | rfl <;> rfl)) (show decode cX9_strokesRight 5 = .ok (.baload, 1) by decide +kernel) ?_
  refine bnd_j (Q := fun j3 => j3 = some (ρ, τ) → Y E MX9_strokesRight (yRm 2 0 0) (yQf E (150 + 0) 0 0 (some (.inl ρ)) (ov τ)) 15 [(0, .inr (.inr (o + 1))), (1, .inl a), (2, .inl b)] [] (ov σ) 150 0 0) (fun h => ?_) (fun j3 hj3 h => ?_) h
  · refine y_iconst (show decode cX9_strokesRight 15 = .ok (.iconst 0, 1) by decide +kernel) rfl ?_
    refine y_istore_n (show decode cX9_strokesRight 16 = .ok (.istore_n 3, 1) by decide +kernel) rfl (L1 := [(3, .inl 0), (0, .inr (.inr (o + 1))), (1, .inl a), (2, .inl b)]) rfl ?_
    refine y_iconst (show decode cX9_strokesRight 17 = .ok (.iconst 1, 1) by decide +kernel) rfl ?_
    refine y_istore (show decode cX9_strokesRight 18 = .ok (.istore 4, 2) by decide +kernel) rfl (L1 := [(4, .inl 1), (3, .inl 0), (0, .inr (.inr (o + 1))), (1, .inl a), (2, .inl b)]) rfl ?_
    refine y_pick [2, 3, 4, 1, 0] rfl ?_
    refine loopS2_ind (P := fun x4 x5 σ6 => Y E MX9_strokesRight (yRm 2 0 0) (yQf E (150 + 0) 0 0 (some (.inl ρ)) (ov τ)) 20 [(0, .inr (.inr (o + 1))), (1, .inl a), (2, .inl b), (3, .inl x4), (4, .inl x5)] [] (ov σ6) 150 0 0) (fun k7 hk7 x4 x5 σ6 h => ?_) _ _ _ _  h
    refine y_iload (show decode cX9_strokesRight 20 = .ok (.iload 4, 2) by decide +kernel) 4 rfl ?_
    refine y_bipush (show decode cX9_strokesRight 22 = .ok (.bipush 8, 2) by decide +kernel) rfl rfl ?_
    by_cases c8 : x5 > 8
    · rw [if_pos c8] at h
      refine y_icmp_gt_t (tgt := 59) (show decode cX9_strokesRight 24 = .ok (.if_icmp .gt 35, 3) by decide +kernel) rfl c8 ?_
      refine y_iload_n (show decode cX9_strokesRight 59 = .ok (.iload_n 3, 1) by decide +kernel) 3 rfl ?_
      cases h
      exact y_iret (show decode cX9_strokesRight 60 = .ok (.ireturn, 1) by decide +kernel) rfl
    · rw [if_neg c8] at h
      refine y_icmp_gt_f (show decode cX9_strokesRight 24 = .ok (.if_icmp .gt 35, 3) by decide +kernel) c8 (by decide) ?_
      refine y_aload_n (show decode cX9_strokesRight 27 = .ok (.aload_n 0, 1) by decide +kernel) 0 rfl ?_
      refine y_getf o 9 13 61 (by omega) (by rcases c1 with rfl | rfl <;> rfl) (by decide) (by decide) q2_4 (show decode cX9_strokesRight 28 = .ok (.getfield 61, 3) by decide +kernel) (v := .inr (.inr ((o + 17) + 1))) (by rcases c1 with rfl | rfl <;> rfl) ?_
      refine y_iload_n (show decode cX9_strokesRight 31 = .ok (.iload_n 2, 1) by decide +kernel) 2 rfl ?_
      refine y_iload (show decode cX9_strokesRight 32 = .ok (.iload 4, 2) by decide +kernel) 4 rfl ?_
      refine y_iload_n (show decode cX9_strokesRight 34 = .ok (.iload_n 1, 1) by decide +kernel) 1 rfl ?_
      refine y_aload_n (show decode cX9_strokesRight 35 = .ok (.aload_n 0, 1) by decide +kernel) 0 rfl ?_
      refine y_iload_n (show decode cX9_strokesRight 36 = .ok (.iload_n 1, 1) by decide +kernel) 1 rfl ?_
      obtain ⟨r10, e9, h⟩ := bndO_some h
      refine y_callV (np := 1) (st := [.inl a, .inl x5, .inl b, .inr (.inr ((o + 17) + 1))]) (as := [.inl a]) o 9 (sh_cTw_dogsAt e9) q2_124 q2_121 q2_123 qs1_2 q1_5 (by omega) (by rcases c1 with rfl | rfl <;> rfl) (by decide) rfl (by decide) (by decide +kernel) (by decide) rfl (Nat.le_of_ble_eq_true rfl) (show decode cX9_strokesRight 37 = .ok (.invokevirtual 104, 3) by decide +kernel) rfl ?_
      obtain ⟨r12, σ13, e11, h⟩ := bndR_some h
      refine y_callV (np := 4) (st := []) (as := [.inl b, .inl x5, .inl a, .inl r10]) (o + 17) 7 (sh_cRu_holds e11) q2_128 q2_125 q2_126 q2_127 q1_7 (by omega) (by rcases c1 with rfl | rfl <;> rfl) (by decide) rfl (by decide) (by decide +kernel) (by decide) rfl (Nat.le_of_ble_eq_true rfl) (show decode cX9_strokesRight 40 = .ok (.invokevirtual 108, 3) by decide +kernel) rfl ?_
      refine bnd_j (Q := fun j15 => ∀ (y14 : Int), j15 y14 = some (ρ, τ) → Y E MX9_strokesRight (yRm 2 0 0) (yQf E (150 + 0) 0 0 (some (.inl ρ)) (ov τ)) 53 [(0, .inr (.inr (o + 1))), (1, .inl a), (2, .inl b), (3, .inl y14), (4, .inl x5)] [] (ov σ13) 150 0 0) (fun y14 h => ?_) (fun j15 hj15 h => ?_) h
      · dsimp only at h
        obtain ⟨c16, h⟩ := chkI_some h
        refine y_iinc (show decode cX9_strokesRight 53 = .ok (.iinc 4 1, 3) by decide +kernel) 4 rfl c16 rfl (L1 := [(4, .inl (x5 + 1)), (0, .inr (.inr (o + 1))), (1, .inl a), (2, .inl b), (3, .inl y14)]) rfl ?_
        refine y_goto (tgt := 20) (show decode cX9_strokesRight 56 = .ok (.goto (-36), 3) by decide +kernel) rfl ?_
        refine y_pick [1, 2, 3, 4, 0] rfl ?_
        exact hk7 _ _ _ h
      by_cases c17 : r12 = 0
      · rw [if_pos c17] at h
        refine y_if_eq_t (tgt := 53) (show decode cX9_strokesRight 43 = .ok (.ifCond .eq 10, 3) by decide +kernel) rfl c17 ?_
        refine y_pick [0, 1, 2, 3, 4] rfl ?_
        exact hj15 _ h
      · rw [if_neg c17] at h
        refine y_if_eq_f (show decode cX9_strokesRight 43 = .ok (.ifCond .eq 10, 3) by decide +kernel) c17 (by decide) ?_
        refine y_iload_n (show decode cX9_strokesRight 46 = .ok (.iload_n 3, 1) by decide +kernel) 3 rfl ?_
        refine y_iconst (show decode cX9_strokesRight 47 = .ok (.iconst 1, 1) by decide +kernel) rfl ?_
        refine y_iload (show decode cX9_strokesRight 48 = .ok (.iload 4, 2) by decide +kernel) 4 rfl ?_
        refine y_ishl (show decode cX9_strokesRight 50 = .ok (.ishl, 1) by decide +kernel) ?_
        refine y_ior (show decode cX9_strokesRight 51 = .ok (.ior, 1) by decide +kernel) ?_
        refine y_istore_n (show decode cX9_strokesRight 52 = .ok (.istore_n 3, 1) by decide +kernel) rfl (L1 := [(3, .inl (b32or x4 (b32shl 1 x5))), (0, .inr (.inr (o + 1))), (1, .inl a), (2, .inl b), (4, .inl x5)]) rfl ?_
        refine y_pick [1, 2, 3, 0, 4] rfl ?_
        exact hj15 _ h
  by_cases c18 : (σ (o + 7) (a).toNat) = 0
  · rw [if_pos c18] at h
    refine y_if_eq_t (tgt := 15) (show decode cX9_strokesRight 6 = .ok (.ifCond .eq 9, 3) by decide +kernel) rfl c18 ?_
    refine y_pick [0, 1, 2] rfl ?_
    exact hj3 h
  · rw [if_neg c18] at h
    refine y_if_eq_f (show decode cX9_strokesRight 6 = .ok (.ifCond .eq 9, 3) by decide +kernel) c18 (by decide) ?_
    refine y_iload_n (show decode cX9_strokesRight 9 = .ok (.iload_n 2, 1) by decide +kernel) 2 rfl ?_
    by_cases c19 : b ≤ 0
    · rw [if_pos c19] at h
      refine y_if_le_t (tgt := 15) (show decode cX9_strokesRight 10 = .ok (.ifCond .le 5, 3) by decide +kernel) rfl c19 ?_
      refine y_pick [0, 1, 2] rfl ?_
      exact hj3 h
    · rw [if_neg c19] at h
      refine y_if_le_f (show decode cX9_strokesRight 10 = .ok (.ifCond .le 5, 3) by decide +kernel) c19 (by decide) ?_
      refine y_iconst (show decode cX9_strokesRight 13 = .ok (.iconst 0, 1) by decide +kernel) rfl ?_
      cases h
      exact y_iret (show decode cX9_strokesRight 14 = .ok (.ireturn, 1) by decide +kernel) rfl
abbrev MX9_finish : yM := (yX9_finish, cX9_finish, 3, none)
def cTw_finish (N : Nat) (o : Nat) (σ : ySt) : Option (ySt) :=
  chk (o = 13 ∨ o = 33) <|
  bndO (cTw_layLeast N o σ) fun σ3 =>
  loopS1 (fun k6 x4 σ5 =>
    if x4 ≥ (σ5 (o + 1) 1) then
      some σ5
    else
      loopS2 (fun k11 x8 x9 σ10 =>
        if x9 ≥ 6 then
          chkI (x8 + 1) <|
          k6 (x8 + 1) σ10
        else
          chkI (x8 * 6) <|
          chkI ((x8 * 6) + x9) <|
          bndR (cTw_strokesRight N o x8 x9 σ10) fun r17 σ18 =>
          chkA 36 ((x8 * 6) + x9) <|
          bnd (yset σ18 (o + 16) (((x8 * 6) + x9)).toNat r17) fun σ20 =>
          chkI (x9 + 1) <|
          k11 x8 (x9 + 1) σ20) N x4 0 σ5) N 0 σ3
set_option maxHeartbeats 4000000 in
set_option maxRecDepth 10000 in
theorem sh_cTw_finish {E : yE} {N : Nat} {o : Nat} {σ : ySt} {τ : ySt} (h : cTw_finish N o σ = some τ) : Con E MX9_finish 3 0 0 [.inr (.inr (o + 1))] 150 (ov σ) none (ov τ) := by
  unfold cTw_finish at h
  refine Con.ofY (by decide +kernel) (by simp [yWords, yCat]) (fun hok _ => ?_)
  show Y E MX9_finish (yRm 3 0 0) (yQf E (150 + 0) 0 0 none (ov τ)) 0 [(0, .inr (.inr (o + 1)))] [] (ov σ) 150 0 0
  obtain ⟨c1, h⟩ := chk_some h
  refine y_aload_n (show decode cX9_finish 0 = .ok (.aload_n 0, 1) by decide +kernel) 0 rfl ?_
  obtain ⟨σ3, e2, h⟩ := bndO_some h
  refine y_callV (np := 0) (st := []) (as := []) o 9 (sh_cTw_layLeast e2) q2_113 q2_110 q2_112 qs1_0 q1_5 (by omega) (by rcases c1 with rfl | rfl <;> rfl) (by decide) rfl (by decide) (by decide +kernel) (by decide) rfl (Nat.le_of_ble_eq_true rfl) (show decode cX9_finish 1 = .ok (.invokevirtual 92, 3) by decide +kernel) rfl ?_
  refine y_iconst (show decode cX9_finish 4 = .ok (.iconst 0, 1) by decide +kernel) rfl ?_
  refine y_istore_n (show decode cX9_finish 5 = .ok (.istore_n 1, 1) by decide +kernel) rfl (L1 := [(1, .inl 0), (0, .inr (.inr (o + 1)))]) rfl ?_
  refine y_pick [1, 0] rfl ?_
  refine loopS1_ind (P := fun x4 σ5 => Y E MX9_finish (yRm 3 0 0) (yQf E (150 + 0) 0 0 none (ov τ)) 6 [(0, .inr (.inr (o + 1))), (1, .inl x4)] [] (ov σ5) 150 0 0) (fun k6 hk6 x4 σ5 h => ?_) _ _ _  h
  refine y_iload_n (show decode cX9_finish 6 = .ok (.iload_n 1, 1) by decide +kernel) 1 rfl ?_
  refine y_aload_n (show decode cX9_finish 7 = .ok (.aload_n 0, 1) by decide +kernel) 0 rfl ?_
  refine y_getf o 9 0 14 (by omega) (by rcases c1 with rfl | rfl <;> rfl) (by decide) (by decide) q1_192 (show decode cX9_finish 8 = .ok (.getfield 14, 3) by decide +kernel) (v := .inr (.inr ((o + 1) + 1))) (by rcases c1 with rfl | rfl <;> rfl) ?_
  refine y_getf (o + 1) 5 1 68 (by omega) (by rcases c1 with rfl | rfl <;> rfl) (by decide) (by decide) q1_146 (show decode cX9_finish 11 = .ok (.getfield 68, 3) by decide +kernel) (v := .inl (σ5 (o + 1) 1)) (by rcases c1 with rfl | rfl <;> rfl) ?_
  by_cases c7 : x4 ≥ (σ5 (o + 1) 1)
  · rw [if_pos c7] at h
    refine y_icmp_ge_t (tgt := 54) (show decode cX9_finish 14 = .ok (.if_icmp .ge 40, 3) by decide +kernel) rfl c7 ?_
    cases h
    exact y_vret (show decode cX9_finish 54 = .ok (.return_, 1) by decide +kernel) rfl
  · rw [if_neg c7] at h
    refine y_icmp_ge_f (show decode cX9_finish 14 = .ok (.if_icmp .ge 40, 3) by decide +kernel) c7 (by decide) ?_
    refine y_iconst (show decode cX9_finish 17 = .ok (.iconst 0, 1) by decide +kernel) rfl ?_
    refine y_istore_n (show decode cX9_finish 18 = .ok (.istore_n 2, 1) by decide +kernel) rfl (L1 := [(2, .inl 0), (0, .inr (.inr (o + 1))), (1, .inl x4)]) rfl ?_
    refine y_pick [1, 2, 0] rfl ?_
    refine loopS2_ind (P := fun x8 x9 σ10 => Y E MX9_finish (yRm 3 0 0) (yQf E (150 + 0) 0 0 none (ov τ)) 19 [(0, .inr (.inr (o + 1))), (1, .inl x8), (2, .inl x9)] [] (ov σ10) 150 0 0) (fun k11 hk11 x8 x9 σ10 h => ?_) _ _ _ _  h
    refine y_iload_n (show decode cX9_finish 19 = .ok (.iload_n 2, 1) by decide +kernel) 2 rfl ?_
    refine y_bipush (show decode cX9_finish 20 = .ok (.bipush 6, 2) by decide +kernel) rfl rfl ?_
    by_cases c12 : x9 ≥ 6
    · rw [if_pos c12] at h
      refine y_icmp_ge_t (tgt := 48) (show decode cX9_finish 22 = .ok (.if_icmp .ge 26, 3) by decide +kernel) rfl c12 ?_
      obtain ⟨c13, h⟩ := chkI_some h
      refine y_iinc (show decode cX9_finish 48 = .ok (.iinc 1 1, 3) by decide +kernel) 1 rfl c13 rfl (L1 := [(1, .inl (x8 + 1)), (0, .inr (.inr (o + 1))), (2, .inl x9)]) rfl ?_
      refine y_goto (tgt := 6) (show decode cX9_finish 51 = .ok (.goto (-45), 3) by decide +kernel) rfl ?_
      refine y_pick [1, 0] rfl ?_
      exact hk6 _ _ h
    · rw [if_neg c12] at h
      refine y_icmp_ge_f (show decode cX9_finish 22 = .ok (.if_icmp .ge 26, 3) by decide +kernel) c12 (by decide) ?_
      refine y_aload_n (show decode cX9_finish 25 = .ok (.aload_n 0, 1) by decide +kernel) 0 rfl ?_
      refine y_getf o 9 12 55 (by omega) (by rcases c1 with rfl | rfl <;> rfl) (by decide) (by decide) q2_2 (show decode cX9_finish 26 = .ok (.getfield 55, 3) by decide +kernel) (v := .inr (.inr ((o + 16) + 1))) (by rcases c1 with rfl | rfl <;> rfl) ?_
      refine y_iload_n (show decode cX9_finish 29 = .ok (.iload_n 1, 1) by decide +kernel) 1 rfl ?_
      refine y_bipush (show decode cX9_finish 30 = .ok (.bipush 6, 2) by decide +kernel) rfl rfl ?_
      obtain ⟨c14, h⟩ := chkI_some h
      refine y_imul (show decode cX9_finish 32 = .ok (.imul, 1) by decide +kernel) c14 ?_
      refine y_iload_n (show decode cX9_finish 33 = .ok (.iload_n 2, 1) by decide +kernel) 2 rfl ?_
      obtain ⟨c15, h⟩ := chkI_some h
      refine y_iadd (show decode cX9_finish 34 = .ok (.iadd, 1) by decide +kernel) c15 ?_
      refine y_aload_n (show decode cX9_finish 35 = .ok (.aload_n 0, 1) by decide +kernel) 0 rfl ?_
      refine y_iload_n (show decode cX9_finish 36 = .ok (.iload_n 1, 1) by decide +kernel) 1 rfl ?_
      refine y_iload_n (show decode cX9_finish 37 = .ok (.iload_n 2, 1) by decide +kernel) 2 rfl ?_
      obtain ⟨r17, σ18, e16, h⟩ := bndR_some h
      refine y_callV (np := 2) (st := [.inl ((x8 * 6) + x9), .inr (.inr ((o + 16) + 1))]) (as := [.inl x8, .inl x9]) o 9 (sh_cTw_strokesRight e16) q2_120 q2_117 q2_119 qs1_1 q1_5 (by omega) (by rcases c1 with rfl | rfl <;> rfl) (by decide) rfl (by decide) (by decide +kernel) (by decide) rfl (Nat.le_of_ble_eq_true rfl) (show decode cX9_finish 38 = .ok (.invokevirtual 95, 3) by decide +kernel) rfl ?_
      obtain ⟨c19, h⟩ := chkA_some h
      obtain ⟨σ20, e21, h⟩ := bnd_i h
      refine yo_iast (o + 16) 36 (by omega) (by rcases c1 with rfl | rfl <;> rfl) c19 (ov_set1 e21 (by rcases c1 with rfl | rfl <;> rfl)) (show decode cX9_finish 41 = .ok (.iastore, 1) by decide +kernel) ?_
      obtain ⟨c22, h⟩ := chkI_some h
      refine y_iinc (show decode cX9_finish 42 = .ok (.iinc 2 1, 3) by decide +kernel) 2 rfl c22 rfl (L1 := [(2, .inl (x9 + 1)), (0, .inr (.inr (o + 1))), (1, .inl x8)]) rfl ?_
      refine y_goto (tgt := 19) (show decode cX9_finish 45 = .ok (.goto (-26), 3) by decide +kernel) rfl ?_
      refine y_pick [1, 2, 0] rfl ?_
      exact hk11 _ _ _ h
