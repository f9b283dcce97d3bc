abbrev MX5_isFull : yM := (yX5_isFull, cX5_isFull, 1, some .boolean)
def cNm_isFull (o : Nat) (σ : ySt) : Option (Int) :=
  chk (o = 14 ∨ o = 16 ∨ o = 18 ∨ o = 34 ∨ o = 36 ∨ o = 38) <|
  if (σ o 1) < (yKd (o + 1)).2 then
    some 0
  else
    some 1
set_option maxHeartbeats 4000000 in
set_option maxRecDepth 10000 in
theorem sh_cNm_isFull {E : yE} {o : Nat} {σ : ySt} {ρ : Int} (h : cNm_isFull o σ = some ρ) : Con E MX5_isFull 0 0 0 [.inr (.inr (o + 1))] 150 (ov σ) (some (.inl ρ)) (ov σ) := by
  unfold cNm_isFull at h
  refine Con.ofY (by decide) (by simp [yWords, yCat]) (fun hok _ => ?_)
  show Y E MX5_isFull (yRm 0 0 0) (yQf E (150 + 0) 0 0 (some (.inl ρ)) (ov σ)) 0 [(0, .inr (.inr (o + 1)))] [] (ov σ) 150 0 0
  obtain ⟨c1, h⟩ := chk_some h
  refine y_aload_n (show decode cX5_isFull 0 = .ok (.aload_n 0, 1) by decide +kernel) 0 rfl ?_
  refine y_getf o 5 1 15 (by omega) (by rcases c1 with rfl | rfl | rfl | rfl | rfl | rfl <;> rfl) (by decide) (by decide) q1_145 (show decode cX5_isFull 1 = .ok (.getfield 15, 3) by decide +kernel) (v := .inl (σ o 1)) (by rcases c1 with rfl | rfl | rfl | rfl | rfl | rfl <;> rfl) ?_
  refine y_aload_n (show decode cX5_isFull 4 = .ok (.aload_n 0, 1) by decide +kernel) 0 rfl ?_
  refine y_getf o 5 0 9 (by omega) (by rcases c1 with rfl | rfl | rfl | rfl | rfl | rfl <;> rfl) (by decide) (by decide) q1_144 (show decode cX5_isFull 5 = .ok (.getfield 9, 3) by decide +kernel) (v := .inr (.inr ((o + 1) + 1))) (by rcases c1 with rfl | rfl | rfl | rfl | rfl | rfl <;> rfl) ?_
  refine y_alen (o + 1) 21 (yKd (o + 1)).2 (by omega) (by rcases c1 with rfl | rfl | rfl | rfl | rfl | rfl <;> rfl) (by decide) (by decide) (yLen_ok (by omega)) (show decode cX5_isFull 8 = .ok (.arraylength, 1) by decide +kernel) ?_
  by_cases c2 : (σ o 1) < (yKd (o + 1)).2
  · rw [if_pos c2] at h
    refine y_icmp_lt_t (tgt := 16) (show decode cX5_isFull 9 = .ok (.if_icmp .lt 7, 3) by decide +kernel) rfl c2 ?_
    refine y_iconst (show decode cX5_isFull 16 = .ok (.iconst 0, 1) by decide +kernel) rfl ?_
    cases h
    exact y_zret (show decode cX5_isFull 17 = .ok (.ireturn, 1) by decide +kernel) rfl (Or.inl rfl)
  · rw [if_neg c2] at h
    refine y_icmp_lt_f (show decode cX5_isFull 9 = .ok (.if_icmp .lt 7, 3) by decide +kernel) c2 (by decide) ?_
    refine y_iconst (show decode cX5_isFull 12 = .ok (.iconst 1, 1) by decide +kernel) rfl ?_
    refine y_goto (tgt := 17) (show decode cX5_isFull 13 = .ok (.goto 4, 3) by decide +kernel) rfl ?_
    cases h
    exact y_zret (show decode cX5_isFull 17 = .ok (.ireturn, 1) by decide +kernel) rfl (Or.inr rfl)
abbrev MX5_find : yM := (yX5_find, cX5_find, 4, some .int)
def cNm_find (N : Nat) (o : Nat) (a : Int) (σ : ySt) : Option (Int) :=
  chk (o = 14 ∨ o = 16 ∨ o = 18 ∨ o = 34 ∨ o = 36 ∨ o = 38) <|
  loop1 (fun k3 x2 =>
    if x2 ≥ (σ o 1) then
      some (-1)
    else
      chkA (yKd (o + 1)).2 x2 <|
      if ¬ (blcmp (σ (o + 1) (x2).toNat) a) = 0 then
        chkI (x2 + 1) <|
        k3 (x2 + 1)
      else
        some x2) N 0
set_option maxHeartbeats 4000000 in
set_option maxRecDepth 10000 in
theorem sh_cNm_find {E : yE} {N : Nat} {o : Nat} {a : Int} {σ : ySt} {ρ : Int} (h : cNm_find N o a σ = some ρ) : Con E MX5_find 0 0 0 [.inr (.inr (o + 1)), .inr (.inl a)] 150 (ov σ) (some (.inl ρ)) (ov σ) := by
  unfold cNm_find at h
  refine Con.ofY (by decide) (by simp [yWords, yCat]) (fun hok _ => ?_)
  show Y E MX5_find (yRm 0 0 0) (yQf E (150 + 0) 0 0 (some (.inl ρ)) (ov σ)) 0 [(0, .inr (.inr (o + 1))), (1, .inr (.inl a))] [] (ov σ) 150 0 0
  obtain ⟨c1, h⟩ := chk_some h
  refine y_iconst (show decode cX5_find 0 = .ok (.iconst 0, 1) by decide +kernel) rfl ?_
  refine y_istore_n (show decode cX5_find 1 = .ok (.istore_n 3, 1) by decide +kernel) rfl (L1 := [(3, .inl 0), (0, .inr (.inr (o + 1))), (1, .inr (.inl a))]) rfl ?_
  refine y_pick [1, 2, 0] rfl ?_
  refine loop1_ind (P := fun x2 => Y E MX5_find (yRm 0 0 0) (yQf E (150 + 0) 0 0 (some (.inl ρ)) (ov σ)) 2 [(0, .inr (.inr (o + 1))), (1, .inr (.inl a)), (3, .inl x2)] [] (ov σ) 150 0 0) (fun k3 hk3 x2 h => ?_) _ _  h
  refine y_iload_n (show decode cX5_find 2 = .ok (.iload_n 3, 1) by decide +kernel) 2 rfl ?_
  refine y_aload_n (show decode cX5_find 3 = .ok (.aload_n 0, 1) by decide +kernel) 0 rfl ?_
  refine y_getf o 5 1 15 (by omega) (by rcases c1 with rfl | rfl | rfl | rfl | rfl | rfl <;> rfl) (by decide) (by decide) q1_145 (show decode cX5_find 4 = .ok (.getfield 15, 3) by decide +kernel) (v := .inl (σ o 1)) (by rcases c1 with rfl | rfl | rfl | rfl | rfl | rfl <;> rfl) ?_
  by_cases c4 : x2 ≥ (σ o 1)
  · rw [if_pos c4] at h
    refine y_icmp_ge_t (tgt := 29) (show decode cX5_find 7 = .ok (.if_icmp .ge 22, 3) by decide +kernel) rfl c4 ?_
    refine y_iconst (show decode cX5_find 29 = .ok (.iconst (-1), 1) by decide +kernel) rfl ?_
    cases h
    exact y_iret (show decode cX5_find 30 = .ok (.ireturn, 1) by decide +kernel) rfl
  · rw [if_neg c4] at h
    refine y_icmp_ge_f (show decode cX5_find 7 = .ok (.if_icmp .ge 22, 3) by decide +kernel) c4 (by decide) ?_
    refine y_aload_n (show decode cX5_find 10 = .ok (.aload_n 0, 1) by decide +kernel) 0 rfl ?_
    refine y_getf o 5 0 9 (by omega) (by rcases c1 with rfl | rfl | rfl | rfl | rfl | rfl <;> rfl) (by decide) (by decide) q1_144 (show decode cX5_find 11 = .ok (.getfield 9, 3) by decide +kernel) (v := .inr (.inr ((o + 1) + 1))) (by rcases c1 with rfl | rfl | rfl | rfl | rfl | rfl <;> rfl) ?_
    refine y_iload_n (show decode cX5_find 14 = .ok (.iload_n 3, 1) by decide +kernel) 2 rfl ?_
    obtain ⟨c5, h⟩ := chkA_some h
    refine yo_lald (o + 1) (yKd (o + 1)).2 (by omega) (by rcases c1 with rfl | rfl | rfl | rfl | rfl | rfl <;> rfl) c5 (ov_at (by rcases c1 with rfl | rfl | rfl | rfl | rfl | rfl <;> rfl)) (show decode cX5_find 15 = .ok (.laload, 1) by decide +kernel) ?_
    refine y_lload_n (show decode cX5_find 16 = .ok (.lload_n 1, 1) by decide +kernel) 1 rfl ?_
    refine y_lcmp (show decode cX5_find 17 = .ok (.lcmp, 1) by decide +kernel) ?_
    by_cases c6 : ¬ (blcmp (σ (o + 1) (x2).toNat) a) = 0
    · rw [if_pos c6] at h
      refine y_if_ne_t (tgt := 23) (show decode cX5_find 18 = .ok (.ifCond .ne 5, 3) by decide +kernel) rfl c6 ?_
      obtain ⟨c7, h⟩ := chkI_some h
      refine y_iinc (show decode cX5_find 23 = .ok (.iinc 3 1, 3) by decide +kernel) 2 rfl c7 rfl (L1 := [(3, .inl (x2 + 1)), (0, .inr (.inr (o + 1))), (1, .inr (.inl a))]) rfl ?_
      refine y_goto (tgt := 2) (show decode cX5_find 26 = .ok (.goto (-24), 3) by decide +kernel) rfl ?_
      refine y_pick [1, 2, 0] rfl ?_
      exact hk3 _ h
    · rw [if_neg c6] at h
      refine y_if_ne_f (show decode cX5_find 18 = .ok (.ifCond .ne 5, 3) by decide +kernel) c6 (by decide) ?_
      refine y_iload_n (show decode cX5_find 21 = .ok (.iload_n 3, 1) by decide +kernel) 2 rfl ?_
      cases h
      exact y_iret (show decode cX5_find 22 = .ok (.ireturn, 1) by decide +kernel) rfl
abbrev MX5_add : yM := (yX5_add, cX5_add, 3, some .int)
def cNm_add (o : Nat) (a : Int) (σ : ySt) : Option (Int × ySt) :=
  chk (o = 14 ∨ o = 16 ∨ o = 18 ∨ o = 34 ∨ o = 36 ∨ o = 38) <|
  bndO (cNm_isFull o σ) fun r3 =>
  if r3 = 0 then
    chkA (yKd (o + 1)).2 (σ o 1) <|
    bnd (yset σ (o + 1) ((σ o 1)).toNat a) fun σ6 =>
    chkI ((σ6 o 1) + 1) <|
    bnd (yset σ6 o 1 ((σ6 o 1) + 1)) fun σ9 =>
    chkI ((σ9 o 1) - 1) <|
    some (((σ9 o 1) - 1), σ9)
  else
    some ((-1), σ)
set_option maxHeartbeats 4000000 in
set_option maxRecDepth 10000 in
theorem sh_cNm_add {E : yE} {o : Nat} {a : Int} {σ : ySt} {ρ : Int} {τ : ySt} (h : cNm_add o a σ = some (ρ, τ)) : Con E MX5_add 1 0 0 [.inr (.inr (o + 1)), .inr (.inl a)] 150 (ov σ) (some (.inl ρ)) (ov τ) := by
  unfold cNm_add at h
  refine Con.ofY (by decide) (by simp [yWords, yCat]) (fun hok _ => ?_)
  show Y E MX5_add (yRm 1 0 0) (yQf E (150 + 0) 0 0 (some (.inl ρ)) (ov τ)) 0 [(0, .inr (.inr (o + 1))), (1, .inr (.inl a))] [] (ov σ) 150 0 0
  obtain ⟨c1, h⟩ := chk_some h
  refine y_aload_n (show decode cX5_add 0 = .ok (.aload_n 0, 1) by decide +kernel) 0 rfl ?_
  obtain ⟨r3, e2, h⟩ := bndO_some h
  refine y_callV (np := 0) (st := []) (as := []) o 5 (sh_cNm_isFull e2) q3_228 q4_15 q3_226 q3_227 q1_6 (by omega) (by rcases c1 with rfl | rfl | rfl | rfl | rfl | rfl <;> rfl) (by decide) rfl (by decide) (by decide +kernel) (by decide) rfl (by decide) (show decode cX5_add 1 = .ok (.invokevirtual 19, 3) by decide +kernel) rfl ?_
  by_cases c4 : r3 = 0
  · rw [if_pos c4] at h
    refine y_if_eq_t (tgt := 9) (show decode cX5_add 4 = .ok (.ifCond .eq 5, 3) by decide +kernel) rfl c4 ?_
    refine y_aload_n (show decode cX5_add 9 = .ok (.aload_n 0, 1) by decide +kernel) 0 rfl ?_
    refine y_getf o 5 0 9 (by omega) (by rcases c1 with rfl | rfl | rfl | rfl | rfl | rfl <;> rfl) (by decide) (by decide) q1_144 (show decode cX5_add 10 = .ok (.getfield 9, 3) by decide +kernel) (v := .inr (.inr ((o + 1) + 1))) (by rcases c1 with rfl | rfl | rfl | rfl | rfl | rfl <;> rfl) ?_
    refine y_aload_n (show decode cX5_add 13 = .ok (.aload_n 0, 1) by decide +kernel) 0 rfl ?_
    refine y_getf o 5 1 15 (by omega) (by rcases c1 with rfl | rfl | rfl | rfl | rfl | rfl <;> rfl) (by decide) (by decide) q1_145 (show decode cX5_add 14 = .ok (.getfield 15, 3) by decide +kernel) (v := .inl (σ o 1)) (by rcases c1 with rfl | rfl | rfl | rfl | rfl | rfl <;> rfl) ?_
    refine y_lload_n (show decode cX5_add 17 = .ok (.lload_n 1, 1) by decide +kernel) 1 rfl ?_
    obtain ⟨c5, h⟩ := chkA_some h
    obtain ⟨σ6, e7, h⟩ := bnd_i h
    refine yo_last (o + 1) (yKd (o + 1)).2 (by omega) (by rcases c1 with rfl | rfl | rfl | rfl | rfl | rfl <;> rfl) c5 (ov_set1 e7 (by rcases c1 with rfl | rfl | rfl | rfl | rfl | rfl <;> rfl)) (show decode cX5_add 18 = .ok (.lastore, 1) by decide +kernel) ?_
    refine y_aload_n (show decode cX5_add 19 = .ok (.aload_n 0, 1) by decide +kernel) 0 rfl ?_
    refine y_dup (show decode cX5_add 20 = .ok (.dup, 1) by decide +kernel) rfl ?_
    refine y_getf o 5 1 15 (by omega) (by rcases c1 with rfl | rfl | rfl | rfl | rfl | rfl <;> rfl) (by decide) (by decide) q1_145 (show decode cX5_add 21 = .ok (.getfield 15, 3) by decide +kernel) (v := .inl (σ6 o 1)) (by rcases c1 with rfl | rfl | rfl | rfl | rfl | rfl <;> rfl) ?_
    refine y_iconst (show decode cX5_add 24 = .ok (.iconst 1, 1) by decide +kernel) rfl ?_
    obtain ⟨c8, h⟩ := chkI_some h
    refine y_iadd (show decode cX5_add 25 = .ok (.iadd, 1) by decide +kernel) c8 ?_
    obtain ⟨σ9, e10, h⟩ := bnd_i h
    refine yo_putI o 5 1 15 (by omega) (by rcases c1 with rfl | rfl | rfl | rfl | rfl | rfl <;> rfl) (by decide) (by decide) q1_145 rfl (show decode cX5_add 26 = .ok (.putfield 15, 3) by decide +kernel) rfl rfl (ov_set1 e10 (by rcases c1 with rfl | rfl | rfl | rfl | rfl | rfl <;> rfl)) ?_
    refine y_aload_n (show decode cX5_add 29 = .ok (.aload_n 0, 1) by decide +kernel) 0 rfl ?_
    refine y_getf o 5 1 15 (by omega) (by rcases c1 with rfl | rfl | rfl | rfl | rfl | rfl <;> rfl) (by decide) (by decide) q1_145 (show decode cX5_add 30 = .ok (.getfield 15, 3) by decide +kernel) (v := .inl (σ9 o 1)) (by rcases c1 with rfl | rfl | rfl | rfl | rfl | rfl <;> rfl) ?_
    refine y_iconst (show decode cX5_add 33 = .ok (.iconst 1, 1) by decide +kernel) rfl ?_
    obtain ⟨c11, h⟩ := chkI_some h
    refine y_isub (show decode cX5_add 34 = .ok (.isub, 1) by decide +kernel) c11 ?_
    cases h
    exact y_iret (show decode cX5_add 35 = .ok (.ireturn, 1) by decide +kernel) rfl
  · rw [if_neg c4] at h
    refine y_if_eq_f (show decode cX5_add 4 = .ok (.ifCond .eq 5, 3) by decide +kernel) c4 (by decide) ?_
    refine y_iconst (show decode cX5_add 7 = .ok (.iconst (-1), 1) by decide +kernel) rfl ?_
    cases h
    exact y_iret (show decode cX5_add 8 = .ok (.ireturn, 1) by decide +kernel) rfl
abbrev MX8_isLetter : yM := (yX8_isLetter, cX8_isLetter, 1, some .boolean)
def cTp_isLetter (a : Int) (σ : ySt) : Option (Int) :=
  if a < 97 then
    some 0
  else
    if a > 122 then
      some 0
    else
      some 1
set_option maxHeartbeats 4000000 in
set_option maxRecDepth 10000 in
theorem sh_cTp_isLetter {E : yE} {a : Int} {σ : ySt} {ρ : Int} (h : cTp_isLetter a σ = some ρ) : Con E MX8_isLetter 0 0 0 [.inl a] 150 (ov σ) (some (.inl ρ)) (ov σ) := by
  unfold cTp_isLetter at h
  refine Con.ofY (by decide) (by simp [yWords, yCat]) (fun hok _ => ?_)
  show Y E MX8_isLetter (yRm 0 0 0) (yQf E (150 + 0) 0 0 (some (.inl ρ)) (ov σ)) 0 [(0, .inl a)] [] (ov σ) 150 0 0
  refine y_iload_n (show decode cX8_isLetter 0 = .ok (.iload_n 0, 1) by decide +kernel) 0 rfl ?_
  refine y_bipush (show decode cX8_isLetter 1 = .ok (.bipush 97, 2) by decide +kernel) rfl rfl ?_
  by_cases c1 : a < 97
  · rw [if_pos c1] at h
    refine y_icmp_lt_t (tgt := 16) (show decode cX8_isLetter 3 = .ok (.if_icmp .lt 13, 3) by decide +kernel) rfl c1 ?_
    refine y_iconst (show decode cX8_isLetter 16 = .ok (.iconst 0, 1) by decide +kernel) rfl ?_
    cases h
    exact y_zret (show decode cX8_isLetter 17 = .ok (.ireturn, 1) by decide +kernel) rfl (Or.inl rfl)
  · rw [if_neg c1] at h
    refine y_icmp_lt_f (show decode cX8_isLetter 3 = .ok (.if_icmp .lt 13, 3) by decide +kernel) c1 (by decide) ?_
    refine y_iload_n (show decode cX8_isLetter 6 = .ok (.iload_n 0, 1) by decide +kernel) 0 rfl ?_
    refine y_bipush (show decode cX8_isLetter 7 = .ok (.bipush 122, 2) by decide +kernel) rfl rfl ?_
    by_cases c2 : a > 122
    · rw [if_pos c2] at h
      refine y_icmp_gt_t (tgt := 16) (show decode cX8_isLetter 9 = .ok (.if_icmp .gt 7, 3) by decide +kernel) rfl c2 ?_
      refine y_iconst (show decode cX8_isLetter 16 = .ok (.iconst 0, 1) by decide +kernel) rfl ?_
      cases h
      exact y_zret (show decode cX8_isLetter 17 = .ok (.ireturn, 1) by decide +kernel) rfl (Or.inl rfl)
    · rw [if_neg c2] at h
      refine y_icmp_gt_f (show decode cX8_isLetter 9 = .ok (.if_icmp .gt 7, 3) by decide +kernel) c2 (by decide) ?_
      refine y_iconst (show decode cX8_isLetter 12 = .ok (.iconst 1, 1) by decide +kernel) rfl ?_
      refine y_goto (tgt := 17) (show decode cX8_isLetter 13 = .ok (.goto 4, 3) by decide +kernel) rfl ?_
      cases h
      exact y_zret (show decode cX8_isLetter 17 = .ok (.ireturn, 1) by decide +kernel) rfl (Or.inr rfl)
abbrev MX8_stepWord : yM := (yX8_stepWord, cX8_stepWord, 1, none)
def cTp_stepWord (N : Nat) (σ : ySt) : Option (ySt) :=
  bnd (yset σ 1 4 0) fun σ1 =>
  loopS0 (fun k4 σ3 =>
    if (σ3 1 8) ≥ (σ3 1 1) then
      some σ3
    else
      chkA 1600 (σ3 1 8) <|
      bndO (cTp_isLetter (σ3 2 ((σ3 1 8)).toNat) σ3) fun r8 =>
      if r8 = 0 then
        some σ3
      else
        chkA 1600 (σ3 1 8) <|
        chkI ((σ3 2 ((σ3 1 8)).toNat) - 97) <|
        chkI (((σ3 2 ((σ3 1 8)).toNat) - 97) + 1) <|
        bnd (yset σ3 1 4 (w64 ((w64 ((σ3 1 4) * 32)) + (bi2l (((σ3 2 ((σ3 1 8)).toNat) - 97) + 1))))) fun σ13 =>
        chkI ((σ13 1 8) + 1) <|
        bnd (yset σ13 1 8 ((σ13 1 8) + 1)) fun σ16 =>
        k4 σ16) N σ1
set_option maxHeartbeats 4000000 in
set_option maxRecDepth 10000 in
theorem sh_cTp_stepWord {E : yE} {N : Nat} {σ : ySt} {τ : ySt} (h : cTp_stepWord N σ = some τ) : Con E MX8_stepWord 1 0 0 [.inr (.inr (1 + 1))] 150 (ov σ) none (ov τ) := by
  unfold cTp_stepWord at h
  refine Con.ofY (by decide) (by simp [yWords, yCat]) (fun hok _ => ?_)
  show Y E MX8_stepWord (yRm 1 0 0) (yQf E (150 + 0) 0 0 none (ov τ)) 0 [(0, .inr (.inr (1 + 1)))] [] (ov σ) 150 0 0
  refine y_aload_n (show decode cX8_stepWord 0 = .ok (.aload_n 0, 1) by decide +kernel) 0 rfl ?_
  refine y_lconst (z := 0) (show decode cX8_stepWord 1 = .ok (.lconst 0, 1) by decide +kernel) rfl rfl ?_
  obtain ⟨σ1, e2, h⟩ := bnd_i h
  refine yo_putJ 1 8 4 44 (by decide) rfl (by decide) (by decide) q1_46 rfl (show decode cX8_stepWord 2 = .ok (.putfield 44, 3) by decide +kernel) rfl rfl (ov_set1 e2 rfl) ?_
  refine y_pick [0] rfl ?_
  refine loopS0_ind (P := fun σ3 => Y E MX8_stepWord (yRm 1 0 0) (yQf E (150 + 0) 0 0 none (ov τ)) 5 [(0, .inr (.inr (1 + 1)))] [] (ov σ3) 150 0 0) (fun k4 hk4 σ3 h => ?_) _ _  h
  refine y_aload_n (show decode cX8_stepWord 5 = .ok (.aload_n 0, 1) by decide +kernel) 0 rfl ?_
  refine y_getf 1 8 8 25 (by decide) rfl (by decide) (by decide) q1_53 (show decode cX8_stepWord 6 = .ok (.getfield 25, 3) by decide +kernel) (v := .inl (σ3 1 8)) rfl ?_
  refine y_aload_n (show decode cX8_stepWord 9 = .ok (.aload_n 0, 1) by decide +kernel) 0 rfl ?_
  refine y_getf 1 8 1 19 (by decide) rfl (by decide) (by decide) q1_37 (show decode cX8_stepWord 10 = .ok (.getfield 19, 3) by decide +kernel) (v := .inl (σ3 1 1)) rfl ?_
  by_cases c5 : (σ3 1 8) ≥ (σ3 1 1)
  · rw [if_pos c5] at h
    refine y_icmp_ge_t (tgt := 72) (show decode cX8_stepWord 13 = .ok (.if_icmp .ge 59, 3) by decide +kernel) rfl c5 ?_
    cases h
    exact y_vret (show decode cX8_stepWord 72 = .ok (.return_, 1) by decide +kernel) rfl
  · rw [if_neg c5] at h
    refine y_icmp_ge_f (show decode cX8_stepWord 13 = .ok (.if_icmp .ge 59, 3) by decide +kernel) c5 (by decide) ?_
    refine y_aload_n (show decode cX8_stepWord 16 = .ok (.aload_n 0, 1) by decide +kernel) 0 rfl ?_
    refine y_getf 1 8 0 9 (by decide) rfl (by decide) (by decide) q1_36 (show decode cX8_stepWord 17 = .ok (.getfield 9, 3) by decide +kernel) (v := .inr (.inr (2 + 1))) rfl ?_
    refine y_aload_n (show decode cX8_stepWord 20 = .ok (.aload_n 0, 1) by decide +kernel) 0 rfl ?_
    refine y_getf 1 8 8 25 (by decide) rfl (by decide) (by decide) q1_53 (show decode cX8_stepWord 21 = .ok (.getfield 25, 3) by decide +kernel) (v := .inl (σ3 1 8)) rfl ?_
    obtain ⟨c6, h⟩ := chkA_some h
    refine yo_bald 2 1600 (by decide) rfl c6 (ov_at rfl) (show decode cX8_stepWord 24 = .ok (.baload, 1) by decide +kernel) ?_
    obtain ⟨r8, e7, h⟩ := bndO_some h
    refine y_callS (np := 1) (st := []) (as := [.inl (σ3 2 ((σ3 1 8)).toNat)]) (sh_cTp_isLetter e7) q3_94 q3_92 q3_93 q1_2 (by decide) (by decide +kernel) (by decide) rfl (by decide) (show decode cX8_stepWord 25 = .ok (.invokestatic 37, 3) by decide +kernel) rfl ?_
    by_cases c9 : r8 = 0
    · rw [if_pos c9] at h
      refine y_if_eq_t (tgt := 72) (show decode cX8_stepWord 28 = .ok (.ifCond .eq 44, 3) by decide +kernel) rfl c9 ?_
      cases h
      exact y_vret (show decode cX8_stepWord 72 = .ok (.return_, 1) by decide +kernel) rfl
    · rw [if_neg c9] at h
      refine y_if_eq_f (show decode cX8_stepWord 28 = .ok (.ifCond .eq 44, 3) by decide +kernel) c9 (by decide) ?_
      refine y_aload_n (show decode cX8_stepWord 31 = .ok (.aload_n 0, 1) by decide +kernel) 0 rfl ?_
      refine y_aload_n (show decode cX8_stepWord 32 = .ok (.aload_n 0, 1) by decide +kernel) 0 rfl ?_
      refine y_getf 1 8 4 44 (by decide) rfl (by decide) (by decide) q1_46 (show decode cX8_stepWord 33 = .ok (.getfield 44, 3) by decide +kernel) (v := .inr (.inl (σ3 1 4))) rfl ?_
      refine y_ldc2 (k := 32) (show decode cX8_stepWord 36 = .ok (.ldc2_w 66, 3) by decide +kernel) q3_99 rfl rfl ?_
      refine y_lmulW (show decode cX8_stepWord 39 = .ok (.lmul, 1) by decide +kernel) ?_
      refine y_aload_n (show decode cX8_stepWord 40 = .ok (.aload_n 0, 1) by decide +kernel) 0 rfl ?_
      refine y_getf 1 8 0 9 (by decide) rfl (by decide) (by decide) q1_36 (show decode cX8_stepWord 41 = .ok (.getfield 9, 3) by decide +kernel) (v := .inr (.inr (2 + 1))) rfl ?_
      refine y_aload_n (show decode cX8_stepWord 44 = .ok (.aload_n 0, 1) by decide +kernel) 0 rfl ?_
      refine y_getf 1 8 8 25 (by decide) rfl (by decide) (by decide) q1_53 (show decode cX8_stepWord 45 = .ok (.getfield 25, 3) by decide +kernel) (v := .inl (σ3 1 8)) rfl ?_
      obtain ⟨c10, h⟩ := chkA_some h
      refine yo_bald 2 1600 (by decide) rfl c10 (ov_at rfl) (show decode cX8_stepWord 48 = .ok (.baload, 1) by decide +kernel) ?_
      refine y_bipush (show decode cX8_stepWord 49 = .ok (.bipush 97, 2) by decide +kernel) rfl rfl ?_
      obtain ⟨c11, h⟩ := chkI_some h
      refine y_isub (show decode cX8_stepWord 51 = .ok (.isub, 1) by decide +kernel) c11 ?_
      refine y_iconst (show decode cX8_stepWord 52 = .ok (.iconst 1, 1) by decide +kernel) rfl ?_
      obtain ⟨c12, h⟩ := chkI_some h
      refine y_iadd (show decode cX8_stepWord 53 = .ok (.iadd, 1) by decide +kernel) c12 ?_
      refine y_i2l (show decode cX8_stepWord 54 = .ok (.i2l, 1) by decide +kernel) ?_
      refine y_laddW (show decode cX8_stepWord 55 = .ok (.ladd, 1) by decide +kernel) ?_
      obtain ⟨σ13, e14, h⟩ := bnd_i h
      refine yo_putJ 1 8 4 44 (by decide) rfl (by decide) (by decide) q1_46 rfl (show decode cX8_stepWord 56 = .ok (.putfield 44, 3) by decide +kernel) rfl rfl (ov_set1 e14 rfl) ?_
      refine y_aload_n (show decode cX8_stepWord 59 = .ok (.aload_n 0, 1) by decide +kernel) 0 rfl ?_
      refine y_dup (show decode cX8_stepWord 60 = .ok (.dup, 1) by decide +kernel) rfl ?_
      refine y_getf 1 8 8 25 (by decide) rfl (by decide) (by decide) q1_53 (show decode cX8_stepWord 61 = .ok (.getfield 25, 3) by decide +kernel) (v := .inl (σ13 1 8)) rfl ?_
      refine y_iconst (show decode cX8_stepWord 64 = .ok (.iconst 1, 1) by decide +kernel) rfl ?_
      obtain ⟨c15, h⟩ := chkI_some h
      refine y_iadd (show decode cX8_stepWord 65 = .ok (.iadd, 1) by decide +kernel) c15 ?_
      obtain ⟨σ16, e17, h⟩ := bnd_i h
      refine yo_putI 1 8 8 25 (by decide) rfl (by decide) (by decide) q1_53 rfl (show decode cX8_stepWord 66 = .ok (.putfield 25, 3) by decide +kernel) rfl rfl (ov_set1 e17 rfl) ?_
      refine y_goto (tgt := 5) (show decode cX8_stepWord 69 = .ok (.goto (-64), 3) by decide +kernel) rfl ?_
      refine y_pick [0] rfl ?_
      exact hk4 _ h
abbrev MX8_isDigit : yM := (yX8_isDigit, cX8_isDigit, 1, some .boolean)
def cTp_isDigit (a : Int) (σ : ySt) : Option (Int) :=
  if a < 48 then
    some 0
  else
    if a > 57 then
      some 0
    else
      some 1
set_option maxHeartbeats 4000000 in
set_option maxRecDepth 10000 in
theorem sh_cTp_isDigit {E : yE} {a : Int} {σ : ySt} {ρ : Int} (h : cTp_isDigit a σ = some ρ) : Con E MX8_isDigit 0 0 0 [.inl a] 150 (ov σ) (some (.inl ρ)) (ov σ) := by
  unfold cTp_isDigit at h
  refine Con.ofY (by decide) (by simp [yWords, yCat]) (fun hok _ => ?_)
  show Y E MX8_isDigit (yRm 0 0 0) (yQf E (150 + 0) 0 0 (some (.inl ρ)) (ov σ)) 0 [(0, .inl a)] [] (ov σ) 150 0 0
  refine y_iload_n (show decode cX8_isDigit 0 = .ok (.iload_n 0, 1) by decide +kernel) 0 rfl ?_
  refine y_bipush (show decode cX8_isDigit 1 = .ok (.bipush 48, 2) by decide +kernel) rfl rfl ?_
  by_cases c1 : a < 48
  · rw [if_pos c1] at h
    refine y_icmp_lt_t (tgt := 16) (show decode cX8_isDigit 3 = .ok (.if_icmp .lt 13, 3) by decide +kernel) rfl c1 ?_
    refine y_iconst (show decode cX8_isDigit 16 = .ok (.iconst 0, 1) by decide +kernel) rfl ?_
    cases h
    exact y_zret (show decode cX8_isDigit 17 = .ok (.ireturn, 1) by decide +kernel) rfl (Or.inl rfl)
  · rw [if_neg c1] at h
    refine y_icmp_lt_f (show decode cX8_isDigit 3 = .ok (.if_icmp .lt 13, 3) by decide +kernel) c1 (by decide) ?_
    refine y_iload_n (show decode cX8_isDigit 6 = .ok (.iload_n 0, 1) by decide +kernel) 0 rfl ?_
    refine y_bipush (show decode cX8_isDigit 7 = .ok (.bipush 57, 2) by decide +kernel) rfl rfl ?_
    by_cases c2 : a > 57
    · rw [if_pos c2] at h
      refine y_icmp_gt_t (tgt := 16) (show decode cX8_isDigit 9 = .ok (.if_icmp .gt 7, 3) by decide +kernel) rfl c2 ?_
      refine y_iconst (show decode cX8_isDigit 16 = .ok (.iconst 0, 1) by decide +kernel) rfl ?_
      cases h
      exact y_zret (show decode cX8_isDigit 17 = .ok (.ireturn, 1) by decide +kernel) rfl (Or.inl rfl)
    · rw [if_neg c2] at h
      refine y_icmp_gt_f (show decode cX8_isDigit 9 = .ok (.if_icmp .gt 7, 3) by decide +kernel) c2 (by decide) ?_
      refine y_iconst (show decode cX8_isDigit 12 = .ok (.iconst 1, 1) by decide +kernel) rfl ?_
      refine y_goto (tgt := 17) (show decode cX8_isDigit 13 = .ok (.goto 4, 3) by decide +kernel) rfl ?_
      cases h
      exact y_zret (show decode cX8_isDigit 17 = .ok (.ireturn, 1) by decide +kernel) rfl (Or.inr rfl)
abbrev MX8_stepNumber : yM := (yX8_stepNumber, cX8_stepNumber, 2, none)
def cTp_stepNumber (N : Nat) (σ : ySt) : Option (ySt) :=
  bnd (yset σ 1 5 0) fun σ1 =>
  loopS0 (fun k4 σ3 =>
    bnd (bnd (fun (y6 : Int) =>
        bnd (fun (y8 : Int) =>
          bnd (yset σ3 1 3 y8) fun σ10 =>
          some σ10) fun j9 =>
        if y6 = 0 then
          j9 1
        else
          j9 2) fun j7 =>
      if (w32 ((σ3 1 8) - (σ3 1 2))) > 4 then
        j7 0
      else
        if (σ3 1 8) ≥ (σ3 1 1) then
          j7 1
        else
          chkA 1600 (σ3 1 8) <|
          bndO (cTp_isLetter (σ3 2 ((σ3 1 8)).toNat) σ3) fun r17 =>
          if ¬ r17 = 0 then
            j7 0
          else
            j7 1) fun j5 =>
    if (σ3 1 8) ≥ (σ3 1 1) then
      j5
    else
      chkA 1600 (σ3 1 8) <|
      bndO (cTp_isDigit (σ3 2 ((σ3 1 8)).toNat) σ3) fun r22 =>
      if r22 = 0 then
        j5
      else
        chkA 1600 (σ3 1 8) <|
        bnd (yset σ3 1 5 (w32 ((w32 ((σ3 1 5) * 10)) + (w32 ((σ3 2 ((σ3 1 8)).toNat) - 48))))) fun σ25 =>
        bnd (yset σ25 1 8 (w32 ((σ25 1 8) + 1))) fun σ27 =>
        k4 σ27) N σ1
set_option maxHeartbeats 4000000 in
set_option maxRecDepth 10000 in
theorem sh_cTp_stepNumber {E : yE} {N : Nat} {σ : ySt} {τ : ySt} (h : cTp_stepNumber N σ = some τ) : Con E MX8_stepNumber 1 0 0 [.inr (.inr (1 + 1))] 150 (ov σ) none (ov τ) := by
  unfold cTp_stepNumber at h
  refine Con.ofY (by decide) (by simp [yWords, yCat]) (fun hok _ => ?_)
  show Y E MX8_stepNumber (yRm 1 0 0) (yQf E (150 + 0) 0 0 none (ov τ)) 0 [(0, .inr (.inr (1 + 1)))] [] (ov σ) 150 0 0
  refine y_aload_n (show decode cX8_stepNumber 0 = .ok (.aload_n 0, 1) by decide +kernel) 0 rfl ?_
  refine y_iconst (show decode cX8_stepNumber 1 = .ok (.iconst 0, 1) by decide +kernel) rfl ?_
  obtain ⟨σ1, e2, h⟩ := bnd_i h
  refine yo_putI 1 8 5 68 (by decide) rfl (by decide) (by decide) q1_47 rfl (show decode cX8_stepNumber 2 = .ok (.putfield 68, 3) by decide +kernel) rfl rfl (ov_set1 e2 rfl) ?_
  refine y_pick [0] rfl ?_
  refine loopS0_ind (P := fun σ3 => Y E MX8_stepNumber (yRm 1 0 0) (yQf E (150 + 0) 0 0 none (ov τ)) 5 [(0, .inr (.inr (1 + 1)))] [] (ov σ3) 150 0 0) (fun k4 hk4 σ3 h => ?_) _ _  h
  refine y_aload_n (show decode cX8_stepNumber 5 = .ok (.aload_n 0, 1) by decide +kernel) 0 rfl ?_
  refine y_getf 1 8 8 25 (by decide) rfl (by decide) (by decide) q1_53 (show decode cX8_stepNumber 6 = .ok (.getfield 25, 3) by decide +kernel) (v := .inl (σ3 1 8)) rfl ?_
  refine y_aload_n (show decode cX8_stepNumber 9 = .ok (.aload_n 0, 1) by decide +kernel) 0 rfl ?_
  refine y_getf 1 8 1 19 (by decide) rfl (by decide) (by decide) q1_37 (show decode cX8_stepNumber 10 = .ok (.getfield 19, 3) by decide +kernel) (v := .inl (σ3 1 1)) rfl ?_
  refine bnd_j (Q := fun j5 => j5 = some τ → Y E MX8_stepNumber (yRm 1 0 0) (yQf E (150 + 0) 0 0 none (ov τ)) 68 [(0, .inr (.inr (1 + 1)))] [] (ov σ3) 150 0 0) (fun h => ?_) (fun j5 hj5 h => ?_) h
  · refine y_aload_n (show decode cX8_stepNumber 68 = .ok (.aload_n 0, 1) by decide +kernel) 0 rfl ?_
    refine y_getf 1 8 8 25 (by decide) rfl (by decide) (by decide) q1_53 (show decode cX8_stepNumber 69 = .ok (.getfield 25, 3) by decide +kernel) (v := .inl (σ3 1 8)) rfl ?_
    refine y_aload_n (show decode cX8_stepNumber 72 = .ok (.aload_n 0, 1) by decide +kernel) 0 rfl ?_
    refine y_getf 1 8 2 31 (by decide) rfl (by decide) (by decide) q1_39 (show decode cX8_stepNumber 73 = .ok (.getfield 31, 3) by decide +kernel) (v := .inl (σ3 1 2)) rfl ?_
    refine y_isubW (show decode cX8_stepNumber 76 = .ok (.isub, 1) by decide +kernel) ?_
    refine y_iconst (show decode cX8_stepNumber 77 = .ok (.iconst 4, 1) by decide +kernel) rfl ?_
    refine bnd_j (Q := fun j7 => ∀ (y6 : Int), j7 y6 = some τ → Y E MX8_stepNumber (yRm 1 0 0) (yQf E (150 + 0) 0 0 none (ov τ)) 112 [(0, .inr (.inr (1 + 1)))] [.inl y6] (ov σ3) 150 0 0) (fun y6 h => ?_) (fun j7 hj7 h => ?_) h
    · refine y_istore_n (show decode cX8_stepNumber 112 = .ok (.istore_n 1, 1) by decide +kernel) rfl (L1 := [(1, .inl y6), (0, .inr (.inr (1 + 1)))]) rfl ?_
      refine y_aload_n (show decode cX8_stepNumber 113 = .ok (.aload_n 0, 1) by decide +kernel) 1 rfl ?_
      refine y_iload_n (show decode cX8_stepNumber 114 = .ok (.iload_n 1, 1) by decide +kernel) 0 rfl ?_
      refine bnd_j (Q := fun j9 => ∀ (y8 : Int), j9 y8 = some τ → Y E MX8_stepNumber (yRm 1 0 0) (yQf E (150 + 0) 0 0 none (ov τ)) 123 [] [.inl y8, .inr (.inr (1 + 1))] (ov σ3) 150 0 0) (fun y8 h => ?_) (fun j9 hj9 h => ?_) h
      · obtain ⟨σ10, e11, h⟩ := bnd_i h
        refine yo_putI 1 8 3 34 (by decide) rfl (by decide) (by decide) q1_43 rfl (show decode cX8_stepNumber 123 = .ok (.putfield 34, 3) by decide +kernel) rfl rfl (ov_set1 e11 rfl) ?_
        cases h
        exact y_vret (show decode cX8_stepNumber 126 = .ok (.return_, 1) by decide +kernel) rfl
      by_cases c12 : y6 = 0
      · rw [if_pos c12] at h
        refine y_if_eq_t (tgt := 122) (show decode cX8_stepNumber 115 = .ok (.ifCond .eq 7, 3) by decide +kernel) rfl c12 ?_
        refine y_iconst (show decode cX8_stepNumber 122 = .ok (.iconst 1, 1) by decide +kernel) rfl ?_
        refine y_pick [] rfl ?_
        exact hj9 _ h
      · rw [if_neg c12] at h
        refine y_if_eq_f (show decode cX8_stepNumber 115 = .ok (.ifCond .eq 7, 3) by decide +kernel) c12 (by decide) ?_
        refine y_iconst (show decode cX8_stepNumber 118 = .ok (.iconst 2, 1) by decide +kernel) rfl ?_
        refine y_goto (tgt := 123) (show decode cX8_stepNumber 119 = .ok (.goto 4, 3) by decide +kernel) rfl ?_
        refine y_pick [] rfl ?_
        exact hj9 _ h
    by_cases c13 : (w32 ((σ3 1 8) - (σ3 1 2))) > 4
    · rw [if_pos c13] at h
      refine y_icmp_gt_t (tgt := 111) (show decode cX8_stepNumber 78 = .ok (.if_icmp .gt 33, 3) by decide +kernel) rfl c13 ?_
      refine y_iconst (show decode cX8_stepNumber 111 = .ok (.iconst 0, 1) by decide +kernel) rfl ?_
      refine y_pick [0] rfl ?_
      exact hj7 _ h
    · rw [if_neg c13] at h
      refine y_icmp_gt_f (show decode cX8_stepNumber 78 = .ok (.if_icmp .gt 33, 3) by decide +kernel) c13 (by decide) ?_
      refine y_aload_n (show decode cX8_stepNumber 81 = .ok (.aload_n 0, 1) by decide +kernel) 0 rfl ?_
      refine y_getf 1 8 8 25 (by decide) rfl (by decide) (by decide) q1_53 (show decode cX8_stepNumber 82 = .ok (.getfield 25, 3) by decide +kernel) (v := .inl (σ3 1 8)) rfl ?_
      refine y_aload_n (show decode cX8_stepNumber 85 = .ok (.aload_n 0, 1) by decide +kernel) 0 rfl ?_
      refine y_getf 1 8 1 19 (by decide) rfl (by decide) (by decide) q1_37 (show decode cX8_stepNumber 86 = .ok (.getfield 19, 3) by decide +kernel) (v := .inl (σ3 1 1)) rfl ?_
      by_cases c14 : (σ3 1 8) ≥ (σ3 1 1)
      · rw [if_pos c14] at h
        refine y_icmp_ge_t (tgt := 107) (show decode cX8_stepNumber 89 = .ok (.if_icmp .ge 18, 3) by decide +kernel) rfl c14 ?_
        refine y_iconst (show decode cX8_stepNumber 107 = .ok (.iconst 1, 1) by decide +kernel) rfl ?_
        refine y_goto (tgt := 112) (show decode cX8_stepNumber 108 = .ok (.goto 4, 3) by decide +kernel) rfl ?_
        refine y_pick [0] rfl ?_
        exact hj7 _ h
      · rw [if_neg c14] at h
        refine y_icmp_ge_f (show decode cX8_stepNumber 89 = .ok (.if_icmp .ge 18, 3) by decide +kernel) c14 (by decide) ?_
        refine y_aload_n (show decode cX8_stepNumber 92 = .ok (.aload_n 0, 1) by decide +kernel) 0 rfl ?_
        refine y_getf 1 8 0 9 (by decide) rfl (by decide) (by decide) q1_36 (show decode cX8_stepNumber 93 = .ok (.getfield 9, 3) by decide +kernel) (v := .inr (.inr (2 + 1))) rfl ?_
        refine y_aload_n (show decode cX8_stepNumber 96 = .ok (.aload_n 0, 1) by decide +kernel) 0 rfl ?_
        refine y_getf 1 8 8 25 (by decide) rfl (by decide) (by decide) q1_53 (show decode cX8_stepNumber 97 = .ok (.getfield 25, 3) by decide +kernel) (v := .inl (σ3 1 8)) rfl ?_
        obtain ⟨c15, h⟩ := chkA_some h
        refine yo_bald 2 1600 (by decide) rfl c15 (ov_at rfl) (show decode cX8_stepNumber 100 = .ok (.baload, 1) by decide +kernel) ?_
        obtain ⟨r17, e16, h⟩ := bndO_some h
        refine y_callS (np := 1) (st := []) (as := [.inl (σ3 2 ((σ3 1 8)).toNat)]) (sh_cTp_isLetter e16) q3_94 q3_92 q3_93 q1_2 (by decide) (by decide +kernel) (by decide) rfl (by decide) (show decode cX8_stepNumber 101 = .ok (.invokestatic 37, 3) by decide +kernel) rfl ?_
        by_cases c18 : ¬ r17 = 0
        · rw [if_pos c18] at h
          refine y_if_ne_t (tgt := 111) (show decode cX8_stepNumber 104 = .ok (.ifCond .ne 7, 3) by decide +kernel) rfl c18 ?_
          refine y_iconst (show decode cX8_stepNumber 111 = .ok (.iconst 0, 1) by decide +kernel) rfl ?_
          refine y_pick [0] rfl ?_
          exact hj7 _ h
        · rw [if_neg c18] at h
          refine y_if_ne_f (show decode cX8_stepNumber 104 = .ok (.ifCond .ne 7, 3) by decide +kernel) c18 (by decide) ?_
          refine y_iconst (show decode cX8_stepNumber 107 = .ok (.iconst 1, 1) by decide +kernel) rfl ?_
          refine y_goto (tgt := 112) (show decode cX8_stepNumber 108 = .ok (.goto 4, 3) by decide +kernel) rfl ?_
          refine y_pick [0] rfl ?_
          exact hj7 _ h
  by_cases c19 : (σ3 1 8) ≥ (σ3 1 1)
  · rw [if_pos c19] at h
    refine y_icmp_ge_t (tgt := 68) (show decode cX8_stepNumber 13 = .ok (.if_icmp .ge 55, 3) by decide +kernel) rfl c19 ?_
    refine y_pick [0] rfl ?_
    exact hj5 h
  · rw [if_neg c19] at h
    refine y_icmp_ge_f (show decode cX8_stepNumber 13 = .ok (.if_icmp .ge 55, 3) by decide +kernel) c19 (by decide) ?_
    refine y_aload_n (show decode cX8_stepNumber 16 = .ok (.aload_n 0, 1) by decide +kernel) 0 rfl ?_
    refine y_getf 1 8 0 9 (by decide) rfl (by decide) (by decide) q1_36 (show decode cX8_stepNumber 17 = .ok (.getfield 9, 3) by decide +kernel) (v := .inr (.inr (2 + 1))) rfl ?_
    refine y_aload_n (show decode cX8_stepNumber 20 = .ok (.aload_n 0, 1) by decide +kernel) 0 rfl ?_
    refine y_getf 1 8 8 25 (by decide) rfl (by decide) (by decide) q1_53 (show decode cX8_stepNumber 21 = .ok (.getfield 25, 3) by decide +kernel) (v := .inl (σ3 1 8)) rfl ?_
    obtain ⟨c20, h⟩ := chkA_some h
    refine yo_bald 2 1600 (by decide) rfl c20 (ov_at rfl) (show decode cX8_stepNumber 24 = .ok (.baload, 1) by decide +kernel) ?_
    obtain ⟨r22, e21, h⟩ := bndO_some h
    refine y_callS (np := 1) (st := []) (as := [.inl (σ3 2 ((σ3 1 8)).toNat)]) (sh_cTp_isDigit e21) q3_154 q3_152 q3_153 q1_2 (by decide) (by decide +kernel) (by decide) rfl (by decide) (show decode cX8_stepNumber 25 = .ok (.invokestatic 52, 3) by decide +kernel) rfl ?_
    by_cases c23 : r22 = 0
    · rw [if_pos c23] at h
      refine y_if_eq_t (tgt := 68) (show decode cX8_stepNumber 28 = .ok (.ifCond .eq 40, 3) by decide +kernel) rfl c23 ?_
      refine y_pick [0] rfl ?_
      exact hj5 h
    · rw [if_neg c23] at h
      refine y_if_eq_f (show decode cX8_stepNumber 28 = .ok (.ifCond .eq 40, 3) by decide +kernel) c23 (by decide) ?_
      refine y_aload_n (show decode cX8_stepNumber 31 = .ok (.aload_n 0, 1) by decide +kernel) 0 rfl ?_
      refine y_aload_n (show decode cX8_stepNumber 32 = .ok (.aload_n 0, 1) by decide +kernel) 0 rfl ?_
      refine y_getf 1 8 5 68 (by decide) rfl (by decide) (by decide) q1_47 (show decode cX8_stepNumber 33 = .ok (.getfield 68, 3) by decide +kernel) (v := .inl (σ3 1 5)) rfl ?_
      refine y_bipush (show decode cX8_stepNumber 36 = .ok (.bipush 10, 2) by decide +kernel) rfl rfl ?_
      refine y_imulW (show decode cX8_stepNumber 38 = .ok (.imul, 1) by decide +kernel) ?_
      refine y_aload_n (show decode cX8_stepNumber 39 = .ok (.aload_n 0, 1) by decide +kernel) 0 rfl ?_
      refine y_getf 1 8 0 9 (by decide) rfl (by decide) (by decide) q1_36 (show decode cX8_stepNumber 40 = .ok (.getfield 9, 3) by decide +kernel) (v := .inr (.inr (2 + 1))) rfl ?_
      refine y_aload_n (show decode cX8_stepNumber 43 = .ok (.aload_n 0, 1) by decide +kernel) 0 rfl ?_
      refine y_getf 1 8 8 25 (by decide) rfl (by decide) (by decide) q1_53 (show decode cX8_stepNumber 44 = .ok (.getfield 25, 3) by decide +kernel) (v := .inl (σ3 1 8)) rfl ?_
      obtain ⟨c24, h⟩ := chkA_some h
      refine yo_bald 2 1600 (by decide) rfl c24 (ov_at rfl) (show decode cX8_stepNumber 47 = .ok (.baload, 1) by decide +kernel) ?_
      refine y_bipush (show decode cX8_stepNumber 48 = .ok (.bipush 48, 2) by decide +kernel) rfl rfl ?_
      refine y_isubW (show decode cX8_stepNumber 50 = .ok (.isub, 1) by decide +kernel) ?_
      refine y_iaddW (show decode cX8_stepNumber 51 = .ok (.iadd, 1) by decide +kernel) ?_
      obtain ⟨σ25, e26, h⟩ := bnd_i h
      refine yo_putI 1 8 5 68 (by decide) rfl (by decide) (by decide) q1_47 rfl (show decode cX8_stepNumber 52 = .ok (.putfield 68, 3) by decide +kernel) rfl rfl (ov_set1 e26 rfl) ?_
      refine y_aload_n (show decode cX8_stepNumber 55 = .ok (.aload_n 0, 1) by decide +kernel) 0 rfl ?_
      refine y_dup (show decode cX8_stepNumber 56 = .ok (.dup, 1) by decide +kernel) rfl ?_
      refine y_getf 1 8 8 25 (by decide) rfl (by decide) (by decide) q1_53 (show decode cX8_stepNumber 57 = .ok (.getfield 25, 3) by decide +kernel) (v := .inl (σ25 1 8)) rfl ?_
      refine y_iconst (show decode cX8_stepNumber 60 = .ok (.iconst 1, 1) by decide +kernel) rfl ?_
      refine y_iaddW (show decode cX8_stepNumber 61 = .ok (.iadd, 1) by decide +kernel) ?_
      obtain ⟨σ27, e28, h⟩ := bnd_i h
      refine yo_putI 1 8 8 25 (by decide) rfl (by decide) (by decide) q1_53 rfl (show decode cX8_stepNumber 62 = .ok (.putfield 25, 3) by decide +kernel) rfl rfl (ov_set1 e28 rfl) ?_
      refine y_goto (tgt := 5) (show decode cX8_stepNumber 65 = .ok (.goto (-60), 3) by decide +kernel) rfl ?_
      refine y_pick [0] rfl ?_
      exact hk4 _ h
abbrev MX8_blame : yM := (yX8_blame, cX8_blame, 2, some .boolean)
def cTp_blame (a : Int) (σ : ySt) : Option (Int × ySt) :=
  bnd (yset σ 1 6 a) fun σ1 =>
  bnd (yset σ1 1 7 (σ1 1 2)) fun σ3 =>
  some (0, σ3)
set_option maxHeartbeats 4000000 in
set_option maxRecDepth 10000 in
theorem sh_cTp_blame {E : yE} {a : Int} {σ : ySt} {ρ : Int} {τ : ySt} (h : cTp_blame a σ = some (ρ, τ)) : Con E MX8_blame 0 0 0 [.inr (.inr (1 + 1)), .inl a] 150 (ov σ) (some (.inl ρ)) (ov τ) := by
  unfold cTp_blame at h
  refine Con.ofY (by decide) (by simp [yWords, yCat]) (fun hok _ => ?_)
  show Y E MX8_blame (yRm 0 0 0) (yQf E (150 + 0) 0 0 (some (.inl ρ)) (ov τ)) 0 [(0, .inr (.inr (1 + 1))), (1, .inl a)] [] (ov σ) 150 0 0
  refine y_aload_n (show decode cX8_blame 0 = .ok (.aload_n 0, 1) by decide +kernel) 0 rfl ?_
  refine y_iload_n (show decode cX8_blame 1 = .ok (.iload_n 1, 1) by decide +kernel) 1 rfl ?_
  obtain ⟨σ1, e2, h⟩ := bnd_i h
  refine yo_putI 1 8 6 22 (by decide) rfl (by decide) (by decide) q1_49 rfl (show decode cX8_blame 2 = .ok (.putfield 22, 3) by decide +kernel) rfl rfl (ov_set1 e2 rfl) ?_
  refine y_aload_n (show decode cX8_blame 5 = .ok (.aload_n 0, 1) by decide +kernel) 0 rfl ?_
  refine y_aload_n (show decode cX8_blame 6 = .ok (.aload_n 0, 1) by decide +kernel) 0 rfl ?_
  refine y_getf 1 8 2 31 (by decide) rfl (by decide) (by decide) q1_39 (show decode cX8_blame 7 = .ok (.getfield 31, 3) by decide +kernel) (v := .inl (σ1 1 2)) rfl ?_
  obtain ⟨σ3, e4, h⟩ := bnd_i h
  refine yo_putI 1 8 7 15 (by decide) rfl (by decide) (by decide) q1_51 rfl (show decode cX8_blame 10 = .ok (.putfield 15, 3) by decide +kernel) rfl rfl (ov_set1 e4 rfl) ?_
  refine y_iconst (show decode cX8_blame 13 = .ok (.iconst 0, 1) by decide +kernel) rfl ?_
  cases h
  exact y_zret (show decode cX8_blame 14 = .ok (.ireturn, 1) by decide +kernel) rfl (Or.inl rfl)
abbrev MX8_refuse : yM := (yX8_refuse, cX8_refuse, 1, some .boolean)
def cTp_refuse (σ : ySt) : Option (Int × ySt) :=
  bnd (fun (y1 : Int) =>
    bndR (cTp_blame y1 σ) fun r4 σ5 =>
    chk (r4 = 0 ∨ r4 = 1) <|
    some (r4, σ5)) fun j2 =>
  if ¬ (σ 1 3) = 1 then
    j2 2
  else
    j2 1
set_option maxHeartbeats 4000000 in
set_option maxRecDepth 10000 in
theorem sh_cTp_refuse {E : yE} {σ : ySt} {ρ : Int} {τ : ySt} (h : cTp_refuse σ = some (ρ, τ)) : Con E MX8_refuse 1 0 0 [.inr (.inr (1 + 1))] 150 (ov σ) (some (.inl ρ)) (ov τ) := by
  unfold cTp_refuse at h
  refine Con.ofY (by decide) (by simp [yWords, yCat]) (fun hok _ => ?_)
  show Y E MX8_refuse (yRm 1 0 0) (yQf E (150 + 0) 0 0 (some (.inl ρ)) (ov τ)) 0 [(0, .inr (.inr (1 + 1)))] [] (ov σ) 150 0 0
  refine y_aload_n (show decode cX8_refuse 0 = .ok (.aload_n 0, 1) by decide +kernel) 0 rfl ?_
  refine y_aload_n (show decode cX8_refuse 1 = .ok (.aload_n 0, 1) by decide +kernel) 0 rfl ?_
  refine y_getf 1 8 3 34 (by decide) rfl (by decide) (by decide) q1_43 (show decode cX8_refuse 2 = .ok (.getfield 34, 3) by decide +kernel) (v := .inl (σ 1 3)) rfl ?_
  refine y_iconst (show decode cX8_refuse 5 = .ok (.iconst 1, 1) by decide +kernel) rfl ?_
  refine bnd_j (Q := fun j2 => ∀ (y1 : Int), j2 y1 = some (ρ, τ) → Y E MX8_refuse (yRm 1 0 0) (yQf E (150 + 0) 0 0 (some (.inl ρ)) (ov τ)) 14 [] [.inl y1, .inr (.inr (1 + 1))] (ov σ) 150 0 0) (fun y1 h => ?_) (fun j2 hj2 h => ?_) h
  · obtain ⟨r4, σ5, e3, h⟩ := bndR_some h
    refine y_callV (np := 1) (st := []) (as := [.inl y1]) 1 8 (sh_cTp_blame e3) q3_236 q4_6 q3_234 q3_235 q1_2 (by decide) rfl (by decide) rfl (by decide) (by decide +kernel) (by decide) rfl (by decide) (show decode cX8_refuse 14 = .ok (.invokevirtual 80, 3) by decide +kernel) rfl ?_
    obtain ⟨c6, h⟩ := chk_some h
    cases h
    exact y_zret (show decode cX8_refuse 17 = .ok (.ireturn, 1) by decide +kernel) rfl c6
  by_cases c7 : ¬ (σ 1 3) = 1
  · rw [if_pos c7] at h
    refine y_icmp_ne_t (tgt := 13) (show decode cX8_refuse 6 = .ok (.if_icmp .ne 7, 3) by decide +kernel) rfl c7 ?_
    refine y_iconst (show decode cX8_refuse 13 = .ok (.iconst 2, 1) by decide +kernel) rfl ?_
    refine y_pick [] rfl ?_
    exact hj2 _ h
  · rw [if_neg c7] at h
    refine y_icmp_ne_f (show decode cX8_refuse 6 = .ok (.if_icmp .ne 7, 3) by decide +kernel) c7 (by decide) ?_
    refine y_iconst (show decode cX8_refuse 9 = .ok (.iconst 1, 1) by decide +kernel) rfl ?_
    refine y_goto (tgt := 14) (show decode cX8_refuse 10 = .ok (.goto 4, 3) by decide +kernel) rfl ?_
    refine y_pick [] rfl ?_
    exact hj2 _ h
abbrev MX8_hasRoom : yM := (yX8_hasRoom, cX8_hasRoom, 2, some .boolean)
def cTp_hasRoom (a : Int) (σ : ySt) : Option (Int) :=
  chkI ((σ 1 1) + a) <|
  if ((σ 1 1) + a) > 1600 then
    some 0
  else
    some 1
set_option maxHeartbeats 4000000 in
set_option maxRecDepth 10000 in
theorem sh_cTp_hasRoom {E : yE} {a : Int} {σ : ySt} {ρ : Int} (h : cTp_hasRoom a σ = some ρ) : Con E MX8_hasRoom 0 0 0 [.inr (.inr (1 + 1)), .inl a] 150 (ov σ) (some (.inl ρ)) (ov σ) := by
  unfold cTp_hasRoom at h
  refine Con.ofY (by decide) (by simp [yWords, yCat]) (fun hok _ => ?_)
  show Y E MX8_hasRoom (yRm 0 0 0) (yQf E (150 + 0) 0 0 (some (.inl ρ)) (ov σ)) 0 [(0, .inr (.inr (1 + 1))), (1, .inl a)] [] (ov σ) 150 0 0
  refine y_aload_n (show decode cX8_hasRoom 0 = .ok (.aload_n 0, 1) by decide +kernel) 0 rfl ?_
  refine y_getf 1 8 1 19 (by decide) rfl (by decide) (by decide) q1_37 (show decode cX8_hasRoom 1 = .ok (.getfield 19, 3) by decide +kernel) (v := .inl (σ 1 1)) rfl ?_
  refine y_iload_n (show decode cX8_hasRoom 4 = .ok (.iload_n 1, 1) by decide +kernel) 1 rfl ?_
  obtain ⟨c1, h⟩ := chkI_some h
  refine y_iadd (show decode cX8_hasRoom 5 = .ok (.iadd, 1) by decide +kernel) c1 ?_
  refine y_sipush (show decode cX8_hasRoom 6 = .ok (.sipush 1600, 3) by decide +kernel) rfl rfl ?_
  by_cases c2 : ((σ 1 1) + a) > 1600
  · rw [if_pos c2] at h
    refine y_icmp_gt_t (tgt := 16) (show decode cX8_hasRoom 9 = .ok (.if_icmp .gt 7, 3) by decide +kernel) rfl c2 ?_
    refine y_iconst (show decode cX8_hasRoom 16 = .ok (.iconst 0, 1) by decide +kernel) rfl ?_
    cases h
    exact y_zret (show decode cX8_hasRoom 17 = .ok (.ireturn, 1) by decide +kernel) rfl (Or.inl rfl)
  · rw [if_neg c2] at h
    refine y_icmp_gt_f (show decode cX8_hasRoom 9 = .ok (.if_icmp .gt 7, 3) by decide +kernel) c2 (by decide) ?_
    refine y_iconst (show decode cX8_hasRoom 12 = .ok (.iconst 1, 1) by decide +kernel) rfl ?_
    refine y_goto (tgt := 17) (show decode cX8_hasRoom 13 = .ok (.goto 4, 3) by decide +kernel) rfl ?_
    cases h
    exact y_zret (show decode cX8_hasRoom 17 = .ok (.ireturn, 1) by decide +kernel) rfl (Or.inr rfl)
abbrev MX8_putFour : yM := (yX8_putFour, cX8_putFour, 3, none)
def cTp_putFour (N : Nat) (a : Int) (σ : ySt) : Option (ySt) :=
  loopS1 (fun k3 x1 σ2 =>
    if x1 < 0 then
      some σ2
    else
      if (σ2 1 1) ≥ 1600 then
        some σ2
      else
        chkA 1600 (σ2 1 1) <|
        bnd (yset σ2 2 ((σ2 1 1)).toNat (b32i2b (b32i2b (b32shr a x1)))) fun σ7 =>
        chkI ((σ7 1 1) + 1) <|
        bnd (yset σ7 1 1 ((σ7 1 1) + 1)) fun σ10 =>
        chkI (x1 + (-8)) <|
        k3 (x1 + (-8)) σ10) N 24 σ
set_option maxHeartbeats 4000000 in
set_option maxRecDepth 10000 in
theorem sh_cTp_putFour {E : yE} {N : Nat} {a : Int} {σ : ySt} {τ : ySt} (h : cTp_putFour N a σ = some τ) : Con E MX8_putFour 0 0 0 [.inr (.inr (1 + 1)), .inl a] 150 (ov σ) none (ov τ) := by
  unfold cTp_putFour at h
  refine Con.ofY (by decide) (by simp [yWords, yCat]) (fun hok _ => ?_)
  show Y E MX8_putFour (yRm 0 0 0) (yQf E (150 + 0) 0 0 none (ov τ)) 0 [(0, .inr (.inr (1 + 1))), (1, .inl a)] [] (ov σ) 150 0 0
  refine y_bipush (show decode cX8_putFour 0 = .ok (.bipush 24, 2) by decide +kernel) rfl rfl ?_
  refine y_istore_n (show decode cX8_putFour 2 = .ok (.istore_n 2, 1) by decide +kernel) rfl (L1 := [(2, .inl 24), (0, .inr (.inr (1 + 1))), (1, .inl a)]) rfl ?_
  refine y_pick [1, 2, 0] rfl ?_
  refine loopS1_ind (P := fun x1 σ2 => Y E MX8_putFour (yRm 0 0 0) (yQf E (150 + 0) 0 0 none (ov τ)) 3 [(0, .inr (.inr (1 + 1))), (1, .inl a), (2, .inl x1)] [] (ov σ2) 150 0 0) (fun k3 hk3 x1 σ2 h => ?_) _ _ _  h
  refine y_iload_n (show decode cX8_putFour 3 = .ok (.iload_n 2, 1) by decide +kernel) 2 rfl ?_
  by_cases c4 : x1 < 0
  · rw [if_pos c4] at h
    refine y_if_lt_t (tgt := 46) (show decode cX8_putFour 4 = .ok (.ifCond .lt 42, 3) by decide +kernel) rfl c4 ?_
    cases h
    exact y_vret (show decode cX8_putFour 46 = .ok (.return_, 1) by decide +kernel) rfl
  · rw [if_neg c4] at h
    refine y_if_lt_f (show decode cX8_putFour 4 = .ok (.ifCond .lt 42, 3) by decide +kernel) c4 (by decide) ?_
    refine y_aload_n (show decode cX8_putFour 7 = .ok (.aload_n 0, 1) by decide +kernel) 0 rfl ?_
    refine y_getf 1 8 1 19 (by decide) rfl (by decide) (by decide) q1_37 (show decode cX8_putFour 8 = .ok (.getfield 19, 3) by decide +kernel) (v := .inl (σ2 1 1)) rfl ?_
    refine y_sipush (show decode cX8_putFour 11 = .ok (.sipush 1600, 3) by decide +kernel) rfl rfl ?_
    by_cases c5 : (σ2 1 1) ≥ 1600
    · rw [if_pos c5] at h
      refine y_icmp_ge_t (tgt := 46) (show decode cX8_putFour 14 = .ok (.if_icmp .ge 32, 3) by decide +kernel) rfl c5 ?_
      cases h
      exact y_vret (show decode cX8_putFour 46 = .ok (.return_, 1) by decide +kernel) rfl
    · rw [if_neg c5] at h
      refine y_icmp_ge_f (show decode cX8_putFour 14 = .ok (.if_icmp .ge 32, 3) by decide +kernel) c5 (by decide) ?_
      refine y_aload_n (show decode cX8_putFour 17 = .ok (.aload_n 0, 1) by decide +kernel) 0 rfl ?_
      refine y_getf 1 8 0 9 (by decide) rfl (by decide) (by decide) q1_36 (show decode cX8_putFour 18 = .ok (.getfield 9, 3) by decide +kernel) (v := .inr (.inr (2 + 1))) rfl ?_
      refine y_aload_n (show decode cX8_putFour 21 = .ok (.aload_n 0, 1) by decide +kernel) 0 rfl ?_
      refine y_getf 1 8 1 19 (by decide) rfl (by decide) (by decide) q1_37 (show decode cX8_putFour 22 = .ok (.getfield 19, 3) by decide +kernel) (v := .inl (σ2 1 1)) rfl ?_
      refine y_iload_n (show decode cX8_putFour 25 = .ok (.iload_n 1, 1) by decide +kernel) 1 rfl ?_
      refine y_iload_n (show decode cX8_putFour 26 = .ok (.iload_n 2, 1) by decide +kernel) 2 rfl ?_
      refine y_ishr (show decode cX8_putFour 27 = .ok (.ishr, 1) by decide +kernel) ?_
      refine y_i2b (show decode cX8_putFour 28 = .ok (.i2b, 1) by decide +kernel) ?_
      obtain ⟨c6, h⟩ := chkA_some h
      obtain ⟨σ7, e8, h⟩ := bnd_i h
      refine yo_bast 2 1600 (by decide) rfl c6 (ov_set1 e8 rfl) (show decode cX8_putFour 29 = .ok (.bastore, 1) by decide +kernel) ?_
      refine y_aload_n (show decode cX8_putFour 30 = .ok (.aload_n 0, 1) by decide +kernel) 0 rfl ?_
      refine y_dup (show decode cX8_putFour 31 = .ok (.dup, 1) by decide +kernel) rfl ?_
      refine y_getf 1 8 1 19 (by decide) rfl (by decide) (by decide) q1_37 (show decode cX8_putFour 32 = .ok (.getfield 19, 3) by decide +kernel) (v := .inl (σ7 1 1)) rfl ?_
      refine y_iconst (show decode cX8_putFour 35 = .ok (.iconst 1, 1) by decide +kernel) rfl ?_
      obtain ⟨c9, h⟩ := chkI_some h
      refine y_iadd (show decode cX8_putFour 36 = .ok (.iadd, 1) by decide +kernel) c9 ?_
      obtain ⟨σ10, e11, h⟩ := bnd_i h
      refine yo_putI 1 8 1 19 (by decide) rfl (by decide) (by decide) q1_37 rfl (show decode cX8_putFour 37 = .ok (.putfield 19, 3) by decide +kernel) rfl rfl (ov_set1 e11 rfl) ?_
      obtain ⟨c12, h⟩ := chkI_some h
      refine y_iinc (show decode cX8_putFour 40 = .ok (.iinc 2 (-8), 3) by decide +kernel) 2 rfl c12 rfl (L1 := [(2, .inl (x1 + (-8))), (0, .inr (.inr (1 + 1))), (1, .inl a)]) rfl ?_
      refine y_goto (tgt := 3) (show decode cX8_putFour 43 = .ok (.goto (-40), 3) by decide +kernel) rfl ?_
      refine y_pick [1, 2, 0] rfl ?_
      exact hk3 _ _ h
