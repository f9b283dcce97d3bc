abbrev MX12_worthOf : yM := (yX12_worthOf, cX12_worthOf, 5, some .int)
def mo_worthOf (a : Int) (b : Int) (c : Int) (d : Int) (σ : ySt) : Option (Int) :=
  chkA 800 a <|
  if (σ 119 (a).toNat) = 104 then
    some c
  else
  if (σ 119 (a).toNat) = 110 then
    chkA 800 a <|
    some (σ 120 (a).toNat)
  else
  if (σ 119 (a).toNat) = 112 then
    some b
  else
  if (σ 119 (a).toNat) = 115 then
    some d
  else
  chkI (6 * (σ 92 40)) <|
    chkI ((6 * (σ 92 40)) + b) <|
    chkA 12 ((6 * (σ 92 40)) + b) <|
    some (σ 113 (((6 * (σ 92 40)) + b)).toNat)
set_option maxHeartbeats 4000000 in
set_option maxRecDepth 10000 in
theorem sh_mo_worthOf {E : yE} {a : Int} {b : Int} {c : Int} {d : Int} {σ : ySt} {ρ : Int} (h : mo_worthOf a b c d σ = some ρ) : Con E MX12_worthOf 0 0 0 [.inr (.inr (92 + 1)), .inl a, .inl b, .inl c, .inl d] 150 (ov σ) (some (.inl ρ)) (ov σ) := by
  unfold mo_worthOf at h
  refine Con.ofY (by decide +kernel) (by simp [yWords, yCat]) (fun hok _ => ?_)
  show Y E MX12_worthOf (yRm 0 0 0) (yQf E (150 + 0) 0 0 (some (.inl ρ)) (ov σ)) 0 [(0, .inr (.inr (92 + 1))), (1, .inl a), (2, .inl b), (3, .inl c), (4, .inl d)] [] (ov σ) 150 0 0
  refine y_aload_n (show decode cX12_worthOf 0 = .ok (.aload_n 0, 1) by decide +kernel) 0 rfl ?_
  refine y_getf 92 12 35 95 (by decide) rfl (by decide) (by decide) q6_82 (show decode cX12_worthOf 1 = .ok (.getfield 95, 3) by decide +kernel) (v := .inr (.inr (119 + 1))) rfl ?_
  refine y_iload_n (show decode cX12_worthOf 4 = .ok (.iload_n 1, 1) by decide +kernel) 1 rfl ?_
  obtain ⟨c1, h⟩ := chkA_some h
  refine yo_iald 119 800 (by decide) rfl c1 (ov_at rfl) (show decode cX12_worthOf 5 = .ok (.iaload, 1) by decide +kernel) ?_
  by_cases c2 : (σ 119 (a).toNat) = 104
  · rw [if_pos c2] at h
    refine y_lookup (off := 49) (tgt := 55) (show decode cX12_worthOf 6 = .ok (.lookupswitch 56 #[(104, 49), (110, 42), (112, 54), (115, 51)], 42) by decide +kernel) (by decide) (by rw [c2]; rfl) rfl ?_
    refine y_iload_n (show decode cX12_worthOf 55 = .ok (.iload_n 3, 1) by decide +kernel) 3 rfl ?_
    cases h
    exact y_iret (show decode cX12_worthOf 56 = .ok (.ireturn, 1) by decide +kernel) rfl
  rw [if_neg c2] at h
  by_cases c3 : (σ 119 (a).toNat) = 110
  · rw [if_pos c3] at h
    refine y_lookup (off := 42) (tgt := 48) (show decode cX12_worthOf 6 = .ok (.lookupswitch 56 #[(104, 49), (110, 42), (112, 54), (115, 51)], 42) by decide +kernel) (by decide) (by rw [c3]; rfl) rfl ?_
    refine y_aload_n (show decode cX12_worthOf 48 = .ok (.aload_n 0, 1) by decide +kernel) 0 rfl ?_
    refine y_getf 92 12 36 98 (by decide) rfl (by decide) (by decide) q6_83 (show decode cX12_worthOf 49 = .ok (.getfield 98, 3) by decide +kernel) (v := .inr (.inr (120 + 1))) rfl ?_
    refine y_iload_n (show decode cX12_worthOf 52 = .ok (.iload_n 1, 1) by decide +kernel) 1 rfl ?_
    obtain ⟨c4, h⟩ := chkA_some h
    refine yo_iald 120 800 (by decide) rfl c4 (ov_at rfl) (show decode cX12_worthOf 53 = .ok (.iaload, 1) by decide +kernel) ?_
    cases h
    exact y_iret (show decode cX12_worthOf 54 = .ok (.ireturn, 1) by decide +kernel) rfl
  rw [if_neg c3] at h
  by_cases c5 : (σ 119 (a).toNat) = 112
  · rw [if_pos c5] at h
    refine y_lookup (off := 54) (tgt := 60) (show decode cX12_worthOf 6 = .ok (.lookupswitch 56 #[(104, 49), (110, 42), (112, 54), (115, 51)], 42) by decide +kernel) (by decide) (by rw [c5]; rfl) rfl ?_
    refine y_iload_n (show decode cX12_worthOf 60 = .ok (.iload_n 2, 1) by decide +kernel) 2 rfl ?_
    cases h
    exact y_iret (show decode cX12_worthOf 61 = .ok (.ireturn, 1) by decide +kernel) rfl
  rw [if_neg c5] at h
  by_cases c6 : (σ 119 (a).toNat) = 115
  · rw [if_pos c6] at h
    refine y_lookup (off := 51) (tgt := 57) (show decode cX12_worthOf 6 = .ok (.lookupswitch 56 #[(104, 49), (110, 42), (112, 54), (115, 51)], 42) by decide +kernel) (by decide) (by rw [c6]; rfl) rfl ?_
    refine y_iload (show decode cX12_worthOf 57 = .ok (.iload 4, 2) by decide +kernel) 4 rfl ?_
    cases h
    exact y_iret (show decode cX12_worthOf 59 = .ok (.ireturn, 1) by decide +kernel) rfl
  rw [if_neg c6] at h
  refine y_lookup (off := 56) (tgt := 62) (show decode cX12_worthOf 6 = .ok (.lookupswitch 56 #[(104, 49), (110, 42), (112, 54), (115, 51)], 42) by decide +kernel) (by decide) (by simp only [List.toList_toArray]; rw [Op.lookupswitch.offset_cons, if_neg (fun q => c2 q.symm), Op.lookupswitch.offset_cons, if_neg (fun q => c3 q.symm), Op.lookupswitch.offset_cons, if_neg (fun q => c5 q.symm), Op.lookupswitch.offset_cons, if_neg (fun q => c6 q.symm)]; rfl) rfl ?_
  refine y_aload_n (show decode cX12_worthOf 62 = .ok (.aload_n 0, 1) by decide +kernel) 0 rfl ?_
  refine y_getf 92 12 29 77 (by decide) rfl (by decide) (by decide) q6_76 (show decode cX12_worthOf 63 = .ok (.getfield 77, 3) by decide +kernel) (v := .inr (.inr (113 + 1))) rfl ?_
  refine y_bipush (show decode cX12_worthOf 66 = .ok (.bipush 6, 2) by decide +kernel) rfl rfl ?_
  refine y_aload_n (show decode cX12_worthOf 68 = .ok (.aload_n 0, 1) by decide +kernel) 0 rfl ?_
  refine y_getf 92 12 40 311 (by decide) rfl (by decide) (by decide) q6_87 (show decode cX12_worthOf 69 = .ok (.getfield 311, 3) by decide +kernel) (v := .inl (σ 92 40)) rfl ?_
  obtain ⟨c7, h⟩ := chkI_some h
  refine y_imul (show decode cX12_worthOf 72 = .ok (.imul, 1) by decide +kernel) c7 ?_
  refine y_iload_n (show decode cX12_worthOf 73 = .ok (.iload_n 2, 1) by decide +kernel) 2 rfl ?_
  obtain ⟨c8, h⟩ := chkI_some h
  refine y_iadd (show decode cX12_worthOf 74 = .ok (.iadd, 1) by decide +kernel) c8 ?_
  obtain ⟨c9, h⟩ := chkA_some h
  refine yo_iald 113 12 (by decide) rfl c9 (ov_at rfl) (show decode cX12_worthOf 75 = .ok (.iaload, 1) by decide +kernel) ?_
  cases h
  exact y_iret (show decode cX12_worthOf 76 = .ok (.ireturn, 1) by decide +kernel) rfl
abbrev MX12_isRight : yM := (yX12_isRight, cX12_isRight, 7, some .boolean)
def mo_isRight (N : Nat) (a : Int) (b : Int) (c : Int) (σ : ySt) : Option (Int × ySt) :=
  chkI (6 * (σ 92 40)) <|
  chkI ((6 * (σ 92 40)) + a) <|
  chkA 12 ((6 * (σ 92 40)) + a) <|
  bnd (chkA 2 (σ 92 40) <|
    if ¬ (σ 105 ((σ 92 40)).toNat) = 0 then
      chkI (400 * (σ 92 40)) <|
      loopS2 (fun k11 x8 x9 σ10 =>
        chkA 2 (σ10 92 40) <|
        if x9 ≥ (σ10 118 ((σ10 92 40)).toNat) then
          chkA 70 0 <|
          if (σ10 123 ((0 : Int).toNat)) = 0 then
            some (0, σ10)
          else
            some (1, σ10)
        else
          chkA 800 x9 <|
          bnd (fun (y17 : Int) (σ18 : ySt) =>
            chkI (x9 + 1) <|
            k11 y17 (x9 + 1) σ18) fun j19 =>
          if ¬ (σ10 119 (x9).toNat) = 126 then
            bndO (mo_isLetter (σ10 119 (x9).toNat) σ10) fun r23 =>
            if r23 = 0 then
              chkI (x8 + (-1)) <|
              chkI ((x8 + (-1)) - 1) <|
              chkI ((x8 + (-1)) - 1) <|
              chkA 70 ((x8 + (-1)) - 1) <|
              chkA 70 (x8 + (-1)) <|
              bndO (mo_two (σ10 119 (x9).toNat) (σ10 123 (((x8 + (-1)) - 1)).toNat) (σ10 123 ((x8 + (-1))).toNat) σ10) fun r31 =>
              chkA 70 ((x8 + (-1)) - 1) <|
              bnd (yset σ10 123 (((x8 + (-1)) - 1)).toNat r31) fun σ33 =>
              j19 (x8 + (-1)) σ33
            else
              bndO (mo_worthOf x9 a b c σ10) fun r36 =>
              chkA 70 x8 <|
              bnd (yset σ10 123 (x8).toNat r36) fun σ38 =>
              chkI (x8 + 1) <|
              j19 (x8 + 1) σ38
          else
            chkI (x8 - 1) <|
            chkI (x8 - 1) <|
            chkA 70 (x8 - 1) <|
            bnd (fun (y44 : Int) =>
              chkA 70 (x8 - 1) <|
              bnd (yset σ10 123 ((x8 - 1)).toNat y44) fun σ47 =>
              j19 x8 σ47) fun j45 =>
            if ¬ (σ10 123 ((x8 - 1)).toNat) = 0 then
              j45 0
            else
              j45 1) N 0 (400 * (σ 92 40)) σ
    else
      chk ((2 : Int) ≠ 0) <|
      chkI ((b : Int).tmod 2) <|
      if ¬ ((b : Int).tmod 2) = 0 then
        some (0, σ)
      else
        some (1, σ)) fun j4 =>
  if (σ 106 (((6 * (σ 92 40)) + a)).toNat) = 0 then
    j4
  else
    if b ≤ 0 then
      j4
    else
      some (0, σ)
set_option maxHeartbeats 4000000 in
set_option maxRecDepth 10000 in
theorem sh_mo_isRight {E : yE} {N : Nat} {a : Int} {b : Int} {c : Int} {σ : ySt} {ρ : Int} {τ : ySt} (h : mo_isRight N a b c σ = some (ρ, τ)) : Con E MX12_isRight 1 0 0 [.inr (.inr (92 + 1)), .inl a, .inl b, .inl c] 150 (ov σ) (some (.inl ρ)) (ov τ) := by
  unfold mo_isRight at h
  refine Con.ofY (by decide +kernel) (by simp [yWords, yCat]) (fun hok _ => ?_)
  show Y E MX12_isRight (yRm 1 0 0) (yQf E (150 + 0) 0 0 (some (.inl ρ)) (ov τ)) 0 [(0, .inr (.inr (92 + 1))), (1, .inl a), (2, .inl b), (3, .inl c)] [] (ov σ) 150 0 0
  refine y_aload_n (show decode cX12_isRight 0 = .ok (.aload_n 0, 1) by decide +kernel) 0 rfl ?_
  refine y_getf 92 12 22 55 (by decide) rfl (by decide) (by decide) q6_69 (show decode cX12_isRight 1 = .ok (.getfield 55, 3) by decide +kernel) (v := .inr (.inr (106 + 1))) rfl ?_
  refine y_bipush (show decode cX12_isRight 4 = .ok (.bipush 6, 2) by decide +kernel) rfl rfl ?_
  refine y_aload_n (show decode cX12_isRight 6 = .ok (.aload_n 0, 1) by decide +kernel) 0 rfl ?_
  refine y_getf 92 12 40 311 (by decide) rfl (by decide) (by decide) q6_87 (show decode cX12_isRight 7 = .ok (.getfield 311, 3) by decide +kernel) (v := .inl (σ 92 40)) rfl ?_
  obtain ⟨c1, h⟩ := chkI_some h
  refine y_imul (show decode cX12_isRight 10 = .ok (.imul, 1) by decide +kernel) c1 ?_
  refine y_iload_n (show decode cX12_isRight 11 = .ok (.iload_n 1, 1) by decide +kernel) 1 rfl ?_
  obtain ⟨c2, h⟩ := chkI_some h
  refine y_iadd (show decode cX12_isRight 12 = .ok (.iadd, 1) by decide +kernel) c2 ?_
  obtain ⟨c3, h⟩ := chkA_some h
  refine yo_zald 106 12 (by decide) rfl c3 (ov_at rfl) (show decode cX12_isRight 13 = .ok (.baload, 1) by decide +kernel) ?_
  refine bnd_j (Q := fun j4 => j4 = some (ρ, τ) → Y E MX12_isRight (yRm 1 0 0) (yQf E (150 + 0) 0 0 (some (.inl ρ)) (ov τ)) 23 [(0, .inr (.inr (92 + 1))), (1, .inl a), (2, .inl b), (3, .inl c)] [] (ov σ) 150 0 0) (fun h => ?_) (fun j4 hj4 h => ?_) h
  · refine y_aload_n (show decode cX12_isRight 23 = .ok (.aload_n 0, 1) by decide +kernel) 0 rfl ?_
    refine y_getf 92 12 21 52 (by decide) rfl (by decide) (by decide) q6_68 (show decode cX12_isRight 24 = .ok (.getfield 52, 3) by decide +kernel) (v := .inr (.inr (105 + 1))) rfl ?_
    refine y_aload_n (show decode cX12_isRight 27 = .ok (.aload_n 0, 1) by decide +kernel) 0 rfl ?_
    refine y_getf 92 12 40 311 (by decide) rfl (by decide) (by decide) q6_87 (show decode cX12_isRight 28 = .ok (.getfield 311, 3) by decide +kernel) (v := .inl (σ 92 40)) rfl ?_
    obtain ⟨c5, h⟩ := chkA_some h
    refine yo_zald 105 2 (by decide) rfl c5 (ov_at rfl) (show decode cX12_isRight 31 = .ok (.baload, 1) by decide +kernel) ?_
    by_cases c6 : ¬ (σ 105 ((σ 92 40)).toNat) = 0
    · rw [if_pos c6] at h
      refine y_if_ne_t (tgt := 47) (show decode cX12_isRight 32 = .ok (.ifCond .ne 15, 3) by decide +kernel) rfl c6 ?_
      refine y_iconst (show decode cX12_isRight 47 = .ok (.iconst 0, 1) by decide +kernel) rfl ?_
      refine y_istore (show decode cX12_isRight 48 = .ok (.istore 4, 2) by decide +kernel) rfl (L1 := [(4, .inl 0), (0, .inr (.inr (92 + 1))), (1, .inl a), (2, .inl b), (3, .inl c)]) rfl ?_
      refine y_sipush (show decode cX12_isRight 50 = .ok (.sipush 400, 3) by decide +kernel) rfl rfl ?_
      refine y_aload_n (show decode cX12_isRight 53 = .ok (.aload_n 0, 1) by decide +kernel) 1 rfl ?_
      refine y_getf 92 12 40 311 (by decide) rfl (by decide) (by decide) q6_87 (show decode cX12_isRight 54 = .ok (.getfield 311, 3) by decide +kernel) (v := .inl (σ 92 40)) rfl ?_
      obtain ⟨c7, h⟩ := chkI_some h
      refine y_imul (show decode cX12_isRight 57 = .ok (.imul, 1) by decide +kernel) c7 ?_
      refine y_istore (show decode cX12_isRight 58 = .ok (.istore 5, 2) by decide +kernel) rfl (L1 := [(5, .inl (400 * (σ 92 40))), (4, .inl 0), (0, .inr (.inr (92 + 1))), (1, .inl a), (2, .inl b), (3, .inl c)]) rfl ?_
      refine y_pick [2, 3, 4, 5, 1, 0] rfl ?_
      refine loopS2_ind (P := fun x8 x9 σ10 => Y E MX12_isRight (yRm 1 0 0) (yQf E (150 + 0) 0 0 (some (.inl ρ)) (ov τ)) 60 [(0, .inr (.inr (92 + 1))), (1, .inl a), (2, .inl b), (3, .inl c), (4, .inl x8), (5, .inl x9)] [] (ov σ10) 150 0 0) (fun k11 hk11 x8 x9 σ10 h => ?_) _ _ _ _  h
      refine y_iload (show decode cX12_isRight 60 = .ok (.iload 5, 2) by decide +kernel) 5 rfl ?_
      refine y_aload_n (show decode cX12_isRight 62 = .ok (.aload_n 0, 1) by decide +kernel) 0 rfl ?_
      refine y_getf 92 12 34 92 (by decide) rfl (by decide) (by decide) q6_81 (show decode cX12_isRight 63 = .ok (.getfield 92, 3) by decide +kernel) (v := .inr (.inr (118 + 1))) rfl ?_
      refine y_aload_n (show decode cX12_isRight 66 = .ok (.aload_n 0, 1) by decide +kernel) 0 rfl ?_
      refine y_getf 92 12 40 311 (by decide) rfl (by decide) (by decide) q6_87 (show decode cX12_isRight 67 = .ok (.getfield 311, 3) by decide +kernel) (v := .inl (σ10 92 40)) rfl ?_
      obtain ⟨c12, h⟩ := chkA_some h
      refine yo_iald 118 2 (by decide) rfl c12 (ov_at rfl) (show decode cX12_isRight 70 = .ok (.iaload, 1) by decide +kernel) ?_
      by_cases c13 : x9 ≥ (σ10 118 ((σ10 92 40)).toNat)
      · rw [if_pos c13] at h
        refine y_icmp_ge_t (tgt := 188) (show decode cX12_isRight 71 = .ok (.if_icmp .ge 117, 3) by decide +kernel) rfl c13 ?_
        refine y_aload_n (show decode cX12_isRight 188 = .ok (.aload_n 0, 1) by decide +kernel) 0 rfl ?_
        refine y_getf 92 12 39 107 (by decide) rfl (by decide) (by decide) q6_86 (show decode cX12_isRight 189 = .ok (.getfield 107, 3) by decide +kernel) (v := .inr (.inr (123 + 1))) rfl ?_
        refine y_iconst (show decode cX12_isRight 192 = .ok (.iconst 0, 1) by decide +kernel) rfl ?_
        obtain ⟨c14, h⟩ := chkA_some h
        refine yo_iald 123 70 (by decide) rfl c14 (ov_at rfl) (show decode cX12_isRight 193 = .ok (.iaload, 1) by decide +kernel) ?_
        by_cases c15 : (σ10 123 ((0 : Int).toNat)) = 0
        · rw [if_pos c15] at h
          refine y_if_eq_t (tgt := 201) (show decode cX12_isRight 194 = .ok (.ifCond .eq 7, 3) by decide +kernel) rfl c15 ?_
          refine y_iconst (show decode cX12_isRight 201 = .ok (.iconst 0, 1) by decide +kernel) rfl ?_
          cases h
          exact y_zret (show decode cX12_isRight 202 = .ok (.ireturn, 1) by decide +kernel) rfl (Or.inl rfl)
        · rw [if_neg c15] at h
          refine y_if_eq_f (show decode cX12_isRight 194 = .ok (.ifCond .eq 7, 3) by decide +kernel) c15 (by decide) ?_
          refine y_iconst (show decode cX12_isRight 197 = .ok (.iconst 1, 1) by decide +kernel) rfl ?_
          refine y_goto (tgt := 202) (show decode cX12_isRight 198 = .ok (.goto 4, 3) by decide +kernel) rfl ?_
          cases h
          exact y_zret (show decode cX12_isRight 202 = .ok (.ireturn, 1) by decide +kernel) rfl (Or.inr rfl)
      · rw [if_neg c13] at h
        refine y_icmp_ge_f (show decode cX12_isRight 71 = .ok (.if_icmp .ge 117, 3) by decide +kernel) c13 (by decide) ?_
        refine y_aload_n (show decode cX12_isRight 74 = .ok (.aload_n 0, 1) by decide +kernel) 0 rfl ?_
        refine y_getf 92 12 35 95 (by decide) rfl (by decide) (by decide) q6_82 (show decode cX12_isRight 75 = .ok (.getfield 95, 3) by decide +kernel) (v := .inr (.inr (119 + 1))) rfl ?_
        refine y_iload (show decode cX12_isRight 78 = .ok (.iload 5, 2) by decide +kernel) 5 rfl ?_
        obtain ⟨c16, h⟩ := chkA_some h
        refine yo_iald 119 800 (by decide) rfl c16 (ov_at rfl) (show decode cX12_isRight 80 = .ok (.iaload, 1) by decide +kernel) ?_
        refine y_istore (show decode cX12_isRight 81 = .ok (.istore 6, 2) by decide +kernel) rfl (L1 := [(6, .inl (σ10 119 (x9).toNat)), (0, .inr (.inr (92 + 1))), (1, .inl a), (2, .inl b), (3, .inl c), (4, .inl x8), (5, .inl x9)]) rfl ?_
        refine y_iload (show decode cX12_isRight 83 = .ok (.iload 6, 2) by decide +kernel) 0 rfl ?_
        refine y_bipush (show decode cX12_isRight 85 = .ok (.bipush 126, 2) by decide +kernel) rfl rfl ?_
        refine bnd_j (Q := fun j19 => ∀ (y17 : Int) (σ18 : ySt), j19 y17 σ18 = some (ρ, τ) → Y E MX12_isRight (yRm 1 0 0) (yQf E (150 + 0) 0 0 (some (.inl ρ)) (ov τ)) 182 [(0, .inr (.inr (92 + 1))), (1, .inl a), (2, .inl b), (3, .inl c), (4, .inl y17), (5, .inl x9)] [] (ov σ18) 150 0 0) (fun y17 σ18 h => ?_) (fun j19 hj19 h => ?_) h
        · dsimp only at h
          obtain ⟨c20, h⟩ := chkI_some h
          refine y_iinc (show decode cX12_isRight 182 = .ok (.iinc 5 1, 3) by decide +kernel) 5 rfl c20 rfl (L1 := [(5, .inl (x9 + 1)), (0, .inr (.inr (92 + 1))), (1, .inl a), (2, .inl b), (3, .inl c), (4, .inl y17)]) rfl ?_
          refine y_goto (tgt := 60) (show decode cX12_isRight 185 = .ok (.goto (-125), 3) by decide +kernel) rfl ?_
          refine y_pick [1, 2, 3, 4, 5, 0] rfl ?_
          exact hk11 _ _ _ h
        by_cases c21 : ¬ (σ10 119 (x9).toNat) = 126
        · rw [if_pos c21] at h
          refine y_icmp_ne_t (tgt := 119) (show decode cX12_isRight 87 = .ok (.if_icmp .ne 32, 3) by decide +kernel) rfl c21 ?_
          refine y_iload (show decode cX12_isRight 119 = .ok (.iload 6, 2) by decide +kernel) 0 rfl ?_
          obtain ⟨r23, e22, h⟩ := bndO_some h
          refine y_callS (np := 1) (st := []) (as := [.inl (σ10 119 (x9).toNat)]) (sh_mo_isLetter e22) q7_87 q7_85 q7_86 q1_15 (by decide) (by decide +kernel) (by decide) rfl (Nat.le_of_ble_eq_true rfl) (show decode cX12_isRight 121 = .ok (.invokestatic 252, 3) by decide +kernel) rfl ?_
          by_cases c24 : r23 = 0
          · rw [if_pos c24] at h
            refine y_if_eq_t (tgt := 149) (show decode cX12_isRight 124 = .ok (.ifCond .eq 25, 3) by decide +kernel) rfl c24 ?_
            obtain ⟨c25, h⟩ := chkI_some h
            refine y_iinc (show decode cX12_isRight 149 = .ok (.iinc 4 (-1), 3) by decide +kernel) 5 rfl c25 rfl (L1 := [(4, .inl (x8 + (-1))), (6, .inl (σ10 119 (x9).toNat)), (0, .inr (.inr (92 + 1))), (1, .inl a), (2, .inl b), (3, .inl c), (5, .inl x9)]) rfl ?_
            refine y_aload_n (show decode cX12_isRight 152 = .ok (.aload_n 0, 1) by decide +kernel) 2 rfl ?_
            refine y_getf 92 12 39 107 (by decide) rfl (by decide) (by decide) q6_86 (show decode cX12_isRight 153 = .ok (.getfield 107, 3) by decide +kernel) (v := .inr (.inr (123 + 1))) rfl ?_
            refine y_iload (show decode cX12_isRight 156 = .ok (.iload 4, 2) by decide +kernel) 0 rfl ?_
            refine y_iconst (show decode cX12_isRight 158 = .ok (.iconst 1, 1) by decide +kernel) rfl ?_
            obtain ⟨c26, h⟩ := chkI_some h
            refine y_isub (show decode cX12_isRight 159 = .ok (.isub, 1) by decide +kernel) c26 ?_
            refine y_iload (show decode cX12_isRight 160 = .ok (.iload 6, 2) by decide +kernel) 1 rfl ?_
            refine y_aload_n (show decode cX12_isRight 162 = .ok (.aload_n 0, 1) by decide +kernel) 2 rfl ?_
            refine y_getf 92 12 39 107 (by decide) rfl (by decide) (by decide) q6_86 (show decode cX12_isRight 163 = .ok (.getfield 107, 3) by decide +kernel) (v := .inr (.inr (123 + 1))) rfl ?_
            refine y_iload (show decode cX12_isRight 166 = .ok (.iload 4, 2) by decide +kernel) 0 rfl ?_
            refine y_iconst (show decode cX12_isRight 168 = .ok (.iconst 1, 1) by decide +kernel) rfl ?_
            obtain ⟨c27, h⟩ := chkI_some h
            refine y_isub (show decode cX12_isRight 169 = .ok (.isub, 1) by decide +kernel) c27 ?_
            obtain ⟨c28, h⟩ := chkA_some h
            refine yo_iald 123 70 (by decide) rfl c28 (ov_at rfl) (show decode cX12_isRight 170 = .ok (.iaload, 1) by decide +kernel) ?_
            refine y_aload_n (show decode cX12_isRight 171 = .ok (.aload_n 0, 1) by decide +kernel) 2 rfl ?_
            refine y_getf 92 12 39 107 (by decide) rfl (by decide) (by decide) q6_86 (show decode cX12_isRight 172 = .ok (.getfield 107, 3) by decide +kernel) (v := .inr (.inr (123 + 1))) rfl ?_
            refine y_iload (show decode cX12_isRight 175 = .ok (.iload 4, 2) by decide +kernel) 0 rfl ?_
            obtain ⟨c29, h⟩ := chkA_some h
            refine yo_iald 123 70 (by decide) rfl c29 (ov_at rfl) (show decode cX12_isRight 177 = .ok (.iaload, 1) by decide +kernel) ?_
            obtain ⟨r31, e30, h⟩ := bndO_some h
            refine y_callS (np := 3) (st := [.inl ((x8 + (-1)) - 1), .inr (.inr (123 + 1))]) (as := [.inl (σ10 119 (x9).toNat), .inl (σ10 123 (((x8 + (-1)) - 1)).toNat), .inl (σ10 123 ((x8 + (-1))).toNat)]) (sh_mo_two e30) q8_37 q8_35 q8_36 q1_15 (by decide) (by decide +kernel) (by decide) rfl (Nat.le_of_ble_eq_true rfl) (show decode cX12_isRight 178 = .ok (.invokestatic 407, 3) by decide +kernel) rfl ?_
            obtain ⟨c32, h⟩ := chkA_some h
            obtain ⟨σ33, e34, h⟩ := bnd_i h
            refine yo_iast 123 70 (by decide) rfl c32 (ov_set1 e34 rfl) (show decode cX12_isRight 181 = .ok (.iastore, 1) by decide +kernel) ?_
            refine y_pick [2, 3, 4, 5, 0, 6] rfl ?_
            exact hj19 _ _ h
          · rw [if_neg c24] at h
            refine y_if_eq_f (show decode cX12_isRight 124 = .ok (.ifCond .eq 25, 3) by decide +kernel) c24 (by decide) ?_
            refine y_aload_n (show decode cX12_isRight 127 = .ok (.aload_n 0, 1) by decide +kernel) 1 rfl ?_
            refine y_getf 92 12 39 107 (by decide) rfl (by decide) (by decide) q6_86 (show decode cX12_isRight 128 = .ok (.getfield 107, 3) by decide +kernel) (v := .inr (.inr (123 + 1))) rfl ?_
            refine y_iload (show decode cX12_isRight 131 = .ok (.iload 4, 2) by decide +kernel) 5 rfl ?_
            refine y_aload_n (show decode cX12_isRight 133 = .ok (.aload_n 0, 1) by decide +kernel) 1 rfl ?_
            refine y_iload (show decode cX12_isRight 134 = .ok (.iload 5, 2) by decide +kernel) 6 rfl ?_
            refine y_iload_n (show decode cX12_isRight 136 = .ok (.iload_n 1, 1) by decide +kernel) 2 rfl ?_
            refine y_iload_n (show decode cX12_isRight 137 = .ok (.iload_n 2, 1) by decide +kernel) 3 rfl ?_
            refine y_iload_n (show decode cX12_isRight 138 = .ok (.iload_n 3, 1) by decide +kernel) 4 rfl ?_
            obtain ⟨r36, e35, h⟩ := bndO_some h
            refine y_callV (np := 4) (st := [.inl x8, .inr (.inr (123 + 1))]) (as := [.inl x9, .inl a, .inl b, .inl c]) 92 12 (sh_mo_worthOf e35) q8_34 q8_31 q8_33 qs6_10 q1_15 (by decide) rfl (by decide) rfl (by decide) (by decide +kernel) (by decide) rfl (Nat.le_of_ble_eq_true rfl) (show decode cX12_isRight 139 = .ok (.invokevirtual 403, 3) by decide +kernel) rfl ?_
            obtain ⟨c37, h⟩ := chkA_some h
            obtain ⟨σ38, e39, h⟩ := bnd_i h
            refine yo_iast 123 70 (by decide) rfl c37 (ov_set1 e39 rfl) (show decode cX12_isRight 142 = .ok (.iastore, 1) by decide +kernel) ?_
            obtain ⟨c40, h⟩ := chkI_some h
            refine y_iinc (show decode cX12_isRight 143 = .ok (.iinc 4 1, 3) by decide +kernel) 5 rfl c40 rfl (L1 := [(4, .inl (x8 + 1)), (6, .inl (σ10 119 (x9).toNat)), (0, .inr (.inr (92 + 1))), (1, .inl a), (2, .inl b), (3, .inl c), (5, .inl x9)]) rfl ?_
            refine y_goto (tgt := 182) (show decode cX12_isRight 146 = .ok (.goto 36, 3) by decide +kernel) rfl ?_
            refine y_pick [2, 3, 4, 5, 0, 6] rfl ?_
            exact hj19 _ _ h
        · rw [if_neg c21] at h
          refine y_icmp_ne_f (show decode cX12_isRight 87 = .ok (.if_icmp .ne 32, 3) by decide +kernel) c21 (by decide) ?_
          refine y_aload_n (show decode cX12_isRight 90 = .ok (.aload_n 0, 1) by decide +kernel) 1 rfl ?_
          refine y_getf 92 12 39 107 (by decide) rfl (by decide) (by decide) q6_86 (show decode cX12_isRight 91 = .ok (.getfield 107, 3) by decide +kernel) (v := .inr (.inr (123 + 1))) rfl ?_
          refine y_iload (show decode cX12_isRight 94 = .ok (.iload 4, 2) by decide +kernel) 5 rfl ?_
          refine y_iconst (show decode cX12_isRight 96 = .ok (.iconst 1, 1) by decide +kernel) rfl ?_
          obtain ⟨c41, h⟩ := chkI_some h
          refine y_isub (show decode cX12_isRight 97 = .ok (.isub, 1) by decide +kernel) c41 ?_
          refine y_aload_n (show decode cX12_isRight 98 = .ok (.aload_n 0, 1) by decide +kernel) 1 rfl ?_
          refine y_getf 92 12 39 107 (by decide) rfl (by decide) (by decide) q6_86 (show decode cX12_isRight 99 = .ok (.getfield 107, 3) by decide +kernel) (v := .inr (.inr (123 + 1))) rfl ?_
          refine y_iload (show decode cX12_isRight 102 = .ok (.iload 4, 2) by decide +kernel) 5 rfl ?_
          refine y_iconst (show decode cX12_isRight 104 = .ok (.iconst 1, 1) by decide +kernel) rfl ?_
          obtain ⟨c42, h⟩ := chkI_some h
          refine y_isub (show decode cX12_isRight 105 = .ok (.isub, 1) by decide +kernel) c42 ?_
          obtain ⟨c43, h⟩ := chkA_some h
          refine yo_iald 123 70 (by decide) rfl c43 (ov_at rfl) (show decode cX12_isRight 106 = .ok (.iaload, 1) by decide +kernel) ?_
          refine bnd_j (Q := fun j45 => ∀ (y44 : Int), j45 y44 = some (ρ, τ) → Y E MX12_isRight (yRm 1 0 0) (yQf E (150 + 0) 0 0 (some (.inl ρ)) (ov τ)) 115 [(0, .inr (.inr (92 + 1))), (1, .inl a), (2, .inl b), (3, .inl c), (4, .inl x8), (5, .inl x9)] [.inl y44, .inl (x8 - 1), .inr (.inr (123 + 1))] (ov σ10) 150 0 0) (fun y44 h => ?_) (fun j45 hj45 h => ?_) h
          · dsimp only at h
            obtain ⟨c46, h⟩ := chkA_some h
            obtain ⟨σ47, e48, h⟩ := bnd_i h
            refine yo_iast 123 70 (by decide) rfl c46 (ov_set1 e48 rfl) (show decode cX12_isRight 115 = .ok (.iastore, 1) by decide +kernel) ?_
            refine y_goto (tgt := 182) (show decode cX12_isRight 116 = .ok (.goto 66, 3) by decide +kernel) rfl ?_
            refine y_pick [0, 1, 2, 3, 4, 5] rfl ?_
            exact hj19 _ _ h
          by_cases c49 : ¬ (σ10 123 ((x8 - 1)).toNat) = 0
          · rw [if_pos c49] at h
            refine y_if_ne_t (tgt := 114) (show decode cX12_isRight 107 = .ok (.ifCond .ne 7, 3) by decide +kernel) rfl c49 ?_
            refine y_iconst (show decode cX12_isRight 114 = .ok (.iconst 0, 1) by decide +kernel) rfl ?_
            refine y_pick [1, 2, 3, 4, 5, 6] rfl ?_
            exact hj45 _ h
          · rw [if_neg c49] at h
            refine y_if_ne_f (show decode cX12_isRight 107 = .ok (.ifCond .ne 7, 3) by decide +kernel) c49 (by decide) ?_
            refine y_iconst (show decode cX12_isRight 110 = .ok (.iconst 1, 1) by decide +kernel) rfl ?_
            refine y_goto (tgt := 115) (show decode cX12_isRight 111 = .ok (.goto 4, 3) by decide +kernel) rfl ?_
            refine y_pick [1, 2, 3, 4, 5, 6] rfl ?_
            exact hj45 _ h
    · rw [if_neg c6] at h
      refine y_if_ne_f (show decode cX12_isRight 32 = .ok (.ifCond .ne 15, 3) by decide +kernel) c6 (by decide) ?_
      refine y_iload_n (show decode cX12_isRight 35 = .ok (.iload_n 2, 1) by decide +kernel) 2 rfl ?_
      refine y_iconst (show decode cX12_isRight 36 = .ok (.iconst 2, 1) by decide +kernel) rfl ?_
      obtain ⟨c50, h⟩ := chk_some h
      obtain ⟨c51, h⟩ := chkI_some h
      refine y_irem (show decode cX12_isRight 37 = .ok (.irem, 1) by decide +kernel) c50 c51 ?_
      by_cases c52 : ¬ ((b : Int).tmod 2) = 0
      · rw [if_pos c52] at h
        refine y_if_ne_t (tgt := 45) (show decode cX12_isRight 38 = .ok (.ifCond .ne 7, 3) by decide +kernel) rfl c52 ?_
        refine y_iconst (show decode cX12_isRight 45 = .ok (.iconst 0, 1) by decide +kernel) rfl ?_
        cases h
        exact y_zret (show decode cX12_isRight 46 = .ok (.ireturn, 1) by decide +kernel) rfl (Or.inl rfl)
      · rw [if_neg c52] at h
        refine y_if_ne_f (show decode cX12_isRight 38 = .ok (.ifCond .ne 7, 3) by decide +kernel) c52 (by decide) ?_
        refine y_iconst (show decode cX12_isRight 41 = .ok (.iconst 1, 1) by decide +kernel) rfl ?_
        refine y_goto (tgt := 46) (show decode cX12_isRight 42 = .ok (.goto 4, 3) by decide +kernel) rfl ?_
        cases h
        exact y_zret (show decode cX12_isRight 46 = .ok (.ireturn, 1) by decide +kernel) rfl (Or.inr rfl)
  by_cases c53 : (σ 106 (((6 * (σ 92 40)) + a)).toNat) = 0
  · rw [if_pos c53] at h
    refine y_if_eq_t (tgt := 23) (show decode cX12_isRight 14 = .ok (.ifCond .eq 9, 3) by decide +kernel) rfl c53 ?_
    refine y_pick [0, 1, 2, 3] rfl ?_
    exact hj4 h
  · rw [if_neg c53] at h
    refine y_if_eq_f (show decode cX12_isRight 14 = .ok (.ifCond .eq 9, 3) by decide +kernel) c53 (by decide) ?_
    refine y_iload_n (show decode cX12_isRight 17 = .ok (.iload_n 2, 1) by decide +kernel) 2 rfl ?_
    by_cases c54 : b ≤ 0
    · rw [if_pos c54] at h
      refine y_if_le_t (tgt := 23) (show decode cX12_isRight 18 = .ok (.ifCond .le 5, 3) by decide +kernel) rfl c54 ?_
      refine y_pick [0, 1, 2, 3] rfl ?_
      exact hj4 h
    · rw [if_neg c54] at h
      refine y_if_le_f (show decode cX12_isRight 18 = .ok (.ifCond .le 5, 3) by decide +kernel) c54 (by decide) ?_
      refine y_iconst (show decode cX12_isRight 21 = .ok (.iconst 0, 1) by decide +kernel) rfl ?_
      cases h
      exact y_zret (show decode cX12_isRight 22 = .ok (.ireturn, 1) by decide +kernel) rfl (Or.inl rfl)
abbrev MX12_fault : yM := (yX12_fault, cX12_fault, 2, some .int)
def mo_fault (a : Int) (σ : ySt) : Option (Int) :=
  if ¬ a = 0 then
    if ¬ a = 1 then
      some (-1)
    else
      some (σ 92 5)
  else
    some (σ 92 4)
set_option maxHeartbeats 4000000 in
set_option maxRecDepth 10000 in
theorem sh_mo_fault {E : yE} {a : Int} {σ : ySt} {ρ : Int} (h : mo_fault a σ = some ρ) : Con E MX12_fault 0 0 0 [.inr (.inr (92 + 1)), .inl a] 150 (ov σ) (some (.inl ρ)) (ov σ) := by
  unfold mo_fault at h
  refine Con.ofY (by decide +kernel) (by simp [yWords, yCat]) (fun hok _ => ?_)
  show Y E MX12_fault (yRm 0 0 0) (yQf E (150 + 0) 0 0 (some (.inl ρ)) (ov σ)) 0 [(0, .inr (.inr (92 + 1))), (1, .inl a)] [] (ov σ) 150 0 0
  refine y_iload_n (show decode cX12_fault 0 = .ok (.iload_n 1, 1) by decide +kernel) 1 rfl ?_
  by_cases c1 : ¬ a = 0
  · rw [if_pos c1] at h
    refine y_if_ne_t (tgt := 11) (show decode cX12_fault 1 = .ok (.ifCond .ne 10, 3) by decide +kernel) rfl c1 ?_
    refine y_iload_n (show decode cX12_fault 11 = .ok (.iload_n 1, 1) by decide +kernel) 1 rfl ?_
    refine y_iconst (show decode cX12_fault 12 = .ok (.iconst 1, 1) by decide +kernel) rfl ?_
    by_cases c2 : ¬ a = 1
    · rw [if_pos c2] at h
      refine y_icmp_ne_t (tgt := 23) (show decode cX12_fault 13 = .ok (.if_icmp .ne 10, 3) by decide +kernel) rfl c2 ?_
      refine y_iconst (show decode cX12_fault 23 = .ok (.iconst (-1), 1) by decide +kernel) rfl ?_
      cases h
      exact y_iret (show decode cX12_fault 24 = .ok (.ireturn, 1) by decide +kernel) rfl
    · rw [if_neg c2] at h
      refine y_icmp_ne_f (show decode cX12_fault 13 = .ok (.if_icmp .ne 10, 3) by decide +kernel) c2 (by decide) ?_
      refine y_aload_n (show decode cX12_fault 16 = .ok (.aload_n 0, 1) by decide +kernel) 0 rfl ?_
      refine y_getf 92 12 5 16 (by decide) rfl (by decide) (by decide) q6_52 (show decode cX12_fault 17 = .ok (.getfield 16, 3) by decide +kernel) (v := .inl (σ 92 5)) rfl ?_
      refine y_goto (tgt := 24) (show decode cX12_fault 20 = .ok (.goto 4, 3) by decide +kernel) rfl ?_
      cases h
      exact y_iret (show decode cX12_fault 24 = .ok (.ireturn, 1) by decide +kernel) rfl
  · rw [if_neg c1] at h
    refine y_if_ne_f (show decode cX12_fault 1 = .ok (.ifCond .ne 10, 3) by decide +kernel) c1 (by decide) ?_
    refine y_aload_n (show decode cX12_fault 4 = .ok (.aload_n 0, 1) by decide +kernel) 0 rfl ?_
    refine y_getf 92 12 4 198 (by decide) rfl (by decide) (by decide) q6_51 (show decode cX12_fault 5 = .ok (.getfield 198, 3) by decide +kernel) (v := .inl (σ 92 4)) rfl ?_
    refine y_goto (tgt := 24) (show decode cX12_fault 8 = .ok (.goto 16, 3) by decide +kernel) rfl ?_
    cases h
    exact y_iret (show decode cX12_fault 24 = .ok (.ireturn, 1) by decide +kernel) rfl
abbrev MX12_isIn : yM := (yX12_isIn, cX12_isIn, 3, some .boolean)
def mo_isIn (a : Int) (b : Int) (c : Int) (σ : ySt) : Option (Int) :=
  if a < b then
    some 0
  else
    if a > c then
      some 0
    else
      some 1
set_option maxHeartbeats 4000000 in
set_option maxRecDepth 10000 in
theorem sh_mo_isIn {E : yE} {a : Int} {b : Int} {c : Int} {σ : ySt} {ρ : Int} (h : mo_isIn a b c σ = some ρ) : Con E MX12_isIn 0 0 0 [.inl a, .inl b, .inl c] 150 (ov σ) (some (.inl ρ)) (ov σ) := by
  unfold mo_isIn at h
  refine Con.ofY (by decide +kernel) (by simp [yWords, yCat]) (fun hok _ => ?_)
  show Y E MX12_isIn (yRm 0 0 0) (yQf E (150 + 0) 0 0 (some (.inl ρ)) (ov σ)) 0 [(0, .inl a), (1, .inl b), (2, .inl c)] [] (ov σ) 150 0 0
  refine y_iload_n (show decode cX12_isIn 0 = .ok (.iload_n 0, 1) by decide +kernel) 0 rfl ?_
  refine y_iload_n (show decode cX12_isIn 1 = .ok (.iload_n 1, 1) by decide +kernel) 1 rfl ?_
  by_cases c1 : a < b
  · rw [if_pos c1] at h
    refine y_icmp_lt_t (tgt := 14) (show decode cX12_isIn 2 = .ok (.if_icmp .lt 12, 3) by decide +kernel) rfl c1 ?_
    refine y_iconst (show decode cX12_isIn 14 = .ok (.iconst 0, 1) by decide +kernel) rfl ?_
    cases h
    exact y_zret (show decode cX12_isIn 15 = .ok (.ireturn, 1) by decide +kernel) rfl (Or.inl rfl)
  · rw [if_neg c1] at h
    refine y_icmp_lt_f (show decode cX12_isIn 2 = .ok (.if_icmp .lt 12, 3) by decide +kernel) c1 (by decide) ?_
    refine y_iload_n (show decode cX12_isIn 5 = .ok (.iload_n 0, 1) by decide +kernel) 0 rfl ?_
    refine y_iload_n (show decode cX12_isIn 6 = .ok (.iload_n 2, 1) by decide +kernel) 2 rfl ?_
    by_cases c2 : a > c
    · rw [if_pos c2] at h
      refine y_icmp_gt_t (tgt := 14) (show decode cX12_isIn 7 = .ok (.if_icmp .gt 7, 3) by decide +kernel) rfl c2 ?_
      refine y_iconst (show decode cX12_isIn 14 = .ok (.iconst 0, 1) by decide +kernel) rfl ?_
      cases h
      exact y_zret (show decode cX12_isIn 15 = .ok (.ireturn, 1) by decide +kernel) rfl (Or.inl rfl)
    · rw [if_neg c2] at h
      refine y_icmp_gt_f (show decode cX12_isIn 7 = .ok (.if_icmp .gt 7, 3) by decide +kernel) c2 (by decide) ?_
      refine y_iconst (show decode cX12_isIn 10 = .ok (.iconst 1, 1) by decide +kernel) rfl ?_
      refine y_goto (tgt := 15) (show decode cX12_isIn 11 = .ok (.goto 4, 3) by decide +kernel) rfl ?_
      cases h
      exact y_zret (show decode cX12_isIn 15 = .ok (.ireturn, 1) by decide +kernel) rfl (Or.inr rfl)
abbrev MX12_placeMany : yM := (yX12_placeMany, cX12_placeMany, 1, some .int)
def mo_placeMany (σ : ySt) : Option (Int) :=
  chkA 2 (σ 92 40) <|
  some (σ 95 ((σ 92 40)).toNat)
set_option maxHeartbeats 4000000 in
set_option maxRecDepth 10000 in
theorem sh_mo_placeMany {E : yE} {σ : ySt} {ρ : Int} (h : mo_placeMany σ = some ρ) : Con E MX12_placeMany 0 0 0 [.inr (.inr (92 + 1))] 150 (ov σ) (some (.inl ρ)) (ov σ) := by
  unfold mo_placeMany at h
  refine Con.ofY (by decide +kernel) (by simp [yWords, yCat]) (fun hok _ => ?_)
  show Y E MX12_placeMany (yRm 0 0 0) (yQf E (150 + 0) 0 0 (some (.inl ρ)) (ov σ)) 0 [(0, .inr (.inr (92 + 1)))] [] (ov σ) 150 0 0
  refine y_aload_n (show decode cX12_placeMany 0 = .ok (.aload_n 0, 1) by decide +kernel) 0 rfl ?_
  refine y_getf 92 12 11 20 (by decide) rfl (by decide) (by decide) q6_58 (show decode cX12_placeMany 1 = .ok (.getfield 20, 3) by decide +kernel) (v := .inr (.inr (95 + 1))) rfl ?_
  refine y_aload_n (show decode cX12_placeMany 4 = .ok (.aload_n 0, 1) by decide +kernel) 0 rfl ?_
  refine y_getf 92 12 40 311 (by decide) rfl (by decide) (by decide) q6_87 (show decode cX12_placeMany 5 = .ok (.getfield 311, 3) by decide +kernel) (v := .inl (σ 92 40)) rfl ?_
  obtain ⟨c1, h⟩ := chkA_some h
  refine yo_iald 95 2 (by decide) rfl c1 (ov_at rfl) (show decode cX12_placeMany 8 = .ok (.iaload, 1) by decide +kernel) ?_
  cases h
  exact y_iret (show decode cX12_placeMany 9 = .ok (.ireturn, 1) by decide +kernel) rfl
abbrev MX12_isPlace : yM := (yX12_isPlace, cX12_isPlace, 2, some .boolean)
def mo_isPlace (a : Int) (σ : ySt) : Option (Int) :=
  bndO (mo_placeMany σ) fun r2 =>
  chkI (r2 - 1) <|
  bndO (mo_isIn a 0 (r2 - 1) σ) fun r5 =>
  chk (r5 = 0 ∨ r5 = 1) <|
  some r5
set_option maxHeartbeats 4000000 in
set_option maxRecDepth 10000 in
theorem sh_mo_isPlace {E : yE} {a : Int} {σ : ySt} {ρ : Int} (h : mo_isPlace a σ = some ρ) : Con E MX12_isPlace 1 0 0 [.inr (.inr (92 + 1)), .inl a] 150 (ov σ) (some (.inl ρ)) (ov σ) := by
  unfold mo_isPlace at h
  refine Con.ofY (by decide +kernel) (by simp [yWords, yCat]) (fun hok _ => ?_)
  show Y E MX12_isPlace (yRm 1 0 0) (yQf E (150 + 0) 0 0 (some (.inl ρ)) (ov σ)) 0 [(0, .inr (.inr (92 + 1))), (1, .inl a)] [] (ov σ) 150 0 0
  refine y_iload_n (show decode cX12_isPlace 0 = .ok (.iload_n 1, 1) by decide +kernel) 1 rfl ?_
  refine y_iconst (show decode cX12_isPlace 1 = .ok (.iconst 0, 1) by decide +kernel) rfl ?_
  refine y_aload_n (show decode cX12_isPlace 2 = .ok (.aload_n 0, 1) by decide +kernel) 0 rfl ?_
  obtain ⟨r2, e1, h⟩ := bndO_some h
  refine y_callV (np := 0) (st := [.inl 0, .inl a]) (as := []) 92 12 (sh_mo_placeMany e1) q8_15 q8_12 q8_14 qs6_6 q1_15 (by decide) rfl (by decide) rfl (by decide) (by decide +kernel) (by decide) rfl (Nat.le_of_ble_eq_true rfl) (show decode cX12_isPlace 3 = .ok (.invokevirtual 411, 3) by decide +kernel) rfl ?_
  refine y_iconst (show decode cX12_isPlace 6 = .ok (.iconst 1, 1) by decide +kernel) rfl ?_
  obtain ⟨c3, h⟩ := chkI_some h
  refine y_isub (show decode cX12_isPlace 7 = .ok (.isub, 1) by decide +kernel) c3 ?_
  obtain ⟨r5, e4, h⟩ := bndO_some h
  refine y_callS (np := 3) (st := []) (as := [.inl a, .inl 0, .inl (r2 - 1)]) (sh_mo_isIn e4) q8_18 q8_16 q8_17 q1_15 (by decide) (by decide +kernel) (by decide) rfl (Nat.le_of_ble_eq_true rfl) (show decode cX12_isPlace 8 = .ok (.invokestatic 414, 3) by decide +kernel) rfl ?_
  obtain ⟨c6, h⟩ := chk_some h
  cases h
  exact y_zret (show decode cX12_isPlace 11 = .ok (.ireturn, 1) by decide +kernel) rfl c6
abbrev MX12_isPerson : yM := (yX12_isPerson, cX12_isPerson, 2, some .boolean)
def mo_isPerson (a : Int) (σ : ySt) : Option (Int) :=
  bndO (mo_personMany σ) fun r2 =>
  chkI (r2 - 1) <|
  bndO (mo_isIn a 0 (r2 - 1) σ) fun r5 =>
  chk (r5 = 0 ∨ r5 = 1) <|
  some r5
set_option maxHeartbeats 4000000 in
set_option maxRecDepth 10000 in
theorem sh_mo_isPerson {E : yE} {a : Int} {σ : ySt} {ρ : Int} (h : mo_isPerson a σ = some ρ) : Con E MX12_isPerson 1 0 0 [.inr (.inr (92 + 1)), .inl a] 150 (ov σ) (some (.inl ρ)) (ov σ) := by
  unfold mo_isPerson at h
  refine Con.ofY (by decide +kernel) (by simp [yWords, yCat]) (fun hok _ => ?_)
  show Y E MX12_isPerson (yRm 1 0 0) (yQf E (150 + 0) 0 0 (some (.inl ρ)) (ov σ)) 0 [(0, .inr (.inr (92 + 1))), (1, .inl a)] [] (ov σ) 150 0 0
  refine y_iload_n (show decode cX12_isPerson 0 = .ok (.iload_n 1, 1) by decide +kernel) 1 rfl ?_
  refine y_iconst (show decode cX12_isPerson 1 = .ok (.iconst 0, 1) by decide +kernel) rfl ?_
  refine y_aload_n (show decode cX12_isPerson 2 = .ok (.aload_n 0, 1) by decide +kernel) 0 rfl ?_
  obtain ⟨r2, e1, h⟩ := bndO_some h
  refine y_callV (np := 0) (st := [.inl 0, .inl a]) (as := []) 92 12 (sh_mo_personMany e1) q6_42 q6_39 q6_41 qs4_1 q1_15 (by decide) rfl (by decide) rfl (by decide) (by decide +kernel) (by decide) rfl (Nat.le_of_ble_eq_true rfl) (show decode cX12_isPerson 3 = .ok (.invokevirtual 418, 3) by decide +kernel) rfl ?_
  refine y_iconst (show decode cX12_isPerson 6 = .ok (.iconst 1, 1) by decide +kernel) rfl ?_
  obtain ⟨c3, h⟩ := chkI_some h
  refine y_isub (show decode cX12_isPerson 7 = .ok (.isub, 1) by decide +kernel) c3 ?_
  obtain ⟨r5, e4, h⟩ := bndO_some h
  refine y_callS (np := 3) (st := []) (as := [.inl a, .inl 0, .inl (r2 - 1)]) (sh_mo_isIn e4) q8_18 q8_16 q8_17 q1_15 (by decide) (by decide +kernel) (by decide) rfl (Nat.le_of_ble_eq_true rfl) (show decode cX12_isPerson 8 = .ok (.invokestatic 414, 3) by decide +kernel) rfl ?_
  obtain ⟨c6, h⟩ := chk_some h
  cases h
  exact y_zret (show decode cX12_isPerson 11 = .ok (.ireturn, 1) by decide +kernel) rfl c6
abbrev MX12_plain : yM := (yX12_plain, cX12_plain, 1, none)
def mo_plain (σ : ySt) : Option (ySt) :=
  chkA 2 (σ 92 40) <|
  bnd (yset σ 92 47 (σ 100 ((σ 92 40)).toNat)) fun σ2 =>
  chkA 2 (σ2 92 40) <|
  bnd (yset σ2 92 48 (σ2 101 ((σ2 92 40)).toNat)) fun σ5 =>
  bnd (yset σ5 92 49 1) fun σ7 =>
  bnd (yset σ7 92 51 (-1)) fun σ9 =>
  bnd (yset σ9 92 52 (-1)) fun σ11 =>
  bnd (yset σ11 92 53 (-1)) fun σ13 =>
  some σ13
set_option maxHeartbeats 4000000 in
set_option maxRecDepth 10000 in
theorem sh_mo_plain {E : yE} {σ : ySt} {τ : ySt} (h : mo_plain σ = some τ) : Con E MX12_plain 0 0 0 [.inr (.inr (92 + 1))] 150 (ov σ) none (ov τ) := by
  unfold mo_plain at h
  refine Con.ofY (by decide +kernel) (by simp [yWords, yCat]) (fun hok _ => ?_)
  show Y E MX12_plain (yRm 0 0 0) (yQf E (150 + 0) 0 0 none (ov τ)) 0 [(0, .inr (.inr (92 + 1)))] [] (ov σ) 150 0 0
  refine y_aload_n (show decode cX12_plain 0 = .ok (.aload_n 0, 1) by decide +kernel) 0 rfl ?_
  refine y_aload_n (show decode cX12_plain 1 = .ok (.aload_n 0, 1) by decide +kernel) 0 rfl ?_
  refine y_getf 92 12 16 36 (by decide) rfl (by decide) (by decide) q6_63 (show decode cX12_plain 2 = .ok (.getfield 36, 3) by decide +kernel) (v := .inr (.inr (100 + 1))) rfl ?_
  refine y_aload_n (show decode cX12_plain 5 = .ok (.aload_n 0, 1) by decide +kernel) 0 rfl ?_
  refine y_getf 92 12 40 311 (by decide) rfl (by decide) (by decide) q6_87 (show decode cX12_plain 6 = .ok (.getfield 311, 3) by decide +kernel) (v := .inl (σ 92 40)) rfl ?_
  obtain ⟨c1, h⟩ := chkA_some h
  refine yo_iald 100 2 (by decide) rfl c1 (ov_at rfl) (show decode cX12_plain 9 = .ok (.iaload, 1) by decide +kernel) ?_
  obtain ⟨σ2, e3, h⟩ := bnd_i h
  refine yo_putI 92 12 47 421 (by decide) rfl (by decide) (by decide) q6_94 rfl (show decode cX12_plain 10 = .ok (.putfield 421, 3) by decide +kernel) rfl rfl (ov_set1 e3 rfl) ?_
  refine y_aload_n (show decode cX12_plain 13 = .ok (.aload_n 0, 1) by decide +kernel) 0 rfl ?_
  refine y_aload_n (show decode cX12_plain 14 = .ok (.aload_n 0, 1) by decide +kernel) 0 rfl ?_
  refine y_getf 92 12 17 39 (by decide) rfl (by decide) (by decide) q6_64 (show decode cX12_plain 15 = .ok (.getfield 39, 3) by decide +kernel) (v := .inr (.inr (101 + 1))) rfl ?_
  refine y_aload_n (show decode cX12_plain 18 = .ok (.aload_n 0, 1) by decide +kernel) 0 rfl ?_
  refine y_getf 92 12 40 311 (by decide) rfl (by decide) (by decide) q6_87 (show decode cX12_plain 19 = .ok (.getfield 311, 3) by decide +kernel) (v := .inl (σ2 92 40)) rfl ?_
  obtain ⟨c4, h⟩ := chkA_some h
  refine yo_iald 101 2 (by decide) rfl c4 (ov_at rfl) (show decode cX12_plain 22 = .ok (.iaload, 1) by decide +kernel) ?_
  obtain ⟨σ5, e6, h⟩ := bnd_i h
  refine yo_putI 92 12 48 424 (by decide) rfl (by decide) (by decide) q6_95 rfl (show decode cX12_plain 23 = .ok (.putfield 424, 3) by decide +kernel) rfl rfl (ov_set1 e6 rfl) ?_
  refine y_aload_n (show decode cX12_plain 26 = .ok (.aload_n 0, 1) by decide +kernel) 0 rfl ?_
  refine y_iconst (show decode cX12_plain 27 = .ok (.iconst 1, 1) by decide +kernel) rfl ?_
  obtain ⟨σ7, e8, h⟩ := bnd_i h
  refine yo_putI 92 12 49 427 (by decide) rfl (by decide) (by decide) q6_96 rfl (show decode cX12_plain 28 = .ok (.putfield 427, 3) by decide +kernel) rfl rfl (ov_set1 e8 rfl) ?_
  refine y_aload_n (show decode cX12_plain 31 = .ok (.aload_n 0, 1) by decide +kernel) 0 rfl ?_
  refine y_iconst (show decode cX12_plain 32 = .ok (.iconst (-1), 1) by decide +kernel) rfl ?_
  obtain ⟨σ9, e10, h⟩ := bnd_i h
  refine yo_putI 92 12 51 430 (by decide) rfl (by decide) (by decide) q6_98 rfl (show decode cX12_plain 33 = .ok (.putfield 430, 3) by decide +kernel) rfl rfl (ov_set1 e10 rfl) ?_
  refine y_aload_n (show decode cX12_plain 36 = .ok (.aload_n 0, 1) by decide +kernel) 0 rfl ?_
  refine y_iconst (show decode cX12_plain 37 = .ok (.iconst (-1), 1) by decide +kernel) rfl ?_
  obtain ⟨σ11, e12, h⟩ := bnd_i h
  refine yo_putI 92 12 52 433 (by decide) rfl (by decide) (by decide) q6_99 rfl (show decode cX12_plain 38 = .ok (.putfield 433, 3) by decide +kernel) rfl rfl (ov_set1 e12 rfl) ?_
  refine y_aload_n (show decode cX12_plain 41 = .ok (.aload_n 0, 1) by decide +kernel) 0 rfl ?_
  refine y_iconst (show decode cX12_plain 42 = .ok (.iconst (-1), 1) by decide +kernel) rfl ?_
  obtain ⟨σ13, e14, h⟩ := bnd_i h
  refine yo_putI 92 12 53 436 (by decide) rfl (by decide) (by decide) q6_100 rfl (show decode cX12_plain 43 = .ok (.putfield 436, 3) by decide +kernel) rfl rfl (ov_set1 e14 rfl) ?_
  cases h
  exact y_vret (show decode cX12_plain 46 = .ok (.return_, 1) by decide +kernel) rfl
abbrev MX12_layTown : yM := (yX12_layTown, cX12_layTown, 4, none)
def mo_layTown (N : Nat) (σ : ySt) : Option (ySt) :=
  loopS1 (fun k3 x1 σ2 =>
    if x1 ≥ 36 then
      bnd (fun (σ5 : ySt) =>
        loopS1 (fun k9 x7 σ8 =>
          if x7 ≥ 6 then
            loopS1 (fun k13 x11 σ12 =>
              if x11 > 8 then
                some σ12
              else
                loopS2 (fun k18 x15 x16 σ17 =>
                  bndO (mo_placeMany σ17) fun r20 =>
                  if x16 ≥ r20 then
                    chkI (x15 + 1) <|
                    k13 (x15 + 1) σ17
                  else
                    loopS3 (fun k27 x23 x24 x25 σ26 =>
                      if x25 > 5 then
                        chkI (x24 + 1) <|
                        k18 x23 (x24 + 1) σ26
                      else
                        chkI (x23 - 1) <|
                        chkI (48 * (x23 - 1)) <|
                        chkI (8 * x24) <|
                        chkI ((48 * (x23 - 1)) + (8 * x24)) <|
                        chkI (((48 * (x23 - 1)) + (8 * x24)) + x25) <|
                        bnd (fun (y35 : Int) (σ36 : ySt) =>
                          chk (y35 = 0 ∨ y35 = 1) <|
                          chkA 432 (((48 * (x23 - 1)) + (8 * x24)) + x25) <|
                          bnd (yset σ36 125 ((((48 * (x23 - 1)) + (8 * x24)) + x25)).toNat y35) fun σ40 =>
                          chkI (x25 + 1) <|
                          k27 x23 x24 (x25 + 1) σ40) fun j37 =>
                        if x23 = (σ26 92 51) then
                          j37 1 σ26
                        else
                          if x24 = (σ26 92 52) then
                            j37 1 σ26
                          else
                            bndR (mo_isRight N x24 x25 x23 σ26) fun r46 σ47 =>
                            if r46 = 0 then
                              j37 0 σ47
                            else
                              j37 1 σ47) N x15 x16 0 σ17) N x11 0 σ12) N 1 σ8
          else
            loopS2 (fun k52 x49 x50 σ51 =>
              if x50 ≥ 36 then
                chkI (x49 + 1) <|
                k9 (x49 + 1) σ51
              else
                chk ((6 : Int) ≠ 0) <|
                chkI ((x50 : Int).tdiv 6) <|
                chkI (((x50 : Int).tdiv 6) * 6) <|
                chkI ((((x50 : Int).tdiv 6) * 6) + x49) <|
                chkA 36 ((((x50 : Int).tdiv 6) * 6) + x49) <|
                chkI (6 * x49) <|
                chk ((6 : Int) ≠ 0) <|
                chkI ((x50 : Int).tmod 6) <|
                chkI ((6 * x49) + ((x50 : Int).tmod 6)) <|
                chkA 36 ((6 * x49) + ((x50 : Int).tmod 6)) <|
                chkI ((σ51 124 (((((x50 : Int).tdiv 6) * 6) + x49)).toNat) + (σ51 124 (((6 * x49) + ((x50 : Int).tmod 6))).toNat)) <|
                chkA 36 x50 <|
                bnd (fun (σ67 : ySt) =>
                  chkI (x50 + 1) <|
                  k52 x49 (x50 + 1) σ67) fun j68 =>
                if ((σ51 124 (((((x50 : Int).tdiv 6) * 6) + x49)).toNat) + (σ51 124 (((6 * x49) + ((x50 : Int).tmod 6))).toNat)) ≥ (σ51 124 (x50).toNat) then
                  j68 σ51
                else
                  chkA 36 x50 <|
                  bnd (yset σ51 124 (x50).toNat ((σ51 124 (((((x50 : Int).tdiv 6) * 6) + x49)).toNat) + (σ51 124 (((6 * x49) + ((x50 : Int).tmod 6))).toNat))) fun σ72 =>
                  j68 σ72) N x7 0 σ8) N 0 σ5) fun j6 =>
      if (σ2 92 53) < 0 then
        j6 σ2
      else
        chkI (6 * (σ2 92 53)) <|
        chkI ((6 * (σ2 92 53)) + (σ2 92 54)) <|
        chkA 36 ((6 * (σ2 92 53)) + (σ2 92 54)) <|
        if (σ2 92 55) ≥ (σ2 124 (((6 * (σ2 92 53)) + (σ2 92 54))).toNat) then
          j6 σ2
        else
          chkI (6 * (σ2 92 53)) <|
          chkI ((6 * (σ2 92 53)) + (σ2 92 54)) <|
          chkA 36 ((6 * (σ2 92 53)) + (σ2 92 54)) <|
          bnd (yset σ2 124 (((6 * (σ2 92 53)) + (σ2 92 54))).toNat (σ2 92 55)) fun σ82 =>
          chkI (6 * (σ82 92 54)) <|
          chkI ((6 * (σ82 92 54)) + (σ82 92 53)) <|
          chkA 36 ((6 * (σ82 92 54)) + (σ82 92 53)) <|
          bnd (yset σ82 124 (((6 * (σ82 92 54)) + (σ82 92 53))).toNat (σ82 92 55)) fun σ87 =>
          j6 σ87
    else
      chk ((6 : Int) ≠ 0) <|
      chkI ((x1 : Int).tdiv 6) <|
      chk ((6 : Int) ≠ 0) <|
      chkI ((x1 : Int).tmod 6) <|
      bnd (fun (y93 : Int) =>
        chkA 36 x1 <|
        bnd (yset σ2 124 (x1).toNat y93) fun σ96 =>
        chkI (x1 + 1) <|
        k3 (x1 + 1) σ96) fun j94 =>
      if ¬ ((x1 : Int).tdiv 6) = ((x1 : Int).tmod 6) then
        chkI (36 * (σ2 92 40)) <|
        chkI ((36 * (σ2 92 40)) + x1) <|
        chkA 72 ((36 * (σ2 92 40)) + x1) <|
        j94 (σ2 110 (((36 * (σ2 92 40)) + x1)).toNat)
      else
        j94 0) N 0 σ
set_option maxHeartbeats 4000000 in
set_option maxRecDepth 10000 in
theorem sh_mo_layTown {E : yE} {N : Nat} {σ : ySt} {τ : ySt} (h : mo_layTown N σ = some τ) : Con E MX12_layTown 2 0 0 [.inr (.inr (92 + 1))] 150 (ov σ) none (ov τ) := by
  unfold mo_layTown at h
  refine Con.ofY (by decide +kernel) (by simp [yWords, yCat]) (fun hok _ => ?_)
  show Y E MX12_layTown (yRm 2 0 0) (yQf E (150 + 0) 0 0 none (ov τ)) 0 [(0, .inr (.inr (92 + 1)))] [] (ov σ) 150 0 0
  refine y_iconst (show decode cX12_layTown 0 = .ok (.iconst 0, 1) by decide +kernel) rfl ?_
  refine y_istore_n (show decode cX12_layTown 1 = .ok (.istore_n 1, 1) by decide +kernel) rfl (L1 := [(1, .inl 0), (0, .inr (.inr (92 + 1)))]) rfl ?_
  refine y_pick [1, 0] rfl ?_
  refine loopS1_ind (P := fun x1 σ2 => Y E MX12_layTown (yRm 2 0 0) (yQf E (150 + 0) 0 0 none (ov τ)) 2 [(0, .inr (.inr (92 + 1))), (1, .inl x1)] [] (ov σ2) 150 0 0) (fun k3 hk3 x1 σ2 h => ?_) _ _ _  h
  refine y_iload_n (show decode cX12_layTown 2 = .ok (.iload_n 1, 1) by decide +kernel) 1 rfl ?_
  refine y_bipush (show decode cX12_layTown 3 = .ok (.bipush 36, 2) by decide +kernel) rfl rfl ?_
  by_cases c4 : x1 ≥ 36
  · rw [if_pos c4] at h
    refine y_icmp_ge_t (tgt := 49) (show decode cX12_layTown 5 = .ok (.if_icmp .ge 44, 3) by decide +kernel) rfl c4 ?_
    refine y_aload_n (show decode cX12_layTown 49 = .ok (.aload_n 0, 1) by decide +kernel) 0 rfl ?_
    refine y_getf 92 12 53 436 (by decide) rfl (by decide) (by decide) q6_100 (show decode cX12_layTown 50 = .ok (.getfield 436, 3) by decide +kernel) (v := .inl (σ2 92 53)) rfl ?_
    refine bnd_j (Q := fun j6 => ∀ (σ5 : ySt), j6 σ5 = some τ → Y E MX12_layTown (yRm 2 0 0) (yQf E (150 + 0) 0 0 none (ov τ)) 122 [(0, .inr (.inr (92 + 1)))] [] (ov σ5) 150 0 0) (fun σ5 h => ?_) (fun j6 hj6 h => ?_) h
    · dsimp only at h
      refine y_iconst (show decode cX12_layTown 122 = .ok (.iconst 0, 1) by decide +kernel) rfl ?_
      refine y_istore_n (show decode cX12_layTown 123 = .ok (.istore_n 1, 1) by decide +kernel) rfl (L1 := [(1, .inl 0), (0, .inr (.inr (92 + 1)))]) rfl ?_
      refine y_pick [1, 0] rfl ?_
      refine loopS1_ind (P := fun x7 σ8 => Y E MX12_layTown (yRm 2 0 0) (yQf E (150 + 0) 0 0 none (ov τ)) 124 [(0, .inr (.inr (92 + 1))), (1, .inl x7)] [] (ov σ8) 150 0 0) (fun k9 hk9 x7 σ8 h => ?_) _ _ _  h
      refine y_iload_n (show decode cX12_layTown 124 = .ok (.iload_n 1, 1) by decide +kernel) 1 rfl ?_
      refine y_bipush (show decode cX12_layTown 125 = .ok (.bipush 6, 2) by decide +kernel) rfl rfl ?_
      by_cases c10 : x7 ≥ 6
      · rw [if_pos c10] at h
        refine y_icmp_ge_t (tgt := 197) (show decode cX12_layTown 127 = .ok (.if_icmp .ge 70, 3) by decide +kernel) rfl c10 ?_
        refine y_iconst (show decode cX12_layTown 197 = .ok (.iconst 1, 1) by decide +kernel) rfl ?_
        refine y_istore_n (show decode cX12_layTown 198 = .ok (.istore_n 1, 1) by decide +kernel) rfl (L1 := [(1, .inl 1), (0, .inr (.inr (92 + 1)))]) rfl ?_
        refine y_pick [1, 0] rfl ?_
        refine loopS1_ind (P := fun x11 σ12 => Y E MX12_layTown (yRm 2 0 0) (yQf E (150 + 0) 0 0 none (ov τ)) 199 [(0, .inr (.inr (92 + 1))), (1, .inl x11)] [] (ov σ12) 150 0 0) (fun k13 hk13 x11 σ12 h => ?_) _ _ _  h
        refine y_iload_n (show decode cX12_layTown 199 = .ok (.iload_n 1, 1) by decide +kernel) 1 rfl ?_
        refine y_bipush (show decode cX12_layTown 200 = .ok (.bipush 8, 2) by decide +kernel) rfl rfl ?_
        by_cases c14 : x11 > 8
        · rw [if_pos c14] at h
          refine y_icmp_gt_t (tgt := 289) (show decode cX12_layTown 202 = .ok (.if_icmp .gt 87, 3) by decide +kernel) rfl c14 ?_
          cases h
          exact y_vret (show decode cX12_layTown 289 = .ok (.return_, 1) by decide +kernel) rfl
        · rw [if_neg c14] at h
          refine y_icmp_gt_f (show decode cX12_layTown 202 = .ok (.if_icmp .gt 87, 3) by decide +kernel) c14 (by decide) ?_
          refine y_iconst (show decode cX12_layTown 205 = .ok (.iconst 0, 1) by decide +kernel) rfl ?_
          refine y_istore_n (show decode cX12_layTown 206 = .ok (.istore_n 2, 1) by decide +kernel) rfl (L1 := [(2, .inl 0), (0, .inr (.inr (92 + 1))), (1, .inl x11)]) rfl ?_
          refine y_pick [1, 2, 0] rfl ?_
          refine loopS2_ind (P := fun x15 x16 σ17 => Y E MX12_layTown (yRm 2 0 0) (yQf E (150 + 0) 0 0 none (ov τ)) 207 [(0, .inr (.inr (92 + 1))), (1, .inl x15), (2, .inl x16)] [] (ov σ17) 150 0 0) (fun k18 hk18 x15 x16 σ17 h => ?_) _ _ _ _  h
          refine y_iload_n (show decode cX12_layTown 207 = .ok (.iload_n 2, 1) by decide +kernel) 2 rfl ?_
          refine y_aload_n (show decode cX12_layTown 208 = .ok (.aload_n 0, 1) by decide +kernel) 0 rfl ?_
          obtain ⟨r20, e19, h⟩ := bndO_some h
          refine y_callV (np := 0) (st := [.inl x16]) (as := []) 92 12 (sh_mo_placeMany e19) q8_15 q8_12 q8_14 qs6_6 q1_15 (by decide) rfl (by decide) rfl (by decide) (by decide +kernel) (by decide) rfl (Nat.le_of_ble_eq_true rfl) (show decode cX12_layTown 209 = .ok (.invokevirtual 411, 3) by decide +kernel) rfl ?_
          by_cases c21 : x16 ≥ r20
          · rw [if_pos c21] at h
            refine y_icmp_ge_t (tgt := 283) (show decode cX12_layTown 212 = .ok (.if_icmp .ge 71, 3) by decide +kernel) rfl c21 ?_
            obtain ⟨c22, h⟩ := chkI_some h
            refine y_iinc (show decode cX12_layTown 283 = .ok (.iinc 1 1, 3) by decide +kernel) 1 rfl c22 rfl (L1 := [(1, .inl (x15 + 1)), (0, .inr (.inr (92 + 1))), (2, .inl x16)]) rfl ?_
            refine y_goto (tgt := 199) (show decode cX12_layTown 286 = .ok (.goto (-87), 3) by decide +kernel) rfl ?_
            refine y_pick [1, 0] rfl ?_
            exact hk13 _ _ h
          · rw [if_neg c21] at h
            refine y_icmp_ge_f (show decode cX12_layTown 212 = .ok (.if_icmp .ge 71, 3) by decide +kernel) c21 (by decide) ?_
            refine y_iconst (show decode cX12_layTown 215 = .ok (.iconst 0, 1) by decide +kernel) rfl ?_
            refine y_istore_n (show decode cX12_layTown 216 = .ok (.istore_n 3, 1) by decide +kernel) rfl (L1 := [(3, .inl 0), (0, .inr (.inr (92 + 1))), (1, .inl x15), (2, .inl x16)]) rfl ?_
            refine y_pick [1, 2, 3, 0] rfl ?_
            refine loopS3_ind (P := fun x23 x24 x25 σ26 => Y E MX12_layTown (yRm 2 0 0) (yQf E (150 + 0) 0 0 none (ov τ)) 217 [(0, .inr (.inr (92 + 1))), (1, .inl x23), (2, .inl x24), (3, .inl x25)] [] (ov σ26) 150 0 0) (fun k27 hk27 x23 x24 x25 σ26 h => ?_) _ _ _ _ _  h
            refine y_iload_n (show decode cX12_layTown 217 = .ok (.iload_n 3, 1) by decide +kernel) 3 rfl ?_
            refine y_iconst (show decode cX12_layTown 218 = .ok (.iconst 5, 1) by decide +kernel) rfl ?_
            by_cases c28 : x25 > 5
            · rw [if_pos c28] at h
              refine y_icmp_gt_t (tgt := 277) (show decode cX12_layTown 219 = .ok (.if_icmp .gt 58, 3) by decide +kernel) rfl c28 ?_
              obtain ⟨c29, h⟩ := chkI_some h
              refine y_iinc (show decode cX12_layTown 277 = .ok (.iinc 2 1, 3) by decide +kernel) 2 rfl c29 rfl (L1 := [(2, .inl (x24 + 1)), (0, .inr (.inr (92 + 1))), (1, .inl x23), (3, .inl x25)]) rfl ?_
              refine y_goto (tgt := 207) (show decode cX12_layTown 280 = .ok (.goto (-73), 3) by decide +kernel) rfl ?_
              refine y_pick [1, 2, 0] rfl ?_
              exact hk18 _ _ _ h
            · rw [if_neg c28] at h
              refine y_icmp_gt_f (show decode cX12_layTown 219 = .ok (.if_icmp .gt 58, 3) by decide +kernel) c28 (by decide) ?_
              refine y_aload_n (show decode cX12_layTown 222 = .ok (.aload_n 0, 1) by decide +kernel) 0 rfl ?_
              refine y_getf 92 12 46 113 (by decide) rfl (by decide) (by decide) q6_93 (show decode cX12_layTown 223 = .ok (.getfield 113, 3) by decide +kernel) (v := .inr (.inr (125 + 1))) rfl ?_
              refine y_bipush (show decode cX12_layTown 226 = .ok (.bipush 48, 2) by decide +kernel) rfl rfl ?_
              refine y_iload_n (show decode cX12_layTown 228 = .ok (.iload_n 1, 1) by decide +kernel) 1 rfl ?_
              refine y_iconst (show decode cX12_layTown 229 = .ok (.iconst 1, 1) by decide +kernel) rfl ?_
              obtain ⟨c30, h⟩ := chkI_some h
              refine y_isub (show decode cX12_layTown 230 = .ok (.isub, 1) by decide +kernel) c30 ?_
              obtain ⟨c31, h⟩ := chkI_some h
              refine y_imul (show decode cX12_layTown 231 = .ok (.imul, 1) by decide +kernel) c31 ?_
              refine y_bipush (show decode cX12_layTown 232 = .ok (.bipush 8, 2) by decide +kernel) rfl rfl ?_
              refine y_iload_n (show decode cX12_layTown 234 = .ok (.iload_n 2, 1) by decide +kernel) 2 rfl ?_
              obtain ⟨c32, h⟩ := chkI_some h
              refine y_imul (show decode cX12_layTown 235 = .ok (.imul, 1) by decide +kernel) c32 ?_
              obtain ⟨c33, h⟩ := chkI_some h
              refine y_iadd (show decode cX12_layTown 236 = .ok (.iadd, 1) by decide +kernel) c33 ?_
              refine y_iload_n (show decode cX12_layTown 237 = .ok (.iload_n 3, 1) by decide +kernel) 3 rfl ?_
              obtain ⟨c34, h⟩ := chkI_some h
              refine y_iadd (show decode cX12_layTown 238 = .ok (.iadd, 1) by decide +kernel) c34 ?_
              refine y_iload_n (show decode cX12_layTown 239 = .ok (.iload_n 1, 1) by decide +kernel) 1 rfl ?_
              refine y_aload_n (show decode cX12_layTown 240 = .ok (.aload_n 0, 1) by decide +kernel) 0 rfl ?_
              refine y_getf 92 12 51 430 (by decide) rfl (by decide) (by decide) q6_98 (show decode cX12_layTown 241 = .ok (.getfield 430, 3) by decide +kernel) (v := .inl (σ26 92 51)) rfl ?_
              refine bnd_j (Q := fun j37 => ∀ (y35 : Int) (σ36 : ySt), j37 y35 σ36 = some τ → Y E MX12_layTown (yRm 2 0 0) (yQf E (150 + 0) 0 0 none (ov τ)) 270 [(0, .inr (.inr (92 + 1))), (1, .inl x23), (2, .inl x24), (3, .inl x25)] [.inl y35, .inl (((48 * (x23 - 1)) + (8 * x24)) + x25), .inr (.inr (125 + 1))] (ov σ36) 150 0 0) (fun y35 σ36 h => ?_) (fun j37 hj37 h => ?_) h
              · dsimp only at h
                obtain ⟨c38, h⟩ := chk_some h
                obtain ⟨c39, h⟩ := chkA_some h
                obtain ⟨σ40, e41, h⟩ := bnd_i h
                refine yo_zast 125 432 (by decide) rfl c39 c38 (ov_set1 e41 rfl) (show decode cX12_layTown 270 = .ok (.bastore, 1) by decide +kernel) ?_
                obtain ⟨c42, h⟩ := chkI_some h
                refine y_iinc (show decode cX12_layTown 271 = .ok (.iinc 3 1, 3) by decide +kernel) 3 rfl c42 rfl (L1 := [(3, .inl (x25 + 1)), (0, .inr (.inr (92 + 1))), (1, .inl x23), (2, .inl x24)]) rfl ?_
                refine y_goto (tgt := 217) (show decode cX12_layTown 274 = .ok (.goto (-57), 3) by decide +kernel) rfl ?_
                refine y_pick [1, 2, 3, 0] rfl ?_
                exact hk27 _ _ _ _ h
              by_cases c43 : x23 = (σ26 92 51)
              · rw [if_pos c43] at h
                refine y_icmp_eq_t (tgt := 265) (show decode cX12_layTown 244 = .ok (.if_icmp .eq 21, 3) by decide +kernel) rfl c43 ?_
                refine y_iconst (show decode cX12_layTown 265 = .ok (.iconst 1, 1) by decide +kernel) rfl ?_
                refine y_goto (tgt := 270) (show decode cX12_layTown 266 = .ok (.goto 4, 3) by decide +kernel) rfl ?_
                refine y_pick [0, 1, 2, 3] rfl ?_
                exact hj37 _ _ h
              · rw [if_neg c43] at h
                refine y_icmp_eq_f (show decode cX12_layTown 244 = .ok (.if_icmp .eq 21, 3) by decide +kernel) c43 (by decide) ?_
                refine y_iload_n (show decode cX12_layTown 247 = .ok (.iload_n 2, 1) by decide +kernel) 2 rfl ?_
                refine y_aload_n (show decode cX12_layTown 248 = .ok (.aload_n 0, 1) by decide +kernel) 0 rfl ?_
                refine y_getf 92 12 52 433 (by decide) rfl (by decide) (by decide) q6_99 (show decode cX12_layTown 249 = .ok (.getfield 433, 3) by decide +kernel) (v := .inl (σ26 92 52)) rfl ?_
                by_cases c44 : x24 = (σ26 92 52)
                · rw [if_pos c44] at h
                  refine y_icmp_eq_t (tgt := 265) (show decode cX12_layTown 252 = .ok (.if_icmp .eq 13, 3) by decide +kernel) rfl c44 ?_
                  refine y_iconst (show decode cX12_layTown 265 = .ok (.iconst 1, 1) by decide +kernel) rfl ?_
                  refine y_goto (tgt := 270) (show decode cX12_layTown 266 = .ok (.goto 4, 3) by decide +kernel) rfl ?_
                  refine y_pick [0, 1, 2, 3] rfl ?_
                  exact hj37 _ _ h
                · rw [if_neg c44] at h
                  refine y_icmp_eq_f (show decode cX12_layTown 252 = .ok (.if_icmp .eq 13, 3) by decide +kernel) c44 (by decide) ?_
                  refine y_aload_n (show decode cX12_layTown 255 = .ok (.aload_n 0, 1) by decide +kernel) 0 rfl ?_
                  refine y_iload_n (show decode cX12_layTown 256 = .ok (.iload_n 2, 1) by decide +kernel) 2 rfl ?_
                  refine y_iload_n (show decode cX12_layTown 257 = .ok (.iload_n 3, 1) by decide +kernel) 3 rfl ?_
                  refine y_iload_n (show decode cX12_layTown 258 = .ok (.iload_n 1, 1) by decide +kernel) 1 rfl ?_
                  obtain ⟨r46, σ47, e45, h⟩ := bndR_some h
                  refine y_callV (np := 3) (st := [.inl (((48 * (x23 - 1)) + (8 * x24)) + x25), .inr (.inr (125 + 1))]) (as := [.inl x24, .inl x25, .inl x23]) 92 12 (sh_mo_isRight e45) q8_30 q8_27 q8_29 qs6_9 q1_15 (by decide) rfl (by decide) rfl (by decide) (by decide +kernel) (by decide) rfl (Nat.le_of_ble_eq_true rfl) (show decode cX12_layTown 259 = .ok (.invokevirtual 445, 3) by decide +kernel) rfl ?_
                  by_cases c48 : r46 = 0
                  · rw [if_pos c48] at h
                    refine y_if_eq_t (tgt := 269) (show decode cX12_layTown 262 = .ok (.ifCond .eq 7, 3) by decide +kernel) rfl c48 ?_
                    refine y_iconst (show decode cX12_layTown 269 = .ok (.iconst 0, 1) by decide +kernel) rfl ?_
                    refine y_pick [0, 1, 2, 3] rfl ?_
                    exact hj37 _ _ h
                  · rw [if_neg c48] at h
                    refine y_if_eq_f (show decode cX12_layTown 262 = .ok (.ifCond .eq 7, 3) by decide +kernel) c48 (by decide) ?_
                    refine y_iconst (show decode cX12_layTown 265 = .ok (.iconst 1, 1) by decide +kernel) rfl ?_
                    refine y_goto (tgt := 270) (show decode cX12_layTown 266 = .ok (.goto 4, 3) by decide +kernel) rfl ?_
                    refine y_pick [0, 1, 2, 3] rfl ?_
                    exact hj37 _ _ h
      · rw [if_neg c10] at h
        refine y_icmp_ge_f (show decode cX12_layTown 127 = .ok (.if_icmp .ge 70, 3) by decide +kernel) c10 (by decide) ?_
        refine y_iconst (show decode cX12_layTown 130 = .ok (.iconst 0, 1) by decide +kernel) rfl ?_
        refine y_istore_n (show decode cX12_layTown 131 = .ok (.istore_n 2, 1) by decide +kernel) rfl (L1 := [(2, .inl 0), (0, .inr (.inr (92 + 1))), (1, .inl x7)]) rfl ?_
        refine y_pick [1, 2, 0] rfl ?_
        refine loopS2_ind (P := fun x49 x50 σ51 => Y E MX12_layTown (yRm 2 0 0) (yQf E (150 + 0) 0 0 none (ov τ)) 132 [(0, .inr (.inr (92 + 1))), (1, .inl x49), (2, .inl x50)] [] (ov σ51) 150 0 0) (fun k52 hk52 x49 x50 σ51 h => ?_) _ _ _ _  h
        refine y_iload_n (show decode cX12_layTown 132 = .ok (.iload_n 2, 1) by decide +kernel) 2 rfl ?_
        refine y_bipush (show decode cX12_layTown 133 = .ok (.bipush 36, 2) by decide +kernel) rfl rfl ?_
        by_cases c53 : x50 ≥ 36
        · rw [if_pos c53] at h
          refine y_icmp_ge_t (tgt := 191) (show decode cX12_layTown 135 = .ok (.if_icmp .ge 56, 3) by decide +kernel) rfl c53 ?_
          obtain ⟨c54, h⟩ := chkI_some h
          refine y_iinc (show decode cX12_layTown 191 = .ok (.iinc 1 1, 3) by decide +kernel) 1 rfl c54 rfl (L1 := [(1, .inl (x49 + 1)), (0, .inr (.inr (92 + 1))), (2, .inl x50)]) rfl ?_
          refine y_goto (tgt := 124) (show decode cX12_layTown 194 = .ok (.goto (-70), 3) by decide +kernel) rfl ?_
          refine y_pick [1, 0] rfl ?_
          exact hk9 _ _ h
        · rw [if_neg c53] at h
          refine y_icmp_ge_f (show decode cX12_layTown 135 = .ok (.if_icmp .ge 56, 3) by decide +kernel) c53 (by decide) ?_
          refine y_aload_n (show decode cX12_layTown 138 = .ok (.aload_n 0, 1) by decide +kernel) 0 rfl ?_
          refine y_getf 92 12 45 110 (by decide) rfl (by decide) (by decide) q6_92 (show decode cX12_layTown 139 = .ok (.getfield 110, 3) by decide +kernel) (v := .inr (.inr (124 + 1))) rfl ?_
          refine y_iload_n (show decode cX12_layTown 142 = .ok (.iload_n 2, 1) by decide +kernel) 2 rfl ?_
          refine y_bipush (show decode cX12_layTown 143 = .ok (.bipush 6, 2) by decide +kernel) rfl rfl ?_
          obtain ⟨c55, h⟩ := chk_some h
          obtain ⟨c56, h⟩ := chkI_some h
          refine y_idiv (show decode cX12_layTown 145 = .ok (.idiv, 1) by decide +kernel) c55 c56 ?_
          refine y_bipush (show decode cX12_layTown 146 = .ok (.bipush 6, 2) by decide +kernel) rfl rfl ?_
          obtain ⟨c57, h⟩ := chkI_some h
          refine y_imul (show decode cX12_layTown 148 = .ok (.imul, 1) by decide +kernel) c57 ?_
          refine y_iload_n (show decode cX12_layTown 149 = .ok (.iload_n 1, 1) by decide +kernel) 1 rfl ?_
          obtain ⟨c58, h⟩ := chkI_some h
          refine y_iadd (show decode cX12_layTown 150 = .ok (.iadd, 1) by decide +kernel) c58 ?_
          obtain ⟨c59, h⟩ := chkA_some h
          refine yo_iald 124 36 (by decide) rfl c59 (ov_at rfl) (show decode cX12_layTown 151 = .ok (.iaload, 1) by decide +kernel) ?_
          refine y_aload_n (show decode cX12_layTown 152 = .ok (.aload_n 0, 1) by decide +kernel) 0 rfl ?_
          refine y_getf 92 12 45 110 (by decide) rfl (by decide) (by decide) q6_92 (show decode cX12_layTown 153 = .ok (.getfield 110, 3) by decide +kernel) (v := .inr (.inr (124 + 1))) rfl ?_
          refine y_bipush (show decode cX12_layTown 156 = .ok (.bipush 6, 2) by decide +kernel) rfl rfl ?_
          refine y_iload_n (show decode cX12_layTown 158 = .ok (.iload_n 1, 1) by decide +kernel) 1 rfl ?_
          obtain ⟨c60, h⟩ := chkI_some h
          refine y_imul (show decode cX12_layTown 159 = .ok (.imul, 1) by decide +kernel) c60 ?_
          refine y_iload_n (show decode cX12_layTown 160 = .ok (.iload_n 2, 1) by decide +kernel) 2 rfl ?_
          refine y_bipush (show decode cX12_layTown 161 = .ok (.bipush 6, 2) by decide +kernel) rfl rfl ?_
          obtain ⟨c61, h⟩ := chk_some h
          obtain ⟨c62, h⟩ := chkI_some h
          refine y_irem (show decode cX12_layTown 163 = .ok (.irem, 1) by decide +kernel) c61 c62 ?_
          obtain ⟨c63, h⟩ := chkI_some h
          refine y_iadd (show decode cX12_layTown 164 = .ok (.iadd, 1) by decide +kernel) c63 ?_
          obtain ⟨c64, h⟩ := chkA_some h
          refine yo_iald 124 36 (by decide) rfl c64 (ov_at rfl) (show decode cX12_layTown 165 = .ok (.iaload, 1) by decide +kernel) ?_
          obtain ⟨c65, h⟩ := chkI_some h
          refine y_iadd (show decode cX12_layTown 166 = .ok (.iadd, 1) by decide +kernel) c65 ?_
          refine y_istore_n (show decode cX12_layTown 167 = .ok (.istore_n 3, 1) by decide +kernel) rfl (L1 := [(3, .inl ((σ51 124 (((((x50 : Int).tdiv 6) * 6) + x49)).toNat) + (σ51 124 (((6 * x49) + ((x50 : Int).tmod 6))).toNat))), (0, .inr (.inr (92 + 1))), (1, .inl x49), (2, .inl x50)]) rfl ?_
          refine y_iload_n (show decode cX12_layTown 168 = .ok (.iload_n 3, 1) by decide +kernel) 0 rfl ?_
          refine y_aload_n (show decode cX12_layTown 169 = .ok (.aload_n 0, 1) by decide +kernel) 1 rfl ?_
          refine y_getf 92 12 45 110 (by decide) rfl (by decide) (by decide) q6_92 (show decode cX12_layTown 170 = .ok (.getfield 110, 3) by decide +kernel) (v := .inr (.inr (124 + 1))) rfl ?_
          refine y_iload_n (show decode cX12_layTown 173 = .ok (.iload_n 2, 1) by decide +kernel) 3 rfl ?_
          obtain ⟨c66, h⟩ := chkA_some h
          refine yo_iald 124 36 (by decide) rfl c66 (ov_at rfl) (show decode cX12_layTown 174 = .ok (.iaload, 1) by decide +kernel) ?_
          refine bnd_j (Q := fun j68 => ∀ (σ67 : ySt), j68 σ67 = some τ → Y E MX12_layTown (yRm 2 0 0) (yQf E (150 + 0) 0 0 none (ov τ)) 185 [(0, .inr (.inr (92 + 1))), (1, .inl x49), (2, .inl x50)] [] (ov σ67) 150 0 0) (fun σ67 h => ?_) (fun j68 hj68 h => ?_) h
          · dsimp only at h
            obtain ⟨c69, h⟩ := chkI_some h
            refine y_iinc (show decode cX12_layTown 185 = .ok (.iinc 2 1, 3) by decide +kernel) 2 rfl c69 rfl (L1 := [(2, .inl (x50 + 1)), (0, .inr (.inr (92 + 1))), (1, .inl x49)]) rfl ?_
            refine y_goto (tgt := 132) (show decode cX12_layTown 188 = .ok (.goto (-56), 3) by decide +kernel) rfl ?_
            refine y_pick [1, 2, 0] rfl ?_
            exact hk52 _ _ _ h
          by_cases c70 : ((σ51 124 (((((x50 : Int).tdiv 6) * 6) + x49)).toNat) + (σ51 124 (((6 * x49) + ((x50 : Int).tmod 6))).toNat)) ≥ (σ51 124 (x50).toNat)
          · rw [if_pos c70] at h
            refine y_icmp_ge_t (tgt := 185) (show decode cX12_layTown 175 = .ok (.if_icmp .ge 10, 3) by decide +kernel) rfl c70 ?_
            refine y_pick [1, 2, 3] rfl ?_
            exact hj68 _ h
          · rw [if_neg c70] at h
            refine y_icmp_ge_f (show decode cX12_layTown 175 = .ok (.if_icmp .ge 10, 3) by decide +kernel) c70 (by decide) ?_
            refine y_aload_n (show decode cX12_layTown 178 = .ok (.aload_n 0, 1) by decide +kernel) 1 rfl ?_
            refine y_getf 92 12 45 110 (by decide) rfl (by decide) (by decide) q6_92 (show decode cX12_layTown 179 = .ok (.getfield 110, 3) by decide +kernel) (v := .inr (.inr (124 + 1))) rfl ?_
            refine y_iload_n (show decode cX12_layTown 182 = .ok (.iload_n 2, 1) by decide +kernel) 3 rfl ?_
            refine y_iload_n (show decode cX12_layTown 183 = .ok (.iload_n 3, 1) by decide +kernel) 0 rfl ?_
            obtain ⟨c71, h⟩ := chkA_some h
            obtain ⟨σ72, e73, h⟩ := bnd_i h
            refine yo_iast 124 36 (by decide) rfl c71 (ov_set1 e73 rfl) (show decode cX12_layTown 184 = .ok (.iastore, 1) by decide +kernel) ?_
            refine y_pick [1, 2, 3] rfl ?_
            exact hj68 _ h
    by_cases c74 : (σ2 92 53) < 0
    · rw [if_pos c74] at h
      refine y_if_lt_t (tgt := 122) (show decode cX12_layTown 53 = .ok (.ifCond .lt 69, 3) by decide +kernel) rfl c74 ?_
      refine y_pick [0] rfl ?_
      exact hj6 _ h
    · rw [if_neg c74] at h
      refine y_if_lt_f (show decode cX12_layTown 53 = .ok (.ifCond .lt 69, 3) by decide +kernel) c74 (by decide) ?_
      refine y_aload_n (show decode cX12_layTown 56 = .ok (.aload_n 0, 1) by decide +kernel) 0 rfl ?_
      refine y_getf 92 12 55 439 (by decide) rfl (by decide) (by decide) q6_102 (show decode cX12_layTown 57 = .ok (.getfield 439, 3) by decide +kernel) (v := .inl (σ2 92 55)) rfl ?_
      refine y_aload_n (show decode cX12_layTown 60 = .ok (.aload_n 0, 1) by decide +kernel) 0 rfl ?_
      refine y_getf 92 12 45 110 (by decide) rfl (by decide) (by decide) q6_92 (show decode cX12_layTown 61 = .ok (.getfield 110, 3) by decide +kernel) (v := .inr (.inr (124 + 1))) rfl ?_
      refine y_bipush (show decode cX12_layTown 64 = .ok (.bipush 6, 2) by decide +kernel) rfl rfl ?_
      refine y_aload_n (show decode cX12_layTown 66 = .ok (.aload_n 0, 1) by decide +kernel) 0 rfl ?_
      refine y_getf 92 12 53 436 (by decide) rfl (by decide) (by decide) q6_100 (show decode cX12_layTown 67 = .ok (.getfield 436, 3) by decide +kernel) (v := .inl (σ2 92 53)) rfl ?_
      obtain ⟨c75, h⟩ := chkI_some h
      refine y_imul (show decode cX12_layTown 70 = .ok (.imul, 1) by decide +kernel) c75 ?_
      refine y_aload_n (show decode cX12_layTown 71 = .ok (.aload_n 0, 1) by decide +kernel) 0 rfl ?_
      refine y_getf 92 12 54 442 (by decide) rfl (by decide) (by decide) q6_101 (show decode cX12_layTown 72 = .ok (.getfield 442, 3) by decide +kernel) (v := .inl (σ2 92 54)) rfl ?_
      obtain ⟨c76, h⟩ := chkI_some h
      refine y_iadd (show decode cX12_layTown 75 = .ok (.iadd, 1) by decide +kernel) c76 ?_
      obtain ⟨c77, h⟩ := chkA_some h
      refine yo_iald 124 36 (by decide) rfl c77 (ov_at rfl) (show decode cX12_layTown 76 = .ok (.iaload, 1) by decide +kernel) ?_
      by_cases c78 : (σ2 92 55) ≥ (σ2 124 (((6 * (σ2 92 53)) + (σ2 92 54))).toNat)
      · rw [if_pos c78] at h
        refine y_icmp_ge_t (tgt := 122) (show decode cX12_layTown 77 = .ok (.if_icmp .ge 45, 3) by decide +kernel) rfl c78 ?_
        refine y_pick [0] rfl ?_
        exact hj6 _ h
      · rw [if_neg c78] at h
        refine y_icmp_ge_f (show decode cX12_layTown 77 = .ok (.if_icmp .ge 45, 3) by decide +kernel) c78 (by decide) ?_
        refine y_aload_n (show decode cX12_layTown 80 = .ok (.aload_n 0, 1) by decide +kernel) 0 rfl ?_
        refine y_getf 92 12 45 110 (by decide) rfl (by decide) (by decide) q6_92 (show decode cX12_layTown 81 = .ok (.getfield 110, 3) by decide +kernel) (v := .inr (.inr (124 + 1))) rfl ?_
        refine y_bipush (show decode cX12_layTown 84 = .ok (.bipush 6, 2) by decide +kernel) rfl rfl ?_
        refine y_aload_n (show decode cX12_layTown 86 = .ok (.aload_n 0, 1) by decide +kernel) 0 rfl ?_
        refine y_getf 92 12 53 436 (by decide) rfl (by decide) (by decide) q6_100 (show decode cX12_layTown 87 = .ok (.getfield 436, 3) by decide +kernel) (v := .inl (σ2 92 53)) rfl ?_
        obtain ⟨c79, h⟩ := chkI_some h
        refine y_imul (show decode cX12_layTown 90 = .ok (.imul, 1) by decide +kernel) c79 ?_
        refine y_aload_n (show decode cX12_layTown 91 = .ok (.aload_n 0, 1) by decide +kernel) 0 rfl ?_
        refine y_getf 92 12 54 442 (by decide) rfl (by decide) (by decide) q6_101 (show decode cX12_layTown 92 = .ok (.getfield 442, 3) by decide +kernel) (v := .inl (σ2 92 54)) rfl ?_
        obtain ⟨c80, h⟩ := chkI_some h
        refine y_iadd (show decode cX12_layTown 95 = .ok (.iadd, 1) by decide +kernel) c80 ?_
        refine y_aload_n (show decode cX12_layTown 96 = .ok (.aload_n 0, 1) by decide +kernel) 0 rfl ?_
        refine y_getf 92 12 55 439 (by decide) rfl (by decide) (by decide) q6_102 (show decode cX12_layTown 97 = .ok (.getfield 439, 3) by decide +kernel) (v := .inl (σ2 92 55)) rfl ?_
        obtain ⟨c81, h⟩ := chkA_some h
        obtain ⟨σ82, e83, h⟩ := bnd_i h
        refine yo_iast 124 36 (by decide) rfl c81 (ov_set1 e83 rfl) (show decode cX12_layTown 100 = .ok (.iastore, 1) by decide +kernel) ?_
        refine y_aload_n (show decode cX12_layTown 101 = .ok (.aload_n 0, 1) by decide +kernel) 0 rfl ?_
        refine y_getf 92 12 45 110 (by decide) rfl (by decide) (by decide) q6_92 (show decode cX12_layTown 102 = .ok (.getfield 110, 3) by decide +kernel) (v := .inr (.inr (124 + 1))) rfl ?_
        refine y_bipush (show decode cX12_layTown 105 = .ok (.bipush 6, 2) by decide +kernel) rfl rfl ?_
        refine y_aload_n (show decode cX12_layTown 107 = .ok (.aload_n 0, 1) by decide +kernel) 0 rfl ?_
        refine y_getf 92 12 54 442 (by decide) rfl (by decide) (by decide) q6_101 (show decode cX12_layTown 108 = .ok (.getfield 442, 3) by decide +kernel) (v := .inl (σ82 92 54)) rfl ?_
        obtain ⟨c84, h⟩ := chkI_some h
        refine y_imul (show decode cX12_layTown 111 = .ok (.imul, 1) by decide +kernel) c84 ?_
        refine y_aload_n (show decode cX12_layTown 112 = .ok (.aload_n 0, 1) by decide +kernel) 0 rfl ?_
        refine y_getf 92 12 53 436 (by decide) rfl (by decide) (by decide) q6_100 (show decode cX12_layTown 113 = .ok (.getfield 436, 3) by decide +kernel) (v := .inl (σ82 92 53)) rfl ?_
        obtain ⟨c85, h⟩ := chkI_some h
        refine y_iadd (show decode cX12_layTown 116 = .ok (.iadd, 1) by decide +kernel) c85 ?_
        refine y_aload_n (show decode cX12_layTown 117 = .ok (.aload_n 0, 1) by decide +kernel) 0 rfl ?_
        refine y_getf 92 12 55 439 (by decide) rfl (by decide) (by decide) q6_102 (show decode cX12_layTown 118 = .ok (.getfield 439, 3) by decide +kernel) (v := .inl (σ82 92 55)) rfl ?_
        obtain ⟨c86, h⟩ := chkA_some h
        obtain ⟨σ87, e88, h⟩ := bnd_i h
        refine yo_iast 124 36 (by decide) rfl c86 (ov_set1 e88 rfl) (show decode cX12_layTown 121 = .ok (.iastore, 1) by decide +kernel) ?_
        refine y_pick [0] rfl ?_
        exact hj6 _ h
  · rw [if_neg c4] at h
    refine y_icmp_ge_f (show decode cX12_layTown 5 = .ok (.if_icmp .ge 44, 3) by decide +kernel) c4 (by decide) ?_
    refine y_aload_n (show decode cX12_layTown 8 = .ok (.aload_n 0, 1) by decide +kernel) 0 rfl ?_
    refine y_getf 92 12 45 110 (by decide) rfl (by decide) (by decide) q6_92 (show decode cX12_layTown 9 = .ok (.getfield 110, 3) by decide +kernel) (v := .inr (.inr (124 + 1))) rfl ?_
    refine y_iload_n (show decode cX12_layTown 12 = .ok (.iload_n 1, 1) by decide +kernel) 1 rfl ?_
    refine y_iload_n (show decode cX12_layTown 13 = .ok (.iload_n 1, 1) by decide +kernel) 1 rfl ?_
    refine y_bipush (show decode cX12_layTown 14 = .ok (.bipush 6, 2) by decide +kernel) rfl rfl ?_
    obtain ⟨c89, h⟩ := chk_some h
    obtain ⟨c90, h⟩ := chkI_some h
    refine y_idiv (show decode cX12_layTown 16 = .ok (.idiv, 1) by decide +kernel) c89 c90 ?_
    refine y_iload_n (show decode cX12_layTown 17 = .ok (.iload_n 1, 1) by decide +kernel) 1 rfl ?_
    refine y_bipush (show decode cX12_layTown 18 = .ok (.bipush 6, 2) by decide +kernel) rfl rfl ?_
    obtain ⟨c91, h⟩ := chk_some h
    obtain ⟨c92, h⟩ := chkI_some h
    refine y_irem (show decode cX12_layTown 20 = .ok (.irem, 1) by decide +kernel) c91 c92 ?_
    refine bnd_j (Q := fun j94 => ∀ (y93 : Int), j94 y93 = some τ → Y E MX12_layTown (yRm 2 0 0) (yQf E (150 + 0) 0 0 none (ov τ)) 42 [(0, .inr (.inr (92 + 1))), (1, .inl x1)] [.inl y93, .inl x1, .inr (.inr (124 + 1))] (ov σ2) 150 0 0) (fun y93 h => ?_) (fun j94 hj94 h => ?_) h
    · dsimp only at h
      obtain ⟨c95, h⟩ := chkA_some h
      obtain ⟨σ96, e97, h⟩ := bnd_i h
      refine yo_iast 124 36 (by decide) rfl c95 (ov_set1 e97 rfl) (show decode cX12_layTown 42 = .ok (.iastore, 1) by decide +kernel) ?_
      obtain ⟨c98, h⟩ := chkI_some h
      refine y_iinc (show decode cX12_layTown 43 = .ok (.iinc 1 1, 3) by decide +kernel) 1 rfl c98 rfl (L1 := [(1, .inl (x1 + 1)), (0, .inr (.inr (92 + 1)))]) rfl ?_
      refine y_goto (tgt := 2) (show decode cX12_layTown 46 = .ok (.goto (-44), 3) by decide +kernel) rfl ?_
      refine y_pick [1, 0] rfl ?_
      exact hk3 _ _ h
    by_cases c99 : ¬ ((x1 : Int).tdiv 6) = ((x1 : Int).tmod 6)
    · rw [if_pos c99] at h
      refine y_icmp_ne_t (tgt := 28) (show decode cX12_layTown 21 = .ok (.if_icmp .ne 7, 3) by decide +kernel) rfl c99 ?_
      refine y_aload_n (show decode cX12_layTown 28 = .ok (.aload_n 0, 1) by decide +kernel) 0 rfl ?_
      refine y_getf 92 12 26 68 (by decide) rfl (by decide) (by decide) q6_73 (show decode cX12_layTown 29 = .ok (.getfield 68, 3) by decide +kernel) (v := .inr (.inr (110 + 1))) rfl ?_
      refine y_bipush (show decode cX12_layTown 32 = .ok (.bipush 36, 2) by decide +kernel) rfl rfl ?_
      refine y_aload_n (show decode cX12_layTown 34 = .ok (.aload_n 0, 1) by decide +kernel) 0 rfl ?_
      refine y_getf 92 12 40 311 (by decide) rfl (by decide) (by decide) q6_87 (show decode cX12_layTown 35 = .ok (.getfield 311, 3) by decide +kernel) (v := .inl (σ2 92 40)) rfl ?_
      obtain ⟨c100, h⟩ := chkI_some h
      refine y_imul (show decode cX12_layTown 38 = .ok (.imul, 1) by decide +kernel) c100 ?_
      refine y_iload_n (show decode cX12_layTown 39 = .ok (.iload_n 1, 1) by decide +kernel) 1 rfl ?_
      obtain ⟨c101, h⟩ := chkI_some h
      refine y_iadd (show decode cX12_layTown 40 = .ok (.iadd, 1) by decide +kernel) c101 ?_
      obtain ⟨c102, h⟩ := chkA_some h
      refine yo_iald 110 72 (by decide) rfl c102 (ov_at rfl) (show decode cX12_layTown 41 = .ok (.iaload, 1) by decide +kernel) ?_
      refine y_pick [0, 1] rfl ?_
      exact hj94 _ h
    · rw [if_neg c99] at h
      refine y_icmp_ne_f (show decode cX12_layTown 21 = .ok (.if_icmp .ne 7, 3) by decide +kernel) c99 (by decide) ?_
      refine y_iconst (show decode cX12_layTown 24 = .ok (.iconst 0, 1) by decide +kernel) rfl ?_
      refine y_goto (tgt := 42) (show decode cX12_layTown 25 = .ok (.goto 17, 3) by decide +kernel) rfl ?_
      refine y_pick [0, 1] rfl ?_
      exact hj94 _ h
abbrev MX12_gets : yM := (yX12_gets, cX12_gets, 3, some .boolean)
def mo_gets (a : Int) (b : Int) (σ : ySt) : Option (Int) :=
  chkI (6 * a) <|
  chkI ((6 * a) + b) <|
  chkA 36 ((6 * a) + b) <|
  if (σ 124 (((6 * a) + b)).toNat) > (σ 92 47) then
    some 0
  else
    some 1
set_option maxHeartbeats 4000000 in
set_option maxRecDepth 10000 in
theorem sh_mo_gets {E : yE} {a : Int} {b : Int} {σ : ySt} {ρ : Int} (h : mo_gets a b σ = some ρ) : Con E MX12_gets 0 0 0 [.inr (.inr (92 + 1)), .inl a, .inl b] 150 (ov σ) (some (.inl ρ)) (ov σ) := by
  unfold mo_gets at h
  refine Con.ofY (by decide +kernel) (by simp [yWords, yCat]) (fun hok _ => ?_)
  show Y E MX12_gets (yRm 0 0 0) (yQf E (150 + 0) 0 0 (some (.inl ρ)) (ov σ)) 0 [(0, .inr (.inr (92 + 1))), (1, .inl a), (2, .inl b)] [] (ov σ) 150 0 0
  refine y_aload_n (show decode cX12_gets 0 = .ok (.aload_n 0, 1) by decide +kernel) 0 rfl ?_
  refine y_getf 92 12 45 110 (by decide) rfl (by decide) (by decide) q6_92 (show decode cX12_gets 1 = .ok (.getfield 110, 3) by decide +kernel) (v := .inr (.inr (124 + 1))) rfl ?_
  refine y_bipush (show decode cX12_gets 4 = .ok (.bipush 6, 2) by decide +kernel) rfl rfl ?_
  refine y_iload_n (show decode cX12_gets 6 = .ok (.iload_n 1, 1) by decide +kernel) 1 rfl ?_
  obtain ⟨c1, h⟩ := chkI_some h
  refine y_imul (show decode cX12_gets 7 = .ok (.imul, 1) by decide +kernel) c1 ?_
  refine y_iload_n (show decode cX12_gets 8 = .ok (.iload_n 2, 1) by decide +kernel) 2 rfl ?_
  obtain ⟨c2, h⟩ := chkI_some h
  refine y_iadd (show decode cX12_gets 9 = .ok (.iadd, 1) by decide +kernel) c2 ?_
  obtain ⟨c3, h⟩ := chkA_some h
  refine yo_iald 124 36 (by decide) rfl c3 (ov_at rfl) (show decode cX12_gets 10 = .ok (.iaload, 1) by decide +kernel) ?_
  refine y_aload_n (show decode cX12_gets 11 = .ok (.aload_n 0, 1) by decide +kernel) 0 rfl ?_
  refine y_getf 92 12 47 421 (by decide) rfl (by decide) (by decide) q6_94 (show decode cX12_gets 12 = .ok (.getfield 421, 3) by decide +kernel) (v := .inl (σ 92 47)) rfl ?_
  by_cases c4 : (σ 124 (((6 * a) + b)).toNat) > (σ 92 47)
  · rw [if_pos c4] at h
    refine y_icmp_gt_t (tgt := 22) (show decode cX12_gets 15 = .ok (.if_icmp .gt 7, 3) by decide +kernel) rfl c4 ?_
    refine y_iconst (show decode cX12_gets 22 = .ok (.iconst 0, 1) by decide +kernel) rfl ?_
    cases h
    exact y_zret (show decode cX12_gets 23 = .ok (.ireturn, 1) by decide +kernel) rfl (Or.inl rfl)
  · rw [if_neg c4] at h
    refine y_icmp_gt_f (show decode cX12_gets 15 = .ok (.if_icmp .gt 7, 3) by decide +kernel) c4 (by decide) ?_
    refine y_iconst (show decode cX12_gets 18 = .ok (.iconst 1, 1) by decide +kernel) rfl ?_
    refine y_goto (tgt := 23) (show decode cX12_gets 19 = .ok (.goto 4, 3) by decide +kernel) rfl ?_
    cases h
    exact y_zret (show decode cX12_gets 23 = .ok (.ireturn, 1) by decide +kernel) rfl (Or.inr rfl)
abbrev MX12_minutes : yM := (yX12_minutes, cX12_minutes, 3, some .int)
def mo_minutes (N : Nat) (a : Int) (b : Int) (σ : ySt) : Option (Int × ySt) :=
  bndO (mo_isPlace a σ) fun r2 =>
  if r2 = 0 then
    some ((-1), σ)
  else
    bndO (mo_isPlace b σ) fun r5 =>
    if ¬ r5 = 0 then
      bndO (mo_plain σ) fun σ8 =>
      bndO (mo_layTown N σ8) fun σ10 =>
      chkI (6 * a) <|
      chkI ((6 * a) + b) <|
      chkA 36 ((6 * a) + b) <|
      if (σ10 124 (((6 * a) + b)).toNat) ≥ 1000000 then
        some ((-1), σ10)
      else
        chkI (6 * a) <|
        chkI ((6 * a) + b) <|
        chkA 36 ((6 * a) + b) <|
        some ((σ10 124 (((6 * a) + b)).toNat), σ10)
    else
      some ((-1), σ)
set_option maxHeartbeats 4000000 in
set_option maxRecDepth 10000 in
theorem sh_mo_minutes {E : yE} {N : Nat} {a : Int} {b : Int} {σ : ySt} {ρ : Int} {τ : ySt} (h : mo_minutes N a b σ = some (ρ, τ)) : Con E MX12_minutes 3 0 0 [.inr (.inr (92 + 1)), .inl a, .inl b] 150 (ov σ) (some (.inl ρ)) (ov τ) := by
  unfold mo_minutes at h
  refine Con.ofY (by decide +kernel) (by simp [yWords, yCat]) (fun hok _ => ?_)
  show Y E MX12_minutes (yRm 3 0 0) (yQf E (150 + 0) 0 0 (some (.inl ρ)) (ov τ)) 0 [(0, .inr (.inr (92 + 1))), (1, .inl a), (2, .inl b)] [] (ov σ) 150 0 0
  refine y_aload_n (show decode cX12_minutes 0 = .ok (.aload_n 0, 1) by decide +kernel) 0 rfl ?_
  refine y_iload_n (show decode cX12_minutes 1 = .ok (.iload_n 1, 1) by decide +kernel) 1 rfl ?_
  obtain ⟨r2, e1, h⟩ := bndO_some h
  refine y_callV (np := 1) (st := []) (as := [.inl a]) 92 12 (sh_mo_isPlace e1) q8_11 q8_8 q8_10 qs6_5 q1_15 (by decide) rfl (by decide) rfl (by decide) (by decide +kernel) (by decide) rfl (Nat.le_of_ble_eq_true rfl) (show decode cX12_minutes 2 = .ok (.invokevirtual 448, 3) by decide +kernel) rfl ?_
  by_cases c3 : r2 = 0
  · rw [if_pos c3] at h
    refine y_if_eq_t (tgt := 16) (show decode cX12_minutes 5 = .ok (.ifCond .eq 11, 3) by decide +kernel) rfl c3 ?_
    refine y_iconst (show decode cX12_minutes 16 = .ok (.iconst (-1), 1) by decide +kernel) rfl ?_
    cases h
    exact y_iret (show decode cX12_minutes 17 = .ok (.ireturn, 1) by decide +kernel) rfl
  · rw [if_neg c3] at h
    refine y_if_eq_f (show decode cX12_minutes 5 = .ok (.ifCond .eq 11, 3) by decide +kernel) c3 (by decide) ?_
    refine y_aload_n (show decode cX12_minutes 8 = .ok (.aload_n 0, 1) by decide +kernel) 0 rfl ?_
    refine y_iload_n (show decode cX12_minutes 9 = .ok (.iload_n 2, 1) by decide +kernel) 2 rfl ?_
    obtain ⟨r5, e4, h⟩ := bndO_some h
    refine y_callV (np := 1) (st := []) (as := [.inl b]) 92 12 (sh_mo_isPlace e4) q8_11 q8_8 q8_10 qs6_5 q1_15 (by decide) rfl (by decide) rfl (by decide) (by decide +kernel) (by decide) rfl (Nat.le_of_ble_eq_true rfl) (show decode cX12_minutes 10 = .ok (.invokevirtual 448, 3) by decide +kernel) rfl ?_
    by_cases c6 : ¬ r5 = 0
    · rw [if_pos c6] at h
      refine y_if_ne_t (tgt := 18) (show decode cX12_minutes 13 = .ok (.ifCond .ne 5, 3) by decide +kernel) rfl c6 ?_
      refine y_aload_n (show decode cX12_minutes 18 = .ok (.aload_n 0, 1) by decide +kernel) 0 rfl ?_
      obtain ⟨σ8, e7, h⟩ := bndO_some h
      refine y_callV (np := 0) (st := []) (as := []) 92 12 (sh_mo_plain e7) q8_22 q8_19 q8_21 qs6_7 q1_15 (by decide) rfl (by decide) rfl (by decide) (by decide +kernel) (by decide) rfl (Nat.le_of_ble_eq_true rfl) (show decode cX12_minutes 19 = .ok (.invokevirtual 451, 3) by decide +kernel) rfl ?_
      refine y_aload_n (show decode cX12_minutes 22 = .ok (.aload_n 0, 1) by decide +kernel) 0 rfl ?_
      obtain ⟨σ10, e9, h⟩ := bndO_some h
      refine y_callV (np := 0) (st := []) (as := []) 92 12 (sh_mo_layTown e9) q8_26 q8_23 q8_25 qs6_8 q1_15 (by decide) rfl (by decide) rfl (by decide) (by decide +kernel) (by decide) rfl (Nat.le_of_ble_eq_true rfl) (show decode cX12_minutes 23 = .ok (.invokevirtual 454, 3) by decide +kernel) rfl ?_
      refine y_aload_n (show decode cX12_minutes 26 = .ok (.aload_n 0, 1) by decide +kernel) 0 rfl ?_
      refine y_getf 92 12 45 110 (by decide) rfl (by decide) (by decide) q6_92 (show decode cX12_minutes 27 = .ok (.getfield 110, 3) by decide +kernel) (v := .inr (.inr (124 + 1))) rfl ?_
      refine y_bipush (show decode cX12_minutes 30 = .ok (.bipush 6, 2) by decide +kernel) rfl rfl ?_
      refine y_iload_n (show decode cX12_minutes 32 = .ok (.iload_n 1, 1) by decide +kernel) 1 rfl ?_
      obtain ⟨c11, h⟩ := chkI_some h
      refine y_imul (show decode cX12_minutes 33 = .ok (.imul, 1) by decide +kernel) c11 ?_
      refine y_iload_n (show decode cX12_minutes 34 = .ok (.iload_n 2, 1) by decide +kernel) 2 rfl ?_
      obtain ⟨c12, h⟩ := chkI_some h
      refine y_iadd (show decode cX12_minutes 35 = .ok (.iadd, 1) by decide +kernel) c12 ?_
      obtain ⟨c13, h⟩ := chkA_some h
      refine yo_iald 124 36 (by decide) rfl c13 (ov_at rfl) (show decode cX12_minutes 36 = .ok (.iaload, 1) by decide +kernel) ?_
      refine y_ldcw (k := 1000000) (show decode cX12_minutes 37 = .ok (.ldc_w 307, 3) by decide +kernel) q6_34 rfl rfl ?_
      by_cases c14 : (σ10 124 (((6 * a) + b)).toNat) ≥ 1000000
      · rw [if_pos c14] at h
        refine y_icmp_ge_t (tgt := 57) (show decode cX12_minutes 40 = .ok (.if_icmp .ge 17, 3) by decide +kernel) rfl c14 ?_
        refine y_iconst (show decode cX12_minutes 57 = .ok (.iconst (-1), 1) by decide +kernel) rfl ?_
        cases h
        exact y_iret (show decode cX12_minutes 58 = .ok (.ireturn, 1) by decide +kernel) rfl
      · rw [if_neg c14] at h
        refine y_icmp_ge_f (show decode cX12_minutes 40 = .ok (.if_icmp .ge 17, 3) by decide +kernel) c14 (by decide) ?_
        refine y_aload_n (show decode cX12_minutes 43 = .ok (.aload_n 0, 1) by decide +kernel) 0 rfl ?_
        refine y_getf 92 12 45 110 (by decide) rfl (by decide) (by decide) q6_92 (show decode cX12_minutes 44 = .ok (.getfield 110, 3) by decide +kernel) (v := .inr (.inr (124 + 1))) rfl ?_
        refine y_bipush (show decode cX12_minutes 47 = .ok (.bipush 6, 2) by decide +kernel) rfl rfl ?_
        refine y_iload_n (show decode cX12_minutes 49 = .ok (.iload_n 1, 1) by decide +kernel) 1 rfl ?_
        obtain ⟨c15, h⟩ := chkI_some h
        refine y_imul (show decode cX12_minutes 50 = .ok (.imul, 1) by decide +kernel) c15 ?_
        refine y_iload_n (show decode cX12_minutes 51 = .ok (.iload_n 2, 1) by decide +kernel) 2 rfl ?_
        obtain ⟨c16, h⟩ := chkI_some h
        refine y_iadd (show decode cX12_minutes 52 = .ok (.iadd, 1) by decide +kernel) c16 ?_
        obtain ⟨c17, h⟩ := chkA_some h
        refine yo_iald 124 36 (by decide) rfl c17 (ov_at rfl) (show decode cX12_minutes 53 = .ok (.iaload, 1) by decide +kernel) ?_
        refine y_goto (tgt := 58) (show decode cX12_minutes 54 = .ok (.goto 4, 3) by decide +kernel) rfl ?_
        cases h
        exact y_iret (show decode cX12_minutes 58 = .ok (.ireturn, 1) by decide +kernel) rfl
    · rw [if_neg c6] at h
      refine y_if_ne_f (show decode cX12_minutes 13 = .ok (.ifCond .ne 5, 3) by decide +kernel) c6 (by decide) ?_
      refine y_iconst (show decode cX12_minutes 16 = .ok (.iconst (-1), 1) by decide +kernel) rfl ?_
      cases h
      exact y_iret (show decode cX12_minutes 17 = .ok (.ireturn, 1) by decide +kernel) rfl
abbrev MX12_right : yM := (yX12_right, cX12_right, 4, some .int)
def mo_right (N : Nat) (a : Int) (b : Int) (c : Int) (σ : ySt) : Option (Int × ySt) :=
  bndO (mo_isPlace a σ) fun r2 =>
  if r2 = 0 then
    some ((-1), σ)
  else
    bndO (mo_isIn b 0 5 σ) fun r5 =>
    if r5 = 0 then
      some ((-1), σ)
    else
      bndO (mo_isIn c 1 8 σ) fun r8 =>
      if ¬ r8 = 0 then
        bndR (mo_isRight N a b c σ) fun r11 σ12 =>
        if r11 = 0 then
          some (0, σ12)
        else
          some (1, σ12)
      else
        some ((-1), σ)
set_option maxHeartbeats 4000000 in
set_option maxRecDepth 10000 in
theorem sh_mo_right {E : yE} {N : Nat} {a : Int} {b : Int} {c : Int} {σ : ySt} {ρ : Int} {τ : ySt} (h : mo_right N a b c σ = some (ρ, τ)) : Con E MX12_right 2 0 0 [.inr (.inr (92 + 1)), .inl a, .inl b, .inl c] 150 (ov σ) (some (.inl ρ)) (ov τ) := by
  unfold mo_right at h
  refine Con.ofY (by decide +kernel) (by simp [yWords, yCat]) (fun hok _ => ?_)
  show Y E MX12_right (yRm 2 0 0) (yQf E (150 + 0) 0 0 (some (.inl ρ)) (ov τ)) 0 [(0, .inr (.inr (92 + 1))), (1, .inl a), (2, .inl b), (3, .inl c)] [] (ov σ) 150 0 0
  refine y_aload_n (show decode cX12_right 0 = .ok (.aload_n 0, 1) by decide +kernel) 0 rfl ?_
  refine y_iload_n (show decode cX12_right 1 = .ok (.iload_n 1, 1) by decide +kernel) 1 rfl ?_
  obtain ⟨r2, e1, h⟩ := bndO_some h
  refine y_callV (np := 1) (st := []) (as := [.inl a]) 92 12 (sh_mo_isPlace e1) q8_11 q8_8 q8_10 qs6_5 q1_15 (by decide) rfl (by decide) rfl (by decide) (by decide +kernel) (by decide) rfl (Nat.le_of_ble_eq_true rfl) (show decode cX12_right 2 = .ok (.invokevirtual 448, 3) by decide +kernel) rfl ?_
  by_cases c3 : r2 = 0
  · rw [if_pos c3] at h
    refine y_if_eq_t (tgt := 27) (show decode cX12_right 5 = .ok (.ifCond .eq 22, 3) by decide +kernel) rfl c3 ?_
    refine y_iconst (show decode cX12_right 27 = .ok (.iconst (-1), 1) by decide +kernel) rfl ?_
    refine y_goto (tgt := 46) (show decode cX12_right 28 = .ok (.goto 18, 3) by decide +kernel) rfl ?_
    cases h
    exact y_iret (show decode cX12_right 46 = .ok (.ireturn, 1) by decide +kernel) rfl
  · rw [if_neg c3] at h
    refine y_if_eq_f (show decode cX12_right 5 = .ok (.ifCond .eq 22, 3) by decide +kernel) c3 (by decide) ?_
    refine y_iload_n (show decode cX12_right 8 = .ok (.iload_n 2, 1) by decide +kernel) 2 rfl ?_
    refine y_iconst (show decode cX12_right 9 = .ok (.iconst 0, 1) by decide +kernel) rfl ?_
    refine y_iconst (show decode cX12_right 10 = .ok (.iconst 5, 1) by decide +kernel) rfl ?_
    obtain ⟨r5, e4, h⟩ := bndO_some h
    refine y_callS (np := 3) (st := []) (as := [.inl b, .inl 0, .inl 5]) (sh_mo_isIn e4) q8_18 q8_16 q8_17 q1_15 (by decide) (by decide +kernel) (by decide) rfl (Nat.le_of_ble_eq_true rfl) (show decode cX12_right 11 = .ok (.invokestatic 414, 3) by decide +kernel) rfl ?_
    by_cases c6 : r5 = 0
    · rw [if_pos c6] at h
      refine y_if_eq_t (tgt := 27) (show decode cX12_right 14 = .ok (.ifCond .eq 13, 3) by decide +kernel) rfl c6 ?_
      refine y_iconst (show decode cX12_right 27 = .ok (.iconst (-1), 1) by decide +kernel) rfl ?_
      refine y_goto (tgt := 46) (show decode cX12_right 28 = .ok (.goto 18, 3) by decide +kernel) rfl ?_
      cases h
      exact y_iret (show decode cX12_right 46 = .ok (.ireturn, 1) by decide +kernel) rfl
    · rw [if_neg c6] at h
      refine y_if_eq_f (show decode cX12_right 14 = .ok (.ifCond .eq 13, 3) by decide +kernel) c6 (by decide) ?_
      refine y_iload_n (show decode cX12_right 17 = .ok (.iload_n 3, 1) by decide +kernel) 3 rfl ?_
      refine y_iconst (show decode cX12_right 18 = .ok (.iconst 1, 1) by decide +kernel) rfl ?_
      refine y_bipush (show decode cX12_right 19 = .ok (.bipush 8, 2) by decide +kernel) rfl rfl ?_
      obtain ⟨r8, e7, h⟩ := bndO_some h
      refine y_callS (np := 3) (st := []) (as := [.inl c, .inl 1, .inl 8]) (sh_mo_isIn e7) q8_18 q8_16 q8_17 q1_15 (by decide) (by decide +kernel) (by decide) rfl (Nat.le_of_ble_eq_true rfl) (show decode cX12_right 21 = .ok (.invokestatic 414, 3) by decide +kernel) rfl ?_
      by_cases c9 : ¬ r8 = 0
      · rw [if_pos c9] at h
        refine y_if_ne_t (tgt := 31) (show decode cX12_right 24 = .ok (.ifCond .ne 7, 3) by decide +kernel) rfl c9 ?_
        refine y_aload_n (show decode cX12_right 31 = .ok (.aload_n 0, 1) by decide +kernel) 0 rfl ?_
        refine y_iload_n (show decode cX12_right 32 = .ok (.iload_n 1, 1) by decide +kernel) 1 rfl ?_
        refine y_iload_n (show decode cX12_right 33 = .ok (.iload_n 2, 1) by decide +kernel) 2 rfl ?_
        refine y_iload_n (show decode cX12_right 34 = .ok (.iload_n 3, 1) by decide +kernel) 3 rfl ?_
        obtain ⟨r11, σ12, e10, h⟩ := bndR_some h
        refine y_callV (np := 3) (st := []) (as := [.inl a, .inl b, .inl c]) 92 12 (sh_mo_isRight e10) q8_30 q8_27 q8_29 qs6_9 q1_15 (by decide) rfl (by decide) rfl (by decide) (by decide +kernel) (by decide) rfl (Nat.le_of_ble_eq_true rfl) (show decode cX12_right 35 = .ok (.invokevirtual 445, 3) by decide +kernel) rfl ?_
        by_cases c13 : r11 = 0
        · rw [if_pos c13] at h
          refine y_if_eq_t (tgt := 45) (show decode cX12_right 38 = .ok (.ifCond .eq 7, 3) by decide +kernel) rfl c13 ?_
          refine y_iconst (show decode cX12_right 45 = .ok (.iconst 0, 1) by decide +kernel) rfl ?_
          cases h
          exact y_iret (show decode cX12_right 46 = .ok (.ireturn, 1) by decide +kernel) rfl
        · rw [if_neg c13] at h
          refine y_if_eq_f (show decode cX12_right 38 = .ok (.ifCond .eq 7, 3) by decide +kernel) c13 (by decide) ?_
          refine y_iconst (show decode cX12_right 41 = .ok (.iconst 1, 1) by decide +kernel) rfl ?_
          refine y_goto (tgt := 46) (show decode cX12_right 42 = .ok (.goto 4, 3) by decide +kernel) rfl ?_
          cases h
          exact y_iret (show decode cX12_right 46 = .ok (.ireturn, 1) by decide +kernel) rfl
      · rw [if_neg c9] at h
        refine y_if_ne_f (show decode cX12_right 24 = .ok (.ifCond .ne 7, 3) by decide +kernel) c9 (by decide) ?_
        refine y_iconst (show decode cX12_right 27 = .ok (.iconst (-1), 1) by decide +kernel) rfl ?_
        refine y_goto (tgt := 46) (show decode cX12_right 28 = .ok (.goto 18, 3) by decide +kernel) rfl ?_
        cases h
        exact y_iret (show decode cX12_right 46 = .ok (.ireturn, 1) by decide +kernel) rfl
abbrev MX12_power : yM := (yX12_power, cX12_power, 4, some .int)
def mo_power (N : Nat) (a : Int) (σ : ySt) : Option (Int) :=
  loop2 (fun k3 x1 x2 =>
    if x2 ≥ a then
      some x1
    else
      bndO (mo_placeMany σ) fun r6 =>
      chkI (x1 * r6) <|
      chkI (x2 + 1) <|
      k3 (x1 * r6) (x2 + 1)) N 1 0
set_option maxHeartbeats 4000000 in
set_option maxRecDepth 10000 in
theorem sh_mo_power {E : yE} {N : Nat} {a : Int} {σ : ySt} {ρ : Int} (h : mo_power N a σ = some ρ) : Con E MX12_power 1 0 0 [.inr (.inr (92 + 1)), .inl a] 150 (ov σ) (some (.inl ρ)) (ov σ) := by
  unfold mo_power at h
  refine Con.ofY (by decide +kernel) (by simp [yWords, yCat]) (fun hok _ => ?_)
  show Y E MX12_power (yRm 1 0 0) (yQf E (150 + 0) 0 0 (some (.inl ρ)) (ov σ)) 0 [(0, .inr (.inr (92 + 1))), (1, .inl a)] [] (ov σ) 150 0 0
  refine y_iconst (show decode cX12_power 0 = .ok (.iconst 1, 1) by decide +kernel) rfl ?_
  refine y_istore_n (show decode cX12_power 1 = .ok (.istore_n 2, 1) by decide +kernel) rfl (L1 := [(2, .inl 1), (0, .inr (.inr (92 + 1))), (1, .inl a)]) rfl ?_
  refine y_iconst (show decode cX12_power 2 = .ok (.iconst 0, 1) by decide +kernel) rfl ?_
  refine y_istore_n (show decode cX12_power 3 = .ok (.istore_n 3, 1) by decide +kernel) rfl (L1 := [(3, .inl 0), (2, .inl 1), (0, .inr (.inr (92 + 1))), (1, .inl a)]) rfl ?_
  refine y_pick [2, 3, 1, 0] rfl ?_
  refine loop2_ind (P := fun x1 x2 => Y E MX12_power (yRm 1 0 0) (yQf E (150 + 0) 0 0 (some (.inl ρ)) (ov σ)) 4 [(0, .inr (.inr (92 + 1))), (1, .inl a), (2, .inl x1), (3, .inl x2)] [] (ov σ) 150 0 0) (fun k3 hk3 x1 x2 h => ?_) _ _ _  h
  refine y_iload_n (show decode cX12_power 4 = .ok (.iload_n 3, 1) by decide +kernel) 3 rfl ?_
  refine y_iload_n (show decode cX12_power 5 = .ok (.iload_n 1, 1) by decide +kernel) 1 rfl ?_
  by_cases c4 : x2 ≥ a
  · rw [if_pos c4] at h
    refine y_icmp_ge_t (tgt := 22) (show decode cX12_power 6 = .ok (.if_icmp .ge 16, 3) by decide +kernel) rfl c4 ?_
    refine y_iload_n (show decode cX12_power 22 = .ok (.iload_n 2, 1) by decide +kernel) 2 rfl ?_
    cases h
    exact y_iret (show decode cX12_power 23 = .ok (.ireturn, 1) by decide +kernel) rfl
  · rw [if_neg c4] at h
    refine y_icmp_ge_f (show decode cX12_power 6 = .ok (.if_icmp .ge 16, 3) by decide +kernel) c4 (by decide) ?_
    refine y_iload_n (show decode cX12_power 9 = .ok (.iload_n 2, 1) by decide +kernel) 2 rfl ?_
    refine y_aload_n (show decode cX12_power 10 = .ok (.aload_n 0, 1) by decide +kernel) 0 rfl ?_
    obtain ⟨r6, e5, h⟩ := bndO_some h
    refine y_callV (np := 0) (st := [.inl x1]) (as := []) 92 12 (sh_mo_placeMany e5) q8_15 q8_12 q8_14 qs6_6 q1_15 (by decide) rfl (by decide) rfl (by decide) (by decide +kernel) (by decide) rfl (Nat.le_of_ble_eq_true rfl) (show decode cX12_power 11 = .ok (.invokevirtual 411, 3) by decide +kernel) rfl ?_
    obtain ⟨c7, h⟩ := chkI_some h
    refine y_imul (show decode cX12_power 14 = .ok (.imul, 1) by decide +kernel) c7 ?_
    refine y_istore_n (show decode cX12_power 15 = .ok (.istore_n 2, 1) by decide +kernel) rfl (L1 := [(2, .inl (x1 * r6)), (0, .inr (.inr (92 + 1))), (1, .inl a), (3, .inl x2)]) rfl ?_
    obtain ⟨c8, h⟩ := chkI_some h
    refine y_iinc (show decode cX12_power 16 = .ok (.iinc 3 1, 3) by decide +kernel) 3 rfl c8 rfl (L1 := [(3, .inl (x2 + 1)), (2, .inl (x1 * r6)), (0, .inr (.inr (92 + 1))), (1, .inl a)]) rfl ?_
    refine y_goto (tgt := 4) (show decode cX12_power 19 = .ok (.goto (-15), 3) by decide +kernel) rfl ?_
    refine y_pick [2, 3, 1, 0] rfl ?_
    exact hk3 _ _ h
abbrev MX12_stateMany : yM := (yX12_stateMany, cX12_stateMany, 1, some .int)
def mo_stateMany (N : Nat) (σ : ySt) : Option (Int) :=
  bndO (mo_personMany σ) fun r2 =>
  bndO (mo_power N r2 σ) fun r4 =>
  some r4
set_option maxHeartbeats 4000000 in
set_option maxRecDepth 10000 in
theorem sh_mo_stateMany {E : yE} {N : Nat} {σ : ySt} {ρ : Int} (h : mo_stateMany N σ = some ρ) : Con E MX12_stateMany 2 0 0 [.inr (.inr (92 + 1))] 150 (ov σ) (some (.inl ρ)) (ov σ) := by
  unfold mo_stateMany at h
  refine Con.ofY (by decide +kernel) (by simp [yWords, yCat]) (fun hok _ => ?_)
  show Y E MX12_stateMany (yRm 2 0 0) (yQf E (150 + 0) 0 0 (some (.inl ρ)) (ov σ)) 0 [(0, .inr (.inr (92 + 1)))] [] (ov σ) 150 0 0
  refine y_aload_n (show decode cX12_stateMany 0 = .ok (.aload_n 0, 1) by decide +kernel) 0 rfl ?_
  refine y_aload_n (show decode cX12_stateMany 1 = .ok (.aload_n 0, 1) by decide +kernel) 0 rfl ?_
  obtain ⟨r2, e1, h⟩ := bndO_some h
  refine y_callV (np := 0) (st := [.inr (.inr (92 + 1))]) (as := []) 92 12 (sh_mo_personMany e1) q6_42 q6_39 q6_41 qs4_1 q1_15 (by decide) rfl (by decide) rfl (by decide) (by decide +kernel) (by decide) rfl (Nat.le_of_ble_eq_true rfl) (show decode cX12_stateMany 2 = .ok (.invokevirtual 418, 3) by decide +kernel) rfl ?_
  obtain ⟨r4, e3, h⟩ := bndO_some h
  refine y_callV (np := 1) (st := []) (as := [.inl r2]) 92 12 (sh_mo_power e3) q8_61 q8_58 q8_60 qs6_13 q1_15 (by decide) rfl (by decide) rfl (by decide) (by decide +kernel) (by decide) rfl (Nat.le_of_ble_eq_true rfl) (show decode cX12_stateMany 5 = .ok (.invokevirtual 457, 3) by decide +kernel) rfl ?_
  cases h
  exact y_iret (show decode cX12_stateMany 8 = .ok (.ireturn, 1) by decide +kernel) rfl
abbrev MX12_layState : yM := (yX12_layState, cX12_layState, 4, none)
def mo_layState (N : Nat) (a : Int) (σ : ySt) : Option (ySt) :=
  loopS1 (fun k3 x1 σ2 =>
    if x1 ≥ 6 then
      bndO (mo_personMany σ2) fun r6 =>
      chkI (r6 - 1) <|
      loopS2 (fun k11 x8 x9 σ10 =>
        if x9 < 0 then
          some σ10
        else
          bndO (mo_placeMany σ10) fun r14 =>
          chk ((r14 : Int) ≠ 0) <|
          chkI ((x8 : Int).tmod r14) <|
          chkA 5 x9 <|
          bnd (yset σ10 126 (x9).toNat ((x8 : Int).tmod r14)) fun σ18 =>
          bndO (mo_placeMany σ18) fun r21 =>
          chk ((r21 : Int) ≠ 0) <|
          chkI ((x8 : Int).tdiv r21) <|
          chkA 5 x9 <|
          chkA 6 (σ18 126 (x9).toNat) <|
          chkI ((σ18 127 ((σ18 126 (x9).toNat)).toNat) + 1) <|
          chkA 6 (σ18 126 (x9).toNat) <|
          bnd (yset σ18 127 ((σ18 126 (x9).toNat)).toNat ((σ18 127 ((σ18 126 (x9).toNat)).toNat) + 1)) fun σ28 =>
          chkI (x9 + (-1)) <|
          k11 ((x8 : Int).tdiv r21) (x9 + (-1)) σ28) N a (r6 - 1) σ2
    else
      chkA 6 x1 <|
      bnd (yset σ2 127 (x1).toNat 0) fun σ32 =>
      chkI (x1 + 1) <|
      k3 (x1 + 1) σ32) N 0 σ
set_option maxHeartbeats 4000000 in
set_option maxRecDepth 10000 in
theorem sh_mo_layState {E : yE} {N : Nat} {a : Int} {σ : ySt} {τ : ySt} (h : mo_layState N a σ = some τ) : Con E MX12_layState 1 0 0 [.inr (.inr (92 + 1)), .inl a] 150 (ov σ) none (ov τ) := by
  unfold mo_layState at h
  refine Con.ofY (by decide +kernel) (by simp [yWords, yCat]) (fun hok _ => ?_)
  show Y E MX12_layState (yRm 1 0 0) (yQf E (150 + 0) 0 0 none (ov τ)) 0 [(0, .inr (.inr (92 + 1))), (1, .inl a)] [] (ov σ) 150 0 0
  refine y_iload_n (show decode cX12_layState 0 = .ok (.iload_n 1, 1) by decide +kernel) 1 rfl ?_
  refine y_istore_n (show decode cX12_layState 1 = .ok (.istore_n 2, 1) by decide +kernel) rfl (L1 := [(2, .inl a), (0, .inr (.inr (92 + 1))), (1, .inl a)]) rfl ?_
  refine y_iconst (show decode cX12_layState 2 = .ok (.iconst 0, 1) by decide +kernel) rfl ?_
  refine y_istore_n (show decode cX12_layState 3 = .ok (.istore_n 3, 1) by decide +kernel) rfl (L1 := [(3, .inl 0), (2, .inl a), (0, .inr (.inr (92 + 1))), (1, .inl a)]) rfl ?_
  refine y_pick [2, 1, 0] rfl ?_
  refine loopS1_ind (P := fun x1 σ2 => Y E MX12_layState (yRm 1 0 0) (yQf E (150 + 0) 0 0 none (ov τ)) 4 [(0, .inr (.inr (92 + 1))), (2, .inl a), (3, .inl x1)] [] (ov σ2) 150 0 0) (fun k3 hk3 x1 σ2 h => ?_) _ _ _  h
  refine y_iload_n (show decode cX12_layState 4 = .ok (.iload_n 3, 1) by decide +kernel) 2 rfl ?_
  refine y_bipush (show decode cX12_layState 5 = .ok (.bipush 6, 2) by decide +kernel) rfl rfl ?_
  by_cases c4 : x1 ≥ 6
  · rw [if_pos c4] at h
    refine y_icmp_ge_t (tgt := 23) (show decode cX12_layState 7 = .ok (.if_icmp .ge 16, 3) by decide +kernel) rfl c4 ?_
    refine y_aload_n (show decode cX12_layState 23 = .ok (.aload_n 0, 1) by decide +kernel) 0 rfl ?_
    obtain ⟨r6, e5, h⟩ := bndO_some h
    refine y_callV (np := 0) (st := []) (as := []) 92 12 (sh_mo_personMany e5) q6_42 q6_39 q6_41 qs4_1 q1_15 (by decide) rfl (by decide) rfl (by decide) (by decide +kernel) (by decide) rfl (Nat.le_of_ble_eq_true rfl) (show decode cX12_layState 24 = .ok (.invokevirtual 418, 3) by decide +kernel) rfl ?_
    refine y_iconst (show decode cX12_layState 27 = .ok (.iconst 1, 1) by decide +kernel) rfl ?_
    obtain ⟨c7, h⟩ := chkI_some h
    refine y_isub (show decode cX12_layState 28 = .ok (.isub, 1) by decide +kernel) c7 ?_
    refine y_istore_n (show decode cX12_layState 29 = .ok (.istore_n 3, 1) by decide +kernel) rfl (L1 := [(3, .inl (r6 - 1)), (0, .inr (.inr (92 + 1))), (2, .inl a)]) rfl ?_
    refine y_pick [1, 2, 0] rfl ?_
    refine loopS2_ind (P := fun x8 x9 σ10 => Y E MX12_layState (yRm 1 0 0) (yQf E (150 + 0) 0 0 none (ov τ)) 30 [(0, .inr (.inr (92 + 1))), (2, .inl x8), (3, .inl x9)] [] (ov σ10) 150 0 0) (fun k11 hk11 x8 x9 σ10 h => ?_) _ _ _ _  h
    refine y_iload_n (show decode cX12_layState 30 = .ok (.iload_n 3, 1) by decide +kernel) 2 rfl ?_
    by_cases c12 : x9 < 0
    · rw [if_pos c12] at h
      refine y_if_lt_t (tgt := 74) (show decode cX12_layState 31 = .ok (.ifCond .lt 43, 3) by decide +kernel) rfl c12 ?_
      cases h
      exact y_vret (show decode cX12_layState 74 = .ok (.return_, 1) by decide +kernel) rfl
    · rw [if_neg c12] at h
      refine y_if_lt_f (show decode cX12_layState 31 = .ok (.ifCond .lt 43, 3) by decide +kernel) c12 (by decide) ?_
      refine y_aload_n (show decode cX12_layState 34 = .ok (.aload_n 0, 1) by decide +kernel) 0 rfl ?_
      refine y_getf 92 12 56 116 (by decide) rfl (by decide) (by decide) q6_103 (show decode cX12_layState 35 = .ok (.getfield 116, 3) by decide +kernel) (v := .inr (.inr (126 + 1))) rfl ?_
      refine y_iload_n (show decode cX12_layState 38 = .ok (.iload_n 3, 1) by decide +kernel) 2 rfl ?_
      refine y_iload_n (show decode cX12_layState 39 = .ok (.iload_n 2, 1) by decide +kernel) 1 rfl ?_
      refine y_aload_n (show decode cX12_layState 40 = .ok (.aload_n 0, 1) by decide +kernel) 0 rfl ?_
      obtain ⟨r14, e13, h⟩ := bndO_some h
      refine y_callV (np := 0) (st := [.inl x8, .inl x9, .inr (.inr (126 + 1))]) (as := []) 92 12 (sh_mo_placeMany e13) q8_15 q8_12 q8_14 qs6_6 q1_15 (by decide) rfl (by decide) rfl (by decide) (by decide +kernel) (by decide) rfl (Nat.le_of_ble_eq_true rfl) (show decode cX12_layState 41 = .ok (.invokevirtual 411, 3) by decide +kernel) rfl ?_
      obtain ⟨c15, h⟩ := chk_some h
      obtain ⟨c16, h⟩ := chkI_some h
      refine y_irem (show decode cX12_layState 44 = .ok (.irem, 1) by decide +kernel) c15 c16 ?_
      obtain ⟨c17, h⟩ := chkA_some h
      obtain ⟨σ18, e19, h⟩ := bnd_i h
      refine yo_iast 126 5 (by decide) rfl c17 (ov_set1 e19 rfl) (show decode cX12_layState 45 = .ok (.iastore, 1) by decide +kernel) ?_
      refine y_iload_n (show decode cX12_layState 46 = .ok (.iload_n 2, 1) by decide +kernel) 1 rfl ?_
      refine y_aload_n (show decode cX12_layState 47 = .ok (.aload_n 0, 1) by decide +kernel) 0 rfl ?_
      obtain ⟨r21, e20, h⟩ := bndO_some h
      refine y_callV (np := 0) (st := [.inl x8]) (as := []) 92 12 (sh_mo_placeMany e20) q8_15 q8_12 q8_14 qs6_6 q1_15 (by decide) rfl (by decide) rfl (by decide) (by decide +kernel) (by decide) rfl (Nat.le_of_ble_eq_true rfl) (show decode cX12_layState 48 = .ok (.invokevirtual 411, 3) by decide +kernel) rfl ?_
      obtain ⟨c22, h⟩ := chk_some h
      obtain ⟨c23, h⟩ := chkI_some h
      refine y_idiv (show decode cX12_layState 51 = .ok (.idiv, 1) by decide +kernel) c22 c23 ?_
      refine y_istore_n (show decode cX12_layState 52 = .ok (.istore_n 2, 1) by decide +kernel) rfl (L1 := [(2, .inl ((x8 : Int).tdiv r21)), (0, .inr (.inr (92 + 1))), (3, .inl x9)]) rfl ?_
      refine y_aload_n (show decode cX12_layState 53 = .ok (.aload_n 0, 1) by decide +kernel) 1 rfl ?_
      refine y_getf 92 12 57 119 (by decide) rfl (by decide) (by decide) q6_104 (show decode cX12_layState 54 = .ok (.getfield 119, 3) by decide +kernel) (v := .inr (.inr (127 + 1))) rfl ?_
      refine y_aload_n (show decode cX12_layState 57 = .ok (.aload_n 0, 1) by decide +kernel) 1 rfl ?_
      refine y_getf 92 12 56 116 (by decide) rfl (by decide) (by decide) q6_103 (show decode cX12_layState 58 = .ok (.getfield 116, 3) by decide +kernel) (v := .inr (.inr (126 + 1))) rfl ?_
      refine y_iload_n (show decode cX12_layState 61 = .ok (.iload_n 3, 1) by decide +kernel) 2 rfl ?_
      obtain ⟨c24, h⟩ := chkA_some h
      refine yo_iald 126 5 (by decide) rfl c24 (ov_at rfl) (show decode cX12_layState 62 = .ok (.iaload, 1) by decide +kernel) ?_
      refine y_dup2 (show decode cX12_layState 63 = .ok (.dup2, 1) by decide +kernel) rfl rfl ?_
      obtain ⟨c25, h⟩ := chkA_some h
      refine yo_iald 127 6 (by decide) rfl c25 (ov_at rfl) (show decode cX12_layState 64 = .ok (.iaload, 1) by decide +kernel) ?_
      refine y_iconst (show decode cX12_layState 65 = .ok (.iconst 1, 1) by decide +kernel) rfl ?_
      obtain ⟨c26, h⟩ := chkI_some h
      refine y_iadd (show decode cX12_layState 66 = .ok (.iadd, 1) by decide +kernel) c26 ?_
      obtain ⟨c27, h⟩ := chkA_some h
      obtain ⟨σ28, e29, h⟩ := bnd_i h
      refine yo_iast 127 6 (by decide) rfl c27 (ov_set1 e29 rfl) (show decode cX12_layState 67 = .ok (.iastore, 1) by decide +kernel) ?_
      obtain ⟨c30, h⟩ := chkI_some h
      refine y_iinc (show decode cX12_layState 68 = .ok (.iinc 3 (-1), 3) by decide +kernel) 2 rfl c30 rfl (L1 := [(3, .inl (x9 + (-1))), (2, .inl ((x8 : Int).tdiv r21)), (0, .inr (.inr (92 + 1)))]) rfl ?_
      refine y_goto (tgt := 30) (show decode cX12_layState 71 = .ok (.goto (-41), 3) by decide +kernel) rfl ?_
      refine y_pick [2, 1, 0] rfl ?_
      exact hk11 _ _ _ h
  · rw [if_neg c4] at h
    refine y_icmp_ge_f (show decode cX12_layState 7 = .ok (.if_icmp .ge 16, 3) by decide +kernel) c4 (by decide) ?_
    refine y_aload_n (show decode cX12_layState 10 = .ok (.aload_n 0, 1) by decide +kernel) 0 rfl ?_
    refine y_getf 92 12 57 119 (by decide) rfl (by decide) (by decide) q6_104 (show decode cX12_layState 11 = .ok (.getfield 119, 3) by decide +kernel) (v := .inr (.inr (127 + 1))) rfl ?_
    refine y_iload_n (show decode cX12_layState 14 = .ok (.iload_n 3, 1) by decide +kernel) 2 rfl ?_
    refine y_iconst (show decode cX12_layState 15 = .ok (.iconst 0, 1) by decide +kernel) rfl ?_
    obtain ⟨c31, h⟩ := chkA_some h
    obtain ⟨σ32, e33, h⟩ := bnd_i h
    refine yo_iast 127 6 (by decide) rfl c31 (ov_set1 e33 rfl) (show decode cX12_layState 16 = .ok (.iastore, 1) by decide +kernel) ?_
    obtain ⟨c34, h⟩ := chkI_some h
    refine y_iinc (show decode cX12_layState 17 = .ok (.iinc 3 1, 3) by decide +kernel) 2 rfl c34 rfl (L1 := [(3, .inl (x1 + 1)), (0, .inr (.inr (92 + 1))), (2, .inl a)]) rfl ?_
    refine y_goto (tgt := 4) (show decode cX12_layState 20 = .ok (.goto (-16), 3) by decide +kernel) rfl ?_
    refine y_pick [1, 2, 0] rfl ?_
    exact hk3 _ _ h
abbrev MX12_homeState : yM := (yX12_homeState, cX12_homeState, 3, some .int)
def mo_homeState (N : Nat) (σ : ySt) : Option (Int) :=
  loop2 (fun k3 x1 x2 =>
    bndO (mo_personMany σ) fun r5 =>
    if x2 ≥ r5 then
      some x1
    else
      bndO (mo_placeMany σ) fun r8 =>
      chkI (x1 * r8) <|
      chkI (5 * (σ 92 40)) <|
      chkI ((5 * (σ 92 40)) + x2) <|
      chkA 10 ((5 * (σ 92 40)) + x2) <|
      chkI ((x1 * r8) + (σ 111 (((5 * (σ 92 40)) + x2)).toNat)) <|
      chkI (x2 + 1) <|
      k3 ((x1 * r8) + (σ 111 (((5 * (σ 92 40)) + x2)).toNat)) (x2 + 1)) N 0 0
set_option maxHeartbeats 4000000 in
set_option maxRecDepth 10000 in
theorem sh_mo_homeState {E : yE} {N : Nat} {σ : ySt} {ρ : Int} (h : mo_homeState N σ = some ρ) : Con E MX12_homeState 1 0 0 [.inr (.inr (92 + 1))] 150 (ov σ) (some (.inl ρ)) (ov σ) := by
  unfold mo_homeState at h
  refine Con.ofY (by decide +kernel) (by simp [yWords, yCat]) (fun hok _ => ?_)
  show Y E MX12_homeState (yRm 1 0 0) (yQf E (150 + 0) 0 0 (some (.inl ρ)) (ov σ)) 0 [(0, .inr (.inr (92 + 1)))] [] (ov σ) 150 0 0
  refine y_iconst (show decode cX12_homeState 0 = .ok (.iconst 0, 1) by decide +kernel) rfl ?_
  refine y_istore_n (show decode cX12_homeState 1 = .ok (.istore_n 1, 1) by decide +kernel) rfl (L1 := [(1, .inl 0), (0, .inr (.inr (92 + 1)))]) rfl ?_
  refine y_iconst (show decode cX12_homeState 2 = .ok (.iconst 0, 1) by decide +kernel) rfl ?_
  refine y_istore_n (show decode cX12_homeState 3 = .ok (.istore_n 2, 1) by decide +kernel) rfl (L1 := [(2, .inl 0), (1, .inl 0), (0, .inr (.inr (92 + 1)))]) rfl ?_
  refine y_pick [2, 1, 0] rfl ?_
  refine loop2_ind (P := fun x1 x2 => Y E MX12_homeState (yRm 1 0 0) (yQf E (150 + 0) 0 0 (some (.inl ρ)) (ov σ)) 4 [(0, .inr (.inr (92 + 1))), (1, .inl x1), (2, .inl x2)] [] (ov σ) 150 0 0) (fun k3 hk3 x1 x2 h => ?_) _ _ _  h
  refine y_iload_n (show decode cX12_homeState 4 = .ok (.iload_n 2, 1) by decide +kernel) 2 rfl ?_
  refine y_aload_n (show decode cX12_homeState 5 = .ok (.aload_n 0, 1) by decide +kernel) 0 rfl ?_
  obtain ⟨r5, e4, h⟩ := bndO_some h
  refine y_callV (np := 0) (st := [.inl x2]) (as := []) 92 12 (sh_mo_personMany e4) q6_42 q6_39 q6_41 qs4_1 q1_15 (by decide) rfl (by decide) rfl (by decide) (by decide +kernel) (by decide) rfl (Nat.le_of_ble_eq_true rfl) (show decode cX12_homeState 6 = .ok (.invokevirtual 418, 3) by decide +kernel) rfl ?_
  by_cases c6 : x2 ≥ r5
  · rw [if_pos c6] at h
    refine y_icmp_ge_t (tgt := 39) (show decode cX12_homeState 9 = .ok (.if_icmp .ge 30, 3) by decide +kernel) rfl c6 ?_
    refine y_iload_n (show decode cX12_homeState 39 = .ok (.iload_n 1, 1) by decide +kernel) 1 rfl ?_
    cases h
    exact y_iret (show decode cX12_homeState 40 = .ok (.ireturn, 1) by decide +kernel) rfl
  · rw [if_neg c6] at h
    refine y_icmp_ge_f (show decode cX12_homeState 9 = .ok (.if_icmp .ge 30, 3) by decide +kernel) c6 (by decide) ?_
    refine y_iload_n (show decode cX12_homeState 12 = .ok (.iload_n 1, 1) by decide +kernel) 1 rfl ?_
    refine y_aload_n (show decode cX12_homeState 13 = .ok (.aload_n 0, 1) by decide +kernel) 0 rfl ?_
    obtain ⟨r8, e7, h⟩ := bndO_some h
    refine y_callV (np := 0) (st := [.inl x1]) (as := []) 92 12 (sh_mo_placeMany e7) q8_15 q8_12 q8_14 qs6_6 q1_15 (by decide) rfl (by decide) rfl (by decide) (by decide +kernel) (by decide) rfl (Nat.le_of_ble_eq_true rfl) (show decode cX12_homeState 14 = .ok (.invokevirtual 411, 3) by decide +kernel) rfl ?_
    obtain ⟨c9, h⟩ := chkI_some h
    refine y_imul (show decode cX12_homeState 17 = .ok (.imul, 1) by decide +kernel) c9 ?_
    refine y_aload_n (show decode cX12_homeState 18 = .ok (.aload_n 0, 1) by decide +kernel) 0 rfl ?_
    refine y_getf 92 12 27 71 (by decide) rfl (by decide) (by decide) q6_74 (show decode cX12_homeState 19 = .ok (.getfield 71, 3) by decide +kernel) (v := .inr (.inr (111 + 1))) rfl ?_
    refine y_iconst (show decode cX12_homeState 22 = .ok (.iconst 5, 1) by decide +kernel) rfl ?_
    refine y_aload_n (show decode cX12_homeState 23 = .ok (.aload_n 0, 1) by decide +kernel) 0 rfl ?_
    refine y_getf 92 12 40 311 (by decide) rfl (by decide) (by decide) q6_87 (show decode cX12_homeState 24 = .ok (.getfield 311, 3) by decide +kernel) (v := .inl (σ 92 40)) rfl ?_
    obtain ⟨c10, h⟩ := chkI_some h
    refine y_imul (show decode cX12_homeState 27 = .ok (.imul, 1) by decide +kernel) c10 ?_
    refine y_iload_n (show decode cX12_homeState 28 = .ok (.iload_n 2, 1) by decide +kernel) 2 rfl ?_
    obtain ⟨c11, h⟩ := chkI_some h
    refine y_iadd (show decode cX12_homeState 29 = .ok (.iadd, 1) by decide +kernel) c11 ?_
    obtain ⟨c12, h⟩ := chkA_some h
    refine yo_iald 111 10 (by decide) rfl c12 (ov_at rfl) (show decode cX12_homeState 30 = .ok (.iaload, 1) by decide +kernel) ?_
    obtain ⟨c13, h⟩ := chkI_some h
    refine y_iadd (show decode cX12_homeState 31 = .ok (.iadd, 1) by decide +kernel) c13 ?_
    refine y_istore_n (show decode cX12_homeState 32 = .ok (.istore_n 1, 1) by decide +kernel) rfl (L1 := [(1, .inl ((x1 * r8) + (σ 111 (((5 * (σ 92 40)) + x2)).toNat))), (0, .inr (.inr (92 + 1))), (2, .inl x2)]) rfl ?_
    obtain ⟨c14, h⟩ := chkI_some h
    refine y_iinc (show decode cX12_homeState 33 = .ok (.iinc 2 1, 3) by decide +kernel) 2 rfl c14 rfl (L1 := [(2, .inl (x2 + 1)), (1, .inl ((x1 * r8) + (σ 111 (((5 * (σ 92 40)) + x2)).toNat))), (0, .inr (.inr (92 + 1)))]) rfl ?_
    refine y_goto (tgt := 4) (show decode cX12_homeState 36 = .ok (.goto (-32), 3) by decide +kernel) rfl ?_
    refine y_pick [2, 1, 0] rfl ?_
    exact hk3 _ _ h
abbrev MX12_isLawful : yM := (yX12_isLawful, cX12_isLawful, 3, some .boolean)
def mo_isLawful (N : Nat) (a : Int) (σ : ySt) : Option (Int) :=
  loop1 (fun k2 x1 =>
    bndO (mo_placeMany σ) fun r4 =>
    if x1 ≥ r4 then
      some 1
    else
      chkI (a - 1) <|
      chkI (48 * (a - 1)) <|
      chkI (8 * x1) <|
      chkI ((48 * (a - 1)) + (8 * x1)) <|
      chkA 6 x1 <|
      chkI (((48 * (a - 1)) + (8 * x1)) + (σ 127 (x1).toNat)) <|
      chkA 432 (((48 * (a - 1)) + (8 * x1)) + (σ 127 (x1).toNat)) <|
      if ¬ (σ 125 ((((48 * (a - 1)) + (8 * x1)) + (σ 127 (x1).toNat))).toNat) = 0 then
        chkI (x1 + 1) <|
        k2 (x1 + 1)
      else
        some 0) N 0
set_option maxHeartbeats 4000000 in
set_option maxRecDepth 10000 in
theorem sh_mo_isLawful {E : yE} {N : Nat} {a : Int} {σ : ySt} {ρ : Int} (h : mo_isLawful N a σ = some ρ) : Con E MX12_isLawful 1 0 0 [.inr (.inr (92 + 1)), .inl a] 150 (ov σ) (some (.inl ρ)) (ov σ) := by
  unfold mo_isLawful at h
  refine Con.ofY (by decide +kernel) (by simp [yWords, yCat]) (fun hok _ => ?_)
  show Y E MX12_isLawful (yRm 1 0 0) (yQf E (150 + 0) 0 0 (some (.inl ρ)) (ov σ)) 0 [(0, .inr (.inr (92 + 1))), (1, .inl a)] [] (ov σ) 150 0 0
  refine y_iconst (show decode cX12_isLawful 0 = .ok (.iconst 0, 1) by decide +kernel) rfl ?_
  refine y_istore_n (show decode cX12_isLawful 1 = .ok (.istore_n 2, 1) by decide +kernel) rfl (L1 := [(2, .inl 0), (0, .inr (.inr (92 + 1))), (1, .inl a)]) rfl ?_
  refine y_pick [1, 2, 0] rfl ?_
  refine loop1_ind (P := fun x1 => Y E MX12_isLawful (yRm 1 0 0) (yQf E (150 + 0) 0 0 (some (.inl ρ)) (ov σ)) 2 [(0, .inr (.inr (92 + 1))), (1, .inl a), (2, .inl x1)] [] (ov σ) 150 0 0) (fun k2 hk2 x1 h => ?_) _ _  h
  refine y_iload_n (show decode cX12_isLawful 2 = .ok (.iload_n 2, 1) by decide +kernel) 2 rfl ?_
  refine y_aload_n (show decode cX12_isLawful 3 = .ok (.aload_n 0, 1) by decide +kernel) 0 rfl ?_
  obtain ⟨r4, e3, h⟩ := bndO_some h
  refine y_callV (np := 0) (st := [.inl x1]) (as := []) 92 12 (sh_mo_placeMany e3) q8_15 q8_12 q8_14 qs6_6 q1_15 (by decide) rfl (by decide) rfl (by decide) (by decide +kernel) (by decide) rfl (Nat.le_of_ble_eq_true rfl) (show decode cX12_isLawful 4 = .ok (.invokevirtual 411, 3) by decide +kernel) rfl ?_
  by_cases c5 : x1 ≥ r4
  · rw [if_pos c5] at h
    refine y_icmp_ge_t (tgt := 44) (show decode cX12_isLawful 7 = .ok (.if_icmp .ge 37, 3) by decide +kernel) rfl c5 ?_
    refine y_iconst (show decode cX12_isLawful 44 = .ok (.iconst 1, 1) by decide +kernel) rfl ?_
    cases h
    exact y_zret (show decode cX12_isLawful 45 = .ok (.ireturn, 1) by decide +kernel) rfl (Or.inr rfl)
  · rw [if_neg c5] at h
    refine y_icmp_ge_f (show decode cX12_isLawful 7 = .ok (.if_icmp .ge 37, 3) by decide +kernel) c5 (by decide) ?_
    refine y_aload_n (show decode cX12_isLawful 10 = .ok (.aload_n 0, 1) by decide +kernel) 0 rfl ?_
    refine y_getf 92 12 46 113 (by decide) rfl (by decide) (by decide) q6_93 (show decode cX12_isLawful 11 = .ok (.getfield 113, 3) by decide +kernel) (v := .inr (.inr (125 + 1))) rfl ?_
    refine y_bipush (show decode cX12_isLawful 14 = .ok (.bipush 48, 2) by decide +kernel) rfl rfl ?_
    refine y_iload_n (show decode cX12_isLawful 16 = .ok (.iload_n 1, 1) by decide +kernel) 1 rfl ?_
    refine y_iconst (show decode cX12_isLawful 17 = .ok (.iconst 1, 1) by decide +kernel) rfl ?_
    obtain ⟨c6, h⟩ := chkI_some h
    refine y_isub (show decode cX12_isLawful 18 = .ok (.isub, 1) by decide +kernel) c6 ?_
    obtain ⟨c7, h⟩ := chkI_some h
    refine y_imul (show decode cX12_isLawful 19 = .ok (.imul, 1) by decide +kernel) c7 ?_
    refine y_bipush (show decode cX12_isLawful 20 = .ok (.bipush 8, 2) by decide +kernel) rfl rfl ?_
    refine y_iload_n (show decode cX12_isLawful 22 = .ok (.iload_n 2, 1) by decide +kernel) 2 rfl ?_
    obtain ⟨c8, h⟩ := chkI_some h
    refine y_imul (show decode cX12_isLawful 23 = .ok (.imul, 1) by decide +kernel) c8 ?_
    obtain ⟨c9, h⟩ := chkI_some h
    refine y_iadd (show decode cX12_isLawful 24 = .ok (.iadd, 1) by decide +kernel) c9 ?_
    refine y_aload_n (show decode cX12_isLawful 25 = .ok (.aload_n 0, 1) by decide +kernel) 0 rfl ?_
    refine y_getf 92 12 57 119 (by decide) rfl (by decide) (by decide) q6_104 (show decode cX12_isLawful 26 = .ok (.getfield 119, 3) by decide +kernel) (v := .inr (.inr (127 + 1))) rfl ?_
    refine y_iload_n (show decode cX12_isLawful 29 = .ok (.iload_n 2, 1) by decide +kernel) 2 rfl ?_
    obtain ⟨c10, h⟩ := chkA_some h
    refine yo_iald 127 6 (by decide) rfl c10 (ov_at rfl) (show decode cX12_isLawful 30 = .ok (.iaload, 1) by decide +kernel) ?_
    obtain ⟨c11, h⟩ := chkI_some h
    refine y_iadd (show decode cX12_isLawful 31 = .ok (.iadd, 1) by decide +kernel) c11 ?_
    obtain ⟨c12, h⟩ := chkA_some h
    refine yo_zald 125 432 (by decide) rfl c12 (ov_at rfl) (show decode cX12_isLawful 32 = .ok (.baload, 1) by decide +kernel) ?_
    by_cases c13 : ¬ (σ 125 ((((48 * (a - 1)) + (8 * x1)) + (σ 127 (x1).toNat))).toNat) = 0
    · rw [if_pos c13] at h
      refine y_if_ne_t (tgt := 38) (show decode cX12_isLawful 33 = .ok (.ifCond .ne 5, 3) by decide +kernel) rfl c13 ?_
      obtain ⟨c14, h⟩ := chkI_some h
      refine y_iinc (show decode cX12_isLawful 38 = .ok (.iinc 2 1, 3) by decide +kernel) 2 rfl c14 rfl (L1 := [(2, .inl (x1 + 1)), (0, .inr (.inr (92 + 1))), (1, .inl a)]) rfl ?_
      refine y_goto (tgt := 2) (show decode cX12_isLawful 41 = .ok (.goto (-39), 3) by decide +kernel) rfl ?_
      refine y_pick [1, 2, 0] rfl ?_
      exact hk2 _ h
    · rw [if_neg c13] at h
      refine y_if_ne_f (show decode cX12_isLawful 33 = .ok (.ifCond .ne 5, 3) by decide +kernel) c13 (by decide) ?_
      refine y_iconst (show decode cX12_isLawful 36 = .ok (.iconst 0, 1) by decide +kernel) rfl ?_
      cases h
      exact y_zret (show decode cX12_isLawful 37 = .ok (.ireturn, 1) by decide +kernel) rfl (Or.inl rfl)
abbrev MX12_isDone : yM := (yX12_isDone, cX12_isDone, 3, some .boolean)
def mo_isDone (a : Int) (b : Int) (σ : ySt) : Option (Int) :=
  chkI (8 * (σ 92 40)) <|
  chkI ((8 * (σ 92 40)) + a) <|
  chkA 16 ((8 * (σ 92 40)) + a) <|
  chkI ((σ 116 (((8 * (σ 92 40)) + a)).toNat) * (σ 92 49)) <|
  if ¬ ((σ 116 (((8 * (σ 92 40)) + a)).toNat) * (σ 92 49)) = b then
    some 0
  else
    chkI (8 * (σ 92 40)) <|
    chkI ((8 * (σ 92 40)) + a) <|
    chkA 16 ((8 * (σ 92 40)) + a) <|
    chkA 5 (σ 114 (((8 * (σ 92 40)) + a)).toNat) <|
    chkI (8 * (σ 92 40)) <|
    chkI ((8 * (σ 92 40)) + a) <|
    chkA 16 ((8 * (σ 92 40)) + a) <|
    if ¬ (σ 126 ((σ 114 (((8 * (σ 92 40)) + a)).toNat)).toNat) = (σ 115 (((8 * (σ 92 40)) + a)).toNat) then
      some 0
    else
      some 1
set_option maxHeartbeats 4000000 in
set_option maxRecDepth 10000 in
theorem sh_mo_isDone {E : yE} {a : Int} {b : Int} {σ : ySt} {ρ : Int} (h : mo_isDone a b σ = some ρ) : Con E MX12_isDone 0 0 0 [.inr (.inr (92 + 1)), .inl a, .inl b] 150 (ov σ) (some (.inl ρ)) (ov σ) := by
  unfold mo_isDone at h
  refine Con.ofY (by decide +kernel) (by simp [yWords, yCat]) (fun hok _ => ?_)
  show Y E MX12_isDone (yRm 0 0 0) (yQf E (150 + 0) 0 0 (some (.inl ρ)) (ov σ)) 0 [(0, .inr (.inr (92 + 1))), (1, .inl a), (2, .inl b)] [] (ov σ) 150 0 0
  refine y_aload_n (show decode cX12_isDone 0 = .ok (.aload_n 0, 1) by decide +kernel) 0 rfl ?_
  refine y_getf 92 12 32 86 (by decide) rfl (by decide) (by decide) q6_79 (show decode cX12_isDone 1 = .ok (.getfield 86, 3) by decide +kernel) (v := .inr (.inr (116 + 1))) rfl ?_
  refine y_bipush (show decode cX12_isDone 4 = .ok (.bipush 8, 2) by decide +kernel) rfl rfl ?_
  refine y_aload_n (show decode cX12_isDone 6 = .ok (.aload_n 0, 1) by decide +kernel) 0 rfl ?_
  refine y_getf 92 12 40 311 (by decide) rfl (by decide) (by decide) q6_87 (show decode cX12_isDone 7 = .ok (.getfield 311, 3) by decide +kernel) (v := .inl (σ 92 40)) rfl ?_
  obtain ⟨c1, h⟩ := chkI_some h
  refine y_imul (show decode cX12_isDone 10 = .ok (.imul, 1) by decide +kernel) c1 ?_
  refine y_iload_n (show decode cX12_isDone 11 = .ok (.iload_n 1, 1) by decide +kernel) 1 rfl ?_
  obtain ⟨c2, h⟩ := chkI_some h
  refine y_iadd (show decode cX12_isDone 12 = .ok (.iadd, 1) by decide +kernel) c2 ?_
  obtain ⟨c3, h⟩ := chkA_some h
  refine yo_iald 116 16 (by decide) rfl c3 (ov_at rfl) (show decode cX12_isDone 13 = .ok (.iaload, 1) by decide +kernel) ?_
  refine y_aload_n (show decode cX12_isDone 14 = .ok (.aload_n 0, 1) by decide +kernel) 0 rfl ?_
  refine y_getf 92 12 49 427 (by decide) rfl (by decide) (by decide) q6_96 (show decode cX12_isDone 15 = .ok (.getfield 427, 3) by decide +kernel) (v := .inl (σ 92 49)) rfl ?_
  obtain ⟨c4, h⟩ := chkI_some h
  refine y_imul (show decode cX12_isDone 18 = .ok (.imul, 1) by decide +kernel) c4 ?_
  refine y_iload_n (show decode cX12_isDone 19 = .ok (.iload_n 2, 1) by decide +kernel) 2 rfl ?_
  by_cases c5 : ¬ ((σ 116 (((8 * (σ 92 40)) + a)).toNat) * (σ 92 49)) = b
  · rw [if_pos c5] at h
    refine y_icmp_ne_t (tgt := 63) (show decode cX12_isDone 20 = .ok (.if_icmp .ne 43, 3) by decide +kernel) rfl c5 ?_
    refine y_iconst (show decode cX12_isDone 63 = .ok (.iconst 0, 1) by decide +kernel) rfl ?_
    cases h
    exact y_zret (show decode cX12_isDone 64 = .ok (.ireturn, 1) by decide +kernel) rfl (Or.inl rfl)
  · rw [if_neg c5] at h
    refine y_icmp_ne_f (show decode cX12_isDone 20 = .ok (.if_icmp .ne 43, 3) by decide +kernel) c5 (by decide) ?_
    refine y_aload_n (show decode cX12_isDone 23 = .ok (.aload_n 0, 1) by decide +kernel) 0 rfl ?_
    refine y_getf 92 12 56 116 (by decide) rfl (by decide) (by decide) q6_103 (show decode cX12_isDone 24 = .ok (.getfield 116, 3) by decide +kernel) (v := .inr (.inr (126 + 1))) rfl ?_
    refine y_aload_n (show decode cX12_isDone 27 = .ok (.aload_n 0, 1) by decide +kernel) 0 rfl ?_
    refine y_getf 92 12 30 80 (by decide) rfl (by decide) (by decide) q6_77 (show decode cX12_isDone 28 = .ok (.getfield 80, 3) by decide +kernel) (v := .inr (.inr (114 + 1))) rfl ?_
    refine y_bipush (show decode cX12_isDone 31 = .ok (.bipush 8, 2) by decide +kernel) rfl rfl ?_
    refine y_aload_n (show decode cX12_isDone 33 = .ok (.aload_n 0, 1) by decide +kernel) 0 rfl ?_
    refine y_getf 92 12 40 311 (by decide) rfl (by decide) (by decide) q6_87 (show decode cX12_isDone 34 = .ok (.getfield 311, 3) by decide +kernel) (v := .inl (σ 92 40)) rfl ?_
    obtain ⟨c6, h⟩ := chkI_some h
    refine y_imul (show decode cX12_isDone 37 = .ok (.imul, 1) by decide +kernel) c6 ?_
    refine y_iload_n (show decode cX12_isDone 38 = .ok (.iload_n 1, 1) by decide +kernel) 1 rfl ?_
    obtain ⟨c7, h⟩ := chkI_some h
    refine y_iadd (show decode cX12_isDone 39 = .ok (.iadd, 1) by decide +kernel) c7 ?_
    obtain ⟨c8, h⟩ := chkA_some h
    refine yo_iald 114 16 (by decide) rfl c8 (ov_at rfl) (show decode cX12_isDone 40 = .ok (.iaload, 1) by decide +kernel) ?_
    obtain ⟨c9, h⟩ := chkA_some h
    refine yo_iald 126 5 (by decide) rfl c9 (ov_at rfl) (show decode cX12_isDone 41 = .ok (.iaload, 1) by decide +kernel) ?_
    refine y_aload_n (show decode cX12_isDone 42 = .ok (.aload_n 0, 1) by decide +kernel) 0 rfl ?_
    refine y_getf 92 12 31 83 (by decide) rfl (by decide) (by decide) q6_78 (show decode cX12_isDone 43 = .ok (.getfield 83, 3) by decide +kernel) (v := .inr (.inr (115 + 1))) rfl ?_
    refine y_bipush (show decode cX12_isDone 46 = .ok (.bipush 8, 2) by decide +kernel) rfl rfl ?_
    refine y_aload_n (show decode cX12_isDone 48 = .ok (.aload_n 0, 1) by decide +kernel) 0 rfl ?_
    refine y_getf 92 12 40 311 (by decide) rfl (by decide) (by decide) q6_87 (show decode cX12_isDone 49 = .ok (.getfield 311, 3) by decide +kernel) (v := .inl (σ 92 40)) rfl ?_
    obtain ⟨c10, h⟩ := chkI_some h
    refine y_imul (show decode cX12_isDone 52 = .ok (.imul, 1) by decide +kernel) c10 ?_
    refine y_iload_n (show decode cX12_isDone 53 = .ok (.iload_n 1, 1) by decide +kernel) 1 rfl ?_
    obtain ⟨c11, h⟩ := chkI_some h
    refine y_iadd (show decode cX12_isDone 54 = .ok (.iadd, 1) by decide +kernel) c11 ?_
    obtain ⟨c12, h⟩ := chkA_some h
    refine yo_iald 115 16 (by decide) rfl c12 (ov_at rfl) (show decode cX12_isDone 55 = .ok (.iaload, 1) by decide +kernel) ?_
    by_cases c13 : ¬ (σ 126 ((σ 114 (((8 * (σ 92 40)) + a)).toNat)).toNat) = (σ 115 (((8 * (σ 92 40)) + a)).toNat)
    · rw [if_pos c13] at h
      refine y_icmp_ne_t (tgt := 63) (show decode cX12_isDone 56 = .ok (.if_icmp .ne 7, 3) by decide +kernel) rfl c13 ?_
      refine y_iconst (show decode cX12_isDone 63 = .ok (.iconst 0, 1) by decide +kernel) rfl ?_
      cases h
      exact y_zret (show decode cX12_isDone 64 = .ok (.ireturn, 1) by decide +kernel) rfl (Or.inl rfl)
    · rw [if_neg c13] at h
      refine y_icmp_ne_f (show decode cX12_isDone 56 = .ok (.if_icmp .ne 7, 3) by decide +kernel) c13 (by decide) ?_
      refine y_iconst (show decode cX12_isDone 59 = .ok (.iconst 1, 1) by decide +kernel) rfl ?_
      refine y_goto (tgt := 64) (show decode cX12_isDone 60 = .ok (.goto 4, 3) by decide +kernel) rfl ?_
      cases h
      exact y_zret (show decode cX12_isDone 64 = .ok (.ireturn, 1) by decide +kernel) rfl (Or.inr rfl)
abbrev MX12_isAway : yM := (yX12_isAway, cX12_isAway, 2, some .boolean)
def mo_isAway (a : Int) (σ : ySt) : Option (Int) :=
  chkA 5 a <|
  chkI (5 * (σ 92 40)) <|
  chkI ((5 * (σ 92 40)) + a) <|
  chkA 10 ((5 * (σ 92 40)) + a) <|
  if (σ 126 (a).toNat) = (σ 111 (((5 * (σ 92 40)) + a)).toNat) then
    some 0
  else
    some 1
set_option maxHeartbeats 4000000 in
set_option maxRecDepth 10000 in
theorem sh_mo_isAway {E : yE} {a : Int} {σ : ySt} {ρ : Int} (h : mo_isAway a σ = some ρ) : Con E MX12_isAway 0 0 0 [.inr (.inr (92 + 1)), .inl a] 150 (ov σ) (some (.inl ρ)) (ov σ) := by
  unfold mo_isAway at h
  refine Con.ofY (by decide +kernel) (by simp [yWords, yCat]) (fun hok _ => ?_)
  show Y E MX12_isAway (yRm 0 0 0) (yQf E (150 + 0) 0 0 (some (.inl ρ)) (ov σ)) 0 [(0, .inr (.inr (92 + 1))), (1, .inl a)] [] (ov σ) 150 0 0
  refine y_aload_n (show decode cX12_isAway 0 = .ok (.aload_n 0, 1) by decide +kernel) 0 rfl ?_
  refine y_getf 92 12 56 116 (by decide) rfl (by decide) (by decide) q6_103 (show decode cX12_isAway 1 = .ok (.getfield 116, 3) by decide +kernel) (v := .inr (.inr (126 + 1))) rfl ?_
  refine y_iload_n (show decode cX12_isAway 4 = .ok (.iload_n 1, 1) by decide +kernel) 1 rfl ?_
  obtain ⟨c1, h⟩ := chkA_some h
  refine yo_iald 126 5 (by decide) rfl c1 (ov_at rfl) (show decode cX12_isAway 5 = .ok (.iaload, 1) by decide +kernel) ?_
  refine y_aload_n (show decode cX12_isAway 6 = .ok (.aload_n 0, 1) by decide +kernel) 0 rfl ?_
  refine y_getf 92 12 27 71 (by decide) rfl (by decide) (by decide) q6_74 (show decode cX12_isAway 7 = .ok (.getfield 71, 3) by decide +kernel) (v := .inr (.inr (111 + 1))) rfl ?_
  refine y_iconst (show decode cX12_isAway 10 = .ok (.iconst 5, 1) by decide +kernel) rfl ?_
  refine y_aload_n (show decode cX12_isAway 11 = .ok (.aload_n 0, 1) by decide +kernel) 0 rfl ?_
  refine y_getf 92 12 40 311 (by decide) rfl (by decide) (by decide) q6_87 (show decode cX12_isAway 12 = .ok (.getfield 311, 3) by decide +kernel) (v := .inl (σ 92 40)) rfl ?_
  obtain ⟨c2, h⟩ := chkI_some h
  refine y_imul (show decode cX12_isAway 15 = .ok (.imul, 1) by decide +kernel) c2 ?_
  refine y_iload_n (show decode cX12_isAway 16 = .ok (.iload_n 1, 1) by decide +kernel) 1 rfl ?_
  obtain ⟨c3, h⟩ := chkI_some h
  refine y_iadd (show decode cX12_isAway 17 = .ok (.iadd, 1) by decide +kernel) c3 ?_
  obtain ⟨c4, h⟩ := chkA_some h
  refine yo_iald 111 10 (by decide) rfl c4 (ov_at rfl) (show decode cX12_isAway 18 = .ok (.iaload, 1) by decide +kernel) ?_
  by_cases c5 : (σ 126 (a).toNat) = (σ 111 (((5 * (σ 92 40)) + a)).toNat)
  · rw [if_pos c5] at h
    refine y_icmp_eq_t (tgt := 26) (show decode cX12_isAway 19 = .ok (.if_icmp .eq 7, 3) by decide +kernel) rfl c5 ?_
    refine y_iconst (show decode cX12_isAway 26 = .ok (.iconst 0, 1) by decide +kernel) rfl ?_
    cases h
    exact y_zret (show decode cX12_isAway 27 = .ok (.ireturn, 1) by decide +kernel) rfl (Or.inl rfl)
  · rw [if_neg c5] at h
    refine y_icmp_eq_f (show decode cX12_isAway 19 = .ok (.if_icmp .eq 7, 3) by decide +kernel) c5 (by decide) ?_
    refine y_iconst (show decode cX12_isAway 22 = .ok (.iconst 1, 1) by decide +kernel) rfl ?_
    refine y_goto (tgt := 27) (show decode cX12_isAway 23 = .ok (.goto 4, 3) by decide +kernel) rfl ?_
    cases h
    exact y_zret (show decode cX12_isAway 27 = .ok (.ireturn, 1) by decide +kernel) rfl (Or.inr rfl)
abbrev MX12_isCompanion : yM := (yX12_isCompanion, cX12_isCompanion, 4, some .boolean)
def mo_isCompanion (N : Nat) (a : Int) (b : Int) (σ : ySt) : Option (Int) :=
  bndO (mo_isAway a σ) fun r2 =>
  if ¬ r2 = 0 then
    loop1 (fun k5 x4 =>
      chkA 2 (σ 92 40) <|
      if x4 ≥ (σ 99 ((σ 92 40)).toNat) then
        some 1
      else
        chkI (8 * (σ 92 40)) <|
        chkI ((8 * (σ 92 40)) + x4) <|
        chkA 16 ((8 * (σ 92 40)) + x4) <|
        bnd (chkI (x4 + 1) <|
          k5 (x4 + 1)) fun j11 =>
        if ¬ (σ 114 (((8 * (σ 92 40)) + x4)).toNat) = a then
          j11
        else
          bndO (mo_isDone x4 b σ) fun r15 =>
          if r15 = 0 then
            j11
          else
            some 0) N 0
  else
    some 0
set_option maxHeartbeats 4000000 in
set_option maxRecDepth 10000 in
theorem sh_mo_isCompanion {E : yE} {N : Nat} {a : Int} {b : Int} {σ : ySt} {ρ : Int} (h : mo_isCompanion N a b σ = some ρ) : Con E MX12_isCompanion 1 0 0 [.inr (.inr (92 + 1)), .inl a, .inl b] 150 (ov σ) (some (.inl ρ)) (ov σ) := by
  unfold mo_isCompanion at h
  refine Con.ofY (by decide +kernel) (by simp [yWords, yCat]) (fun hok _ => ?_)
  show Y E MX12_isCompanion (yRm 1 0 0) (yQf E (150 + 0) 0 0 (some (.inl ρ)) (ov σ)) 0 [(0, .inr (.inr (92 + 1))), (1, .inl a), (2, .inl b)] [] (ov σ) 150 0 0
  refine y_aload_n (show decode cX12_isCompanion 0 = .ok (.aload_n 0, 1) by decide +kernel) 0 rfl ?_
  refine y_iload_n (show decode cX12_isCompanion 1 = .ok (.iload_n 1, 1) by decide +kernel) 1 rfl ?_
  obtain ⟨r2, e1, h⟩ := bndO_some h
  refine y_callV (np := 1) (st := []) (as := [.inl a]) 92 12 (sh_mo_isAway e1) q8_81 q8_78 q8_80 qs7_2 q1_15 (by decide) rfl (by decide) rfl (by decide) (by decide +kernel) (by decide) rfl (Nat.le_of_ble_eq_true rfl) (show decode cX12_isCompanion 2 = .ok (.invokevirtual 460, 3) by decide +kernel) rfl ?_
  by_cases c3 : ¬ r2 = 0
  · rw [if_pos c3] at h
    refine y_if_ne_t (tgt := 10) (show decode cX12_isCompanion 5 = .ok (.ifCond .ne 5, 3) by decide +kernel) rfl c3 ?_
    refine y_iconst (show decode cX12_isCompanion 10 = .ok (.iconst 0, 1) by decide +kernel) rfl ?_
    refine y_istore_n (show decode cX12_isCompanion 11 = .ok (.istore_n 3, 1) by decide +kernel) rfl (L1 := [(3, .inl 0), (0, .inr (.inr (92 + 1))), (1, .inl a), (2, .inl b)]) rfl ?_
    refine y_pick [1, 2, 3, 0] rfl ?_
    refine loop1_ind (P := fun x4 => Y E MX12_isCompanion (yRm 1 0 0) (yQf E (150 + 0) 0 0 (some (.inl ρ)) (ov σ)) 12 [(0, .inr (.inr (92 + 1))), (1, .inl a), (2, .inl b), (3, .inl x4)] [] (ov σ) 150 0 0) (fun k5 hk5 x4 h => ?_) _ _  h
    refine y_iload_n (show decode cX12_isCompanion 12 = .ok (.iload_n 3, 1) by decide +kernel) 3 rfl ?_
    refine y_aload_n (show decode cX12_isCompanion 13 = .ok (.aload_n 0, 1) by decide +kernel) 0 rfl ?_
    refine y_getf 92 12 15 33 (by decide) rfl (by decide) (by decide) q6_62 (show decode cX12_isCompanion 14 = .ok (.getfield 33, 3) by decide +kernel) (v := .inr (.inr (99 + 1))) rfl ?_
    refine y_aload_n (show decode cX12_isCompanion 17 = .ok (.aload_n 0, 1) by decide +kernel) 0 rfl ?_
    refine y_getf 92 12 40 311 (by decide) rfl (by decide) (by decide) q6_87 (show decode cX12_isCompanion 18 = .ok (.getfield 311, 3) by decide +kernel) (v := .inl (σ 92 40)) rfl ?_
    obtain ⟨c6, h⟩ := chkA_some h
    refine yo_iald 99 2 (by decide) rfl c6 (ov_at rfl) (show decode cX12_isCompanion 21 = .ok (.iaload, 1) by decide +kernel) ?_
    by_cases c7 : x4 ≥ (σ 99 ((σ 92 40)).toNat)
    · rw [if_pos c7] at h
      refine y_icmp_ge_t (tgt := 60) (show decode cX12_isCompanion 22 = .ok (.if_icmp .ge 38, 3) by decide +kernel) rfl c7 ?_
      refine y_iconst (show decode cX12_isCompanion 60 = .ok (.iconst 1, 1) by decide +kernel) rfl ?_
      cases h
      exact y_zret (show decode cX12_isCompanion 61 = .ok (.ireturn, 1) by decide +kernel) rfl (Or.inr rfl)
    · rw [if_neg c7] at h
      refine y_icmp_ge_f (show decode cX12_isCompanion 22 = .ok (.if_icmp .ge 38, 3) by decide +kernel) c7 (by decide) ?_
      refine y_aload_n (show decode cX12_isCompanion 25 = .ok (.aload_n 0, 1) by decide +kernel) 0 rfl ?_
      refine y_getf 92 12 30 80 (by decide) rfl (by decide) (by decide) q6_77 (show decode cX12_isCompanion 26 = .ok (.getfield 80, 3) by decide +kernel) (v := .inr (.inr (114 + 1))) rfl ?_
      refine y_bipush (show decode cX12_isCompanion 29 = .ok (.bipush 8, 2) by decide +kernel) rfl rfl ?_
      refine y_aload_n (show decode cX12_isCompanion 31 = .ok (.aload_n 0, 1) by decide +kernel) 0 rfl ?_
      refine y_getf 92 12 40 311 (by decide) rfl (by decide) (by decide) q6_87 (show decode cX12_isCompanion 32 = .ok (.getfield 311, 3) by decide +kernel) (v := .inl (σ 92 40)) rfl ?_
      obtain ⟨c8, h⟩ := chkI_some h
      refine y_imul (show decode cX12_isCompanion 35 = .ok (.imul, 1) by decide +kernel) c8 ?_
      refine y_iload_n (show decode cX12_isCompanion 36 = .ok (.iload_n 3, 1) by decide +kernel) 3 rfl ?_
      obtain ⟨c9, h⟩ := chkI_some h
      refine y_iadd (show decode cX12_isCompanion 37 = .ok (.iadd, 1) by decide +kernel) c9 ?_
      obtain ⟨c10, h⟩ := chkA_some h
      refine yo_iald 114 16 (by decide) rfl c10 (ov_at rfl) (show decode cX12_isCompanion 38 = .ok (.iaload, 1) by decide +kernel) ?_
      refine y_iload_n (show decode cX12_isCompanion 39 = .ok (.iload_n 1, 1) by decide +kernel) 1 rfl ?_
      refine bnd_j (Q := fun j11 => j11 = some ρ → Y E MX12_isCompanion (yRm 1 0 0) (yQf E (150 + 0) 0 0 (some (.inl ρ)) (ov σ)) 54 [(0, .inr (.inr (92 + 1))), (1, .inl a), (2, .inl b), (3, .inl x4)] [] (ov σ) 150 0 0) (fun h => ?_) (fun j11 hj11 h => ?_) h
      · obtain ⟨c12, h⟩ := chkI_some h
        refine y_iinc (show decode cX12_isCompanion 54 = .ok (.iinc 3 1, 3) by decide +kernel) 3 rfl c12 rfl (L1 := [(3, .inl (x4 + 1)), (0, .inr (.inr (92 + 1))), (1, .inl a), (2, .inl b)]) rfl ?_
        refine y_goto (tgt := 12) (show decode cX12_isCompanion 57 = .ok (.goto (-45), 3) by decide +kernel) rfl ?_
        refine y_pick [1, 2, 3, 0] rfl ?_
        exact hk5 _ h
      by_cases c13 : ¬ (σ 114 (((8 * (σ 92 40)) + x4)).toNat) = a
      · rw [if_pos c13] at h
        refine y_icmp_ne_t (tgt := 54) (show decode cX12_isCompanion 40 = .ok (.if_icmp .ne 14, 3) by decide +kernel) rfl c13 ?_
        refine y_pick [0, 1, 2, 3] rfl ?_
        exact hj11 h
      · rw [if_neg c13] at h
        refine y_icmp_ne_f (show decode cX12_isCompanion 40 = .ok (.if_icmp .ne 14, 3) by decide +kernel) c13 (by decide) ?_
        refine y_aload_n (show decode cX12_isCompanion 43 = .ok (.aload_n 0, 1) by decide +kernel) 0 rfl ?_
        refine y_iload_n (show decode cX12_isCompanion 44 = .ok (.iload_n 3, 1) by decide +kernel) 3 rfl ?_
        refine y_iload_n (show decode cX12_isCompanion 45 = .ok (.iload_n 2, 1) by decide +kernel) 2 rfl ?_
        obtain ⟨r15, e14, h⟩ := bndO_some h
        refine y_callV (np := 2) (st := []) (as := [.inl x4, .inl b]) 92 12 (sh_mo_isDone e14) q8_77 q8_74 q8_76 qs7_1 q1_15 (by decide) rfl (by decide) rfl (by decide) (by decide +kernel) (by decide) rfl (Nat.le_of_ble_eq_true rfl) (show decode cX12_isCompanion 46 = .ok (.invokevirtual 463, 3) by decide +kernel) rfl ?_
        by_cases c16 : r15 = 0
        · rw [if_pos c16] at h
          refine y_if_eq_t (tgt := 54) (show decode cX12_isCompanion 49 = .ok (.ifCond .eq 5, 3) by decide +kernel) rfl c16 ?_
          refine y_pick [0, 1, 2, 3] rfl ?_
          exact hj11 h
        · rw [if_neg c16] at h
          refine y_if_eq_f (show decode cX12_isCompanion 49 = .ok (.ifCond .eq 5, 3) by decide +kernel) c16 (by decide) ?_
          refine y_iconst (show decode cX12_isCompanion 52 = .ok (.iconst 0, 1) by decide +kernel) rfl ?_
          cases h
          exact y_zret (show decode cX12_isCompanion 53 = .ok (.ireturn, 1) by decide +kernel) rfl (Or.inl rfl)
  · rw [if_neg c3] at h
    refine y_if_ne_f (show decode cX12_isCompanion 5 = .ok (.ifCond .ne 5, 3) by decide +kernel) c3 (by decide) ?_
    refine y_iconst (show decode cX12_isCompanion 8 = .ok (.iconst 0, 1) by decide +kernel) rfl ?_
    cases h
    exact y_zret (show decode cX12_isCompanion 9 = .ok (.ireturn, 1) by decide +kernel) rfl (Or.inl rfl)
abbrev MX12_worthNow : yM := (yX12_worthNow, cX12_worthNow, 5, some .int)
def mo_worthNow (N : Nat) (a : Int) (σ : ySt) : Option (Int) :=
  loop2 (fun k3 x1 x2 =>
    chkA 2 (σ 92 40) <|
    if x2 ≥ (σ 99 ((σ 92 40)).toNat) then
      loop2 (fun k8 x6 x7 =>
        bndO (mo_personMany σ) fun r10 =>
        if x7 ≥ r10 then
          some x6
        else
          bnd (fun (y12 : Int) =>
            chkI (x6 - y12) <|
            bnd (fun (y15 : Int) =>
              chkI ((x6 - y12) - y15) <|
              chkI (x7 + 1) <|
              k8 ((x6 - y12) - y15) (x7 + 1)) fun j16 =>
            if ¬ (σ 92 50) = 1 then
              j16 0
            else
              bndO (mo_isCompanion N x7 a σ) fun r21 =>
              if r21 = 0 then
                j16 0
              else
                j16 1) fun j13 =>
          if ¬ (σ 92 50) = 0 then
            j13 0
          else
            bndO (mo_isAway x7 σ) fun r25 =>
            if r25 = 0 then
              j13 0
            else
              chkI (5 * (σ 92 40)) <|
              chkI ((5 * (σ 92 40)) + x7) <|
              chkA 10 ((5 * (σ 92 40)) + x7) <|
              j13 (σ 112 (((5 * (σ 92 40)) + x7)).toNat)) N x1 0
    else
      bndO (mo_isDone x2 a σ) fun r31 =>
      bnd (bnd (fun (y33 : Int) =>
          chkI (x1 + y33) <|
          chkI (x2 + 1) <|
          k3 (x1 + y33) (x2 + 1)) fun j34 =>
        if ¬ (σ 92 50) = 0 then
          j34 0
        else
          if r31 = 0 then
            j34 0
          else
            chkI (8 * (σ 92 40)) <|
            chkI ((8 * (σ 92 40)) + x2) <|
            chkA 16 ((8 * (σ 92 40)) + x2) <|
            j34 (σ 117 (((8 * (σ 92 40)) + x2)).toNat)) fun j32 =>
      if (σ 92 50) ≤ 0 then
        j32
      else
        chkI (8 * (σ 92 40)) <|
        chkI ((8 * (σ 92 40)) + x2) <|
        chkA 16 ((8 * (σ 92 40)) + x2) <|
        chkI ((σ 116 (((8 * (σ 92 40)) + x2)).toNat) * (σ 92 49)) <|
        if ¬ ((σ 116 (((8 * (σ 92 40)) + x2)).toNat) * (σ 92 49)) = a then
          j32
        else
          if ¬ r31 = 0 then
            j32
          else
            some (-1000000)) N 0 0
set_option maxHeartbeats 4000000 in
set_option maxRecDepth 10000 in
theorem sh_mo_worthNow {E : yE} {N : Nat} {a : Int} {σ : ySt} {ρ : Int} (h : mo_worthNow N a σ = some ρ) : Con E MX12_worthNow 2 0 0 [.inr (.inr (92 + 1)), .inl a] 150 (ov σ) (some (.inl ρ)) (ov σ) := by
  unfold mo_worthNow at h
  refine Con.ofY (by decide +kernel) (by simp [yWords, yCat]) (fun hok _ => ?_)
  show Y E MX12_worthNow (yRm 2 0 0) (yQf E (150 + 0) 0 0 (some (.inl ρ)) (ov σ)) 0 [(0, .inr (.inr (92 + 1))), (1, .inl a)] [] (ov σ) 150 0 0
  refine y_iconst (show decode cX12_worthNow 0 = .ok (.iconst 0, 1) by decide +kernel) rfl ?_
  refine y_istore_n (show decode cX12_worthNow 1 = .ok (.istore_n 2, 1) by decide +kernel) rfl (L1 := [(2, .inl 0), (0, .inr (.inr (92 + 1))), (1, .inl a)]) rfl ?_
  refine y_iconst (show decode cX12_worthNow 2 = .ok (.iconst 0, 1) by decide +kernel) rfl ?_
  refine y_istore_n (show decode cX12_worthNow 3 = .ok (.istore_n 3, 1) by decide +kernel) rfl (L1 := [(3, .inl 0), (2, .inl 0), (0, .inr (.inr (92 + 1))), (1, .inl a)]) rfl ?_
  refine y_pick [2, 3, 1, 0] rfl ?_
  refine loop2_ind (P := fun x1 x2 => Y E MX12_worthNow (yRm 2 0 0) (yQf E (150 + 0) 0 0 (some (.inl ρ)) (ov σ)) 4 [(0, .inr (.inr (92 + 1))), (1, .inl a), (2, .inl x1), (3, .inl x2)] [] (ov σ) 150 0 0) (fun k3 hk3 x1 x2 h => ?_) _ _ _  h
  refine y_iload_n (show decode cX12_worthNow 4 = .ok (.iload_n 3, 1) by decide +kernel) 3 rfl ?_
  refine y_aload_n (show decode cX12_worthNow 5 = .ok (.aload_n 0, 1) by decide +kernel) 0 rfl ?_
  refine y_getf 92 12 15 33 (by decide) rfl (by decide) (by decide) q6_62 (show decode cX12_worthNow 6 = .ok (.getfield 33, 3) by decide +kernel) (v := .inr (.inr (99 + 1))) rfl ?_
  refine y_aload_n (show decode cX12_worthNow 9 = .ok (.aload_n 0, 1) by decide +kernel) 0 rfl ?_
  refine y_getf 92 12 40 311 (by decide) rfl (by decide) (by decide) q6_87 (show decode cX12_worthNow 10 = .ok (.getfield 311, 3) by decide +kernel) (v := .inl (σ 92 40)) rfl ?_
  obtain ⟨c4, h⟩ := chkA_some h
  refine yo_iald 99 2 (by decide) rfl c4 (ov_at rfl) (show decode cX12_worthNow 13 = .ok (.iaload, 1) by decide +kernel) ?_
  by_cases c5 : x2 ≥ (σ 99 ((σ 92 40)).toNat)
  · rw [if_pos c5] at h
    refine y_icmp_ge_t (tgt := 103) (show decode cX12_worthNow 14 = .ok (.if_icmp .ge 89, 3) by decide +kernel) rfl c5 ?_
    refine y_iconst (show decode cX12_worthNow 103 = .ok (.iconst 0, 1) by decide +kernel) rfl ?_
    refine y_istore_n (show decode cX12_worthNow 104 = .ok (.istore_n 3, 1) by decide +kernel) rfl (L1 := [(3, .inl 0), (0, .inr (.inr (92 + 1))), (1, .inl a), (2, .inl x1)]) rfl ?_
    refine y_pick [1, 2, 3, 0] rfl ?_
    refine loop2_ind (P := fun x6 x7 => Y E MX12_worthNow (yRm 2 0 0) (yQf E (150 + 0) 0 0 (some (.inl ρ)) (ov σ)) 105 [(0, .inr (.inr (92 + 1))), (1, .inl a), (2, .inl x6), (3, .inl x7)] [] (ov σ) 150 0 0) (fun k8 hk8 x6 x7 h => ?_) _ _ _  h
    refine y_iload_n (show decode cX12_worthNow 105 = .ok (.iload_n 3, 1) by decide +kernel) 3 rfl ?_
    refine y_aload_n (show decode cX12_worthNow 106 = .ok (.aload_n 0, 1) by decide +kernel) 0 rfl ?_
    obtain ⟨r10, e9, h⟩ := bndO_some h
    refine y_callV (np := 0) (st := [.inl x7]) (as := []) 92 12 (sh_mo_personMany e9) q6_42 q6_39 q6_41 qs4_1 q1_15 (by decide) rfl (by decide) rfl (by decide) (by decide +kernel) (by decide) rfl (Nat.le_of_ble_eq_true rfl) (show decode cX12_worthNow 107 = .ok (.invokevirtual 418, 3) by decide +kernel) rfl ?_
    by_cases c11 : x7 ≥ r10
    · rw [if_pos c11] at h
      refine y_icmp_ge_t (tgt := 179) (show decode cX12_worthNow 110 = .ok (.if_icmp .ge 69, 3) by decide +kernel) rfl c11 ?_
      refine y_iload_n (show decode cX12_worthNow 179 = .ok (.iload_n 2, 1) by decide +kernel) 2 rfl ?_
      cases h
      exact y_iret (show decode cX12_worthNow 180 = .ok (.ireturn, 1) by decide +kernel) rfl
    · rw [if_neg c11] at h
      refine y_icmp_ge_f (show decode cX12_worthNow 110 = .ok (.if_icmp .ge 69, 3) by decide +kernel) c11 (by decide) ?_
      refine y_iload_n (show decode cX12_worthNow 113 = .ok (.iload_n 2, 1) by decide +kernel) 2 rfl ?_
      refine y_aload_n (show decode cX12_worthNow 114 = .ok (.aload_n 0, 1) by decide +kernel) 0 rfl ?_
      refine y_getf 92 12 50 467 (by decide) rfl (by decide) (by decide) q6_97 (show decode cX12_worthNow 115 = .ok (.getfield 467, 3) by decide +kernel) (v := .inl (σ 92 50)) rfl ?_
      refine bnd_j (Q := fun j13 => ∀ (y12 : Int), j13 y12 = some ρ → Y E MX12_worthNow (yRm 2 0 0) (yQf E (150 + 0) 0 0 (some (.inl ρ)) (ov σ)) 146 [(0, .inr (.inr (92 + 1))), (1, .inl a), (3, .inl x7)] [.inl y12, .inl x6] (ov σ) 150 0 0) (fun y12 h => ?_) (fun j13 hj13 h => ?_) h
      · dsimp only at h
        obtain ⟨c14, h⟩ := chkI_some h
        refine y_isub (show decode cX12_worthNow 146 = .ok (.isub, 1) by decide +kernel) c14 ?_
        refine y_istore_n (show decode cX12_worthNow 147 = .ok (.istore_n 2, 1) by decide +kernel) rfl (L1 := [(2, .inl (x6 - y12)), (0, .inr (.inr (92 + 1))), (1, .inl a), (3, .inl x7)]) rfl ?_
        refine y_iload_n (show decode cX12_worthNow 148 = .ok (.iload_n 2, 1) by decide +kernel) 0 rfl ?_
        refine y_aload_n (show decode cX12_worthNow 149 = .ok (.aload_n 0, 1) by decide +kernel) 1 rfl ?_
        refine y_getf 92 12 50 467 (by decide) rfl (by decide) (by decide) q6_97 (show decode cX12_worthNow 150 = .ok (.getfield 467, 3) by decide +kernel) (v := .inl (σ 92 50)) rfl ?_
        refine y_iconst (show decode cX12_worthNow 153 = .ok (.iconst 1, 1) by decide +kernel) rfl ?_
        refine bnd_j (Q := fun j16 => ∀ (y15 : Int), j16 y15 = some ρ → Y E MX12_worthNow (yRm 2 0 0) (yQf E (150 + 0) 0 0 (some (.inl ρ)) (ov σ)) 171 [(0, .inr (.inr (92 + 1))), (1, .inl a), (3, .inl x7)] [.inl y15, .inl (x6 - y12)] (ov σ) 150 0 0) (fun y15 h => ?_) (fun j16 hj16 h => ?_) h
        · dsimp only at h
          obtain ⟨c17, h⟩ := chkI_some h
          refine y_isub (show decode cX12_worthNow 171 = .ok (.isub, 1) by decide +kernel) c17 ?_
          refine y_istore_n (show decode cX12_worthNow 172 = .ok (.istore_n 2, 1) by decide +kernel) rfl (L1 := [(2, .inl ((x6 - y12) - y15)), (0, .inr (.inr (92 + 1))), (1, .inl a), (3, .inl x7)]) rfl ?_
          obtain ⟨c18, h⟩ := chkI_some h
          refine y_iinc (show decode cX12_worthNow 173 = .ok (.iinc 3 1, 3) by decide +kernel) 3 rfl c18 rfl (L1 := [(3, .inl (x7 + 1)), (2, .inl ((x6 - y12) - y15)), (0, .inr (.inr (92 + 1))), (1, .inl a)]) rfl ?_
          refine y_goto (tgt := 105) (show decode cX12_worthNow 176 = .ok (.goto (-71), 3) by decide +kernel) rfl ?_
          refine y_pick [2, 3, 1, 0] rfl ?_
          exact hk8 _ _ h
        by_cases c19 : ¬ (σ 92 50) = 1
        · rw [if_pos c19] at h
          refine y_icmp_ne_t (tgt := 170) (show decode cX12_worthNow 154 = .ok (.if_icmp .ne 16, 3) by decide +kernel) rfl c19 ?_
          refine y_iconst (show decode cX12_worthNow 170 = .ok (.iconst 0, 1) by decide +kernel) rfl ?_
          refine y_pick [1, 2, 3] rfl ?_
          exact hj16 _ h
        · rw [if_neg c19] at h
          refine y_icmp_ne_f (show decode cX12_worthNow 154 = .ok (.if_icmp .ne 16, 3) by decide +kernel) c19 (by decide) ?_
          refine y_aload_n (show decode cX12_worthNow 157 = .ok (.aload_n 0, 1) by decide +kernel) 1 rfl ?_
          refine y_iload_n (show decode cX12_worthNow 158 = .ok (.iload_n 3, 1) by decide +kernel) 3 rfl ?_
          refine y_iload_n (show decode cX12_worthNow 159 = .ok (.iload_n 1, 1) by decide +kernel) 2 rfl ?_
          obtain ⟨r21, e20, h⟩ := bndO_some h
          refine y_callV (np := 2) (st := [.inl (x6 - y12)]) (as := [.inl x7, .inl a]) 92 12 (sh_mo_isCompanion e20) q8_85 q8_82 q8_84 qs7_3 q1_15 (by decide) rfl (by decide) rfl (by decide) (by decide +kernel) (by decide) rfl (Nat.le_of_ble_eq_true rfl) (show decode cX12_worthNow 160 = .ok (.invokevirtual 471, 3) by decide +kernel) rfl ?_
          by_cases c22 : r21 = 0
          · rw [if_pos c22] at h
            refine y_if_eq_t (tgt := 170) (show decode cX12_worthNow 163 = .ok (.ifCond .eq 7, 3) by decide +kernel) rfl c22 ?_
            refine y_iconst (show decode cX12_worthNow 170 = .ok (.iconst 0, 1) by decide +kernel) rfl ?_
            refine y_pick [1, 2, 3] rfl ?_
            exact hj16 _ h
          · rw [if_neg c22] at h
            refine y_if_eq_f (show decode cX12_worthNow 163 = .ok (.ifCond .eq 7, 3) by decide +kernel) c22 (by decide) ?_
            refine y_iconst (show decode cX12_worthNow 166 = .ok (.iconst 1, 1) by decide +kernel) rfl ?_
            refine y_goto (tgt := 171) (show decode cX12_worthNow 167 = .ok (.goto 4, 3) by decide +kernel) rfl ?_
            refine y_pick [1, 2, 3] rfl ?_
            exact hj16 _ h
      by_cases c23 : ¬ (σ 92 50) = 0
      · rw [if_pos c23] at h
        refine y_if_ne_t (tgt := 145) (show decode cX12_worthNow 118 = .ok (.ifCond .ne 27, 3) by decide +kernel) rfl c23 ?_
        refine y_iconst (show decode cX12_worthNow 145 = .ok (.iconst 0, 1) by decide +kernel) rfl ?_
        refine y_pick [0, 1, 3] rfl ?_
        exact hj13 _ h
      · rw [if_neg c23] at h
        refine y_if_ne_f (show decode cX12_worthNow 118 = .ok (.ifCond .ne 27, 3) by decide +kernel) c23 (by decide) ?_
        refine y_aload_n (show decode cX12_worthNow 121 = .ok (.aload_n 0, 1) by decide +kernel) 0 rfl ?_
        refine y_iload_n (show decode cX12_worthNow 122 = .ok (.iload_n 3, 1) by decide +kernel) 3 rfl ?_
        obtain ⟨r25, e24, h⟩ := bndO_some h
        refine y_callV (np := 1) (st := [.inl x6]) (as := [.inl x7]) 92 12 (sh_mo_isAway e24) q8_81 q8_78 q8_80 qs7_2 q1_15 (by decide) rfl (by decide) rfl (by decide) (by decide +kernel) (by decide) rfl (Nat.le_of_ble_eq_true rfl) (show decode cX12_worthNow 123 = .ok (.invokevirtual 460, 3) by decide +kernel) rfl ?_
        by_cases c26 : r25 = 0
        · rw [if_pos c26] at h
          refine y_if_eq_t (tgt := 145) (show decode cX12_worthNow 126 = .ok (.ifCond .eq 19, 3) by decide +kernel) rfl c26 ?_
          refine y_iconst (show decode cX12_worthNow 145 = .ok (.iconst 0, 1) by decide +kernel) rfl ?_
          refine y_pick [0, 1, 3] rfl ?_
          exact hj13 _ h
        · rw [if_neg c26] at h
          refine y_if_eq_f (show decode cX12_worthNow 126 = .ok (.ifCond .eq 19, 3) by decide +kernel) c26 (by decide) ?_
          refine y_aload_n (show decode cX12_worthNow 129 = .ok (.aload_n 0, 1) by decide +kernel) 0 rfl ?_
          refine y_getf 92 12 28 74 (by decide) rfl (by decide) (by decide) q6_75 (show decode cX12_worthNow 130 = .ok (.getfield 74, 3) by decide +kernel) (v := .inr (.inr (112 + 1))) rfl ?_
          refine y_iconst (show decode cX12_worthNow 133 = .ok (.iconst 5, 1) by decide +kernel) rfl ?_
          refine y_aload_n (show decode cX12_worthNow 134 = .ok (.aload_n 0, 1) by decide +kernel) 0 rfl ?_
          refine y_getf 92 12 40 311 (by decide) rfl (by decide) (by decide) q6_87 (show decode cX12_worthNow 135 = .ok (.getfield 311, 3) by decide +kernel) (v := .inl (σ 92 40)) rfl ?_
          obtain ⟨c27, h⟩ := chkI_some h
          refine y_imul (show decode cX12_worthNow 138 = .ok (.imul, 1) by decide +kernel) c27 ?_
          refine y_iload_n (show decode cX12_worthNow 139 = .ok (.iload_n 3, 1) by decide +kernel) 3 rfl ?_
          obtain ⟨c28, h⟩ := chkI_some h
          refine y_iadd (show decode cX12_worthNow 140 = .ok (.iadd, 1) by decide +kernel) c28 ?_
          obtain ⟨c29, h⟩ := chkA_some h
          refine yo_iald 112 10 (by decide) rfl c29 (ov_at rfl) (show decode cX12_worthNow 141 = .ok (.iaload, 1) by decide +kernel) ?_
          refine y_goto (tgt := 146) (show decode cX12_worthNow 142 = .ok (.goto 4, 3) by decide +kernel) rfl ?_
          refine y_pick [0, 1, 3] rfl ?_
          exact hj13 _ h
  · rw [if_neg c5] at h
    refine y_icmp_ge_f (show decode cX12_worthNow 14 = .ok (.if_icmp .ge 89, 3) by decide +kernel) c5 (by decide) ?_
    refine y_aload_n (show decode cX12_worthNow 17 = .ok (.aload_n 0, 1) by decide +kernel) 0 rfl ?_
    refine y_iload_n (show decode cX12_worthNow 18 = .ok (.iload_n 3, 1) by decide +kernel) 3 rfl ?_
    refine y_iload_n (show decode cX12_worthNow 19 = .ok (.iload_n 1, 1) by decide +kernel) 1 rfl ?_
    obtain ⟨r31, e30, h⟩ := bndO_some h
    refine y_callV (np := 2) (st := []) (as := [.inl x2, .inl a]) 92 12 (sh_mo_isDone e30) q8_77 q8_74 q8_76 qs7_1 q1_15 (by decide) rfl (by decide) rfl (by decide) (by decide +kernel) (by decide) rfl (Nat.le_of_ble_eq_true rfl) (show decode cX12_worthNow 20 = .ok (.invokevirtual 463, 3) by decide +kernel) rfl ?_
    refine y_istore (show decode cX12_worthNow 23 = .ok (.istore 4, 2) by decide +kernel) rfl (L1 := [(4, .inl r31), (0, .inr (.inr (92 + 1))), (1, .inl a), (2, .inl x1), (3, .inl x2)]) rfl ?_
    refine y_aload_n (show decode cX12_worthNow 25 = .ok (.aload_n 0, 1) by decide +kernel) 1 rfl ?_
    refine y_getf 92 12 50 467 (by decide) rfl (by decide) (by decide) q6_97 (show decode cX12_worthNow 26 = .ok (.getfield 467, 3) by decide +kernel) (v := .inl (σ 92 50)) rfl ?_
    refine bnd_j (Q := fun j32 => j32 = some ρ → Y E MX12_worthNow (yRm 2 0 0) (yQf E (150 + 0) 0 0 (some (.inl ρ)) (ov σ)) 64 [(0, .inr (.inr (92 + 1))), (1, .inl a), (2, .inl x1), (3, .inl x2), (4, .inl r31)] [] (ov σ) 150 0 0) (fun h => ?_) (fun j32 hj32 h => ?_) h
    · refine y_iload_n (show decode cX12_worthNow 64 = .ok (.iload_n 2, 1) by decide +kernel) 2 rfl ?_
      refine y_aload_n (show decode cX12_worthNow 65 = .ok (.aload_n 0, 1) by decide +kernel) 0 rfl ?_
      refine y_getf 92 12 50 467 (by decide) rfl (by decide) (by decide) q6_97 (show decode cX12_worthNow 66 = .ok (.getfield 467, 3) by decide +kernel) (v := .inl (σ 92 50)) rfl ?_
      refine bnd_j (Q := fun j34 => ∀ (y33 : Int), j34 y33 = some ρ → Y E MX12_worthNow (yRm 2 0 0) (yQf E (150 + 0) 0 0 (some (.inl ρ)) (ov σ)) 95 [(0, .inr (.inr (92 + 1))), (1, .inl a), (3, .inl x2)] [.inl y33, .inl x1] (ov σ) 150 0 0) (fun y33 h => ?_) (fun j34 hj34 h => ?_) h
      · dsimp only at h
        obtain ⟨c35, h⟩ := chkI_some h
        refine y_iadd (show decode cX12_worthNow 95 = .ok (.iadd, 1) by decide +kernel) c35 ?_
        refine y_istore_n (show decode cX12_worthNow 96 = .ok (.istore_n 2, 1) by decide +kernel) rfl (L1 := [(2, .inl (x1 + y33)), (0, .inr (.inr (92 + 1))), (1, .inl a), (3, .inl x2)]) rfl ?_
        obtain ⟨c36, h⟩ := chkI_some h
        refine y_iinc (show decode cX12_worthNow 97 = .ok (.iinc 3 1, 3) by decide +kernel) 3 rfl c36 rfl (L1 := [(3, .inl (x2 + 1)), (2, .inl (x1 + y33)), (0, .inr (.inr (92 + 1))), (1, .inl a)]) rfl ?_
        refine y_goto (tgt := 4) (show decode cX12_worthNow 100 = .ok (.goto (-96), 3) by decide +kernel) rfl ?_
        refine y_pick [2, 3, 1, 0] rfl ?_
        exact hk3 _ _ h
      by_cases c37 : ¬ (σ 92 50) = 0
      · rw [if_pos c37] at h
        refine y_if_ne_t (tgt := 94) (show decode cX12_worthNow 69 = .ok (.ifCond .ne 25, 3) by decide +kernel) rfl c37 ?_
        refine y_iconst (show decode cX12_worthNow 94 = .ok (.iconst 0, 1) by decide +kernel) rfl ?_
        refine y_pick [0, 1, 3] rfl ?_
        exact hj34 _ h
      · rw [if_neg c37] at h
        refine y_if_ne_f (show decode cX12_worthNow 69 = .ok (.ifCond .ne 25, 3) by decide +kernel) c37 (by decide) ?_
        refine y_iload (show decode cX12_worthNow 72 = .ok (.iload 4, 2) by decide +kernel) 4 rfl ?_
        by_cases c38 : r31 = 0
        · rw [if_pos c38] at h
          refine y_if_eq_t (tgt := 94) (show decode cX12_worthNow 74 = .ok (.ifCond .eq 20, 3) by decide +kernel) rfl c38 ?_
          refine y_iconst (show decode cX12_worthNow 94 = .ok (.iconst 0, 1) by decide +kernel) rfl ?_
          refine y_pick [0, 1, 3] rfl ?_
          exact hj34 _ h
        · rw [if_neg c38] at h
          refine y_if_eq_f (show decode cX12_worthNow 74 = .ok (.ifCond .eq 20, 3) by decide +kernel) c38 (by decide) ?_
          refine y_aload_n (show decode cX12_worthNow 77 = .ok (.aload_n 0, 1) by decide +kernel) 0 rfl ?_
          refine y_getf 92 12 33 89 (by decide) rfl (by decide) (by decide) q6_80 (show decode cX12_worthNow 78 = .ok (.getfield 89, 3) by decide +kernel) (v := .inr (.inr (117 + 1))) rfl ?_
          refine y_bipush (show decode cX12_worthNow 81 = .ok (.bipush 8, 2) by decide +kernel) rfl rfl ?_
          refine y_aload_n (show decode cX12_worthNow 83 = .ok (.aload_n 0, 1) by decide +kernel) 0 rfl ?_
          refine y_getf 92 12 40 311 (by decide) rfl (by decide) (by decide) q6_87 (show decode cX12_worthNow 84 = .ok (.getfield 311, 3) by decide +kernel) (v := .inl (σ 92 40)) rfl ?_
          obtain ⟨c39, h⟩ := chkI_some h
          refine y_imul (show decode cX12_worthNow 87 = .ok (.imul, 1) by decide +kernel) c39 ?_
          refine y_iload_n (show decode cX12_worthNow 88 = .ok (.iload_n 3, 1) by decide +kernel) 3 rfl ?_
          obtain ⟨c40, h⟩ := chkI_some h
          refine y_iadd (show decode cX12_worthNow 89 = .ok (.iadd, 1) by decide +kernel) c40 ?_
          obtain ⟨c41, h⟩ := chkA_some h
          refine yo_iald 117 16 (by decide) rfl c41 (ov_at rfl) (show decode cX12_worthNow 90 = .ok (.iaload, 1) by decide +kernel) ?_
          refine y_goto (tgt := 95) (show decode cX12_worthNow 91 = .ok (.goto 4, 3) by decide +kernel) rfl ?_
          refine y_pick [0, 1, 3] rfl ?_
          exact hj34 _ h
    by_cases c42 : (σ 92 50) ≤ 0
    · rw [if_pos c42] at h
      refine y_if_le_t (tgt := 64) (show decode cX12_worthNow 29 = .ok (.ifCond .le 35, 3) by decide +kernel) rfl c42 ?_
      refine y_pick [1, 2, 3, 4, 0] rfl ?_
      exact hj32 h
    · rw [if_neg c42] at h
      refine y_if_le_f (show decode cX12_worthNow 29 = .ok (.ifCond .le 35, 3) by decide +kernel) c42 (by decide) ?_
      refine y_aload_n (show decode cX12_worthNow 32 = .ok (.aload_n 0, 1) by decide +kernel) 1 rfl ?_
      refine y_getf 92 12 32 86 (by decide) rfl (by decide) (by decide) q6_79 (show decode cX12_worthNow 33 = .ok (.getfield 86, 3) by decide +kernel) (v := .inr (.inr (116 + 1))) rfl ?_
      refine y_bipush (show decode cX12_worthNow 36 = .ok (.bipush 8, 2) by decide +kernel) rfl rfl ?_
      refine y_aload_n (show decode cX12_worthNow 38 = .ok (.aload_n 0, 1) by decide +kernel) 1 rfl ?_
      refine y_getf 92 12 40 311 (by decide) rfl (by decide) (by decide) q6_87 (show decode cX12_worthNow 39 = .ok (.getfield 311, 3) by decide +kernel) (v := .inl (σ 92 40)) rfl ?_
      obtain ⟨c43, h⟩ := chkI_some h
      refine y_imul (show decode cX12_worthNow 42 = .ok (.imul, 1) by decide +kernel) c43 ?_
      refine y_iload_n (show decode cX12_worthNow 43 = .ok (.iload_n 3, 1) by decide +kernel) 4 rfl ?_
      obtain ⟨c44, h⟩ := chkI_some h
      refine y_iadd (show decode cX12_worthNow 44 = .ok (.iadd, 1) by decide +kernel) c44 ?_
      obtain ⟨c45, h⟩ := chkA_some h
      refine yo_iald 116 16 (by decide) rfl c45 (ov_at rfl) (show decode cX12_worthNow 45 = .ok (.iaload, 1) by decide +kernel) ?_
      refine y_aload_n (show decode cX12_worthNow 46 = .ok (.aload_n 0, 1) by decide +kernel) 1 rfl ?_
      refine y_getf 92 12 49 427 (by decide) rfl (by decide) (by decide) q6_96 (show decode cX12_worthNow 47 = .ok (.getfield 427, 3) by decide +kernel) (v := .inl (σ 92 49)) rfl ?_
      obtain ⟨c46, h⟩ := chkI_some h
      refine y_imul (show decode cX12_worthNow 50 = .ok (.imul, 1) by decide +kernel) c46 ?_
      refine y_iload_n (show decode cX12_worthNow 51 = .ok (.iload_n 1, 1) by decide +kernel) 2 rfl ?_
      by_cases c47 : ¬ ((σ 116 (((8 * (σ 92 40)) + x2)).toNat) * (σ 92 49)) = a
      · rw [if_pos c47] at h
        refine y_icmp_ne_t (tgt := 64) (show decode cX12_worthNow 52 = .ok (.if_icmp .ne 12, 3) by decide +kernel) rfl c47 ?_
        refine y_pick [1, 2, 3, 4, 0] rfl ?_
        exact hj32 h
      · rw [if_neg c47] at h
        refine y_icmp_ne_f (show decode cX12_worthNow 52 = .ok (.if_icmp .ne 12, 3) by decide +kernel) c47 (by decide) ?_
        refine y_iload (show decode cX12_worthNow 55 = .ok (.iload 4, 2) by decide +kernel) 0 rfl ?_
        by_cases c48 : ¬ r31 = 0
        · rw [if_pos c48] at h
          refine y_if_ne_t (tgt := 64) (show decode cX12_worthNow 57 = .ok (.ifCond .ne 7, 3) by decide +kernel) rfl c48 ?_
          refine y_pick [1, 2, 3, 4, 0] rfl ?_
          exact hj32 h
        · rw [if_neg c48] at h
          refine y_if_ne_f (show decode cX12_worthNow 57 = .ok (.ifCond .ne 7, 3) by decide +kernel) c48 (by decide) ?_
          refine y_ldcw (k := -1000000) (show decode cX12_worthNow 60 = .ok (.ldc_w 470, 3) by decide +kernel) q8_49 rfl rfl ?_
          cases h
          exact y_iret (show decode cX12_worthNow 63 = .ok (.ireturn, 1) by decide +kernel) rfl
abbrev MX12_stepBack : yM := (yX12_stepBack, cX12_stepBack, 7, none)
def mo_stepBack (N : Nat) (a : Int) (σ : ySt) : Option (ySt) :=
  bndO (mo_personMany σ) fun r2 =>
  chkI (r2 - 1) <|
  chkI ((r2 - 1) - a) <|
  bndO (mo_power N ((r2 - 1) - a) σ) fun r6 =>
  loopS1 (fun k9 x7 σ8 =>
    bndO (mo_stateMany N σ8) fun r11 =>
    if x7 ≥ r11 then
      loopS1 (fun k15 x13 σ14 =>
        bndO (mo_stateMany N σ14) fun r17 =>
        if x13 ≥ r17 then
          some σ14
        else
          chkA 7776 x13 <|
          chkA 7776 x13 <|
          bnd (yset σ14 129 (x13).toNat (σ14 130 (x13).toNat)) fun σ21 =>
          chkI (x13 + 1) <|
          k15 (x13 + 1) σ21) N 0 σ8
    else
      chk ((r6 : Int) ≠ 0) <|
      chkI ((x7 : Int).tdiv r6) <|
      bndO (mo_placeMany σ8) fun r27 =>
      chk ((r27 : Int) ≠ 0) <|
      chkI ((((x7 : Int).tdiv r6) : Int).tmod r27) <|
      chkA 7776 x7 <|
      bnd (yset σ8 130 (x7).toNat (-1000000)) fun σ31 =>
      loopS2 (fun k36 x33 x34 σ35 =>
        bndO (mo_placeMany σ35) fun r38 =>
        if x34 ≥ r38 then
          chkI (x33 + 1) <|
          k9 (x33 + 1) σ35
        else
          chkI (x34 - ((((x7 : Int).tdiv r6) : Int).tmod r27)) <|
          chkI ((x34 - ((((x7 : Int).tdiv r6) : Int).tmod r27)) * r6) <|
          chkI (x33 + ((x34 - ((((x7 : Int).tdiv r6) : Int).tmod r27)) * r6)) <|
          chkA 7776 (x33 + ((x34 - ((((x7 : Int).tdiv r6) : Int).tmod r27)) * r6)) <|
          bnd (fun (σ45 : ySt) =>
            chkI (x34 + 1) <|
            k36 x33 (x34 + 1) σ45) fun j46 =>
          if (σ35 129 ((x33 + ((x34 - ((((x7 : Int).tdiv r6) : Int).tmod r27)) * r6))).toNat) = (-1000000) then
            j46 σ35
          else
            bndO (mo_gets ((((x7 : Int).tdiv r6) : Int).tmod r27) x34 σ35) fun r50 =>
            if ¬ r50 = 0 then
              bnd (fun (y52 : Int) =>
                chkI ((σ35 129 ((x33 + ((x34 - ((((x7 : Int).tdiv r6) : Int).tmod r27)) * r6))).toNat) - y52) <|
                chkA 7776 x33 <|
                bnd (chkA 7776 x33 <|
                  bnd (yset σ35 130 (x33).toNat ((σ35 129 ((x33 + ((x34 - ((((x7 : Int).tdiv r6) : Int).tmod r27)) * r6))).toNat) - y52)) fun σ58 =>
                  j46 σ58) fun j56 =>
                if (σ35 130 (x33).toNat) = (-1000000) then
                  j56
                else
                  chkA 7776 x33 <|
                  if ((σ35 129 ((x33 + ((x34 - ((((x7 : Int).tdiv r6) : Int).tmod r27)) * r6))).toNat) - y52) ≤ (σ35 130 (x33).toNat) then
                    j46 σ35
                  else
                    j56) fun j53 =>
              if ¬ (σ35 92 50) = 2 then
                j53 0
              else
                chkI (6 * ((((x7 : Int).tdiv r6) : Int).tmod r27)) <|
                chkI ((6 * ((((x7 : Int).tdiv r6) : Int).tmod r27)) + x34) <|
                chkA 36 ((6 * ((((x7 : Int).tdiv r6) : Int).tmod r27)) + x34) <|
                j53 (σ35 124 (((6 * ((((x7 : Int).tdiv r6) : Int).tmod r27)) + x34)).toNat)
            else
              j46 σ35) N x7 0 σ31) N 0 σ
set_option maxHeartbeats 4000000 in
set_option maxRecDepth 10000 in
theorem sh_mo_stepBack {E : yE} {N : Nat} {a : Int} {σ : ySt} {τ : ySt} (h : mo_stepBack N a σ = some τ) : Con E MX12_stepBack 3 0 0 [.inr (.inr (92 + 1)), .inl a] 150 (ov σ) none (ov τ) := by
  unfold mo_stepBack at h
  refine Con.ofY (by decide +kernel) (by simp [yWords, yCat]) (fun hok _ => ?_)
  show Y E MX12_stepBack (yRm 3 0 0) (yQf E (150 + 0) 0 0 none (ov τ)) 0 [(0, .inr (.inr (92 + 1))), (1, .inl a)] [] (ov σ) 150 0 0
  refine y_aload_n (show decode cX12_stepBack 0 = .ok (.aload_n 0, 1) by decide +kernel) 0 rfl ?_
  refine y_aload_n (show decode cX12_stepBack 1 = .ok (.aload_n 0, 1) by decide +kernel) 0 rfl ?_
  obtain ⟨r2, e1, h⟩ := bndO_some h
  refine y_callV (np := 0) (st := [.inr (.inr (92 + 1))]) (as := []) 92 12 (sh_mo_personMany e1) q6_42 q6_39 q6_41 qs4_1 q1_15 (by decide) rfl (by decide) rfl (by decide) (by decide +kernel) (by decide) rfl (Nat.le_of_ble_eq_true rfl) (show decode cX12_stepBack 2 = .ok (.invokevirtual 418, 3) by decide +kernel) rfl ?_
  refine y_iconst (show decode cX12_stepBack 5 = .ok (.iconst 1, 1) by decide +kernel) rfl ?_
  obtain ⟨c3, h⟩ := chkI_some h
  refine y_isub (show decode cX12_stepBack 6 = .ok (.isub, 1) by decide +kernel) c3 ?_
  refine y_iload_n (show decode cX12_stepBack 7 = .ok (.iload_n 1, 1) by decide +kernel) 1 rfl ?_
  obtain ⟨c4, h⟩ := chkI_some h
  refine y_isub (show decode cX12_stepBack 8 = .ok (.isub, 1) by decide +kernel) c4 ?_
  obtain ⟨r6, e5, h⟩ := bndO_some h
  refine y_callV (np := 1) (st := []) (as := [.inl ((r2 - 1) - a)]) 92 12 (sh_mo_power e5) q8_61 q8_58 q8_60 qs6_13 q1_15 (by decide) rfl (by decide) rfl (by decide) (by decide +kernel) (by decide) rfl (Nat.le_of_ble_eq_true rfl) (show decode cX12_stepBack 9 = .ok (.invokevirtual 457, 3) by decide +kernel) rfl ?_
  refine y_istore_n (show decode cX12_stepBack 12 = .ok (.istore_n 2, 1) by decide +kernel) rfl (L1 := [(2, .inl r6), (0, .inr (.inr (92 + 1))), (1, .inl a)]) rfl ?_
  refine y_iconst (show decode cX12_stepBack 13 = .ok (.iconst 0, 1) by decide +kernel) rfl ?_
  refine y_istore_n (show decode cX12_stepBack 14 = .ok (.istore_n 3, 1) by decide +kernel) rfl (L1 := [(3, .inl 0), (2, .inl r6), (0, .inr (.inr (92 + 1))), (1, .inl a)]) rfl ?_
  refine y_pick [2, 1, 0] rfl ?_
  refine loopS1_ind (P := fun x7 σ8 => Y E MX12_stepBack (yRm 3 0 0) (yQf E (150 + 0) 0 0 none (ov τ)) 15 [(0, .inr (.inr (92 + 1))), (2, .inl r6), (3, .inl x7)] [] (ov σ8) 150 0 0) (fun k9 hk9 x7 σ8 h => ?_) _ _ _  h
  refine y_iload_n (show decode cX12_stepBack 15 = .ok (.iload_n 3, 1) by decide +kernel) 2 rfl ?_
  refine y_aload_n (show decode cX12_stepBack 16 = .ok (.aload_n 0, 1) by decide +kernel) 0 rfl ?_
  obtain ⟨r11, e10, h⟩ := bndO_some h
  refine y_callV (np := 0) (st := [.inl x7]) (as := []) 92 12 (sh_mo_stateMany e10) q8_57 q8_54 q8_56 qs6_12 q1_15 (by decide) rfl (by decide) rfl (by decide) (by decide +kernel) (by decide) rfl (Nat.le_of_ble_eq_true rfl) (show decode cX12_stepBack 17 = .ok (.invokevirtual 474, 3) by decide +kernel) rfl ?_
  by_cases c12 : x7 ≥ r11
  · rw [if_pos c12] at h
    refine y_icmp_ge_t (tgt := 165) (show decode cX12_stepBack 20 = .ok (.if_icmp .ge 145, 3) by decide +kernel) rfl c12 ?_
    refine y_iconst (show decode cX12_stepBack 165 = .ok (.iconst 0, 1) by decide +kernel) rfl ?_
    refine y_istore_n (show decode cX12_stepBack 166 = .ok (.istore_n 3, 1) by decide +kernel) rfl (L1 := [(3, .inl 0), (0, .inr (.inr (92 + 1))), (2, .inl r6)]) rfl ?_
    refine y_pick [1, 0] rfl ?_
    refine loopS1_ind (P := fun x13 σ14 => Y E MX12_stepBack (yRm 3 0 0) (yQf E (150 + 0) 0 0 none (ov τ)) 167 [(0, .inr (.inr (92 + 1))), (3, .inl x13)] [] (ov σ14) 150 0 0) (fun k15 hk15 x13 σ14 h => ?_) _ _ _  h
    refine y_iload_n (show decode cX12_stepBack 167 = .ok (.iload_n 3, 1) by decide +kernel) 1 rfl ?_
    refine y_aload_n (show decode cX12_stepBack 168 = .ok (.aload_n 0, 1) by decide +kernel) 0 rfl ?_
    obtain ⟨r17, e16, h⟩ := bndO_some h
    refine y_callV (np := 0) (st := [.inl x13]) (as := []) 92 12 (sh_mo_stateMany e16) q8_57 q8_54 q8_56 qs6_12 q1_15 (by decide) rfl (by decide) rfl (by decide) (by decide +kernel) (by decide) rfl (Nat.le_of_ble_eq_true rfl) (show decode cX12_stepBack 169 = .ok (.invokevirtual 474, 3) by decide +kernel) rfl ?_
    by_cases c18 : x13 ≥ r17
    · rw [if_pos c18] at h
      refine y_icmp_ge_t (tgt := 193) (show decode cX12_stepBack 172 = .ok (.if_icmp .ge 21, 3) by decide +kernel) rfl c18 ?_
      cases h
      exact y_vret (show decode cX12_stepBack 193 = .ok (.return_, 1) by decide +kernel) rfl
    · rw [if_neg c18] at h
      refine y_icmp_ge_f (show decode cX12_stepBack 172 = .ok (.if_icmp .ge 21, 3) by decide +kernel) c18 (by decide) ?_
      refine y_aload_n (show decode cX12_stepBack 175 = .ok (.aload_n 0, 1) by decide +kernel) 0 rfl ?_
      refine y_getf 92 12 59 126 (by decide) rfl (by decide) (by decide) q6_106 (show decode cX12_stepBack 176 = .ok (.getfield 126, 3) by decide +kernel) (v := .inr (.inr (129 + 1))) rfl ?_
      refine y_iload_n (show decode cX12_stepBack 179 = .ok (.iload_n 3, 1) by decide +kernel) 1 rfl ?_
      refine y_aload_n (show decode cX12_stepBack 180 = .ok (.aload_n 0, 1) by decide +kernel) 0 rfl ?_
      refine y_getf 92 12 60 129 (by decide) rfl (by decide) (by decide) q6_107 (show decode cX12_stepBack 181 = .ok (.getfield 129, 3) by decide +kernel) (v := .inr (.inr (130 + 1))) rfl ?_
      refine y_iload_n (show decode cX12_stepBack 184 = .ok (.iload_n 3, 1) by decide +kernel) 1 rfl ?_
      obtain ⟨c19, h⟩ := chkA_some h
      refine yo_iald 130 7776 (by decide) rfl c19 (ov_at rfl) (show decode cX12_stepBack 185 = .ok (.iaload, 1) by decide +kernel) ?_
      obtain ⟨c20, h⟩ := chkA_some h
      obtain ⟨σ21, e22, h⟩ := bnd_i h
      refine yo_iast 129 7776 (by decide) rfl c20 (ov_set1 e22 rfl) (show decode cX12_stepBack 186 = .ok (.iastore, 1) by decide +kernel) ?_
      obtain ⟨c23, h⟩ := chkI_some h
      refine y_iinc (show decode cX12_stepBack 187 = .ok (.iinc 3 1, 3) by decide +kernel) 1 rfl c23 rfl (L1 := [(3, .inl (x13 + 1)), (0, .inr (.inr (92 + 1)))]) rfl ?_
      refine y_goto (tgt := 167) (show decode cX12_stepBack 190 = .ok (.goto (-23), 3) by decide +kernel) rfl ?_
      refine y_pick [1, 0] rfl ?_
      exact hk15 _ _ h
  · rw [if_neg c12] at h
    refine y_icmp_ge_f (show decode cX12_stepBack 20 = .ok (.if_icmp .ge 145, 3) by decide +kernel) c12 (by decide) ?_
    refine y_iload_n (show decode cX12_stepBack 23 = .ok (.iload_n 3, 1) by decide +kernel) 2 rfl ?_
    refine y_iload_n (show decode cX12_stepBack 24 = .ok (.iload_n 2, 1) by decide +kernel) 1 rfl ?_
    obtain ⟨c24, h⟩ := chk_some h
    obtain ⟨c25, h⟩ := chkI_some h
    refine y_idiv (show decode cX12_stepBack 25 = .ok (.idiv, 1) by decide +kernel) c24 c25 ?_
    refine y_aload_n (show decode cX12_stepBack 26 = .ok (.aload_n 0, 1) by decide +kernel) 0 rfl ?_
    obtain ⟨r27, e26, h⟩ := bndO_some h
    refine y_callV (np := 0) (st := [.inl ((x7 : Int).tdiv r6)]) (as := []) 92 12 (sh_mo_placeMany e26) q8_15 q8_12 q8_14 qs6_6 q1_15 (by decide) rfl (by decide) rfl (by decide) (by decide +kernel) (by decide) rfl (Nat.le_of_ble_eq_true rfl) (show decode cX12_stepBack 27 = .ok (.invokevirtual 411, 3) by decide +kernel) rfl ?_
    obtain ⟨c28, h⟩ := chk_some h
    obtain ⟨c29, h⟩ := chkI_some h
    refine y_irem (show decode cX12_stepBack 30 = .ok (.irem, 1) by decide +kernel) c28 c29 ?_
    refine y_istore (show decode cX12_stepBack 31 = .ok (.istore 4, 2) by decide +kernel) rfl (L1 := [(4, .inl ((((x7 : Int).tdiv r6) : Int).tmod r27)), (0, .inr (.inr (92 + 1))), (2, .inl r6), (3, .inl x7)]) rfl ?_
    refine y_aload_n (show decode cX12_stepBack 33 = .ok (.aload_n 0, 1) by decide +kernel) 1 rfl ?_
    refine y_getf 92 12 60 129 (by decide) rfl (by decide) (by decide) q6_107 (show decode cX12_stepBack 34 = .ok (.getfield 129, 3) by decide +kernel) (v := .inr (.inr (130 + 1))) rfl ?_
    refine y_iload_n (show decode cX12_stepBack 37 = .ok (.iload_n 3, 1) by decide +kernel) 3 rfl ?_
    refine y_ldcw (k := -1000000) (show decode cX12_stepBack 38 = .ok (.ldc_w 470, 3) by decide +kernel) q8_49 rfl rfl ?_
    obtain ⟨c30, h⟩ := chkA_some h
    obtain ⟨σ31, e32, h⟩ := bnd_i h
    refine yo_iast 130 7776 (by decide) rfl c30 (ov_set1 e32 rfl) (show decode cX12_stepBack 41 = .ok (.iastore, 1) by decide +kernel) ?_
    refine y_iconst (show decode cX12_stepBack 42 = .ok (.iconst 0, 1) by decide +kernel) rfl ?_
    refine y_istore (show decode cX12_stepBack 43 = .ok (.istore 5, 2) by decide +kernel) rfl (L1 := [(5, .inl 0), (4, .inl ((((x7 : Int).tdiv r6) : Int).tmod r27)), (0, .inr (.inr (92 + 1))), (2, .inl r6), (3, .inl x7)]) rfl ?_
    refine y_pick [2, 3, 4, 1, 0] rfl ?_
    refine loopS2_ind (P := fun x33 x34 σ35 => Y E MX12_stepBack (yRm 3 0 0) (yQf E (150 + 0) 0 0 none (ov τ)) 45 [(0, .inr (.inr (92 + 1))), (2, .inl r6), (3, .inl x33), (4, .inl ((((x7 : Int).tdiv r6) : Int).tmod r27)), (5, .inl x34)] [] (ov σ35) 150 0 0) (fun k36 hk36 x33 x34 σ35 h => ?_) _ _ _ _  h
    refine y_iload (show decode cX12_stepBack 45 = .ok (.iload 5, 2) by decide +kernel) 4 rfl ?_
    refine y_aload_n (show decode cX12_stepBack 47 = .ok (.aload_n 0, 1) by decide +kernel) 0 rfl ?_
    obtain ⟨r38, e37, h⟩ := bndO_some h
    refine y_callV (np := 0) (st := [.inl x34]) (as := []) 92 12 (sh_mo_placeMany e37) q8_15 q8_12 q8_14 qs6_6 q1_15 (by decide) rfl (by decide) rfl (by decide) (by decide +kernel) (by decide) rfl (Nat.le_of_ble_eq_true rfl) (show decode cX12_stepBack 48 = .ok (.invokevirtual 411, 3) by decide +kernel) rfl ?_
    by_cases c39 : x34 ≥ r38
    · rw [if_pos c39] at h
      refine y_icmp_ge_t (tgt := 159) (show decode cX12_stepBack 51 = .ok (.if_icmp .ge 108, 3) by decide +kernel) rfl c39 ?_
      obtain ⟨c40, h⟩ := chkI_some h
      refine y_iinc (show decode cX12_stepBack 159 = .ok (.iinc 3 1, 3) by decide +kernel) 2 rfl c40 rfl (L1 := [(3, .inl (x33 + 1)), (0, .inr (.inr (92 + 1))), (2, .inl r6), (4, .inl ((((x7 : Int).tdiv r6) : Int).tmod r27)), (5, .inl x34)]) rfl ?_
      refine y_goto (tgt := 15) (show decode cX12_stepBack 162 = .ok (.goto (-147), 3) by decide +kernel) rfl ?_
      refine y_pick [1, 2, 0] rfl ?_
      exact hk9 _ _ h
    · rw [if_neg c39] at h
      refine y_icmp_ge_f (show decode cX12_stepBack 51 = .ok (.if_icmp .ge 108, 3) by decide +kernel) c39 (by decide) ?_
      refine y_aload_n (show decode cX12_stepBack 54 = .ok (.aload_n 0, 1) by decide +kernel) 0 rfl ?_
      refine y_getf 92 12 59 126 (by decide) rfl (by decide) (by decide) q6_106 (show decode cX12_stepBack 55 = .ok (.getfield 126, 3) by decide +kernel) (v := .inr (.inr (129 + 1))) rfl ?_
      refine y_iload_n (show decode cX12_stepBack 58 = .ok (.iload_n 3, 1) by decide +kernel) 2 rfl ?_
      refine y_iload (show decode cX12_stepBack 59 = .ok (.iload 5, 2) by decide +kernel) 4 rfl ?_
      refine y_iload (show decode cX12_stepBack 61 = .ok (.iload 4, 2) by decide +kernel) 3 rfl ?_
      obtain ⟨c41, h⟩ := chkI_some h
      refine y_isub (show decode cX12_stepBack 63 = .ok (.isub, 1) by decide +kernel) c41 ?_
      refine y_iload_n (show decode cX12_stepBack 64 = .ok (.iload_n 2, 1) by decide +kernel) 1 rfl ?_
      obtain ⟨c42, h⟩ := chkI_some h
      refine y_imul (show decode cX12_stepBack 65 = .ok (.imul, 1) by decide +kernel) c42 ?_
      obtain ⟨c43, h⟩ := chkI_some h
      refine y_iadd (show decode cX12_stepBack 66 = .ok (.iadd, 1) by decide +kernel) c43 ?_
      obtain ⟨c44, h⟩ := chkA_some h
      refine yo_iald 129 7776 (by decide) rfl c44 (ov_at rfl) (show decode cX12_stepBack 67 = .ok (.iaload, 1) by decide +kernel) ?_
      refine y_istore (show decode cX12_stepBack 68 = .ok (.istore 6, 2) by decide +kernel) rfl (L1 := [(6, .inl (σ35 129 ((x33 + ((x34 - ((((x7 : Int).tdiv r6) : Int).tmod r27)) * r6))).toNat)), (0, .inr (.inr (92 + 1))), (2, .inl r6), (3, .inl x33), (4, .inl ((((x7 : Int).tdiv r6) : Int).tmod r27)), (5, .inl x34)]) rfl ?_
      refine y_iload (show decode cX12_stepBack 70 = .ok (.iload 6, 2) by decide +kernel) 0 rfl ?_
      refine y_ldcw (k := -1000000) (show decode cX12_stepBack 72 = .ok (.ldc_w 470, 3) by decide +kernel) q8_49 rfl rfl ?_
      refine bnd_j (Q := fun j46 => ∀ (σ45 : ySt), j46 σ45 = some τ → Y E MX12_stepBack (yRm 3 0 0) (yQf E (150 + 0) 0 0 none (ov τ)) 153 [(0, .inr (.inr (92 + 1))), (2, .inl r6), (3, .inl x33), (4, .inl ((((x7 : Int).tdiv r6) : Int).tmod r27)), (5, .inl x34)] [] (ov σ45) 150 0 0) (fun σ45 h => ?_) (fun j46 hj46 h => ?_) h
      · dsimp only at h
        obtain ⟨c47, h⟩ := chkI_some h
        refine y_iinc (show decode cX12_stepBack 153 = .ok (.iinc 5 1, 3) by decide +kernel) 4 rfl c47 rfl (L1 := [(5, .inl (x34 + 1)), (0, .inr (.inr (92 + 1))), (2, .inl r6), (3, .inl x33), (4, .inl ((((x7 : Int).tdiv r6) : Int).tmod r27))]) rfl ?_
        refine y_goto (tgt := 45) (show decode cX12_stepBack 156 = .ok (.goto (-111), 3) by decide +kernel) rfl ?_
        refine y_pick [1, 2, 3, 4, 0] rfl ?_
        exact hk36 _ _ _ h
      by_cases c48 : (σ35 129 ((x33 + ((x34 - ((((x7 : Int).tdiv r6) : Int).tmod r27)) * r6))).toNat) = (-1000000)
      · rw [if_pos c48] at h
        refine y_icmp_eq_t (tgt := 153) (show decode cX12_stepBack 75 = .ok (.if_icmp .eq 78, 3) by decide +kernel) rfl c48 ?_
        refine y_pick [1, 2, 3, 4, 5] rfl ?_
        exact hj46 _ h
      · rw [if_neg c48] at h
        refine y_icmp_eq_f (show decode cX12_stepBack 75 = .ok (.if_icmp .eq 78, 3) by decide +kernel) c48 (by decide) ?_
        refine y_aload_n (show decode cX12_stepBack 78 = .ok (.aload_n 0, 1) by decide +kernel) 1 rfl ?_
        refine y_iload (show decode cX12_stepBack 79 = .ok (.iload 4, 2) by decide +kernel) 4 rfl ?_
        refine y_iload (show decode cX12_stepBack 81 = .ok (.iload 5, 2) by decide +kernel) 5 rfl ?_
        obtain ⟨r50, e49, h⟩ := bndO_some h
        refine y_callV (np := 2) (st := []) (as := [.inl ((((x7 : Int).tdiv r6) : Int).tmod r27), .inl x34]) 92 12 (sh_mo_gets e49) q8_93 q8_90 q8_92 qs7_5 q1_15 (by decide) rfl (by decide) rfl (by decide) (by decide +kernel) (by decide) rfl (Nat.le_of_ble_eq_true rfl) (show decode cX12_stepBack 83 = .ok (.invokevirtual 477, 3) by decide +kernel) rfl ?_
        by_cases c51 : ¬ r50 = 0
        · rw [if_pos c51] at h
          refine y_if_ne_t (tgt := 92) (show decode cX12_stepBack 86 = .ok (.ifCond .ne 6, 3) by decide +kernel) rfl c51 ?_
          refine y_iload (show decode cX12_stepBack 92 = .ok (.iload 6, 2) by decide +kernel) 0 rfl ?_
          refine y_aload_n (show decode cX12_stepBack 94 = .ok (.aload_n 0, 1) by decide +kernel) 1 rfl ?_
          refine y_getf 92 12 50 467 (by decide) rfl (by decide) (by decide) q6_97 (show decode cX12_stepBack 95 = .ok (.getfield 467, 3) by decide +kernel) (v := .inl (σ35 92 50)) rfl ?_
          refine y_iconst (show decode cX12_stepBack 98 = .ok (.iconst 2, 1) by decide +kernel) rfl ?_
          refine bnd_j (Q := fun j53 => ∀ (y52 : Int), j53 y52 = some τ → Y E MX12_stepBack (yRm 3 0 0) (yQf E (150 + 0) 0 0 none (ov τ)) 119 [(0, .inr (.inr (92 + 1))), (2, .inl r6), (3, .inl x33), (4, .inl ((((x7 : Int).tdiv r6) : Int).tmod r27)), (5, .inl x34)] [.inl y52, .inl (σ35 129 ((x33 + ((x34 - ((((x7 : Int).tdiv r6) : Int).tmod r27)) * r6))).toNat)] (ov σ35) 150 0 0) (fun y52 h => ?_) (fun j53 hj53 h => ?_) h
          · dsimp only at h
            obtain ⟨c54, h⟩ := chkI_some h
            refine y_isub (show decode cX12_stepBack 119 = .ok (.isub, 1) by decide +kernel) c54 ?_
            refine y_istore (show decode cX12_stepBack 120 = .ok (.istore 6, 2) by decide +kernel) rfl (L1 := [(6, .inl ((σ35 129 ((x33 + ((x34 - ((((x7 : Int).tdiv r6) : Int).tmod r27)) * r6))).toNat) - y52)), (0, .inr (.inr (92 + 1))), (2, .inl r6), (3, .inl x33), (4, .inl ((((x7 : Int).tdiv r6) : Int).tmod r27)), (5, .inl x34)]) rfl ?_
            refine y_aload_n (show decode cX12_stepBack 122 = .ok (.aload_n 0, 1) by decide +kernel) 1 rfl ?_
            refine y_getf 92 12 60 129 (by decide) rfl (by decide) (by decide) q6_107 (show decode cX12_stepBack 123 = .ok (.getfield 129, 3) by decide +kernel) (v := .inr (.inr (130 + 1))) rfl ?_
            refine y_iload_n (show decode cX12_stepBack 126 = .ok (.iload_n 3, 1) by decide +kernel) 3 rfl ?_
            obtain ⟨c55, h⟩ := chkA_some h
            refine yo_iald 130 7776 (by decide) rfl c55 (ov_at rfl) (show decode cX12_stepBack 127 = .ok (.iaload, 1) by decide +kernel) ?_
            refine y_ldcw (k := -1000000) (show decode cX12_stepBack 128 = .ok (.ldc_w 470, 3) by decide +kernel) q8_49 rfl rfl ?_
            refine bnd_j (Q := fun j56 => j56 = some τ → Y E MX12_stepBack (yRm 3 0 0) (yQf E (150 + 0) 0 0 none (ov τ)) 145 [(0, .inr (.inr (92 + 1))), (2, .inl r6), (3, .inl x33), (4, .inl ((((x7 : Int).tdiv r6) : Int).tmod r27)), (5, .inl x34), (6, .inl ((σ35 129 ((x33 + ((x34 - ((((x7 : Int).tdiv r6) : Int).tmod r27)) * r6))).toNat) - y52))] [] (ov σ35) 150 0 0) (fun h => ?_) (fun j56 hj56 h => ?_) h
            · refine y_aload_n (show decode cX12_stepBack 145 = .ok (.aload_n 0, 1) by decide +kernel) 0 rfl ?_
              refine y_getf 92 12 60 129 (by decide) rfl (by decide) (by decide) q6_107 (show decode cX12_stepBack 146 = .ok (.getfield 129, 3) by decide +kernel) (v := .inr (.inr (130 + 1))) rfl ?_
              refine y_iload_n (show decode cX12_stepBack 149 = .ok (.iload_n 3, 1) by decide +kernel) 2 rfl ?_
              refine y_iload (show decode cX12_stepBack 150 = .ok (.iload 6, 2) by decide +kernel) 5 rfl ?_
              obtain ⟨c57, h⟩ := chkA_some h
              obtain ⟨σ58, e59, h⟩ := bnd_i h
              refine yo_iast 130 7776 (by decide) rfl c57 (ov_set1 e59 rfl) (show decode cX12_stepBack 152 = .ok (.iastore, 1) by decide +kernel) ?_
              refine y_pick [0, 1, 2, 3, 4] rfl ?_
              exact hj46 _ h
            by_cases c60 : (σ35 130 (x33).toNat) = (-1000000)
            · rw [if_pos c60] at h
              refine y_icmp_eq_t (tgt := 145) (show decode cX12_stepBack 131 = .ok (.if_icmp .eq 14, 3) by decide +kernel) rfl c60 ?_
              refine y_pick [1, 2, 3, 4, 5, 0] rfl ?_
              exact hj56 h
            · rw [if_neg c60] at h
              refine y_icmp_eq_f (show decode cX12_stepBack 131 = .ok (.if_icmp .eq 14, 3) by decide +kernel) c60 (by decide) ?_
              refine y_iload (show decode cX12_stepBack 134 = .ok (.iload 6, 2) by decide +kernel) 0 rfl ?_
              refine y_aload_n (show decode cX12_stepBack 136 = .ok (.aload_n 0, 1) by decide +kernel) 1 rfl ?_
              refine y_getf 92 12 60 129 (by decide) rfl (by decide) (by decide) q6_107 (show decode cX12_stepBack 137 = .ok (.getfield 129, 3) by decide +kernel) (v := .inr (.inr (130 + 1))) rfl ?_
              refine y_iload_n (show decode cX12_stepBack 140 = .ok (.iload_n 3, 1) by decide +kernel) 3 rfl ?_
              obtain ⟨c61, h⟩ := chkA_some h
              refine yo_iald 130 7776 (by decide) rfl c61 (ov_at rfl) (show decode cX12_stepBack 141 = .ok (.iaload, 1) by decide +kernel) ?_
              by_cases c62 : ((σ35 129 ((x33 + ((x34 - ((((x7 : Int).tdiv r6) : Int).tmod r27)) * r6))).toNat) - y52) ≤ (σ35 130 (x33).toNat)
              · rw [if_pos c62] at h
                refine y_icmp_le_t (tgt := 153) (show decode cX12_stepBack 142 = .ok (.if_icmp .le 11, 3) by decide +kernel) rfl c62 ?_
                refine y_pick [1, 2, 3, 4, 5] rfl ?_
                exact hj46 _ h
              · rw [if_neg c62] at h
                refine y_icmp_le_f (show decode cX12_stepBack 142 = .ok (.if_icmp .le 11, 3) by decide +kernel) c62 (by decide) ?_
                refine y_pick [1, 2, 3, 4, 5, 0] rfl ?_
                exact hj56 h
          by_cases c63 : ¬ (σ35 92 50) = 2
          · rw [if_pos c63] at h
            refine y_icmp_ne_t (tgt := 118) (show decode cX12_stepBack 99 = .ok (.if_icmp .ne 19, 3) by decide +kernel) rfl c63 ?_
            refine y_iconst (show decode cX12_stepBack 118 = .ok (.iconst 0, 1) by decide +kernel) rfl ?_
            refine y_pick [1, 2, 3, 4, 5] rfl ?_
            exact hj53 _ h
          · rw [if_neg c63] at h
            refine y_icmp_ne_f (show decode cX12_stepBack 99 = .ok (.if_icmp .ne 19, 3) by decide +kernel) c63 (by decide) ?_
            refine y_aload_n (show decode cX12_stepBack 102 = .ok (.aload_n 0, 1) by decide +kernel) 1 rfl ?_
            refine y_getf 92 12 45 110 (by decide) rfl (by decide) (by decide) q6_92 (show decode cX12_stepBack 103 = .ok (.getfield 110, 3) by decide +kernel) (v := .inr (.inr (124 + 1))) rfl ?_
            refine y_bipush (show decode cX12_stepBack 106 = .ok (.bipush 6, 2) by decide +kernel) rfl rfl ?_
            refine y_iload (show decode cX12_stepBack 108 = .ok (.iload 4, 2) by decide +kernel) 4 rfl ?_
            obtain ⟨c64, h⟩ := chkI_some h
            refine y_imul (show decode cX12_stepBack 110 = .ok (.imul, 1) by decide +kernel) c64 ?_
            refine y_iload (show decode cX12_stepBack 111 = .ok (.iload 5, 2) by decide +kernel) 5 rfl ?_
            obtain ⟨c65, h⟩ := chkI_some h
            refine y_iadd (show decode cX12_stepBack 113 = .ok (.iadd, 1) by decide +kernel) c65 ?_
            obtain ⟨c66, h⟩ := chkA_some h
            refine yo_iald 124 36 (by decide) rfl c66 (ov_at rfl) (show decode cX12_stepBack 114 = .ok (.iaload, 1) by decide +kernel) ?_
            refine y_goto (tgt := 119) (show decode cX12_stepBack 115 = .ok (.goto 4, 3) by decide +kernel) rfl ?_
            refine y_pick [1, 2, 3, 4, 5] rfl ?_
            exact hj53 _ h
        · rw [if_neg c51] at h
          refine y_if_ne_f (show decode cX12_stepBack 86 = .ok (.ifCond .ne 6, 3) by decide +kernel) c51 (by decide) ?_
          refine y_goto (tgt := 153) (show decode cX12_stepBack 89 = .ok (.goto 64, 3) by decide +kernel) rfl ?_
          refine y_pick [1, 2, 3, 4, 5] rfl ?_
          exact hj46 _ h
abbrev MX12_findBest : yM := (yX12_findBest, cX12_findBest, 5, some .int)
def mo_findBest (N : Nat) (a : Int) (σ : ySt) : Option (Int × ySt) :=
  bnd (yset σ 92 50 a) fun σ1 =>
  bndO (mo_layTown N σ1) fun σ4 =>
  bnd (loopS1 (fun k8 x6 σ7 =>
      bndO (mo_stateMany N σ7) fun r10 =>
      if x6 ≥ r10 then
        loopS1 (fun k14 x12 σ13 =>
          if x12 ≤ 0 then
            bndO (mo_homeState N σ13) fun r17 =>
            chkA 70000 r17 <|
            some ((σ13 128 (r17).toNat), σ13)
          else
            loopS2 (fun k22 x19 x20 σ21 =>
              bndO (mo_stateMany N σ21) fun r24 =>
              if x20 ≥ r24 then
                loopS2 (fun k29 x26 x27 σ28 =>
                  bndO (mo_personMany σ28) fun r31 =>
                  if x27 ≥ r31 then
                    loopS2 (fun k36 x33 x34 σ35 =>
                      bndO (mo_stateMany N σ35) fun r38 =>
                      if x34 ≥ r38 then
                        chkI (x33 + (-1)) <|
                        k14 (x33 + (-1)) σ35
                      else
                        chkI (x33 - 1) <|
                        chkI (7776 * (x33 - 1)) <|
                        chkI ((7776 * (x33 - 1)) + x34) <|
                        chkA 7776 x34 <|
                        chkA 70000 ((7776 * (x33 - 1)) + x34) <|
                        bnd (yset σ35 128 (((7776 * (x33 - 1)) + x34)).toNat (σ35 129 (x34).toNat)) fun σ46 =>
                        chkI (x34 + 1) <|
                        k36 x33 (x34 + 1) σ46) N x26 0 σ28
                  else
                    bndO (mo_stepBack N x27 σ28) fun σ50 =>
                    chkI (x27 + 1) <|
                    k29 x26 (x27 + 1) σ50) N x19 0 σ21
              else
                bndO (mo_layState N x20 σ21) fun σ53 =>
                bndO (mo_isLawful N x19 σ53) fun r55 =>
                bnd (fun (y56 : Int) =>
                  bnd (fun (y58 : Int) =>
                    chkA 7776 x20 <|
                    bnd (yset σ53 129 (x20).toNat y58) fun σ61 =>
                    chkI (x20 + 1) <|
                    k22 x19 (x20 + 1) σ61) fun j59 =>
                  bnd (j59 (-1000000)) fun j64 =>
                  if y56 = (-1000000) then
                    j64
                  else
                    chkI (7776 * x19) <|
                    chkI ((7776 * x19) + x20) <|
                    chkA 70000 ((7776 * x19) + x20) <|
                    if ¬ (σ53 128 (((7776 * x19) + x20)).toNat) = (-1000000) then
                      chkI (7776 * x19) <|
                      chkI ((7776 * x19) + x20) <|
                      chkA 70000 ((7776 * x19) + x20) <|
                      chkI (y56 + (σ53 128 (((7776 * x19) + x20)).toNat)) <|
                      j59 (y56 + (σ53 128 (((7776 * x19) + x20)).toNat))
                    else
                      j64) fun j57 =>
                if r55 = 0 then
                  j57 (-1000000)
                else
                  bndO (mo_worthNow N x19 σ53) fun r76 =>
                  j57 r76) N x12 0 σ13) N (σ7 92 48) σ7
      else
        chkI (7776 * (σ7 92 48)) <|
        chkI ((7776 * (σ7 92 48)) + x6) <|
        chkA 70000 ((7776 * (σ7 92 48)) + x6) <|
        bnd (yset σ7 128 (((7776 * (σ7 92 48)) + x6)).toNat 0) fun σ80 =>
        chkI (x6 + 1) <|
        k8 (x6 + 1) σ80) N 0 σ4) fun j5 =>
  if a ≤ 0 then
    j5
  else
    loop1 (fun k85 x84 =>
      chkA 2 (σ4 92 40) <|
      if x84 ≥ (σ4 99 ((σ4 92 40)).toNat) then
        j5
      else
        chkI (8 * (σ4 92 40)) <|
        chkI ((8 * (σ4 92 40)) + x84) <|
        chkA 16 ((8 * (σ4 92 40)) + x84) <|
        chkI ((σ4 116 (((8 * (σ4 92 40)) + x84)).toNat) * (σ4 92 49)) <|
        if ((σ4 116 (((8 * (σ4 92 40)) + x84)).toNat) * (σ4 92 49)) ≤ (σ4 92 48) then
          chkI (x84 + 1) <|
          k85 (x84 + 1)
        else
          some ((-1000000), σ4)) N 0
set_option maxHeartbeats 4000000 in
set_option maxRecDepth 10000 in
theorem sh_mo_findBest {E : yE} {N : Nat} {a : Int} {σ : ySt} {ρ : Int} {τ : ySt} (h : mo_findBest N a σ = some (ρ, τ)) : Con E MX12_findBest 4 0 0 [.inr (.inr (92 + 1)), .inl a] 150 (ov σ) (some (.inl ρ)) (ov τ) := by
  unfold mo_findBest at h
  refine Con.ofY (by decide +kernel) (by simp [yWords, yCat]) (fun hok _ => ?_)
  show Y E MX12_findBest (yRm 4 0 0) (yQf E (150 + 0) 0 0 (some (.inl ρ)) (ov τ)) 0 [(0, .inr (.inr (92 + 1))), (1, .inl a)] [] (ov σ) 150 0 0
  refine y_aload_n (show decode cX12_findBest 0 = .ok (.aload_n 0, 1) by decide +kernel) 0 rfl ?_
  refine y_iload_n (show decode cX12_findBest 1 = .ok (.iload_n 1, 1) by decide +kernel) 1 rfl ?_
  obtain ⟨σ1, e2, h⟩ := bnd_i h
  refine yo_putI 92 12 50 467 (by decide) rfl (by decide) (by decide) q6_97 rfl (show decode cX12_findBest 2 = .ok (.putfield 467, 3) by decide +kernel) rfl rfl (ov_set1 e2 rfl) ?_
  refine y_aload_n (show decode cX12_findBest 5 = .ok (.aload_n 0, 1) by decide +kernel) 0 rfl ?_
  obtain ⟨σ4, e3, h⟩ := bndO_some h
  refine y_callV (np := 0) (st := []) (as := []) 92 12 (sh_mo_layTown e3) q8_26 q8_23 q8_25 qs6_8 q1_15 (by decide) rfl (by decide) rfl (by decide) (by decide +kernel) (by decide) rfl (Nat.le_of_ble_eq_true rfl) (show decode cX12_findBest 6 = .ok (.invokevirtual 454, 3) by decide +kernel) rfl ?_
  refine y_iload_n (show decode cX12_findBest 9 = .ok (.iload_n 1, 1) by decide +kernel) 1 rfl ?_
  refine bnd_j (Q := fun j5 => j5 = some (ρ, τ) → Y E MX12_findBest (yRm 4 0 0) (yQf E (150 + 0) 0 0 (some (.inl ρ)) (ov τ)) 64 [(0, .inr (.inr (92 + 1)))] [] (ov σ4) 150 0 0) (fun h => ?_) (fun j5 hj5 h => ?_) h
  · refine y_iconst (show decode cX12_findBest 64 = .ok (.iconst 0, 1) by decide +kernel) rfl ?_
    refine y_istore_n (show decode cX12_findBest 65 = .ok (.istore_n 2, 1) by decide +kernel) rfl (L1 := [(2, .inl 0), (0, .inr (.inr (92 + 1)))]) rfl ?_
    refine y_pick [1, 0] rfl ?_
    refine loopS1_ind (P := fun x6 σ7 => Y E MX12_findBest (yRm 4 0 0) (yQf E (150 + 0) 0 0 (some (.inl ρ)) (ov τ)) 66 [(0, .inr (.inr (92 + 1))), (2, .inl x6)] [] (ov σ7) 150 0 0) (fun k8 hk8 x6 σ7 h => ?_) _ _ _  h
    refine y_iload_n (show decode cX12_findBest 66 = .ok (.iload_n 2, 1) by decide +kernel) 1 rfl ?_
    refine y_aload_n (show decode cX12_findBest 67 = .ok (.aload_n 0, 1) by decide +kernel) 0 rfl ?_
    obtain ⟨r10, e9, h⟩ := bndO_some h
    refine y_callV (np := 0) (st := [.inl x6]) (as := []) 92 12 (sh_mo_stateMany e9) q8_57 q8_54 q8_56 qs6_12 q1_15 (by decide) rfl (by decide) rfl (by decide) (by decide +kernel) (by decide) rfl (Nat.le_of_ble_eq_true rfl) (show decode cX12_findBest 68 = .ok (.invokevirtual 474, 3) by decide +kernel) rfl ?_
    by_cases c11 : x6 ≥ r10
    · rw [if_pos c11] at h
      refine y_icmp_ge_t (tgt := 96) (show decode cX12_findBest 71 = .ok (.if_icmp .ge 25, 3) by decide +kernel) rfl c11 ?_
      refine y_aload_n (show decode cX12_findBest 96 = .ok (.aload_n 0, 1) by decide +kernel) 0 rfl ?_
      refine y_getf 92 12 48 424 (by decide) rfl (by decide) (by decide) q6_95 (show decode cX12_findBest 97 = .ok (.getfield 424, 3) by decide +kernel) (v := .inl (σ7 92 48)) rfl ?_
      refine y_istore_n (show decode cX12_findBest 100 = .ok (.istore_n 2, 1) by decide +kernel) rfl (L1 := [(2, .inl (σ7 92 48)), (0, .inr (.inr (92 + 1)))]) rfl ?_
      refine y_pick [1, 0] rfl ?_
      refine loopS1_ind (P := fun x12 σ13 => Y E MX12_findBest (yRm 4 0 0) (yQf E (150 + 0) 0 0 (some (.inl ρ)) (ov τ)) 101 [(0, .inr (.inr (92 + 1))), (2, .inl x12)] [] (ov σ13) 150 0 0) (fun k14 hk14 x12 σ13 h => ?_) _ _ _  h
      refine y_iload_n (show decode cX12_findBest 101 = .ok (.iload_n 2, 1) by decide +kernel) 1 rfl ?_
      by_cases c15 : x12 ≤ 0
      · rw [if_pos c15] at h
        refine y_if_le_t (tgt := 263) (show decode cX12_findBest 102 = .ok (.ifCond .le 161, 3) by decide +kernel) rfl c15 ?_
        refine y_aload_n (show decode cX12_findBest 263 = .ok (.aload_n 0, 1) by decide +kernel) 0 rfl ?_
        refine y_getf 92 12 58 123 (by decide) rfl (by decide) (by decide) q6_105 (show decode cX12_findBest 264 = .ok (.getfield 123, 3) by decide +kernel) (v := .inr (.inr (128 + 1))) rfl ?_
        refine y_aload_n (show decode cX12_findBest 267 = .ok (.aload_n 0, 1) by decide +kernel) 0 rfl ?_
        obtain ⟨r17, e16, h⟩ := bndO_some h
        refine y_callV (np := 0) (st := [.inr (.inr (128 + 1))]) (as := []) 92 12 (sh_mo_homeState e16) q8_97 q8_94 q8_96 qs7_6 q1_15 (by decide) rfl (by decide) rfl (by decide) (by decide +kernel) (by decide) rfl (Nat.le_of_ble_eq_true rfl) (show decode cX12_findBest 268 = .ok (.invokevirtual 493, 3) by decide +kernel) rfl ?_
        obtain ⟨c18, h⟩ := chkA_some h
        refine yo_iald 128 70000 (by decide) rfl c18 (ov_at rfl) (show decode cX12_findBest 271 = .ok (.iaload, 1) by decide +kernel) ?_
        cases h
        exact y_iret (show decode cX12_findBest 272 = .ok (.ireturn, 1) by decide +kernel) rfl
      · rw [if_neg c15] at h
        refine y_if_le_f (show decode cX12_findBest 102 = .ok (.ifCond .le 161, 3) by decide +kernel) c15 (by decide) ?_
        refine y_iconst (show decode cX12_findBest 105 = .ok (.iconst 0, 1) by decide +kernel) rfl ?_
        refine y_istore_n (show decode cX12_findBest 106 = .ok (.istore_n 3, 1) by decide +kernel) rfl (L1 := [(3, .inl 0), (0, .inr (.inr (92 + 1))), (2, .inl x12)]) rfl ?_
        refine y_pick [1, 2, 0] rfl ?_
        refine loopS2_ind (P := fun x19 x20 σ21 => Y E MX12_findBest (yRm 4 0 0) (yQf E (150 + 0) 0 0 (some (.inl ρ)) (ov τ)) 107 [(0, .inr (.inr (92 + 1))), (2, .inl x19), (3, .inl x20)] [] (ov σ21) 150 0 0) (fun k22 hk22 x19 x20 σ21 h => ?_) _ _ _ _  h
        refine y_iload_n (show decode cX12_findBest 107 = .ok (.iload_n 3, 1) by decide +kernel) 2 rfl ?_
        refine y_aload_n (show decode cX12_findBest 108 = .ok (.aload_n 0, 1) by decide +kernel) 0 rfl ?_
        obtain ⟨r24, e23, h⟩ := bndO_some h
        refine y_callV (np := 0) (st := [.inl x20]) (as := []) 92 12 (sh_mo_stateMany e23) q8_57 q8_54 q8_56 qs6_12 q1_15 (by decide) rfl (by decide) rfl (by decide) (by decide +kernel) (by decide) rfl (Nat.le_of_ble_eq_true rfl) (show decode cX12_findBest 109 = .ok (.invokevirtual 474, 3) by decide +kernel) rfl ?_
        by_cases c25 : x20 ≥ r24
        · rw [if_pos c25] at h
          refine y_icmp_ge_t (tgt := 200) (show decode cX12_findBest 112 = .ok (.if_icmp .ge 88, 3) by decide +kernel) rfl c25 ?_
          refine y_iconst (show decode cX12_findBest 200 = .ok (.iconst 0, 1) by decide +kernel) rfl ?_
          refine y_istore_n (show decode cX12_findBest 201 = .ok (.istore_n 3, 1) by decide +kernel) rfl (L1 := [(3, .inl 0), (0, .inr (.inr (92 + 1))), (2, .inl x19)]) rfl ?_
          refine y_pick [1, 2, 0] rfl ?_
          refine loopS2_ind (P := fun x26 x27 σ28 => Y E MX12_findBest (yRm 4 0 0) (yQf E (150 + 0) 0 0 (some (.inl ρ)) (ov τ)) 202 [(0, .inr (.inr (92 + 1))), (2, .inl x26), (3, .inl x27)] [] (ov σ28) 150 0 0) (fun k29 hk29 x26 x27 σ28 h => ?_) _ _ _ _  h
          refine y_iload_n (show decode cX12_findBest 202 = .ok (.iload_n 3, 1) by decide +kernel) 2 rfl ?_
          refine y_aload_n (show decode cX12_findBest 203 = .ok (.aload_n 0, 1) by decide +kernel) 0 rfl ?_
          obtain ⟨r31, e30, h⟩ := bndO_some h
          refine y_callV (np := 0) (st := [.inl x27]) (as := []) 92 12 (sh_mo_personMany e30) q6_42 q6_39 q6_41 qs4_1 q1_15 (by decide) rfl (by decide) rfl (by decide) (by decide +kernel) (by decide) rfl (Nat.le_of_ble_eq_true rfl) (show decode cX12_findBest 204 = .ok (.invokevirtual 418, 3) by decide +kernel) rfl ?_
          by_cases c32 : x27 ≥ r31
          · rw [if_pos c32] at h
            refine y_icmp_ge_t (tgt := 221) (show decode cX12_findBest 207 = .ok (.if_icmp .ge 14, 3) by decide +kernel) rfl c32 ?_
            refine y_iconst (show decode cX12_findBest 221 = .ok (.iconst 0, 1) by decide +kernel) rfl ?_
            refine y_istore_n (show decode cX12_findBest 222 = .ok (.istore_n 3, 1) by decide +kernel) rfl (L1 := [(3, .inl 0), (0, .inr (.inr (92 + 1))), (2, .inl x26)]) rfl ?_
            refine y_pick [1, 2, 0] rfl ?_
            refine loopS2_ind (P := fun x33 x34 σ35 => Y E MX12_findBest (yRm 4 0 0) (yQf E (150 + 0) 0 0 (some (.inl ρ)) (ov τ)) 223 [(0, .inr (.inr (92 + 1))), (2, .inl x33), (3, .inl x34)] [] (ov σ35) 150 0 0) (fun k36 hk36 x33 x34 σ35 h => ?_) _ _ _ _  h
            refine y_iload_n (show decode cX12_findBest 223 = .ok (.iload_n 3, 1) by decide +kernel) 2 rfl ?_
            refine y_aload_n (show decode cX12_findBest 224 = .ok (.aload_n 0, 1) by decide +kernel) 0 rfl ?_
            obtain ⟨r38, e37, h⟩ := bndO_some h
            refine y_callV (np := 0) (st := [.inl x34]) (as := []) 92 12 (sh_mo_stateMany e37) q8_57 q8_54 q8_56 qs6_12 q1_15 (by decide) rfl (by decide) rfl (by decide) (by decide +kernel) (by decide) rfl (Nat.le_of_ble_eq_true rfl) (show decode cX12_findBest 225 = .ok (.invokevirtual 474, 3) by decide +kernel) rfl ?_
            by_cases c39 : x34 ≥ r38
            · rw [if_pos c39] at h
              refine y_icmp_ge_t (tgt := 257) (show decode cX12_findBest 228 = .ok (.if_icmp .ge 29, 3) by decide +kernel) rfl c39 ?_
              obtain ⟨c40, h⟩ := chkI_some h
              refine y_iinc (show decode cX12_findBest 257 = .ok (.iinc 2 (-1), 3) by decide +kernel) 1 rfl c40 rfl (L1 := [(2, .inl (x33 + (-1))), (0, .inr (.inr (92 + 1))), (3, .inl x34)]) rfl ?_
              refine y_goto (tgt := 101) (show decode cX12_findBest 260 = .ok (.goto (-159), 3) by decide +kernel) rfl ?_
              refine y_pick [1, 0] rfl ?_
              exact hk14 _ _ h
            · rw [if_neg c39] at h
              refine y_icmp_ge_f (show decode cX12_findBest 228 = .ok (.if_icmp .ge 29, 3) by decide +kernel) c39 (by decide) ?_
              refine y_aload_n (show decode cX12_findBest 231 = .ok (.aload_n 0, 1) by decide +kernel) 0 rfl ?_
              refine y_getf 92 12 58 123 (by decide) rfl (by decide) (by decide) q6_105 (show decode cX12_findBest 232 = .ok (.getfield 123, 3) by decide +kernel) (v := .inr (.inr (128 + 1))) rfl ?_
              refine y_sipush (show decode cX12_findBest 235 = .ok (.sipush 7776, 3) by decide +kernel) rfl rfl ?_
              refine y_iload_n (show decode cX12_findBest 238 = .ok (.iload_n 2, 1) by decide +kernel) 1 rfl ?_
              refine y_iconst (show decode cX12_findBest 239 = .ok (.iconst 1, 1) by decide +kernel) rfl ?_
              obtain ⟨c41, h⟩ := chkI_some h
              refine y_isub (show decode cX12_findBest 240 = .ok (.isub, 1) by decide +kernel) c41 ?_
              obtain ⟨c42, h⟩ := chkI_some h
              refine y_imul (show decode cX12_findBest 241 = .ok (.imul, 1) by decide +kernel) c42 ?_
              refine y_iload_n (show decode cX12_findBest 242 = .ok (.iload_n 3, 1) by decide +kernel) 2 rfl ?_
              obtain ⟨c43, h⟩ := chkI_some h
              refine y_iadd (show decode cX12_findBest 243 = .ok (.iadd, 1) by decide +kernel) c43 ?_
              refine y_aload_n (show decode cX12_findBest 244 = .ok (.aload_n 0, 1) by decide +kernel) 0 rfl ?_
              refine y_getf 92 12 59 126 (by decide) rfl (by decide) (by decide) q6_106 (show decode cX12_findBest 245 = .ok (.getfield 126, 3) by decide +kernel) (v := .inr (.inr (129 + 1))) rfl ?_
              refine y_iload_n (show decode cX12_findBest 248 = .ok (.iload_n 3, 1) by decide +kernel) 2 rfl ?_
              obtain ⟨c44, h⟩ := chkA_some h
              refine yo_iald 129 7776 (by decide) rfl c44 (ov_at rfl) (show decode cX12_findBest 249 = .ok (.iaload, 1) by decide +kernel) ?_
              obtain ⟨c45, h⟩ := chkA_some h
              obtain ⟨σ46, e47, h⟩ := bnd_i h
              refine yo_iast 128 70000 (by decide) rfl c45 (ov_set1 e47 rfl) (show decode cX12_findBest 250 = .ok (.iastore, 1) by decide +kernel) ?_
              obtain ⟨c48, h⟩ := chkI_some h
              refine y_iinc (show decode cX12_findBest 251 = .ok (.iinc 3 1, 3) by decide +kernel) 2 rfl c48 rfl (L1 := [(3, .inl (x34 + 1)), (0, .inr (.inr (92 + 1))), (2, .inl x33)]) rfl ?_
              refine y_goto (tgt := 223) (show decode cX12_findBest 254 = .ok (.goto (-31), 3) by decide +kernel) rfl ?_
              refine y_pick [1, 2, 0] rfl ?_
              exact hk36 _ _ _ h
          · rw [if_neg c32] at h
            refine y_icmp_ge_f (show decode cX12_findBest 207 = .ok (.if_icmp .ge 14, 3) by decide +kernel) c32 (by decide) ?_
            refine y_aload_n (show decode cX12_findBest 210 = .ok (.aload_n 0, 1) by decide +kernel) 0 rfl ?_
            refine y_iload_n (show decode cX12_findBest 211 = .ok (.iload_n 3, 1) by decide +kernel) 2 rfl ?_
            obtain ⟨σ50, e49, h⟩ := bndO_some h
            refine y_callV (np := 1) (st := []) (as := [.inl x27]) 92 12 (sh_mo_stepBack e49) q8_89 q8_86 q8_88 qs7_4 q1_15 (by decide) rfl (by decide) rfl (by decide) (by decide +kernel) (by decide) rfl (Nat.le_of_ble_eq_true rfl) (show decode cX12_findBest 212 = .ok (.invokevirtual 490, 3) by decide +kernel) rfl ?_
            obtain ⟨c51, h⟩ := chkI_some h
            refine y_iinc (show decode cX12_findBest 215 = .ok (.iinc 3 1, 3) by decide +kernel) 2 rfl c51 rfl (L1 := [(3, .inl (x27 + 1)), (0, .inr (.inr (92 + 1))), (2, .inl x26)]) rfl ?_
            refine y_goto (tgt := 202) (show decode cX12_findBest 218 = .ok (.goto (-16), 3) by decide +kernel) rfl ?_
            refine y_pick [1, 2, 0] rfl ?_
            exact hk29 _ _ _ h
        · rw [if_neg c25] at h
          refine y_icmp_ge_f (show decode cX12_findBest 112 = .ok (.if_icmp .ge 88, 3) by decide +kernel) c25 (by decide) ?_
          refine y_aload_n (show decode cX12_findBest 115 = .ok (.aload_n 0, 1) by decide +kernel) 0 rfl ?_
          refine y_iload_n (show decode cX12_findBest 116 = .ok (.iload_n 3, 1) by decide +kernel) 2 rfl ?_
          obtain ⟨σ53, e52, h⟩ := bndO_some h
          refine y_callV (np := 1) (st := []) (as := [.inl x20]) 92 12 (sh_mo_layState e52) q8_65 q8_62 q8_64 qs6_14 q1_15 (by decide) rfl (by decide) rfl (by decide) (by decide +kernel) (by decide) rfl (Nat.le_of_ble_eq_true rfl) (show decode cX12_findBest 117 = .ok (.invokevirtual 480, 3) by decide +kernel) rfl ?_
          refine y_aload_n (show decode cX12_findBest 120 = .ok (.aload_n 0, 1) by decide +kernel) 0 rfl ?_
          refine y_iload_n (show decode cX12_findBest 121 = .ok (.iload_n 2, 1) by decide +kernel) 1 rfl ?_
          obtain ⟨r55, e54, h⟩ := bndO_some h
          refine y_callV (np := 1) (st := []) (as := [.inl x19]) 92 12 (sh_mo_isLawful e54) q8_69 q8_66 q8_68 qs6_15 q1_15 (by decide) rfl (by decide) rfl (by decide) (by decide +kernel) (by decide) rfl (Nat.le_of_ble_eq_true rfl) (show decode cX12_findBest 122 = .ok (.invokevirtual 484, 3) by decide +kernel) rfl ?_
          refine bnd_j (Q := fun j57 => ∀ (y56 : Int), j57 y56 = some (ρ, τ) → Y E MX12_findBest (yRm 4 0 0) (yQf E (150 + 0) 0 0 (some (.inl ρ)) (ov τ)) 139 [(0, .inr (.inr (92 + 1))), (2, .inl x19), (3, .inl x20)] [.inl y56] (ov σ53) 150 0 0) (fun y56 h => ?_) (fun j57 hj57 h => ?_) h
          · dsimp only at h
            refine y_istore (show decode cX12_findBest 139 = .ok (.istore 4, 2) by decide +kernel) rfl (L1 := [(4, .inl y56), (0, .inr (.inr (92 + 1))), (2, .inl x19), (3, .inl x20)]) rfl ?_
            refine y_aload_n (show decode cX12_findBest 141 = .ok (.aload_n 0, 1) by decide +kernel) 1 rfl ?_
            refine y_getf 92 12 59 126 (by decide) rfl (by decide) (by decide) q6_106 (show decode cX12_findBest 142 = .ok (.getfield 126, 3) by decide +kernel) (v := .inr (.inr (129 + 1))) rfl ?_
            refine y_iload_n (show decode cX12_findBest 145 = .ok (.iload_n 3, 1) by decide +kernel) 3 rfl ?_
            refine y_iload (show decode cX12_findBest 146 = .ok (.iload 4, 2) by decide +kernel) 0 rfl ?_
            refine y_ldcw (k := -1000000) (show decode cX12_findBest 148 = .ok (.ldc_w 470, 3) by decide +kernel) q8_49 rfl rfl ?_
            refine bnd_j (Q := fun j59 => ∀ (y58 : Int), j59 y58 = some (ρ, τ) → Y E MX12_findBest (yRm 4 0 0) (yQf E (150 + 0) 0 0 (some (.inl ρ)) (ov τ)) 193 [(0, .inr (.inr (92 + 1))), (2, .inl x19), (3, .inl x20)] [.inl y58, .inl x20, .inr (.inr (129 + 1))] (ov σ53) 150 0 0) (fun y58 h => ?_) (fun j59 hj59 h => ?_) h
            · dsimp only at h
              obtain ⟨c60, h⟩ := chkA_some h
              obtain ⟨σ61, e62, h⟩ := bnd_i h
              refine yo_iast 129 7776 (by decide) rfl c60 (ov_set1 e62 rfl) (show decode cX12_findBest 193 = .ok (.iastore, 1) by decide +kernel) ?_
              obtain ⟨c63, h⟩ := chkI_some h
              refine y_iinc (show decode cX12_findBest 194 = .ok (.iinc 3 1, 3) by decide +kernel) 2 rfl c63 rfl (L1 := [(3, .inl (x20 + 1)), (0, .inr (.inr (92 + 1))), (2, .inl x19)]) rfl ?_
              refine y_goto (tgt := 107) (show decode cX12_findBest 197 = .ok (.goto (-90), 3) by decide +kernel) rfl ?_
              refine y_pick [1, 2, 0] rfl ?_
              exact hk22 _ _ _ h
            refine bnd_j (Q := fun j64 => j64 = some (ρ, τ) → Y E MX12_findBest (yRm 4 0 0) (yQf E (150 + 0) 0 0 (some (.inl ρ)) (ov τ)) 172 [(0, .inr (.inr (92 + 1))), (2, .inl x19), (3, .inl x20)] [.inl x20, .inr (.inr (129 + 1))] (ov σ53) 150 0 0) (fun h => ?_) (fun j64 hj64 h => ?_) h
            · refine y_ldcw (k := -1000000) (show decode cX12_findBest 172 = .ok (.ldc_w 470, 3) by decide +kernel) q8_49 rfl rfl ?_
              refine y_goto (tgt := 193) (show decode cX12_findBest 175 = .ok (.goto 18, 3) by decide +kernel) rfl ?_
              refine y_pick [0, 1, 2] rfl ?_
              exact hj59 _ h
            by_cases c65 : y56 = (-1000000)
            · rw [if_pos c65] at h
              refine y_icmp_eq_t (tgt := 172) (show decode cX12_findBest 151 = .ok (.if_icmp .eq 21, 3) by decide +kernel) rfl c65 ?_
              refine y_pick [1, 2, 3] rfl ?_
              exact hj64 h
            · rw [if_neg c65] at h
              refine y_icmp_eq_f (show decode cX12_findBest 151 = .ok (.if_icmp .eq 21, 3) by decide +kernel) c65 (by decide) ?_
              refine y_aload_n (show decode cX12_findBest 154 = .ok (.aload_n 0, 1) by decide +kernel) 1 rfl ?_
              refine y_getf 92 12 58 123 (by decide) rfl (by decide) (by decide) q6_105 (show decode cX12_findBest 155 = .ok (.getfield 123, 3) by decide +kernel) (v := .inr (.inr (128 + 1))) rfl ?_
              refine y_sipush (show decode cX12_findBest 158 = .ok (.sipush 7776, 3) by decide +kernel) rfl rfl ?_
              refine y_iload_n (show decode cX12_findBest 161 = .ok (.iload_n 2, 1) by decide +kernel) 2 rfl ?_
              obtain ⟨c66, h⟩ := chkI_some h
              refine y_imul (show decode cX12_findBest 162 = .ok (.imul, 1) by decide +kernel) c66 ?_
              refine y_iload_n (show decode cX12_findBest 163 = .ok (.iload_n 3, 1) by decide +kernel) 3 rfl ?_
              obtain ⟨c67, h⟩ := chkI_some h
              refine y_iadd (show decode cX12_findBest 164 = .ok (.iadd, 1) by decide +kernel) c67 ?_
              obtain ⟨c68, h⟩ := chkA_some h
              refine yo_iald 128 70000 (by decide) rfl c68 (ov_at rfl) (show decode cX12_findBest 165 = .ok (.iaload, 1) by decide +kernel) ?_
              refine y_ldcw (k := -1000000) (show decode cX12_findBest 166 = .ok (.ldc_w 470, 3) by decide +kernel) q8_49 rfl rfl ?_
              by_cases c69 : ¬ (σ53 128 (((7776 * x19) + x20)).toNat) = (-1000000)
              · rw [if_pos c69] at h
                refine y_icmp_ne_t (tgt := 178) (show decode cX12_findBest 169 = .ok (.if_icmp .ne 9, 3) by decide +kernel) rfl c69 ?_
                refine y_iload (show decode cX12_findBest 178 = .ok (.iload 4, 2) by decide +kernel) 0 rfl ?_
                refine y_aload_n (show decode cX12_findBest 180 = .ok (.aload_n 0, 1) by decide +kernel) 1 rfl ?_
                refine y_getf 92 12 58 123 (by decide) rfl (by decide) (by decide) q6_105 (show decode cX12_findBest 181 = .ok (.getfield 123, 3) by decide +kernel) (v := .inr (.inr (128 + 1))) rfl ?_
                refine y_sipush (show decode cX12_findBest 184 = .ok (.sipush 7776, 3) by decide +kernel) rfl rfl ?_
                refine y_iload_n (show decode cX12_findBest 187 = .ok (.iload_n 2, 1) by decide +kernel) 2 rfl ?_
                obtain ⟨c70, h⟩ := chkI_some h
                refine y_imul (show decode cX12_findBest 188 = .ok (.imul, 1) by decide +kernel) c70 ?_
                refine y_iload_n (show decode cX12_findBest 189 = .ok (.iload_n 3, 1) by decide +kernel) 3 rfl ?_
                obtain ⟨c71, h⟩ := chkI_some h
                refine y_iadd (show decode cX12_findBest 190 = .ok (.iadd, 1) by decide +kernel) c71 ?_
                obtain ⟨c72, h⟩ := chkA_some h
                refine yo_iald 128 70000 (by decide) rfl c72 (ov_at rfl) (show decode cX12_findBest 191 = .ok (.iaload, 1) by decide +kernel) ?_
                obtain ⟨c73, h⟩ := chkI_some h
                refine y_iadd (show decode cX12_findBest 192 = .ok (.iadd, 1) by decide +kernel) c73 ?_
                refine y_pick [1, 2, 3] rfl ?_
                exact hj59 _ h
              · rw [if_neg c69] at h
                refine y_icmp_ne_f (show decode cX12_findBest 169 = .ok (.if_icmp .ne 9, 3) by decide +kernel) c69 (by decide) ?_
                refine y_pick [1, 2, 3] rfl ?_
                exact hj64 h
          by_cases c74 : r55 = 0
          · rw [if_pos c74] at h
            refine y_if_eq_t (tgt := 136) (show decode cX12_findBest 125 = .ok (.ifCond .eq 11, 3) by decide +kernel) rfl c74 ?_
            refine y_ldcw (k := -1000000) (show decode cX12_findBest 136 = .ok (.ldc_w 470, 3) by decide +kernel) q8_49 rfl rfl ?_
            refine y_pick [0, 1, 2] rfl ?_
            exact hj57 _ h
          · rw [if_neg c74] at h
            refine y_if_eq_f (show decode cX12_findBest 125 = .ok (.ifCond .eq 11, 3) by decide +kernel) c74 (by decide) ?_
            refine y_aload_n (show decode cX12_findBest 128 = .ok (.aload_n 0, 1) by decide +kernel) 0 rfl ?_
            refine y_iload_n (show decode cX12_findBest 129 = .ok (.iload_n 2, 1) by decide +kernel) 1 rfl ?_
            obtain ⟨r76, e75, h⟩ := bndO_some h
            refine y_callV (np := 1) (st := []) (as := [.inl x19]) 92 12 (sh_mo_worthNow e75) q8_73 q8_70 q8_72 qs7_0 q1_15 (by decide) rfl (by decide) rfl (by decide) (by decide +kernel) (by decide) rfl (Nat.le_of_ble_eq_true rfl) (show decode cX12_findBest 130 = .ok (.invokevirtual 487, 3) by decide +kernel) rfl ?_
            refine y_goto (tgt := 139) (show decode cX12_findBest 133 = .ok (.goto 6, 3) by decide +kernel) rfl ?_
            refine y_pick [0, 1, 2] rfl ?_
            exact hj57 _ h
    · rw [if_neg c11] at h
      refine y_icmp_ge_f (show decode cX12_findBest 71 = .ok (.if_icmp .ge 25, 3) by decide +kernel) c11 (by decide) ?_
      refine y_aload_n (show decode cX12_findBest 74 = .ok (.aload_n 0, 1) by decide +kernel) 0 rfl ?_
      refine y_getf 92 12 58 123 (by decide) rfl (by decide) (by decide) q6_105 (show decode cX12_findBest 75 = .ok (.getfield 123, 3) by decide +kernel) (v := .inr (.inr (128 + 1))) rfl ?_
      refine y_sipush (show decode cX12_findBest 78 = .ok (.sipush 7776, 3) by decide +kernel) rfl rfl ?_
      refine y_aload_n (show decode cX12_findBest 81 = .ok (.aload_n 0, 1) by decide +kernel) 0 rfl ?_
      refine y_getf 92 12 48 424 (by decide) rfl (by decide) (by decide) q6_95 (show decode cX12_findBest 82 = .ok (.getfield 424, 3) by decide +kernel) (v := .inl (σ7 92 48)) rfl ?_
      obtain ⟨c77, h⟩ := chkI_some h
      refine y_imul (show decode cX12_findBest 85 = .ok (.imul, 1) by decide +kernel) c77 ?_
      refine y_iload_n (show decode cX12_findBest 86 = .ok (.iload_n 2, 1) by decide +kernel) 1 rfl ?_
      obtain ⟨c78, h⟩ := chkI_some h
      refine y_iadd (show decode cX12_findBest 87 = .ok (.iadd, 1) by decide +kernel) c78 ?_
      refine y_iconst (show decode cX12_findBest 88 = .ok (.iconst 0, 1) by decide +kernel) rfl ?_
      obtain ⟨c79, h⟩ := chkA_some h
      obtain ⟨σ80, e81, h⟩ := bnd_i h
      refine yo_iast 128 70000 (by decide) rfl c79 (ov_set1 e81 rfl) (show decode cX12_findBest 89 = .ok (.iastore, 1) by decide +kernel) ?_
      obtain ⟨c82, h⟩ := chkI_some h
      refine y_iinc (show decode cX12_findBest 90 = .ok (.iinc 2 1, 3) by decide +kernel) 1 rfl c82 rfl (L1 := [(2, .inl (x6 + 1)), (0, .inr (.inr (92 + 1)))]) rfl ?_
      refine y_goto (tgt := 66) (show decode cX12_findBest 93 = .ok (.goto (-27), 3) by decide +kernel) rfl ?_
      refine y_pick [1, 0] rfl ?_
      exact hk8 _ _ h
  by_cases c83 : a ≤ 0
  · rw [if_pos c83] at h
    refine y_if_le_t (tgt := 64) (show decode cX12_findBest 10 = .ok (.ifCond .le 54, 3) by decide +kernel) rfl c83 ?_
    refine y_pick [0] rfl ?_
    exact hj5 h
  · rw [if_neg c83] at h
    refine y_if_le_f (show decode cX12_findBest 10 = .ok (.ifCond .le 54, 3) by decide +kernel) c83 (by decide) ?_
    refine y_iconst (show decode cX12_findBest 13 = .ok (.iconst 0, 1) by decide +kernel) rfl ?_
    refine y_istore_n (show decode cX12_findBest 14 = .ok (.istore_n 2, 1) by decide +kernel) rfl (L1 := [(2, .inl 0), (0, .inr (.inr (92 + 1))), (1, .inl a)]) rfl ?_
    refine y_pick [1, 0] rfl ?_
    refine loop1_ind (P := fun x84 => Y E MX12_findBest (yRm 4 0 0) (yQf E (150 + 0) 0 0 (some (.inl ρ)) (ov τ)) 15 [(0, .inr (.inr (92 + 1))), (2, .inl x84)] [] (ov σ4) 150 0 0) (fun k85 hk85 x84 h => ?_) _ _  h
    refine y_iload_n (show decode cX12_findBest 15 = .ok (.iload_n 2, 1) by decide +kernel) 1 rfl ?_
    refine y_aload_n (show decode cX12_findBest 16 = .ok (.aload_n 0, 1) by decide +kernel) 0 rfl ?_
    refine y_getf 92 12 15 33 (by decide) rfl (by decide) (by decide) q6_62 (show decode cX12_findBest 17 = .ok (.getfield 33, 3) by decide +kernel) (v := .inr (.inr (99 + 1))) rfl ?_
    refine y_aload_n (show decode cX12_findBest 20 = .ok (.aload_n 0, 1) by decide +kernel) 0 rfl ?_
    refine y_getf 92 12 40 311 (by decide) rfl (by decide) (by decide) q6_87 (show decode cX12_findBest 21 = .ok (.getfield 311, 3) by decide +kernel) (v := .inl (σ4 92 40)) rfl ?_
    obtain ⟨c86, h⟩ := chkA_some h
    refine yo_iald 99 2 (by decide) rfl c86 (ov_at rfl) (show decode cX12_findBest 24 = .ok (.iaload, 1) by decide +kernel) ?_
    by_cases c87 : x84 ≥ (σ4 99 ((σ4 92 40)).toNat)
    · rw [if_pos c87] at h
      refine y_icmp_ge_t (tgt := 64) (show decode cX12_findBest 25 = .ok (.if_icmp .ge 39, 3) by decide +kernel) rfl c87 ?_
      refine y_pick [0] rfl ?_
      exact hj5 h
    · rw [if_neg c87] at h
      refine y_icmp_ge_f (show decode cX12_findBest 25 = .ok (.if_icmp .ge 39, 3) by decide +kernel) c87 (by decide) ?_
      refine y_aload_n (show decode cX12_findBest 28 = .ok (.aload_n 0, 1) by decide +kernel) 0 rfl ?_
      refine y_getf 92 12 32 86 (by decide) rfl (by decide) (by decide) q6_79 (show decode cX12_findBest 29 = .ok (.getfield 86, 3) by decide +kernel) (v := .inr (.inr (116 + 1))) rfl ?_
      refine y_bipush (show decode cX12_findBest 32 = .ok (.bipush 8, 2) by decide +kernel) rfl rfl ?_
      refine y_aload_n (show decode cX12_findBest 34 = .ok (.aload_n 0, 1) by decide +kernel) 0 rfl ?_
      refine y_getf 92 12 40 311 (by decide) rfl (by decide) (by decide) q6_87 (show decode cX12_findBest 35 = .ok (.getfield 311, 3) by decide +kernel) (v := .inl (σ4 92 40)) rfl ?_
      obtain ⟨c88, h⟩ := chkI_some h
      refine y_imul (show decode cX12_findBest 38 = .ok (.imul, 1) by decide +kernel) c88 ?_
      refine y_iload_n (show decode cX12_findBest 39 = .ok (.iload_n 2, 1) by decide +kernel) 1 rfl ?_
      obtain ⟨c89, h⟩ := chkI_some h
      refine y_iadd (show decode cX12_findBest 40 = .ok (.iadd, 1) by decide +kernel) c89 ?_
      obtain ⟨c90, h⟩ := chkA_some h
      refine yo_iald 116 16 (by decide) rfl c90 (ov_at rfl) (show decode cX12_findBest 41 = .ok (.iaload, 1) by decide +kernel) ?_
      refine y_aload_n (show decode cX12_findBest 42 = .ok (.aload_n 0, 1) by decide +kernel) 0 rfl ?_
      refine y_getf 92 12 49 427 (by decide) rfl (by decide) (by decide) q6_96 (show decode cX12_findBest 43 = .ok (.getfield 427, 3) by decide +kernel) (v := .inl (σ4 92 49)) rfl ?_
      obtain ⟨c91, h⟩ := chkI_some h
      refine y_imul (show decode cX12_findBest 46 = .ok (.imul, 1) by decide +kernel) c91 ?_
      refine y_aload_n (show decode cX12_findBest 47 = .ok (.aload_n 0, 1) by decide +kernel) 0 rfl ?_
      refine y_getf 92 12 48 424 (by decide) rfl (by decide) (by decide) q6_95 (show decode cX12_findBest 48 = .ok (.getfield 424, 3) by decide +kernel) (v := .inl (σ4 92 48)) rfl ?_
      by_cases c92 : ((σ4 116 (((8 * (σ4 92 40)) + x84)).toNat) * (σ4 92 49)) ≤ (σ4 92 48)
      · rw [if_pos c92] at h
        refine y_icmp_le_t (tgt := 58) (show decode cX12_findBest 51 = .ok (.if_icmp .le 7, 3) by decide +kernel) rfl c92 ?_
        obtain ⟨c93, h⟩ := chkI_some h
        refine y_iinc (show decode cX12_findBest 58 = .ok (.iinc 2 1, 3) by decide +kernel) 1 rfl c93 rfl (L1 := [(2, .inl (x84 + 1)), (0, .inr (.inr (92 + 1)))]) rfl ?_
        refine y_goto (tgt := 15) (show decode cX12_findBest 61 = .ok (.goto (-46), 3) by decide +kernel) rfl ?_
        refine y_pick [1, 0] rfl ?_
        exact hk85 _ h
      · rw [if_neg c92] at h
        refine y_icmp_le_f (show decode cX12_findBest 51 = .ok (.if_icmp .le 7, 3) by decide +kernel) c92 (by decide) ?_
        refine y_ldcw (k := -1000000) (show decode cX12_findBest 54 = .ok (.ldc_w 470, 3) by decide +kernel) q8_49 rfl rfl ?_
        cases h
        exact y_iret (show decode cX12_findBest 57 = .ok (.ireturn, 1) by decide +kernel) rfl
