abbrev MX12_about : yM := (yX12_about, cX12_about, 2, some .int)
def mo_about (a : Int) (σ : ySt) : Option (Int) :=
  if a = 0 then
    bndO (mo_placeMany σ) fun r3 =>
    some r3
  else
  if a = 1 then
    bndO (mo_personMany σ) fun r6 =>
    some r6
  else
  if a = 2 then
    chkA 2 (σ 92 40) <|
    some (σ 98 ((σ 92 40)).toNat)
  else
  if a = 3 then
    chkA 2 (σ 92 40) <|
    some (σ 99 ((σ 92 40)).toNat)
  else
  if a = 4 then
    chkA 2 (σ 92 40) <|
    some (σ 96 ((σ 92 40)).toNat)
  else
  if a = 5 then
    some (σ 92 81)
  else
  if a = 6 then
    some (σ 92 82)
  else
  if a = 7 then
    some (σ 92 2)
  else
  if a = 8 then
    some (σ 92 73)
  else
  if a = 9 then
    some (σ 92 74)
  else
  if a = 10 then
    chkA 2 (σ 92 40) <|
    some (σ 102 ((σ 92 40)).toNat)
  else
  if a = 11 then
    chkA 2 (σ 92 40) <|
    some (σ 100 ((σ 92 40)).toNat)
  else
  if a = 12 then
    chkA 2 (σ 92 40) <|
    some (σ 101 ((σ 92 40)).toNat)
  else
  some (-1)
set_option maxHeartbeats 4000000 in
set_option maxRecDepth 10000 in
theorem sh_mo_about {E : yE} {a : Int} {σ : ySt} {ρ : Int} (h : mo_about a σ = some ρ) : Con E MX12_about 1 0 0 [.inr (.inr (92 + 1)), .inl a] 150 (ov σ) (some (.inl ρ)) (ov σ) := by
  unfold mo_about at h
  refine Con.ofY (by decide +kernel) (by simp [yWords, yCat]) (fun hok _ => ?_)
  show Y E MX12_about (yRm 1 0 0) (yQf E (150 + 0) 0 0 (some (.inl ρ)) (ov σ)) 0 [(0, .inr (.inr (92 + 1))), (1, .inl a)] [] (ov σ) 150 0 0
  refine y_iload_n (show decode cX12_about 0 = .ok (.iload_n 1, 1) by decide +kernel) 1 rfl ?_
  by_cases c1 : a = 0
  · rw [if_pos c1] at h
    refine y_tableIn (off := 67) (tgt := 68) (show decode cX12_about 1 = .ok (.tableswitch 162 0 12 #[67, 72, 77, 87, 97, 107, 112, 117, 122, 127, 132, 142, 152], 67) by decide +kernel) (by omega) (by omega) (by rw [c1]; rfl) rfl ?_
    refine y_aload_n (show decode cX12_about 68 = .ok (.aload_n 0, 1) by decide +kernel) 0 rfl ?_
    obtain ⟨r3, e2, h⟩ := bndO_some h
    refine y_callV (np := 0) (st := []) (as := []) 92 12 (sh_mo_placeMany e2) q8_15 q8_12 q8_14 qs6_6 q1_15 (by decide) rfl (by decide) rfl (by decide) (by decide +kernel) (by decide) rfl (Nat.le_of_ble_eq_true rfl) (show decode cX12_about 69 = .ok (.invokevirtual 411, 3) by decide +kernel) rfl ?_
    cases h
    exact y_iret (show decode cX12_about 72 = .ok (.ireturn, 1) by decide +kernel) rfl
  rw [if_neg c1] at h
  by_cases c4 : a = 1
  · rw [if_pos c4] at h
    refine y_tableIn (off := 72) (tgt := 73) (show decode cX12_about 1 = .ok (.tableswitch 162 0 12 #[67, 72, 77, 87, 97, 107, 112, 117, 122, 127, 132, 142, 152], 67) by decide +kernel) (by omega) (by omega) (by rw [c4]; rfl) rfl ?_
    refine y_aload_n (show decode cX12_about 73 = .ok (.aload_n 0, 1) by decide +kernel) 0 rfl ?_
    obtain ⟨r6, e5, h⟩ := bndO_some h
    refine y_callV (np := 0) (st := []) (as := []) 92 12 (sh_mo_personMany e5) q6_42 q6_39 q6_41 qs4_1 q1_15 (by decide) rfl (by decide) rfl (by decide) (by decide +kernel) (by decide) rfl (Nat.le_of_ble_eq_true rfl) (show decode cX12_about 74 = .ok (.invokevirtual 418, 3) by decide +kernel) rfl ?_
    cases h
    exact y_iret (show decode cX12_about 77 = .ok (.ireturn, 1) by decide +kernel) rfl
  rw [if_neg c4] at h
  by_cases c7 : a = 2
  · rw [if_pos c7] at h
    refine y_tableIn (off := 77) (tgt := 78) (show decode cX12_about 1 = .ok (.tableswitch 162 0 12 #[67, 72, 77, 87, 97, 107, 112, 117, 122, 127, 132, 142, 152], 67) by decide +kernel) (by omega) (by omega) (by rw [c7]; rfl) rfl ?_
    refine y_aload_n (show decode cX12_about 78 = .ok (.aload_n 0, 1) by decide +kernel) 0 rfl ?_
    refine y_getf 92 12 14 30 (by decide) rfl (by decide) (by decide) q6_61 (show decode cX12_about 79 = .ok (.getfield 30, 3) by decide +kernel) (v := .inr (.inr (98 + 1))) rfl ?_
    refine y_aload_n (show decode cX12_about 82 = .ok (.aload_n 0, 1) by decide +kernel) 0 rfl ?_
    refine y_getf 92 12 40 311 (by decide) rfl (by decide) (by decide) q6_87 (show decode cX12_about 83 = .ok (.getfield 311, 3) by decide +kernel) (v := .inl (σ 92 40)) rfl ?_
    obtain ⟨c8, h⟩ := chkA_some h
    refine yo_iald 98 2 (by decide) rfl c8 (ov_at rfl) (show decode cX12_about 86 = .ok (.iaload, 1) by decide +kernel) ?_
    cases h
    exact y_iret (show decode cX12_about 87 = .ok (.ireturn, 1) by decide +kernel) rfl
  rw [if_neg c7] at h
  by_cases c9 : a = 3
  · rw [if_pos c9] at h
    refine y_tableIn (off := 87) (tgt := 88) (show decode cX12_about 1 = .ok (.tableswitch 162 0 12 #[67, 72, 77, 87, 97, 107, 112, 117, 122, 127, 132, 142, 152], 67) by decide +kernel) (by omega) (by omega) (by rw [c9]; rfl) rfl ?_
    refine y_aload_n (show decode cX12_about 88 = .ok (.aload_n 0, 1) by decide +kernel) 0 rfl ?_
    refine y_getf 92 12 15 33 (by decide) rfl (by decide) (by decide) q6_62 (show decode cX12_about 89 = .ok (.getfield 33, 3) by decide +kernel) (v := .inr (.inr (99 + 1))) rfl ?_
    refine y_aload_n (show decode cX12_about 92 = .ok (.aload_n 0, 1) by decide +kernel) 0 rfl ?_
    refine y_getf 92 12 40 311 (by decide) rfl (by decide) (by decide) q6_87 (show decode cX12_about 93 = .ok (.getfield 311, 3) by decide +kernel) (v := .inl (σ 92 40)) rfl ?_
    obtain ⟨c10, h⟩ := chkA_some h
    refine yo_iald 99 2 (by decide) rfl c10 (ov_at rfl) (show decode cX12_about 96 = .ok (.iaload, 1) by decide +kernel) ?_
    cases h
    exact y_iret (show decode cX12_about 97 = .ok (.ireturn, 1) by decide +kernel) rfl
  rw [if_neg c9] at h
  by_cases c11 : a = 4
  · rw [if_pos c11] at h
    refine y_tableIn (off := 97) (tgt := 98) (show decode cX12_about 1 = .ok (.tableswitch 162 0 12 #[67, 72, 77, 87, 97, 107, 112, 117, 122, 127, 132, 142, 152], 67) by decide +kernel) (by omega) (by omega) (by rw [c11]; rfl) rfl ?_
    refine y_aload_n (show decode cX12_about 98 = .ok (.aload_n 0, 1) by decide +kernel) 0 rfl ?_
    refine y_getf 92 12 12 24 (by decide) rfl (by decide) (by decide) q6_59 (show decode cX12_about 99 = .ok (.getfield 24, 3) by decide +kernel) (v := .inr (.inr (96 + 1))) rfl ?_
    refine y_aload_n (show decode cX12_about 102 = .ok (.aload_n 0, 1) by decide +kernel) 0 rfl ?_
    refine y_getf 92 12 40 311 (by decide) rfl (by decide) (by decide) q6_87 (show decode cX12_about 103 = .ok (.getfield 311, 3) by decide +kernel) (v := .inl (σ 92 40)) rfl ?_
    obtain ⟨c12, h⟩ := chkA_some h
    refine yo_iald 96 2 (by decide) rfl c12 (ov_at rfl) (show decode cX12_about 106 = .ok (.iaload, 1) by decide +kernel) ?_
    cases h
    exact y_iret (show decode cX12_about 107 = .ok (.ireturn, 1) by decide +kernel) rfl
  rw [if_neg c11] at h
  by_cases c13 : a = 5
  · rw [if_pos c13] at h
    refine y_tableIn (off := 107) (tgt := 108) (show decode cX12_about 1 = .ok (.tableswitch 162 0 12 #[67, 72, 77, 87, 97, 107, 112, 117, 122, 127, 132, 142, 152], 67) by decide +kernel) (by omega) (by omega) (by rw [c13]; rfl) rfl ?_
    refine y_aload_n (show decode cX12_about 108 = .ok (.aload_n 0, 1) by decide +kernel) 0 rfl ?_
    refine y_getf 92 12 81 317 (by decide) rfl (by decide) (by decide) q6_128 (show decode cX12_about 109 = .ok (.getfield 317, 3) by decide +kernel) (v := .inl (σ 92 81)) rfl ?_
    cases h
    exact y_iret (show decode cX12_about 112 = .ok (.ireturn, 1) by decide +kernel) rfl
  rw [if_neg c13] at h
  by_cases c14 : a = 6
  · rw [if_pos c14] at h
    refine y_tableIn (off := 112) (tgt := 113) (show decode cX12_about 1 = .ok (.tableswitch 162 0 12 #[67, 72, 77, 87, 97, 107, 112, 117, 122, 127, 132, 142, 152], 67) by decide +kernel) (by omega) (by omega) (by rw [c14]; rfl) rfl ?_
    refine y_aload_n (show decode cX12_about 113 = .ok (.aload_n 0, 1) by decide +kernel) 0 rfl ?_
    refine y_getf 92 12 82 561 (by decide) rfl (by decide) (by decide) q6_129 (show decode cX12_about 114 = .ok (.getfield 561, 3) by decide +kernel) (v := .inl (σ 92 82)) rfl ?_
    cases h
    exact y_iret (show decode cX12_about 117 = .ok (.ireturn, 1) by decide +kernel) rfl
  rw [if_neg c14] at h
  by_cases c15 : a = 7
  · rw [if_pos c15] at h
    refine y_tableIn (off := 117) (tgt := 118) (show decode cX12_about 1 = .ok (.tableswitch 162 0 12 #[67, 72, 77, 87, 97, 107, 112, 117, 122, 127, 132, 142, 152], 67) by decide +kernel) (by omega) (by omega) (by rw [c15]; rfl) rfl ?_
    refine y_aload_n (show decode cX12_about 118 = .ok (.aload_n 0, 1) by decide +kernel) 0 rfl ?_
    refine y_getf 92 12 2 298 (by decide) rfl (by decide) (by decide) q6_49 (show decode cX12_about 119 = .ok (.getfield 298, 3) by decide +kernel) (v := .inl (σ 92 2)) rfl ?_
    cases h
    exact y_iret (show decode cX12_about 122 = .ok (.ireturn, 1) by decide +kernel) rfl
  rw [if_neg c15] at h
  by_cases c16 : a = 8
  · rw [if_pos c16] at h
    refine y_tableIn (off := 122) (tgt := 123) (show decode cX12_about 1 = .ok (.tableswitch 162 0 12 #[67, 72, 77, 87, 97, 107, 112, 117, 122, 127, 132, 142, 152], 67) by decide +kernel) (by omega) (by omega) (by rw [c16]; rfl) rfl ?_
    refine y_aload_n (show decode cX12_about 123 = .ok (.aload_n 0, 1) by decide +kernel) 0 rfl ?_
    refine y_getf 92 12 73 552 (by decide) rfl (by decide) (by decide) q6_120 (show decode cX12_about 124 = .ok (.getfield 552, 3) by decide +kernel) (v := .inl (σ 92 73)) rfl ?_
    cases h
    exact y_iret (show decode cX12_about 127 = .ok (.ireturn, 1) by decide +kernel) rfl
  rw [if_neg c16] at h
  by_cases c17 : a = 9
  · rw [if_pos c17] at h
    refine y_tableIn (off := 127) (tgt := 128) (show decode cX12_about 1 = .ok (.tableswitch 162 0 12 #[67, 72, 77, 87, 97, 107, 112, 117, 122, 127, 132, 142, 152], 67) by decide +kernel) (by omega) (by omega) (by rw [c17]; rfl) rfl ?_
    refine y_aload_n (show decode cX12_about 128 = .ok (.aload_n 0, 1) by decide +kernel) 0 rfl ?_
    refine y_getf 92 12 74 555 (by decide) rfl (by decide) (by decide) q6_121 (show decode cX12_about 129 = .ok (.getfield 555, 3) by decide +kernel) (v := .inl (σ 92 74)) rfl ?_
    cases h
    exact y_iret (show decode cX12_about 132 = .ok (.ireturn, 1) by decide +kernel) rfl
  rw [if_neg c17] at h
  by_cases c18 : a = 10
  · rw [if_pos c18] at h
    refine y_tableIn (off := 132) (tgt := 133) (show decode cX12_about 1 = .ok (.tableswitch 162 0 12 #[67, 72, 77, 87, 97, 107, 112, 117, 122, 127, 132, 142, 152], 67) by decide +kernel) (by omega) (by omega) (by rw [c18]; rfl) rfl ?_
    refine y_aload_n (show decode cX12_about 133 = .ok (.aload_n 0, 1) by decide +kernel) 0 rfl ?_
    refine y_getf 92 12 18 42 (by decide) rfl (by decide) (by decide) q6_65 (show decode cX12_about 134 = .ok (.getfield 42, 3) by decide +kernel) (v := .inr (.inr (102 + 1))) rfl ?_
    refine y_aload_n (show decode cX12_about 137 = .ok (.aload_n 0, 1) by decide +kernel) 0 rfl ?_
    refine y_getf 92 12 40 311 (by decide) rfl (by decide) (by decide) q6_87 (show decode cX12_about 138 = .ok (.getfield 311, 3) by decide +kernel) (v := .inl (σ 92 40)) rfl ?_
    obtain ⟨c19, h⟩ := chkA_some h
    refine yo_iald 102 2 (by decide) rfl c19 (ov_at rfl) (show decode cX12_about 141 = .ok (.iaload, 1) by decide +kernel) ?_
    cases h
    exact y_iret (show decode cX12_about 142 = .ok (.ireturn, 1) by decide +kernel) rfl
  rw [if_neg c18] at h
  by_cases c20 : a = 11
  · rw [if_pos c20] at h
    refine y_tableIn (off := 142) (tgt := 143) (show decode cX12_about 1 = .ok (.tableswitch 162 0 12 #[67, 72, 77, 87, 97, 107, 112, 117, 122, 127, 132, 142, 152], 67) by decide +kernel) (by omega) (by omega) (by rw [c20]; rfl) rfl ?_
    refine y_aload_n (show decode cX12_about 143 = .ok (.aload_n 0, 1) by decide +kernel) 0 rfl ?_
    refine y_getf 92 12 16 36 (by decide) rfl (by decide) (by decide) q6_63 (show decode cX12_about 144 = .ok (.getfield 36, 3) by decide +kernel) (v := .inr (.inr (100 + 1))) rfl ?_
    refine y_aload_n (show decode cX12_about 147 = .ok (.aload_n 0, 1) by decide +kernel) 0 rfl ?_
    refine y_getf 92 12 40 311 (by decide) rfl (by decide) (by decide) q6_87 (show decode cX12_about 148 = .ok (.getfield 311, 3) by decide +kernel) (v := .inl (σ 92 40)) rfl ?_
    obtain ⟨c21, h⟩ := chkA_some h
    refine yo_iald 100 2 (by decide) rfl c21 (ov_at rfl) (show decode cX12_about 151 = .ok (.iaload, 1) by decide +kernel) ?_
    cases h
    exact y_iret (show decode cX12_about 152 = .ok (.ireturn, 1) by decide +kernel) rfl
  rw [if_neg c20] at h
  by_cases c22 : a = 12
  · rw [if_pos c22] at h
    refine y_tableIn (off := 152) (tgt := 153) (show decode cX12_about 1 = .ok (.tableswitch 162 0 12 #[67, 72, 77, 87, 97, 107, 112, 117, 122, 127, 132, 142, 152], 67) by decide +kernel) (by omega) (by omega) (by rw [c22]; rfl) rfl ?_
    refine y_aload_n (show decode cX12_about 153 = .ok (.aload_n 0, 1) by decide +kernel) 0 rfl ?_
    refine y_getf 92 12 17 39 (by decide) rfl (by decide) (by decide) q6_64 (show decode cX12_about 154 = .ok (.getfield 39, 3) by decide +kernel) (v := .inr (.inr (101 + 1))) rfl ?_
    refine y_aload_n (show decode cX12_about 157 = .ok (.aload_n 0, 1) by decide +kernel) 0 rfl ?_
    refine y_getf 92 12 40 311 (by decide) rfl (by decide) (by decide) q6_87 (show decode cX12_about 158 = .ok (.getfield 311, 3) by decide +kernel) (v := .inl (σ 92 40)) rfl ?_
    obtain ⟨c23, h⟩ := chkA_some h
    refine yo_iald 101 2 (by decide) rfl c23 (ov_at rfl) (show decode cX12_about 161 = .ok (.iaload, 1) by decide +kernel) ?_
    cases h
    exact y_iret (show decode cX12_about 162 = .ok (.ireturn, 1) by decide +kernel) rfl
  rw [if_neg c22] at h
  refine y_tableOut (tgt := 163) (show decode cX12_about 1 = .ok (.tableswitch 162 0 12 #[67, 72, 77, 87, 97, 107, 112, 117, 122, 127, 132, 142, 152], 67) by decide +kernel) (by omega) rfl ?_
  refine y_iconst (show decode cX12_about 163 = .ok (.iconst (-1), 1) by decide +kernel) rfl ?_
  cases h
  exact y_iret (show decode cX12_about 164 = .ok (.ireturn, 1) by decide +kernel) rfl
abbrev MX12_feed : yM := (yX12_feed, cX12_feed, 8, some .int)
def mo_feed (N : Nat) (a : Int) (b : Int) (c : Int) (d : Int) (e : Int) (σ : ySt) : Option (Int × ySt) :=
  chkI ((σ 92 2) + 20) <|
  if ((σ 92 2) + 20) ≤ 1600 then
    loopS1 (fun k5 x3 σ4 =>
      if x3 ≥ 20 then
        chkI ((σ4 92 2) + 20) <|
        bnd (yset σ4 92 2 ((σ4 92 2) + 20)) fun σ8 =>
        some ((σ8 92 2), σ8)
      else
        bnd (fun (y10 : Int) =>
          chkI ((σ4 92 2) + x3) <|
          chkI (8 * (b32and x3 3)) <|
          chkI (24 - (8 * (b32and x3 3))) <|
          chkA 1620 ((σ4 92 2) + x3) <|
          bnd (yset σ4 93 (((σ4 92 2) + x3)).toNat (b32i2b (b32i2b (b32shr y10 (24 - (8 * (b32and x3 3))))))) fun σ16 =>
          chkI (x3 + 1) <|
          k5 (x3 + 1) σ16) fun j11 =>
        if x3 ≥ 4 then
          if x3 ≥ 8 then
            if x3 ≥ 12 then
              if x3 ≥ 16 then
                j11 e
              else
                j11 d
            else
              j11 c
          else
            j11 b
        else
          j11 a) N 0 σ
  else
    some ((-1), σ)
set_option maxHeartbeats 4000000 in
set_option maxRecDepth 10000 in
theorem sh_mo_feed {E : yE} {N : Nat} {a : Int} {b : Int} {c : Int} {d : Int} {e : Int} {σ : ySt} {ρ : Int} {τ : ySt} (h : mo_feed N a b c d e σ = some (ρ, τ)) : Con E MX12_feed 0 0 0 [.inr (.inr (92 + 1)), .inl a, .inl b, .inl c, .inl d, .inl e] 150 (ov σ) (some (.inl ρ)) (ov τ) := by
  unfold mo_feed at h
  refine Con.ofY (by decide +kernel) (by simp [yWords, yCat]) (fun hok _ => ?_)
  show Y E MX12_feed (yRm 0 0 0) (yQf E (150 + 0) 0 0 (some (.inl ρ)) (ov τ)) 0 [(0, .inr (.inr (92 + 1))), (1, .inl a), (2, .inl b), (3, .inl c), (4, .inl d), (5, .inl e)] [] (ov σ) 150 0 0
  refine y_aload_n (show decode cX12_feed 0 = .ok (.aload_n 0, 1) by decide +kernel) 0 rfl ?_
  refine y_getf 92 12 2 298 (by decide) rfl (by decide) (by decide) q6_49 (show decode cX12_feed 1 = .ok (.getfield 298, 3) by decide +kernel) (v := .inl (σ 92 2)) rfl ?_
  refine y_bipush (show decode cX12_feed 4 = .ok (.bipush 20, 2) by decide +kernel) rfl rfl ?_
  obtain ⟨c1, h⟩ := chkI_some h
  refine y_iadd (show decode cX12_feed 6 = .ok (.iadd, 1) by decide +kernel) c1 ?_
  refine y_sipush (show decode cX12_feed 7 = .ok (.sipush 1600, 3) by decide +kernel) rfl rfl ?_
  by_cases c2 : ((σ 92 2) + 20) ≤ 1600
  · rw [if_pos c2] at h
    refine y_icmp_le_t (tgt := 15) (show decode cX12_feed 10 = .ok (.if_icmp .le 5, 3) by decide +kernel) rfl c2 ?_
    refine y_iconst (show decode cX12_feed 15 = .ok (.iconst 0, 1) by decide +kernel) rfl ?_
    refine y_istore (show decode cX12_feed 16 = .ok (.istore 6, 2) by decide +kernel) rfl (L1 := [(6, .inl 0), (0, .inr (.inr (92 + 1))), (1, .inl a), (2, .inl b), (3, .inl c), (4, .inl d), (5, .inl e)]) rfl ?_
    refine y_pick [1, 2, 3, 4, 5, 6, 0] rfl ?_
    refine loopS1_ind (P := fun x3 σ4 => Y E MX12_feed (yRm 0 0 0) (yQf E (150 + 0) 0 0 (some (.inl ρ)) (ov τ)) 18 [(0, .inr (.inr (92 + 1))), (1, .inl a), (2, .inl b), (3, .inl c), (4, .inl d), (5, .inl e), (6, .inl x3)] [] (ov σ4) 150 0 0) (fun k5 hk5 x3 σ4 h => ?_) _ _ _  h
    refine y_iload (show decode cX12_feed 18 = .ok (.iload 6, 2) by decide +kernel) 6 rfl ?_
    refine y_bipush (show decode cX12_feed 20 = .ok (.bipush 20, 2) by decide +kernel) rfl rfl ?_
    by_cases c6 : x3 ≥ 20
    · rw [if_pos c6] at h
      refine y_icmp_ge_t (tgt := 105) (show decode cX12_feed 22 = .ok (.if_icmp .ge 83, 3) by decide +kernel) rfl c6 ?_
      refine y_aload_n (show decode cX12_feed 105 = .ok (.aload_n 0, 1) by decide +kernel) 0 rfl ?_
      refine y_dup (show decode cX12_feed 106 = .ok (.dup, 1) by decide +kernel) rfl ?_
      refine y_getf 92 12 2 298 (by decide) rfl (by decide) (by decide) q6_49 (show decode cX12_feed 107 = .ok (.getfield 298, 3) by decide +kernel) (v := .inl (σ4 92 2)) rfl ?_
      refine y_bipush (show decode cX12_feed 110 = .ok (.bipush 20, 2) by decide +kernel) rfl rfl ?_
      obtain ⟨c7, h⟩ := chkI_some h
      refine y_iadd (show decode cX12_feed 112 = .ok (.iadd, 1) by decide +kernel) c7 ?_
      obtain ⟨σ8, e9, h⟩ := bnd_i h
      refine yo_putI 92 12 2 298 (by decide) rfl (by decide) (by decide) q6_49 rfl (show decode cX12_feed 113 = .ok (.putfield 298, 3) by decide +kernel) rfl rfl (ov_set1 e9 rfl) ?_
      refine y_aload_n (show decode cX12_feed 116 = .ok (.aload_n 0, 1) by decide +kernel) 0 rfl ?_
      refine y_getf 92 12 2 298 (by decide) rfl (by decide) (by decide) q6_49 (show decode cX12_feed 117 = .ok (.getfield 298, 3) by decide +kernel) (v := .inl (σ8 92 2)) rfl ?_
      cases h
      exact y_iret (show decode cX12_feed 120 = .ok (.ireturn, 1) by decide +kernel) rfl
    · rw [if_neg c6] at h
      refine y_icmp_ge_f (show decode cX12_feed 22 = .ok (.if_icmp .ge 83, 3) by decide +kernel) c6 (by decide) ?_
      refine y_iload (show decode cX12_feed 25 = .ok (.iload 6, 2) by decide +kernel) 6 rfl ?_
      refine y_iconst (show decode cX12_feed 27 = .ok (.iconst 4, 1) by decide +kernel) rfl ?_
      refine bnd_j (Q := fun j11 => ∀ (y10 : Int), j11 y10 = some (ρ, τ) → Y E MX12_feed (yRm 0 0 0) (yQf E (150 + 0) 0 0 (some (.inl ρ)) (ov τ)) 71 [(0, .inr (.inr (92 + 1))), (1, .inl a), (2, .inl b), (3, .inl c), (4, .inl d), (5, .inl e), (6, .inl x3)] [.inl y10] (ov σ4) 150 0 0) (fun y10 h => ?_) (fun j11 hj11 h => ?_) h
      · dsimp only at h
        refine y_istore (show decode cX12_feed 71 = .ok (.istore 7, 2) by decide +kernel) rfl (L1 := [(7, .inl y10), (0, .inr (.inr (92 + 1))), (1, .inl a), (2, .inl b), (3, .inl c), (4, .inl d), (5, .inl e), (6, .inl x3)]) rfl ?_
        refine y_aload_n (show decode cX12_feed 73 = .ok (.aload_n 0, 1) by decide +kernel) 1 rfl ?_
        refine y_getf 92 12 0 7 (by decide) rfl (by decide) (by decide) q6_47 (show decode cX12_feed 74 = .ok (.getfield 7, 3) by decide +kernel) (v := .inr (.inr (93 + 1))) rfl ?_
        refine y_aload_n (show decode cX12_feed 77 = .ok (.aload_n 0, 1) by decide +kernel) 1 rfl ?_
        refine y_getf 92 12 2 298 (by decide) rfl (by decide) (by decide) q6_49 (show decode cX12_feed 78 = .ok (.getfield 298, 3) by decide +kernel) (v := .inl (σ4 92 2)) rfl ?_
        refine y_iload (show decode cX12_feed 81 = .ok (.iload 6, 2) by decide +kernel) 7 rfl ?_
        obtain ⟨c12, h⟩ := chkI_some h
        refine y_iadd (show decode cX12_feed 83 = .ok (.iadd, 1) by decide +kernel) c12 ?_
        refine y_iload (show decode cX12_feed 84 = .ok (.iload 7, 2) by decide +kernel) 0 rfl ?_
        refine y_bipush (show decode cX12_feed 86 = .ok (.bipush 24, 2) by decide +kernel) rfl rfl ?_
        refine y_bipush (show decode cX12_feed 88 = .ok (.bipush 8, 2) by decide +kernel) rfl rfl ?_
        refine y_iload (show decode cX12_feed 90 = .ok (.iload 6, 2) by decide +kernel) 7 rfl ?_
        refine y_iconst (show decode cX12_feed 92 = .ok (.iconst 3, 1) by decide +kernel) rfl ?_
        refine y_iand (show decode cX12_feed 93 = .ok (.iand, 1) by decide +kernel) ?_
        obtain ⟨c13, h⟩ := chkI_some h
        refine y_imul (show decode cX12_feed 94 = .ok (.imul, 1) by decide +kernel) c13 ?_
        obtain ⟨c14, h⟩ := chkI_some h
        refine y_isub (show decode cX12_feed 95 = .ok (.isub, 1) by decide +kernel) c14 ?_
        refine y_ishr (show decode cX12_feed 96 = .ok (.ishr, 1) by decide +kernel) ?_
        refine y_i2b (show decode cX12_feed 97 = .ok (.i2b, 1) by decide +kernel) ?_
        obtain ⟨c15, h⟩ := chkA_some h
        obtain ⟨σ16, e17, h⟩ := bnd_i h
        refine yo_bast 93 1620 (by decide) rfl c15 (ov_set1 e17 rfl) (show decode cX12_feed 98 = .ok (.bastore, 1) by decide +kernel) ?_
        obtain ⟨c18, h⟩ := chkI_some h
        refine y_iinc (show decode cX12_feed 99 = .ok (.iinc 6 1, 3) by decide +kernel) 7 rfl c18 rfl (L1 := [(6, .inl (x3 + 1)), (7, .inl y10), (0, .inr (.inr (92 + 1))), (1, .inl a), (2, .inl b), (3, .inl c), (4, .inl d), (5, .inl e)]) rfl ?_
        refine y_goto (tgt := 18) (show decode cX12_feed 102 = .ok (.goto (-84), 3) by decide +kernel) rfl ?_
        refine y_pick [2, 3, 4, 5, 6, 7, 0] rfl ?_
        exact hk5 _ _ h
      by_cases c19 : x3 ≥ 4
      · rw [if_pos c19] at h
        refine y_icmp_ge_t (tgt := 35) (show decode cX12_feed 28 = .ok (.if_icmp .ge 7, 3) by decide +kernel) rfl c19 ?_
        refine y_iload (show decode cX12_feed 35 = .ok (.iload 6, 2) by decide +kernel) 6 rfl ?_
        refine y_bipush (show decode cX12_feed 37 = .ok (.bipush 8, 2) by decide +kernel) rfl rfl ?_
        by_cases c20 : x3 ≥ 8
        · rw [if_pos c20] at h
          refine y_icmp_ge_t (tgt := 46) (show decode cX12_feed 39 = .ok (.if_icmp .ge 7, 3) by decide +kernel) rfl c20 ?_
          refine y_iload (show decode cX12_feed 46 = .ok (.iload 6, 2) by decide +kernel) 6 rfl ?_
          refine y_bipush (show decode cX12_feed 48 = .ok (.bipush 12, 2) by decide +kernel) rfl rfl ?_
          by_cases c21 : x3 ≥ 12
          · rw [if_pos c21] at h
            refine y_icmp_ge_t (tgt := 57) (show decode cX12_feed 50 = .ok (.if_icmp .ge 7, 3) by decide +kernel) rfl c21 ?_
            refine y_iload (show decode cX12_feed 57 = .ok (.iload 6, 2) by decide +kernel) 6 rfl ?_
            refine y_bipush (show decode cX12_feed 59 = .ok (.bipush 16, 2) by decide +kernel) rfl rfl ?_
            by_cases c22 : x3 ≥ 16
            · rw [if_pos c22] at h
              refine y_icmp_ge_t (tgt := 69) (show decode cX12_feed 61 = .ok (.if_icmp .ge 8, 3) by decide +kernel) rfl c22 ?_
              refine y_iload (show decode cX12_feed 69 = .ok (.iload 5, 2) by decide +kernel) 5 rfl ?_
              refine y_pick [0, 1, 2, 3, 4, 5, 6] rfl ?_
              exact hj11 _ h
            · rw [if_neg c22] at h
              refine y_icmp_ge_f (show decode cX12_feed 61 = .ok (.if_icmp .ge 8, 3) by decide +kernel) c22 (by decide) ?_
              refine y_iload (show decode cX12_feed 64 = .ok (.iload 4, 2) by decide +kernel) 4 rfl ?_
              refine y_goto (tgt := 71) (show decode cX12_feed 66 = .ok (.goto 5, 3) by decide +kernel) rfl ?_
              refine y_pick [0, 1, 2, 3, 4, 5, 6] rfl ?_
              exact hj11 _ h
          · rw [if_neg c21] at h
            refine y_icmp_ge_f (show decode cX12_feed 50 = .ok (.if_icmp .ge 7, 3) by decide +kernel) c21 (by decide) ?_
            refine y_iload_n (show decode cX12_feed 53 = .ok (.iload_n 3, 1) by decide +kernel) 3 rfl ?_
            refine y_goto (tgt := 71) (show decode cX12_feed 54 = .ok (.goto 17, 3) by decide +kernel) rfl ?_
            refine y_pick [0, 1, 2, 3, 4, 5, 6] rfl ?_
            exact hj11 _ h
        · rw [if_neg c20] at h
          refine y_icmp_ge_f (show decode cX12_feed 39 = .ok (.if_icmp .ge 7, 3) by decide +kernel) c20 (by decide) ?_
          refine y_iload_n (show decode cX12_feed 42 = .ok (.iload_n 2, 1) by decide +kernel) 2 rfl ?_
          refine y_goto (tgt := 71) (show decode cX12_feed 43 = .ok (.goto 28, 3) by decide +kernel) rfl ?_
          refine y_pick [0, 1, 2, 3, 4, 5, 6] rfl ?_
          exact hj11 _ h
      · rw [if_neg c19] at h
        refine y_icmp_ge_f (show decode cX12_feed 28 = .ok (.if_icmp .ge 7, 3) by decide +kernel) c19 (by decide) ?_
        refine y_iload_n (show decode cX12_feed 31 = .ok (.iload_n 1, 1) by decide +kernel) 1 rfl ?_
        refine y_goto (tgt := 71) (show decode cX12_feed 32 = .ok (.goto 39, 3) by decide +kernel) rfl ?_
        refine y_pick [0, 1, 2, 3, 4, 5, 6] rfl ?_
        exact hj11 _ h
  · rw [if_neg c2] at h
    refine y_icmp_le_f (show decode cX12_feed 10 = .ok (.if_icmp .le 5, 3) by decide +kernel) c2 (by decide) ?_
    refine y_iconst (show decode cX12_feed 13 = .ok (.iconst (-1), 1) by decide +kernel) rfl ?_
    cases h
    exact y_iret (show decode cX12_feed 14 = .ok (.ireturn, 1) by decide +kernel) rfl
abbrev MX12_end : yM := (yX12_end, cX12_end, 2, some .int)
def mo_end (a : Int) (σ : ySt) : Option (Int × ySt) :=
  if a < 0 then
    some ((-1), σ)
  else
    if a ≤ (σ 92 2) then
      bnd (yset σ 92 2 a) fun σ3 =>
      some (a, σ3)
    else
      some ((-1), σ)
set_option maxHeartbeats 4000000 in
set_option maxRecDepth 10000 in
theorem sh_mo_end {E : yE} {a : Int} {σ : ySt} {ρ : Int} {τ : ySt} (h : mo_end a σ = some (ρ, τ)) : Con E MX12_end 0 0 0 [.inr (.inr (92 + 1)), .inl a] 150 (ov σ) (some (.inl ρ)) (ov τ) := by
  unfold mo_end at h
  refine Con.ofY (by decide +kernel) (by simp [yWords, yCat]) (fun hok _ => ?_)
  show Y E MX12_end (yRm 0 0 0) (yQf E (150 + 0) 0 0 (some (.inl ρ)) (ov τ)) 0 [(0, .inr (.inr (92 + 1))), (1, .inl a)] [] (ov σ) 150 0 0
  refine y_iload_n (show decode cX12_end 0 = .ok (.iload_n 1, 1) by decide +kernel) 1 rfl ?_
  by_cases c1 : a < 0
  · rw [if_pos c1] at h
    refine y_if_lt_t (tgt := 12) (show decode cX12_end 1 = .ok (.ifCond .lt 11, 3) by decide +kernel) rfl c1 ?_
    refine y_iconst (show decode cX12_end 12 = .ok (.iconst (-1), 1) by decide +kernel) rfl ?_
    cases h
    exact y_iret (show decode cX12_end 13 = .ok (.ireturn, 1) by decide +kernel) rfl
  · rw [if_neg c1] at h
    refine y_if_lt_f (show decode cX12_end 1 = .ok (.ifCond .lt 11, 3) by decide +kernel) c1 (by decide) ?_
    refine y_iload_n (show decode cX12_end 4 = .ok (.iload_n 1, 1) by decide +kernel) 1 rfl ?_
    refine y_aload_n (show decode cX12_end 5 = .ok (.aload_n 0, 1) by decide +kernel) 0 rfl ?_
    refine y_getf 92 12 2 298 (by decide) rfl (by decide) (by decide) q6_49 (show decode cX12_end 6 = .ok (.getfield 298, 3) by decide +kernel) (v := .inl (σ 92 2)) rfl ?_
    by_cases c2 : a ≤ (σ 92 2)
    · rw [if_pos c2] at h
      refine y_icmp_le_t (tgt := 14) (show decode cX12_end 9 = .ok (.if_icmp .le 5, 3) by decide +kernel) rfl c2 ?_
      refine y_aload_n (show decode cX12_end 14 = .ok (.aload_n 0, 1) by decide +kernel) 0 rfl ?_
      refine y_iload_n (show decode cX12_end 15 = .ok (.iload_n 1, 1) by decide +kernel) 1 rfl ?_
      obtain ⟨σ3, e4, h⟩ := bnd_i h
      refine yo_putI 92 12 2 298 (by decide) rfl (by decide) (by decide) q6_49 rfl (show decode cX12_end 16 = .ok (.putfield 298, 3) by decide +kernel) rfl rfl (ov_set1 e4 rfl) ?_
      refine y_iload_n (show decode cX12_end 19 = .ok (.iload_n 1, 1) by decide +kernel) 1 rfl ?_
      cases h
      exact y_iret (show decode cX12_end 20 = .ok (.ireturn, 1) by decide +kernel) rfl
    · rw [if_neg c2] at h
      refine y_icmp_le_f (show decode cX12_end 9 = .ok (.if_icmp .le 5, 3) by decide +kernel) c2 (by decide) ?_
      refine y_iconst (show decode cX12_end 12 = .ok (.iconst (-1), 1) by decide +kernel) rfl ?_
      cases h
      exact y_iret (show decode cX12_end 13 = .ok (.ireturn, 1) by decide +kernel) rfl
