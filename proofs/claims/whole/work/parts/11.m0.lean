abbrev MX12_sign : yM := (yX12_sign, cX12_sign, 2, some .int)
def mo_sign (a : Int) (σ : ySt) : Option (Int) :=
  if a ≥ (σ 92 3) then
    some 0
  else
    chkA 1600 a <|
    some (b32and (σ 94 (a).toNat) 255)
set_option maxHeartbeats 4000000 in
set_option maxRecDepth 10000 in
theorem sh_mo_sign {E : yE} {a : Int} {σ : ySt} {ρ : Int} (h : mo_sign a σ = some ρ) : Con E MX12_sign 0 0 0 [.inr (.inr (92 + 1)), .inl a] 150 (ov σ) (some (.inl ρ)) (ov σ) := by
  unfold mo_sign at h
  refine Con.ofY (by decide +kernel) (by simp [yWords, yCat]) (fun hok _ => ?_)
  show Y E MX12_sign (yRm 0 0 0) (yQf E (150 + 0) 0 0 (some (.inl ρ)) (ov σ)) 0 [(0, .inr (.inr (92 + 1))), (1, .inl a)] [] (ov σ) 150 0 0
  refine y_iload_n (show decode cX12_sign 0 = .ok (.iload_n 1, 1) by decide +kernel) 1 rfl ?_
  refine y_aload_n (show decode cX12_sign 1 = .ok (.aload_n 0, 1) by decide +kernel) 0 rfl ?_
  refine y_getf 92 12 3 195 (by decide) rfl (by decide) (by decide) q6_50 (show decode cX12_sign 2 = .ok (.getfield 195, 3) by decide +kernel) (v := .inl (σ 92 3)) rfl ?_
  by_cases c1 : a ≥ (σ 92 3)
  · rw [if_pos c1] at h
    refine y_icmp_ge_t (tgt := 21) (show decode cX12_sign 5 = .ok (.if_icmp .ge 16, 3) by decide +kernel) rfl c1 ?_
    refine y_iconst (show decode cX12_sign 21 = .ok (.iconst 0, 1) by decide +kernel) rfl ?_
    cases h
    exact y_iret (show decode cX12_sign 22 = .ok (.ireturn, 1) by decide +kernel) rfl
  · rw [if_neg c1] at h
    refine y_icmp_ge_f (show decode cX12_sign 5 = .ok (.if_icmp .ge 16, 3) by decide +kernel) c1 (by decide) ?_
    refine y_aload_n (show decode cX12_sign 8 = .ok (.aload_n 0, 1) by decide +kernel) 0 rfl ?_
    refine y_getf 92 12 1 13 (by decide) rfl (by decide) (by decide) q6_48 (show decode cX12_sign 9 = .ok (.getfield 13, 3) by decide +kernel) (v := .inr (.inr (94 + 1))) rfl ?_
    refine y_iload_n (show decode cX12_sign 12 = .ok (.iload_n 1, 1) by decide +kernel) 1 rfl ?_
    obtain ⟨c2, h⟩ := chkA_some h
    refine yo_bald 94 1600 (by decide) rfl c2 (ov_at rfl) (show decode cX12_sign 13 = .ok (.baload, 1) by decide +kernel) ?_
    refine y_sipush (show decode cX12_sign 14 = .ok (.sipush 255, 3) by decide +kernel) rfl rfl ?_
    refine y_iand (show decode cX12_sign 17 = .ok (.iand, 1) by decide +kernel) ?_
    refine y_goto (tgt := 22) (show decode cX12_sign 18 = .ok (.goto 4, 3) by decide +kernel) rfl ?_
    cases h
    exact y_iret (show decode cX12_sign 22 = .ok (.ireturn, 1) by decide +kernel) rfl
abbrev MX12_isLetter : yM := (yX12_isLetter, cX12_isLetter, 1, some .boolean)
def mo_isLetter (a : Int) (σ : ySt) : Option (Int) :=
  if a < 97 then
    some 0
  else
    if a > 122 then
      some 0
    else
      some 1
set_option maxHeartbeats 4000000 in
set_option maxRecDepth 10000 in
theorem sh_mo_isLetter {E : yE} {a : Int} {σ : ySt} {ρ : Int} (h : mo_isLetter a σ = some ρ) : Con E MX12_isLetter 0 0 0 [.inl a] 150 (ov σ) (some (.inl ρ)) (ov σ) := by
  unfold mo_isLetter at h
  refine Con.ofY (by decide +kernel) (by simp [yWords, yCat]) (fun hok _ => ?_)
  show Y E MX12_isLetter (yRm 0 0 0) (yQf E (150 + 0) 0 0 (some (.inl ρ)) (ov σ)) 0 [(0, .inl a)] [] (ov σ) 150 0 0
  refine y_iload_n (show decode cX12_isLetter 0 = .ok (.iload_n 0, 1) by decide +kernel) 0 rfl ?_
  refine y_bipush (show decode cX12_isLetter 1 = .ok (.bipush 97, 2) by decide +kernel) rfl rfl ?_
  by_cases c1 : a < 97
  · rw [if_pos c1] at h
    refine y_icmp_lt_t (tgt := 16) (show decode cX12_isLetter 3 = .ok (.if_icmp .lt 13, 3) by decide +kernel) rfl c1 ?_
    refine y_iconst (show decode cX12_isLetter 16 = .ok (.iconst 0, 1) by decide +kernel) rfl ?_
    cases h
    exact y_zret (show decode cX12_isLetter 17 = .ok (.ireturn, 1) by decide +kernel) rfl (Or.inl rfl)
  · rw [if_neg c1] at h
    refine y_icmp_lt_f (show decode cX12_isLetter 3 = .ok (.if_icmp .lt 13, 3) by decide +kernel) c1 (by decide) ?_
    refine y_iload_n (show decode cX12_isLetter 6 = .ok (.iload_n 0, 1) by decide +kernel) 0 rfl ?_
    refine y_bipush (show decode cX12_isLetter 7 = .ok (.bipush 122, 2) by decide +kernel) rfl rfl ?_
    by_cases c2 : a > 122
    · rw [if_pos c2] at h
      refine y_icmp_gt_t (tgt := 16) (show decode cX12_isLetter 9 = .ok (.if_icmp .gt 7, 3) by decide +kernel) rfl c2 ?_
      refine y_iconst (show decode cX12_isLetter 16 = .ok (.iconst 0, 1) by decide +kernel) rfl ?_
      cases h
      exact y_zret (show decode cX12_isLetter 17 = .ok (.ireturn, 1) by decide +kernel) rfl (Or.inl rfl)
    · rw [if_neg c2] at h
      refine y_icmp_gt_f (show decode cX12_isLetter 9 = .ok (.if_icmp .gt 7, 3) by decide +kernel) c2 (by decide) ?_
      refine y_iconst (show decode cX12_isLetter 12 = .ok (.iconst 1, 1) by decide +kernel) rfl ?_
      refine y_goto (tgt := 17) (show decode cX12_isLetter 13 = .ok (.goto 4, 3) by decide +kernel) rfl ?_
      cases h
      exact y_zret (show decode cX12_isLetter 17 = .ok (.ireturn, 1) by decide +kernel) rfl (Or.inr rfl)
abbrev MX12_isDigit : yM := (yX12_isDigit, cX12_isDigit, 1, some .boolean)
def mo_isDigit (a : Int) (σ : ySt) : Option (Int) :=
  if a < 48 then
    some 0
  else
    if a > 57 then
      some 0
    else
      some 1
set_option maxHeartbeats 4000000 in
set_option maxRecDepth 10000 in
theorem sh_mo_isDigit {E : yE} {a : Int} {σ : ySt} {ρ : Int} (h : mo_isDigit a σ = some ρ) : Con E MX12_isDigit 0 0 0 [.inl a] 150 (ov σ) (some (.inl ρ)) (ov σ) := by
  unfold mo_isDigit at h
  refine Con.ofY (by decide +kernel) (by simp [yWords, yCat]) (fun hok _ => ?_)
  show Y E MX12_isDigit (yRm 0 0 0) (yQf E (150 + 0) 0 0 (some (.inl ρ)) (ov σ)) 0 [(0, .inl a)] [] (ov σ) 150 0 0
  refine y_iload_n (show decode cX12_isDigit 0 = .ok (.iload_n 0, 1) by decide +kernel) 0 rfl ?_
  refine y_bipush (show decode cX12_isDigit 1 = .ok (.bipush 48, 2) by decide +kernel) rfl rfl ?_
  by_cases c1 : a < 48
  · rw [if_pos c1] at h
    refine y_icmp_lt_t (tgt := 16) (show decode cX12_isDigit 3 = .ok (.if_icmp .lt 13, 3) by decide +kernel) rfl c1 ?_
    refine y_iconst (show decode cX12_isDigit 16 = .ok (.iconst 0, 1) by decide +kernel) rfl ?_
    cases h
    exact y_zret (show decode cX12_isDigit 17 = .ok (.ireturn, 1) by decide +kernel) rfl (Or.inl rfl)
  · rw [if_neg c1] at h
    refine y_icmp_lt_f (show decode cX12_isDigit 3 = .ok (.if_icmp .lt 13, 3) by decide +kernel) c1 (by decide) ?_
    refine y_iload_n (show decode cX12_isDigit 6 = .ok (.iload_n 0, 1) by decide +kernel) 0 rfl ?_
    refine y_bipush (show decode cX12_isDigit 7 = .ok (.bipush 57, 2) by decide +kernel) rfl rfl ?_
    by_cases c2 : a > 57
    · rw [if_pos c2] at h
      refine y_icmp_gt_t (tgt := 16) (show decode cX12_isDigit 9 = .ok (.if_icmp .gt 7, 3) by decide +kernel) rfl c2 ?_
      refine y_iconst (show decode cX12_isDigit 16 = .ok (.iconst 0, 1) by decide +kernel) rfl ?_
      cases h
      exact y_zret (show decode cX12_isDigit 17 = .ok (.ireturn, 1) by decide +kernel) rfl (Or.inl rfl)
    · rw [if_neg c2] at h
      refine y_icmp_gt_f (show decode cX12_isDigit 9 = .ok (.if_icmp .gt 7, 3) by decide +kernel) c2 (by decide) ?_
      refine y_iconst (show decode cX12_isDigit 12 = .ok (.iconst 1, 1) by decide +kernel) rfl ?_
      refine y_goto (tgt := 17) (show decode cX12_isDigit 13 = .ok (.goto 4, 3) by decide +kernel) rfl ?_
      cases h
      exact y_zret (show decode cX12_isDigit 17 = .ok (.ireturn, 1) by decide +kernel) rfl (Or.inr rfl)
abbrev MX12_fails : yM := (yX12_fails, cX12_fails, 3, none)
def mo_fails (a : Int) (b : Int) (σ : ySt) : Option (ySt) :=
  if (σ 92 4) ≤ 0 then
    bnd (yset σ 92 4 a) fun σ2 =>
    bnd (yset σ2 92 5 b) fun σ4 =>
    some σ4
  else
    some σ
set_option maxHeartbeats 4000000 in
set_option maxRecDepth 10000 in
theorem sh_mo_fails {E : yE} {a : Int} {b : Int} {σ : ySt} {τ : ySt} (h : mo_fails a b σ = some τ) : Con E MX12_fails 0 0 0 [.inr (.inr (92 + 1)), .inl a, .inl b] 150 (ov σ) none (ov τ) := by
  unfold mo_fails at h
  refine Con.ofY (by decide +kernel) (by simp [yWords, yCat]) (fun hok _ => ?_)
  show Y E MX12_fails (yRm 0 0 0) (yQf E (150 + 0) 0 0 none (ov τ)) 0 [(0, .inr (.inr (92 + 1))), (1, .inl a), (2, .inl b)] [] (ov σ) 150 0 0
  refine y_aload_n (show decode cX12_fails 0 = .ok (.aload_n 0, 1) by decide +kernel) 0 rfl ?_
  refine y_getf 92 12 4 198 (by decide) rfl (by decide) (by decide) q6_51 (show decode cX12_fails 1 = .ok (.getfield 198, 3) by decide +kernel) (v := .inl (σ 92 4)) rfl ?_
  by_cases c1 : (σ 92 4) ≤ 0
  · rw [if_pos c1] at h
    refine y_if_le_t (tgt := 8) (show decode cX12_fails 4 = .ok (.ifCond .le 4, 3) by decide +kernel) rfl c1 ?_
    refine y_aload_n (show decode cX12_fails 8 = .ok (.aload_n 0, 1) by decide +kernel) 0 rfl ?_
    refine y_iload_n (show decode cX12_fails 9 = .ok (.iload_n 1, 1) by decide +kernel) 1 rfl ?_
    obtain ⟨σ2, e3, h⟩ := bnd_i h
    refine yo_putI 92 12 4 198 (by decide) rfl (by decide) (by decide) q6_51 rfl (show decode cX12_fails 10 = .ok (.putfield 198, 3) by decide +kernel) rfl rfl (ov_set1 e3 rfl) ?_
    refine y_aload_n (show decode cX12_fails 13 = .ok (.aload_n 0, 1) by decide +kernel) 0 rfl ?_
    refine y_iload_n (show decode cX12_fails 14 = .ok (.iload_n 2, 1) by decide +kernel) 2 rfl ?_
    obtain ⟨σ4, e5, h⟩ := bnd_i h
    refine yo_putI 92 12 5 16 (by decide) rfl (by decide) (by decide) q6_52 rfl (show decode cX12_fails 15 = .ok (.putfield 16, 3) by decide +kernel) rfl rfl (ov_set1 e5 rfl) ?_
    cases h
    exact y_vret (show decode cX12_fails 18 = .ok (.return_, 1) by decide +kernel) rfl
  · rw [if_neg c1] at h
    refine y_if_le_f (show decode cX12_fails 4 = .ok (.ifCond .le 4, 3) by decide +kernel) c1 (by decide) ?_
    cases h
    exact y_vret (show decode cX12_fails 7 = .ok (.return_, 1) by decide +kernel) rfl
abbrev MX12_isGood : yM := (yX12_isGood, cX12_isGood, 1, some .boolean)
def mo_isGood (σ : ySt) : Option (Int) :=
  if ¬ (σ 92 4) = 0 then
    some 0
  else
    some 1
set_option maxHeartbeats 4000000 in
set_option maxRecDepth 10000 in
theorem sh_mo_isGood {E : yE} {σ : ySt} {ρ : Int} (h : mo_isGood σ = some ρ) : Con E MX12_isGood 0 0 0 [.inr (.inr (92 + 1))] 150 (ov σ) (some (.inl ρ)) (ov σ) := by
  unfold mo_isGood at h
  refine Con.ofY (by decide +kernel) (by simp [yWords, yCat]) (fun hok _ => ?_)
  show Y E MX12_isGood (yRm 0 0 0) (yQf E (150 + 0) 0 0 (some (.inl ρ)) (ov σ)) 0 [(0, .inr (.inr (92 + 1)))] [] (ov σ) 150 0 0
  refine y_aload_n (show decode cX12_isGood 0 = .ok (.aload_n 0, 1) by decide +kernel) 0 rfl ?_
  refine y_getf 92 12 4 198 (by decide) rfl (by decide) (by decide) q6_51 (show decode cX12_isGood 1 = .ok (.getfield 198, 3) by decide +kernel) (v := .inl (σ 92 4)) rfl ?_
  by_cases c1 : ¬ (σ 92 4) = 0
  · rw [if_pos c1] at h
    refine y_if_ne_t (tgt := 11) (show decode cX12_isGood 4 = .ok (.ifCond .ne 7, 3) by decide +kernel) rfl c1 ?_
    refine y_iconst (show decode cX12_isGood 11 = .ok (.iconst 0, 1) by decide +kernel) rfl ?_
    cases h
    exact y_zret (show decode cX12_isGood 12 = .ok (.ireturn, 1) by decide +kernel) rfl (Or.inl rfl)
  · rw [if_neg c1] at h
    refine y_if_ne_f (show decode cX12_isGood 4 = .ok (.ifCond .ne 7, 3) by decide +kernel) c1 (by decide) ?_
    refine y_iconst (show decode cX12_isGood 7 = .ok (.iconst 1, 1) by decide +kernel) rfl ?_
    refine y_goto (tgt := 12) (show decode cX12_isGood 8 = .ok (.goto 4, 3) by decide +kernel) rfl ?_
    cases h
    exact y_zret (show decode cX12_isGood 12 = .ok (.ireturn, 1) by decide +kernel) rfl (Or.inr rfl)
abbrev MX12_isKept : yM := (yX12_isKept, cX12_isKept, 3, some .boolean)
def mo_isKept (a : Int) (σ : ySt) : Option (Int) :=
  bnd (fun (y1 : Int) =>
    if ¬ y1 = 0 then
      some 1
    else
      if (blcmp a 512970880104) = 0 then
        some 1
      else
        if (blcmp a 1752135026) = 0 then
          some 1
        else
          if (blcmp a 32497657166128499) = 0 then
            some 1
          else
            if (blcmp a 1920298085) = 0 then
              some 1
            else
              if (blcmp a 6385252) = 0 then
                some 1
              else
                if (blcmp a 28530) = 0 then
                  some 1
                else
                  if (blcmp a 7237492) = 0 then
                    some 1
                  else
                    if (blcmp a 1751478885) = 0 then
                      some 1
                    else
                      if ¬ (blcmp a 1685022579) = 0 then
                        some 0
                      else
                        some 1) fun j2 =>
  if (blcmp a 482854658917) = 0 then
    j2 1
  else
    if (blcmp a 435627783289) = 0 then
      j2 1
    else
      if (blcmp a 7823737) = 0 then
        j2 1
      else
        if (blcmp a 30796695599342963) = 0 then
          j2 1
        else
          if (blcmp a 123581014175598) = 0 then
            j2 1
          else
            if (blcmp a 24948) = 0 then
              j2 1
            else
              if (blcmp a 1751741029) = 0 then
                j2 1
              else
                if (blcmp a 6582119) = 0 then
                  j2 1
                else
                  if (blcmp a 111542219664996) = 0 then
                    j2 1
                  else
                    if ¬ (blcmp a 126943973305189) = 0 then
                      j2 0
                    else
                      j2 1
set_option maxHeartbeats 4000000 in
set_option maxRecDepth 10000 in
theorem sh_mo_isKept {E : yE} {a : Int} {σ : ySt} {ρ : Int} (h : mo_isKept a σ = some ρ) : Con E MX12_isKept 0 0 0 [.inr (.inl a)] 150 (ov σ) (some (.inl ρ)) (ov σ) := by
  unfold mo_isKept at h
  refine Con.ofY (by decide +kernel) (by simp [yWords, yCat]) (fun hok _ => ?_)
  show Y E MX12_isKept (yRm 0 0 0) (yQf E (150 + 0) 0 0 (some (.inl ρ)) (ov σ)) 0 [(0, .inr (.inl a))] [] (ov σ) 150 0 0
  refine y_lload_n (show decode cX12_isKept 0 = .ok (.lload_n 0, 1) by decide +kernel) 0 rfl ?_
  refine y_ldc2 (k := 482854658917) (show decode cX12_isKept 1 = .ok (.ldc2_w 201, 3) by decide +kernel) q7_91 rfl rfl ?_
  refine y_lcmp (show decode cX12_isKept 4 = .ok (.lcmp, 1) by decide +kernel) ?_
  refine bnd_j (Q := fun j2 => ∀ (y1 : Int), j2 y1 = some ρ → Y E MX12_isKept (yRm 0 0 0) (yQf E (150 + 0) 0 0 (some (.inl ρ)) (ov σ)) 85 [(0, .inr (.inl a))] [.inl y1] (ov σ) 150 0 0) (fun y1 h => ?_) (fun j2 hj2 h => ?_) h
  · dsimp only at h
    refine y_istore_n (show decode cX12_isKept 85 = .ok (.istore_n 2, 1) by decide +kernel) rfl (L1 := [(2, .inl y1), (0, .inr (.inl a))]) rfl ?_
    refine y_iload_n (show decode cX12_isKept 86 = .ok (.iload_n 2, 1) by decide +kernel) 0 rfl ?_
    by_cases c3 : ¬ y1 = 0
    · rw [if_pos c3] at h
      refine y_if_ne_t (tgt := 162) (show decode cX12_isKept 87 = .ok (.ifCond .ne 75, 3) by decide +kernel) rfl c3 ?_
      refine y_iconst (show decode cX12_isKept 162 = .ok (.iconst 1, 1) by decide +kernel) rfl ?_
      refine y_goto (tgt := 167) (show decode cX12_isKept 163 = .ok (.goto 4, 3) by decide +kernel) rfl ?_
      cases h
      exact y_zret (show decode cX12_isKept 167 = .ok (.ireturn, 1) by decide +kernel) rfl (Or.inr rfl)
    · rw [if_neg c3] at h
      refine y_if_ne_f (show decode cX12_isKept 87 = .ok (.ifCond .ne 75, 3) by decide +kernel) c3 (by decide) ?_
      refine y_lload_n (show decode cX12_isKept 90 = .ok (.lload_n 0, 1) by decide +kernel) 1 rfl ?_
      refine y_ldc2 (k := 512970880104) (show decode cX12_isKept 91 = .ok (.ldc2_w 221, 3) by decide +kernel) q7_101 rfl rfl ?_
      refine y_lcmp (show decode cX12_isKept 94 = .ok (.lcmp, 1) by decide +kernel) ?_
      by_cases c4 : (blcmp a 512970880104) = 0
      · rw [if_pos c4] at h
        refine y_if_eq_t (tgt := 162) (show decode cX12_isKept 95 = .ok (.ifCond .eq 67, 3) by decide +kernel) rfl c4 ?_
        refine y_iconst (show decode cX12_isKept 162 = .ok (.iconst 1, 1) by decide +kernel) rfl ?_
        refine y_goto (tgt := 167) (show decode cX12_isKept 163 = .ok (.goto 4, 3) by decide +kernel) rfl ?_
        cases h
        exact y_zret (show decode cX12_isKept 167 = .ok (.ireturn, 1) by decide +kernel) rfl (Or.inr rfl)
      · rw [if_neg c4] at h
        refine y_if_eq_f (show decode cX12_isKept 95 = .ok (.ifCond .eq 67, 3) by decide +kernel) c4 (by decide) ?_
        refine y_lload_n (show decode cX12_isKept 98 = .ok (.lload_n 0, 1) by decide +kernel) 1 rfl ?_
        refine y_ldc2 (k := 1752135026) (show decode cX12_isKept 99 = .ok (.ldc2_w 223, 3) by decide +kernel) q7_102 rfl rfl ?_
        refine y_lcmp (show decode cX12_isKept 102 = .ok (.lcmp, 1) by decide +kernel) ?_
        by_cases c5 : (blcmp a 1752135026) = 0
        · rw [if_pos c5] at h
          refine y_if_eq_t (tgt := 162) (show decode cX12_isKept 103 = .ok (.ifCond .eq 59, 3) by decide +kernel) rfl c5 ?_
          refine y_iconst (show decode cX12_isKept 162 = .ok (.iconst 1, 1) by decide +kernel) rfl ?_
          refine y_goto (tgt := 167) (show decode cX12_isKept 163 = .ok (.goto 4, 3) by decide +kernel) rfl ?_
          cases h
          exact y_zret (show decode cX12_isKept 167 = .ok (.ireturn, 1) by decide +kernel) rfl (Or.inr rfl)
        · rw [if_neg c5] at h
          refine y_if_eq_f (show decode cX12_isKept 103 = .ok (.ifCond .eq 59, 3) by decide +kernel) c5 (by decide) ?_
          refine y_lload_n (show decode cX12_isKept 106 = .ok (.lload_n 0, 1) by decide +kernel) 1 rfl ?_
          refine y_ldc2 (k := 32497657166128499) (show decode cX12_isKept 107 = .ok (.ldc2_w 225, 3) by decide +kernel) q7_103 rfl rfl ?_
          refine y_lcmp (show decode cX12_isKept 110 = .ok (.lcmp, 1) by decide +kernel) ?_
          by_cases c6 : (blcmp a 32497657166128499) = 0
          · rw [if_pos c6] at h
            refine y_if_eq_t (tgt := 162) (show decode cX12_isKept 111 = .ok (.ifCond .eq 51, 3) by decide +kernel) rfl c6 ?_
            refine y_iconst (show decode cX12_isKept 162 = .ok (.iconst 1, 1) by decide +kernel) rfl ?_
            refine y_goto (tgt := 167) (show decode cX12_isKept 163 = .ok (.goto 4, 3) by decide +kernel) rfl ?_
            cases h
            exact y_zret (show decode cX12_isKept 167 = .ok (.ireturn, 1) by decide +kernel) rfl (Or.inr rfl)
          · rw [if_neg c6] at h
            refine y_if_eq_f (show decode cX12_isKept 111 = .ok (.ifCond .eq 51, 3) by decide +kernel) c6 (by decide) ?_
            refine y_lload_n (show decode cX12_isKept 114 = .ok (.lload_n 0, 1) by decide +kernel) 1 rfl ?_
            refine y_ldc2 (k := 1920298085) (show decode cX12_isKept 115 = .ok (.ldc2_w 227, 3) by decide +kernel) q7_104 rfl rfl ?_
            refine y_lcmp (show decode cX12_isKept 118 = .ok (.lcmp, 1) by decide +kernel) ?_
            by_cases c7 : (blcmp a 1920298085) = 0
            · rw [if_pos c7] at h
              refine y_if_eq_t (tgt := 162) (show decode cX12_isKept 119 = .ok (.ifCond .eq 43, 3) by decide +kernel) rfl c7 ?_
              refine y_iconst (show decode cX12_isKept 162 = .ok (.iconst 1, 1) by decide +kernel) rfl ?_
              refine y_goto (tgt := 167) (show decode cX12_isKept 163 = .ok (.goto 4, 3) by decide +kernel) rfl ?_
              cases h
              exact y_zret (show decode cX12_isKept 167 = .ok (.ireturn, 1) by decide +kernel) rfl (Or.inr rfl)
            · rw [if_neg c7] at h
              refine y_if_eq_f (show decode cX12_isKept 119 = .ok (.ifCond .eq 43, 3) by decide +kernel) c7 (by decide) ?_
              refine y_lload_n (show decode cX12_isKept 122 = .ok (.lload_n 0, 1) by decide +kernel) 1 rfl ?_
              refine y_ldc2 (k := 6385252) (show decode cX12_isKept 123 = .ok (.ldc2_w 229, 3) by decide +kernel) q7_105 rfl rfl ?_
              refine y_lcmp (show decode cX12_isKept 126 = .ok (.lcmp, 1) by decide +kernel) ?_
              by_cases c8 : (blcmp a 6385252) = 0
              · rw [if_pos c8] at h
                refine y_if_eq_t (tgt := 162) (show decode cX12_isKept 127 = .ok (.ifCond .eq 35, 3) by decide +kernel) rfl c8 ?_
                refine y_iconst (show decode cX12_isKept 162 = .ok (.iconst 1, 1) by decide +kernel) rfl ?_
                refine y_goto (tgt := 167) (show decode cX12_isKept 163 = .ok (.goto 4, 3) by decide +kernel) rfl ?_
                cases h
                exact y_zret (show decode cX12_isKept 167 = .ok (.ireturn, 1) by decide +kernel) rfl (Or.inr rfl)
              · rw [if_neg c8] at h
                refine y_if_eq_f (show decode cX12_isKept 127 = .ok (.ifCond .eq 35, 3) by decide +kernel) c8 (by decide) ?_
                refine y_lload_n (show decode cX12_isKept 130 = .ok (.lload_n 0, 1) by decide +kernel) 1 rfl ?_
                refine y_ldc2 (k := 28530) (show decode cX12_isKept 131 = .ok (.ldc2_w 231, 3) by decide +kernel) q7_106 rfl rfl ?_
                refine y_lcmp (show decode cX12_isKept 134 = .ok (.lcmp, 1) by decide +kernel) ?_
                by_cases c9 : (blcmp a 28530) = 0
                · rw [if_pos c9] at h
                  refine y_if_eq_t (tgt := 162) (show decode cX12_isKept 135 = .ok (.ifCond .eq 27, 3) by decide +kernel) rfl c9 ?_
                  refine y_iconst (show decode cX12_isKept 162 = .ok (.iconst 1, 1) by decide +kernel) rfl ?_
                  refine y_goto (tgt := 167) (show decode cX12_isKept 163 = .ok (.goto 4, 3) by decide +kernel) rfl ?_
                  cases h
                  exact y_zret (show decode cX12_isKept 167 = .ok (.ireturn, 1) by decide +kernel) rfl (Or.inr rfl)
                · rw [if_neg c9] at h
                  refine y_if_eq_f (show decode cX12_isKept 135 = .ok (.ifCond .eq 27, 3) by decide +kernel) c9 (by decide) ?_
                  refine y_lload_n (show decode cX12_isKept 138 = .ok (.lload_n 0, 1) by decide +kernel) 1 rfl ?_
                  refine y_ldc2 (k := 7237492) (show decode cX12_isKept 139 = .ok (.ldc2_w 233, 3) by decide +kernel) q7_107 rfl rfl ?_
                  refine y_lcmp (show decode cX12_isKept 142 = .ok (.lcmp, 1) by decide +kernel) ?_
                  by_cases c10 : (blcmp a 7237492) = 0
                  · rw [if_pos c10] at h
                    refine y_if_eq_t (tgt := 162) (show decode cX12_isKept 143 = .ok (.ifCond .eq 19, 3) by decide +kernel) rfl c10 ?_
                    refine y_iconst (show decode cX12_isKept 162 = .ok (.iconst 1, 1) by decide +kernel) rfl ?_
                    refine y_goto (tgt := 167) (show decode cX12_isKept 163 = .ok (.goto 4, 3) by decide +kernel) rfl ?_
                    cases h
                    exact y_zret (show decode cX12_isKept 167 = .ok (.ireturn, 1) by decide +kernel) rfl (Or.inr rfl)
                  · rw [if_neg c10] at h
                    refine y_if_eq_f (show decode cX12_isKept 143 = .ok (.ifCond .eq 19, 3) by decide +kernel) c10 (by decide) ?_
                    refine y_lload_n (show decode cX12_isKept 146 = .ok (.lload_n 0, 1) by decide +kernel) 1 rfl ?_
                    refine y_ldc2 (k := 1751478885) (show decode cX12_isKept 147 = .ok (.ldc2_w 235, 3) by decide +kernel) q7_108 rfl rfl ?_
                    refine y_lcmp (show decode cX12_isKept 150 = .ok (.lcmp, 1) by decide +kernel) ?_
                    by_cases c11 : (blcmp a 1751478885) = 0
                    · rw [if_pos c11] at h
                      refine y_if_eq_t (tgt := 162) (show decode cX12_isKept 151 = .ok (.ifCond .eq 11, 3) by decide +kernel) rfl c11 ?_
                      refine y_iconst (show decode cX12_isKept 162 = .ok (.iconst 1, 1) by decide +kernel) rfl ?_
                      refine y_goto (tgt := 167) (show decode cX12_isKept 163 = .ok (.goto 4, 3) by decide +kernel) rfl ?_
                      cases h
                      exact y_zret (show decode cX12_isKept 167 = .ok (.ireturn, 1) by decide +kernel) rfl (Or.inr rfl)
                    · rw [if_neg c11] at h
                      refine y_if_eq_f (show decode cX12_isKept 151 = .ok (.ifCond .eq 11, 3) by decide +kernel) c11 (by decide) ?_
                      refine y_lload_n (show decode cX12_isKept 154 = .ok (.lload_n 0, 1) by decide +kernel) 1 rfl ?_
                      refine y_ldc2 (k := 1685022579) (show decode cX12_isKept 155 = .ok (.ldc2_w 237, 3) by decide +kernel) q7_109 rfl rfl ?_
                      refine y_lcmp (show decode cX12_isKept 158 = .ok (.lcmp, 1) by decide +kernel) ?_
                      by_cases c12 : ¬ (blcmp a 1685022579) = 0
                      · rw [if_pos c12] at h
                        refine y_if_ne_t (tgt := 166) (show decode cX12_isKept 159 = .ok (.ifCond .ne 7, 3) by decide +kernel) rfl c12 ?_
                        refine y_iconst (show decode cX12_isKept 166 = .ok (.iconst 0, 1) by decide +kernel) rfl ?_
                        cases h
                        exact y_zret (show decode cX12_isKept 167 = .ok (.ireturn, 1) by decide +kernel) rfl (Or.inl rfl)
                      · rw [if_neg c12] at h
                        refine y_if_ne_f (show decode cX12_isKept 159 = .ok (.ifCond .ne 7, 3) by decide +kernel) c12 (by decide) ?_
                        refine y_iconst (show decode cX12_isKept 162 = .ok (.iconst 1, 1) by decide +kernel) rfl ?_
                        refine y_goto (tgt := 167) (show decode cX12_isKept 163 = .ok (.goto 4, 3) by decide +kernel) rfl ?_
                        cases h
                        exact y_zret (show decode cX12_isKept 167 = .ok (.ireturn, 1) by decide +kernel) rfl (Or.inr rfl)
  by_cases c13 : (blcmp a 482854658917) = 0
  · rw [if_pos c13] at h
    refine y_if_eq_t (tgt := 80) (show decode cX12_isKept 5 = .ok (.ifCond .eq 75, 3) by decide +kernel) rfl c13 ?_
    refine y_iconst (show decode cX12_isKept 80 = .ok (.iconst 1, 1) by decide +kernel) rfl ?_
    refine y_goto (tgt := 85) (show decode cX12_isKept 81 = .ok (.goto 4, 3) by decide +kernel) rfl ?_
    refine y_pick [0] rfl ?_
    exact hj2 _ h
  · rw [if_neg c13] at h
    refine y_if_eq_f (show decode cX12_isKept 5 = .ok (.ifCond .eq 75, 3) by decide +kernel) c13 (by decide) ?_
    refine y_lload_n (show decode cX12_isKept 8 = .ok (.lload_n 0, 1) by decide +kernel) 0 rfl ?_
    refine y_ldc2 (k := 435627783289) (show decode cX12_isKept 9 = .ok (.ldc2_w 203, 3) by decide +kernel) q7_92 rfl rfl ?_
    refine y_lcmp (show decode cX12_isKept 12 = .ok (.lcmp, 1) by decide +kernel) ?_
    by_cases c14 : (blcmp a 435627783289) = 0
    · rw [if_pos c14] at h
      refine y_if_eq_t (tgt := 80) (show decode cX12_isKept 13 = .ok (.ifCond .eq 67, 3) by decide +kernel) rfl c14 ?_
      refine y_iconst (show decode cX12_isKept 80 = .ok (.iconst 1, 1) by decide +kernel) rfl ?_
      refine y_goto (tgt := 85) (show decode cX12_isKept 81 = .ok (.goto 4, 3) by decide +kernel) rfl ?_
      refine y_pick [0] rfl ?_
      exact hj2 _ h
    · rw [if_neg c14] at h
      refine y_if_eq_f (show decode cX12_isKept 13 = .ok (.ifCond .eq 67, 3) by decide +kernel) c14 (by decide) ?_
      refine y_lload_n (show decode cX12_isKept 16 = .ok (.lload_n 0, 1) by decide +kernel) 0 rfl ?_
      refine y_ldc2 (k := 7823737) (show decode cX12_isKept 17 = .ok (.ldc2_w 205, 3) by decide +kernel) q7_93 rfl rfl ?_
      refine y_lcmp (show decode cX12_isKept 20 = .ok (.lcmp, 1) by decide +kernel) ?_
      by_cases c15 : (blcmp a 7823737) = 0
      · rw [if_pos c15] at h
        refine y_if_eq_t (tgt := 80) (show decode cX12_isKept 21 = .ok (.ifCond .eq 59, 3) by decide +kernel) rfl c15 ?_
        refine y_iconst (show decode cX12_isKept 80 = .ok (.iconst 1, 1) by decide +kernel) rfl ?_
        refine y_goto (tgt := 85) (show decode cX12_isKept 81 = .ok (.goto 4, 3) by decide +kernel) rfl ?_
        refine y_pick [0] rfl ?_
        exact hj2 _ h
      · rw [if_neg c15] at h
        refine y_if_eq_f (show decode cX12_isKept 21 = .ok (.ifCond .eq 59, 3) by decide +kernel) c15 (by decide) ?_
        refine y_lload_n (show decode cX12_isKept 24 = .ok (.lload_n 0, 1) by decide +kernel) 0 rfl ?_
        refine y_ldc2 (k := 30796695599342963) (show decode cX12_isKept 25 = .ok (.ldc2_w 207, 3) by decide +kernel) q7_94 rfl rfl ?_
        refine y_lcmp (show decode cX12_isKept 28 = .ok (.lcmp, 1) by decide +kernel) ?_
        by_cases c16 : (blcmp a 30796695599342963) = 0
        · rw [if_pos c16] at h
          refine y_if_eq_t (tgt := 80) (show decode cX12_isKept 29 = .ok (.ifCond .eq 51, 3) by decide +kernel) rfl c16 ?_
          refine y_iconst (show decode cX12_isKept 80 = .ok (.iconst 1, 1) by decide +kernel) rfl ?_
          refine y_goto (tgt := 85) (show decode cX12_isKept 81 = .ok (.goto 4, 3) by decide +kernel) rfl ?_
          refine y_pick [0] rfl ?_
          exact hj2 _ h
        · rw [if_neg c16] at h
          refine y_if_eq_f (show decode cX12_isKept 29 = .ok (.ifCond .eq 51, 3) by decide +kernel) c16 (by decide) ?_
          refine y_lload_n (show decode cX12_isKept 32 = .ok (.lload_n 0, 1) by decide +kernel) 0 rfl ?_
          refine y_ldc2 (k := 123581014175598) (show decode cX12_isKept 33 = .ok (.ldc2_w 209, 3) by decide +kernel) q7_95 rfl rfl ?_
          refine y_lcmp (show decode cX12_isKept 36 = .ok (.lcmp, 1) by decide +kernel) ?_
          by_cases c17 : (blcmp a 123581014175598) = 0
          · rw [if_pos c17] at h
            refine y_if_eq_t (tgt := 80) (show decode cX12_isKept 37 = .ok (.ifCond .eq 43, 3) by decide +kernel) rfl c17 ?_
            refine y_iconst (show decode cX12_isKept 80 = .ok (.iconst 1, 1) by decide +kernel) rfl ?_
            refine y_goto (tgt := 85) (show decode cX12_isKept 81 = .ok (.goto 4, 3) by decide +kernel) rfl ?_
            refine y_pick [0] rfl ?_
            exact hj2 _ h
          · rw [if_neg c17] at h
            refine y_if_eq_f (show decode cX12_isKept 37 = .ok (.ifCond .eq 43, 3) by decide +kernel) c17 (by decide) ?_
            refine y_lload_n (show decode cX12_isKept 40 = .ok (.lload_n 0, 1) by decide +kernel) 0 rfl ?_
            refine y_ldc2 (k := 24948) (show decode cX12_isKept 41 = .ok (.ldc2_w 211, 3) by decide +kernel) q7_96 rfl rfl ?_
            refine y_lcmp (show decode cX12_isKept 44 = .ok (.lcmp, 1) by decide +kernel) ?_
            by_cases c18 : (blcmp a 24948) = 0
            · rw [if_pos c18] at h
              refine y_if_eq_t (tgt := 80) (show decode cX12_isKept 45 = .ok (.ifCond .eq 35, 3) by decide +kernel) rfl c18 ?_
              refine y_iconst (show decode cX12_isKept 80 = .ok (.iconst 1, 1) by decide +kernel) rfl ?_
              refine y_goto (tgt := 85) (show decode cX12_isKept 81 = .ok (.goto 4, 3) by decide +kernel) rfl ?_
              refine y_pick [0] rfl ?_
              exact hj2 _ h
            · rw [if_neg c18] at h
              refine y_if_eq_f (show decode cX12_isKept 45 = .ok (.ifCond .eq 35, 3) by decide +kernel) c18 (by decide) ?_
              refine y_lload_n (show decode cX12_isKept 48 = .ok (.lload_n 0, 1) by decide +kernel) 0 rfl ?_
              refine y_ldc2 (k := 1751741029) (show decode cX12_isKept 49 = .ok (.ldc2_w 213, 3) by decide +kernel) q7_97 rfl rfl ?_
              refine y_lcmp (show decode cX12_isKept 52 = .ok (.lcmp, 1) by decide +kernel) ?_
              by_cases c19 : (blcmp a 1751741029) = 0
              · rw [if_pos c19] at h
                refine y_if_eq_t (tgt := 80) (show decode cX12_isKept 53 = .ok (.ifCond .eq 27, 3) by decide +kernel) rfl c19 ?_
                refine y_iconst (show decode cX12_isKept 80 = .ok (.iconst 1, 1) by decide +kernel) rfl ?_
                refine y_goto (tgt := 85) (show decode cX12_isKept 81 = .ok (.goto 4, 3) by decide +kernel) rfl ?_
                refine y_pick [0] rfl ?_
                exact hj2 _ h
              · rw [if_neg c19] at h
                refine y_if_eq_f (show decode cX12_isKept 53 = .ok (.ifCond .eq 27, 3) by decide +kernel) c19 (by decide) ?_
                refine y_lload_n (show decode cX12_isKept 56 = .ok (.lload_n 0, 1) by decide +kernel) 0 rfl ?_
                refine y_ldc2 (k := 6582119) (show decode cX12_isKept 57 = .ok (.ldc2_w 215, 3) by decide +kernel) q7_98 rfl rfl ?_
                refine y_lcmp (show decode cX12_isKept 60 = .ok (.lcmp, 1) by decide +kernel) ?_
                by_cases c20 : (blcmp a 6582119) = 0
                · rw [if_pos c20] at h
                  refine y_if_eq_t (tgt := 80) (show decode cX12_isKept 61 = .ok (.ifCond .eq 19, 3) by decide +kernel) rfl c20 ?_
                  refine y_iconst (show decode cX12_isKept 80 = .ok (.iconst 1, 1) by decide +kernel) rfl ?_
                  refine y_goto (tgt := 85) (show decode cX12_isKept 81 = .ok (.goto 4, 3) by decide +kernel) rfl ?_
                  refine y_pick [0] rfl ?_
                  exact hj2 _ h
                · rw [if_neg c20] at h
                  refine y_if_eq_f (show decode cX12_isKept 61 = .ok (.ifCond .eq 19, 3) by decide +kernel) c20 (by decide) ?_
                  refine y_lload_n (show decode cX12_isKept 64 = .ok (.lload_n 0, 1) by decide +kernel) 0 rfl ?_
                  refine y_ldc2 (k := 111542219664996) (show decode cX12_isKept 65 = .ok (.ldc2_w 217, 3) by decide +kernel) q7_99 rfl rfl ?_
                  refine y_lcmp (show decode cX12_isKept 68 = .ok (.lcmp, 1) by decide +kernel) ?_
                  by_cases c21 : (blcmp a 111542219664996) = 0
                  · rw [if_pos c21] at h
                    refine y_if_eq_t (tgt := 80) (show decode cX12_isKept 69 = .ok (.ifCond .eq 11, 3) by decide +kernel) rfl c21 ?_
                    refine y_iconst (show decode cX12_isKept 80 = .ok (.iconst 1, 1) by decide +kernel) rfl ?_
                    refine y_goto (tgt := 85) (show decode cX12_isKept 81 = .ok (.goto 4, 3) by decide +kernel) rfl ?_
                    refine y_pick [0] rfl ?_
                    exact hj2 _ h
                  · rw [if_neg c21] at h
                    refine y_if_eq_f (show decode cX12_isKept 69 = .ok (.ifCond .eq 11, 3) by decide +kernel) c21 (by decide) ?_
                    refine y_lload_n (show decode cX12_isKept 72 = .ok (.lload_n 0, 1) by decide +kernel) 0 rfl ?_
                    refine y_ldc2 (k := 126943973305189) (show decode cX12_isKept 73 = .ok (.ldc2_w 219, 3) by decide +kernel) q7_100 rfl rfl ?_
                    refine y_lcmp (show decode cX12_isKept 76 = .ok (.lcmp, 1) by decide +kernel) ?_
                    by_cases c22 : ¬ (blcmp a 126943973305189) = 0
                    · rw [if_pos c22] at h
                      refine y_if_ne_t (tgt := 84) (show decode cX12_isKept 77 = .ok (.ifCond .ne 7, 3) by decide +kernel) rfl c22 ?_
                      refine y_iconst (show decode cX12_isKept 84 = .ok (.iconst 0, 1) by decide +kernel) rfl ?_
                      refine y_pick [0] rfl ?_
                      exact hj2 _ h
                    · rw [if_neg c22] at h
                      refine y_if_ne_f (show decode cX12_isKept 77 = .ok (.ifCond .ne 7, 3) by decide +kernel) c22 (by decide) ?_
                      refine y_iconst (show decode cX12_isKept 80 = .ok (.iconst 1, 1) by decide +kernel) rfl ?_
                      refine y_goto (tgt := 85) (show decode cX12_isKept 81 = .ok (.goto 4, 3) by decide +kernel) rfl ?_
                      refine y_pick [0] rfl ?_
                      exact hj2 _ h
abbrev MX12_isSign : yM := (yX12_isSign, cX12_isSign, 1, some .boolean)
def mo_isSign (a : Int) (σ : ySt) : Option (Int) :=
  if a = 59 then
    some 1
  else
    if a = 40 then
      some 1
    else
      if a = 41 then
        some 1
      else
        if a = 60 then
          some 1
        else
          if a = 62 then
            some 1
          else
            if a = 61 then
              some 1
            else
              if a = 43 then
                some 1
              else
                if a = 45 then
                  some 1
                else
                  if a = 42 then
                    some 1
                  else
                    if ¬ a = 47 then
                      some 0
                    else
                      some 1
set_option maxHeartbeats 4000000 in
set_option maxRecDepth 10000 in
theorem sh_mo_isSign {E : yE} {a : Int} {σ : ySt} {ρ : Int} (h : mo_isSign a σ = some ρ) : Con E MX12_isSign 0 0 0 [.inl a] 150 (ov σ) (some (.inl ρ)) (ov σ) := by
  unfold mo_isSign at h
  refine Con.ofY (by decide +kernel) (by simp [yWords, yCat]) (fun hok _ => ?_)
  show Y E MX12_isSign (yRm 0 0 0) (yQf E (150 + 0) 0 0 (some (.inl ρ)) (ov σ)) 0 [(0, .inl a)] [] (ov σ) 150 0 0
  refine y_iload_n (show decode cX12_isSign 0 = .ok (.iload_n 0, 1) by decide +kernel) 0 rfl ?_
  refine y_bipush (show decode cX12_isSign 1 = .ok (.bipush 59, 2) by decide +kernel) rfl rfl ?_
  by_cases c1 : a = 59
  · rw [if_pos c1] at h
    refine y_icmp_eq_t (tgt := 60) (show decode cX12_isSign 3 = .ok (.if_icmp .eq 57, 3) by decide +kernel) rfl c1 ?_
    refine y_iconst (show decode cX12_isSign 60 = .ok (.iconst 1, 1) by decide +kernel) rfl ?_
    refine y_goto (tgt := 65) (show decode cX12_isSign 61 = .ok (.goto 4, 3) by decide +kernel) rfl ?_
    cases h
    exact y_zret (show decode cX12_isSign 65 = .ok (.ireturn, 1) by decide +kernel) rfl (Or.inr rfl)
  · rw [if_neg c1] at h
    refine y_icmp_eq_f (show decode cX12_isSign 3 = .ok (.if_icmp .eq 57, 3) by decide +kernel) c1 (by decide) ?_
    refine y_iload_n (show decode cX12_isSign 6 = .ok (.iload_n 0, 1) by decide +kernel) 0 rfl ?_
    refine y_bipush (show decode cX12_isSign 7 = .ok (.bipush 40, 2) by decide +kernel) rfl rfl ?_
    by_cases c2 : a = 40
    · rw [if_pos c2] at h
      refine y_icmp_eq_t (tgt := 60) (show decode cX12_isSign 9 = .ok (.if_icmp .eq 51, 3) by decide +kernel) rfl c2 ?_
      refine y_iconst (show decode cX12_isSign 60 = .ok (.iconst 1, 1) by decide +kernel) rfl ?_
      refine y_goto (tgt := 65) (show decode cX12_isSign 61 = .ok (.goto 4, 3) by decide +kernel) rfl ?_
      cases h
      exact y_zret (show decode cX12_isSign 65 = .ok (.ireturn, 1) by decide +kernel) rfl (Or.inr rfl)
    · rw [if_neg c2] at h
      refine y_icmp_eq_f (show decode cX12_isSign 9 = .ok (.if_icmp .eq 51, 3) by decide +kernel) c2 (by decide) ?_
      refine y_iload_n (show decode cX12_isSign 12 = .ok (.iload_n 0, 1) by decide +kernel) 0 rfl ?_
      refine y_bipush (show decode cX12_isSign 13 = .ok (.bipush 41, 2) by decide +kernel) rfl rfl ?_
      by_cases c3 : a = 41
      · rw [if_pos c3] at h
        refine y_icmp_eq_t (tgt := 60) (show decode cX12_isSign 15 = .ok (.if_icmp .eq 45, 3) by decide +kernel) rfl c3 ?_
        refine y_iconst (show decode cX12_isSign 60 = .ok (.iconst 1, 1) by decide +kernel) rfl ?_
        refine y_goto (tgt := 65) (show decode cX12_isSign 61 = .ok (.goto 4, 3) by decide +kernel) rfl ?_
        cases h
        exact y_zret (show decode cX12_isSign 65 = .ok (.ireturn, 1) by decide +kernel) rfl (Or.inr rfl)
      · rw [if_neg c3] at h
        refine y_icmp_eq_f (show decode cX12_isSign 15 = .ok (.if_icmp .eq 45, 3) by decide +kernel) c3 (by decide) ?_
        refine y_iload_n (show decode cX12_isSign 18 = .ok (.iload_n 0, 1) by decide +kernel) 0 rfl ?_
        refine y_bipush (show decode cX12_isSign 19 = .ok (.bipush 60, 2) by decide +kernel) rfl rfl ?_
        by_cases c4 : a = 60
        · rw [if_pos c4] at h
          refine y_icmp_eq_t (tgt := 60) (show decode cX12_isSign 21 = .ok (.if_icmp .eq 39, 3) by decide +kernel) rfl c4 ?_
          refine y_iconst (show decode cX12_isSign 60 = .ok (.iconst 1, 1) by decide +kernel) rfl ?_
          refine y_goto (tgt := 65) (show decode cX12_isSign 61 = .ok (.goto 4, 3) by decide +kernel) rfl ?_
          cases h
          exact y_zret (show decode cX12_isSign 65 = .ok (.ireturn, 1) by decide +kernel) rfl (Or.inr rfl)
        · rw [if_neg c4] at h
          refine y_icmp_eq_f (show decode cX12_isSign 21 = .ok (.if_icmp .eq 39, 3) by decide +kernel) c4 (by decide) ?_
          refine y_iload_n (show decode cX12_isSign 24 = .ok (.iload_n 0, 1) by decide +kernel) 0 rfl ?_
          refine y_bipush (show decode cX12_isSign 25 = .ok (.bipush 62, 2) by decide +kernel) rfl rfl ?_
          by_cases c5 : a = 62
          · rw [if_pos c5] at h
            refine y_icmp_eq_t (tgt := 60) (show decode cX12_isSign 27 = .ok (.if_icmp .eq 33, 3) by decide +kernel) rfl c5 ?_
            refine y_iconst (show decode cX12_isSign 60 = .ok (.iconst 1, 1) by decide +kernel) rfl ?_
            refine y_goto (tgt := 65) (show decode cX12_isSign 61 = .ok (.goto 4, 3) by decide +kernel) rfl ?_
            cases h
            exact y_zret (show decode cX12_isSign 65 = .ok (.ireturn, 1) by decide +kernel) rfl (Or.inr rfl)
          · rw [if_neg c5] at h
            refine y_icmp_eq_f (show decode cX12_isSign 27 = .ok (.if_icmp .eq 33, 3) by decide +kernel) c5 (by decide) ?_
            refine y_iload_n (show decode cX12_isSign 30 = .ok (.iload_n 0, 1) by decide +kernel) 0 rfl ?_
            refine y_bipush (show decode cX12_isSign 31 = .ok (.bipush 61, 2) by decide +kernel) rfl rfl ?_
            by_cases c6 : a = 61
            · rw [if_pos c6] at h
              refine y_icmp_eq_t (tgt := 60) (show decode cX12_isSign 33 = .ok (.if_icmp .eq 27, 3) by decide +kernel) rfl c6 ?_
              refine y_iconst (show decode cX12_isSign 60 = .ok (.iconst 1, 1) by decide +kernel) rfl ?_
              refine y_goto (tgt := 65) (show decode cX12_isSign 61 = .ok (.goto 4, 3) by decide +kernel) rfl ?_
              cases h
              exact y_zret (show decode cX12_isSign 65 = .ok (.ireturn, 1) by decide +kernel) rfl (Or.inr rfl)
            · rw [if_neg c6] at h
              refine y_icmp_eq_f (show decode cX12_isSign 33 = .ok (.if_icmp .eq 27, 3) by decide +kernel) c6 (by decide) ?_
              refine y_iload_n (show decode cX12_isSign 36 = .ok (.iload_n 0, 1) by decide +kernel) 0 rfl ?_
              refine y_bipush (show decode cX12_isSign 37 = .ok (.bipush 43, 2) by decide +kernel) rfl rfl ?_
              by_cases c7 : a = 43
              · rw [if_pos c7] at h
                refine y_icmp_eq_t (tgt := 60) (show decode cX12_isSign 39 = .ok (.if_icmp .eq 21, 3) by decide +kernel) rfl c7 ?_
                refine y_iconst (show decode cX12_isSign 60 = .ok (.iconst 1, 1) by decide +kernel) rfl ?_
                refine y_goto (tgt := 65) (show decode cX12_isSign 61 = .ok (.goto 4, 3) by decide +kernel) rfl ?_
                cases h
                exact y_zret (show decode cX12_isSign 65 = .ok (.ireturn, 1) by decide +kernel) rfl (Or.inr rfl)
              · rw [if_neg c7] at h
                refine y_icmp_eq_f (show decode cX12_isSign 39 = .ok (.if_icmp .eq 21, 3) by decide +kernel) c7 (by decide) ?_
                refine y_iload_n (show decode cX12_isSign 42 = .ok (.iload_n 0, 1) by decide +kernel) 0 rfl ?_
                refine y_bipush (show decode cX12_isSign 43 = .ok (.bipush 45, 2) by decide +kernel) rfl rfl ?_
                by_cases c8 : a = 45
                · rw [if_pos c8] at h
                  refine y_icmp_eq_t (tgt := 60) (show decode cX12_isSign 45 = .ok (.if_icmp .eq 15, 3) by decide +kernel) rfl c8 ?_
                  refine y_iconst (show decode cX12_isSign 60 = .ok (.iconst 1, 1) by decide +kernel) rfl ?_
                  refine y_goto (tgt := 65) (show decode cX12_isSign 61 = .ok (.goto 4, 3) by decide +kernel) rfl ?_
                  cases h
                  exact y_zret (show decode cX12_isSign 65 = .ok (.ireturn, 1) by decide +kernel) rfl (Or.inr rfl)
                · rw [if_neg c8] at h
                  refine y_icmp_eq_f (show decode cX12_isSign 45 = .ok (.if_icmp .eq 15, 3) by decide +kernel) c8 (by decide) ?_
                  refine y_iload_n (show decode cX12_isSign 48 = .ok (.iload_n 0, 1) by decide +kernel) 0 rfl ?_
                  refine y_bipush (show decode cX12_isSign 49 = .ok (.bipush 42, 2) by decide +kernel) rfl rfl ?_
                  by_cases c9 : a = 42
                  · rw [if_pos c9] at h
                    refine y_icmp_eq_t (tgt := 60) (show decode cX12_isSign 51 = .ok (.if_icmp .eq 9, 3) by decide +kernel) rfl c9 ?_
                    refine y_iconst (show decode cX12_isSign 60 = .ok (.iconst 1, 1) by decide +kernel) rfl ?_
                    refine y_goto (tgt := 65) (show decode cX12_isSign 61 = .ok (.goto 4, 3) by decide +kernel) rfl ?_
                    cases h
                    exact y_zret (show decode cX12_isSign 65 = .ok (.ireturn, 1) by decide +kernel) rfl (Or.inr rfl)
                  · rw [if_neg c9] at h
                    refine y_icmp_eq_f (show decode cX12_isSign 51 = .ok (.if_icmp .eq 9, 3) by decide +kernel) c9 (by decide) ?_
                    refine y_iload_n (show decode cX12_isSign 54 = .ok (.iload_n 0, 1) by decide +kernel) 0 rfl ?_
                    refine y_bipush (show decode cX12_isSign 55 = .ok (.bipush 47, 2) by decide +kernel) rfl rfl ?_
                    by_cases c10 : ¬ a = 47
                    · rw [if_pos c10] at h
                      refine y_icmp_ne_t (tgt := 64) (show decode cX12_isSign 57 = .ok (.if_icmp .ne 7, 3) by decide +kernel) rfl c10 ?_
                      refine y_iconst (show decode cX12_isSign 64 = .ok (.iconst 0, 1) by decide +kernel) rfl ?_
                      cases h
                      exact y_zret (show decode cX12_isSign 65 = .ok (.ireturn, 1) by decide +kernel) rfl (Or.inl rfl)
                    · rw [if_neg c10] at h
                      refine y_icmp_ne_f (show decode cX12_isSign 57 = .ok (.if_icmp .ne 7, 3) by decide +kernel) c10 (by decide) ?_
                      refine y_iconst (show decode cX12_isSign 60 = .ok (.iconst 1, 1) by decide +kernel) rfl ?_
                      refine y_goto (tgt := 65) (show decode cX12_isSign 61 = .ok (.goto 4, 3) by decide +kernel) rfl ?_
                      cases h
                      exact y_zret (show decode cX12_isSign 65 = .ok (.ireturn, 1) by decide +kernel) rfl (Or.inr rfl)
abbrev MX12_goOn : yM := (yX12_goOn, cX12_goOn, 3, none)
def mo_goOn (N : Nat) (σ : ySt) : Option (ySt) :=
  bnd (yset σ 92 6 (σ 92 7)) fun σ1 =>
  loopS0 (fun k4 σ3 =>
    bnd (bndO (mo_sign (σ3 92 6) σ3) fun r7 =>
      chkI ((σ3 92 6) + 1) <|
      bnd (yset σ3 92 7 ((σ3 92 6) + 1)) fun σ9 =>
      if (σ9 92 6) < (σ9 92 3) then
        bndO (mo_isLetter r7 σ9) fun r13 =>
        if r13 = 0 then
          bndO (mo_isDigit r7 σ9) fun r16 =>
          if r16 = 0 then
            bndO (mo_isSign r7 σ9) fun r19 =>
            bnd (fun (y20 : Int) =>
              bnd (yset σ9 92 8 y20) fun σ22 =>
              some σ22) fun j21 =>
            if r19 = 0 then
              j21 1
            else
              j21 5
          else
            bnd (yset σ9 92 9 0) fun σ25 =>
            bnd (yset σ25 92 7 (σ25 92 6)) fun σ27 =>
            loopS0 (fun k30 σ29 =>
              bndO (mo_sign (σ29 92 7) σ29) fun r32 =>
              bndO (mo_isDigit r32 σ29) fun r34 =>
              if r34 = 0 then
                chkI ((σ29 92 7) - (σ29 92 6)) <|
                bnd (fun (y37 : Int) =>
                  bnd (yset σ29 92 8 y37) fun σ39 =>
                  some σ39) fun j38 =>
                if ((σ29 92 7) - (σ29 92 6)) > 4 then
                  j38 1
                else
                  bndO (mo_sign (σ29 92 7) σ29) fun r43 =>
                  bndO (mo_isLetter r43 σ29) fun r45 =>
                  if r45 = 0 then
                    j38 4
                  else
                    j38 1
              else
                chkI ((σ29 92 7) - (σ29 92 6)) <|
                bnd (fun (σ48 : ySt) =>
                  chkI ((σ48 92 7) + 1) <|
                  bnd (yset σ48 92 7 ((σ48 92 7) + 1)) fun σ51 =>
                  k30 σ51) fun j49 =>
                if ((σ29 92 7) - (σ29 92 6)) ≥ 4 then
                  j49 σ29
                else
                  chkI (10 * (σ29 92 9)) <|
                  bndO (mo_sign (σ29 92 7) σ29) fun r56 =>
                  chkI ((10 * (σ29 92 9)) + r56) <|
                  chkI (((10 * (σ29 92 9)) + r56) - 48) <|
                  bnd (yset σ29 92 9 (((10 * (σ29 92 9)) + r56) - 48)) fun σ59 =>
                  j49 σ59) N σ27
        else
          loopS0 (fun k62 σ61 =>
            bndO (mo_sign (σ61 92 7) σ61) fun r64 =>
            bndO (mo_isLetter r64 σ61) fun r66 =>
            if r66 = 0 then
              bnd (yset σ61 92 10 0) fun σ68 =>
              loopS1 (fun k72 x70 σ71 =>
                bnd (chkI ((σ71 92 7) - (σ71 92 6)) <|
                  bnd (fun (y75 : Int) =>
                    bnd (yset σ71 92 8 y75) fun σ77 =>
                    some σ77) fun j76 =>
                  if ((σ71 92 7) - (σ71 92 6)) ≤ 8 then
                    bndO (mo_isKept (σ71 92 10) σ71) fun r81 =>
                    if r81 = 0 then
                      j76 2
                    else
                      j76 3
                  else
                    j76 1) fun j73 =>
                if x70 ≥ (σ71 92 7) then
                  j73
                else
                  chkI ((σ71 92 6) + 8) <|
                  if x70 ≥ ((σ71 92 6) + 8) then
                    j73
                  else
                    bndO (mo_sign x70 σ71) fun r87 =>
                    bnd (yset σ71 92 10 (b64or (b64shl (σ71 92 10) 8) (bi2l r87))) fun σ88 =>
                    chkI (x70 + 1) <|
                    k72 (x70 + 1) σ88) N (σ68 92 6) σ68
            else
              chkI ((σ61 92 7) + 1) <|
              bnd (yset σ61 92 7 ((σ61 92 7) + 1)) fun σ92 =>
              k62 σ92) N σ9
      else
        bnd (yset σ9 92 8 0) fun σ94 =>
        bnd (yset σ94 92 6 (σ94 92 3)) fun σ96 =>
        bnd (yset σ96 92 7 (σ96 92 3)) fun σ98 =>
        some σ98) fun j5 =>
    if (σ3 92 6) ≥ (σ3 92 3) then
      j5
    else
      bndO (mo_sign (σ3 92 6) σ3) fun r102 =>
      bnd (chkI ((σ3 92 6) + 1) <|
        bnd (yset σ3 92 6 ((σ3 92 6) + 1)) fun σ105 =>
        k4 σ105) fun j103 =>
      if r102 = 32 then
        j103
      else
        bndO (mo_sign (σ3 92 6) σ3) fun r109 =>
        if ¬ r109 = 10 then
          j5
        else
          j103) N σ1
set_option maxHeartbeats 4000000 in
set_option maxRecDepth 10000 in
theorem sh_mo_goOn {E : yE} {N : Nat} {σ : ySt} {τ : ySt} (h : mo_goOn N σ = some τ) : Con E MX12_goOn 1 0 0 [.inr (.inr (92 + 1))] 150 (ov σ) none (ov τ) := by
  unfold mo_goOn at h
  refine Con.ofY (by decide +kernel) (by simp [yWords, yCat]) (fun hok _ => ?_)
  show Y E MX12_goOn (yRm 1 0 0) (yQf E (150 + 0) 0 0 none (ov τ)) 0 [(0, .inr (.inr (92 + 1)))] [] (ov σ) 150 0 0
  refine y_aload_n (show decode cX12_goOn 0 = .ok (.aload_n 0, 1) by decide +kernel) 0 rfl ?_
  refine y_aload_n (show decode cX12_goOn 1 = .ok (.aload_n 0, 1) by decide +kernel) 0 rfl ?_
  refine y_getf 92 12 7 239 (by decide) rfl (by decide) (by decide) q6_54 (show decode cX12_goOn 2 = .ok (.getfield 239, 3) by decide +kernel) (v := .inl (σ 92 7)) rfl ?_
  obtain ⟨σ1, e2, h⟩ := bnd_i h
  refine yo_putI 92 12 6 242 (by decide) rfl (by decide) (by decide) q6_53 rfl (show decode cX12_goOn 5 = .ok (.putfield 242, 3) by decide +kernel) rfl rfl (ov_set1 e2 rfl) ?_
  refine y_pick [0] rfl ?_
  refine loopS0_ind (P := fun σ3 => Y E MX12_goOn (yRm 1 0 0) (yQf E (150 + 0) 0 0 none (ov τ)) 8 [(0, .inr (.inr (92 + 1)))] [] (ov σ3) 150 0 0) (fun k4 hk4 σ3 h => ?_) _ _  h
  refine y_aload_n (show decode cX12_goOn 8 = .ok (.aload_n 0, 1) by decide +kernel) 0 rfl ?_
  refine y_getf 92 12 6 242 (by decide) rfl (by decide) (by decide) q6_53 (show decode cX12_goOn 9 = .ok (.getfield 242, 3) by decide +kernel) (v := .inl (σ3 92 6)) rfl ?_
  refine y_aload_n (show decode cX12_goOn 12 = .ok (.aload_n 0, 1) by decide +kernel) 0 rfl ?_
  refine y_getf 92 12 3 195 (by decide) rfl (by decide) (by decide) q6_50 (show decode cX12_goOn 13 = .ok (.getfield 195, 3) by decide +kernel) (v := .inl (σ3 92 3)) rfl ?_
  refine bnd_j (Q := fun j5 => j5 = some τ → Y E MX12_goOn (yRm 1 0 0) (yQf E (150 + 0) 0 0 none (ov τ)) 58 [(0, .inr (.inr (92 + 1)))] [] (ov σ3) 150 0 0) (fun h => ?_) (fun j5 hj5 h => ?_) h
  · refine y_aload_n (show decode cX12_goOn 58 = .ok (.aload_n 0, 1) by decide +kernel) 0 rfl ?_
    refine y_aload_n (show decode cX12_goOn 59 = .ok (.aload_n 0, 1) by decide +kernel) 0 rfl ?_
    refine y_getf 92 12 6 242 (by decide) rfl (by decide) (by decide) q6_53 (show decode cX12_goOn 60 = .ok (.getfield 242, 3) by decide +kernel) (v := .inl (σ3 92 6)) rfl ?_
    obtain ⟨r7, e6, h⟩ := bndO_some h
    refine y_callV (np := 1) (st := []) (as := [.inl (σ3 92 6)]) 92 12 (sh_mo_sign e6) q7_84 q7_81 q7_83 qs4_5 q1_15 (by decide) rfl (by decide) rfl (by decide) (by decide +kernel) (by decide) rfl (Nat.le_of_ble_eq_true rfl) (show decode cX12_goOn 63 = .ok (.invokevirtual 245, 3) by decide +kernel) rfl ?_
    refine y_istore_n (show decode cX12_goOn 66 = .ok (.istore_n 1, 1) by decide +kernel) rfl (L1 := [(1, .inl r7), (0, .inr (.inr (92 + 1)))]) rfl ?_
    refine y_aload_n (show decode cX12_goOn 67 = .ok (.aload_n 0, 1) by decide +kernel) 1 rfl ?_
    refine y_aload_n (show decode cX12_goOn 68 = .ok (.aload_n 0, 1) by decide +kernel) 1 rfl ?_
    refine y_getf 92 12 6 242 (by decide) rfl (by decide) (by decide) q6_53 (show decode cX12_goOn 69 = .ok (.getfield 242, 3) by decide +kernel) (v := .inl (σ3 92 6)) rfl ?_
    refine y_iconst (show decode cX12_goOn 72 = .ok (.iconst 1, 1) by decide +kernel) rfl ?_
    obtain ⟨c8, h⟩ := chkI_some h
    refine y_iadd (show decode cX12_goOn 73 = .ok (.iadd, 1) by decide +kernel) c8 ?_
    obtain ⟨σ9, e10, h⟩ := bnd_i h
    refine yo_putI 92 12 7 239 (by decide) rfl (by decide) (by decide) q6_54 rfl (show decode cX12_goOn 74 = .ok (.putfield 239, 3) by decide +kernel) rfl rfl (ov_set1 e10 rfl) ?_
    refine y_aload_n (show decode cX12_goOn 77 = .ok (.aload_n 0, 1) by decide +kernel) 1 rfl ?_
    refine y_getf 92 12 6 242 (by decide) rfl (by decide) (by decide) q6_53 (show decode cX12_goOn 78 = .ok (.getfield 242, 3) by decide +kernel) (v := .inl (σ9 92 6)) rfl ?_
    refine y_aload_n (show decode cX12_goOn 81 = .ok (.aload_n 0, 1) by decide +kernel) 1 rfl ?_
    refine y_getf 92 12 3 195 (by decide) rfl (by decide) (by decide) q6_50 (show decode cX12_goOn 82 = .ok (.getfield 195, 3) by decide +kernel) (v := .inl (σ9 92 3)) rfl ?_
    by_cases c11 : (σ9 92 6) < (σ9 92 3)
    · rw [if_pos c11] at h
      refine y_icmp_lt_t (tgt := 112) (show decode cX12_goOn 85 = .ok (.if_icmp .lt 27, 3) by decide +kernel) rfl c11 ?_
      refine y_iload_n (show decode cX12_goOn 112 = .ok (.iload_n 1, 1) by decide +kernel) 0 rfl ?_
      obtain ⟨r13, e12, h⟩ := bndO_some h
      refine y_callS (np := 1) (st := []) (as := [.inl r7]) (sh_mo_isLetter e12) q7_87 q7_85 q7_86 q1_15 (by decide) (by decide +kernel) (by decide) rfl (Nat.le_of_ble_eq_true rfl) (show decode cX12_goOn 113 = .ok (.invokestatic 252, 3) by decide +kernel) rfl ?_
      by_cases c14 : r13 = 0
      · rw [if_pos c14] at h
        refine y_if_eq_t (tgt := 239) (show decode cX12_goOn 116 = .ok (.ifCond .eq 123, 3) by decide +kernel) rfl c14 ?_
        refine y_iload_n (show decode cX12_goOn 239 = .ok (.iload_n 1, 1) by decide +kernel) 0 rfl ?_
        obtain ⟨r16, e15, h⟩ := bndO_some h
        refine y_callS (np := 1) (st := []) (as := [.inl r7]) (sh_mo_isDigit e15) q7_112 q7_110 q7_111 q1_15 (by decide) (by decide +kernel) (by decide) rfl (Nat.le_of_ble_eq_true rfl) (show decode cX12_goOn 240 = .ok (.invokestatic 264, 3) by decide +kernel) rfl ?_
        by_cases c17 : r16 = 0
        · rw [if_pos c17] at h
          refine y_if_eq_t (tgt := 361) (show decode cX12_goOn 243 = .ok (.ifCond .eq 118, 3) by decide +kernel) rfl c17 ?_
          refine y_aload_n (show decode cX12_goOn 361 = .ok (.aload_n 0, 1) by decide +kernel) 1 rfl ?_
          refine y_iload_n (show decode cX12_goOn 362 = .ok (.iload_n 1, 1) by decide +kernel) 0 rfl ?_
          obtain ⟨r19, e18, h⟩ := bndO_some h
          refine y_callS (np := 1) (st := [.inr (.inr (92 + 1))]) (as := [.inl r7]) (sh_mo_isSign e18) q7_115 q7_113 q7_114 q1_15 (by decide) (by decide +kernel) (by decide) rfl (Nat.le_of_ble_eq_true rfl) (show decode cX12_goOn 363 = .ok (.invokestatic 270, 3) by decide +kernel) rfl ?_
          refine bnd_j (Q := fun j21 => ∀ (y20 : Int), j21 y20 = some τ → Y E MX12_goOn (yRm 1 0 0) (yQf E (150 + 0) 0 0 none (ov τ)) 374 [] [.inl y20, .inr (.inr (92 + 1))] (ov σ9) 150 0 0) (fun y20 h => ?_) (fun j21 hj21 h => ?_) h
          · dsimp only at h
            obtain ⟨σ22, e23, h⟩ := bnd_i h
            refine yo_putI 92 12 8 249 (by decide) rfl (by decide) (by decide) q6_55 rfl (show decode cX12_goOn 374 = .ok (.putfield 249, 3) by decide +kernel) rfl rfl (ov_set1 e23 rfl) ?_
            cases h
            exact y_vret (show decode cX12_goOn 377 = .ok (.return_, 1) by decide +kernel) rfl
          by_cases c24 : r19 = 0
          · rw [if_pos c24] at h
            refine y_if_eq_t (tgt := 373) (show decode cX12_goOn 366 = .ok (.ifCond .eq 7, 3) by decide +kernel) rfl c24 ?_
            refine y_iconst (show decode cX12_goOn 373 = .ok (.iconst 1, 1) by decide +kernel) rfl ?_
            refine y_pick [] rfl ?_
            exact hj21 _ h
          · rw [if_neg c24] at h
            refine y_if_eq_f (show decode cX12_goOn 366 = .ok (.ifCond .eq 7, 3) by decide +kernel) c24 (by decide) ?_
            refine y_iconst (show decode cX12_goOn 369 = .ok (.iconst 5, 1) by decide +kernel) rfl ?_
            refine y_goto (tgt := 374) (show decode cX12_goOn 370 = .ok (.goto 4, 3) by decide +kernel) rfl ?_
            refine y_pick [] rfl ?_
            exact hj21 _ h
        · rw [if_neg c17] at h
          refine y_if_eq_f (show decode cX12_goOn 243 = .ok (.ifCond .eq 118, 3) by decide +kernel) c17 (by decide) ?_
          refine y_aload_n (show decode cX12_goOn 246 = .ok (.aload_n 0, 1) by decide +kernel) 1 rfl ?_
          refine y_iconst (show decode cX12_goOn 247 = .ok (.iconst 0, 1) by decide +kernel) rfl ?_
          obtain ⟨σ25, e26, h⟩ := bnd_i h
          refine yo_putI 92 12 9 267 (by decide) rfl (by decide) (by decide) q6_56 rfl (show decode cX12_goOn 248 = .ok (.putfield 267, 3) by decide +kernel) rfl rfl (ov_set1 e26 rfl) ?_
          refine y_aload_n (show decode cX12_goOn 251 = .ok (.aload_n 0, 1) by decide +kernel) 1 rfl ?_
          refine y_aload_n (show decode cX12_goOn 252 = .ok (.aload_n 0, 1) by decide +kernel) 1 rfl ?_
          refine y_getf 92 12 6 242 (by decide) rfl (by decide) (by decide) q6_53 (show decode cX12_goOn 253 = .ok (.getfield 242, 3) by decide +kernel) (v := .inl (σ25 92 6)) rfl ?_
          obtain ⟨σ27, e28, h⟩ := bnd_i h
          refine yo_putI 92 12 7 239 (by decide) rfl (by decide) (by decide) q6_54 rfl (show decode cX12_goOn 256 = .ok (.putfield 239, 3) by decide +kernel) rfl rfl (ov_set1 e28 rfl) ?_
          refine y_pick [1] rfl ?_
          refine loopS0_ind (P := fun σ29 => Y E MX12_goOn (yRm 1 0 0) (yQf E (150 + 0) 0 0 none (ov τ)) 259 [(0, .inr (.inr (92 + 1)))] [] (ov σ29) 150 0 0) (fun k30 hk30 σ29 h => ?_) _ _  h
          refine y_aload_n (show decode cX12_goOn 259 = .ok (.aload_n 0, 1) by decide +kernel) 0 rfl ?_
          refine y_aload_n (show decode cX12_goOn 260 = .ok (.aload_n 0, 1) by decide +kernel) 0 rfl ?_
          refine y_getf 92 12 7 239 (by decide) rfl (by decide) (by decide) q6_54 (show decode cX12_goOn 261 = .ok (.getfield 239, 3) by decide +kernel) (v := .inl (σ29 92 7)) rfl ?_
          obtain ⟨r32, e31, h⟩ := bndO_some h
          refine y_callV (np := 1) (st := []) (as := [.inl (σ29 92 7)]) 92 12 (sh_mo_sign e31) q7_84 q7_81 q7_83 qs4_5 q1_15 (by decide) rfl (by decide) rfl (by decide) (by decide +kernel) (by decide) rfl (Nat.le_of_ble_eq_true rfl) (show decode cX12_goOn 264 = .ok (.invokevirtual 245, 3) by decide +kernel) rfl ?_
          obtain ⟨r34, e33, h⟩ := bndO_some h
          refine y_callS (np := 1) (st := []) (as := [.inl r32]) (sh_mo_isDigit e33) q7_112 q7_110 q7_111 q1_15 (by decide) (by decide +kernel) (by decide) rfl (Nat.le_of_ble_eq_true rfl) (show decode cX12_goOn 267 = .ok (.invokestatic 264, 3) by decide +kernel) rfl ?_
          by_cases c35 : r34 = 0
          · rw [if_pos c35] at h
            refine y_if_eq_t (tgt := 322) (show decode cX12_goOn 270 = .ok (.ifCond .eq 52, 3) by decide +kernel) rfl c35 ?_
            refine y_aload_n (show decode cX12_goOn 322 = .ok (.aload_n 0, 1) by decide +kernel) 0 rfl ?_
            refine y_aload_n (show decode cX12_goOn 323 = .ok (.aload_n 0, 1) by decide +kernel) 0 rfl ?_
            refine y_getf 92 12 7 239 (by decide) rfl (by decide) (by decide) q6_54 (show decode cX12_goOn 324 = .ok (.getfield 239, 3) by decide +kernel) (v := .inl (σ29 92 7)) rfl ?_
            refine y_aload_n (show decode cX12_goOn 327 = .ok (.aload_n 0, 1) by decide +kernel) 0 rfl ?_
            refine y_getf 92 12 6 242 (by decide) rfl (by decide) (by decide) q6_53 (show decode cX12_goOn 328 = .ok (.getfield 242, 3) by decide +kernel) (v := .inl (σ29 92 6)) rfl ?_
            obtain ⟨c36, h⟩ := chkI_some h
            refine y_isub (show decode cX12_goOn 331 = .ok (.isub, 1) by decide +kernel) c36 ?_
            refine y_iconst (show decode cX12_goOn 332 = .ok (.iconst 4, 1) by decide +kernel) rfl ?_
            refine bnd_j (Q := fun j38 => ∀ (y37 : Int), j38 y37 = some τ → Y E MX12_goOn (yRm 1 0 0) (yQf E (150 + 0) 0 0 none (ov τ)) 355 [] [.inl y37, .inr (.inr (92 + 1))] (ov σ29) 150 0 0) (fun y37 h => ?_) (fun j38 hj38 h => ?_) h
            · dsimp only at h
              obtain ⟨σ39, e40, h⟩ := bnd_i h
              refine yo_putI 92 12 8 249 (by decide) rfl (by decide) (by decide) q6_55 rfl (show decode cX12_goOn 355 = .ok (.putfield 249, 3) by decide +kernel) rfl rfl (ov_set1 e40 rfl) ?_
              refine y_goto (tgt := 377) (show decode cX12_goOn 358 = .ok (.goto 19, 3) by decide +kernel) rfl ?_
              cases h
              exact y_vret (show decode cX12_goOn 377 = .ok (.return_, 1) by decide +kernel) rfl
            by_cases c41 : ((σ29 92 7) - (σ29 92 6)) > 4
            · rw [if_pos c41] at h
              refine y_icmp_gt_t (tgt := 350) (show decode cX12_goOn 333 = .ok (.if_icmp .gt 17, 3) by decide +kernel) rfl c41 ?_
              refine y_iconst (show decode cX12_goOn 350 = .ok (.iconst 1, 1) by decide +kernel) rfl ?_
              refine y_goto (tgt := 355) (show decode cX12_goOn 351 = .ok (.goto 4, 3) by decide +kernel) rfl ?_
              refine y_pick [] rfl ?_
              exact hj38 _ h
            · rw [if_neg c41] at h
              refine y_icmp_gt_f (show decode cX12_goOn 333 = .ok (.if_icmp .gt 17, 3) by decide +kernel) c41 (by decide) ?_
              refine y_aload_n (show decode cX12_goOn 336 = .ok (.aload_n 0, 1) by decide +kernel) 0 rfl ?_
              refine y_aload_n (show decode cX12_goOn 337 = .ok (.aload_n 0, 1) by decide +kernel) 0 rfl ?_
              refine y_getf 92 12 7 239 (by decide) rfl (by decide) (by decide) q6_54 (show decode cX12_goOn 338 = .ok (.getfield 239, 3) by decide +kernel) (v := .inl (σ29 92 7)) rfl ?_
              obtain ⟨r43, e42, h⟩ := bndO_some h
              refine y_callV (np := 1) (st := [.inr (.inr (92 + 1))]) (as := [.inl (σ29 92 7)]) 92 12 (sh_mo_sign e42) q7_84 q7_81 q7_83 qs4_5 q1_15 (by decide) rfl (by decide) rfl (by decide) (by decide +kernel) (by decide) rfl (Nat.le_of_ble_eq_true rfl) (show decode cX12_goOn 341 = .ok (.invokevirtual 245, 3) by decide +kernel) rfl ?_
              obtain ⟨r45, e44, h⟩ := bndO_some h
              refine y_callS (np := 1) (st := [.inr (.inr (92 + 1))]) (as := [.inl r43]) (sh_mo_isLetter e44) q7_87 q7_85 q7_86 q1_15 (by decide) (by decide +kernel) (by decide) rfl (Nat.le_of_ble_eq_true rfl) (show decode cX12_goOn 344 = .ok (.invokestatic 252, 3) by decide +kernel) rfl ?_
              by_cases c46 : r45 = 0
              · rw [if_pos c46] at h
                refine y_if_eq_t (tgt := 354) (show decode cX12_goOn 347 = .ok (.ifCond .eq 7, 3) by decide +kernel) rfl c46 ?_
                refine y_iconst (show decode cX12_goOn 354 = .ok (.iconst 4, 1) by decide +kernel) rfl ?_
                refine y_pick [] rfl ?_
                exact hj38 _ h
              · rw [if_neg c46] at h
                refine y_if_eq_f (show decode cX12_goOn 347 = .ok (.ifCond .eq 7, 3) by decide +kernel) c46 (by decide) ?_
                refine y_iconst (show decode cX12_goOn 350 = .ok (.iconst 1, 1) by decide +kernel) rfl ?_
                refine y_goto (tgt := 355) (show decode cX12_goOn 351 = .ok (.goto 4, 3) by decide +kernel) rfl ?_
                refine y_pick [] rfl ?_
                exact hj38 _ h
          · rw [if_neg c35] at h
            refine y_if_eq_f (show decode cX12_goOn 270 = .ok (.ifCond .eq 52, 3) by decide +kernel) c35 (by decide) ?_
            refine y_aload_n (show decode cX12_goOn 273 = .ok (.aload_n 0, 1) by decide +kernel) 0 rfl ?_
            refine y_getf 92 12 7 239 (by decide) rfl (by decide) (by decide) q6_54 (show decode cX12_goOn 274 = .ok (.getfield 239, 3) by decide +kernel) (v := .inl (σ29 92 7)) rfl ?_
            refine y_aload_n (show decode cX12_goOn 277 = .ok (.aload_n 0, 1) by decide +kernel) 0 rfl ?_
            refine y_getf 92 12 6 242 (by decide) rfl (by decide) (by decide) q6_53 (show decode cX12_goOn 278 = .ok (.getfield 242, 3) by decide +kernel) (v := .inl (σ29 92 6)) rfl ?_
            obtain ⟨c47, h⟩ := chkI_some h
            refine y_isub (show decode cX12_goOn 281 = .ok (.isub, 1) by decide +kernel) c47 ?_
            refine y_iconst (show decode cX12_goOn 282 = .ok (.iconst 4, 1) by decide +kernel) rfl ?_
            refine bnd_j (Q := fun j49 => ∀ (σ48 : ySt), j49 σ48 = some τ → Y E MX12_goOn (yRm 1 0 0) (yQf E (150 + 0) 0 0 none (ov τ)) 309 [(0, .inr (.inr (92 + 1)))] [] (ov σ48) 150 0 0) (fun σ48 h => ?_) (fun j49 hj49 h => ?_) h
            · dsimp only at h
              refine y_aload_n (show decode cX12_goOn 309 = .ok (.aload_n 0, 1) by decide +kernel) 0 rfl ?_
              refine y_dup (show decode cX12_goOn 310 = .ok (.dup, 1) by decide +kernel) rfl ?_
              refine y_getf 92 12 7 239 (by decide) rfl (by decide) (by decide) q6_54 (show decode cX12_goOn 311 = .ok (.getfield 239, 3) by decide +kernel) (v := .inl (σ48 92 7)) rfl ?_
              refine y_iconst (show decode cX12_goOn 314 = .ok (.iconst 1, 1) by decide +kernel) rfl ?_
              obtain ⟨c50, h⟩ := chkI_some h
              refine y_iadd (show decode cX12_goOn 315 = .ok (.iadd, 1) by decide +kernel) c50 ?_
              obtain ⟨σ51, e52, h⟩ := bnd_i h
              refine yo_putI 92 12 7 239 (by decide) rfl (by decide) (by decide) q6_54 rfl (show decode cX12_goOn 316 = .ok (.putfield 239, 3) by decide +kernel) rfl rfl (ov_set1 e52 rfl) ?_
              refine y_goto (tgt := 259) (show decode cX12_goOn 319 = .ok (.goto (-60), 3) by decide +kernel) rfl ?_
              refine y_pick [0] rfl ?_
              exact hk30 _ h
            by_cases c53 : ((σ29 92 7) - (σ29 92 6)) ≥ 4
            · rw [if_pos c53] at h
              refine y_icmp_ge_t (tgt := 309) (show decode cX12_goOn 283 = .ok (.if_icmp .ge 26, 3) by decide +kernel) rfl c53 ?_
              refine y_pick [0] rfl ?_
              exact hj49 _ h
            · rw [if_neg c53] at h
              refine y_icmp_ge_f (show decode cX12_goOn 283 = .ok (.if_icmp .ge 26, 3) by decide +kernel) c53 (by decide) ?_
              refine y_aload_n (show decode cX12_goOn 286 = .ok (.aload_n 0, 1) by decide +kernel) 0 rfl ?_
              refine y_bipush (show decode cX12_goOn 287 = .ok (.bipush 10, 2) by decide +kernel) rfl rfl ?_
              refine y_aload_n (show decode cX12_goOn 289 = .ok (.aload_n 0, 1) by decide +kernel) 0 rfl ?_
              refine y_getf 92 12 9 267 (by decide) rfl (by decide) (by decide) q6_56 (show decode cX12_goOn 290 = .ok (.getfield 267, 3) by decide +kernel) (v := .inl (σ29 92 9)) rfl ?_
              obtain ⟨c54, h⟩ := chkI_some h
              refine y_imul (show decode cX12_goOn 293 = .ok (.imul, 1) by decide +kernel) c54 ?_
              refine y_aload_n (show decode cX12_goOn 294 = .ok (.aload_n 0, 1) by decide +kernel) 0 rfl ?_
              refine y_aload_n (show decode cX12_goOn 295 = .ok (.aload_n 0, 1) by decide +kernel) 0 rfl ?_
              refine y_getf 92 12 7 239 (by decide) rfl (by decide) (by decide) q6_54 (show decode cX12_goOn 296 = .ok (.getfield 239, 3) by decide +kernel) (v := .inl (σ29 92 7)) rfl ?_
              obtain ⟨r56, e55, h⟩ := bndO_some h
              refine y_callV (np := 1) (st := [.inl (10 * (σ29 92 9)), .inr (.inr (92 + 1))]) (as := [.inl (σ29 92 7)]) 92 12 (sh_mo_sign e55) q7_84 q7_81 q7_83 qs4_5 q1_15 (by decide) rfl (by decide) rfl (by decide) (by decide +kernel) (by decide) rfl (Nat.le_of_ble_eq_true rfl) (show decode cX12_goOn 299 = .ok (.invokevirtual 245, 3) by decide +kernel) rfl ?_
              obtain ⟨c57, h⟩ := chkI_some h
              refine y_iadd (show decode cX12_goOn 302 = .ok (.iadd, 1) by decide +kernel) c57 ?_
              refine y_bipush (show decode cX12_goOn 303 = .ok (.bipush 48, 2) by decide +kernel) rfl rfl ?_
              obtain ⟨c58, h⟩ := chkI_some h
              refine y_isub (show decode cX12_goOn 305 = .ok (.isub, 1) by decide +kernel) c58 ?_
              obtain ⟨σ59, e60, h⟩ := bnd_i h
              refine yo_putI 92 12 9 267 (by decide) rfl (by decide) (by decide) q6_56 rfl (show decode cX12_goOn 306 = .ok (.putfield 267, 3) by decide +kernel) rfl rfl (ov_set1 e60 rfl) ?_
              refine y_pick [0] rfl ?_
              exact hj49 _ h
      · rw [if_neg c14] at h
        refine y_if_eq_f (show decode cX12_goOn 116 = .ok (.ifCond .eq 123, 3) by decide +kernel) c14 (by decide) ?_
        refine y_pick [1] rfl ?_
        refine loopS0_ind (P := fun σ61 => Y E MX12_goOn (yRm 1 0 0) (yQf E (150 + 0) 0 0 none (ov τ)) 119 [(0, .inr (.inr (92 + 1)))] [] (ov σ61) 150 0 0) (fun k62 hk62 σ61 h => ?_) _ _  h
        refine y_aload_n (show decode cX12_goOn 119 = .ok (.aload_n 0, 1) by decide +kernel) 0 rfl ?_
        refine y_aload_n (show decode cX12_goOn 120 = .ok (.aload_n 0, 1) by decide +kernel) 0 rfl ?_
        refine y_getf 92 12 7 239 (by decide) rfl (by decide) (by decide) q6_54 (show decode cX12_goOn 121 = .ok (.getfield 239, 3) by decide +kernel) (v := .inl (σ61 92 7)) rfl ?_
        obtain ⟨r64, e63, h⟩ := bndO_some h
        refine y_callV (np := 1) (st := []) (as := [.inl (σ61 92 7)]) 92 12 (sh_mo_sign e63) q7_84 q7_81 q7_83 qs4_5 q1_15 (by decide) rfl (by decide) rfl (by decide) (by decide +kernel) (by decide) rfl (Nat.le_of_ble_eq_true rfl) (show decode cX12_goOn 124 = .ok (.invokevirtual 245, 3) by decide +kernel) rfl ?_
        obtain ⟨r66, e65, h⟩ := bndO_some h
        refine y_callS (np := 1) (st := []) (as := [.inl r64]) (sh_mo_isLetter e65) q7_87 q7_85 q7_86 q1_15 (by decide) (by decide +kernel) (by decide) rfl (Nat.le_of_ble_eq_true rfl) (show decode cX12_goOn 127 = .ok (.invokestatic 252, 3) by decide +kernel) rfl ?_
        by_cases c67 : r66 = 0
        · rw [if_pos c67] at h
          refine y_if_eq_t (tgt := 146) (show decode cX12_goOn 130 = .ok (.ifCond .eq 16, 3) by decide +kernel) rfl c67 ?_
          refine y_aload_n (show decode cX12_goOn 146 = .ok (.aload_n 0, 1) by decide +kernel) 0 rfl ?_
          refine y_lconst (z := 0) (show decode cX12_goOn 147 = .ok (.lconst 0, 1) by decide +kernel) rfl rfl ?_
          obtain ⟨σ68, e69, h⟩ := bnd_i h
          refine yo_putJ 92 12 10 256 (by decide) rfl (by decide) (by decide) q6_57 rfl (show decode cX12_goOn 148 = .ok (.putfield 256, 3) by decide +kernel) rfl rfl (ov_set1 e69 rfl) ?_
          refine y_aload_n (show decode cX12_goOn 151 = .ok (.aload_n 0, 1) by decide +kernel) 0 rfl ?_
          refine y_getf 92 12 6 242 (by decide) rfl (by decide) (by decide) q6_53 (show decode cX12_goOn 152 = .ok (.getfield 242, 3) by decide +kernel) (v := .inl (σ68 92 6)) rfl ?_
          refine y_istore_n (show decode cX12_goOn 155 = .ok (.istore_n 2, 1) by decide +kernel) rfl (L1 := [(2, .inl (σ68 92 6)), (0, .inr (.inr (92 + 1)))]) rfl ?_
          refine y_pick [1, 0] rfl ?_
          refine loopS1_ind (P := fun x70 σ71 => Y E MX12_goOn (yRm 1 0 0) (yQf E (150 + 0) 0 0 none (ov τ)) 156 [(0, .inr (.inr (92 + 1))), (2, .inl x70)] [] (ov σ71) 150 0 0) (fun k72 hk72 x70 σ71 h => ?_) _ _ _  h
          refine y_iload_n (show decode cX12_goOn 156 = .ok (.iload_n 2, 1) by decide +kernel) 1 rfl ?_
          refine y_aload_n (show decode cX12_goOn 157 = .ok (.aload_n 0, 1) by decide +kernel) 0 rfl ?_
          refine y_getf 92 12 7 239 (by decide) rfl (by decide) (by decide) q6_54 (show decode cX12_goOn 158 = .ok (.getfield 239, 3) by decide +kernel) (v := .inl (σ71 92 7)) rfl ?_
          refine bnd_j (Q := fun j73 => j73 = some τ → Y E MX12_goOn (yRm 1 0 0) (yQf E (150 + 0) 0 0 none (ov τ)) 199 [(0, .inr (.inr (92 + 1)))] [] (ov σ71) 150 0 0) (fun h => ?_) (fun j73 hj73 h => ?_) h
          · refine y_aload_n (show decode cX12_goOn 199 = .ok (.aload_n 0, 1) by decide +kernel) 0 rfl ?_
            refine y_aload_n (show decode cX12_goOn 200 = .ok (.aload_n 0, 1) by decide +kernel) 0 rfl ?_
            refine y_getf 92 12 7 239 (by decide) rfl (by decide) (by decide) q6_54 (show decode cX12_goOn 201 = .ok (.getfield 239, 3) by decide +kernel) (v := .inl (σ71 92 7)) rfl ?_
            refine y_aload_n (show decode cX12_goOn 204 = .ok (.aload_n 0, 1) by decide +kernel) 0 rfl ?_
            refine y_getf 92 12 6 242 (by decide) rfl (by decide) (by decide) q6_53 (show decode cX12_goOn 205 = .ok (.getfield 242, 3) by decide +kernel) (v := .inl (σ71 92 6)) rfl ?_
            obtain ⟨c74, h⟩ := chkI_some h
            refine y_isub (show decode cX12_goOn 208 = .ok (.isub, 1) by decide +kernel) c74 ?_
            refine y_bipush (show decode cX12_goOn 209 = .ok (.bipush 8, 2) by decide +kernel) rfl rfl ?_
            refine bnd_j (Q := fun j76 => ∀ (y75 : Int), j76 y75 = some τ → Y E MX12_goOn (yRm 1 0 0) (yQf E (150 + 0) 0 0 none (ov τ)) 233 [] [.inl y75, .inr (.inr (92 + 1))] (ov σ71) 150 0 0) (fun y75 h => ?_) (fun j76 hj76 h => ?_) h
            · dsimp only at h
              obtain ⟨σ77, e78, h⟩ := bnd_i h
              refine yo_putI 92 12 8 249 (by decide) rfl (by decide) (by decide) q6_55 rfl (show decode cX12_goOn 233 = .ok (.putfield 249, 3) by decide +kernel) rfl rfl (ov_set1 e78 rfl) ?_
              refine y_goto (tgt := 377) (show decode cX12_goOn 236 = .ok (.goto 141, 3) by decide +kernel) rfl ?_
              cases h
              exact y_vret (show decode cX12_goOn 377 = .ok (.return_, 1) by decide +kernel) rfl
            by_cases c79 : ((σ71 92 7) - (σ71 92 6)) ≤ 8
            · rw [if_pos c79] at h
              refine y_icmp_le_t (tgt := 218) (show decode cX12_goOn 211 = .ok (.if_icmp .le 7, 3) by decide +kernel) rfl c79 ?_
              refine y_aload_n (show decode cX12_goOn 218 = .ok (.aload_n 0, 1) by decide +kernel) 0 rfl ?_
              refine y_getf 92 12 10 256 (by decide) rfl (by decide) (by decide) q6_57 (show decode cX12_goOn 219 = .ok (.getfield 256, 3) by decide +kernel) (v := .inr (.inl (σ71 92 10))) rfl ?_
              obtain ⟨r81, e80, h⟩ := bndO_some h
              refine y_callS (np := 1) (st := [.inr (.inr (92 + 1))]) (as := [.inr (.inl (σ71 92 10))]) (sh_mo_isKept e80) q7_90 q7_88 q7_89 q1_15 (by decide) (by decide +kernel) (by decide) rfl (Nat.le_of_ble_eq_true rfl) (show decode cX12_goOn 222 = .ok (.invokestatic 260, 3) by decide +kernel) rfl ?_
              by_cases c82 : r81 = 0
              · rw [if_pos c82] at h
                refine y_if_eq_t (tgt := 232) (show decode cX12_goOn 225 = .ok (.ifCond .eq 7, 3) by decide +kernel) rfl c82 ?_
                refine y_iconst (show decode cX12_goOn 232 = .ok (.iconst 2, 1) by decide +kernel) rfl ?_
                refine y_pick [] rfl ?_
                exact hj76 _ h
              · rw [if_neg c82] at h
                refine y_if_eq_f (show decode cX12_goOn 225 = .ok (.ifCond .eq 7, 3) by decide +kernel) c82 (by decide) ?_
                refine y_iconst (show decode cX12_goOn 228 = .ok (.iconst 3, 1) by decide +kernel) rfl ?_
                refine y_goto (tgt := 233) (show decode cX12_goOn 229 = .ok (.goto 4, 3) by decide +kernel) rfl ?_
                refine y_pick [] rfl ?_
                exact hj76 _ h
            · rw [if_neg c79] at h
              refine y_icmp_le_f (show decode cX12_goOn 211 = .ok (.if_icmp .le 7, 3) by decide +kernel) c79 (by decide) ?_
              refine y_iconst (show decode cX12_goOn 214 = .ok (.iconst 1, 1) by decide +kernel) rfl ?_
              refine y_goto (tgt := 233) (show decode cX12_goOn 215 = .ok (.goto 18, 3) by decide +kernel) rfl ?_
              refine y_pick [] rfl ?_
              exact hj76 _ h
          by_cases c83 : x70 ≥ (σ71 92 7)
          · rw [if_pos c83] at h
            refine y_icmp_ge_t (tgt := 199) (show decode cX12_goOn 161 = .ok (.if_icmp .ge 38, 3) by decide +kernel) rfl c83 ?_
            refine y_pick [0] rfl ?_
            exact hj73 h
          · rw [if_neg c83] at h
            refine y_icmp_ge_f (show decode cX12_goOn 161 = .ok (.if_icmp .ge 38, 3) by decide +kernel) c83 (by decide) ?_
            refine y_iload_n (show decode cX12_goOn 164 = .ok (.iload_n 2, 1) by decide +kernel) 1 rfl ?_
            refine y_aload_n (show decode cX12_goOn 165 = .ok (.aload_n 0, 1) by decide +kernel) 0 rfl ?_
            refine y_getf 92 12 6 242 (by decide) rfl (by decide) (by decide) q6_53 (show decode cX12_goOn 166 = .ok (.getfield 242, 3) by decide +kernel) (v := .inl (σ71 92 6)) rfl ?_
            refine y_bipush (show decode cX12_goOn 169 = .ok (.bipush 8, 2) by decide +kernel) rfl rfl ?_
            obtain ⟨c84, h⟩ := chkI_some h
            refine y_iadd (show decode cX12_goOn 171 = .ok (.iadd, 1) by decide +kernel) c84 ?_
            by_cases c85 : x70 ≥ ((σ71 92 6) + 8)
            · rw [if_pos c85] at h
              refine y_icmp_ge_t (tgt := 199) (show decode cX12_goOn 172 = .ok (.if_icmp .ge 27, 3) by decide +kernel) rfl c85 ?_
              refine y_pick [0] rfl ?_
              exact hj73 h
            · rw [if_neg c85] at h
              refine y_icmp_ge_f (show decode cX12_goOn 172 = .ok (.if_icmp .ge 27, 3) by decide +kernel) c85 (by decide) ?_
              refine y_aload_n (show decode cX12_goOn 175 = .ok (.aload_n 0, 1) by decide +kernel) 0 rfl ?_
              refine y_aload_n (show decode cX12_goOn 176 = .ok (.aload_n 0, 1) by decide +kernel) 0 rfl ?_
              refine y_getf 92 12 10 256 (by decide) rfl (by decide) (by decide) q6_57 (show decode cX12_goOn 177 = .ok (.getfield 256, 3) by decide +kernel) (v := .inr (.inl (σ71 92 10))) rfl ?_
              refine y_bipush (show decode cX12_goOn 180 = .ok (.bipush 8, 2) by decide +kernel) rfl rfl ?_
              refine y_lshl (show decode cX12_goOn 182 = .ok (.lshl, 1) by decide +kernel) ?_
              refine y_aload_n (show decode cX12_goOn 183 = .ok (.aload_n 0, 1) by decide +kernel) 0 rfl ?_
              refine y_iload_n (show decode cX12_goOn 184 = .ok (.iload_n 2, 1) by decide +kernel) 1 rfl ?_
              obtain ⟨r87, e86, h⟩ := bndO_some h
              refine y_callV (np := 1) (st := [.inr (.inl (b64shl (σ71 92 10) 8)), .inr (.inr (92 + 1))]) (as := [.inl x70]) 92 12 (sh_mo_sign e86) q7_84 q7_81 q7_83 qs4_5 q1_15 (by decide) rfl (by decide) rfl (by decide) (by decide +kernel) (by decide) rfl (Nat.le_of_ble_eq_true rfl) (show decode cX12_goOn 185 = .ok (.invokevirtual 245, 3) by decide +kernel) rfl ?_
              refine y_i2l (show decode cX12_goOn 188 = .ok (.i2l, 1) by decide +kernel) ?_
              refine y_lor (show decode cX12_goOn 189 = .ok (.lor, 1) by decide +kernel) ?_
              obtain ⟨σ88, e89, h⟩ := bnd_i h
              refine yo_putJ 92 12 10 256 (by decide) rfl (by decide) (by decide) q6_57 rfl (show decode cX12_goOn 190 = .ok (.putfield 256, 3) by decide +kernel) rfl rfl (ov_set1 e89 rfl) ?_
              obtain ⟨c90, h⟩ := chkI_some h
              refine y_iinc (show decode cX12_goOn 193 = .ok (.iinc 2 1, 3) by decide +kernel) 1 rfl c90 rfl (L1 := [(2, .inl (x70 + 1)), (0, .inr (.inr (92 + 1)))]) rfl ?_
              refine y_goto (tgt := 156) (show decode cX12_goOn 196 = .ok (.goto (-40), 3) by decide +kernel) rfl ?_
              refine y_pick [1, 0] rfl ?_
              exact hk72 _ _ h
        · rw [if_neg c67] at h
          refine y_if_eq_f (show decode cX12_goOn 130 = .ok (.ifCond .eq 16, 3) by decide +kernel) c67 (by decide) ?_
          refine y_aload_n (show decode cX12_goOn 133 = .ok (.aload_n 0, 1) by decide +kernel) 0 rfl ?_
          refine y_dup (show decode cX12_goOn 134 = .ok (.dup, 1) by decide +kernel) rfl ?_
          refine y_getf 92 12 7 239 (by decide) rfl (by decide) (by decide) q6_54 (show decode cX12_goOn 135 = .ok (.getfield 239, 3) by decide +kernel) (v := .inl (σ61 92 7)) rfl ?_
          refine y_iconst (show decode cX12_goOn 138 = .ok (.iconst 1, 1) by decide +kernel) rfl ?_
          obtain ⟨c91, h⟩ := chkI_some h
          refine y_iadd (show decode cX12_goOn 139 = .ok (.iadd, 1) by decide +kernel) c91 ?_
          obtain ⟨σ92, e93, h⟩ := bnd_i h
          refine yo_putI 92 12 7 239 (by decide) rfl (by decide) (by decide) q6_54 rfl (show decode cX12_goOn 140 = .ok (.putfield 239, 3) by decide +kernel) rfl rfl (ov_set1 e93 rfl) ?_
          refine y_goto (tgt := 119) (show decode cX12_goOn 143 = .ok (.goto (-24), 3) by decide +kernel) rfl ?_
          refine y_pick [0] rfl ?_
          exact hk62 _ h
    · rw [if_neg c11] at h
      refine y_icmp_lt_f (show decode cX12_goOn 85 = .ok (.if_icmp .lt 27, 3) by decide +kernel) c11 (by decide) ?_
      refine y_aload_n (show decode cX12_goOn 88 = .ok (.aload_n 0, 1) by decide +kernel) 1 rfl ?_
      refine y_iconst (show decode cX12_goOn 89 = .ok (.iconst 0, 1) by decide +kernel) rfl ?_
      obtain ⟨σ94, e95, h⟩ := bnd_i h
      refine yo_putI 92 12 8 249 (by decide) rfl (by decide) (by decide) q6_55 rfl (show decode cX12_goOn 90 = .ok (.putfield 249, 3) by decide +kernel) rfl rfl (ov_set1 e95 rfl) ?_
      refine y_aload_n (show decode cX12_goOn 93 = .ok (.aload_n 0, 1) by decide +kernel) 1 rfl ?_
      refine y_aload_n (show decode cX12_goOn 94 = .ok (.aload_n 0, 1) by decide +kernel) 1 rfl ?_
      refine y_getf 92 12 3 195 (by decide) rfl (by decide) (by decide) q6_50 (show decode cX12_goOn 95 = .ok (.getfield 195, 3) by decide +kernel) (v := .inl (σ94 92 3)) rfl ?_
      obtain ⟨σ96, e97, h⟩ := bnd_i h
      refine yo_putI 92 12 6 242 (by decide) rfl (by decide) (by decide) q6_53 rfl (show decode cX12_goOn 98 = .ok (.putfield 242, 3) by decide +kernel) rfl rfl (ov_set1 e97 rfl) ?_
      refine y_aload_n (show decode cX12_goOn 101 = .ok (.aload_n 0, 1) by decide +kernel) 1 rfl ?_
      refine y_aload_n (show decode cX12_goOn 102 = .ok (.aload_n 0, 1) by decide +kernel) 1 rfl ?_
      refine y_getf 92 12 3 195 (by decide) rfl (by decide) (by decide) q6_50 (show decode cX12_goOn 103 = .ok (.getfield 195, 3) by decide +kernel) (v := .inl (σ96 92 3)) rfl ?_
      obtain ⟨σ98, e99, h⟩ := bnd_i h
      refine yo_putI 92 12 7 239 (by decide) rfl (by decide) (by decide) q6_54 rfl (show decode cX12_goOn 106 = .ok (.putfield 239, 3) by decide +kernel) rfl rfl (ov_set1 e99 rfl) ?_
      refine y_goto (tgt := 377) (show decode cX12_goOn 109 = .ok (.goto 268, 3) by decide +kernel) rfl ?_
      cases h
      exact y_vret (show decode cX12_goOn 377 = .ok (.return_, 1) by decide +kernel) rfl
  by_cases c100 : (σ3 92 6) ≥ (σ3 92 3)
  · rw [if_pos c100] at h
    refine y_icmp_ge_t (tgt := 58) (show decode cX12_goOn 16 = .ok (.if_icmp .ge 42, 3) by decide +kernel) rfl c100 ?_
    refine y_pick [0] rfl ?_
    exact hj5 h
  · rw [if_neg c100] at h
    refine y_icmp_ge_f (show decode cX12_goOn 16 = .ok (.if_icmp .ge 42, 3) by decide +kernel) c100 (by decide) ?_
    refine y_aload_n (show decode cX12_goOn 19 = .ok (.aload_n 0, 1) by decide +kernel) 0 rfl ?_
    refine y_aload_n (show decode cX12_goOn 20 = .ok (.aload_n 0, 1) by decide +kernel) 0 rfl ?_
    refine y_getf 92 12 6 242 (by decide) rfl (by decide) (by decide) q6_53 (show decode cX12_goOn 21 = .ok (.getfield 242, 3) by decide +kernel) (v := .inl (σ3 92 6)) rfl ?_
    obtain ⟨r102, e101, h⟩ := bndO_some h
    refine y_callV (np := 1) (st := []) (as := [.inl (σ3 92 6)]) 92 12 (sh_mo_sign e101) q7_84 q7_81 q7_83 qs4_5 q1_15 (by decide) rfl (by decide) rfl (by decide) (by decide +kernel) (by decide) rfl (Nat.le_of_ble_eq_true rfl) (show decode cX12_goOn 24 = .ok (.invokevirtual 245, 3) by decide +kernel) rfl ?_
    refine y_bipush (show decode cX12_goOn 27 = .ok (.bipush 32, 2) by decide +kernel) rfl rfl ?_
    refine bnd_j (Q := fun j103 => j103 = some τ → Y E MX12_goOn (yRm 1 0 0) (yQf E (150 + 0) 0 0 none (ov τ)) 45 [(0, .inr (.inr (92 + 1)))] [] (ov σ3) 150 0 0) (fun h => ?_) (fun j103 hj103 h => ?_) h
    · refine y_aload_n (show decode cX12_goOn 45 = .ok (.aload_n 0, 1) by decide +kernel) 0 rfl ?_
      refine y_dup (show decode cX12_goOn 46 = .ok (.dup, 1) by decide +kernel) rfl ?_
      refine y_getf 92 12 6 242 (by decide) rfl (by decide) (by decide) q6_53 (show decode cX12_goOn 47 = .ok (.getfield 242, 3) by decide +kernel) (v := .inl (σ3 92 6)) rfl ?_
      refine y_iconst (show decode cX12_goOn 50 = .ok (.iconst 1, 1) by decide +kernel) rfl ?_
      obtain ⟨c104, h⟩ := chkI_some h
      refine y_iadd (show decode cX12_goOn 51 = .ok (.iadd, 1) by decide +kernel) c104 ?_
      obtain ⟨σ105, e106, h⟩ := bnd_i h
      refine yo_putI 92 12 6 242 (by decide) rfl (by decide) (by decide) q6_53 rfl (show decode cX12_goOn 52 = .ok (.putfield 242, 3) by decide +kernel) rfl rfl (ov_set1 e106 rfl) ?_
      refine y_goto (tgt := 8) (show decode cX12_goOn 55 = .ok (.goto (-47), 3) by decide +kernel) rfl ?_
      refine y_pick [0] rfl ?_
      exact hk4 _ h
    by_cases c107 : r102 = 32
    · rw [if_pos c107] at h
      refine y_icmp_eq_t (tgt := 45) (show decode cX12_goOn 29 = .ok (.if_icmp .eq 16, 3) by decide +kernel) rfl c107 ?_
      refine y_pick [0] rfl ?_
      exact hj103 h
    · rw [if_neg c107] at h
      refine y_icmp_eq_f (show decode cX12_goOn 29 = .ok (.if_icmp .eq 16, 3) by decide +kernel) c107 (by decide) ?_
      refine y_aload_n (show decode cX12_goOn 32 = .ok (.aload_n 0, 1) by decide +kernel) 0 rfl ?_
      refine y_aload_n (show decode cX12_goOn 33 = .ok (.aload_n 0, 1) by decide +kernel) 0 rfl ?_
      refine y_getf 92 12 6 242 (by decide) rfl (by decide) (by decide) q6_53 (show decode cX12_goOn 34 = .ok (.getfield 242, 3) by decide +kernel) (v := .inl (σ3 92 6)) rfl ?_
      obtain ⟨r109, e108, h⟩ := bndO_some h
      refine y_callV (np := 1) (st := []) (as := [.inl (σ3 92 6)]) 92 12 (sh_mo_sign e108) q7_84 q7_81 q7_83 qs4_5 q1_15 (by decide) rfl (by decide) rfl (by decide) (by decide +kernel) (by decide) rfl (Nat.le_of_ble_eq_true rfl) (show decode cX12_goOn 37 = .ok (.invokevirtual 245, 3) by decide +kernel) rfl ?_
      refine y_bipush (show decode cX12_goOn 40 = .ok (.bipush 10, 2) by decide +kernel) rfl rfl ?_
      by_cases c110 : ¬ r109 = 10
      · rw [if_pos c110] at h
        refine y_icmp_ne_t (tgt := 58) (show decode cX12_goOn 42 = .ok (.if_icmp .ne 16, 3) by decide +kernel) rfl c110 ?_
        refine y_pick [0] rfl ?_
        exact hj5 h
      · rw [if_neg c110] at h
        refine y_icmp_ne_f (show decode cX12_goOn 42 = .ok (.if_icmp .ne 16, 3) by decide +kernel) c110 (by decide) ?_
        refine y_pick [0] rfl ?_
        exact hj103 h
abbrev MX12_is : yM := (yX12_is, cX12_is, 2, some .boolean)
def mo_is (a : Int) (σ : ySt) : Option (Int) :=
  if ¬ (σ 92 8) = 5 then
    some 0
  else
    bndO (mo_sign (σ 92 6) σ) fun r3 =>
    if ¬ r3 = a then
      some 0
    else
      some 1
set_option maxHeartbeats 4000000 in
set_option maxRecDepth 10000 in
theorem sh_mo_is {E : yE} {a : Int} {σ : ySt} {ρ : Int} (h : mo_is a σ = some ρ) : Con E MX12_is 1 0 0 [.inr (.inr (92 + 1)), .inl a] 150 (ov σ) (some (.inl ρ)) (ov σ) := by
  unfold mo_is at h
  refine Con.ofY (by decide +kernel) (by simp [yWords, yCat]) (fun hok _ => ?_)
  show Y E MX12_is (yRm 1 0 0) (yQf E (150 + 0) 0 0 (some (.inl ρ)) (ov σ)) 0 [(0, .inr (.inr (92 + 1))), (1, .inl a)] [] (ov σ) 150 0 0
  refine y_aload_n (show decode cX12_is 0 = .ok (.aload_n 0, 1) by decide +kernel) 0 rfl ?_
  refine y_getf 92 12 8 249 (by decide) rfl (by decide) (by decide) q6_55 (show decode cX12_is 1 = .ok (.getfield 249, 3) by decide +kernel) (v := .inl (σ 92 8)) rfl ?_
  refine y_iconst (show decode cX12_is 4 = .ok (.iconst 5, 1) by decide +kernel) rfl ?_
  by_cases c1 : ¬ (σ 92 8) = 5
  · rw [if_pos c1] at h
    refine y_icmp_ne_t (tgt := 24) (show decode cX12_is 5 = .ok (.if_icmp .ne 19, 3) by decide +kernel) rfl c1 ?_
    refine y_iconst (show decode cX12_is 24 = .ok (.iconst 0, 1) by decide +kernel) rfl ?_
    cases h
    exact y_zret (show decode cX12_is 25 = .ok (.ireturn, 1) by decide +kernel) rfl (Or.inl rfl)
  · rw [if_neg c1] at h
    refine y_icmp_ne_f (show decode cX12_is 5 = .ok (.if_icmp .ne 19, 3) by decide +kernel) c1 (by decide) ?_
    refine y_aload_n (show decode cX12_is 8 = .ok (.aload_n 0, 1) by decide +kernel) 0 rfl ?_
    refine y_aload_n (show decode cX12_is 9 = .ok (.aload_n 0, 1) by decide +kernel) 0 rfl ?_
    refine y_getf 92 12 6 242 (by decide) rfl (by decide) (by decide) q6_53 (show decode cX12_is 10 = .ok (.getfield 242, 3) by decide +kernel) (v := .inl (σ 92 6)) rfl ?_
    obtain ⟨r3, e2, h⟩ := bndO_some h
    refine y_callV (np := 1) (st := []) (as := [.inl (σ 92 6)]) 92 12 (sh_mo_sign e2) q7_84 q7_81 q7_83 qs4_5 q1_15 (by decide) rfl (by decide) rfl (by decide) (by decide +kernel) (by decide) rfl (Nat.le_of_ble_eq_true rfl) (show decode cX12_is 13 = .ok (.invokevirtual 245, 3) by decide +kernel) rfl ?_
    refine y_iload_n (show decode cX12_is 16 = .ok (.iload_n 1, 1) by decide +kernel) 1 rfl ?_
    by_cases c4 : ¬ r3 = a
    · rw [if_pos c4] at h
      refine y_icmp_ne_t (tgt := 24) (show decode cX12_is 17 = .ok (.if_icmp .ne 7, 3) by decide +kernel) rfl c4 ?_
      refine y_iconst (show decode cX12_is 24 = .ok (.iconst 0, 1) by decide +kernel) rfl ?_
      cases h
      exact y_zret (show decode cX12_is 25 = .ok (.ireturn, 1) by decide +kernel) rfl (Or.inl rfl)
    · rw [if_neg c4] at h
      refine y_icmp_ne_f (show decode cX12_is 17 = .ok (.if_icmp .ne 7, 3) by decide +kernel) c4 (by decide) ?_
      refine y_iconst (show decode cX12_is 20 = .ok (.iconst 1, 1) by decide +kernel) rfl ?_
      refine y_goto (tgt := 25) (show decode cX12_is 21 = .ok (.goto 4, 3) by decide +kernel) rfl ?_
      cases h
      exact y_zret (show decode cX12_is 25 = .ok (.ireturn, 1) by decide +kernel) rfl (Or.inr rfl)
abbrev MX12_isWord : yM := (yX12_isWord, cX12_isWord, 3, some .boolean)
def mo_isWord (a : Int) (σ : ySt) : Option (Int) :=
  if ¬ (σ 92 8) = 3 then
    some 0
  else
    if ¬ (blcmp (σ 92 10) a) = 0 then
      some 0
    else
      some 1
set_option maxHeartbeats 4000000 in
set_option maxRecDepth 10000 in
theorem sh_mo_isWord {E : yE} {a : Int} {σ : ySt} {ρ : Int} (h : mo_isWord a σ = some ρ) : Con E MX12_isWord 0 0 0 [.inr (.inr (92 + 1)), .inr (.inl a)] 150 (ov σ) (some (.inl ρ)) (ov σ) := by
  unfold mo_isWord at h
  refine Con.ofY (by decide +kernel) (by simp [yWords, yCat]) (fun hok _ => ?_)
  show Y E MX12_isWord (yRm 0 0 0) (yQf E (150 + 0) 0 0 (some (.inl ρ)) (ov σ)) 0 [(0, .inr (.inr (92 + 1))), (1, .inr (.inl a))] [] (ov σ) 150 0 0
  refine y_aload_n (show decode cX12_isWord 0 = .ok (.aload_n 0, 1) by decide +kernel) 0 rfl ?_
  refine y_getf 92 12 8 249 (by decide) rfl (by decide) (by decide) q6_55 (show decode cX12_isWord 1 = .ok (.getfield 249, 3) by decide +kernel) (v := .inl (σ 92 8)) rfl ?_
  refine y_iconst (show decode cX12_isWord 4 = .ok (.iconst 3, 1) by decide +kernel) rfl ?_
  by_cases c1 : ¬ (σ 92 8) = 3
  · rw [if_pos c1] at h
    refine y_icmp_ne_t (tgt := 21) (show decode cX12_isWord 5 = .ok (.if_icmp .ne 16, 3) by decide +kernel) rfl c1 ?_
    refine y_iconst (show decode cX12_isWord 21 = .ok (.iconst 0, 1) by decide +kernel) rfl ?_
    cases h
    exact y_zret (show decode cX12_isWord 22 = .ok (.ireturn, 1) by decide +kernel) rfl (Or.inl rfl)
  · rw [if_neg c1] at h
    refine y_icmp_ne_f (show decode cX12_isWord 5 = .ok (.if_icmp .ne 16, 3) by decide +kernel) c1 (by decide) ?_
    refine y_aload_n (show decode cX12_isWord 8 = .ok (.aload_n 0, 1) by decide +kernel) 0 rfl ?_
    refine y_getf 92 12 10 256 (by decide) rfl (by decide) (by decide) q6_57 (show decode cX12_isWord 9 = .ok (.getfield 256, 3) by decide +kernel) (v := .inr (.inl (σ 92 10))) rfl ?_
    refine y_lload_n (show decode cX12_isWord 12 = .ok (.lload_n 1, 1) by decide +kernel) 1 rfl ?_
    refine y_lcmp (show decode cX12_isWord 13 = .ok (.lcmp, 1) by decide +kernel) ?_
    by_cases c2 : ¬ (blcmp (σ 92 10) a) = 0
    · rw [if_pos c2] at h
      refine y_if_ne_t (tgt := 21) (show decode cX12_isWord 14 = .ok (.ifCond .ne 7, 3) by decide +kernel) rfl c2 ?_
      refine y_iconst (show decode cX12_isWord 21 = .ok (.iconst 0, 1) by decide +kernel) rfl ?_
      cases h
      exact y_zret (show decode cX12_isWord 22 = .ok (.ireturn, 1) by decide +kernel) rfl (Or.inl rfl)
    · rw [if_neg c2] at h
      refine y_if_ne_f (show decode cX12_isWord 14 = .ok (.ifCond .ne 7, 3) by decide +kernel) c2 (by decide) ?_
      refine y_iconst (show decode cX12_isWord 17 = .ok (.iconst 1, 1) by decide +kernel) rfl ?_
      refine y_goto (tgt := 22) (show decode cX12_isWord 18 = .ok (.goto 4, 3) by decide +kernel) rfl ?_
      cases h
      exact y_zret (show decode cX12_isWord 22 = .ok (.ireturn, 1) by decide +kernel) rfl (Or.inr rfl)
abbrev MX12_misplaced : yM := (yX12_misplaced, cX12_misplaced, 1, none)
def mo_misplaced (σ : ySt) : Option (ySt) :=
  bnd (fun (y1 : Int) =>
    bndO (mo_fails y1 (σ 92 6) σ) fun σ4 =>
    some σ4) fun j2 =>
  if ¬ (σ 92 8) = 1 then
    j2 2
  else
    j2 1
set_option maxHeartbeats 4000000 in
set_option maxRecDepth 10000 in
theorem sh_mo_misplaced {E : yE} {σ : ySt} {τ : ySt} (h : mo_misplaced σ = some τ) : Con E MX12_misplaced 1 0 0 [.inr (.inr (92 + 1))] 150 (ov σ) none (ov τ) := by
  unfold mo_misplaced at h
  refine Con.ofY (by decide +kernel) (by simp [yWords, yCat]) (fun hok _ => ?_)
  show Y E MX12_misplaced (yRm 1 0 0) (yQf E (150 + 0) 0 0 none (ov τ)) 0 [(0, .inr (.inr (92 + 1)))] [] (ov σ) 150 0 0
  refine y_aload_n (show decode cX12_misplaced 0 = .ok (.aload_n 0, 1) by decide +kernel) 0 rfl ?_
  refine y_aload_n (show decode cX12_misplaced 1 = .ok (.aload_n 0, 1) by decide +kernel) 0 rfl ?_
  refine y_getf 92 12 8 249 (by decide) rfl (by decide) (by decide) q6_55 (show decode cX12_misplaced 2 = .ok (.getfield 249, 3) by decide +kernel) (v := .inl (σ 92 8)) rfl ?_
  refine y_iconst (show decode cX12_misplaced 5 = .ok (.iconst 1, 1) by decide +kernel) rfl ?_
  refine bnd_j (Q := fun j2 => ∀ (y1 : Int), j2 y1 = some τ → Y E MX12_misplaced (yRm 1 0 0) (yQf E (150 + 0) 0 0 none (ov τ)) 14 [(0, .inr (.inr (92 + 1)))] [.inl y1, .inr (.inr (92 + 1))] (ov σ) 150 0 0) (fun y1 h => ?_) (fun j2 hj2 h => ?_) h
  · dsimp only at h
    refine y_aload_n (show decode cX12_misplaced 14 = .ok (.aload_n 0, 1) by decide +kernel) 0 rfl ?_
    refine y_getf 92 12 6 242 (by decide) rfl (by decide) (by decide) q6_53 (show decode cX12_misplaced 15 = .ok (.getfield 242, 3) by decide +kernel) (v := .inl (σ 92 6)) rfl ?_
    obtain ⟨σ4, e3, h⟩ := bndO_some h
    refine y_callV (np := 2) (st := []) (as := [.inl y1, .inl (σ 92 6)]) 92 12 (sh_mo_fails e3) q7_139 q7_136 q7_138 qs4_11 q1_15 (by decide) rfl (by decide) rfl (by decide) (by decide +kernel) (by decide) rfl (Nat.le_of_ble_eq_true rfl) (show decode cX12_misplaced 18 = .ok (.invokevirtual 273, 3) by decide +kernel) rfl ?_
    cases h
    exact y_vret (show decode cX12_misplaced 21 = .ok (.return_, 1) by decide +kernel) rfl
  by_cases c5 : ¬ (σ 92 8) = 1
  · rw [if_pos c5] at h
    refine y_icmp_ne_t (tgt := 13) (show decode cX12_misplaced 6 = .ok (.if_icmp .ne 7, 3) by decide +kernel) rfl c5 ?_
    refine y_iconst (show decode cX12_misplaced 13 = .ok (.iconst 2, 1) by decide +kernel) rfl ?_
    refine y_pick [0] rfl ?_
    exact hj2 _ h
  · rw [if_neg c5] at h
    refine y_icmp_ne_f (show decode cX12_misplaced 6 = .ok (.if_icmp .ne 7, 3) by decide +kernel) c5 (by decide) ?_
    refine y_iconst (show decode cX12_misplaced 9 = .ok (.iconst 1, 1) by decide +kernel) rfl ?_
    refine y_goto (tgt := 14) (show decode cX12_misplaced 10 = .ok (.goto 4, 3) by decide +kernel) rfl ?_
    refine y_pick [0] rfl ?_
    exact hj2 _ h
abbrev MX12_must : yM := (yX12_must, cX12_must, 2, none)
def mo_must (N : Nat) (a : Int) (σ : ySt) : Option (ySt) :=
  bndO (mo_isGood σ) fun r2 =>
  if ¬ r2 = 0 then
    if a = 0 then
      bndO (mo_misplaced σ) fun σ6 =>
      some σ6
    else
      bndO (mo_goOn N σ) fun σ8 =>
      some σ8
  else
    some σ
set_option maxHeartbeats 4000000 in
set_option maxRecDepth 10000 in
theorem sh_mo_must {E : yE} {N : Nat} {a : Int} {σ : ySt} {τ : ySt} (h : mo_must N a σ = some τ) : Con E MX12_must 2 0 0 [.inr (.inr (92 + 1)), .inl a] 150 (ov σ) none (ov τ) := by
  unfold mo_must at h
  refine Con.ofY (by decide +kernel) (by simp [yWords, yCat]) (fun hok _ => ?_)
  show Y E MX12_must (yRm 2 0 0) (yQf E (150 + 0) 0 0 none (ov τ)) 0 [(0, .inr (.inr (92 + 1))), (1, .inl a)] [] (ov σ) 150 0 0
  refine y_aload_n (show decode cX12_must 0 = .ok (.aload_n 0, 1) by decide +kernel) 0 rfl ?_
  obtain ⟨r2, e1, h⟩ := bndO_some h
  refine y_callV (np := 0) (st := []) (as := []) 92 12 (sh_mo_isGood e1) q7_119 q7_116 q7_118 qs4_6 q1_15 (by decide) rfl (by decide) rfl (by decide) (by decide +kernel) (by decide) rfl (Nat.le_of_ble_eq_true rfl) (show decode cX12_must 1 = .ok (.invokevirtual 277, 3) by decide +kernel) rfl ?_
  by_cases c3 : ¬ r2 = 0
  · rw [if_pos c3] at h
    refine y_if_ne_t (tgt := 8) (show decode cX12_must 4 = .ok (.ifCond .ne 4, 3) by decide +kernel) rfl c3 ?_
    refine y_iload_n (show decode cX12_must 8 = .ok (.iload_n 1, 1) by decide +kernel) 1 rfl ?_
    by_cases c4 : a = 0
    · rw [if_pos c4] at h
      refine y_if_eq_t (tgt := 19) (show decode cX12_must 9 = .ok (.ifCond .eq 10, 3) by decide +kernel) rfl c4 ?_
      refine y_aload_n (show decode cX12_must 19 = .ok (.aload_n 0, 1) by decide +kernel) 0 rfl ?_
      obtain ⟨σ6, e5, h⟩ := bndO_some h
      refine y_callV (np := 0) (st := []) (as := []) 92 12 (sh_mo_misplaced e5) q7_135 q7_132 q7_134 qs4_10 q1_15 (by decide) rfl (by decide) rfl (by decide) (by decide +kernel) (by decide) rfl (Nat.le_of_ble_eq_true rfl) (show decode cX12_must 20 = .ok (.invokevirtual 284, 3) by decide +kernel) rfl ?_
      cases h
      exact y_vret (show decode cX12_must 23 = .ok (.return_, 1) by decide +kernel) rfl
    · rw [if_neg c4] at h
      refine y_if_eq_f (show decode cX12_must 9 = .ok (.ifCond .eq 10, 3) by decide +kernel) c4 (by decide) ?_
      refine y_aload_n (show decode cX12_must 12 = .ok (.aload_n 0, 1) by decide +kernel) 0 rfl ?_
      obtain ⟨σ8, e7, h⟩ := bndO_some h
      refine y_callV (np := 0) (st := []) (as := []) 92 12 (sh_mo_goOn e7) q7_80 q7_77 q7_79 qs4_4 q1_15 (by decide) rfl (by decide) rfl (by decide) (by decide +kernel) (by decide) rfl (Nat.le_of_ble_eq_true rfl) (show decode cX12_must 13 = .ok (.invokevirtual 281, 3) by decide +kernel) rfl ?_
      refine y_goto (tgt := 23) (show decode cX12_must 16 = .ok (.goto 7, 3) by decide +kernel) rfl ?_
      cases h
      exact y_vret (show decode cX12_must 23 = .ok (.return_, 1) by decide +kernel) rfl
  · rw [if_neg c3] at h
    refine y_if_ne_f (show decode cX12_must 4 = .ok (.ifCond .ne 4, 3) by decide +kernel) c3 (by decide) ?_
    cases h
    exact y_vret (show decode cX12_must 7 = .ok (.return_, 1) by decide +kernel) rfl
abbrev MX12_numeral : yM := (yX12_numeral, cX12_numeral, 4, some .int)
def mo_numeral (N : Nat) (a : Int) (b : Int) (σ : ySt) : Option (Int × ySt) :=
  bndO (mo_isGood σ) fun r2 =>
  if ¬ r2 = 0 then
    bnd (fun (σ4 : ySt) =>
      bndO (mo_isGood σ4) fun r7 =>
      bnd (fun (σ8 : ySt) =>
        bndO (mo_isGood σ8) fun r11 =>
        bnd (fun (σ12 : ySt) =>
          bndO (mo_isGood σ12) fun r15 =>
          if r15 = 0 then
            some (a, σ12)
          else
            some ((σ8 92 9), σ12)) fun j13 =>
        if r11 = 0 then
          j13 σ8
        else
          bndO (mo_goOn N σ8) fun σ19 =>
          j13 σ19) fun j9 =>
      if r7 = 0 then
        j9 σ4
      else
        bnd (bndO (mo_fails 4 (σ4 92 6) σ4) fun σ23 =>
          j9 σ23) fun j21 =>
        if (σ4 92 9) < a then
          j21
        else
          if (σ4 92 9) ≤ b then
            j9 σ4
          else
            j21) fun j5 =>
    if (σ 92 8) = 4 then
      j5 σ
    else
      bndO (mo_misplaced σ) fun σ28 =>
      j5 σ28
  else
    some (a, σ)
set_option maxHeartbeats 4000000 in
set_option maxRecDepth 10000 in
theorem sh_mo_numeral {E : yE} {N : Nat} {a : Int} {b : Int} {σ : ySt} {ρ : Int} {τ : ySt} (h : mo_numeral N a b σ = some (ρ, τ)) : Con E MX12_numeral 2 0 0 [.inr (.inr (92 + 1)), .inl a, .inl b] 150 (ov σ) (some (.inl ρ)) (ov τ) := by
  unfold mo_numeral at h
  refine Con.ofY (by decide +kernel) (by simp [yWords, yCat]) (fun hok _ => ?_)
  show Y E MX12_numeral (yRm 2 0 0) (yQf E (150 + 0) 0 0 (some (.inl ρ)) (ov τ)) 0 [(0, .inr (.inr (92 + 1))), (1, .inl a), (2, .inl b)] [] (ov σ) 150 0 0
  refine y_aload_n (show decode cX12_numeral 0 = .ok (.aload_n 0, 1) by decide +kernel) 0 rfl ?_
  obtain ⟨r2, e1, h⟩ := bndO_some h
  refine y_callV (np := 0) (st := []) (as := []) 92 12 (sh_mo_isGood e1) q7_119 q7_116 q7_118 qs4_6 q1_15 (by decide) rfl (by decide) rfl (by decide) (by decide +kernel) (by decide) rfl (Nat.le_of_ble_eq_true rfl) (show decode cX12_numeral 1 = .ok (.invokevirtual 277, 3) by decide +kernel) rfl ?_
  by_cases c3 : ¬ r2 = 0
  · rw [if_pos c3] at h
    refine y_if_ne_t (tgt := 9) (show decode cX12_numeral 4 = .ok (.ifCond .ne 5, 3) by decide +kernel) rfl c3 ?_
    refine y_aload_n (show decode cX12_numeral 9 = .ok (.aload_n 0, 1) by decide +kernel) 0 rfl ?_
    refine y_getf 92 12 8 249 (by decide) rfl (by decide) (by decide) q6_55 (show decode cX12_numeral 10 = .ok (.getfield 249, 3) by decide +kernel) (v := .inl (σ 92 8)) rfl ?_
    refine y_iconst (show decode cX12_numeral 13 = .ok (.iconst 4, 1) by decide +kernel) rfl ?_
    refine bnd_j (Q := fun j5 => ∀ (σ4 : ySt), j5 σ4 = some (ρ, τ) → Y E MX12_numeral (yRm 2 0 0) (yQf E (150 + 0) 0 0 (some (.inl ρ)) (ov τ)) 21 [(0, .inr (.inr (92 + 1))), (1, .inl a), (2, .inl b)] [] (ov σ4) 150 0 0) (fun σ4 h => ?_) (fun j5 hj5 h => ?_) h
    · dsimp only at h
      refine y_aload_n (show decode cX12_numeral 21 = .ok (.aload_n 0, 1) by decide +kernel) 0 rfl ?_
      obtain ⟨r7, e6, h⟩ := bndO_some h
      refine y_callV (np := 0) (st := []) (as := []) 92 12 (sh_mo_isGood e6) q7_119 q7_116 q7_118 qs4_6 q1_15 (by decide) rfl (by decide) rfl (by decide) (by decide +kernel) (by decide) rfl (Nat.le_of_ble_eq_true rfl) (show decode cX12_numeral 22 = .ok (.invokevirtual 277, 3) by decide +kernel) rfl ?_
      refine bnd_j (Q := fun j9 => ∀ (σ8 : ySt), j9 σ8 = some (ρ, τ) → Y E MX12_numeral (yRm 2 0 0) (yQf E (150 + 0) 0 0 (some (.inl ρ)) (ov τ)) 53 [(0, .inr (.inr (92 + 1))), (1, .inl a)] [] (ov σ8) 150 0 0) (fun σ8 h => ?_) (fun j9 hj9 h => ?_) h
      · dsimp only at h
        refine y_aload_n (show decode cX12_numeral 53 = .ok (.aload_n 0, 1) by decide +kernel) 0 rfl ?_
        refine y_getf 92 12 9 267 (by decide) rfl (by decide) (by decide) q6_56 (show decode cX12_numeral 54 = .ok (.getfield 267, 3) by decide +kernel) (v := .inl (σ8 92 9)) rfl ?_
        refine y_istore_n (show decode cX12_numeral 57 = .ok (.istore_n 3, 1) by decide +kernel) rfl (L1 := [(3, .inl (σ8 92 9)), (0, .inr (.inr (92 + 1))), (1, .inl a)]) rfl ?_
        refine y_aload_n (show decode cX12_numeral 58 = .ok (.aload_n 0, 1) by decide +kernel) 1 rfl ?_
        obtain ⟨r11, e10, h⟩ := bndO_some h
        refine y_callV (np := 0) (st := []) (as := []) 92 12 (sh_mo_isGood e10) q7_119 q7_116 q7_118 qs4_6 q1_15 (by decide) rfl (by decide) rfl (by decide) (by decide +kernel) (by decide) rfl (Nat.le_of_ble_eq_true rfl) (show decode cX12_numeral 59 = .ok (.invokevirtual 277, 3) by decide +kernel) rfl ?_
        refine bnd_j (Q := fun j13 => ∀ (σ12 : ySt), j13 σ12 = some (ρ, τ) → Y E MX12_numeral (yRm 2 0 0) (yQf E (150 + 0) 0 0 (some (.inl ρ)) (ov τ)) 69 [(0, .inr (.inr (92 + 1))), (1, .inl a), (3, .inl (σ8 92 9))] [] (ov σ12) 150 0 0) (fun σ12 h => ?_) (fun j13 hj13 h => ?_) h
        · dsimp only at h
          refine y_aload_n (show decode cX12_numeral 69 = .ok (.aload_n 0, 1) by decide +kernel) 0 rfl ?_
          obtain ⟨r15, e14, h⟩ := bndO_some h
          refine y_callV (np := 0) (st := []) (as := []) 92 12 (sh_mo_isGood e14) q7_119 q7_116 q7_118 qs4_6 q1_15 (by decide) rfl (by decide) rfl (by decide) (by decide +kernel) (by decide) rfl (Nat.le_of_ble_eq_true rfl) (show decode cX12_numeral 70 = .ok (.invokevirtual 277, 3) by decide +kernel) rfl ?_
          by_cases c16 : r15 = 0
          · rw [if_pos c16] at h
            refine y_if_eq_t (tgt := 80) (show decode cX12_numeral 73 = .ok (.ifCond .eq 7, 3) by decide +kernel) rfl c16 ?_
            refine y_iload_n (show decode cX12_numeral 80 = .ok (.iload_n 1, 1) by decide +kernel) 1 rfl ?_
            cases h
            exact y_iret (show decode cX12_numeral 81 = .ok (.ireturn, 1) by decide +kernel) rfl
          · rw [if_neg c16] at h
            refine y_if_eq_f (show decode cX12_numeral 73 = .ok (.ifCond .eq 7, 3) by decide +kernel) c16 (by decide) ?_
            refine y_iload_n (show decode cX12_numeral 76 = .ok (.iload_n 3, 1) by decide +kernel) 2 rfl ?_
            refine y_goto (tgt := 81) (show decode cX12_numeral 77 = .ok (.goto 4, 3) by decide +kernel) rfl ?_
            cases h
            exact y_iret (show decode cX12_numeral 81 = .ok (.ireturn, 1) by decide +kernel) rfl
        by_cases c17 : r11 = 0
        · rw [if_pos c17] at h
          refine y_if_eq_t (tgt := 69) (show decode cX12_numeral 62 = .ok (.ifCond .eq 7, 3) by decide +kernel) rfl c17 ?_
          refine y_pick [1, 2, 0] rfl ?_
          exact hj13 _ h
        · rw [if_neg c17] at h
          refine y_if_eq_f (show decode cX12_numeral 62 = .ok (.ifCond .eq 7, 3) by decide +kernel) c17 (by decide) ?_
          refine y_aload_n (show decode cX12_numeral 65 = .ok (.aload_n 0, 1) by decide +kernel) 1 rfl ?_
          obtain ⟨σ19, e18, h⟩ := bndO_some h
          refine y_callV (np := 0) (st := []) (as := []) 92 12 (sh_mo_goOn e18) q7_80 q7_77 q7_79 qs4_4 q1_15 (by decide) rfl (by decide) rfl (by decide) (by decide +kernel) (by decide) rfl (Nat.le_of_ble_eq_true rfl) (show decode cX12_numeral 66 = .ok (.invokevirtual 281, 3) by decide +kernel) rfl ?_
          refine y_pick [1, 2, 0] rfl ?_
          exact hj13 _ h
      by_cases c20 : r7 = 0
      · rw [if_pos c20] at h
        refine y_if_eq_t (tgt := 53) (show decode cX12_numeral 25 = .ok (.ifCond .eq 28, 3) by decide +kernel) rfl c20 ?_
        refine y_pick [0, 1] rfl ?_
        exact hj9 _ h
      · rw [if_neg c20] at h
        refine y_if_eq_f (show decode cX12_numeral 25 = .ok (.ifCond .eq 28, 3) by decide +kernel) c20 (by decide) ?_
        refine y_aload_n (show decode cX12_numeral 28 = .ok (.aload_n 0, 1) by decide +kernel) 0 rfl ?_
        refine y_getf 92 12 9 267 (by decide) rfl (by decide) (by decide) q6_56 (show decode cX12_numeral 29 = .ok (.getfield 267, 3) by decide +kernel) (v := .inl (σ4 92 9)) rfl ?_
        refine y_iload_n (show decode cX12_numeral 32 = .ok (.iload_n 1, 1) by decide +kernel) 1 rfl ?_
        refine bnd_j (Q := fun j21 => j21 = some (ρ, τ) → Y E MX12_numeral (yRm 2 0 0) (yQf E (150 + 0) 0 0 (some (.inl ρ)) (ov τ)) 44 [(0, .inr (.inr (92 + 1))), (1, .inl a)] [] (ov σ4) 150 0 0) (fun h => ?_) (fun j21 hj21 h => ?_) h
        · refine y_aload_n (show decode cX12_numeral 44 = .ok (.aload_n 0, 1) by decide +kernel) 0 rfl ?_
          refine y_iconst (show decode cX12_numeral 45 = .ok (.iconst 4, 1) by decide +kernel) rfl ?_
          refine y_aload_n (show decode cX12_numeral 46 = .ok (.aload_n 0, 1) by decide +kernel) 0 rfl ?_
          refine y_getf 92 12 6 242 (by decide) rfl (by decide) (by decide) q6_53 (show decode cX12_numeral 47 = .ok (.getfield 242, 3) by decide +kernel) (v := .inl (σ4 92 6)) rfl ?_
          obtain ⟨σ23, e22, h⟩ := bndO_some h
          refine y_callV (np := 2) (st := []) (as := [.inl 4, .inl (σ4 92 6)]) 92 12 (sh_mo_fails e22) q7_139 q7_136 q7_138 qs4_11 q1_15 (by decide) rfl (by decide) rfl (by decide) (by decide +kernel) (by decide) rfl (Nat.le_of_ble_eq_true rfl) (show decode cX12_numeral 50 = .ok (.invokevirtual 273, 3) by decide +kernel) rfl ?_
          refine y_pick [0, 1] rfl ?_
          exact hj9 _ h
        by_cases c24 : (σ4 92 9) < a
        · rw [if_pos c24] at h
          refine y_icmp_lt_t (tgt := 44) (show decode cX12_numeral 33 = .ok (.if_icmp .lt 11, 3) by decide +kernel) rfl c24 ?_
          refine y_pick [0, 1] rfl ?_
          exact hj21 h
        · rw [if_neg c24] at h
          refine y_icmp_lt_f (show decode cX12_numeral 33 = .ok (.if_icmp .lt 11, 3) by decide +kernel) c24 (by decide) ?_
          refine y_aload_n (show decode cX12_numeral 36 = .ok (.aload_n 0, 1) by decide +kernel) 0 rfl ?_
          refine y_getf 92 12 9 267 (by decide) rfl (by decide) (by decide) q6_56 (show decode cX12_numeral 37 = .ok (.getfield 267, 3) by decide +kernel) (v := .inl (σ4 92 9)) rfl ?_
          refine y_iload_n (show decode cX12_numeral 40 = .ok (.iload_n 2, 1) by decide +kernel) 2 rfl ?_
          by_cases c25 : (σ4 92 9) ≤ b
          · rw [if_pos c25] at h
            refine y_icmp_le_t (tgt := 53) (show decode cX12_numeral 41 = .ok (.if_icmp .le 12, 3) by decide +kernel) rfl c25 ?_
            refine y_pick [0, 1] rfl ?_
            exact hj9 _ h
          · rw [if_neg c25] at h
            refine y_icmp_le_f (show decode cX12_numeral 41 = .ok (.if_icmp .le 12, 3) by decide +kernel) c25 (by decide) ?_
            refine y_pick [0, 1] rfl ?_
            exact hj21 h
    by_cases c26 : (σ 92 8) = 4
    · rw [if_pos c26] at h
      refine y_icmp_eq_t (tgt := 21) (show decode cX12_numeral 14 = .ok (.if_icmp .eq 7, 3) by decide +kernel) rfl c26 ?_
      refine y_pick [0, 1, 2] rfl ?_
      exact hj5 _ h
    · rw [if_neg c26] at h
      refine y_icmp_eq_f (show decode cX12_numeral 14 = .ok (.if_icmp .eq 7, 3) by decide +kernel) c26 (by decide) ?_
      refine y_aload_n (show decode cX12_numeral 17 = .ok (.aload_n 0, 1) by decide +kernel) 0 rfl ?_
      obtain ⟨σ28, e27, h⟩ := bndO_some h
      refine y_callV (np := 0) (st := []) (as := []) 92 12 (sh_mo_misplaced e27) q7_135 q7_132 q7_134 qs4_10 q1_15 (by decide) rfl (by decide) rfl (by decide) (by decide +kernel) (by decide) rfl (Nat.le_of_ble_eq_true rfl) (show decode cX12_numeral 18 = .ok (.invokevirtual 284, 3) by decide +kernel) rfl ?_
      refine y_pick [0, 1, 2] rfl ?_
      exact hj5 _ h
  · rw [if_neg c3] at h
    refine y_if_ne_f (show decode cX12_numeral 4 = .ok (.ifCond .ne 5, 3) by decide +kernel) c3 (by decide) ?_
    refine y_iload_n (show decode cX12_numeral 7 = .ok (.iload_n 1, 1) by decide +kernel) 1 rfl ?_
    cases h
    exact y_iret (show decode cX12_numeral 8 = .ok (.ireturn, 1) by decide +kernel) rfl
abbrev MX12_after : yM := (yX12_after, cX12_after, 5, some .int)
def mo_after (N : Nat) (a : Int) (b : Int) (c : Int) (σ : ySt) : Option (Int × ySt) :=
  bndO (mo_isWord a σ) fun r2 =>
  bndO (mo_must N r2 σ) fun σ4 =>
  bndR (mo_numeral N b c σ4) fun r6 σ7 =>
  some (r6, σ7)
set_option maxHeartbeats 4000000 in
set_option maxRecDepth 10000 in
theorem sh_mo_after {E : yE} {N : Nat} {a : Int} {b : Int} {c : Int} {σ : ySt} {ρ : Int} {τ : ySt} (h : mo_after N a b c σ = some (ρ, τ)) : Con E MX12_after 3 0 0 [.inr (.inr (92 + 1)), .inr (.inl a), .inl b, .inl c] 150 (ov σ) (some (.inl ρ)) (ov τ) := by
  unfold mo_after at h
  refine Con.ofY (by decide +kernel) (by simp [yWords, yCat]) (fun hok _ => ?_)
  show Y E MX12_after (yRm 3 0 0) (yQf E (150 + 0) 0 0 (some (.inl ρ)) (ov τ)) 0 [(0, .inr (.inr (92 + 1))), (1, .inr (.inl a)), (3, .inl b), (4, .inl c)] [] (ov σ) 150 0 0
  refine y_aload_n (show decode cX12_after 0 = .ok (.aload_n 0, 1) by decide +kernel) 0 rfl ?_
  refine y_aload_n (show decode cX12_after 1 = .ok (.aload_n 0, 1) by decide +kernel) 0 rfl ?_
  refine y_lload_n (show decode cX12_after 2 = .ok (.lload_n 1, 1) by decide +kernel) 1 rfl ?_
  obtain ⟨r2, e1, h⟩ := bndO_some h
  refine y_callV (np := 1) (st := [.inr (.inr (92 + 1))]) (as := [.inr (.inl a)]) 92 12 (sh_mo_isWord e1) q7_131 q7_128 q7_130 qs4_9 q1_15 (by decide) rfl (by decide) rfl (by decide) (by decide +kernel) (by decide) rfl (Nat.le_of_ble_eq_true rfl) (show decode cX12_after 3 = .ok (.invokevirtual 287, 3) by decide +kernel) rfl ?_
  obtain ⟨σ4, e3, h⟩ := bndO_some h
  refine y_callV (np := 1) (st := []) (as := [.inl r2]) 92 12 (sh_mo_must e3) q7_171 q7_168 q7_170 qs5_3 q1_15 (by decide) rfl (by decide) rfl (by decide) (by decide +kernel) (by decide) rfl (Nat.le_of_ble_eq_true rfl) (show decode cX12_after 6 = .ok (.invokevirtual 290, 3) by decide +kernel) rfl ?_
  refine y_aload_n (show decode cX12_after 9 = .ok (.aload_n 0, 1) by decide +kernel) 0 rfl ?_
  refine y_iload_n (show decode cX12_after 10 = .ok (.iload_n 3, 1) by decide +kernel) 2 rfl ?_
  refine y_iload (show decode cX12_after 11 = .ok (.iload 4, 2) by decide +kernel) 3 rfl ?_
  obtain ⟨r6, σ7, e5, h⟩ := bndR_some h
  refine y_callV (np := 2) (st := []) (as := [.inl b, .inl c]) 92 12 (sh_mo_numeral e5) q7_175 q7_172 q7_174 qs5_4 q1_15 (by decide) rfl (by decide) rfl (by decide) (by decide +kernel) (by decide) rfl (Nat.le_of_ble_eq_true rfl) (show decode cX12_after 13 = .ok (.invokevirtual 294, 3) by decide +kernel) rfl ?_
  cases h
  exact y_iret (show decode cX12_after 16 = .ok (.ireturn, 1) by decide +kernel) rfl
abbrev MX12_takeTape : yM := (yX12_takeTape, cX12_takeTape, 2, none)
def mo_takeTape (N : Nat) (σ : ySt) : Option (ySt) :=
  bnd (yset σ 92 4 0) fun σ1 =>
  bnd (yset σ1 92 5 (-1)) fun σ3 =>
  bnd (yset σ3 92 3 (σ3 92 2)) fun σ5 =>
  loopS1 (fun k9 x7 σ8 =>
    if x7 ≥ (σ8 92 3) then
      bnd (yset σ8 92 2 0) fun σ11 =>
      bnd (yset σ11 92 7 0) fun σ13 =>
      some σ13
    else
      chkA 1620 x7 <|
      chkA 1600 x7 <|
      bnd (yset σ8 94 (x7).toNat (b32i2b (σ8 93 (x7).toNat))) fun σ17 =>
      chkI (x7 + 1) <|
      k9 (x7 + 1) σ17) N 0 σ5
set_option maxHeartbeats 4000000 in
set_option maxRecDepth 10000 in
theorem sh_mo_takeTape {E : yE} {N : Nat} {σ : ySt} {τ : ySt} (h : mo_takeTape N σ = some τ) : Con E MX12_takeTape 0 0 0 [.inr (.inr (92 + 1))] 150 (ov σ) none (ov τ) := by
  unfold mo_takeTape at h
  refine Con.ofY (by decide +kernel) (by simp [yWords, yCat]) (fun hok _ => ?_)
  show Y E MX12_takeTape (yRm 0 0 0) (yQf E (150 + 0) 0 0 none (ov τ)) 0 [(0, .inr (.inr (92 + 1)))] [] (ov σ) 150 0 0
  refine y_aload_n (show decode cX12_takeTape 0 = .ok (.aload_n 0, 1) by decide +kernel) 0 rfl ?_
  refine y_iconst (show decode cX12_takeTape 1 = .ok (.iconst 0, 1) by decide +kernel) rfl ?_
  obtain ⟨σ1, e2, h⟩ := bnd_i h
  refine yo_putI 92 12 4 198 (by decide) rfl (by decide) (by decide) q6_51 rfl (show decode cX12_takeTape 2 = .ok (.putfield 198, 3) by decide +kernel) rfl rfl (ov_set1 e2 rfl) ?_
  refine y_aload_n (show decode cX12_takeTape 5 = .ok (.aload_n 0, 1) by decide +kernel) 0 rfl ?_
  refine y_iconst (show decode cX12_takeTape 6 = .ok (.iconst (-1), 1) by decide +kernel) rfl ?_
  obtain ⟨σ3, e4, h⟩ := bnd_i h
  refine yo_putI 92 12 5 16 (by decide) rfl (by decide) (by decide) q6_52 rfl (show decode cX12_takeTape 7 = .ok (.putfield 16, 3) by decide +kernel) rfl rfl (ov_set1 e4 rfl) ?_
  refine y_aload_n (show decode cX12_takeTape 10 = .ok (.aload_n 0, 1) by decide +kernel) 0 rfl ?_
  refine y_aload_n (show decode cX12_takeTape 11 = .ok (.aload_n 0, 1) by decide +kernel) 0 rfl ?_
  refine y_getf 92 12 2 298 (by decide) rfl (by decide) (by decide) q6_49 (show decode cX12_takeTape 12 = .ok (.getfield 298, 3) by decide +kernel) (v := .inl (σ3 92 2)) rfl ?_
  obtain ⟨σ5, e6, h⟩ := bnd_i h
  refine yo_putI 92 12 3 195 (by decide) rfl (by decide) (by decide) q6_50 rfl (show decode cX12_takeTape 15 = .ok (.putfield 195, 3) by decide +kernel) rfl rfl (ov_set1 e6 rfl) ?_
  refine y_iconst (show decode cX12_takeTape 18 = .ok (.iconst 0, 1) by decide +kernel) rfl ?_
  refine y_istore_n (show decode cX12_takeTape 19 = .ok (.istore_n 1, 1) by decide +kernel) rfl (L1 := [(1, .inl 0), (0, .inr (.inr (92 + 1)))]) rfl ?_
  refine y_pick [1, 0] rfl ?_
  refine loopS1_ind (P := fun x7 σ8 => Y E MX12_takeTape (yRm 0 0 0) (yQf E (150 + 0) 0 0 none (ov τ)) 20 [(0, .inr (.inr (92 + 1))), (1, .inl x7)] [] (ov σ8) 150 0 0) (fun k9 hk9 x7 σ8 h => ?_) _ _ _  h
  refine y_iload_n (show decode cX12_takeTape 20 = .ok (.iload_n 1, 1) by decide +kernel) 1 rfl ?_
  refine y_aload_n (show decode cX12_takeTape 21 = .ok (.aload_n 0, 1) by decide +kernel) 0 rfl ?_
  refine y_getf 92 12 3 195 (by decide) rfl (by decide) (by decide) q6_50 (show decode cX12_takeTape 22 = .ok (.getfield 195, 3) by decide +kernel) (v := .inl (σ8 92 3)) rfl ?_
  by_cases c10 : x7 ≥ (σ8 92 3)
  · rw [if_pos c10] at h
    refine y_icmp_ge_t (tgt := 46) (show decode cX12_takeTape 25 = .ok (.if_icmp .ge 21, 3) by decide +kernel) rfl c10 ?_
    refine y_aload_n (show decode cX12_takeTape 46 = .ok (.aload_n 0, 1) by decide +kernel) 0 rfl ?_
    refine y_iconst (show decode cX12_takeTape 47 = .ok (.iconst 0, 1) by decide +kernel) rfl ?_
    obtain ⟨σ11, e12, h⟩ := bnd_i h
    refine yo_putI 92 12 2 298 (by decide) rfl (by decide) (by decide) q6_49 rfl (show decode cX12_takeTape 48 = .ok (.putfield 298, 3) by decide +kernel) rfl rfl (ov_set1 e12 rfl) ?_
    refine y_aload_n (show decode cX12_takeTape 51 = .ok (.aload_n 0, 1) by decide +kernel) 0 rfl ?_
    refine y_iconst (show decode cX12_takeTape 52 = .ok (.iconst 0, 1) by decide +kernel) rfl ?_
    obtain ⟨σ13, e14, h⟩ := bnd_i h
    refine yo_putI 92 12 7 239 (by decide) rfl (by decide) (by decide) q6_54 rfl (show decode cX12_takeTape 53 = .ok (.putfield 239, 3) by decide +kernel) rfl rfl (ov_set1 e14 rfl) ?_
    cases h
    exact y_vret (show decode cX12_takeTape 56 = .ok (.return_, 1) by decide +kernel) rfl
  · rw [if_neg c10] at h
    refine y_icmp_ge_f (show decode cX12_takeTape 25 = .ok (.if_icmp .ge 21, 3) by decide +kernel) c10 (by decide) ?_
    refine y_aload_n (show decode cX12_takeTape 28 = .ok (.aload_n 0, 1) by decide +kernel) 0 rfl ?_
    refine y_getf 92 12 1 13 (by decide) rfl (by decide) (by decide) q6_48 (show decode cX12_takeTape 29 = .ok (.getfield 13, 3) by decide +kernel) (v := .inr (.inr (94 + 1))) rfl ?_
    refine y_iload_n (show decode cX12_takeTape 32 = .ok (.iload_n 1, 1) by decide +kernel) 1 rfl ?_
    refine y_aload_n (show decode cX12_takeTape 33 = .ok (.aload_n 0, 1) by decide +kernel) 0 rfl ?_
    refine y_getf 92 12 0 7 (by decide) rfl (by decide) (by decide) q6_47 (show decode cX12_takeTape 34 = .ok (.getfield 7, 3) by decide +kernel) (v := .inr (.inr (93 + 1))) rfl ?_
    refine y_iload_n (show decode cX12_takeTape 37 = .ok (.iload_n 1, 1) by decide +kernel) 1 rfl ?_
    obtain ⟨c15, h⟩ := chkA_some h
    refine yo_bald 93 1620 (by decide) rfl c15 (ov_at rfl) (show decode cX12_takeTape 38 = .ok (.baload, 1) by decide +kernel) ?_
    obtain ⟨c16, h⟩ := chkA_some h
    obtain ⟨σ17, e18, h⟩ := bnd_i h
    refine yo_bast 94 1600 (by decide) rfl c16 (ov_set1 e18 rfl) (show decode cX12_takeTape 39 = .ok (.bastore, 1) by decide +kernel) ?_
    obtain ⟨c19, h⟩ := chkI_some h
    refine y_iinc (show decode cX12_takeTape 40 = .ok (.iinc 1 1, 3) by decide +kernel) 1 rfl c19 rfl (L1 := [(1, .inl (x7 + 1)), (0, .inr (.inr (92 + 1)))]) rfl ?_
    refine y_goto (tgt := 20) (show decode cX12_takeTape 43 = .ok (.goto (-23), 3) by decide +kernel) rfl ?_
    refine y_pick [1, 0] rfl ?_
    exact hk9 _ _ h
abbrev MX12_clearBank : yM := (yX12_clearBank, cX12_clearBank, 2, none)
def mo_clearBank (N : Nat) (σ : ySt) : Option (ySt) :=
  chkA 2 (σ 92 41) <|
  bnd (yset σ 95 ((σ 92 41)).toNat 0) fun σ2 =>
  chkA 2 (σ2 92 41) <|
  bnd (yset σ2 96 ((σ2 92 41)).toNat 0) fun σ5 =>
  chkA 2 (σ5 92 41) <|
  bnd (yset σ5 97 ((σ5 92 41)).toNat 0) fun σ8 =>
  chkA 2 (σ8 92 41) <|
  bnd (yset σ8 98 ((σ8 92 41)).toNat 0) fun σ11 =>
  chkA 2 (σ11 92 41) <|
  bnd (yset σ11 99 ((σ11 92 41)).toNat 0) fun σ14 =>
  chkA 2 (σ14 92 41) <|
  bnd (yset σ14 100 ((σ14 92 41)).toNat 60) fun σ17 =>
  chkA 2 (σ17 92 41) <|
  bnd (yset σ17 101 ((σ17 92 41)).toNat 3) fun σ20 =>
  chkA 2 (σ20 92 41) <|
  bnd (yset σ20 102 ((σ20 92 41)).toNat 0) fun σ23 =>
  chkA 2 (σ23 92 41) <|
  bnd (yset σ23 103 ((σ23 92 41)).toNat 0) fun σ26 =>
  chkA 2 (σ26 92 41) <|
  bnd (yset σ26 104 ((σ26 92 41)).toNat 0) fun σ29 =>
  chkA 2 (σ29 92 41) <|
  bnd (yset σ29 105 ((σ29 92 41)).toNat 0) fun σ32 =>
  chkI (400 * (σ32 92 41)) <|
  bnd (yset σ32 92 42 (400 * (σ32 92 41))) fun σ35 =>
  chkA 2 (σ35 92 41) <|
  bnd (yset σ35 118 ((σ35 92 41)).toNat (σ35 92 42)) fun σ38 =>
  chkI (36 * (σ38 92 41)) <|
  loopS1 (fun k43 x41 σ42 =>
    chkI (36 * (σ42 92 41)) <|
    chkI ((36 * (σ42 92 41)) + 36) <|
    if x41 ≥ ((36 * (σ42 92 41)) + 36) then
      chkI (6 * (σ42 92 41)) <|
      loopS1 (fun k50 x48 σ49 =>
        chkI (6 * (σ49 92 41)) <|
        chkI ((6 * (σ49 92 41)) + 6) <|
        if x48 ≥ ((6 * (σ49 92 41)) + 6) then
          some σ49
        else
          chkA 12 x48 <|
          bnd (yset σ49 106 (x48).toNat 0) fun σ55 =>
          chkA 12 x48 <|
          bnd (yset σ55 113 (x48).toNat 0) fun σ58 =>
          chkI (x48 + 1) <|
          k50 (x48 + 1) σ58) N (6 * (σ42 92 41)) σ42
    else
      chkA 72 x41 <|
      bnd (yset σ42 110 (x41).toNat 1000000) fun σ62 =>
      chkI (x41 + 1) <|
      k43 (x41 + 1) σ62) N (36 * (σ38 92 41)) σ38
set_option maxHeartbeats 4000000 in
set_option maxRecDepth 10000 in
theorem sh_mo_clearBank {E : yE} {N : Nat} {σ : ySt} {τ : ySt} (h : mo_clearBank N σ = some τ) : Con E MX12_clearBank 0 0 0 [.inr (.inr (92 + 1))] 150 (ov σ) none (ov τ) := by
  unfold mo_clearBank at h
  refine Con.ofY (by decide +kernel) (by simp [yWords, yCat]) (fun hok _ => ?_)
  show Y E MX12_clearBank (yRm 0 0 0) (yQf E (150 + 0) 0 0 none (ov τ)) 0 [(0, .inr (.inr (92 + 1)))] [] (ov σ) 150 0 0
  refine y_aload_n (show decode cX12_clearBank 0 = .ok (.aload_n 0, 1) by decide +kernel) 0 rfl ?_
  refine y_getf 92 12 11 20 (by decide) rfl (by decide) (by decide) q6_58 (show decode cX12_clearBank 1 = .ok (.getfield 20, 3) by decide +kernel) (v := .inr (.inr (95 + 1))) rfl ?_
  refine y_aload_n (show decode cX12_clearBank 4 = .ok (.aload_n 0, 1) by decide +kernel) 0 rfl ?_
  refine y_getf 92 12 41 301 (by decide) rfl (by decide) (by decide) q6_88 (show decode cX12_clearBank 5 = .ok (.getfield 301, 3) by decide +kernel) (v := .inl (σ 92 41)) rfl ?_
  refine y_iconst (show decode cX12_clearBank 8 = .ok (.iconst 0, 1) by decide +kernel) rfl ?_
  obtain ⟨c1, h⟩ := chkA_some h
  obtain ⟨σ2, e3, h⟩ := bnd_i h
  refine yo_iast 95 2 (by decide) rfl c1 (ov_set1 e3 rfl) (show decode cX12_clearBank 9 = .ok (.iastore, 1) by decide +kernel) ?_
  refine y_aload_n (show decode cX12_clearBank 10 = .ok (.aload_n 0, 1) by decide +kernel) 0 rfl ?_
  refine y_getf 92 12 12 24 (by decide) rfl (by decide) (by decide) q6_59 (show decode cX12_clearBank 11 = .ok (.getfield 24, 3) by decide +kernel) (v := .inr (.inr (96 + 1))) rfl ?_
  refine y_aload_n (show decode cX12_clearBank 14 = .ok (.aload_n 0, 1) by decide +kernel) 0 rfl ?_
  refine y_getf 92 12 41 301 (by decide) rfl (by decide) (by decide) q6_88 (show decode cX12_clearBank 15 = .ok (.getfield 301, 3) by decide +kernel) (v := .inl (σ2 92 41)) rfl ?_
  refine y_iconst (show decode cX12_clearBank 18 = .ok (.iconst 0, 1) by decide +kernel) rfl ?_
  obtain ⟨c4, h⟩ := chkA_some h
  obtain ⟨σ5, e6, h⟩ := bnd_i h
  refine yo_iast 96 2 (by decide) rfl c4 (ov_set1 e6 rfl) (show decode cX12_clearBank 19 = .ok (.iastore, 1) by decide +kernel) ?_
  refine y_aload_n (show decode cX12_clearBank 20 = .ok (.aload_n 0, 1) by decide +kernel) 0 rfl ?_
  refine y_getf 92 12 13 27 (by decide) rfl (by decide) (by decide) q6_60 (show decode cX12_clearBank 21 = .ok (.getfield 27, 3) by decide +kernel) (v := .inr (.inr (97 + 1))) rfl ?_
  refine y_aload_n (show decode cX12_clearBank 24 = .ok (.aload_n 0, 1) by decide +kernel) 0 rfl ?_
  refine y_getf 92 12 41 301 (by decide) rfl (by decide) (by decide) q6_88 (show decode cX12_clearBank 25 = .ok (.getfield 301, 3) by decide +kernel) (v := .inl (σ5 92 41)) rfl ?_
  refine y_iconst (show decode cX12_clearBank 28 = .ok (.iconst 0, 1) by decide +kernel) rfl ?_
  obtain ⟨c7, h⟩ := chkA_some h
  obtain ⟨σ8, e9, h⟩ := bnd_i h
  refine yo_iast 97 2 (by decide) rfl c7 (ov_set1 e9 rfl) (show decode cX12_clearBank 29 = .ok (.iastore, 1) by decide +kernel) ?_
  refine y_aload_n (show decode cX12_clearBank 30 = .ok (.aload_n 0, 1) by decide +kernel) 0 rfl ?_
  refine y_getf 92 12 14 30 (by decide) rfl (by decide) (by decide) q6_61 (show decode cX12_clearBank 31 = .ok (.getfield 30, 3) by decide +kernel) (v := .inr (.inr (98 + 1))) rfl ?_
  refine y_aload_n (show decode cX12_clearBank 34 = .ok (.aload_n 0, 1) by decide +kernel) 0 rfl ?_
  refine y_getf 92 12 41 301 (by decide) rfl (by decide) (by decide) q6_88 (show decode cX12_clearBank 35 = .ok (.getfield 301, 3) by decide +kernel) (v := .inl (σ8 92 41)) rfl ?_
  refine y_iconst (show decode cX12_clearBank 38 = .ok (.iconst 0, 1) by decide +kernel) rfl ?_
  obtain ⟨c10, h⟩ := chkA_some h
  obtain ⟨σ11, e12, h⟩ := bnd_i h
  refine yo_iast 98 2 (by decide) rfl c10 (ov_set1 e12 rfl) (show decode cX12_clearBank 39 = .ok (.iastore, 1) by decide +kernel) ?_
  refine y_aload_n (show decode cX12_clearBank 40 = .ok (.aload_n 0, 1) by decide +kernel) 0 rfl ?_
  refine y_getf 92 12 15 33 (by decide) rfl (by decide) (by decide) q6_62 (show decode cX12_clearBank 41 = .ok (.getfield 33, 3) by decide +kernel) (v := .inr (.inr (99 + 1))) rfl ?_
  refine y_aload_n (show decode cX12_clearBank 44 = .ok (.aload_n 0, 1) by decide +kernel) 0 rfl ?_
  refine y_getf 92 12 41 301 (by decide) rfl (by decide) (by decide) q6_88 (show decode cX12_clearBank 45 = .ok (.getfield 301, 3) by decide +kernel) (v := .inl (σ11 92 41)) rfl ?_
  refine y_iconst (show decode cX12_clearBank 48 = .ok (.iconst 0, 1) by decide +kernel) rfl ?_
  obtain ⟨c13, h⟩ := chkA_some h
  obtain ⟨σ14, e15, h⟩ := bnd_i h
  refine yo_iast 99 2 (by decide) rfl c13 (ov_set1 e15 rfl) (show decode cX12_clearBank 49 = .ok (.iastore, 1) by decide +kernel) ?_
  refine y_aload_n (show decode cX12_clearBank 50 = .ok (.aload_n 0, 1) by decide +kernel) 0 rfl ?_
  refine y_getf 92 12 16 36 (by decide) rfl (by decide) (by decide) q6_63 (show decode cX12_clearBank 51 = .ok (.getfield 36, 3) by decide +kernel) (v := .inr (.inr (100 + 1))) rfl ?_
  refine y_aload_n (show decode cX12_clearBank 54 = .ok (.aload_n 0, 1) by decide +kernel) 0 rfl ?_
  refine y_getf 92 12 41 301 (by decide) rfl (by decide) (by decide) q6_88 (show decode cX12_clearBank 55 = .ok (.getfield 301, 3) by decide +kernel) (v := .inl (σ14 92 41)) rfl ?_
  refine y_bipush (show decode cX12_clearBank 58 = .ok (.bipush 60, 2) by decide +kernel) rfl rfl ?_
  obtain ⟨c16, h⟩ := chkA_some h
  obtain ⟨σ17, e18, h⟩ := bnd_i h
  refine yo_iast 100 2 (by decide) rfl c16 (ov_set1 e18 rfl) (show decode cX12_clearBank 60 = .ok (.iastore, 1) by decide +kernel) ?_
  refine y_aload_n (show decode cX12_clearBank 61 = .ok (.aload_n 0, 1) by decide +kernel) 0 rfl ?_
  refine y_getf 92 12 17 39 (by decide) rfl (by decide) (by decide) q6_64 (show decode cX12_clearBank 62 = .ok (.getfield 39, 3) by decide +kernel) (v := .inr (.inr (101 + 1))) rfl ?_
  refine y_aload_n (show decode cX12_clearBank 65 = .ok (.aload_n 0, 1) by decide +kernel) 0 rfl ?_
  refine y_getf 92 12 41 301 (by decide) rfl (by decide) (by decide) q6_88 (show decode cX12_clearBank 66 = .ok (.getfield 301, 3) by decide +kernel) (v := .inl (σ17 92 41)) rfl ?_
  refine y_iconst (show decode cX12_clearBank 69 = .ok (.iconst 3, 1) by decide +kernel) rfl ?_
  obtain ⟨c19, h⟩ := chkA_some h
  obtain ⟨σ20, e21, h⟩ := bnd_i h
  refine yo_iast 101 2 (by decide) rfl c19 (ov_set1 e21 rfl) (show decode cX12_clearBank 70 = .ok (.iastore, 1) by decide +kernel) ?_
  refine y_aload_n (show decode cX12_clearBank 71 = .ok (.aload_n 0, 1) by decide +kernel) 0 rfl ?_
  refine y_getf 92 12 18 42 (by decide) rfl (by decide) (by decide) q6_65 (show decode cX12_clearBank 72 = .ok (.getfield 42, 3) by decide +kernel) (v := .inr (.inr (102 + 1))) rfl ?_
  refine y_aload_n (show decode cX12_clearBank 75 = .ok (.aload_n 0, 1) by decide +kernel) 0 rfl ?_
  refine y_getf 92 12 41 301 (by decide) rfl (by decide) (by decide) q6_88 (show decode cX12_clearBank 76 = .ok (.getfield 301, 3) by decide +kernel) (v := .inl (σ20 92 41)) rfl ?_
  refine y_iconst (show decode cX12_clearBank 79 = .ok (.iconst 0, 1) by decide +kernel) rfl ?_
  obtain ⟨c22, h⟩ := chkA_some h
  obtain ⟨σ23, e24, h⟩ := bnd_i h
  refine yo_iast 102 2 (by decide) rfl c22 (ov_set1 e24 rfl) (show decode cX12_clearBank 80 = .ok (.iastore, 1) by decide +kernel) ?_
  refine y_aload_n (show decode cX12_clearBank 81 = .ok (.aload_n 0, 1) by decide +kernel) 0 rfl ?_
  refine y_getf 92 12 19 45 (by decide) rfl (by decide) (by decide) q6_66 (show decode cX12_clearBank 82 = .ok (.getfield 45, 3) by decide +kernel) (v := .inr (.inr (103 + 1))) rfl ?_
  refine y_aload_n (show decode cX12_clearBank 85 = .ok (.aload_n 0, 1) by decide +kernel) 0 rfl ?_
  refine y_getf 92 12 41 301 (by decide) rfl (by decide) (by decide) q6_88 (show decode cX12_clearBank 86 = .ok (.getfield 301, 3) by decide +kernel) (v := .inl (σ23 92 41)) rfl ?_
  refine y_iconst (show decode cX12_clearBank 89 = .ok (.iconst 0, 1) by decide +kernel) rfl ?_
  obtain ⟨c25, h⟩ := chkA_some h
  obtain ⟨σ26, e27, h⟩ := bnd_i h
  refine yo_zast 103 2 (by decide) rfl c25 (Or.inl rfl) (ov_set1 e27 rfl) (show decode cX12_clearBank 90 = .ok (.bastore, 1) by decide +kernel) ?_
  refine y_aload_n (show decode cX12_clearBank 91 = .ok (.aload_n 0, 1) by decide +kernel) 0 rfl ?_
  refine y_getf 92 12 20 49 (by decide) rfl (by decide) (by decide) q6_67 (show decode cX12_clearBank 92 = .ok (.getfield 49, 3) by decide +kernel) (v := .inr (.inr (104 + 1))) rfl ?_
  refine y_aload_n (show decode cX12_clearBank 95 = .ok (.aload_n 0, 1) by decide +kernel) 0 rfl ?_
  refine y_getf 92 12 41 301 (by decide) rfl (by decide) (by decide) q6_88 (show decode cX12_clearBank 96 = .ok (.getfield 301, 3) by decide +kernel) (v := .inl (σ26 92 41)) rfl ?_
  refine y_iconst (show decode cX12_clearBank 99 = .ok (.iconst 0, 1) by decide +kernel) rfl ?_
  obtain ⟨c28, h⟩ := chkA_some h
  obtain ⟨σ29, e30, h⟩ := bnd_i h
  refine yo_zast 104 2 (by decide) rfl c28 (Or.inl rfl) (ov_set1 e30 rfl) (show decode cX12_clearBank 100 = .ok (.bastore, 1) by decide +kernel) ?_
  refine y_aload_n (show decode cX12_clearBank 101 = .ok (.aload_n 0, 1) by decide +kernel) 0 rfl ?_
  refine y_getf 92 12 21 52 (by decide) rfl (by decide) (by decide) q6_68 (show decode cX12_clearBank 102 = .ok (.getfield 52, 3) by decide +kernel) (v := .inr (.inr (105 + 1))) rfl ?_
  refine y_aload_n (show decode cX12_clearBank 105 = .ok (.aload_n 0, 1) by decide +kernel) 0 rfl ?_
  refine y_getf 92 12 41 301 (by decide) rfl (by decide) (by decide) q6_88 (show decode cX12_clearBank 106 = .ok (.getfield 301, 3) by decide +kernel) (v := .inl (σ29 92 41)) rfl ?_
  refine y_iconst (show decode cX12_clearBank 109 = .ok (.iconst 0, 1) by decide +kernel) rfl ?_
  obtain ⟨c31, h⟩ := chkA_some h
  obtain ⟨σ32, e33, h⟩ := bnd_i h
  refine yo_zast 105 2 (by decide) rfl c31 (Or.inl rfl) (ov_set1 e33 rfl) (show decode cX12_clearBank 110 = .ok (.bastore, 1) by decide +kernel) ?_
  refine y_aload_n (show decode cX12_clearBank 111 = .ok (.aload_n 0, 1) by decide +kernel) 0 rfl ?_
  refine y_sipush (show decode cX12_clearBank 112 = .ok (.sipush 400, 3) by decide +kernel) rfl rfl ?_
  refine y_aload_n (show decode cX12_clearBank 115 = .ok (.aload_n 0, 1) by decide +kernel) 0 rfl ?_
  refine y_getf 92 12 41 301 (by decide) rfl (by decide) (by decide) q6_88 (show decode cX12_clearBank 116 = .ok (.getfield 301, 3) by decide +kernel) (v := .inl (σ32 92 41)) rfl ?_
  obtain ⟨c34, h⟩ := chkI_some h
  refine y_imul (show decode cX12_clearBank 119 = .ok (.imul, 1) by decide +kernel) c34 ?_
  obtain ⟨σ35, e36, h⟩ := bnd_i h
  refine yo_putI 92 12 42 304 (by decide) rfl (by decide) (by decide) q6_89 rfl (show decode cX12_clearBank 120 = .ok (.putfield 304, 3) by decide +kernel) rfl rfl (ov_set1 e36 rfl) ?_
  refine y_aload_n (show decode cX12_clearBank 123 = .ok (.aload_n 0, 1) by decide +kernel) 0 rfl ?_
  refine y_getf 92 12 34 92 (by decide) rfl (by decide) (by decide) q6_81 (show decode cX12_clearBank 124 = .ok (.getfield 92, 3) by decide +kernel) (v := .inr (.inr (118 + 1))) rfl ?_
  refine y_aload_n (show decode cX12_clearBank 127 = .ok (.aload_n 0, 1) by decide +kernel) 0 rfl ?_
  refine y_getf 92 12 41 301 (by decide) rfl (by decide) (by decide) q6_88 (show decode cX12_clearBank 128 = .ok (.getfield 301, 3) by decide +kernel) (v := .inl (σ35 92 41)) rfl ?_
  refine y_aload_n (show decode cX12_clearBank 131 = .ok (.aload_n 0, 1) by decide +kernel) 0 rfl ?_
  refine y_getf 92 12 42 304 (by decide) rfl (by decide) (by decide) q6_89 (show decode cX12_clearBank 132 = .ok (.getfield 304, 3) by decide +kernel) (v := .inl (σ35 92 42)) rfl ?_
  obtain ⟨c37, h⟩ := chkA_some h
  obtain ⟨σ38, e39, h⟩ := bnd_i h
  refine yo_iast 118 2 (by decide) rfl c37 (ov_set1 e39 rfl) (show decode cX12_clearBank 135 = .ok (.iastore, 1) by decide +kernel) ?_
  refine y_bipush (show decode cX12_clearBank 136 = .ok (.bipush 36, 2) by decide +kernel) rfl rfl ?_
  refine y_aload_n (show decode cX12_clearBank 138 = .ok (.aload_n 0, 1) by decide +kernel) 0 rfl ?_
  refine y_getf 92 12 41 301 (by decide) rfl (by decide) (by decide) q6_88 (show decode cX12_clearBank 139 = .ok (.getfield 301, 3) by decide +kernel) (v := .inl (σ38 92 41)) rfl ?_
  obtain ⟨c40, h⟩ := chkI_some h
  refine y_imul (show decode cX12_clearBank 142 = .ok (.imul, 1) by decide +kernel) c40 ?_
  refine y_istore_n (show decode cX12_clearBank 143 = .ok (.istore_n 1, 1) by decide +kernel) rfl (L1 := [(1, .inl (36 * (σ38 92 41))), (0, .inr (.inr (92 + 1)))]) rfl ?_
  refine y_pick [1, 0] rfl ?_
  refine loopS1_ind (P := fun x41 σ42 => Y E MX12_clearBank (yRm 0 0 0) (yQf E (150 + 0) 0 0 none (ov τ)) 144 [(0, .inr (.inr (92 + 1))), (1, .inl x41)] [] (ov σ42) 150 0 0) (fun k43 hk43 x41 σ42 h => ?_) _ _ _  h
  refine y_iload_n (show decode cX12_clearBank 144 = .ok (.iload_n 1, 1) by decide +kernel) 1 rfl ?_
  refine y_bipush (show decode cX12_clearBank 145 = .ok (.bipush 36, 2) by decide +kernel) rfl rfl ?_
  refine y_aload_n (show decode cX12_clearBank 147 = .ok (.aload_n 0, 1) by decide +kernel) 0 rfl ?_
  refine y_getf 92 12 41 301 (by decide) rfl (by decide) (by decide) q6_88 (show decode cX12_clearBank 148 = .ok (.getfield 301, 3) by decide +kernel) (v := .inl (σ42 92 41)) rfl ?_
  obtain ⟨c44, h⟩ := chkI_some h
  refine y_imul (show decode cX12_clearBank 151 = .ok (.imul, 1) by decide +kernel) c44 ?_
  refine y_bipush (show decode cX12_clearBank 152 = .ok (.bipush 36, 2) by decide +kernel) rfl rfl ?_
  obtain ⟨c45, h⟩ := chkI_some h
  refine y_iadd (show decode cX12_clearBank 154 = .ok (.iadd, 1) by decide +kernel) c45 ?_
  by_cases c46 : x41 ≥ ((36 * (σ42 92 41)) + 36)
  · rw [if_pos c46] at h
    refine y_icmp_ge_t (tgt := 173) (show decode cX12_clearBank 155 = .ok (.if_icmp .ge 18, 3) by decide +kernel) rfl c46 ?_
    refine y_bipush (show decode cX12_clearBank 173 = .ok (.bipush 6, 2) by decide +kernel) rfl rfl ?_
    refine y_aload_n (show decode cX12_clearBank 175 = .ok (.aload_n 0, 1) by decide +kernel) 0 rfl ?_
    refine y_getf 92 12 41 301 (by decide) rfl (by decide) (by decide) q6_88 (show decode cX12_clearBank 176 = .ok (.getfield 301, 3) by decide +kernel) (v := .inl (σ42 92 41)) rfl ?_
    obtain ⟨c47, h⟩ := chkI_some h
    refine y_imul (show decode cX12_clearBank 179 = .ok (.imul, 1) by decide +kernel) c47 ?_
    refine y_istore_n (show decode cX12_clearBank 180 = .ok (.istore_n 1, 1) by decide +kernel) rfl (L1 := [(1, .inl (6 * (σ42 92 41))), (0, .inr (.inr (92 + 1)))]) rfl ?_
    refine y_pick [1, 0] rfl ?_
    refine loopS1_ind (P := fun x48 σ49 => Y E MX12_clearBank (yRm 0 0 0) (yQf E (150 + 0) 0 0 none (ov τ)) 181 [(0, .inr (.inr (92 + 1))), (1, .inl x48)] [] (ov σ49) 150 0 0) (fun k50 hk50 x48 σ49 h => ?_) _ _ _  h
    refine y_iload_n (show decode cX12_clearBank 181 = .ok (.iload_n 1, 1) by decide +kernel) 1 rfl ?_
    refine y_bipush (show decode cX12_clearBank 182 = .ok (.bipush 6, 2) by decide +kernel) rfl rfl ?_
    refine y_aload_n (show decode cX12_clearBank 184 = .ok (.aload_n 0, 1) by decide +kernel) 0 rfl ?_
    refine y_getf 92 12 41 301 (by decide) rfl (by decide) (by decide) q6_88 (show decode cX12_clearBank 185 = .ok (.getfield 301, 3) by decide +kernel) (v := .inl (σ49 92 41)) rfl ?_
    obtain ⟨c51, h⟩ := chkI_some h
    refine y_imul (show decode cX12_clearBank 188 = .ok (.imul, 1) by decide +kernel) c51 ?_
    refine y_bipush (show decode cX12_clearBank 189 = .ok (.bipush 6, 2) by decide +kernel) rfl rfl ?_
    obtain ⟨c52, h⟩ := chkI_some h
    refine y_iadd (show decode cX12_clearBank 191 = .ok (.iadd, 1) by decide +kernel) c52 ?_
    by_cases c53 : x48 ≥ ((6 * (σ49 92 41)) + 6)
    · rw [if_pos c53] at h
      refine y_icmp_ge_t (tgt := 215) (show decode cX12_clearBank 192 = .ok (.if_icmp .ge 23, 3) by decide +kernel) rfl c53 ?_
      cases h
      exact y_vret (show decode cX12_clearBank 215 = .ok (.return_, 1) by decide +kernel) rfl
    · rw [if_neg c53] at h
      refine y_icmp_ge_f (show decode cX12_clearBank 192 = .ok (.if_icmp .ge 23, 3) by decide +kernel) c53 (by decide) ?_
      refine y_aload_n (show decode cX12_clearBank 195 = .ok (.aload_n 0, 1) by decide +kernel) 0 rfl ?_
      refine y_getf 92 12 22 55 (by decide) rfl (by decide) (by decide) q6_69 (show decode cX12_clearBank 196 = .ok (.getfield 55, 3) by decide +kernel) (v := .inr (.inr (106 + 1))) rfl ?_
      refine y_iload_n (show decode cX12_clearBank 199 = .ok (.iload_n 1, 1) by decide +kernel) 1 rfl ?_
      refine y_iconst (show decode cX12_clearBank 200 = .ok (.iconst 0, 1) by decide +kernel) rfl ?_
      obtain ⟨c54, h⟩ := chkA_some h
      obtain ⟨σ55, e56, h⟩ := bnd_i h
      refine yo_zast 106 12 (by decide) rfl c54 (Or.inl rfl) (ov_set1 e56 rfl) (show decode cX12_clearBank 201 = .ok (.bastore, 1) by decide +kernel) ?_
      refine y_aload_n (show decode cX12_clearBank 202 = .ok (.aload_n 0, 1) by decide +kernel) 0 rfl ?_
      refine y_getf 92 12 29 77 (by decide) rfl (by decide) (by decide) q6_76 (show decode cX12_clearBank 203 = .ok (.getfield 77, 3) by decide +kernel) (v := .inr (.inr (113 + 1))) rfl ?_
      refine y_iload_n (show decode cX12_clearBank 206 = .ok (.iload_n 1, 1) by decide +kernel) 1 rfl ?_
      refine y_iconst (show decode cX12_clearBank 207 = .ok (.iconst 0, 1) by decide +kernel) rfl ?_
      obtain ⟨c57, h⟩ := chkA_some h
      obtain ⟨σ58, e59, h⟩ := bnd_i h
      refine yo_iast 113 12 (by decide) rfl c57 (ov_set1 e59 rfl) (show decode cX12_clearBank 208 = .ok (.iastore, 1) by decide +kernel) ?_
      obtain ⟨c60, h⟩ := chkI_some h
      refine y_iinc (show decode cX12_clearBank 209 = .ok (.iinc 1 1, 3) by decide +kernel) 1 rfl c60 rfl (L1 := [(1, .inl (x48 + 1)), (0, .inr (.inr (92 + 1)))]) rfl ?_
      refine y_goto (tgt := 181) (show decode cX12_clearBank 212 = .ok (.goto (-31), 3) by decide +kernel) rfl ?_
      refine y_pick [1, 0] rfl ?_
      exact hk50 _ _ h
  · rw [if_neg c46] at h
    refine y_icmp_ge_f (show decode cX12_clearBank 155 = .ok (.if_icmp .ge 18, 3) by decide +kernel) c46 (by decide) ?_
    refine y_aload_n (show decode cX12_clearBank 158 = .ok (.aload_n 0, 1) by decide +kernel) 0 rfl ?_
    refine y_getf 92 12 26 68 (by decide) rfl (by decide) (by decide) q6_73 (show decode cX12_clearBank 159 = .ok (.getfield 68, 3) by decide +kernel) (v := .inr (.inr (110 + 1))) rfl ?_
    refine y_iload_n (show decode cX12_clearBank 162 = .ok (.iload_n 1, 1) by decide +kernel) 1 rfl ?_
    refine y_ldcw (k := 1000000) (show decode cX12_clearBank 163 = .ok (.ldc_w 307, 3) by decide +kernel) q6_34 rfl rfl ?_
    obtain ⟨c61, h⟩ := chkA_some h
    obtain ⟨σ62, e63, h⟩ := bnd_i h
    refine yo_iast 110 72 (by decide) rfl c61 (ov_set1 e63 rfl) (show decode cX12_clearBank 166 = .ok (.iastore, 1) by decide +kernel) ?_
    obtain ⟨c64, h⟩ := chkI_some h
    refine y_iinc (show decode cX12_clearBank 167 = .ok (.iinc 1 1, 3) by decide +kernel) 1 rfl c64 rfl (L1 := [(1, .inl (x41 + 1)), (0, .inr (.inr (92 + 1)))]) rfl ?_
    refine y_goto (tgt := 144) (show decode cX12_clearBank 170 = .ok (.goto (-26), 3) by decide +kernel) rfl ?_
    refine y_pick [1, 0] rfl ?_
    exact hk43 _ _ h
abbrev MX12_isFull : yM := (yX12_isFull, cX12_isFull, 1, some .boolean)
def mo_isFull (σ : ySt) : Option (Int) :=
  bndO (mo_isWord 482854658917 σ) fun r2 =>
  if r2 = 0 then
    bndO (mo_isWord 7823737 σ) fun r5 =>
    if r5 = 0 then
      bndO (mo_isWord 123581014175598 σ) fun r8 =>
      if r8 = 0 then
        bndO (mo_isWord 6582119 σ) fun r11 =>
        if r11 = 0 then
          bndO (mo_isWord 111542219664996 σ) fun r14 =>
          if r14 = 0 then
            bndO (mo_isWord 1752135026 σ) fun r17 =>
            if r17 = 0 then
              bndO (mo_isWord 32497657166128499 σ) fun r20 =>
              if r20 = 0 then
                bndO (mo_isWord 1920298085 σ) fun r23 =>
                if r23 = 0 then
                  some 1
                else
                  chkA 2 (σ 92 41) <|
                  if (σ 105 ((σ 92 41)).toNat) = 0 then
                    some 0
                  else
                    some 1
              else
                chkA 2 (σ 92 41) <|
                chk ((σ 104 ((σ 92 41)).toNat) = 0 ∨ (σ 104 ((σ 92 41)).toNat) = 1) <|
                some (σ 104 ((σ 92 41)).toNat)
            else
              chkA 2 (σ 92 41) <|
              chk ((σ 103 ((σ 92 41)).toNat) = 0 ∨ (σ 103 ((σ 92 41)).toNat) = 1) <|
              some (σ 103 ((σ 92 41)).toNat)
          else
            chkA 2 (σ 92 41) <|
            if ¬ (σ 99 ((σ 92 41)).toNat) = 8 then
              some 0
            else
              some 1
        else
          chkA 2 (σ 92 41) <|
          if ¬ (σ 98 ((σ 92 41)).toNat) = 3 then
            some 0
          else
            some 1
      else
        chkA 2 (σ 92 41) <|
        if ¬ (σ 97 ((σ 92 41)).toNat) = 5 then
          some 0
        else
          some 1
    else
      chkA 2 (σ 92 41) <|
      if ¬ (σ 96 ((σ 92 41)).toNat) = 15 then
        some 0
      else
        some 1
  else
    chkA 2 (σ 92 41) <|
    if ¬ (σ 95 ((σ 92 41)).toNat) = 6 then
      some 0
    else
      some 1
set_option maxHeartbeats 4000000 in
set_option maxRecDepth 10000 in
theorem sh_mo_isFull {E : yE} {σ : ySt} {ρ : Int} (h : mo_isFull σ = some ρ) : Con E MX12_isFull 1 0 0 [.inr (.inr (92 + 1))] 150 (ov σ) (some (.inl ρ)) (ov σ) := by
  unfold mo_isFull at h
  refine Con.ofY (by decide +kernel) (by simp [yWords, yCat]) (fun hok _ => ?_)
  show Y E MX12_isFull (yRm 1 0 0) (yQf E (150 + 0) 0 0 (some (.inl ρ)) (ov σ)) 0 [(0, .inr (.inr (92 + 1)))] [] (ov σ) 150 0 0
  refine y_aload_n (show decode cX12_isFull 0 = .ok (.aload_n 0, 1) by decide +kernel) 0 rfl ?_
  refine y_ldc2 (k := 482854658917) (show decode cX12_isFull 1 = .ok (.ldc2_w 201, 3) by decide +kernel) q7_91 rfl rfl ?_
  obtain ⟨r2, e1, h⟩ := bndO_some h
  refine y_callV (np := 1) (st := []) (as := [.inr (.inl 482854658917)]) 92 12 (sh_mo_isWord e1) q7_131 q7_128 q7_130 qs4_9 q1_15 (by decide) rfl (by decide) rfl (by decide) (by decide +kernel) (by decide) rfl (Nat.le_of_ble_eq_true rfl) (show decode cX12_isFull 4 = .ok (.invokevirtual 287, 3) by decide +kernel) rfl ?_
  by_cases c3 : r2 = 0
  · rw [if_pos c3] at h
    refine y_if_eq_t (tgt := 30) (show decode cX12_isFull 7 = .ok (.ifCond .eq 23, 3) by decide +kernel) rfl c3 ?_
    refine y_aload_n (show decode cX12_isFull 30 = .ok (.aload_n 0, 1) by decide +kernel) 0 rfl ?_
    refine y_ldc2 (k := 7823737) (show decode cX12_isFull 31 = .ok (.ldc2_w 205, 3) by decide +kernel) q7_93 rfl rfl ?_
    obtain ⟨r5, e4, h⟩ := bndO_some h
    refine y_callV (np := 1) (st := []) (as := [.inr (.inl 7823737)]) 92 12 (sh_mo_isWord e4) q7_131 q7_128 q7_130 qs4_9 q1_15 (by decide) rfl (by decide) rfl (by decide) (by decide +kernel) (by decide) rfl (Nat.le_of_ble_eq_true rfl) (show decode cX12_isFull 34 = .ok (.invokevirtual 287, 3) by decide +kernel) rfl ?_
    by_cases c6 : r5 = 0
    · rw [if_pos c6] at h
      refine y_if_eq_t (tgt := 60) (show decode cX12_isFull 37 = .ok (.ifCond .eq 23, 3) by decide +kernel) rfl c6 ?_
      refine y_aload_n (show decode cX12_isFull 60 = .ok (.aload_n 0, 1) by decide +kernel) 0 rfl ?_
      refine y_ldc2 (k := 123581014175598) (show decode cX12_isFull 61 = .ok (.ldc2_w 209, 3) by decide +kernel) q7_95 rfl rfl ?_
      obtain ⟨r8, e7, h⟩ := bndO_some h
      refine y_callV (np := 1) (st := []) (as := [.inr (.inl 123581014175598)]) 92 12 (sh_mo_isWord e7) q7_131 q7_128 q7_130 qs4_9 q1_15 (by decide) rfl (by decide) rfl (by decide) (by decide +kernel) (by decide) rfl (Nat.le_of_ble_eq_true rfl) (show decode cX12_isFull 64 = .ok (.invokevirtual 287, 3) by decide +kernel) rfl ?_
      by_cases c9 : r8 = 0
      · rw [if_pos c9] at h
        refine y_if_eq_t (tgt := 89) (show decode cX12_isFull 67 = .ok (.ifCond .eq 22, 3) by decide +kernel) rfl c9 ?_
        refine y_aload_n (show decode cX12_isFull 89 = .ok (.aload_n 0, 1) by decide +kernel) 0 rfl ?_
        refine y_ldc2 (k := 6582119) (show decode cX12_isFull 90 = .ok (.ldc2_w 215, 3) by decide +kernel) q7_98 rfl rfl ?_
        obtain ⟨r11, e10, h⟩ := bndO_some h
        refine y_callV (np := 1) (st := []) (as := [.inr (.inl 6582119)]) 92 12 (sh_mo_isWord e10) q7_131 q7_128 q7_130 qs4_9 q1_15 (by decide) rfl (by decide) rfl (by decide) (by decide +kernel) (by decide) rfl (Nat.le_of_ble_eq_true rfl) (show decode cX12_isFull 93 = .ok (.invokevirtual 287, 3) by decide +kernel) rfl ?_
        by_cases c12 : r11 = 0
        · rw [if_pos c12] at h
          refine y_if_eq_t (tgt := 118) (show decode cX12_isFull 96 = .ok (.ifCond .eq 22, 3) by decide +kernel) rfl c12 ?_
          refine y_aload_n (show decode cX12_isFull 118 = .ok (.aload_n 0, 1) by decide +kernel) 0 rfl ?_
          refine y_ldc2 (k := 111542219664996) (show decode cX12_isFull 119 = .ok (.ldc2_w 217, 3) by decide +kernel) q7_99 rfl rfl ?_
          obtain ⟨r14, e13, h⟩ := bndO_some h
          refine y_callV (np := 1) (st := []) (as := [.inr (.inl 111542219664996)]) 92 12 (sh_mo_isWord e13) q7_131 q7_128 q7_130 qs4_9 q1_15 (by decide) rfl (by decide) rfl (by decide) (by decide +kernel) (by decide) rfl (Nat.le_of_ble_eq_true rfl) (show decode cX12_isFull 122 = .ok (.invokevirtual 287, 3) by decide +kernel) rfl ?_
          by_cases c15 : r14 = 0
          · rw [if_pos c15] at h
            refine y_if_eq_t (tgt := 148) (show decode cX12_isFull 125 = .ok (.ifCond .eq 23, 3) by decide +kernel) rfl c15 ?_
            refine y_aload_n (show decode cX12_isFull 148 = .ok (.aload_n 0, 1) by decide +kernel) 0 rfl ?_
            refine y_ldc2 (k := 1752135026) (show decode cX12_isFull 149 = .ok (.ldc2_w 223, 3) by decide +kernel) q7_102 rfl rfl ?_
            obtain ⟨r17, e16, h⟩ := bndO_some h
            refine y_callV (np := 1) (st := []) (as := [.inr (.inl 1752135026)]) 92 12 (sh_mo_isWord e16) q7_131 q7_128 q7_130 qs4_9 q1_15 (by decide) rfl (by decide) rfl (by decide) (by decide +kernel) (by decide) rfl (Nat.le_of_ble_eq_true rfl) (show decode cX12_isFull 152 = .ok (.invokevirtual 287, 3) by decide +kernel) rfl ?_
            by_cases c18 : r17 = 0
            · rw [if_pos c18] at h
              refine y_if_eq_t (tgt := 168) (show decode cX12_isFull 155 = .ok (.ifCond .eq 13, 3) by decide +kernel) rfl c18 ?_
              refine y_aload_n (show decode cX12_isFull 168 = .ok (.aload_n 0, 1) by decide +kernel) 0 rfl ?_
              refine y_ldc2 (k := 32497657166128499) (show decode cX12_isFull 169 = .ok (.ldc2_w 225, 3) by decide +kernel) q7_103 rfl rfl ?_
              obtain ⟨r20, e19, h⟩ := bndO_some h
              refine y_callV (np := 1) (st := []) (as := [.inr (.inl 32497657166128499)]) 92 12 (sh_mo_isWord e19) q7_131 q7_128 q7_130 qs4_9 q1_15 (by decide) rfl (by decide) rfl (by decide) (by decide +kernel) (by decide) rfl (Nat.le_of_ble_eq_true rfl) (show decode cX12_isFull 172 = .ok (.invokevirtual 287, 3) by decide +kernel) rfl ?_
              by_cases c21 : r20 = 0
              · rw [if_pos c21] at h
                refine y_if_eq_t (tgt := 188) (show decode cX12_isFull 175 = .ok (.ifCond .eq 13, 3) by decide +kernel) rfl c21 ?_
                refine y_aload_n (show decode cX12_isFull 188 = .ok (.aload_n 0, 1) by decide +kernel) 0 rfl ?_
                refine y_ldc2 (k := 1920298085) (show decode cX12_isFull 189 = .ok (.ldc2_w 227, 3) by decide +kernel) q7_104 rfl rfl ?_
                obtain ⟨r23, e22, h⟩ := bndO_some h
                refine y_callV (np := 1) (st := []) (as := [.inr (.inl 1920298085)]) 92 12 (sh_mo_isWord e22) q7_131 q7_128 q7_130 qs4_9 q1_15 (by decide) rfl (by decide) rfl (by decide) (by decide +kernel) (by decide) rfl (Nat.le_of_ble_eq_true rfl) (show decode cX12_isFull 192 = .ok (.invokevirtual 287, 3) by decide +kernel) rfl ?_
                by_cases c24 : r23 = 0
                · rw [if_pos c24] at h
                  refine y_if_eq_t (tgt := 210) (show decode cX12_isFull 195 = .ok (.ifCond .eq 15, 3) by decide +kernel) rfl c24 ?_
                  refine y_iconst (show decode cX12_isFull 210 = .ok (.iconst 1, 1) by decide +kernel) rfl ?_
                  refine y_goto (tgt := 215) (show decode cX12_isFull 211 = .ok (.goto 4, 3) by decide +kernel) rfl ?_
                  cases h
                  exact y_zret (show decode cX12_isFull 215 = .ok (.ireturn, 1) by decide +kernel) rfl (Or.inr rfl)
                · rw [if_neg c24] at h
                  refine y_if_eq_f (show decode cX12_isFull 195 = .ok (.ifCond .eq 15, 3) by decide +kernel) c24 (by decide) ?_
                  refine y_aload_n (show decode cX12_isFull 198 = .ok (.aload_n 0, 1) by decide +kernel) 0 rfl ?_
                  refine y_getf 92 12 21 52 (by decide) rfl (by decide) (by decide) q6_68 (show decode cX12_isFull 199 = .ok (.getfield 52, 3) by decide +kernel) (v := .inr (.inr (105 + 1))) rfl ?_
                  refine y_aload_n (show decode cX12_isFull 202 = .ok (.aload_n 0, 1) by decide +kernel) 0 rfl ?_
                  refine y_getf 92 12 41 301 (by decide) rfl (by decide) (by decide) q6_88 (show decode cX12_isFull 203 = .ok (.getfield 301, 3) by decide +kernel) (v := .inl (σ 92 41)) rfl ?_
                  obtain ⟨c25, h⟩ := chkA_some h
                  refine yo_zald 105 2 (by decide) rfl c25 (ov_at rfl) (show decode cX12_isFull 206 = .ok (.baload, 1) by decide +kernel) ?_
                  by_cases c26 : (σ 105 ((σ 92 41)).toNat) = 0
                  · rw [if_pos c26] at h
                    refine y_if_eq_t (tgt := 214) (show decode cX12_isFull 207 = .ok (.ifCond .eq 7, 3) by decide +kernel) rfl c26 ?_
                    refine y_iconst (show decode cX12_isFull 214 = .ok (.iconst 0, 1) by decide +kernel) rfl ?_
                    cases h
                    exact y_zret (show decode cX12_isFull 215 = .ok (.ireturn, 1) by decide +kernel) rfl (Or.inl rfl)
                  · rw [if_neg c26] at h
                    refine y_if_eq_f (show decode cX12_isFull 207 = .ok (.ifCond .eq 7, 3) by decide +kernel) c26 (by decide) ?_
                    refine y_iconst (show decode cX12_isFull 210 = .ok (.iconst 1, 1) by decide +kernel) rfl ?_
                    refine y_goto (tgt := 215) (show decode cX12_isFull 211 = .ok (.goto 4, 3) by decide +kernel) rfl ?_
                    cases h
                    exact y_zret (show decode cX12_isFull 215 = .ok (.ireturn, 1) by decide +kernel) rfl (Or.inr rfl)
              · rw [if_neg c21] at h
                refine y_if_eq_f (show decode cX12_isFull 175 = .ok (.ifCond .eq 13, 3) by decide +kernel) c21 (by decide) ?_
                refine y_aload_n (show decode cX12_isFull 178 = .ok (.aload_n 0, 1) by decide +kernel) 0 rfl ?_
                refine y_getf 92 12 20 49 (by decide) rfl (by decide) (by decide) q6_67 (show decode cX12_isFull 179 = .ok (.getfield 49, 3) by decide +kernel) (v := .inr (.inr (104 + 1))) rfl ?_
                refine y_aload_n (show decode cX12_isFull 182 = .ok (.aload_n 0, 1) by decide +kernel) 0 rfl ?_
                refine y_getf 92 12 41 301 (by decide) rfl (by decide) (by decide) q6_88 (show decode cX12_isFull 183 = .ok (.getfield 301, 3) by decide +kernel) (v := .inl (σ 92 41)) rfl ?_
                obtain ⟨c27, h⟩ := chkA_some h
                refine yo_zald 104 2 (by decide) rfl c27 (ov_at rfl) (show decode cX12_isFull 186 = .ok (.baload, 1) by decide +kernel) ?_
                obtain ⟨c28, h⟩ := chk_some h
                cases h
                exact y_zret (show decode cX12_isFull 187 = .ok (.ireturn, 1) by decide +kernel) rfl c28
            · rw [if_neg c18] at h
              refine y_if_eq_f (show decode cX12_isFull 155 = .ok (.ifCond .eq 13, 3) by decide +kernel) c18 (by decide) ?_
              refine y_aload_n (show decode cX12_isFull 158 = .ok (.aload_n 0, 1) by decide +kernel) 0 rfl ?_
              refine y_getf 92 12 19 45 (by decide) rfl (by decide) (by decide) q6_66 (show decode cX12_isFull 159 = .ok (.getfield 45, 3) by decide +kernel) (v := .inr (.inr (103 + 1))) rfl ?_
              refine y_aload_n (show decode cX12_isFull 162 = .ok (.aload_n 0, 1) by decide +kernel) 0 rfl ?_
              refine y_getf 92 12 41 301 (by decide) rfl (by decide) (by decide) q6_88 (show decode cX12_isFull 163 = .ok (.getfield 301, 3) by decide +kernel) (v := .inl (σ 92 41)) rfl ?_
              obtain ⟨c29, h⟩ := chkA_some h
              refine yo_zald 103 2 (by decide) rfl c29 (ov_at rfl) (show decode cX12_isFull 166 = .ok (.baload, 1) by decide +kernel) ?_
              obtain ⟨c30, h⟩ := chk_some h
              cases h
              exact y_zret (show decode cX12_isFull 167 = .ok (.ireturn, 1) by decide +kernel) rfl c30
          · rw [if_neg c15] at h
            refine y_if_eq_f (show decode cX12_isFull 125 = .ok (.ifCond .eq 23, 3) by decide +kernel) c15 (by decide) ?_
            refine y_aload_n (show decode cX12_isFull 128 = .ok (.aload_n 0, 1) by decide +kernel) 0 rfl ?_
            refine y_getf 92 12 15 33 (by decide) rfl (by decide) (by decide) q6_62 (show decode cX12_isFull 129 = .ok (.getfield 33, 3) by decide +kernel) (v := .inr (.inr (99 + 1))) rfl ?_
            refine y_aload_n (show decode cX12_isFull 132 = .ok (.aload_n 0, 1) by decide +kernel) 0 rfl ?_
            refine y_getf 92 12 41 301 (by decide) rfl (by decide) (by decide) q6_88 (show decode cX12_isFull 133 = .ok (.getfield 301, 3) by decide +kernel) (v := .inl (σ 92 41)) rfl ?_
            obtain ⟨c31, h⟩ := chkA_some h
            refine yo_iald 99 2 (by decide) rfl c31 (ov_at rfl) (show decode cX12_isFull 136 = .ok (.iaload, 1) by decide +kernel) ?_
            refine y_bipush (show decode cX12_isFull 137 = .ok (.bipush 8, 2) by decide +kernel) rfl rfl ?_
            by_cases c32 : ¬ (σ 99 ((σ 92 41)).toNat) = 8
            · rw [if_pos c32] at h
              refine y_icmp_ne_t (tgt := 146) (show decode cX12_isFull 139 = .ok (.if_icmp .ne 7, 3) by decide +kernel) rfl c32 ?_
              refine y_iconst (show decode cX12_isFull 146 = .ok (.iconst 0, 1) by decide +kernel) rfl ?_
              cases h
              exact y_zret (show decode cX12_isFull 147 = .ok (.ireturn, 1) by decide +kernel) rfl (Or.inl rfl)
            · rw [if_neg c32] at h
              refine y_icmp_ne_f (show decode cX12_isFull 139 = .ok (.if_icmp .ne 7, 3) by decide +kernel) c32 (by decide) ?_
              refine y_iconst (show decode cX12_isFull 142 = .ok (.iconst 1, 1) by decide +kernel) rfl ?_
              refine y_goto (tgt := 147) (show decode cX12_isFull 143 = .ok (.goto 4, 3) by decide +kernel) rfl ?_
              cases h
              exact y_zret (show decode cX12_isFull 147 = .ok (.ireturn, 1) by decide +kernel) rfl (Or.inr rfl)
        · rw [if_neg c12] at h
          refine y_if_eq_f (show decode cX12_isFull 96 = .ok (.ifCond .eq 22, 3) by decide +kernel) c12 (by decide) ?_
          refine y_aload_n (show decode cX12_isFull 99 = .ok (.aload_n 0, 1) by decide +kernel) 0 rfl ?_
          refine y_getf 92 12 14 30 (by decide) rfl (by decide) (by decide) q6_61 (show decode cX12_isFull 100 = .ok (.getfield 30, 3) by decide +kernel) (v := .inr (.inr (98 + 1))) rfl ?_
          refine y_aload_n (show decode cX12_isFull 103 = .ok (.aload_n 0, 1) by decide +kernel) 0 rfl ?_
          refine y_getf 92 12 41 301 (by decide) rfl (by decide) (by decide) q6_88 (show decode cX12_isFull 104 = .ok (.getfield 301, 3) by decide +kernel) (v := .inl (σ 92 41)) rfl ?_
          obtain ⟨c33, h⟩ := chkA_some h
          refine yo_iald 98 2 (by decide) rfl c33 (ov_at rfl) (show decode cX12_isFull 107 = .ok (.iaload, 1) by decide +kernel) ?_
          refine y_iconst (show decode cX12_isFull 108 = .ok (.iconst 3, 1) by decide +kernel) rfl ?_
          by_cases c34 : ¬ (σ 98 ((σ 92 41)).toNat) = 3
          · rw [if_pos c34] at h
            refine y_icmp_ne_t (tgt := 116) (show decode cX12_isFull 109 = .ok (.if_icmp .ne 7, 3) by decide +kernel) rfl c34 ?_
            refine y_iconst (show decode cX12_isFull 116 = .ok (.iconst 0, 1) by decide +kernel) rfl ?_
            cases h
            exact y_zret (show decode cX12_isFull 117 = .ok (.ireturn, 1) by decide +kernel) rfl (Or.inl rfl)
          · rw [if_neg c34] at h
            refine y_icmp_ne_f (show decode cX12_isFull 109 = .ok (.if_icmp .ne 7, 3) by decide +kernel) c34 (by decide) ?_
            refine y_iconst (show decode cX12_isFull 112 = .ok (.iconst 1, 1) by decide +kernel) rfl ?_
            refine y_goto (tgt := 117) (show decode cX12_isFull 113 = .ok (.goto 4, 3) by decide +kernel) rfl ?_
            cases h
            exact y_zret (show decode cX12_isFull 117 = .ok (.ireturn, 1) by decide +kernel) rfl (Or.inr rfl)
      · rw [if_neg c9] at h
        refine y_if_eq_f (show decode cX12_isFull 67 = .ok (.ifCond .eq 22, 3) by decide +kernel) c9 (by decide) ?_
        refine y_aload_n (show decode cX12_isFull 70 = .ok (.aload_n 0, 1) by decide +kernel) 0 rfl ?_
        refine y_getf 92 12 13 27 (by decide) rfl (by decide) (by decide) q6_60 (show decode cX12_isFull 71 = .ok (.getfield 27, 3) by decide +kernel) (v := .inr (.inr (97 + 1))) rfl ?_
        refine y_aload_n (show decode cX12_isFull 74 = .ok (.aload_n 0, 1) by decide +kernel) 0 rfl ?_
        refine y_getf 92 12 41 301 (by decide) rfl (by decide) (by decide) q6_88 (show decode cX12_isFull 75 = .ok (.getfield 301, 3) by decide +kernel) (v := .inl (σ 92 41)) rfl ?_
        obtain ⟨c35, h⟩ := chkA_some h
        refine yo_iald 97 2 (by decide) rfl c35 (ov_at rfl) (show decode cX12_isFull 78 = .ok (.iaload, 1) by decide +kernel) ?_
        refine y_iconst (show decode cX12_isFull 79 = .ok (.iconst 5, 1) by decide +kernel) rfl ?_
        by_cases c36 : ¬ (σ 97 ((σ 92 41)).toNat) = 5
        · rw [if_pos c36] at h
          refine y_icmp_ne_t (tgt := 87) (show decode cX12_isFull 80 = .ok (.if_icmp .ne 7, 3) by decide +kernel) rfl c36 ?_
          refine y_iconst (show decode cX12_isFull 87 = .ok (.iconst 0, 1) by decide +kernel) rfl ?_
          cases h
          exact y_zret (show decode cX12_isFull 88 = .ok (.ireturn, 1) by decide +kernel) rfl (Or.inl rfl)
        · rw [if_neg c36] at h
          refine y_icmp_ne_f (show decode cX12_isFull 80 = .ok (.if_icmp .ne 7, 3) by decide +kernel) c36 (by decide) ?_
          refine y_iconst (show decode cX12_isFull 83 = .ok (.iconst 1, 1) by decide +kernel) rfl ?_
          refine y_goto (tgt := 88) (show decode cX12_isFull 84 = .ok (.goto 4, 3) by decide +kernel) rfl ?_
          cases h
          exact y_zret (show decode cX12_isFull 88 = .ok (.ireturn, 1) by decide +kernel) rfl (Or.inr rfl)
    · rw [if_neg c6] at h
      refine y_if_eq_f (show decode cX12_isFull 37 = .ok (.ifCond .eq 23, 3) by decide +kernel) c6 (by decide) ?_
      refine y_aload_n (show decode cX12_isFull 40 = .ok (.aload_n 0, 1) by decide +kernel) 0 rfl ?_
      refine y_getf 92 12 12 24 (by decide) rfl (by decide) (by decide) q6_59 (show decode cX12_isFull 41 = .ok (.getfield 24, 3) by decide +kernel) (v := .inr (.inr (96 + 1))) rfl ?_
      refine y_aload_n (show decode cX12_isFull 44 = .ok (.aload_n 0, 1) by decide +kernel) 0 rfl ?_
      refine y_getf 92 12 41 301 (by decide) rfl (by decide) (by decide) q6_88 (show decode cX12_isFull 45 = .ok (.getfield 301, 3) by decide +kernel) (v := .inl (σ 92 41)) rfl ?_
      obtain ⟨c37, h⟩ := chkA_some h
      refine yo_iald 96 2 (by decide) rfl c37 (ov_at rfl) (show decode cX12_isFull 48 = .ok (.iaload, 1) by decide +kernel) ?_
      refine y_bipush (show decode cX12_isFull 49 = .ok (.bipush 15, 2) by decide +kernel) rfl rfl ?_
      by_cases c38 : ¬ (σ 96 ((σ 92 41)).toNat) = 15
      · rw [if_pos c38] at h
        refine y_icmp_ne_t (tgt := 58) (show decode cX12_isFull 51 = .ok (.if_icmp .ne 7, 3) by decide +kernel) rfl c38 ?_
        refine y_iconst (show decode cX12_isFull 58 = .ok (.iconst 0, 1) by decide +kernel) rfl ?_
        cases h
        exact y_zret (show decode cX12_isFull 59 = .ok (.ireturn, 1) by decide +kernel) rfl (Or.inl rfl)
      · rw [if_neg c38] at h
        refine y_icmp_ne_f (show decode cX12_isFull 51 = .ok (.if_icmp .ne 7, 3) by decide +kernel) c38 (by decide) ?_
        refine y_iconst (show decode cX12_isFull 54 = .ok (.iconst 1, 1) by decide +kernel) rfl ?_
        refine y_goto (tgt := 59) (show decode cX12_isFull 55 = .ok (.goto 4, 3) by decide +kernel) rfl ?_
        cases h
        exact y_zret (show decode cX12_isFull 59 = .ok (.ireturn, 1) by decide +kernel) rfl (Or.inr rfl)
  · rw [if_neg c3] at h
    refine y_if_eq_f (show decode cX12_isFull 7 = .ok (.ifCond .eq 23, 3) by decide +kernel) c3 (by decide) ?_
    refine y_aload_n (show decode cX12_isFull 10 = .ok (.aload_n 0, 1) by decide +kernel) 0 rfl ?_
    refine y_getf 92 12 11 20 (by decide) rfl (by decide) (by decide) q6_58 (show decode cX12_isFull 11 = .ok (.getfield 20, 3) by decide +kernel) (v := .inr (.inr (95 + 1))) rfl ?_
    refine y_aload_n (show decode cX12_isFull 14 = .ok (.aload_n 0, 1) by decide +kernel) 0 rfl ?_
    refine y_getf 92 12 41 301 (by decide) rfl (by decide) (by decide) q6_88 (show decode cX12_isFull 15 = .ok (.getfield 301, 3) by decide +kernel) (v := .inl (σ 92 41)) rfl ?_
    obtain ⟨c39, h⟩ := chkA_some h
    refine yo_iald 95 2 (by decide) rfl c39 (ov_at rfl) (show decode cX12_isFull 18 = .ok (.iaload, 1) by decide +kernel) ?_
    refine y_bipush (show decode cX12_isFull 19 = .ok (.bipush 6, 2) by decide +kernel) rfl rfl ?_
    by_cases c40 : ¬ (σ 95 ((σ 92 41)).toNat) = 6
    · rw [if_pos c40] at h
      refine y_icmp_ne_t (tgt := 28) (show decode cX12_isFull 21 = .ok (.if_icmp .ne 7, 3) by decide +kernel) rfl c40 ?_
      refine y_iconst (show decode cX12_isFull 28 = .ok (.iconst 0, 1) by decide +kernel) rfl ?_
      cases h
      exact y_zret (show decode cX12_isFull 29 = .ok (.ireturn, 1) by decide +kernel) rfl (Or.inl rfl)
    · rw [if_neg c40] at h
      refine y_icmp_ne_f (show decode cX12_isFull 21 = .ok (.if_icmp .ne 7, 3) by decide +kernel) c40 (by decide) ?_
      refine y_iconst (show decode cX12_isFull 24 = .ok (.iconst 1, 1) by decide +kernel) rfl ?_
      refine y_goto (tgt := 29) (show decode cX12_isFull 25 = .ok (.goto 4, 3) by decide +kernel) rfl ?_
      cases h
      exact y_zret (show decode cX12_isFull 29 = .ok (.ireturn, 1) by decide +kernel) rfl (Or.inr rfl)
abbrev MX12_here : yM := (yX12_here, cX12_here, 5, some .int)
def mo_here (N : Nat) (a : Nat) (b : Int) (c : Int) (σ : ySt) : Option (Int) :=
  chk ((yKd a).1 = 21 ∧ a < 150) <|
  loop1 (fun k3 x2 =>
    if x2 ≥ c then
      some (-1)
    else
      bnd (chkI (x2 + 1) <|
        k3 (x2 + 1)) fun j5 =>
      if ¬ (σ 92 8) = 2 then
        j5
      else
        chkI (b + x2) <|
        chkA (yKd a).2 (b + x2) <|
        if ¬ (blcmp (σ a ((b + x2)).toNat) (σ 92 10)) = 0 then
          j5
        else
          some x2) N 0
set_option maxHeartbeats 4000000 in
set_option maxRecDepth 10000 in
theorem sh_mo_here {E : yE} {N : Nat} {a : Nat} {b : Int} {c : Int} {σ : ySt} {ρ : Int} (h : mo_here N a b c σ = some ρ) : Con E MX12_here 0 0 0 [.inr (.inr (92 + 1)), .inr (.inr (a + 1)), .inl b, .inl c] 150 (ov σ) (some (.inl ρ)) (ov σ) := by
  unfold mo_here at h
  refine Con.ofY (by decide +kernel) (by simp [yWords, yCat]) (fun hok _ => ?_)
  show Y E MX12_here (yRm 0 0 0) (yQf E (150 + 0) 0 0 (some (.inl ρ)) (ov σ)) 0 [(0, .inr (.inr (92 + 1))), (1, .inr (.inr (a + 1))), (2, .inl b), (3, .inl c)] [] (ov σ) 150 0 0
  obtain ⟨c1, h⟩ := chk_some h
  refine y_iconst (show decode cX12_here 0 = .ok (.iconst 0, 1) by decide +kernel) rfl ?_
  refine y_istore (show decode cX12_here 1 = .ok (.istore 4, 2) by decide +kernel) rfl (L1 := [(4, .inl 0), (0, .inr (.inr (92 + 1))), (1, .inr (.inr (a + 1))), (2, .inl b), (3, .inl c)]) rfl ?_
  refine y_pick [1, 2, 3, 4, 0] rfl ?_
  refine loop1_ind (P := fun x2 => Y E MX12_here (yRm 0 0 0) (yQf E (150 + 0) 0 0 (some (.inl ρ)) (ov σ)) 3 [(0, .inr (.inr (92 + 1))), (1, .inr (.inr (a + 1))), (2, .inl b), (3, .inl c), (4, .inl x2)] [] (ov σ) 150 0 0) (fun k3 hk3 x2 h => ?_) _ _  h
  refine y_iload (show decode cX12_here 3 = .ok (.iload 4, 2) by decide +kernel) 4 rfl ?_
  refine y_iload_n (show decode cX12_here 5 = .ok (.iload_n 3, 1) by decide +kernel) 3 rfl ?_
  by_cases c4 : x2 ≥ c
  · rw [if_pos c4] at h
    refine y_icmp_ge_t (tgt := 40) (show decode cX12_here 6 = .ok (.if_icmp .ge 34, 3) by decide +kernel) rfl c4 ?_
    refine y_iconst (show decode cX12_here 40 = .ok (.iconst (-1), 1) by decide +kernel) rfl ?_
    cases h
    exact y_iret (show decode cX12_here 41 = .ok (.ireturn, 1) by decide +kernel) rfl
  · rw [if_neg c4] at h
    refine y_icmp_ge_f (show decode cX12_here 6 = .ok (.if_icmp .ge 34, 3) by decide +kernel) c4 (by decide) ?_
    refine y_aload_n (show decode cX12_here 9 = .ok (.aload_n 0, 1) by decide +kernel) 0 rfl ?_
    refine y_getf 92 12 8 249 (by decide) rfl (by decide) (by decide) q6_55 (show decode cX12_here 10 = .ok (.getfield 249, 3) by decide +kernel) (v := .inl (σ 92 8)) rfl ?_
    refine y_iconst (show decode cX12_here 13 = .ok (.iconst 2, 1) by decide +kernel) rfl ?_
    refine bnd_j (Q := fun j5 => j5 = some ρ → Y E MX12_here (yRm 0 0 0) (yQf E (150 + 0) 0 0 (some (.inl ρ)) (ov σ)) 34 [(0, .inr (.inr (92 + 1))), (1, .inr (.inr (a + 1))), (2, .inl b), (3, .inl c), (4, .inl x2)] [] (ov σ) 150 0 0) (fun h => ?_) (fun j5 hj5 h => ?_) h
    · obtain ⟨c6, h⟩ := chkI_some h
      refine y_iinc (show decode cX12_here 34 = .ok (.iinc 4 1, 3) by decide +kernel) 4 rfl c6 rfl (L1 := [(4, .inl (x2 + 1)), (0, .inr (.inr (92 + 1))), (1, .inr (.inr (a + 1))), (2, .inl b), (3, .inl c)]) rfl ?_
      refine y_goto (tgt := 3) (show decode cX12_here 37 = .ok (.goto (-34), 3) by decide +kernel) rfl ?_
      refine y_pick [1, 2, 3, 4, 0] rfl ?_
      exact hk3 _ h
    by_cases c7 : ¬ (σ 92 8) = 2
    · rw [if_pos c7] at h
      refine y_icmp_ne_t (tgt := 34) (show decode cX12_here 14 = .ok (.if_icmp .ne 20, 3) by decide +kernel) rfl c7 ?_
      refine y_pick [0, 1, 2, 3, 4] rfl ?_
      exact hj5 h
    · rw [if_neg c7] at h
      refine y_icmp_ne_f (show decode cX12_here 14 = .ok (.if_icmp .ne 20, 3) by decide +kernel) c7 (by decide) ?_
      refine y_aload_n (show decode cX12_here 17 = .ok (.aload_n 1, 1) by decide +kernel) 1 rfl ?_
      refine y_iload_n (show decode cX12_here 18 = .ok (.iload_n 2, 1) by decide +kernel) 2 rfl ?_
      refine y_iload (show decode cX12_here 19 = .ok (.iload 4, 2) by decide +kernel) 4 rfl ?_
      obtain ⟨c8, h⟩ := chkI_some h
      refine y_iadd (show decode cX12_here 21 = .ok (.iadd, 1) by decide +kernel) c8 ?_
      obtain ⟨c9, h⟩ := chkA_some h
      refine yo_lald a (yKd a).2 c1.2 (yArr_kd c1) c9 (ov_at (yArr_cr (by rw [c1.1]; decide) c1.2 _)) (show decode cX12_here 22 = .ok (.laload, 1) by decide +kernel) ?_
      refine y_aload_n (show decode cX12_here 23 = .ok (.aload_n 0, 1) by decide +kernel) 0 rfl ?_
      refine y_getf 92 12 10 256 (by decide) rfl (by decide) (by decide) q6_57 (show decode cX12_here 24 = .ok (.getfield 256, 3) by decide +kernel) (v := .inr (.inl (σ 92 10))) rfl ?_
      refine y_lcmp (show decode cX12_here 27 = .ok (.lcmp, 1) by decide +kernel) ?_
      by_cases c10 : ¬ (blcmp (σ a ((b + x2)).toNat) (σ 92 10)) = 0
      · rw [if_pos c10] at h
        refine y_if_ne_t (tgt := 34) (show decode cX12_here 28 = .ok (.ifCond .ne 6, 3) by decide +kernel) rfl c10 ?_
        refine y_pick [0, 1, 2, 3, 4] rfl ?_
        exact hj5 h
      · rw [if_neg c10] at h
        refine y_if_ne_f (show decode cX12_here 28 = .ok (.ifCond .ne 6, 3) by decide +kernel) c10 (by decide) ?_
        refine y_iload (show decode cX12_here 31 = .ok (.iload 4, 2) by decide +kernel) 4 rfl ?_
        cases h
        exact y_iret (show decode cX12_here 33 = .ok (.ireturn, 1) by decide +kernel) rfl
abbrev MX12_placeHere : yM := (yX12_placeHere, cX12_placeHere, 1, some .int)
def mo_placeHere (N : Nat) (σ : ySt) : Option (Int) :=
  chkI (6 * (σ 92 41)) <|
  chkA 2 (σ 92 41) <|
  bndO (mo_here N 107 (6 * (σ 92 41)) (σ 95 ((σ 92 41)).toNat) σ) fun r4 =>
  some r4
set_option maxHeartbeats 4000000 in
set_option maxRecDepth 10000 in
theorem sh_mo_placeHere {E : yE} {N : Nat} {σ : ySt} {ρ : Int} (h : mo_placeHere N σ = some ρ) : Con E MX12_placeHere 1 0 0 [.inr (.inr (92 + 1))] 150 (ov σ) (some (.inl ρ)) (ov σ) := by
  unfold mo_placeHere at h
  refine Con.ofY (by decide +kernel) (by simp [yWords, yCat]) (fun hok _ => ?_)
  show Y E MX12_placeHere (yRm 1 0 0) (yQf E (150 + 0) 0 0 (some (.inl ρ)) (ov σ)) 0 [(0, .inr (.inr (92 + 1)))] [] (ov σ) 150 0 0
  refine y_aload_n (show decode cX12_placeHere 0 = .ok (.aload_n 0, 1) by decide +kernel) 0 rfl ?_
  refine y_aload_n (show decode cX12_placeHere 1 = .ok (.aload_n 0, 1) by decide +kernel) 0 rfl ?_
  refine y_getf 92 12 23 58 (by decide) rfl (by decide) (by decide) q6_70 (show decode cX12_placeHere 2 = .ok (.getfield 58, 3) by decide +kernel) (v := .inr (.inr (107 + 1))) rfl ?_
  refine y_bipush (show decode cX12_placeHere 5 = .ok (.bipush 6, 2) by decide +kernel) rfl rfl ?_
  refine y_aload_n (show decode cX12_placeHere 7 = .ok (.aload_n 0, 1) by decide +kernel) 0 rfl ?_
  refine y_getf 92 12 41 301 (by decide) rfl (by decide) (by decide) q6_88 (show decode cX12_placeHere 8 = .ok (.getfield 301, 3) by decide +kernel) (v := .inl (σ 92 41)) rfl ?_
  obtain ⟨c1, h⟩ := chkI_some h
  refine y_imul (show decode cX12_placeHere 11 = .ok (.imul, 1) by decide +kernel) c1 ?_
  refine y_aload_n (show decode cX12_placeHere 12 = .ok (.aload_n 0, 1) by decide +kernel) 0 rfl ?_
  refine y_getf 92 12 11 20 (by decide) rfl (by decide) (by decide) q6_58 (show decode cX12_placeHere 13 = .ok (.getfield 20, 3) by decide +kernel) (v := .inr (.inr (95 + 1))) rfl ?_
  refine y_aload_n (show decode cX12_placeHere 16 = .ok (.aload_n 0, 1) by decide +kernel) 0 rfl ?_
  refine y_getf 92 12 41 301 (by decide) rfl (by decide) (by decide) q6_88 (show decode cX12_placeHere 17 = .ok (.getfield 301, 3) by decide +kernel) (v := .inl (σ 92 41)) rfl ?_
  obtain ⟨c2, h⟩ := chkA_some h
  refine yo_iald 95 2 (by decide) rfl c2 (ov_at rfl) (show decode cX12_placeHere 20 = .ok (.iaload, 1) by decide +kernel) ?_
  obtain ⟨r4, e3, h⟩ := bndO_some h
  refine y_callV (np := 3) (st := []) (as := [.inr (.inr (107 + 1)), .inl (6 * (σ 92 41)), .inl (σ 95 ((σ 92 41)).toNat)]) 92 12 (sh_mo_here e3) q7_151 q7_148 q7_150 qs4_14 q1_15 (by decide) rfl (by decide) rfl (by decide) (by decide +kernel) (by decide) rfl (Nat.le_of_ble_eq_true rfl) (show decode cX12_placeHere 21 = .ok (.invokevirtual 344, 3) by decide +kernel) rfl ?_
  cases h
  exact y_iret (show decode cX12_placeHere 24 = .ok (.ireturn, 1) by decide +kernel) rfl
abbrev MX12_fresh : yM := (yX12_fresh, cX12_fresh, 4, some .long)
def mo_fresh (N : Nat) (a : Int) (σ : ySt) : Option (Int × ySt) :=
  bndO (mo_isGood σ) fun r2 =>
  if ¬ r2 = 0 then
    bnd (fun (σ4 : ySt) =>
      bndO (mo_isGood σ4) fun r7 =>
      if r7 = 0 then
        some ((σ4 92 10), σ4)
      else
        bndO (mo_goOn N σ4) fun σ10 =>
        some ((σ4 92 10), σ10)) fun j5 =>
    if (σ 92 8) = 2 then
      if a = 0 then
        j5 σ
      else
        bndO (mo_fails 3 (σ 92 6) σ) fun σ14 =>
        j5 σ14
    else
      bndO (mo_misplaced σ) fun σ16 =>
      j5 σ16
  else
    some (0, σ)
set_option maxHeartbeats 4000000 in
set_option maxRecDepth 10000 in
theorem sh_mo_fresh {E : yE} {N : Nat} {a : Int} {σ : ySt} {ρ : Int} {τ : ySt} (h : mo_fresh N a σ = some (ρ, τ)) : Con E MX12_fresh 2 0 0 [.inr (.inr (92 + 1)), .inl a] 150 (ov σ) (some (.inr (.inl ρ))) (ov τ) := by
  unfold mo_fresh at h
  refine Con.ofY (by decide +kernel) (by simp [yWords, yCat]) (fun hok _ => ?_)
  show Y E MX12_fresh (yRm 2 0 0) (yQf E (150 + 0) 0 0 (some (.inr (.inl ρ))) (ov τ)) 0 [(0, .inr (.inr (92 + 1))), (1, .inl a)] [] (ov σ) 150 0 0
  refine y_aload_n (show decode cX12_fresh 0 = .ok (.aload_n 0, 1) by decide +kernel) 0 rfl ?_
  obtain ⟨r2, e1, h⟩ := bndO_some h
  refine y_callV (np := 0) (st := []) (as := []) 92 12 (sh_mo_isGood e1) q7_119 q7_116 q7_118 qs4_6 q1_15 (by decide) rfl (by decide) rfl (by decide) (by decide +kernel) (by decide) rfl (Nat.le_of_ble_eq_true rfl) (show decode cX12_fresh 1 = .ok (.invokevirtual 277, 3) by decide +kernel) rfl ?_
  by_cases c3 : ¬ r2 = 0
  · rw [if_pos c3] at h
    refine y_if_ne_t (tgt := 9) (show decode cX12_fresh 4 = .ok (.ifCond .ne 5, 3) by decide +kernel) rfl c3 ?_
    refine y_aload_n (show decode cX12_fresh 9 = .ok (.aload_n 0, 1) by decide +kernel) 0 rfl ?_
    refine y_getf 92 12 8 249 (by decide) rfl (by decide) (by decide) q6_55 (show decode cX12_fresh 10 = .ok (.getfield 249, 3) by decide +kernel) (v := .inl (σ 92 8)) rfl ?_
    refine y_iconst (show decode cX12_fresh 13 = .ok (.iconst 2, 1) by decide +kernel) rfl ?_
    refine bnd_j (Q := fun j5 => ∀ (σ4 : ySt), j5 σ4 = some (ρ, τ) → Y E MX12_fresh (yRm 2 0 0) (yQf E (150 + 0) 0 0 (some (.inr (.inl ρ))) (ov τ)) 37 [(0, .inr (.inr (92 + 1)))] [] (ov σ4) 150 0 0) (fun σ4 h => ?_) (fun j5 hj5 h => ?_) h
    · dsimp only at h
      refine y_aload_n (show decode cX12_fresh 37 = .ok (.aload_n 0, 1) by decide +kernel) 0 rfl ?_
      refine y_getf 92 12 10 256 (by decide) rfl (by decide) (by decide) q6_57 (show decode cX12_fresh 38 = .ok (.getfield 256, 3) by decide +kernel) (v := .inr (.inl (σ4 92 10))) rfl ?_
      refine y_lstore_n (show decode cX12_fresh 41 = .ok (.lstore_n 2, 1) by decide +kernel) rfl (L1 := [(2, .inr (.inl (σ4 92 10))), (0, .inr (.inr (92 + 1)))]) rfl ?_
      refine y_aload_n (show decode cX12_fresh 42 = .ok (.aload_n 0, 1) by decide +kernel) 1 rfl ?_
      obtain ⟨r7, e6, h⟩ := bndO_some h
      refine y_callV (np := 0) (st := []) (as := []) 92 12 (sh_mo_isGood e6) q7_119 q7_116 q7_118 qs4_6 q1_15 (by decide) rfl (by decide) rfl (by decide) (by decide +kernel) (by decide) rfl (Nat.le_of_ble_eq_true rfl) (show decode cX12_fresh 43 = .ok (.invokevirtual 277, 3) by decide +kernel) rfl ?_
      by_cases c8 : r7 = 0
      · rw [if_pos c8] at h
        refine y_if_eq_t (tgt := 53) (show decode cX12_fresh 46 = .ok (.ifCond .eq 7, 3) by decide +kernel) rfl c8 ?_
        refine y_lload_n (show decode cX12_fresh 53 = .ok (.lload_n 2, 1) by decide +kernel) 0 rfl ?_
        cases h
        exact y_lret (show decode cX12_fresh 54 = .ok (.lreturn, 1) by decide +kernel) rfl
      · rw [if_neg c8] at h
        refine y_if_eq_f (show decode cX12_fresh 46 = .ok (.ifCond .eq 7, 3) by decide +kernel) c8 (by decide) ?_
        refine y_aload_n (show decode cX12_fresh 49 = .ok (.aload_n 0, 1) by decide +kernel) 1 rfl ?_
        obtain ⟨σ10, e9, h⟩ := bndO_some h
        refine y_callV (np := 0) (st := []) (as := []) 92 12 (sh_mo_goOn e9) q7_80 q7_77 q7_79 qs4_4 q1_15 (by decide) rfl (by decide) rfl (by decide) (by decide +kernel) (by decide) rfl (Nat.le_of_ble_eq_true rfl) (show decode cX12_fresh 50 = .ok (.invokevirtual 281, 3) by decide +kernel) rfl ?_
        refine y_lload_n (show decode cX12_fresh 53 = .ok (.lload_n 2, 1) by decide +kernel) 0 rfl ?_
        cases h
        exact y_lret (show decode cX12_fresh 54 = .ok (.lreturn, 1) by decide +kernel) rfl
    by_cases c11 : (σ 92 8) = 2
    · rw [if_pos c11] at h
      refine y_icmp_eq_t (tgt := 24) (show decode cX12_fresh 14 = .ok (.if_icmp .eq 10, 3) by decide +kernel) rfl c11 ?_
      refine y_iload_n (show decode cX12_fresh 24 = .ok (.iload_n 1, 1) by decide +kernel) 1 rfl ?_
      by_cases c12 : a = 0
      · rw [if_pos c12] at h
        refine y_if_eq_t (tgt := 37) (show decode cX12_fresh 25 = .ok (.ifCond .eq 12, 3) by decide +kernel) rfl c12 ?_
        refine y_pick [0] rfl ?_
        exact hj5 _ h
      · rw [if_neg c12] at h
        refine y_if_eq_f (show decode cX12_fresh 25 = .ok (.ifCond .eq 12, 3) by decide +kernel) c12 (by decide) ?_
        refine y_aload_n (show decode cX12_fresh 28 = .ok (.aload_n 0, 1) by decide +kernel) 0 rfl ?_
        refine y_iconst (show decode cX12_fresh 29 = .ok (.iconst 3, 1) by decide +kernel) rfl ?_
        refine y_aload_n (show decode cX12_fresh 30 = .ok (.aload_n 0, 1) by decide +kernel) 0 rfl ?_
        refine y_getf 92 12 6 242 (by decide) rfl (by decide) (by decide) q6_53 (show decode cX12_fresh 31 = .ok (.getfield 242, 3) by decide +kernel) (v := .inl (σ 92 6)) rfl ?_
        obtain ⟨σ14, e13, h⟩ := bndO_some h
        refine y_callV (np := 2) (st := []) (as := [.inl 3, .inl (σ 92 6)]) 92 12 (sh_mo_fails e13) q7_139 q7_136 q7_138 qs4_11 q1_15 (by decide) rfl (by decide) rfl (by decide) (by decide +kernel) (by decide) rfl (Nat.le_of_ble_eq_true rfl) (show decode cX12_fresh 34 = .ok (.invokevirtual 273, 3) by decide +kernel) rfl ?_
        refine y_pick [0] rfl ?_
        exact hj5 _ h
    · rw [if_neg c11] at h
      refine y_icmp_eq_f (show decode cX12_fresh 14 = .ok (.if_icmp .eq 10, 3) by decide +kernel) c11 (by decide) ?_
      refine y_aload_n (show decode cX12_fresh 17 = .ok (.aload_n 0, 1) by decide +kernel) 0 rfl ?_
      obtain ⟨σ16, e15, h⟩ := bndO_some h
      refine y_callV (np := 0) (st := []) (as := []) 92 12 (sh_mo_misplaced e15) q7_135 q7_132 q7_134 qs4_10 q1_15 (by decide) rfl (by decide) rfl (by decide) (by decide +kernel) (by decide) rfl (Nat.le_of_ble_eq_true rfl) (show decode cX12_fresh 18 = .ok (.invokevirtual 284, 3) by decide +kernel) rfl ?_
      refine y_goto (tgt := 37) (show decode cX12_fresh 21 = .ok (.goto 16, 3) by decide +kernel) rfl ?_
      refine y_pick [0] rfl ?_
      exact hj5 _ h
  · rw [if_neg c3] at h
    refine y_if_ne_f (show decode cX12_fresh 4 = .ok (.ifCond .ne 5, 3) by decide +kernel) c3 (by decide) ?_
    refine y_lconst (z := 0) (show decode cX12_fresh 7 = .ok (.lconst 0, 1) by decide +kernel) rfl rfl ?_
    cases h
    exact y_lret (show decode cX12_fresh 8 = .ok (.lreturn, 1) by decide +kernel) rfl
abbrev MX12_readPlace : yM := (yX12_readPlace, cX12_readPlace, 2, none)
def mo_readPlace (N : Nat) (σ : ySt) : Option (ySt) :=
  chkI (6 * (σ 92 41)) <|
  chkA 2 (σ 92 41) <|
  chkI ((6 * (σ 92 41)) + (σ 95 ((σ 92 41)).toNat)) <|
  bndO (mo_placeHere N σ) fun r5 =>
  bnd (fun (y6 : Int) =>
    bndR (mo_fresh N y6 σ) fun r9 σ10 =>
    chkA 12 ((6 * (σ 92 41)) + (σ 95 ((σ 92 41)).toNat)) <|
    bnd (yset σ10 107 (((6 * (σ 92 41)) + (σ 95 ((σ 92 41)).toNat))).toNat r9) fun σ12 =>
    bndO (mo_isGood σ12) fun r15 =>
    bnd (fun (y16 : Int) =>
      chk (y16 = 0 ∨ y16 = 1) <|
      chkA 12 ((6 * (σ 92 41)) + (σ 95 ((σ 92 41)).toNat)) <|
      bnd (yset σ12 106 (((6 * (σ 92 41)) + (σ 95 ((σ 92 41)).toNat))).toNat y16) fun σ20 =>
      chkA 12 ((6 * (σ 92 41)) + (σ 95 ((σ 92 41)).toNat)) <|
      bnd (fun (σ23 : ySt) =>
        chkA 2 (σ23 92 41) <|
        chkI ((σ23 95 ((σ23 92 41)).toNat) + 1) <|
        chkA 2 (σ23 92 41) <|
        bnd (yset σ23 95 ((σ23 92 41)).toNat ((σ23 95 ((σ23 92 41)).toNat) + 1)) fun σ28 =>
        some σ28) fun j24 =>
      if (σ20 106 (((6 * (σ 92 41)) + (σ 95 ((σ 92 41)).toNat))).toNat) = 0 then
        j24 σ20
      else
        bndO (mo_goOn N σ20) fun σ32 =>
        j24 σ32) fun j17 =>
    if r15 = 0 then
      j17 0
    else
      bndO (mo_isWord 435627783289 σ12) fun r35 =>
      if r35 = 0 then
        j17 0
      else
        j17 1) fun j7 =>
  if r5 < 0 then
    j7 0
  else
    j7 1
set_option maxHeartbeats 4000000 in
set_option maxRecDepth 10000 in
theorem sh_mo_readPlace {E : yE} {N : Nat} {σ : ySt} {τ : ySt} (h : mo_readPlace N σ = some τ) : Con E MX12_readPlace 3 0 0 [.inr (.inr (92 + 1))] 150 (ov σ) none (ov τ) := by
  unfold mo_readPlace at h
  refine Con.ofY (by decide +kernel) (by simp [yWords, yCat]) (fun hok _ => ?_)
  show Y E MX12_readPlace (yRm 3 0 0) (yQf E (150 + 0) 0 0 none (ov τ)) 0 [(0, .inr (.inr (92 + 1)))] [] (ov σ) 150 0 0
  refine y_bipush (show decode cX12_readPlace 0 = .ok (.bipush 6, 2) by decide +kernel) rfl rfl ?_
  refine y_aload_n (show decode cX12_readPlace 2 = .ok (.aload_n 0, 1) by decide +kernel) 0 rfl ?_
  refine y_getf 92 12 41 301 (by decide) rfl (by decide) (by decide) q6_88 (show decode cX12_readPlace 3 = .ok (.getfield 301, 3) by decide +kernel) (v := .inl (σ 92 41)) rfl ?_
  obtain ⟨c1, h⟩ := chkI_some h
  refine y_imul (show decode cX12_readPlace 6 = .ok (.imul, 1) by decide +kernel) c1 ?_
  refine y_aload_n (show decode cX12_readPlace 7 = .ok (.aload_n 0, 1) by decide +kernel) 0 rfl ?_
  refine y_getf 92 12 11 20 (by decide) rfl (by decide) (by decide) q6_58 (show decode cX12_readPlace 8 = .ok (.getfield 20, 3) by decide +kernel) (v := .inr (.inr (95 + 1))) rfl ?_
  refine y_aload_n (show decode cX12_readPlace 11 = .ok (.aload_n 0, 1) by decide +kernel) 0 rfl ?_
  refine y_getf 92 12 41 301 (by decide) rfl (by decide) (by decide) q6_88 (show decode cX12_readPlace 12 = .ok (.getfield 301, 3) by decide +kernel) (v := .inl (σ 92 41)) rfl ?_
  obtain ⟨c2, h⟩ := chkA_some h
  refine yo_iald 95 2 (by decide) rfl c2 (ov_at rfl) (show decode cX12_readPlace 15 = .ok (.iaload, 1) by decide +kernel) ?_
  obtain ⟨c3, h⟩ := chkI_some h
  refine y_iadd (show decode cX12_readPlace 16 = .ok (.iadd, 1) by decide +kernel) c3 ?_
  refine y_istore_n (show decode cX12_readPlace 17 = .ok (.istore_n 1, 1) by decide +kernel) rfl (L1 := [(1, .inl ((6 * (σ 92 41)) + (σ 95 ((σ 92 41)).toNat))), (0, .inr (.inr (92 + 1)))]) rfl ?_
  refine y_aload_n (show decode cX12_readPlace 18 = .ok (.aload_n 0, 1) by decide +kernel) 1 rfl ?_
  refine y_getf 92 12 23 58 (by decide) rfl (by decide) (by decide) q6_70 (show decode cX12_readPlace 19 = .ok (.getfield 58, 3) by decide +kernel) (v := .inr (.inr (107 + 1))) rfl ?_
  refine y_iload_n (show decode cX12_readPlace 22 = .ok (.iload_n 1, 1) by decide +kernel) 0 rfl ?_
  refine y_aload_n (show decode cX12_readPlace 23 = .ok (.aload_n 0, 1) by decide +kernel) 1 rfl ?_
  refine y_aload_n (show decode cX12_readPlace 24 = .ok (.aload_n 0, 1) by decide +kernel) 1 rfl ?_
  obtain ⟨r5, e4, h⟩ := bndO_some h
  refine y_callV (np := 0) (st := [.inr (.inr (92 + 1)), .inl ((6 * (σ 92 41)) + (σ 95 ((σ 92 41)).toNat)), .inr (.inr (107 + 1))]) (as := []) 92 12 (sh_mo_placeHere e4) q7_147 q7_144 q7_146 qs4_13 q1_15 (by decide) rfl (by decide) rfl (by decide) (by decide +kernel) (by decide) rfl (Nat.le_of_ble_eq_true rfl) (show decode cX12_readPlace 25 = .ok (.invokevirtual 348, 3) by decide +kernel) rfl ?_
  refine bnd_j (Q := fun j7 => ∀ (y6 : Int), j7 y6 = some τ → Y E MX12_readPlace (yRm 3 0 0) (yQf E (150 + 0) 0 0 none (ov τ)) 36 [(0, .inr (.inr (92 + 1))), (1, .inl ((6 * (σ 92 41)) + (σ 95 ((σ 92 41)).toNat)))] [.inl y6, .inr (.inr (92 + 1)), .inl ((6 * (σ 92 41)) + (σ 95 ((σ 92 41)).toNat)), .inr (.inr (107 + 1))] (ov σ) 150 0 0) (fun y6 h => ?_) (fun j7 hj7 h => ?_) h
  · dsimp only at h
    obtain ⟨r9, σ10, e8, h⟩ := bndR_some h
    refine y_callV (np := 1) (st := [.inl ((6 * (σ 92 41)) + (σ 95 ((σ 92 41)).toNat)), .inr (.inr (107 + 1))]) (as := [.inl y6]) 92 12 (sh_mo_fresh e8) q7_155 q7_152 q7_154 qs4_15 q1_15 (by decide) rfl (by decide) rfl (by decide) (by decide +kernel) (by decide) rfl (Nat.le_of_ble_eq_true rfl) (show decode cX12_readPlace 36 = .ok (.invokevirtual 352, 3) by decide +kernel) rfl ?_
    obtain ⟨c11, h⟩ := chkA_some h
    obtain ⟨σ12, e13, h⟩ := bnd_i h
    refine yo_last 107 12 (by decide) rfl c11 (ov_set1 e13 rfl) (show decode cX12_readPlace 39 = .ok (.lastore, 1) by decide +kernel) ?_
    refine y_aload_n (show decode cX12_readPlace 40 = .ok (.aload_n 0, 1) by decide +kernel) 0 rfl ?_
    refine y_getf 92 12 22 55 (by decide) rfl (by decide) (by decide) q6_69 (show decode cX12_readPlace 41 = .ok (.getfield 55, 3) by decide +kernel) (v := .inr (.inr (106 + 1))) rfl ?_
    refine y_iload_n (show decode cX12_readPlace 44 = .ok (.iload_n 1, 1) by decide +kernel) 1 rfl ?_
    refine y_aload_n (show decode cX12_readPlace 45 = .ok (.aload_n 0, 1) by decide +kernel) 0 rfl ?_
    obtain ⟨r15, e14, h⟩ := bndO_some h
    refine y_callV (np := 0) (st := [.inl ((6 * (σ 92 41)) + (σ 95 ((σ 92 41)).toNat)), .inr (.inr (106 + 1))]) (as := []) 92 12 (sh_mo_isGood e14) q7_119 q7_116 q7_118 qs4_6 q1_15 (by decide) rfl (by decide) rfl (by decide) (by decide +kernel) (by decide) rfl (Nat.le_of_ble_eq_true rfl) (show decode cX12_readPlace 46 = .ok (.invokevirtual 277, 3) by decide +kernel) rfl ?_
    refine bnd_j (Q := fun j17 => ∀ (y16 : Int), j17 y16 = some τ → Y E MX12_readPlace (yRm 3 0 0) (yQf E (150 + 0) 0 0 none (ov τ)) 67 [(0, .inr (.inr (92 + 1))), (1, .inl ((6 * (σ 92 41)) + (σ 95 ((σ 92 41)).toNat)))] [.inl y16, .inl ((6 * (σ 92 41)) + (σ 95 ((σ 92 41)).toNat)), .inr (.inr (106 + 1))] (ov σ12) 150 0 0) (fun y16 h => ?_) (fun j17 hj17 h => ?_) h
    · dsimp only at h
      obtain ⟨c18, h⟩ := chk_some h
      obtain ⟨c19, h⟩ := chkA_some h
      obtain ⟨σ20, e21, h⟩ := bnd_i h
      refine yo_zast 106 12 (by decide) rfl c19 c18 (ov_set1 e21 rfl) (show decode cX12_readPlace 67 = .ok (.bastore, 1) by decide +kernel) ?_
      refine y_aload_n (show decode cX12_readPlace 68 = .ok (.aload_n 0, 1) by decide +kernel) 0 rfl ?_
      refine y_getf 92 12 22 55 (by decide) rfl (by decide) (by decide) q6_69 (show decode cX12_readPlace 69 = .ok (.getfield 55, 3) by decide +kernel) (v := .inr (.inr (106 + 1))) rfl ?_
      refine y_iload_n (show decode cX12_readPlace 72 = .ok (.iload_n 1, 1) by decide +kernel) 1 rfl ?_
      obtain ⟨c22, h⟩ := chkA_some h
      refine yo_zald 106 12 (by decide) rfl c22 (ov_at rfl) (show decode cX12_readPlace 73 = .ok (.baload, 1) by decide +kernel) ?_
      refine bnd_j (Q := fun j24 => ∀ (σ23 : ySt), j24 σ23 = some τ → Y E MX12_readPlace (yRm 3 0 0) (yQf E (150 + 0) 0 0 none (ov τ)) 81 [(0, .inr (.inr (92 + 1)))] [] (ov σ23) 150 0 0) (fun σ23 h => ?_) (fun j24 hj24 h => ?_) h
      · dsimp only at h
        refine y_aload_n (show decode cX12_readPlace 81 = .ok (.aload_n 0, 1) by decide +kernel) 0 rfl ?_
        refine y_getf 92 12 11 20 (by decide) rfl (by decide) (by decide) q6_58 (show decode cX12_readPlace 82 = .ok (.getfield 20, 3) by decide +kernel) (v := .inr (.inr (95 + 1))) rfl ?_
        refine y_aload_n (show decode cX12_readPlace 85 = .ok (.aload_n 0, 1) by decide +kernel) 0 rfl ?_
        refine y_getf 92 12 41 301 (by decide) rfl (by decide) (by decide) q6_88 (show decode cX12_readPlace 86 = .ok (.getfield 301, 3) by decide +kernel) (v := .inl (σ23 92 41)) rfl ?_
        refine y_dup2 (show decode cX12_readPlace 89 = .ok (.dup2, 1) by decide +kernel) rfl rfl ?_
        obtain ⟨c25, h⟩ := chkA_some h
        refine yo_iald 95 2 (by decide) rfl c25 (ov_at rfl) (show decode cX12_readPlace 90 = .ok (.iaload, 1) by decide +kernel) ?_
        refine y_iconst (show decode cX12_readPlace 91 = .ok (.iconst 1, 1) by decide +kernel) rfl ?_
        obtain ⟨c26, h⟩ := chkI_some h
        refine y_iadd (show decode cX12_readPlace 92 = .ok (.iadd, 1) by decide +kernel) c26 ?_
        obtain ⟨c27, h⟩ := chkA_some h
        obtain ⟨σ28, e29, h⟩ := bnd_i h
        refine yo_iast 95 2 (by decide) rfl c27 (ov_set1 e29 rfl) (show decode cX12_readPlace 93 = .ok (.iastore, 1) by decide +kernel) ?_
        cases h
        exact y_vret (show decode cX12_readPlace 94 = .ok (.return_, 1) by decide +kernel) rfl
      by_cases c30 : (σ20 106 (((6 * (σ 92 41)) + (σ 95 ((σ 92 41)).toNat))).toNat) = 0
      · rw [if_pos c30] at h
        refine y_if_eq_t (tgt := 81) (show decode cX12_readPlace 74 = .ok (.ifCond .eq 7, 3) by decide +kernel) rfl c30 ?_
        refine y_pick [0] rfl ?_
        exact hj24 _ h
      · rw [if_neg c30] at h
        refine y_if_eq_f (show decode cX12_readPlace 74 = .ok (.ifCond .eq 7, 3) by decide +kernel) c30 (by decide) ?_
        refine y_aload_n (show decode cX12_readPlace 77 = .ok (.aload_n 0, 1) by decide +kernel) 0 rfl ?_
        obtain ⟨σ32, e31, h⟩ := bndO_some h
        refine y_callV (np := 0) (st := []) (as := []) 92 12 (sh_mo_goOn e31) q7_80 q7_77 q7_79 qs4_4 q1_15 (by decide) rfl (by decide) rfl (by decide) (by decide +kernel) (by decide) rfl (Nat.le_of_ble_eq_true rfl) (show decode cX12_readPlace 78 = .ok (.invokevirtual 281, 3) by decide +kernel) rfl ?_
        refine y_pick [0] rfl ?_
        exact hj24 _ h
    by_cases c33 : r15 = 0
    · rw [if_pos c33] at h
      refine y_if_eq_t (tgt := 66) (show decode cX12_readPlace 49 = .ok (.ifCond .eq 17, 3) by decide +kernel) rfl c33 ?_
      refine y_iconst (show decode cX12_readPlace 66 = .ok (.iconst 0, 1) by decide +kernel) rfl ?_
      refine y_pick [0, 1] rfl ?_
      exact hj17 _ h
    · rw [if_neg c33] at h
      refine y_if_eq_f (show decode cX12_readPlace 49 = .ok (.ifCond .eq 17, 3) by decide +kernel) c33 (by decide) ?_
      refine y_aload_n (show decode cX12_readPlace 52 = .ok (.aload_n 0, 1) by decide +kernel) 0 rfl ?_
      refine y_ldc2 (k := 435627783289) (show decode cX12_readPlace 53 = .ok (.ldc2_w 203, 3) by decide +kernel) q7_92 rfl rfl ?_
      obtain ⟨r35, e34, h⟩ := bndO_some h
      refine y_callV (np := 1) (st := [.inl ((6 * (σ 92 41)) + (σ 95 ((σ 92 41)).toNat)), .inr (.inr (106 + 1))]) (as := [.inr (.inl 435627783289)]) 92 12 (sh_mo_isWord e34) q7_131 q7_128 q7_130 qs4_9 q1_15 (by decide) rfl (by decide) rfl (by decide) (by decide +kernel) (by decide) rfl (Nat.le_of_ble_eq_true rfl) (show decode cX12_readPlace 56 = .ok (.invokevirtual 287, 3) by decide +kernel) rfl ?_
      by_cases c36 : r35 = 0
      · rw [if_pos c36] at h
        refine y_if_eq_t (tgt := 66) (show decode cX12_readPlace 59 = .ok (.ifCond .eq 7, 3) by decide +kernel) rfl c36 ?_
        refine y_iconst (show decode cX12_readPlace 66 = .ok (.iconst 0, 1) by decide +kernel) rfl ?_
        refine y_pick [0, 1] rfl ?_
        exact hj17 _ h
      · rw [if_neg c36] at h
        refine y_if_eq_f (show decode cX12_readPlace 59 = .ok (.ifCond .eq 7, 3) by decide +kernel) c36 (by decide) ?_
        refine y_iconst (show decode cX12_readPlace 62 = .ok (.iconst 1, 1) by decide +kernel) rfl ?_
        refine y_goto (tgt := 67) (show decode cX12_readPlace 63 = .ok (.goto 4, 3) by decide +kernel) rfl ?_
        refine y_pick [0, 1] rfl ?_
        exact hj17 _ h
  by_cases c37 : r5 < 0
  · rw [if_pos c37] at h
    refine y_if_lt_t (tgt := 35) (show decode cX12_readPlace 28 = .ok (.ifCond .lt 7, 3) by decide +kernel) rfl c37 ?_
    refine y_iconst (show decode cX12_readPlace 35 = .ok (.iconst 0, 1) by decide +kernel) rfl ?_
    refine y_pick [1, 0] rfl ?_
    exact hj7 _ h
  · rw [if_neg c37] at h
    refine y_if_lt_f (show decode cX12_readPlace 28 = .ok (.ifCond .lt 7, 3) by decide +kernel) c37 (by decide) ?_
    refine y_iconst (show decode cX12_readPlace 31 = .ok (.iconst 1, 1) by decide +kernel) rfl ?_
    refine y_goto (tgt := 36) (show decode cX12_readPlace 32 = .ok (.goto 4, 3) by decide +kernel) rfl ?_
    refine y_pick [1, 0] rfl ?_
    exact hj7 _ h
abbrev MX12_told : yM := (yX12_told, cX12_told, 2, some .int)
def mo_told (N : Nat) (a : Int) (σ : ySt) : Option (Int × ySt) :=
  bndO (mo_isGood σ) fun r2 =>
  if ¬ r2 = 0 then
    bnd (fun (σ4 : ySt) =>
      bndO (mo_isGood σ4) fun r7 =>
      bnd (fun (σ8 : ySt) =>
        if a ≥ 0 then
          some (a, σ8)
        else
          some (0, σ8)) fun j9 =>
      if r7 = 0 then
        j9 σ4
      else
        bndO (mo_goOn N σ4) fun σ13 =>
        j9 σ13) fun j5 =>
    if (σ 92 8) = 2 then
      if a ≥ 0 then
        j5 σ
      else
        bndO (mo_fails 5 (σ 92 6) σ) fun σ17 =>
        j5 σ17
    else
      bndO (mo_misplaced σ) fun σ19 =>
      j5 σ19
  else
    some (0, σ)
set_option maxHeartbeats 4000000 in
set_option maxRecDepth 10000 in
theorem sh_mo_told {E : yE} {N : Nat} {a : Int} {σ : ySt} {ρ : Int} {τ : ySt} (h : mo_told N a σ = some (ρ, τ)) : Con E MX12_told 2 0 0 [.inr (.inr (92 + 1)), .inl a] 150 (ov σ) (some (.inl ρ)) (ov τ) := by
  unfold mo_told at h
  refine Con.ofY (by decide +kernel) (by simp [yWords, yCat]) (fun hok _ => ?_)
  show Y E MX12_told (yRm 2 0 0) (yQf E (150 + 0) 0 0 (some (.inl ρ)) (ov τ)) 0 [(0, .inr (.inr (92 + 1))), (1, .inl a)] [] (ov σ) 150 0 0
  refine y_aload_n (show decode cX12_told 0 = .ok (.aload_n 0, 1) by decide +kernel) 0 rfl ?_
  obtain ⟨r2, e1, h⟩ := bndO_some h
  refine y_callV (np := 0) (st := []) (as := []) 92 12 (sh_mo_isGood e1) q7_119 q7_116 q7_118 qs4_6 q1_15 (by decide) rfl (by decide) rfl (by decide) (by decide +kernel) (by decide) rfl (Nat.le_of_ble_eq_true rfl) (show decode cX12_told 1 = .ok (.invokevirtual 277, 3) by decide +kernel) rfl ?_
  by_cases c3 : ¬ r2 = 0
  · rw [if_pos c3] at h
    refine y_if_ne_t (tgt := 9) (show decode cX12_told 4 = .ok (.ifCond .ne 5, 3) by decide +kernel) rfl c3 ?_
    refine y_aload_n (show decode cX12_told 9 = .ok (.aload_n 0, 1) by decide +kernel) 0 rfl ?_
    refine y_getf 92 12 8 249 (by decide) rfl (by decide) (by decide) q6_55 (show decode cX12_told 10 = .ok (.getfield 249, 3) by decide +kernel) (v := .inl (σ 92 8)) rfl ?_
    refine y_iconst (show decode cX12_told 13 = .ok (.iconst 2, 1) by decide +kernel) rfl ?_
    refine bnd_j (Q := fun j5 => ∀ (σ4 : ySt), j5 σ4 = some (ρ, τ) → Y E MX12_told (yRm 2 0 0) (yQf E (150 + 0) 0 0 (some (.inl ρ)) (ov τ)) 37 [(0, .inr (.inr (92 + 1))), (1, .inl a)] [] (ov σ4) 150 0 0) (fun σ4 h => ?_) (fun j5 hj5 h => ?_) h
    · dsimp only at h
      refine y_aload_n (show decode cX12_told 37 = .ok (.aload_n 0, 1) by decide +kernel) 0 rfl ?_
      obtain ⟨r7, e6, h⟩ := bndO_some h
      refine y_callV (np := 0) (st := []) (as := []) 92 12 (sh_mo_isGood e6) q7_119 q7_116 q7_118 qs4_6 q1_15 (by decide) rfl (by decide) rfl (by decide) (by decide +kernel) (by decide) rfl (Nat.le_of_ble_eq_true rfl) (show decode cX12_told 38 = .ok (.invokevirtual 277, 3) by decide +kernel) rfl ?_
      refine bnd_j (Q := fun j9 => ∀ (σ8 : ySt), j9 σ8 = some (ρ, τ) → Y E MX12_told (yRm 2 0 0) (yQf E (150 + 0) 0 0 (some (.inl ρ)) (ov τ)) 48 [(1, .inl a)] [] (ov σ8) 150 0 0) (fun σ8 h => ?_) (fun j9 hj9 h => ?_) h
      · dsimp only at h
        refine y_iload_n (show decode cX12_told 48 = .ok (.iload_n 1, 1) by decide +kernel) 0 rfl ?_
        by_cases c10 : a ≥ 0
        · rw [if_pos c10] at h
          refine y_if_ge_t (tgt := 56) (show decode cX12_told 49 = .ok (.ifCond .ge 7, 3) by decide +kernel) rfl c10 ?_
          refine y_iload_n (show decode cX12_told 56 = .ok (.iload_n 1, 1) by decide +kernel) 0 rfl ?_
          cases h
          exact y_iret (show decode cX12_told 57 = .ok (.ireturn, 1) by decide +kernel) rfl
        · rw [if_neg c10] at h
          refine y_if_ge_f (show decode cX12_told 49 = .ok (.ifCond .ge 7, 3) by decide +kernel) c10 (by decide) ?_
          refine y_iconst (show decode cX12_told 52 = .ok (.iconst 0, 1) by decide +kernel) rfl ?_
          refine y_goto (tgt := 57) (show decode cX12_told 53 = .ok (.goto 4, 3) by decide +kernel) rfl ?_
          cases h
          exact y_iret (show decode cX12_told 57 = .ok (.ireturn, 1) by decide +kernel) rfl
      by_cases c11 : r7 = 0
      · rw [if_pos c11] at h
        refine y_if_eq_t (tgt := 48) (show decode cX12_told 41 = .ok (.ifCond .eq 7, 3) by decide +kernel) rfl c11 ?_
        refine y_pick [1] rfl ?_
        exact hj9 _ h
      · rw [if_neg c11] at h
        refine y_if_eq_f (show decode cX12_told 41 = .ok (.ifCond .eq 7, 3) by decide +kernel) c11 (by decide) ?_
        refine y_aload_n (show decode cX12_told 44 = .ok (.aload_n 0, 1) by decide +kernel) 0 rfl ?_
        obtain ⟨σ13, e12, h⟩ := bndO_some h
        refine y_callV (np := 0) (st := []) (as := []) 92 12 (sh_mo_goOn e12) q7_80 q7_77 q7_79 qs4_4 q1_15 (by decide) rfl (by decide) rfl (by decide) (by decide +kernel) (by decide) rfl (Nat.le_of_ble_eq_true rfl) (show decode cX12_told 45 = .ok (.invokevirtual 281, 3) by decide +kernel) rfl ?_
        refine y_pick [1] rfl ?_
        exact hj9 _ h
    by_cases c14 : (σ 92 8) = 2
    · rw [if_pos c14] at h
      refine y_icmp_eq_t (tgt := 24) (show decode cX12_told 14 = .ok (.if_icmp .eq 10, 3) by decide +kernel) rfl c14 ?_
      refine y_iload_n (show decode cX12_told 24 = .ok (.iload_n 1, 1) by decide +kernel) 1 rfl ?_
      by_cases c15 : a ≥ 0
      · rw [if_pos c15] at h
        refine y_if_ge_t (tgt := 37) (show decode cX12_told 25 = .ok (.ifCond .ge 12, 3) by decide +kernel) rfl c15 ?_
        refine y_pick [0, 1] rfl ?_
        exact hj5 _ h
      · rw [if_neg c15] at h
        refine y_if_ge_f (show decode cX12_told 25 = .ok (.ifCond .ge 12, 3) by decide +kernel) c15 (by decide) ?_
        refine y_aload_n (show decode cX12_told 28 = .ok (.aload_n 0, 1) by decide +kernel) 0 rfl ?_
        refine y_iconst (show decode cX12_told 29 = .ok (.iconst 5, 1) by decide +kernel) rfl ?_
        refine y_aload_n (show decode cX12_told 30 = .ok (.aload_n 0, 1) by decide +kernel) 0 rfl ?_
        refine y_getf 92 12 6 242 (by decide) rfl (by decide) (by decide) q6_53 (show decode cX12_told 31 = .ok (.getfield 242, 3) by decide +kernel) (v := .inl (σ 92 6)) rfl ?_
        obtain ⟨σ17, e16, h⟩ := bndO_some h
        refine y_callV (np := 2) (st := []) (as := [.inl 5, .inl (σ 92 6)]) 92 12 (sh_mo_fails e16) q7_139 q7_136 q7_138 qs4_11 q1_15 (by decide) rfl (by decide) rfl (by decide) (by decide +kernel) (by decide) rfl (Nat.le_of_ble_eq_true rfl) (show decode cX12_told 34 = .ok (.invokevirtual 273, 3) by decide +kernel) rfl ?_
        refine y_pick [0, 1] rfl ?_
        exact hj5 _ h
    · rw [if_neg c14] at h
      refine y_icmp_eq_f (show decode cX12_told 14 = .ok (.if_icmp .eq 10, 3) by decide +kernel) c14 (by decide) ?_
      refine y_aload_n (show decode cX12_told 17 = .ok (.aload_n 0, 1) by decide +kernel) 0 rfl ?_
      obtain ⟨σ19, e18, h⟩ := bndO_some h
      refine y_callV (np := 0) (st := []) (as := []) 92 12 (sh_mo_misplaced e18) q7_135 q7_132 q7_134 qs4_10 q1_15 (by decide) rfl (by decide) rfl (by decide) (by decide +kernel) (by decide) rfl (Nat.le_of_ble_eq_true rfl) (show decode cX12_told 18 = .ok (.invokevirtual 284, 3) by decide +kernel) rfl ?_
      refine y_goto (tgt := 37) (show decode cX12_told 21 = .ok (.goto 16, 3) by decide +kernel) rfl ?_
      refine y_pick [0, 1] rfl ?_
      exact hj5 _ h
  · rw [if_neg c3] at h
    refine y_if_ne_f (show decode cX12_told 4 = .ok (.ifCond .ne 5, 3) by decide +kernel) c3 (by decide) ?_
    refine y_iconst (show decode cX12_told 7 = .ok (.iconst 0, 1) by decide +kernel) rfl ?_
    cases h
    exact y_iret (show decode cX12_told 8 = .ok (.ireturn, 1) by decide +kernel) rfl
abbrev MX12_readWay : yM := (yX12_readWay, cX12_readWay, 4, none)
def mo_readWay (N : Nat) (σ : ySt) : Option (ySt) :=
  bndO (mo_placeHere N σ) fun r2 =>
  bndR (mo_told N r2 σ) fun r4 σ5 =>
  bndO (mo_placeHere N σ5) fun r7 =>
  bndO (mo_isGood σ5) fun r9 =>
  bnd (fun (σ10 : ySt) =>
    bndR (mo_told N r7 σ10) fun r13 σ14 =>
    bndR (mo_after N 30796695599342963 1 999 σ14) fun r16 σ17 =>
    chkI (36 * (σ17 92 41)) <|
    chkI (6 * r4) <|
    chkI ((36 * (σ17 92 41)) + (6 * r4)) <|
    chkI (((36 * (σ17 92 41)) + (6 * r4)) + r13) <|
    chkA 72 (((36 * (σ17 92 41)) + (6 * r4)) + r13) <|
    bnd (yset σ17 110 ((((36 * (σ17 92 41)) + (6 * r4)) + r13)).toNat r16) fun σ23 =>
    chkI (36 * (σ23 92 41)) <|
    chkI (6 * r13) <|
    chkI ((36 * (σ23 92 41)) + (6 * r13)) <|
    chkI (((36 * (σ23 92 41)) + (6 * r13)) + r4) <|
    chkA 72 (((36 * (σ23 92 41)) + (6 * r13)) + r4) <|
    bnd (yset σ23 110 ((((36 * (σ23 92 41)) + (6 * r13)) + r4)).toNat r16) fun σ30 =>
    chkA 2 (σ30 92 41) <|
    chkI ((σ30 96 ((σ30 92 41)).toNat) + 1) <|
    chkA 2 (σ30 92 41) <|
    bnd (yset σ30 96 ((σ30 92 41)).toNat ((σ30 96 ((σ30 92 41)).toNat) + 1)) fun σ35 =>
    some σ35) fun j11 =>
  if r9 = 0 then
    j11 σ5
  else
    if ¬ (σ5 92 8) = 2 then
      j11 σ5
    else
      if r7 < 0 then
        j11 σ5
      else
        bnd (bndO (mo_fails 3 (σ5 92 6) σ5) fun σ42 =>
          j11 σ42) fun j40 =>
        if r4 = r7 then
          j40
        else
          chkI (36 * (σ5 92 41)) <|
          chkI (6 * r4) <|
          chkI ((36 * (σ5 92 41)) + (6 * r4)) <|
          chkI (((36 * (σ5 92 41)) + (6 * r4)) + r7) <|
          chkA 72 (((36 * (σ5 92 41)) + (6 * r4)) + r7) <|
          if (σ5 110 ((((36 * (σ5 92 41)) + (6 * r4)) + r7)).toNat) ≥ 1000000 then
            j11 σ5
          else
            j40
set_option maxHeartbeats 4000000 in
set_option maxRecDepth 10000 in
theorem sh_mo_readWay {E : yE} {N : Nat} {σ : ySt} {τ : ySt} (h : mo_readWay N σ = some τ) : Con E MX12_readWay 4 0 0 [.inr (.inr (92 + 1))] 150 (ov σ) none (ov τ) := by
  unfold mo_readWay at h
  refine Con.ofY (by decide +kernel) (by simp [yWords, yCat]) (fun hok _ => ?_)
  show Y E MX12_readWay (yRm 4 0 0) (yQf E (150 + 0) 0 0 none (ov τ)) 0 [(0, .inr (.inr (92 + 1)))] [] (ov σ) 150 0 0
  refine y_aload_n (show decode cX12_readWay 0 = .ok (.aload_n 0, 1) by decide +kernel) 0 rfl ?_
  refine y_aload_n (show decode cX12_readWay 1 = .ok (.aload_n 0, 1) by decide +kernel) 0 rfl ?_
  obtain ⟨r2, e1, h⟩ := bndO_some h
  refine y_callV (np := 0) (st := [.inr (.inr (92 + 1))]) (as := []) 92 12 (sh_mo_placeHere e1) q7_147 q7_144 q7_146 qs4_13 q1_15 (by decide) rfl (by decide) rfl (by decide) (by decide +kernel) (by decide) rfl (Nat.le_of_ble_eq_true rfl) (show decode cX12_readWay 2 = .ok (.invokevirtual 348, 3) by decide +kernel) rfl ?_
  obtain ⟨r4, σ5, e3, h⟩ := bndR_some h
  refine y_callV (np := 1) (st := []) (as := [.inl r2]) 92 12 (sh_mo_told e3) q7_163 q7_160 q7_162 qs5_1 q1_15 (by decide) rfl (by decide) rfl (by decide) (by decide +kernel) (by decide) rfl (Nat.le_of_ble_eq_true rfl) (show decode cX12_readWay 5 = .ok (.invokevirtual 356, 3) by decide +kernel) rfl ?_
  refine y_istore_n (show decode cX12_readWay 8 = .ok (.istore_n 1, 1) by decide +kernel) rfl (L1 := [(1, .inl r4), (0, .inr (.inr (92 + 1)))]) rfl ?_
  refine y_aload_n (show decode cX12_readWay 9 = .ok (.aload_n 0, 1) by decide +kernel) 1 rfl ?_
  obtain ⟨r7, e6, h⟩ := bndO_some h
  refine y_callV (np := 0) (st := []) (as := []) 92 12 (sh_mo_placeHere e6) q7_147 q7_144 q7_146 qs4_13 q1_15 (by decide) rfl (by decide) rfl (by decide) (by decide +kernel) (by decide) rfl (Nat.le_of_ble_eq_true rfl) (show decode cX12_readWay 10 = .ok (.invokevirtual 348, 3) by decide +kernel) rfl ?_
  refine y_istore_n (show decode cX12_readWay 13 = .ok (.istore_n 2, 1) by decide +kernel) rfl (L1 := [(2, .inl r7), (1, .inl r4), (0, .inr (.inr (92 + 1)))]) rfl ?_
  refine y_aload_n (show decode cX12_readWay 14 = .ok (.aload_n 0, 1) by decide +kernel) 2 rfl ?_
  obtain ⟨r9, e8, h⟩ := bndO_some h
  refine y_callV (np := 0) (st := []) (as := []) 92 12 (sh_mo_isGood e8) q7_119 q7_116 q7_118 qs4_6 q1_15 (by decide) rfl (by decide) rfl (by decide) (by decide +kernel) (by decide) rfl (Nat.le_of_ble_eq_true rfl) (show decode cX12_readWay 15 = .ok (.invokevirtual 277, 3) by decide +kernel) rfl ?_
  refine bnd_j (Q := fun j11 => ∀ (σ10 : ySt), j11 σ10 = some τ → Y E MX12_readWay (yRm 4 0 0) (yQf E (150 + 0) 0 0 none (ov τ)) 72 [(0, .inr (.inr (92 + 1))), (1, .inl r4), (2, .inl r7)] [] (ov σ10) 150 0 0) (fun σ10 h => ?_) (fun j11 hj11 h => ?_) h
  · dsimp only at h
    refine y_aload_n (show decode cX12_readWay 72 = .ok (.aload_n 0, 1) by decide +kernel) 0 rfl ?_
    refine y_iload_n (show decode cX12_readWay 73 = .ok (.iload_n 2, 1) by decide +kernel) 2 rfl ?_
    obtain ⟨r13, σ14, e12, h⟩ := bndR_some h
    refine y_callV (np := 1) (st := []) (as := [.inl r7]) 92 12 (sh_mo_told e12) q7_163 q7_160 q7_162 qs5_1 q1_15 (by decide) rfl (by decide) rfl (by decide) (by decide +kernel) (by decide) rfl (Nat.le_of_ble_eq_true rfl) (show decode cX12_readWay 74 = .ok (.invokevirtual 356, 3) by decide +kernel) rfl ?_
    refine y_istore_n (show decode cX12_readWay 77 = .ok (.istore_n 2, 1) by decide +kernel) rfl (L1 := [(2, .inl r13), (0, .inr (.inr (92 + 1))), (1, .inl r4)]) rfl ?_
    refine y_aload_n (show decode cX12_readWay 78 = .ok (.aload_n 0, 1) by decide +kernel) 1 rfl ?_
    refine y_ldc2 (k := 30796695599342963) (show decode cX12_readWay 79 = .ok (.ldc2_w 207, 3) by decide +kernel) q7_94 rfl rfl ?_
    refine y_iconst (show decode cX12_readWay 82 = .ok (.iconst 1, 1) by decide +kernel) rfl ?_
    refine y_sipush (show decode cX12_readWay 83 = .ok (.sipush 999, 3) by decide +kernel) rfl rfl ?_
    obtain ⟨r16, σ17, e15, h⟩ := bndR_some h
    refine y_callV (np := 3) (st := []) (as := [.inr (.inl 30796695599342963), .inl 1, .inl 999]) 92 12 (sh_mo_after e15) q7_167 q7_164 q7_166 qs5_2 q1_15 (by decide) rfl (by decide) rfl (by decide) (by decide +kernel) (by decide) rfl (Nat.le_of_ble_eq_true rfl) (show decode cX12_readWay 86 = .ok (.invokevirtual 359, 3) by decide +kernel) rfl ?_
    refine y_istore_n (show decode cX12_readWay 89 = .ok (.istore_n 3, 1) by decide +kernel) rfl (L1 := [(3, .inl r16), (2, .inl r13), (0, .inr (.inr (92 + 1))), (1, .inl r4)]) rfl ?_
    refine y_aload_n (show decode cX12_readWay 90 = .ok (.aload_n 0, 1) by decide +kernel) 2 rfl ?_
    refine y_getf 92 12 26 68 (by decide) rfl (by decide) (by decide) q6_73 (show decode cX12_readWay 91 = .ok (.getfield 68, 3) by decide +kernel) (v := .inr (.inr (110 + 1))) rfl ?_
    refine y_bipush (show decode cX12_readWay 94 = .ok (.bipush 36, 2) by decide +kernel) rfl rfl ?_
    refine y_aload_n (show decode cX12_readWay 96 = .ok (.aload_n 0, 1) by decide +kernel) 2 rfl ?_
    refine y_getf 92 12 41 301 (by decide) rfl (by decide) (by decide) q6_88 (show decode cX12_readWay 97 = .ok (.getfield 301, 3) by decide +kernel) (v := .inl (σ17 92 41)) rfl ?_
    obtain ⟨c18, h⟩ := chkI_some h
    refine y_imul (show decode cX12_readWay 100 = .ok (.imul, 1) by decide +kernel) c18 ?_
    refine y_bipush (show decode cX12_readWay 101 = .ok (.bipush 6, 2) by decide +kernel) rfl rfl ?_
    refine y_iload_n (show decode cX12_readWay 103 = .ok (.iload_n 1, 1) by decide +kernel) 3 rfl ?_
    obtain ⟨c19, h⟩ := chkI_some h
    refine y_imul (show decode cX12_readWay 104 = .ok (.imul, 1) by decide +kernel) c19 ?_
    obtain ⟨c20, h⟩ := chkI_some h
    refine y_iadd (show decode cX12_readWay 105 = .ok (.iadd, 1) by decide +kernel) c20 ?_
    refine y_iload_n (show decode cX12_readWay 106 = .ok (.iload_n 2, 1) by decide +kernel) 1 rfl ?_
    obtain ⟨c21, h⟩ := chkI_some h
    refine y_iadd (show decode cX12_readWay 107 = .ok (.iadd, 1) by decide +kernel) c21 ?_
    refine y_iload_n (show decode cX12_readWay 108 = .ok (.iload_n 3, 1) by decide +kernel) 0 rfl ?_
    obtain ⟨c22, h⟩ := chkA_some h
    obtain ⟨σ23, e24, h⟩ := bnd_i h
    refine yo_iast 110 72 (by decide) rfl c22 (ov_set1 e24 rfl) (show decode cX12_readWay 109 = .ok (.iastore, 1) by decide +kernel) ?_
    refine y_aload_n (show decode cX12_readWay 110 = .ok (.aload_n 0, 1) by decide +kernel) 2 rfl ?_
    refine y_getf 92 12 26 68 (by decide) rfl (by decide) (by decide) q6_73 (show decode cX12_readWay 111 = .ok (.getfield 68, 3) by decide +kernel) (v := .inr (.inr (110 + 1))) rfl ?_
    refine y_bipush (show decode cX12_readWay 114 = .ok (.bipush 36, 2) by decide +kernel) rfl rfl ?_
    refine y_aload_n (show decode cX12_readWay 116 = .ok (.aload_n 0, 1) by decide +kernel) 2 rfl ?_
    refine y_getf 92 12 41 301 (by decide) rfl (by decide) (by decide) q6_88 (show decode cX12_readWay 117 = .ok (.getfield 301, 3) by decide +kernel) (v := .inl (σ23 92 41)) rfl ?_
    obtain ⟨c25, h⟩ := chkI_some h
    refine y_imul (show decode cX12_readWay 120 = .ok (.imul, 1) by decide +kernel) c25 ?_
    refine y_bipush (show decode cX12_readWay 121 = .ok (.bipush 6, 2) by decide +kernel) rfl rfl ?_
    refine y_iload_n (show decode cX12_readWay 123 = .ok (.iload_n 2, 1) by decide +kernel) 1 rfl ?_
    obtain ⟨c26, h⟩ := chkI_some h
    refine y_imul (show decode cX12_readWay 124 = .ok (.imul, 1) by decide +kernel) c26 ?_
    obtain ⟨c27, h⟩ := chkI_some h
    refine y_iadd (show decode cX12_readWay 125 = .ok (.iadd, 1) by decide +kernel) c27 ?_
    refine y_iload_n (show decode cX12_readWay 126 = .ok (.iload_n 1, 1) by decide +kernel) 3 rfl ?_
    obtain ⟨c28, h⟩ := chkI_some h
    refine y_iadd (show decode cX12_readWay 127 = .ok (.iadd, 1) by decide +kernel) c28 ?_
    refine y_iload_n (show decode cX12_readWay 128 = .ok (.iload_n 3, 1) by decide +kernel) 0 rfl ?_
    obtain ⟨c29, h⟩ := chkA_some h
    obtain ⟨σ30, e31, h⟩ := bnd_i h
    refine yo_iast 110 72 (by decide) rfl c29 (ov_set1 e31 rfl) (show decode cX12_readWay 129 = .ok (.iastore, 1) by decide +kernel) ?_
    refine y_aload_n (show decode cX12_readWay 130 = .ok (.aload_n 0, 1) by decide +kernel) 2 rfl ?_
    refine y_getf 92 12 12 24 (by decide) rfl (by decide) (by decide) q6_59 (show decode cX12_readWay 131 = .ok (.getfield 24, 3) by decide +kernel) (v := .inr (.inr (96 + 1))) rfl ?_
    refine y_aload_n (show decode cX12_readWay 134 = .ok (.aload_n 0, 1) by decide +kernel) 2 rfl ?_
    refine y_getf 92 12 41 301 (by decide) rfl (by decide) (by decide) q6_88 (show decode cX12_readWay 135 = .ok (.getfield 301, 3) by decide +kernel) (v := .inl (σ30 92 41)) rfl ?_
    refine y_dup2 (show decode cX12_readWay 138 = .ok (.dup2, 1) by decide +kernel) rfl rfl ?_
    obtain ⟨c32, h⟩ := chkA_some h
    refine yo_iald 96 2 (by decide) rfl c32 (ov_at rfl) (show decode cX12_readWay 139 = .ok (.iaload, 1) by decide +kernel) ?_
    refine y_iconst (show decode cX12_readWay 140 = .ok (.iconst 1, 1) by decide +kernel) rfl ?_
    obtain ⟨c33, h⟩ := chkI_some h
    refine y_iadd (show decode cX12_readWay 141 = .ok (.iadd, 1) by decide +kernel) c33 ?_
    obtain ⟨c34, h⟩ := chkA_some h
    obtain ⟨σ35, e36, h⟩ := bnd_i h
    refine yo_iast 96 2 (by decide) rfl c34 (ov_set1 e36 rfl) (show decode cX12_readWay 142 = .ok (.iastore, 1) by decide +kernel) ?_
    cases h
    exact y_vret (show decode cX12_readWay 143 = .ok (.return_, 1) by decide +kernel) rfl
  by_cases c37 : r9 = 0
  · rw [if_pos c37] at h
    refine y_if_eq_t (tgt := 72) (show decode cX12_readWay 18 = .ok (.ifCond .eq 54, 3) by decide +kernel) rfl c37 ?_
    refine y_pick [2, 1, 0] rfl ?_
    exact hj11 _ h
  · rw [if_neg c37] at h
    refine y_if_eq_f (show decode cX12_readWay 18 = .ok (.ifCond .eq 54, 3) by decide +kernel) c37 (by decide) ?_
    refine y_aload_n (show decode cX12_readWay 21 = .ok (.aload_n 0, 1) by decide +kernel) 2 rfl ?_
    refine y_getf 92 12 8 249 (by decide) rfl (by decide) (by decide) q6_55 (show decode cX12_readWay 22 = .ok (.getfield 249, 3) by decide +kernel) (v := .inl (σ5 92 8)) rfl ?_
    refine y_iconst (show decode cX12_readWay 25 = .ok (.iconst 2, 1) by decide +kernel) rfl ?_
    by_cases c38 : ¬ (σ5 92 8) = 2
    · rw [if_pos c38] at h
      refine y_icmp_ne_t (tgt := 72) (show decode cX12_readWay 26 = .ok (.if_icmp .ne 46, 3) by decide +kernel) rfl c38 ?_
      refine y_pick [2, 1, 0] rfl ?_
      exact hj11 _ h
    · rw [if_neg c38] at h
      refine y_icmp_ne_f (show decode cX12_readWay 26 = .ok (.if_icmp .ne 46, 3) by decide +kernel) c38 (by decide) ?_
      refine y_iload_n (show decode cX12_readWay 29 = .ok (.iload_n 2, 1) by decide +kernel) 0 rfl ?_
      by_cases c39 : r7 < 0
      · rw [if_pos c39] at h
        refine y_if_lt_t (tgt := 72) (show decode cX12_readWay 30 = .ok (.ifCond .lt 42, 3) by decide +kernel) rfl c39 ?_
        refine y_pick [2, 1, 0] rfl ?_
        exact hj11 _ h
      · rw [if_neg c39] at h
        refine y_if_lt_f (show decode cX12_readWay 30 = .ok (.ifCond .lt 42, 3) by decide +kernel) c39 (by decide) ?_
        refine y_iload_n (show decode cX12_readWay 33 = .ok (.iload_n 1, 1) by decide +kernel) 1 rfl ?_
        refine y_iload_n (show decode cX12_readWay 34 = .ok (.iload_n 2, 1) by decide +kernel) 0 rfl ?_
        refine bnd_j (Q := fun j40 => j40 = some τ → Y E MX12_readWay (yRm 4 0 0) (yQf E (150 + 0) 0 0 none (ov τ)) 63 [(0, .inr (.inr (92 + 1))), (1, .inl r4), (2, .inl r7)] [] (ov σ5) 150 0 0) (fun h => ?_) (fun j40 hj40 h => ?_) h
        · refine y_aload_n (show decode cX12_readWay 63 = .ok (.aload_n 0, 1) by decide +kernel) 0 rfl ?_
          refine y_iconst (show decode cX12_readWay 64 = .ok (.iconst 3, 1) by decide +kernel) rfl ?_
          refine y_aload_n (show decode cX12_readWay 65 = .ok (.aload_n 0, 1) by decide +kernel) 0 rfl ?_
          refine y_getf 92 12 6 242 (by decide) rfl (by decide) (by decide) q6_53 (show decode cX12_readWay 66 = .ok (.getfield 242, 3) by decide +kernel) (v := .inl (σ5 92 6)) rfl ?_
          obtain ⟨σ42, e41, h⟩ := bndO_some h
          refine y_callV (np := 2) (st := []) (as := [.inl 3, .inl (σ5 92 6)]) 92 12 (sh_mo_fails e41) q7_139 q7_136 q7_138 qs4_11 q1_15 (by decide) rfl (by decide) rfl (by decide) (by decide +kernel) (by decide) rfl (Nat.le_of_ble_eq_true rfl) (show decode cX12_readWay 69 = .ok (.invokevirtual 273, 3) by decide +kernel) rfl ?_
          refine y_pick [0, 1, 2] rfl ?_
          exact hj11 _ h
        by_cases c43 : r4 = r7
        · rw [if_pos c43] at h
          refine y_icmp_eq_t (tgt := 63) (show decode cX12_readWay 35 = .ok (.if_icmp .eq 28, 3) by decide +kernel) rfl c43 ?_
          refine y_pick [2, 1, 0] rfl ?_
          exact hj40 h
        · rw [if_neg c43] at h
          refine y_icmp_eq_f (show decode cX12_readWay 35 = .ok (.if_icmp .eq 28, 3) by decide +kernel) c43 (by decide) ?_
          refine y_aload_n (show decode cX12_readWay 38 = .ok (.aload_n 0, 1) by decide +kernel) 2 rfl ?_
          refine y_getf 92 12 26 68 (by decide) rfl (by decide) (by decide) q6_73 (show decode cX12_readWay 39 = .ok (.getfield 68, 3) by decide +kernel) (v := .inr (.inr (110 + 1))) rfl ?_
          refine y_bipush (show decode cX12_readWay 42 = .ok (.bipush 36, 2) by decide +kernel) rfl rfl ?_
          refine y_aload_n (show decode cX12_readWay 44 = .ok (.aload_n 0, 1) by decide +kernel) 2 rfl ?_
          refine y_getf 92 12 41 301 (by decide) rfl (by decide) (by decide) q6_88 (show decode cX12_readWay 45 = .ok (.getfield 301, 3) by decide +kernel) (v := .inl (σ5 92 41)) rfl ?_
          obtain ⟨c44, h⟩ := chkI_some h
          refine y_imul (show decode cX12_readWay 48 = .ok (.imul, 1) by decide +kernel) c44 ?_
          refine y_bipush (show decode cX12_readWay 49 = .ok (.bipush 6, 2) by decide +kernel) rfl rfl ?_
          refine y_iload_n (show decode cX12_readWay 51 = .ok (.iload_n 1, 1) by decide +kernel) 1 rfl ?_
          obtain ⟨c45, h⟩ := chkI_some h
          refine y_imul (show decode cX12_readWay 52 = .ok (.imul, 1) by decide +kernel) c45 ?_
          obtain ⟨c46, h⟩ := chkI_some h
          refine y_iadd (show decode cX12_readWay 53 = .ok (.iadd, 1) by decide +kernel) c46 ?_
          refine y_iload_n (show decode cX12_readWay 54 = .ok (.iload_n 2, 1) by decide +kernel) 0 rfl ?_
          obtain ⟨c47, h⟩ := chkI_some h
          refine y_iadd (show decode cX12_readWay 55 = .ok (.iadd, 1) by decide +kernel) c47 ?_
          obtain ⟨c48, h⟩ := chkA_some h
          refine yo_iald 110 72 (by decide) rfl c48 (ov_at rfl) (show decode cX12_readWay 56 = .ok (.iaload, 1) by decide +kernel) ?_
          refine y_ldcw (k := 1000000) (show decode cX12_readWay 57 = .ok (.ldc_w 307, 3) by decide +kernel) q6_34 rfl rfl ?_
          by_cases c49 : (σ5 110 ((((36 * (σ5 92 41)) + (6 * r4)) + r7)).toNat) ≥ 1000000
          · rw [if_pos c49] at h
            refine y_icmp_ge_t (tgt := 72) (show decode cX12_readWay 60 = .ok (.if_icmp .ge 12, 3) by decide +kernel) rfl c49 ?_
            refine y_pick [2, 1, 0] rfl ?_
            exact hj11 _ h
          · rw [if_neg c49] at h
            refine y_icmp_ge_f (show decode cX12_readWay 60 = .ok (.if_icmp .ge 12, 3) by decide +kernel) c49 (by decide) ?_
            refine y_pick [2, 1, 0] rfl ?_
            exact hj40 h
