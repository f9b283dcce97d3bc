abbrev MX11_best : yM := (yX11_best, cX11_best, 2, some .int)
def cE_best (N : Nat) (a : Int) (σ : ySt) : Option (Int × ySt) :=
  bndO (cE_isSort a σ) fun r2 =>
  if r2 = 0 then
    some ((-1000000), σ)
  else
    bndR (cAn_bestWorth N a σ) fun r5 σ6 =>
    some (r5, σ6)
set_option maxHeartbeats 4000000 in
set_option maxRecDepth 10000 in
theorem sh_cE_best {E : yE} {N : Nat} {a : Int} {σ : ySt} {ρ : Int} {τ : ySt} (h : cE_best N a σ = some (ρ, τ)) : Con E MX11_best 6 0 0 [.inr (.inr (0 + 1)), .inl a] 150 (ov σ) (some (.inl ρ)) (ov τ) := by
  unfold cE_best at h
  refine Con.ofY (by decide +kernel) (by simp [yWords, yCat]) (fun hok _ => ?_)
  show Y E MX11_best (yRm 6 0 0) (yQf E (150 + 0) 0 0 (some (.inl ρ)) (ov τ)) 0 [(0, .inr (.inr (0 + 1))), (1, .inl a)] [] (ov σ) 150 0 0
  refine y_iload_n (show decode cX11_best 0 = .ok (.iload_n 1, 1) by decide +kernel) 1 rfl ?_
  obtain ⟨r2, e1, h⟩ := bndO_some h
  refine y_callS (np := 1) (st := []) (as := [.inl a]) (sh_cE_isSort e1) q4_212 q4_210 q4_211 q1_1 (by decide) (by decide +kernel) (by decide) rfl (Nat.le_of_ble_eq_true rfl) (show decode cX11_best 1 = .ok (.invokestatic 152, 3) by decide +kernel) rfl ?_
  by_cases c3 : r2 = 0
  · rw [if_pos c3] at h
    refine y_if_eq_t (tgt := 18) (show decode cX11_best 4 = .ok (.ifCond .eq 14, 3) by decide +kernel) rfl c3 ?_
    refine y_ldc (k := -1000000) (show decode cX11_best 18 = .ok (.ldc 159, 2) by decide +kernel) q5_13 rfl rfl ?_
    cases h
    exact y_iret (show decode cX11_best 20 = .ok (.ireturn, 1) by decide +kernel) rfl
  · rw [if_neg c3] at h
    refine y_if_eq_f (show decode cX11_best 4 = .ok (.ifCond .eq 14, 3) by decide +kernel) c3 (by decide) ?_
    refine y_aload_n (show decode cX11_best 7 = .ok (.aload_n 0, 1) by decide +kernel) 0 rfl ?_
    refine y_getf 0 11 2 71 (by decide) rfl (by decide) (by decide) q3_29 (show decode cX11_best 8 = .ok (.getfield 71, 3) by decide +kernel) (v := .inr (.inr (58 + 1))) rfl ?_
    refine y_iload_n (show decode cX11_best 11 = .ok (.iload_n 1, 1) by decide +kernel) 1 rfl ?_
    obtain ⟨r5, σ6, e4, h⟩ := bndR_some h
    refine y_callV (np := 1) (st := []) (as := [.inl a]) 58 0 (sh_cAn_bestWorth e4) q5_21 q5_18 q5_19 q5_20 q1_12 (by decide) rfl (by decide) rfl (by decide) (by decide +kernel) (by decide) rfl (Nat.le_of_ble_eq_true rfl) (show decode cX11_best 12 = .ok (.invokevirtual 160, 3) by decide +kernel) rfl ?_
    refine y_goto (tgt := 20) (show decode cX11_best 15 = .ok (.goto 5, 3) by decide +kernel) rfl ?_
    cases h
    exact y_iret (show decode cX11_best 20 = .ok (.ireturn, 1) by decide +kernel) rfl
abbrev MX11_bestAt : yM := (yX11_bestAt, cX11_bestAt, 4, some .int)
def cE_bestAt (N : Nat) (a : Int) (b : Int) (c : Int) (σ : ySt) : Option (Int × ySt) :=
  bndO (cE_isSort a σ) fun r2 =>
  if r2 = 0 then
    some ((-1), σ)
  else
    chkT (σ 0 5) fun T4 =>
    bndO (cE_isStroke b (σ T4 17) σ) fun r8 =>
    if r8 = 0 then
      some ((-1), σ)
    else
      chkT (σ 0 5) fun T10 =>
      bndO (cTw_hasPerson T10 c σ) fun r14 =>
      if ¬ r14 = 0 then
        bndR (cAn_bestPlace N a b c σ) fun r17 σ18 =>
        some (r17, σ18)
      else
        some ((-1), σ)
set_option maxHeartbeats 4000000 in
set_option maxRecDepth 10000 in
theorem sh_cE_bestAt {E : yE} {N : Nat} {a : Int} {b : Int} {c : Int} {σ : ySt} {ρ : Int} {τ : ySt} (h : cE_bestAt N a b c σ = some (ρ, τ)) : Con E MX11_bestAt 7 0 0 [.inr (.inr (0 + 1)), .inl a, .inl b, .inl c] 150 (ov σ) (some (.inl ρ)) (ov τ) := by
  unfold cE_bestAt at h
  refine Con.ofY (by decide +kernel) (by simp [yWords, yCat]) (fun hok _ => ?_)
  show Y E MX11_bestAt (yRm 7 0 0) (yQf E (150 + 0) 0 0 (some (.inl ρ)) (ov τ)) 0 [(0, .inr (.inr (0 + 1))), (1, .inl a), (2, .inl b), (3, .inl c)] [] (ov σ) 150 0 0
  refine y_iload_n (show decode cX11_bestAt 0 = .ok (.iload_n 1, 1) by decide +kernel) 1 rfl ?_
  obtain ⟨r2, e1, h⟩ := bndO_some h
  refine y_callS (np := 1) (st := []) (as := [.inl a]) (sh_cE_isSort e1) q4_212 q4_210 q4_211 q1_1 (by decide) (by decide +kernel) (by decide) rfl (Nat.le_of_ble_eq_true rfl) (show decode cX11_bestAt 1 = .ok (.invokestatic 152, 3) by decide +kernel) rfl ?_
  by_cases c3 : r2 = 0
  · rw [if_pos c3] at h
    refine y_if_eq_t (tgt := 32) (show decode cX11_bestAt 4 = .ok (.ifCond .eq 28, 3) by decide +kernel) rfl c3 ?_
    refine y_iconst (show decode cX11_bestAt 32 = .ok (.iconst (-1), 1) by decide +kernel) rfl ?_
    cases h
    exact y_iret (show decode cX11_bestAt 33 = .ok (.ireturn, 1) by decide +kernel) rfl
  · rw [if_neg c3] at h
    refine y_if_eq_f (show decode cX11_bestAt 4 = .ok (.ifCond .eq 28, 3) by decide +kernel) c3 (by decide) ?_
    refine y_iload_n (show decode cX11_bestAt 7 = .ok (.iload_n 2, 1) by decide +kernel) 2 rfl ?_
    refine y_aload_n (show decode cX11_bestAt 8 = .ok (.aload_n 0, 1) by decide +kernel) 0 rfl ?_
    obtain ⟨T4, c5, c6, h⟩ := chkT_some h
    refine y_getf 0 11 5 37 (by decide) rfl (by decide) (by decide) q3_32 (show decode cX11_bestAt 9 = .ok (.getfield 37, 3) by decide +kernel) (v := .inr (.inr (T4 + 1))) (by rw [← c6]; rfl) ?_
    refine y_getf T4 9 17 164 (by omega) (by rcases c5 with rfl | rfl <;> rfl) (by decide) (by decide) q2_23 (show decode cX11_bestAt 12 = .ok (.getfield 164, 3) by decide +kernel) (v := .inl (σ T4 17)) (by rcases c5 with rfl | rfl <;> rfl) ?_
    obtain ⟨r8, e7, h⟩ := bndO_some h
    refine y_callS (np := 2) (st := []) (as := [.inl b, .inl (σ T4 17)]) (sh_cE_isStroke e7) q4_164 q4_162 q4_163 q1_1 (by decide) (by decide +kernel) (by decide) rfl (Nat.le_of_ble_eq_true rfl) (show decode cX11_bestAt 15 = .ok (.invokestatic 132, 3) by decide +kernel) rfl ?_
    by_cases c9 : r8 = 0
    · rw [if_pos c9] at h
      refine y_if_eq_t (tgt := 32) (show decode cX11_bestAt 18 = .ok (.ifCond .eq 14, 3) by decide +kernel) rfl c9 ?_
      refine y_iconst (show decode cX11_bestAt 32 = .ok (.iconst (-1), 1) by decide +kernel) rfl ?_
      cases h
      exact y_iret (show decode cX11_bestAt 33 = .ok (.ireturn, 1) by decide +kernel) rfl
    · rw [if_neg c9] at h
      refine y_if_eq_f (show decode cX11_bestAt 18 = .ok (.ifCond .eq 14, 3) by decide +kernel) c9 (by decide) ?_
      refine y_aload_n (show decode cX11_bestAt 21 = .ok (.aload_n 0, 1) by decide +kernel) 0 rfl ?_
      obtain ⟨T10, c11, c12, h⟩ := chkT_some h
      refine y_getf 0 11 5 37 (by decide) rfl (by decide) (by decide) q3_32 (show decode cX11_bestAt 22 = .ok (.getfield 37, 3) by decide +kernel) (v := .inr (.inr (T10 + 1))) (by rw [← c12]; rfl) ?_
      refine y_iload_n (show decode cX11_bestAt 25 = .ok (.iload_n 3, 1) by decide +kernel) 3 rfl ?_
      obtain ⟨r14, e13, h⟩ := bndO_some h
      refine y_callV (np := 1) (st := []) (as := [.inl c]) T10 9 (sh_cTw_hasPerson e13) q5_93 q5_90 q5_91 q5_92 q1_5 (by omega) (by rcases c11 with rfl | rfl <;> rfl) (by decide) rfl (by decide) (by decide +kernel) (by decide) rfl (Nat.le_of_ble_eq_true rfl) (show decode cX11_bestAt 26 = .ok (.invokevirtual 167, 3) by decide +kernel) rfl ?_
      by_cases c15 : ¬ r14 = 0
      · rw [if_pos c15] at h
        refine y_if_ne_t (tgt := 34) (show decode cX11_bestAt 29 = .ok (.ifCond .ne 5, 3) by decide +kernel) rfl c15 ?_
        refine y_aload_n (show decode cX11_bestAt 34 = .ok (.aload_n 0, 1) by decide +kernel) 0 rfl ?_
        refine y_getf 0 11 2 71 (by decide) rfl (by decide) (by decide) q3_29 (show decode cX11_bestAt 35 = .ok (.getfield 71, 3) by decide +kernel) (v := .inr (.inr (58 + 1))) rfl ?_
        refine y_iload_n (show decode cX11_bestAt 38 = .ok (.iload_n 1, 1) by decide +kernel) 1 rfl ?_
        refine y_iload_n (show decode cX11_bestAt 39 = .ok (.iload_n 2, 1) by decide +kernel) 2 rfl ?_
        refine y_iload_n (show decode cX11_bestAt 40 = .ok (.iload_n 3, 1) by decide +kernel) 3 rfl ?_
        obtain ⟨r17, σ18, e16, h⟩ := bndR_some h
        refine y_callV (np := 3) (st := []) (as := [.inl a, .inl b, .inl c]) 58 0 (sh_cAn_bestPlace e16) q5_97 q5_94 q5_95 q5_96 q1_12 (by decide) rfl (by decide) rfl (by decide) (by decide +kernel) (by decide) rfl (Nat.le_of_ble_eq_true rfl) (show decode cX11_bestAt 41 = .ok (.invokevirtual 170, 3) by decide +kernel) rfl ?_
        cases h
        exact y_iret (show decode cX11_bestAt 44 = .ok (.ireturn, 1) by decide +kernel) rfl
      · rw [if_neg c15] at h
        refine y_if_ne_f (show decode cX11_bestAt 29 = .ok (.ifCond .ne 5, 3) by decide +kernel) c15 (by decide) ?_
        refine y_iconst (show decode cX11_bestAt 32 = .ok (.iconst (-1), 1) by decide +kernel) rfl ?_
        cases h
        exact y_iret (show decode cX11_bestAt 33 = .ok (.ireturn, 1) by decide +kernel) rfl
abbrev MX11_breaks : yM := (yX11_breaks, cX11_breaks, 3, some .int)
def cE_breaks (N : Nat) (a : Int) (b : Int) (σ : ySt) : Option (Int × ySt) :=
  bndO (cE_isSort a σ) fun r2 =>
  if r2 = 0 then
    some ((-1000000), σ)
  else
    if b < (-1) then
      some ((-1000000), σ)
    else
      if b ≤ 0 then
        bndO (cAn_findBreak N a σ) fun σ7 =>
        if ¬ b = 0 then
          chkA 3 a <|
          some ((σ7 72 (a).toNat), σ7)
        else
          chkA 3 a <|
          some ((σ7 73 (a).toNat), σ7)
      else
        some ((-1000000), σ)
set_option maxHeartbeats 4000000 in
set_option maxRecDepth 10000 in
theorem sh_cE_breaks {E : yE} {N : Nat} {a : Int} {b : Int} {σ : ySt} {ρ : Int} {τ : ySt} (h : cE_breaks N a b σ = some (ρ, τ)) : Con E MX11_breaks 6 0 0 [.inr (.inr (0 + 1)), .inl a, .inl b] 150 (ov σ) (some (.inl ρ)) (ov τ) := by
  unfold cE_breaks at h
  refine Con.ofY (by decide +kernel) (by simp [yWords, yCat]) (fun hok _ => ?_)
  show Y E MX11_breaks (yRm 6 0 0) (yQf E (150 + 0) 0 0 (some (.inl ρ)) (ov τ)) 0 [(0, .inr (.inr (0 + 1))), (1, .inl a), (2, .inl b)] [] (ov σ) 150 0 0
  refine y_iload_n (show decode cX11_breaks 0 = .ok (.iload_n 1, 1) by decide +kernel) 1 rfl ?_
  obtain ⟨r2, e1, h⟩ := bndO_some h
  refine y_callS (np := 1) (st := []) (as := [.inl a]) (sh_cE_isSort e1) q4_212 q4_210 q4_211 q1_1 (by decide) (by decide +kernel) (by decide) rfl (Nat.le_of_ble_eq_true rfl) (show decode cX11_breaks 1 = .ok (.invokestatic 152, 3) by decide +kernel) rfl ?_
  by_cases c3 : r2 = 0
  · rw [if_pos c3] at h
    refine y_if_eq_t (tgt := 16) (show decode cX11_breaks 4 = .ok (.ifCond .eq 12, 3) by decide +kernel) rfl c3 ?_
    refine y_ldc (k := -1000000) (show decode cX11_breaks 16 = .ok (.ldc 159, 2) by decide +kernel) q5_13 rfl rfl ?_
    cases h
    exact y_iret (show decode cX11_breaks 18 = .ok (.ireturn, 1) by decide +kernel) rfl
  · rw [if_neg c3] at h
    refine y_if_eq_f (show decode cX11_breaks 4 = .ok (.ifCond .eq 12, 3) by decide +kernel) c3 (by decide) ?_
    refine y_iload_n (show decode cX11_breaks 7 = .ok (.iload_n 2, 1) by decide +kernel) 2 rfl ?_
    refine y_iconst (show decode cX11_breaks 8 = .ok (.iconst (-1), 1) by decide +kernel) rfl ?_
    by_cases c4 : b < (-1)
    · rw [if_pos c4] at h
      refine y_icmp_lt_t (tgt := 16) (show decode cX11_breaks 9 = .ok (.if_icmp .lt 7, 3) by decide +kernel) rfl c4 ?_
      refine y_ldc (k := -1000000) (show decode cX11_breaks 16 = .ok (.ldc 159, 2) by decide +kernel) q5_13 rfl rfl ?_
      cases h
      exact y_iret (show decode cX11_breaks 18 = .ok (.ireturn, 1) by decide +kernel) rfl
    · rw [if_neg c4] at h
      refine y_icmp_lt_f (show decode cX11_breaks 9 = .ok (.if_icmp .lt 7, 3) by decide +kernel) c4 (by decide) ?_
      refine y_iload_n (show decode cX11_breaks 12 = .ok (.iload_n 2, 1) by decide +kernel) 2 rfl ?_
      by_cases c5 : b ≤ 0
      · rw [if_pos c5] at h
        refine y_if_le_t (tgt := 19) (show decode cX11_breaks 13 = .ok (.ifCond .le 6, 3) by decide +kernel) rfl c5 ?_
        refine y_aload_n (show decode cX11_breaks 19 = .ok (.aload_n 0, 1) by decide +kernel) 0 rfl ?_
        refine y_getf 0 11 2 71 (by decide) rfl (by decide) (by decide) q3_29 (show decode cX11_breaks 20 = .ok (.getfield 71, 3) by decide +kernel) (v := .inr (.inr (58 + 1))) rfl ?_
        refine y_iload_n (show decode cX11_breaks 23 = .ok (.iload_n 1, 1) by decide +kernel) 1 rfl ?_
        obtain ⟨σ7, e6, h⟩ := bndO_some h
        refine y_callV (np := 1) (st := []) (as := [.inl a]) 58 0 (sh_cAn_findBreak e6) q5_106 q5_103 q5_104 q5_105 q1_12 (by decide) rfl (by decide) rfl (by decide) (by decide +kernel) (by decide) rfl (Nat.le_of_ble_eq_true rfl) (show decode cX11_breaks 24 = .ok (.invokevirtual 174, 3) by decide +kernel) rfl ?_
        refine y_iload_n (show decode cX11_breaks 27 = .ok (.iload_n 2, 1) by decide +kernel) 2 rfl ?_
        by_cases c8 : ¬ b = 0
        · rw [if_pos c8] at h
          refine y_if_ne_t (tgt := 43) (show decode cX11_breaks 28 = .ok (.ifCond .ne 15, 3) by decide +kernel) rfl c8 ?_
          refine y_aload_n (show decode cX11_breaks 43 = .ok (.aload_n 0, 1) by decide +kernel) 0 rfl ?_
          refine y_getf 0 11 2 71 (by decide) rfl (by decide) (by decide) q3_29 (show decode cX11_breaks 44 = .ok (.getfield 71, 3) by decide +kernel) (v := .inr (.inr (58 + 1))) rfl ?_
          refine y_getf 58 0 7 180 (by decide) rfl (by decide) (by decide) q2_225 (show decode cX11_breaks 47 = .ok (.getfield 180, 3) by decide +kernel) (v := .inr (.inr (72 + 1))) rfl ?_
          refine y_iload_n (show decode cX11_breaks 50 = .ok (.iload_n 1, 1) by decide +kernel) 1 rfl ?_
          obtain ⟨c9, h⟩ := chkA_some h
          refine yo_iald 72 3 (by decide) rfl c9 (ov_at rfl) (show decode cX11_breaks 51 = .ok (.iaload, 1) by decide +kernel) ?_
          cases h
          exact y_iret (show decode cX11_breaks 52 = .ok (.ireturn, 1) by decide +kernel) rfl
        · rw [if_neg c8] at h
          refine y_if_ne_f (show decode cX11_breaks 28 = .ok (.ifCond .ne 15, 3) by decide +kernel) c8 (by decide) ?_
          refine y_aload_n (show decode cX11_breaks 31 = .ok (.aload_n 0, 1) by decide +kernel) 0 rfl ?_
          refine y_getf 0 11 2 71 (by decide) rfl (by decide) (by decide) q3_29 (show decode cX11_breaks 32 = .ok (.getfield 71, 3) by decide +kernel) (v := .inr (.inr (58 + 1))) rfl ?_
          refine y_getf 58 0 8 177 (by decide) rfl (by decide) (by decide) q2_227 (show decode cX11_breaks 35 = .ok (.getfield 177, 3) by decide +kernel) (v := .inr (.inr (73 + 1))) rfl ?_
          refine y_iload_n (show decode cX11_breaks 38 = .ok (.iload_n 1, 1) by decide +kernel) 1 rfl ?_
          obtain ⟨c10, h⟩ := chkA_some h
          refine yo_iald 73 3 (by decide) rfl c10 (ov_at rfl) (show decode cX11_breaks 39 = .ok (.iaload, 1) by decide +kernel) ?_
          refine y_goto (tgt := 52) (show decode cX11_breaks 40 = .ok (.goto 12, 3) by decide +kernel) rfl ?_
          cases h
          exact y_iret (show decode cX11_breaks 52 = .ok (.ireturn, 1) by decide +kernel) rfl
      · rw [if_neg c5] at h
        refine y_if_le_f (show decode cX11_breaks 13 = .ok (.ifCond .le 6, 3) by decide +kernel) c5 (by decide) ?_
        refine y_ldc (k := -1000000) (show decode cX11_breaks 16 = .ok (.ldc 159, 2) by decide +kernel) q5_13 rfl rfl ?_
        cases h
        exact y_iret (show decode cX11_breaks 18 = .ok (.ireturn, 1) by decide +kernel) rfl
abbrev MX11_spare : yM := (yX11_spare, cX11_spare, 3, some .int)
def cE_spare (N : Nat) (a : Int) (b : Int) (σ : ySt) : Option (Int × ySt) :=
  bndO (cE_isSort b σ) fun r2 =>
  if r2 = 0 then
    some ((-1000000), σ)
  else
    chkT (σ 0 5) fun T4 =>
    bndO (cTw_hasPlace T4 a σ) fun r8 =>
    if r8 = 0 then
      some ((-1000000), σ)
    else
      bndR (cAn_spareWorth N a b σ) fun r11 σ12 =>
      some (r11, σ12)
set_option maxHeartbeats 4000000 in
set_option maxRecDepth 10000 in
theorem sh_cE_spare {E : yE} {N : Nat} {a : Int} {b : Int} {σ : ySt} {ρ : Int} {τ : ySt} (h : cE_spare N a b σ = some (ρ, τ)) : Con E MX11_spare 6 0 0 [.inr (.inr (0 + 1)), .inl a, .inl b] 150 (ov σ) (some (.inl ρ)) (ov τ) := by
  unfold cE_spare at h
  refine Con.ofY (by decide +kernel) (by simp [yWords, yCat]) (fun hok _ => ?_)
  show Y E MX11_spare (yRm 6 0 0) (yQf E (150 + 0) 0 0 (some (.inl ρ)) (ov τ)) 0 [(0, .inr (.inr (0 + 1))), (1, .inl a), (2, .inl b)] [] (ov σ) 150 0 0
  refine y_iload_n (show decode cX11_spare 0 = .ok (.iload_n 2, 1) by decide +kernel) 2 rfl ?_
  obtain ⟨r2, e1, h⟩ := bndO_some h
  refine y_callS (np := 1) (st := []) (as := [.inl b]) (sh_cE_isSort e1) q4_212 q4_210 q4_211 q1_1 (by decide) (by decide +kernel) (by decide) rfl (Nat.le_of_ble_eq_true rfl) (show decode cX11_spare 1 = .ok (.invokestatic 152, 3) by decide +kernel) rfl ?_
  by_cases c3 : r2 = 0
  · rw [if_pos c3] at h
    refine y_if_eq_t (tgt := 30) (show decode cX11_spare 4 = .ok (.ifCond .eq 26, 3) by decide +kernel) rfl c3 ?_
    refine y_ldc (k := -1000000) (show decode cX11_spare 30 = .ok (.ldc 159, 2) by decide +kernel) q5_13 rfl rfl ?_
    cases h
    exact y_iret (show decode cX11_spare 32 = .ok (.ireturn, 1) by decide +kernel) rfl
  · rw [if_neg c3] at h
    refine y_if_eq_f (show decode cX11_spare 4 = .ok (.ifCond .eq 26, 3) by decide +kernel) c3 (by decide) ?_
    refine y_aload_n (show decode cX11_spare 7 = .ok (.aload_n 0, 1) by decide +kernel) 0 rfl ?_
    obtain ⟨T4, c5, c6, h⟩ := chkT_some h
    refine y_getf 0 11 5 37 (by decide) rfl (by decide) (by decide) q3_32 (show decode cX11_spare 8 = .ok (.getfield 37, 3) by decide +kernel) (v := .inr (.inr (T4 + 1))) (by rw [← c6]; rfl) ?_
    refine y_iload_n (show decode cX11_spare 11 = .ok (.iload_n 1, 1) by decide +kernel) 1 rfl ?_
    obtain ⟨r8, e7, h⟩ := bndO_some h
    refine y_callV (np := 1) (st := []) (as := [.inl a]) T4 9 (sh_cTw_hasPlace e7) q4_156 q4_153 q4_154 q4_155 q1_5 (by omega) (by rcases c5 with rfl | rfl <;> rfl) (by decide) rfl (by decide) (by decide +kernel) (by decide) rfl (Nat.le_of_ble_eq_true rfl) (show decode cX11_spare 12 = .ok (.invokevirtual 124, 3) by decide +kernel) rfl ?_
    by_cases c9 : r8 = 0
    · rw [if_pos c9] at h
      refine y_if_eq_t (tgt := 30) (show decode cX11_spare 15 = .ok (.ifCond .eq 15, 3) by decide +kernel) rfl c9 ?_
      refine y_ldc (k := -1000000) (show decode cX11_spare 30 = .ok (.ldc 159, 2) by decide +kernel) q5_13 rfl rfl ?_
      cases h
      exact y_iret (show decode cX11_spare 32 = .ok (.ireturn, 1) by decide +kernel) rfl
    · rw [if_neg c9] at h
      refine y_if_eq_f (show decode cX11_spare 15 = .ok (.ifCond .eq 15, 3) by decide +kernel) c9 (by decide) ?_
      refine y_aload_n (show decode cX11_spare 18 = .ok (.aload_n 0, 1) by decide +kernel) 0 rfl ?_
      refine y_getf 0 11 2 71 (by decide) rfl (by decide) (by decide) q3_29 (show decode cX11_spare 19 = .ok (.getfield 71, 3) by decide +kernel) (v := .inr (.inr (58 + 1))) rfl ?_
      refine y_iload_n (show decode cX11_spare 22 = .ok (.iload_n 1, 1) by decide +kernel) 1 rfl ?_
      refine y_iload_n (show decode cX11_spare 23 = .ok (.iload_n 2, 1) by decide +kernel) 2 rfl ?_
      obtain ⟨r11, σ12, e10, h⟩ := bndR_some h
      refine y_callV (np := 2) (st := []) (as := [.inl a, .inl b]) 58 0 (sh_cAn_spareWorth e10) q5_118 q5_115 q5_116 q5_117 q1_12 (by decide) rfl (by decide) rfl (by decide) (by decide +kernel) (by decide) rfl (Nat.le_of_ble_eq_true rfl) (show decode cX11_spare 24 = .ok (.invokevirtual 183, 3) by decide +kernel) rfl ?_
      refine y_goto (tgt := 32) (show decode cX11_spare 27 = .ok (.goto 5, 3) by decide +kernel) rfl ?_
      cases h
      exact y_iret (show decode cX11_spare 32 = .ok (.ireturn, 1) by decide +kernel) rfl
abbrev MX11_often : yM := (yX11_often, cX11_often, 3, some .int)
def cE_often (N : Nat) (a : Int) (b : Int) (σ : ySt) : Option (Int × ySt) :=
  bndO (cE_isSort b σ) fun r2 =>
  if r2 = 0 then
    some ((-1000000), σ)
  else
    if a < 2 then
      some ((-1000000), σ)
    else
      if a > 8 then
        some ((-1000000), σ)
      else
        bndR (cAn_oftenWorth N a b σ) fun r7 σ8 =>
        some (r7, σ8)
set_option maxHeartbeats 4000000 in
set_option maxRecDepth 10000 in
theorem sh_cE_often {E : yE} {N : Nat} {a : Int} {b : Int} {σ : ySt} {ρ : Int} {τ : ySt} (h : cE_often N a b σ = some (ρ, τ)) : Con E MX11_often 6 0 0 [.inr (.inr (0 + 1)), .inl a, .inl b] 150 (ov σ) (some (.inl ρ)) (ov τ) := by
  unfold cE_often at h
  refine Con.ofY (by decide +kernel) (by simp [yWords, yCat]) (fun hok _ => ?_)
  show Y E MX11_often (yRm 6 0 0) (yQf E (150 + 0) 0 0 (some (.inl ρ)) (ov τ)) 0 [(0, .inr (.inr (0 + 1))), (1, .inl a), (2, .inl b)] [] (ov σ) 150 0 0
  refine y_iload_n (show decode cX11_often 0 = .ok (.iload_n 2, 1) by decide +kernel) 2 rfl ?_
  obtain ⟨r2, e1, h⟩ := bndO_some h
  refine y_callS (np := 1) (st := []) (as := [.inl b]) (sh_cE_isSort e1) q4_212 q4_210 q4_211 q1_1 (by decide) (by decide +kernel) (by decide) rfl (Nat.le_of_ble_eq_true rfl) (show decode cX11_often 1 = .ok (.invokestatic 152, 3) by decide +kernel) rfl ?_
  by_cases c3 : r2 = 0
  · rw [if_pos c3] at h
    refine y_if_eq_t (tgt := 30) (show decode cX11_often 4 = .ok (.ifCond .eq 26, 3) by decide +kernel) rfl c3 ?_
    refine y_ldc (k := -1000000) (show decode cX11_often 30 = .ok (.ldc 159, 2) by decide +kernel) q5_13 rfl rfl ?_
    cases h
    exact y_iret (show decode cX11_often 32 = .ok (.ireturn, 1) by decide +kernel) rfl
  · rw [if_neg c3] at h
    refine y_if_eq_f (show decode cX11_often 4 = .ok (.ifCond .eq 26, 3) by decide +kernel) c3 (by decide) ?_
    refine y_iload_n (show decode cX11_often 7 = .ok (.iload_n 1, 1) by decide +kernel) 1 rfl ?_
    refine y_iconst (show decode cX11_often 8 = .ok (.iconst 2, 1) by decide +kernel) rfl ?_
    by_cases c4 : a < 2
    · rw [if_pos c4] at h
      refine y_icmp_lt_t (tgt := 30) (show decode cX11_often 9 = .ok (.if_icmp .lt 21, 3) by decide +kernel) rfl c4 ?_
      refine y_ldc (k := -1000000) (show decode cX11_often 30 = .ok (.ldc 159, 2) by decide +kernel) q5_13 rfl rfl ?_
      cases h
      exact y_iret (show decode cX11_often 32 = .ok (.ireturn, 1) by decide +kernel) rfl
    · rw [if_neg c4] at h
      refine y_icmp_lt_f (show decode cX11_often 9 = .ok (.if_icmp .lt 21, 3) by decide +kernel) c4 (by decide) ?_
      refine y_iload_n (show decode cX11_often 12 = .ok (.iload_n 1, 1) by decide +kernel) 1 rfl ?_
      refine y_bipush (show decode cX11_often 13 = .ok (.bipush 8, 2) by decide +kernel) rfl rfl ?_
      by_cases c5 : a > 8
      · rw [if_pos c5] at h
        refine y_icmp_gt_t (tgt := 30) (show decode cX11_often 15 = .ok (.if_icmp .gt 15, 3) by decide +kernel) rfl c5 ?_
        refine y_ldc (k := -1000000) (show decode cX11_often 30 = .ok (.ldc 159, 2) by decide +kernel) q5_13 rfl rfl ?_
        cases h
        exact y_iret (show decode cX11_often 32 = .ok (.ireturn, 1) by decide +kernel) rfl
      · rw [if_neg c5] at h
        refine y_icmp_gt_f (show decode cX11_often 15 = .ok (.if_icmp .gt 15, 3) by decide +kernel) c5 (by decide) ?_
        refine y_aload_n (show decode cX11_often 18 = .ok (.aload_n 0, 1) by decide +kernel) 0 rfl ?_
        refine y_getf 0 11 2 71 (by decide) rfl (by decide) (by decide) q3_29 (show decode cX11_often 19 = .ok (.getfield 71, 3) by decide +kernel) (v := .inr (.inr (58 + 1))) rfl ?_
        refine y_iload_n (show decode cX11_often 22 = .ok (.iload_n 1, 1) by decide +kernel) 1 rfl ?_
        refine y_iload_n (show decode cX11_often 23 = .ok (.iload_n 2, 1) by decide +kernel) 2 rfl ?_
        obtain ⟨r7, σ8, e6, h⟩ := bndR_some h
        refine y_callV (np := 2) (st := []) (as := [.inl a, .inl b]) 58 0 (sh_cAn_oftenWorth e6) q5_130 q5_127 q5_128 q5_129 q1_12 (by decide) rfl (by decide) rfl (by decide) (by decide +kernel) (by decide) rfl (Nat.le_of_ble_eq_true rfl) (show decode cX11_often 24 = .ok (.invokevirtual 187, 3) by decide +kernel) rfl ?_
        refine y_goto (tgt := 32) (show decode cX11_often 27 = .ok (.goto 5, 3) by decide +kernel) rfl ?_
        cases h
        exact y_iret (show decode cX11_often 32 = .ok (.ireturn, 1) by decide +kernel) rfl
abbrev MX11_built : yM := (yX11_built, cX11_built, 4, some .int)
def cE_built (N : Nat) (a : Int) (b : Int) (c : Int) (σ : ySt) : Option (Int × ySt) :=
  bndO (cE_isSort b σ) fun r2 =>
  if r2 = 0 then
    some ((-1000000), σ)
  else
    if a < 1 then
      some ((-1000000), σ)
    else
      if a > 999 then
        some ((-1000000), σ)
      else
        if c < (-1) then
          some ((-1000000), σ)
        else
          if c ≤ 0 then
            bndO (cAn_findBuilt N a b σ) fun σ9 =>
            if ¬ c = 0 then
              chkA 3 b <|
              some ((σ9 75 (b).toNat), σ9)
            else
              chkA 3 b <|
              some ((σ9 76 (b).toNat), σ9)
          else
            some ((-1000000), σ)
set_option maxHeartbeats 4000000 in
set_option maxRecDepth 10000 in
theorem sh_cE_built {E : yE} {N : Nat} {a : Int} {b : Int} {c : Int} {σ : ySt} {ρ : Int} {τ : ySt} (h : cE_built N a b c σ = some (ρ, τ)) : Con E MX11_built 7 0 0 [.inr (.inr (0 + 1)), .inl a, .inl b, .inl c] 150 (ov σ) (some (.inl ρ)) (ov τ) := by
  unfold cE_built at h
  refine Con.ofY (by decide +kernel) (by simp [yWords, yCat]) (fun hok _ => ?_)
  show Y E MX11_built (yRm 7 0 0) (yQf E (150 + 0) 0 0 (some (.inl ρ)) (ov τ)) 0 [(0, .inr (.inr (0 + 1))), (1, .inl a), (2, .inl b), (3, .inl c)] [] (ov σ) 150 0 0
  refine y_iload_n (show decode cX11_built 0 = .ok (.iload_n 2, 1) by decide +kernel) 2 rfl ?_
  obtain ⟨r2, e1, h⟩ := bndO_some h
  refine y_callS (np := 1) (st := []) (as := [.inl b]) (sh_cE_isSort e1) q4_212 q4_210 q4_211 q1_1 (by decide) (by decide +kernel) (by decide) rfl (Nat.le_of_ble_eq_true rfl) (show decode cX11_built 1 = .ok (.invokestatic 152, 3) by decide +kernel) rfl ?_
  by_cases c3 : r2 = 0
  · rw [if_pos c3] at h
    refine y_if_eq_t (tgt := 28) (show decode cX11_built 4 = .ok (.ifCond .eq 24, 3) by decide +kernel) rfl c3 ?_
    refine y_ldc (k := -1000000) (show decode cX11_built 28 = .ok (.ldc 159, 2) by decide +kernel) q5_13 rfl rfl ?_
    cases h
    exact y_iret (show decode cX11_built 30 = .ok (.ireturn, 1) by decide +kernel) rfl
  · rw [if_neg c3] at h
    refine y_if_eq_f (show decode cX11_built 4 = .ok (.ifCond .eq 24, 3) by decide +kernel) c3 (by decide) ?_
    refine y_iload_n (show decode cX11_built 7 = .ok (.iload_n 1, 1) by decide +kernel) 1 rfl ?_
    refine y_iconst (show decode cX11_built 8 = .ok (.iconst 1, 1) by decide +kernel) rfl ?_
    by_cases c4 : a < 1
    · rw [if_pos c4] at h
      refine y_icmp_lt_t (tgt := 28) (show decode cX11_built 9 = .ok (.if_icmp .lt 19, 3) by decide +kernel) rfl c4 ?_
      refine y_ldc (k := -1000000) (show decode cX11_built 28 = .ok (.ldc 159, 2) by decide +kernel) q5_13 rfl rfl ?_
      cases h
      exact y_iret (show decode cX11_built 30 = .ok (.ireturn, 1) by decide +kernel) rfl
    · rw [if_neg c4] at h
      refine y_icmp_lt_f (show decode cX11_built 9 = .ok (.if_icmp .lt 19, 3) by decide +kernel) c4 (by decide) ?_
      refine y_iload_n (show decode cX11_built 12 = .ok (.iload_n 1, 1) by decide +kernel) 1 rfl ?_
      refine y_sipush (show decode cX11_built 13 = .ok (.sipush 999, 3) by decide +kernel) rfl rfl ?_
      by_cases c5 : a > 999
      · rw [if_pos c5] at h
        refine y_icmp_gt_t (tgt := 28) (show decode cX11_built 16 = .ok (.if_icmp .gt 12, 3) by decide +kernel) rfl c5 ?_
        refine y_ldc (k := -1000000) (show decode cX11_built 28 = .ok (.ldc 159, 2) by decide +kernel) q5_13 rfl rfl ?_
        cases h
        exact y_iret (show decode cX11_built 30 = .ok (.ireturn, 1) by decide +kernel) rfl
      · rw [if_neg c5] at h
        refine y_icmp_gt_f (show decode cX11_built 16 = .ok (.if_icmp .gt 12, 3) by decide +kernel) c5 (by decide) ?_
        refine y_iload_n (show decode cX11_built 19 = .ok (.iload_n 3, 1) by decide +kernel) 3 rfl ?_
        refine y_iconst (show decode cX11_built 20 = .ok (.iconst (-1), 1) by decide +kernel) rfl ?_
        by_cases c6 : c < (-1)
        · rw [if_pos c6] at h
          refine y_icmp_lt_t (tgt := 28) (show decode cX11_built 21 = .ok (.if_icmp .lt 7, 3) by decide +kernel) rfl c6 ?_
          refine y_ldc (k := -1000000) (show decode cX11_built 28 = .ok (.ldc 159, 2) by decide +kernel) q5_13 rfl rfl ?_
          cases h
          exact y_iret (show decode cX11_built 30 = .ok (.ireturn, 1) by decide +kernel) rfl
        · rw [if_neg c6] at h
          refine y_icmp_lt_f (show decode cX11_built 21 = .ok (.if_icmp .lt 7, 3) by decide +kernel) c6 (by decide) ?_
          refine y_iload_n (show decode cX11_built 24 = .ok (.iload_n 3, 1) by decide +kernel) 3 rfl ?_
          by_cases c7 : c ≤ 0
          · rw [if_pos c7] at h
            refine y_if_le_t (tgt := 31) (show decode cX11_built 25 = .ok (.ifCond .le 6, 3) by decide +kernel) rfl c7 ?_
            refine y_aload_n (show decode cX11_built 31 = .ok (.aload_n 0, 1) by decide +kernel) 0 rfl ?_
            refine y_getf 0 11 2 71 (by decide) rfl (by decide) (by decide) q3_29 (show decode cX11_built 32 = .ok (.getfield 71, 3) by decide +kernel) (v := .inr (.inr (58 + 1))) rfl ?_
            refine y_iload_n (show decode cX11_built 35 = .ok (.iload_n 1, 1) by decide +kernel) 1 rfl ?_
            refine y_iload_n (show decode cX11_built 36 = .ok (.iload_n 2, 1) by decide +kernel) 2 rfl ?_
            obtain ⟨σ9, e8, h⟩ := bndO_some h
            refine y_callV (np := 2) (st := []) (as := [.inl a, .inl b]) 58 0 (sh_cAn_findBuilt e8) q5_138 q5_135 q5_136 q5_137 q1_12 (by decide) rfl (by decide) rfl (by decide) (by decide +kernel) (by decide) rfl (Nat.le_of_ble_eq_true rfl) (show decode cX11_built 37 = .ok (.invokevirtual 190, 3) by decide +kernel) rfl ?_
            refine y_iload_n (show decode cX11_built 40 = .ok (.iload_n 3, 1) by decide +kernel) 3 rfl ?_
            by_cases c10 : ¬ c = 0
            · rw [if_pos c10] at h
              refine y_if_ne_t (tgt := 56) (show decode cX11_built 41 = .ok (.ifCond .ne 15, 3) by decide +kernel) rfl c10 ?_
              refine y_aload_n (show decode cX11_built 56 = .ok (.aload_n 0, 1) by decide +kernel) 0 rfl ?_
              refine y_getf 0 11 2 71 (by decide) rfl (by decide) (by decide) q3_29 (show decode cX11_built 57 = .ok (.getfield 71, 3) by decide +kernel) (v := .inr (.inr (58 + 1))) rfl ?_
              refine y_getf 58 0 10 197 (by decide) rfl (by decide) (by decide) q2_230 (show decode cX11_built 60 = .ok (.getfield 197, 3) by decide +kernel) (v := .inr (.inr (75 + 1))) rfl ?_
              refine y_iload_n (show decode cX11_built 63 = .ok (.iload_n 2, 1) by decide +kernel) 2 rfl ?_
              obtain ⟨c11, h⟩ := chkA_some h
              refine yo_iald 75 3 (by decide) rfl c11 (ov_at rfl) (show decode cX11_built 64 = .ok (.iaload, 1) by decide +kernel) ?_
              cases h
              exact y_iret (show decode cX11_built 65 = .ok (.ireturn, 1) by decide +kernel) rfl
            · rw [if_neg c10] at h
              refine y_if_ne_f (show decode cX11_built 41 = .ok (.ifCond .ne 15, 3) by decide +kernel) c10 (by decide) ?_
              refine y_aload_n (show decode cX11_built 44 = .ok (.aload_n 0, 1) by decide +kernel) 0 rfl ?_
              refine y_getf 0 11 2 71 (by decide) rfl (by decide) (by decide) q3_29 (show decode cX11_built 45 = .ok (.getfield 71, 3) by decide +kernel) (v := .inr (.inr (58 + 1))) rfl ?_
              refine y_getf 58 0 11 194 (by decide) rfl (by decide) (by decide) q2_232 (show decode cX11_built 48 = .ok (.getfield 194, 3) by decide +kernel) (v := .inr (.inr (76 + 1))) rfl ?_
              refine y_iload_n (show decode cX11_built 51 = .ok (.iload_n 2, 1) by decide +kernel) 2 rfl ?_
              obtain ⟨c12, h⟩ := chkA_some h
              refine yo_iald 76 3 (by decide) rfl c12 (ov_at rfl) (show decode cX11_built 52 = .ok (.iaload, 1) by decide +kernel) ?_
              refine y_goto (tgt := 65) (show decode cX11_built 53 = .ok (.goto 12, 3) by decide +kernel) rfl ?_
              cases h
              exact y_iret (show decode cX11_built 65 = .ok (.ireturn, 1) by decide +kernel) rfl
          · rw [if_neg c7] at h
            refine y_if_le_f (show decode cX11_built 25 = .ok (.ifCond .le 6, 3) by decide +kernel) c7 (by decide) ?_
            refine y_ldc (k := -1000000) (show decode cX11_built 28 = .ok (.ldc 159, 2) by decide +kernel) q5_13 rfl rfl ?_
            cases h
            exact y_iret (show decode cX11_built 30 = .ok (.ireturn, 1) by decide +kernel) rfl
abbrev MX11_meet : yM := (yX11_meet, cX11_meet, 4, some .int)
def cE_meet (N : Nat) (a : Int) (b : Int) (c : Int) (σ : ySt) : Option (Int × ySt) :=
  chkT (σ 0 5) fun T1 =>
  bndO (cTw_hasPerson T1 a σ) fun r5 =>
  if r5 = 0 then
    some ((-1), σ)
  else
    chkT (σ 0 5) fun T7 =>
    bndO (cTw_hasPerson T7 b σ) fun r11 =>
    if r11 = 0 then
      some ((-1), σ)
    else
      if a = b then
        some ((-1), σ)
      else
        chkT (σ 0 5) fun T14 =>
        bndO (cTw_hasPlace T14 c σ) fun r18 =>
        if ¬ r18 = 0 then
          bndR (cAn_firstMeeting N a b c σ) fun r21 σ22 =>
          some (r21, σ22)
        else
          some ((-1), σ)
set_option maxHeartbeats 4000000 in
set_option maxRecDepth 10000 in
theorem sh_cE_meet {E : yE} {N : Nat} {a : Int} {b : Int} {c : Int} {σ : ySt} {ρ : Int} {τ : ySt} (h : cE_meet N a b c σ = some (ρ, τ)) : Con E MX11_meet 7 0 0 [.inr (.inr (0 + 1)), .inl a, .inl b, .inl c] 150 (ov σ) (some (.inl ρ)) (ov τ) := by
  unfold cE_meet at h
  refine Con.ofY (by decide +kernel) (by simp [yWords, yCat]) (fun hok _ => ?_)
  show Y E MX11_meet (yRm 7 0 0) (yQf E (150 + 0) 0 0 (some (.inl ρ)) (ov τ)) 0 [(0, .inr (.inr (0 + 1))), (1, .inl a), (2, .inl b), (3, .inl c)] [] (ov σ) 150 0 0
  refine y_aload_n (show decode cX11_meet 0 = .ok (.aload_n 0, 1) by decide +kernel) 0 rfl ?_
  obtain ⟨T1, c2, c3, h⟩ := chkT_some h
  refine y_getf 0 11 5 37 (by decide) rfl (by decide) (by decide) q3_32 (show decode cX11_meet 1 = .ok (.getfield 37, 3) by decide +kernel) (v := .inr (.inr (T1 + 1))) (by rw [← c3]; rfl) ?_
  refine y_iload_n (show decode cX11_meet 4 = .ok (.iload_n 1, 1) by decide +kernel) 1 rfl ?_
  obtain ⟨r5, e4, h⟩ := bndO_some h
  refine y_callV (np := 1) (st := []) (as := [.inl a]) T1 9 (sh_cTw_hasPerson e4) q5_93 q5_90 q5_91 q5_92 q1_5 (by omega) (by rcases c2 with rfl | rfl <;> rfl) (by decide) rfl (by decide) (by decide +kernel) (by decide) rfl (Nat.le_of_ble_eq_true rfl) (show decode cX11_meet 5 = .ok (.invokevirtual 167, 3) by decide +kernel) rfl ?_
  by_cases c6 : r5 = 0
  · rw [if_pos c6] at h
    refine y_if_eq_t (tgt := 38) (show decode cX11_meet 8 = .ok (.ifCond .eq 30, 3) by decide +kernel) rfl c6 ?_
    refine y_iconst (show decode cX11_meet 38 = .ok (.iconst (-1), 1) by decide +kernel) rfl ?_
    cases h
    exact y_iret (show decode cX11_meet 39 = .ok (.ireturn, 1) by decide +kernel) rfl
  · rw [if_neg c6] at h
    refine y_if_eq_f (show decode cX11_meet 8 = .ok (.ifCond .eq 30, 3) by decide +kernel) c6 (by decide) ?_
    refine y_aload_n (show decode cX11_meet 11 = .ok (.aload_n 0, 1) by decide +kernel) 0 rfl ?_
    obtain ⟨T7, c8, c9, h⟩ := chkT_some h
    refine y_getf 0 11 5 37 (by decide) rfl (by decide) (by decide) q3_32 (show decode cX11_meet 12 = .ok (.getfield 37, 3) by decide +kernel) (v := .inr (.inr (T7 + 1))) (by rw [← c9]; rfl) ?_
    refine y_iload_n (show decode cX11_meet 15 = .ok (.iload_n 2, 1) by decide +kernel) 2 rfl ?_
    obtain ⟨r11, e10, h⟩ := bndO_some h
    refine y_callV (np := 1) (st := []) (as := [.inl b]) T7 9 (sh_cTw_hasPerson e10) q5_93 q5_90 q5_91 q5_92 q1_5 (by omega) (by rcases c8 with rfl | rfl <;> rfl) (by decide) rfl (by decide) (by decide +kernel) (by decide) rfl (Nat.le_of_ble_eq_true rfl) (show decode cX11_meet 16 = .ok (.invokevirtual 167, 3) by decide +kernel) rfl ?_
    by_cases c12 : r11 = 0
    · rw [if_pos c12] at h
      refine y_if_eq_t (tgt := 38) (show decode cX11_meet 19 = .ok (.ifCond .eq 19, 3) by decide +kernel) rfl c12 ?_
      refine y_iconst (show decode cX11_meet 38 = .ok (.iconst (-1), 1) by decide +kernel) rfl ?_
      cases h
      exact y_iret (show decode cX11_meet 39 = .ok (.ireturn, 1) by decide +kernel) rfl
    · rw [if_neg c12] at h
      refine y_if_eq_f (show decode cX11_meet 19 = .ok (.ifCond .eq 19, 3) by decide +kernel) c12 (by decide) ?_
      refine y_iload_n (show decode cX11_meet 22 = .ok (.iload_n 1, 1) by decide +kernel) 1 rfl ?_
      refine y_iload_n (show decode cX11_meet 23 = .ok (.iload_n 2, 1) by decide +kernel) 2 rfl ?_
      by_cases c13 : a = b
      · rw [if_pos c13] at h
        refine y_icmp_eq_t (tgt := 38) (show decode cX11_meet 24 = .ok (.if_icmp .eq 14, 3) by decide +kernel) rfl c13 ?_
        refine y_iconst (show decode cX11_meet 38 = .ok (.iconst (-1), 1) by decide +kernel) rfl ?_
        cases h
        exact y_iret (show decode cX11_meet 39 = .ok (.ireturn, 1) by decide +kernel) rfl
      · rw [if_neg c13] at h
        refine y_icmp_eq_f (show decode cX11_meet 24 = .ok (.if_icmp .eq 14, 3) by decide +kernel) c13 (by decide) ?_
        refine y_aload_n (show decode cX11_meet 27 = .ok (.aload_n 0, 1) by decide +kernel) 0 rfl ?_
        obtain ⟨T14, c15, c16, h⟩ := chkT_some h
        refine y_getf 0 11 5 37 (by decide) rfl (by decide) (by decide) q3_32 (show decode cX11_meet 28 = .ok (.getfield 37, 3) by decide +kernel) (v := .inr (.inr (T14 + 1))) (by rw [← c16]; rfl) ?_
        refine y_iload_n (show decode cX11_meet 31 = .ok (.iload_n 3, 1) by decide +kernel) 3 rfl ?_
        obtain ⟨r18, e17, h⟩ := bndO_some h
        refine y_callV (np := 1) (st := []) (as := [.inl c]) T14 9 (sh_cTw_hasPlace e17) q4_156 q4_153 q4_154 q4_155 q1_5 (by omega) (by rcases c15 with rfl | rfl <;> rfl) (by decide) rfl (by decide) (by decide +kernel) (by decide) rfl (Nat.le_of_ble_eq_true rfl) (show decode cX11_meet 32 = .ok (.invokevirtual 124, 3) by decide +kernel) rfl ?_
        by_cases c19 : ¬ r18 = 0
        · rw [if_pos c19] at h
          refine y_if_ne_t (tgt := 40) (show decode cX11_meet 35 = .ok (.ifCond .ne 5, 3) by decide +kernel) rfl c19 ?_
          refine y_aload_n (show decode cX11_meet 40 = .ok (.aload_n 0, 1) by decide +kernel) 0 rfl ?_
          refine y_getf 0 11 2 71 (by decide) rfl (by decide) (by decide) q3_29 (show decode cX11_meet 41 = .ok (.getfield 71, 3) by decide +kernel) (v := .inr (.inr (58 + 1))) rfl ?_
          refine y_iload_n (show decode cX11_meet 44 = .ok (.iload_n 1, 1) by decide +kernel) 1 rfl ?_
          refine y_iload_n (show decode cX11_meet 45 = .ok (.iload_n 2, 1) by decide +kernel) 2 rfl ?_
          refine y_iload_n (show decode cX11_meet 46 = .ok (.iload_n 3, 1) by decide +kernel) 3 rfl ?_
          refine y_aload_n (show decode cX11_meet 47 = .ok (.aload_n 0, 1) by decide +kernel) 0 rfl ?_
          refine y_getf 0 11 1 19 (by decide) rfl (by decide) (by decide) q3_28 (show decode cX11_meet 48 = .ok (.getfield 19, 3) by decide +kernel) (v := .inr (.inr (3 + 1))) rfl ?_
          obtain ⟨r21, σ22, e20, h⟩ := bndR_some h
          refine y_callV (np := 4) (st := []) (as := [.inl a, .inl b, .inl c, .inr (.inr (3 + 1))]) 58 0 (sh_cAn_firstMeeting e20) q5_151 q5_148 q5_149 q5_150 q1_12 (by decide) rfl (by decide) rfl (by decide) (by decide +kernel) (by decide) rfl (Nat.le_of_ble_eq_true rfl) (show decode cX11_meet 51 = .ok (.invokevirtual 200, 3) by decide +kernel) rfl ?_
          cases h
          exact y_iret (show decode cX11_meet 54 = .ok (.ireturn, 1) by decide +kernel) rfl
        · rw [if_neg c19] at h
          refine y_if_ne_f (show decode cX11_meet 35 = .ok (.ifCond .ne 5, 3) by decide +kernel) c19 (by decide) ?_
          refine y_iconst (show decode cX11_meet 38 = .ok (.iconst (-1), 1) by decide +kernel) rfl ?_
          cases h
          exact y_iret (show decode cX11_meet 39 = .ok (.ireturn, 1) by decide +kernel) rfl
abbrev MX11_mend : yM := (yX11_mend, cX11_mend, 1, some .int)
def cE_mend (N : Nat) (σ : ySt) : Option (Int) :=
  chkT (σ 0 5) fun T1 =>
  bndO (cEa_leastMending N 9 T1 σ) fun r5 =>
  some r5
set_option maxHeartbeats 4000000 in
set_option maxRecDepth 10000 in
theorem sh_cE_mend {E : yE} {N : Nat} {σ : ySt} {ρ : Int} (h : cE_mend N σ = some ρ) : Con E MX11_mend 13 0 0 [.inr (.inr (0 + 1))] 150 (ov σ) (some (.inl ρ)) (ov σ) := by
  unfold cE_mend at h
  refine Con.ofY (by decide +kernel) (by simp [yWords, yCat]) (fun hok _ => ?_)
  show Y E MX11_mend (yRm 13 0 0) (yQf E (150 + 0) 0 0 (some (.inl ρ)) (ov σ)) 0 [(0, .inr (.inr (0 + 1)))] [] (ov σ) 150 0 0
  refine y_aload_n (show decode cX11_mend 0 = .ok (.aload_n 0, 1) by decide +kernel) 0 rfl ?_
  refine y_getf 0 11 3 26 (by decide) rfl (by decide) (by decide) q3_30 (show decode cX11_mend 1 = .ok (.getfield 26, 3) by decide +kernel) (v := .inr (.inr (9 + 1))) rfl ?_
  refine y_aload_n (show decode cX11_mend 4 = .ok (.aload_n 0, 1) by decide +kernel) 0 rfl ?_
  obtain ⟨T1, c2, c3, h⟩ := chkT_some h
  refine y_getf 0 11 5 37 (by decide) rfl (by decide) (by decide) q3_32 (show decode cX11_mend 5 = .ok (.getfield 37, 3) by decide +kernel) (v := .inr (.inr (T1 + 1))) (by rw [← c3]; rfl) ?_
  obtain ⟨r5, e4, h⟩ := bndO_some h
  refine y_callV (np := 1) (st := []) (as := [.inr (.inr (T1 + 1))]) 9 4 (sh_cEa_leastMending e4) q5_181 q5_178 q5_179 q5_180 q1_4 (by decide) rfl (by decide) rfl (by decide) (by decide +kernel) (by decide) rfl (Nat.le_of_ble_eq_true rfl) (show decode cX11_mend 8 = .ok (.invokevirtual 204, 3) by decide +kernel) rfl ?_
  cases h
  exact y_iret (show decode cX11_mend 11 = .ok (.ireturn, 1) by decide +kernel) rfl
abbrev MX11_where : yM := (yX11_where, cX11_where, 2, some .int)
def cE_where (a : Int) (σ : ySt) : Option (Int) :=
  chkT (σ 0 5) fun T1 =>
  bndO (cTw_hasPerson T1 a σ) fun r5 =>
  if r5 = 0 then
    some (-1)
  else
    chkA 5 a <|
    some (σ 10 (a).toNat)
set_option maxHeartbeats 4000000 in
set_option maxRecDepth 10000 in
theorem sh_cE_where {E : yE} {a : Int} {σ : ySt} {ρ : Int} (h : cE_where a σ = some ρ) : Con E MX11_where 1 0 0 [.inr (.inr (0 + 1)), .inl a] 150 (ov σ) (some (.inl ρ)) (ov σ) := by
  unfold cE_where at h
  refine Con.ofY (by decide +kernel) (by simp [yWords, yCat]) (fun hok _ => ?_)
  show Y E MX11_where (yRm 1 0 0) (yQf E (150 + 0) 0 0 (some (.inl ρ)) (ov σ)) 0 [(0, .inr (.inr (0 + 1))), (1, .inl a)] [] (ov σ) 150 0 0
  refine y_aload_n (show decode cX11_where 0 = .ok (.aload_n 0, 1) by decide +kernel) 0 rfl ?_
  obtain ⟨T1, c2, c3, h⟩ := chkT_some h
  refine y_getf 0 11 5 37 (by decide) rfl (by decide) (by decide) q3_32 (show decode cX11_where 1 = .ok (.getfield 37, 3) by decide +kernel) (v := .inr (.inr (T1 + 1))) (by rw [← c3]; rfl) ?_
  refine y_iload_n (show decode cX11_where 4 = .ok (.iload_n 1, 1) by decide +kernel) 1 rfl ?_
  obtain ⟨r5, e4, h⟩ := bndO_some h
  refine y_callV (np := 1) (st := []) (as := [.inl a]) T1 9 (sh_cTw_hasPerson e4) q5_93 q5_90 q5_91 q5_92 q1_5 (by omega) (by rcases c2 with rfl | rfl <;> rfl) (by decide) rfl (by decide) (by decide +kernel) (by decide) rfl (Nat.le_of_ble_eq_true rfl) (show decode cX11_where 5 = .ok (.invokevirtual 167, 3) by decide +kernel) rfl ?_
  by_cases c6 : r5 = 0
  · rw [if_pos c6] at h
    refine y_if_eq_t (tgt := 23) (show decode cX11_where 8 = .ok (.ifCond .eq 15, 3) by decide +kernel) rfl c6 ?_
    refine y_iconst (show decode cX11_where 23 = .ok (.iconst (-1), 1) by decide +kernel) rfl ?_
    cases h
    exact y_iret (show decode cX11_where 24 = .ok (.ireturn, 1) by decide +kernel) rfl
  · rw [if_neg c6] at h
    refine y_if_eq_f (show decode cX11_where 8 = .ok (.ifCond .eq 15, 3) by decide +kernel) c6 (by decide) ?_
    refine y_aload_n (show decode cX11_where 11 = .ok (.aload_n 0, 1) by decide +kernel) 0 rfl ?_
    refine y_getf 0 11 3 26 (by decide) rfl (by decide) (by decide) q3_30 (show decode cX11_where 12 = .ok (.getfield 26, 3) by decide +kernel) (v := .inr (.inr (9 + 1))) rfl ?_
    refine y_getf 9 4 0 208 (by decide) rfl (by decide) (by decide) q1_112 (show decode cX11_where 15 = .ok (.getfield 208, 3) by decide +kernel) (v := .inr (.inr (10 + 1))) rfl ?_
    refine y_iload_n (show decode cX11_where 18 = .ok (.iload_n 1, 1) by decide +kernel) 1 rfl ?_
    obtain ⟨c7, h⟩ := chkA_some h
    refine yo_iald 10 5 (by decide) rfl c7 (ov_at rfl) (show decode cX11_where 19 = .ok (.iaload, 1) by decide +kernel) ?_
    refine y_goto (tgt := 24) (show decode cX11_where 20 = .ok (.goto 4, 3) by decide +kernel) rfl ?_
    cases h
    exact y_iret (show decode cX11_where 24 = .ok (.ireturn, 1) by decide +kernel) rfl
abbrev MX11_send : yM := (yX11_send, cX11_send, 3, some .boolean)
def cE_send (a : Int) (b : Int) (σ : ySt) : Option (Int × ySt) :=
  chkT (σ 0 5) fun T1 =>
  bndO (cTw_hasPerson T1 a σ) fun r5 =>
  if r5 = 0 then
    some (0, σ)
  else
    chkT (σ 0 5) fun T7 =>
    bndO (cTw_hasPlace T7 b σ) fun r11 =>
    if r11 = 0 then
      some (0, σ)
    else
      chkT (σ 0 5) fun T13 =>
      chkA 5 a <|
      bndO (cTw_gets T13 (σ 10 (a).toNat) b σ) fun r18 =>
      if ¬ r18 = 0 then
        chkA 5 a <|
        bnd (yset σ 11 (a).toNat b) fun σ21 =>
        some (1, σ21)
      else
        some (0, σ)
set_option maxHeartbeats 4000000 in
set_option maxRecDepth 10000 in
theorem sh_cE_send {E : yE} {a : Int} {b : Int} {σ : ySt} {ρ : Int} {τ : ySt} (h : cE_send a b σ = some (ρ, τ)) : Con E MX11_send 1 0 0 [.inr (.inr (0 + 1)), .inl a, .inl b] 150 (ov σ) (some (.inl ρ)) (ov τ) := by
  unfold cE_send at h
  refine Con.ofY (by decide +kernel) (by simp [yWords, yCat]) (fun hok _ => ?_)
  show Y E MX11_send (yRm 1 0 0) (yQf E (150 + 0) 0 0 (some (.inl ρ)) (ov τ)) 0 [(0, .inr (.inr (0 + 1))), (1, .inl a), (2, .inl b)] [] (ov σ) 150 0 0
  refine y_aload_n (show decode cX11_send 0 = .ok (.aload_n 0, 1) by decide +kernel) 0 rfl ?_
  obtain ⟨T1, c2, c3, h⟩ := chkT_some h
  refine y_getf 0 11 5 37 (by decide) rfl (by decide) (by decide) q3_32 (show decode cX11_send 1 = .ok (.getfield 37, 3) by decide +kernel) (v := .inr (.inr (T1 + 1))) (by rw [← c3]; rfl) ?_
  refine y_iload_n (show decode cX11_send 4 = .ok (.iload_n 1, 1) by decide +kernel) 1 rfl ?_
  obtain ⟨r5, e4, h⟩ := bndO_some h
  refine y_callV (np := 1) (st := []) (as := [.inl a]) T1 9 (sh_cTw_hasPerson e4) q5_93 q5_90 q5_91 q5_92 q1_5 (by omega) (by rcases c2 with rfl | rfl <;> rfl) (by decide) rfl (by decide) (by decide +kernel) (by decide) rfl (Nat.le_of_ble_eq_true rfl) (show decode cX11_send 5 = .ok (.invokevirtual 167, 3) by decide +kernel) rfl ?_
  by_cases c6 : r5 = 0
  · rw [if_pos c6] at h
    refine y_if_eq_t (tgt := 42) (show decode cX11_send 8 = .ok (.ifCond .eq 34, 3) by decide +kernel) rfl c6 ?_
    refine y_iconst (show decode cX11_send 42 = .ok (.iconst 0, 1) by decide +kernel) rfl ?_
    cases h
    exact y_zret (show decode cX11_send 43 = .ok (.ireturn, 1) by decide +kernel) rfl (Or.inl rfl)
  · rw [if_neg c6] at h
    refine y_if_eq_f (show decode cX11_send 8 = .ok (.ifCond .eq 34, 3) by decide +kernel) c6 (by decide) ?_
    refine y_aload_n (show decode cX11_send 11 = .ok (.aload_n 0, 1) by decide +kernel) 0 rfl ?_
    obtain ⟨T7, c8, c9, h⟩ := chkT_some h
    refine y_getf 0 11 5 37 (by decide) rfl (by decide) (by decide) q3_32 (show decode cX11_send 12 = .ok (.getfield 37, 3) by decide +kernel) (v := .inr (.inr (T7 + 1))) (by rw [← c9]; rfl) ?_
    refine y_iload_n (show decode cX11_send 15 = .ok (.iload_n 2, 1) by decide +kernel) 2 rfl ?_
    obtain ⟨r11, e10, h⟩ := bndO_some h
    refine y_callV (np := 1) (st := []) (as := [.inl b]) T7 9 (sh_cTw_hasPlace e10) q4_156 q4_153 q4_154 q4_155 q1_5 (by omega) (by rcases c8 with rfl | rfl <;> rfl) (by decide) rfl (by decide) (by decide +kernel) (by decide) rfl (Nat.le_of_ble_eq_true rfl) (show decode cX11_send 16 = .ok (.invokevirtual 124, 3) by decide +kernel) rfl ?_
    by_cases c12 : r11 = 0
    · rw [if_pos c12] at h
      refine y_if_eq_t (tgt := 42) (show decode cX11_send 19 = .ok (.ifCond .eq 23, 3) by decide +kernel) rfl c12 ?_
      refine y_iconst (show decode cX11_send 42 = .ok (.iconst 0, 1) by decide +kernel) rfl ?_
      cases h
      exact y_zret (show decode cX11_send 43 = .ok (.ireturn, 1) by decide +kernel) rfl (Or.inl rfl)
    · rw [if_neg c12] at h
      refine y_if_eq_f (show decode cX11_send 19 = .ok (.ifCond .eq 23, 3) by decide +kernel) c12 (by decide) ?_
      refine y_aload_n (show decode cX11_send 22 = .ok (.aload_n 0, 1) by decide +kernel) 0 rfl ?_
      obtain ⟨T13, c14, c15, h⟩ := chkT_some h
      refine y_getf 0 11 5 37 (by decide) rfl (by decide) (by decide) q3_32 (show decode cX11_send 23 = .ok (.getfield 37, 3) by decide +kernel) (v := .inr (.inr (T13 + 1))) (by rw [← c15]; rfl) ?_
      refine y_aload_n (show decode cX11_send 26 = .ok (.aload_n 0, 1) by decide +kernel) 0 rfl ?_
      refine y_getf 0 11 3 26 (by decide) rfl (by decide) (by decide) q3_30 (show decode cX11_send 27 = .ok (.getfield 26, 3) by decide +kernel) (v := .inr (.inr (9 + 1))) rfl ?_
      refine y_getf 9 4 0 208 (by decide) rfl (by decide) (by decide) q1_112 (show decode cX11_send 30 = .ok (.getfield 208, 3) by decide +kernel) (v := .inr (.inr (10 + 1))) rfl ?_
      refine y_iload_n (show decode cX11_send 33 = .ok (.iload_n 1, 1) by decide +kernel) 1 rfl ?_
      obtain ⟨c16, h⟩ := chkA_some h
      refine yo_iald 10 5 (by decide) rfl c16 (ov_at rfl) (show decode cX11_send 34 = .ok (.iaload, 1) by decide +kernel) ?_
      refine y_iload_n (show decode cX11_send 35 = .ok (.iload_n 2, 1) by decide +kernel) 2 rfl ?_
      obtain ⟨r18, e17, h⟩ := bndO_some h
      refine y_callV (np := 2) (st := []) (as := [.inl (σ 10 (a).toNat), .inl b]) T13 9 (sh_cTw_gets e17) q4_188 q5_196 q4_186 q4_187 q1_5 (by omega) (by rcases c14 with rfl | rfl <;> rfl) (by decide) rfl (by decide) (by decide +kernel) (by decide) rfl (Nat.le_of_ble_eq_true rfl) (show decode cX11_send 36 = .ok (.invokevirtual 211, 3) by decide +kernel) rfl ?_
      by_cases c19 : ¬ r18 = 0
      · rw [if_pos c19] at h
        refine y_if_ne_t (tgt := 44) (show decode cX11_send 39 = .ok (.ifCond .ne 5, 3) by decide +kernel) rfl c19 ?_
        refine y_aload_n (show decode cX11_send 44 = .ok (.aload_n 0, 1) by decide +kernel) 0 rfl ?_
        refine y_getf 0 11 3 26 (by decide) rfl (by decide) (by decide) q3_30 (show decode cX11_send 45 = .ok (.getfield 26, 3) by decide +kernel) (v := .inr (.inr (9 + 1))) rfl ?_
        refine y_getf 9 4 1 214 (by decide) rfl (by decide) (by decide) q1_114 (show decode cX11_send 48 = .ok (.getfield 214, 3) by decide +kernel) (v := .inr (.inr (11 + 1))) rfl ?_
        refine y_iload_n (show decode cX11_send 51 = .ok (.iload_n 1, 1) by decide +kernel) 1 rfl ?_
        refine y_iload_n (show decode cX11_send 52 = .ok (.iload_n 2, 1) by decide +kernel) 2 rfl ?_
        obtain ⟨c20, h⟩ := chkA_some h
        obtain ⟨σ21, e22, h⟩ := bnd_i h
        refine yo_iast 11 5 (by decide) rfl c20 (ov_set1 e22 rfl) (show decode cX11_send 53 = .ok (.iastore, 1) by decide +kernel) ?_
        refine y_iconst (show decode cX11_send 54 = .ok (.iconst 1, 1) by decide +kernel) rfl ?_
        cases h
        exact y_zret (show decode cX11_send 55 = .ok (.ireturn, 1) by decide +kernel) rfl (Or.inr rfl)
      · rw [if_neg c19] at h
        refine y_if_ne_f (show decode cX11_send 39 = .ok (.ifCond .ne 5, 3) by decide +kernel) c19 (by decide) ?_
        refine y_iconst (show decode cX11_send 42 = .ok (.iconst 0, 1) by decide +kernel) rfl ?_
        cases h
        exact y_zret (show decode cX11_send 43 = .ok (.ireturn, 1) by decide +kernel) rfl (Or.inl rfl)
abbrev MX11_strike : yM := (yX11_strike, cX11_strike, 1, some .int)
def cE_strike (N : Nat) (σ : ySt) : Option (Int × ySt) :=
  if (σ 9 2) < 8 then
    chkT (σ 0 5) fun T2 =>
    bndR (cEa_strikeNow N 9 T2 σ) fun r6 σ7 =>
    some (r6, σ7)
  else
    some ((-1), σ)
set_option maxHeartbeats 4000000 in
set_option maxRecDepth 10000 in
theorem sh_cE_strike {E : yE} {N : Nat} {σ : ySt} {ρ : Int} {τ : ySt} (h : cE_strike N σ = some (ρ, τ)) : Con E MX11_strike 2 0 0 [.inr (.inr (0 + 1))] 150 (ov σ) (some (.inl ρ)) (ov τ) := by
  unfold cE_strike at h
  refine Con.ofY (by decide +kernel) (by simp [yWords, yCat]) (fun hok _ => ?_)
  show Y E MX11_strike (yRm 2 0 0) (yQf E (150 + 0) 0 0 (some (.inl ρ)) (ov τ)) 0 [(0, .inr (.inr (0 + 1)))] [] (ov σ) 150 0 0
  refine y_aload_n (show decode cX11_strike 0 = .ok (.aload_n 0, 1) by decide +kernel) 0 rfl ?_
  refine y_getf 0 11 3 26 (by decide) rfl (by decide) (by decide) q3_30 (show decode cX11_strike 1 = .ok (.getfield 26, 3) by decide +kernel) (v := .inr (.inr (9 + 1))) rfl ?_
  refine y_getf 9 4 2 217 (by decide) rfl (by decide) (by decide) q1_116 (show decode cX11_strike 4 = .ok (.getfield 217, 3) by decide +kernel) (v := .inl (σ 9 2)) rfl ?_
  refine y_bipush (show decode cX11_strike 7 = .ok (.bipush 8, 2) by decide +kernel) rfl rfl ?_
  by_cases c1 : (σ 9 2) < 8
  · rw [if_pos c1] at h
    refine y_icmp_lt_t (tgt := 16) (show decode cX11_strike 9 = .ok (.if_icmp .lt 7, 3) by decide +kernel) rfl c1 ?_
    refine y_aload_n (show decode cX11_strike 16 = .ok (.aload_n 0, 1) by decide +kernel) 0 rfl ?_
    refine y_getf 0 11 3 26 (by decide) rfl (by decide) (by decide) q3_30 (show decode cX11_strike 17 = .ok (.getfield 26, 3) by decide +kernel) (v := .inr (.inr (9 + 1))) rfl ?_
    refine y_aload_n (show decode cX11_strike 20 = .ok (.aload_n 0, 1) by decide +kernel) 0 rfl ?_
    obtain ⟨T2, c3, c4, h⟩ := chkT_some h
    refine y_getf 0 11 5 37 (by decide) rfl (by decide) (by decide) q3_32 (show decode cX11_strike 21 = .ok (.getfield 37, 3) by decide +kernel) (v := .inr (.inr (T2 + 1))) (by rw [← c4]; rfl) ?_
    obtain ⟨r6, σ7, e5, h⟩ := bndR_some h
    refine y_callV (np := 1) (st := []) (as := [.inr (.inr (T2 + 1))]) 9 4 (sh_cEa_strikeNow e5) q5_204 q5_201 q5_202 q5_203 q1_4 (by decide) rfl (by decide) rfl (by decide) (by decide +kernel) (by decide) rfl (Nat.le_of_ble_eq_true rfl) (show decode cX11_strike 24 = .ok (.invokevirtual 220, 3) by decide +kernel) rfl ?_
    cases h
    exact y_iret (show decode cX11_strike 27 = .ok (.ireturn, 1) by decide +kernel) rfl
  · rw [if_neg c1] at h
    refine y_icmp_lt_f (show decode cX11_strike 9 = .ok (.if_icmp .lt 7, 3) by decide +kernel) c1 (by decide) ?_
    refine y_iconst (show decode cX11_strike 12 = .ok (.iconst (-1), 1) by decide +kernel) rfl ?_
    refine y_goto (tgt := 27) (show decode cX11_strike 13 = .ok (.goto 14, 3) by decide +kernel) rfl ?_
    cases h
    exact y_iret (show decode cX11_strike 27 = .ok (.ireturn, 1) by decide +kernel) rfl
abbrev MX11_count : yM := (yX11_count, cX11_count, 4, some .int)
def cE_count (a : Int) (b : Int) (c : Int) (σ : ySt) : Option (Int × ySt) :=
  bndO (cE_isStroke a 8 σ) fun r2 =>
  if r2 = 0 then
    some ((-1), σ)
  else
    chkT (σ 0 5) fun T4 =>
    bndO (cTw_hasPlace T4 b σ) fun r8 =>
    if r8 = 0 then
      some ((-1), σ)
    else
      if c < 0 then
        some ((-1), σ)
      else
        if c < 6 then
          bndR (cCt_tell a b c σ) fun r13 σ14 =>
          some (r13, σ14)
        else
          some ((-1), σ)
set_option maxHeartbeats 4000000 in
set_option maxRecDepth 10000 in
theorem sh_cE_count {E : yE} {a : Int} {b : Int} {c : Int} {σ : ySt} {ρ : Int} {τ : ySt} (h : cE_count a b c σ = some (ρ, τ)) : Con E MX11_count 1 0 0 [.inr (.inr (0 + 1)), .inl a, .inl b, .inl c] 150 (ov σ) (some (.inl ρ)) (ov τ) := by
  unfold cE_count at h
  refine Con.ofY (by decide +kernel) (by simp [yWords, yCat]) (fun hok _ => ?_)
  show Y E MX11_count (yRm 1 0 0) (yQf E (150 + 0) 0 0 (some (.inl ρ)) (ov τ)) 0 [(0, .inr (.inr (0 + 1))), (1, .inl a), (2, .inl b), (3, .inl c)] [] (ov σ) 150 0 0
  refine y_iload_n (show decode cX11_count 0 = .ok (.iload_n 1, 1) by decide +kernel) 1 rfl ?_
  refine y_bipush (show decode cX11_count 1 = .ok (.bipush 8, 2) by decide +kernel) rfl rfl ?_
  obtain ⟨r2, e1, h⟩ := bndO_some h
  refine y_callS (np := 2) (st := []) (as := [.inl a, .inl 8]) (sh_cE_isStroke e1) q4_164 q4_162 q4_163 q1_1 (by decide) (by decide +kernel) (by decide) rfl (Nat.le_of_ble_eq_true rfl) (show decode cX11_count 3 = .ok (.invokestatic 132, 3) by decide +kernel) rfl ?_
  by_cases c3 : r2 = 0
  · rw [if_pos c3] at h
    refine y_if_eq_t (tgt := 30) (show decode cX11_count 6 = .ok (.ifCond .eq 24, 3) by decide +kernel) rfl c3 ?_
    refine y_iconst (show decode cX11_count 30 = .ok (.iconst (-1), 1) by decide +kernel) rfl ?_
    cases h
    exact y_iret (show decode cX11_count 31 = .ok (.ireturn, 1) by decide +kernel) rfl
  · rw [if_neg c3] at h
    refine y_if_eq_f (show decode cX11_count 6 = .ok (.ifCond .eq 24, 3) by decide +kernel) c3 (by decide) ?_
    refine y_aload_n (show decode cX11_count 9 = .ok (.aload_n 0, 1) by decide +kernel) 0 rfl ?_
    obtain ⟨T4, c5, c6, h⟩ := chkT_some h
    refine y_getf 0 11 5 37 (by decide) rfl (by decide) (by decide) q3_32 (show decode cX11_count 10 = .ok (.getfield 37, 3) by decide +kernel) (v := .inr (.inr (T4 + 1))) (by rw [← c6]; rfl) ?_
    refine y_iload_n (show decode cX11_count 13 = .ok (.iload_n 2, 1) by decide +kernel) 2 rfl ?_
    obtain ⟨r8, e7, h⟩ := bndO_some h
    refine y_callV (np := 1) (st := []) (as := [.inl b]) T4 9 (sh_cTw_hasPlace e7) q4_156 q4_153 q4_154 q4_155 q1_5 (by omega) (by rcases c5 with rfl | rfl <;> rfl) (by decide) rfl (by decide) (by decide +kernel) (by decide) rfl (Nat.le_of_ble_eq_true rfl) (show decode cX11_count 14 = .ok (.invokevirtual 124, 3) by decide +kernel) rfl ?_
    by_cases c9 : r8 = 0
    · rw [if_pos c9] at h
      refine y_if_eq_t (tgt := 30) (show decode cX11_count 17 = .ok (.ifCond .eq 13, 3) by decide +kernel) rfl c9 ?_
      refine y_iconst (show decode cX11_count 30 = .ok (.iconst (-1), 1) by decide +kernel) rfl ?_
      cases h
      exact y_iret (show decode cX11_count 31 = .ok (.ireturn, 1) by decide +kernel) rfl
    · rw [if_neg c9] at h
      refine y_if_eq_f (show decode cX11_count 17 = .ok (.ifCond .eq 13, 3) by decide +kernel) c9 (by decide) ?_
      refine y_iload_n (show decode cX11_count 20 = .ok (.iload_n 3, 1) by decide +kernel) 3 rfl ?_
      by_cases c10 : c < 0
      · rw [if_pos c10] at h
        refine y_if_lt_t (tgt := 30) (show decode cX11_count 21 = .ok (.ifCond .lt 9, 3) by decide +kernel) rfl c10 ?_
        refine y_iconst (show decode cX11_count 30 = .ok (.iconst (-1), 1) by decide +kernel) rfl ?_
        cases h
        exact y_iret (show decode cX11_count 31 = .ok (.ireturn, 1) by decide +kernel) rfl
      · rw [if_neg c10] at h
        refine y_if_lt_f (show decode cX11_count 21 = .ok (.ifCond .lt 9, 3) by decide +kernel) c10 (by decide) ?_
        refine y_iload_n (show decode cX11_count 24 = .ok (.iload_n 3, 1) by decide +kernel) 3 rfl ?_
        refine y_bipush (show decode cX11_count 25 = .ok (.bipush 6, 2) by decide +kernel) rfl rfl ?_
        by_cases c11 : c < 6
        · rw [if_pos c11] at h
          refine y_icmp_lt_t (tgt := 32) (show decode cX11_count 27 = .ok (.if_icmp .lt 5, 3) by decide +kernel) rfl c11 ?_
          refine y_aload_n (show decode cX11_count 32 = .ok (.aload_n 0, 1) by decide +kernel) 0 rfl ?_
          refine y_getf 0 11 1 19 (by decide) rfl (by decide) (by decide) q3_28 (show decode cX11_count 33 = .ok (.getfield 19, 3) by decide +kernel) (v := .inr (.inr (3 + 1))) rfl ?_
          refine y_iload_n (show decode cX11_count 36 = .ok (.iload_n 1, 1) by decide +kernel) 1 rfl ?_
          refine y_iload_n (show decode cX11_count 37 = .ok (.iload_n 2, 1) by decide +kernel) 2 rfl ?_
          refine y_iload_n (show decode cX11_count 38 = .ok (.iload_n 3, 1) by decide +kernel) 3 rfl ?_
          obtain ⟨r13, σ14, e12, h⟩ := bndR_some h
          refine y_callV (np := 3) (st := []) (as := [.inl a, .inl b, .inl c]) 3 1 (sh_cCt_tell e12) q5_213 q5_210 q5_211 q5_212 q1_3 (by decide) rfl (by decide) rfl (by decide) (by decide +kernel) (by decide) rfl (Nat.le_of_ble_eq_true rfl) (show decode cX11_count 39 = .ok (.invokevirtual 223, 3) by decide +kernel) rfl ?_
          cases h
          exact y_iret (show decode cX11_count 42 = .ok (.ireturn, 1) by decide +kernel) rfl
        · rw [if_neg c11] at h
          refine y_icmp_lt_f (show decode cX11_count 27 = .ok (.if_icmp .lt 5, 3) by decide +kernel) c11 (by decide) ?_
          refine y_iconst (show decode cX11_count 30 = .ok (.iconst (-1), 1) by decide +kernel) rfl ?_
          cases h
          exact y_iret (show decode cX11_count 31 = .ok (.ireturn, 1) by decide +kernel) rfl
abbrev MX11_untell : yM := (yX11_untell, cX11_untell, 2, some .boolean)
def cE_untell (a : Int) (σ : ySt) : Option (Int × ySt) :=
  bndR (cCt_takeBack a σ) fun r2 σ3 =>
  chk (r2 = 0 ∨ r2 = 1) <|
  some (r2, σ3)
set_option maxHeartbeats 4000000 in
set_option maxRecDepth 10000 in
theorem sh_cE_untell {E : yE} {a : Int} {σ : ySt} {ρ : Int} {τ : ySt} (h : cE_untell a σ = some (ρ, τ)) : Con E MX11_untell 1 0 0 [.inr (.inr (0 + 1)), .inl a] 150 (ov σ) (some (.inl ρ)) (ov τ) := by
  unfold cE_untell at h
  refine Con.ofY (by decide +kernel) (by simp [yWords, yCat]) (fun hok _ => ?_)
  show Y E MX11_untell (yRm 1 0 0) (yQf E (150 + 0) 0 0 (some (.inl ρ)) (ov τ)) 0 [(0, .inr (.inr (0 + 1))), (1, .inl a)] [] (ov σ) 150 0 0
  refine y_aload_n (show decode cX11_untell 0 = .ok (.aload_n 0, 1) by decide +kernel) 0 rfl ?_
  refine y_getf 0 11 1 19 (by decide) rfl (by decide) (by decide) q3_28 (show decode cX11_untell 1 = .ok (.getfield 19, 3) by decide +kernel) (v := .inr (.inr (3 + 1))) rfl ?_
  refine y_iload_n (show decode cX11_untell 4 = .ok (.iload_n 1, 1) by decide +kernel) 1 rfl ?_
  obtain ⟨r2, σ3, e1, h⟩ := bndR_some h
  refine y_callV (np := 1) (st := []) (as := [.inl a]) 3 1 (sh_cCt_takeBack e1) q5_221 q5_218 q5_219 q5_220 q1_3 (by decide) rfl (by decide) rfl (by decide) (by decide +kernel) (by decide) rfl (Nat.le_of_ble_eq_true rfl) (show decode cX11_untell 5 = .ok (.invokevirtual 226, 3) by decide +kernel) rfl ?_
  obtain ⟨c4, h⟩ := chk_some h
  cases h
  exact y_zret (show decode cX11_untell 8 = .ok (.ireturn, 1) by decide +kernel) rfl c4
abbrev MX11_later : yM := (yX11_later, cX11_later, 2, some .int)
def cE_later (a : Int) (σ : ySt) : Option (Int × ySt) :=
  if a < 0 then
    some ((-1), σ)
  else
    if a > 1000 then
      some ((-1), σ)
    else
      chkI ((σ 3 6) + a) <|
      if ((σ 3 6) + a) ≤ 100000 then
        chkI ((σ 3 6) + a) <|
        bnd (yset σ 3 6 ((σ 3 6) + a)) fun σ6 =>
        some ((σ6 3 6), σ6)
      else
        some ((-1), σ)
set_option maxHeartbeats 4000000 in
set_option maxRecDepth 10000 in
theorem sh_cE_later {E : yE} {a : Int} {σ : ySt} {ρ : Int} {τ : ySt} (h : cE_later a σ = some (ρ, τ)) : Con E MX11_later 0 0 0 [.inr (.inr (0 + 1)), .inl a] 150 (ov σ) (some (.inl ρ)) (ov τ) := by
  unfold cE_later at h
  refine Con.ofY (by decide +kernel) (by simp [yWords, yCat]) (fun hok _ => ?_)
  show Y E MX11_later (yRm 0 0 0) (yQf E (150 + 0) 0 0 (some (.inl ρ)) (ov τ)) 0 [(0, .inr (.inr (0 + 1))), (1, .inl a)] [] (ov σ) 150 0 0
  refine y_iload_n (show decode cX11_later 0 = .ok (.iload_n 1, 1) by decide +kernel) 1 rfl ?_
  by_cases c1 : a < 0
  · rw [if_pos c1] at h
    refine y_if_lt_t (tgt := 25) (show decode cX11_later 1 = .ok (.ifCond .lt 24, 3) by decide +kernel) rfl c1 ?_
    refine y_iconst (show decode cX11_later 25 = .ok (.iconst (-1), 1) by decide +kernel) rfl ?_
    cases h
    exact y_iret (show decode cX11_later 26 = .ok (.ireturn, 1) by decide +kernel) rfl
  · rw [if_neg c1] at h
    refine y_if_lt_f (show decode cX11_later 1 = .ok (.ifCond .lt 24, 3) by decide +kernel) c1 (by decide) ?_
    refine y_iload_n (show decode cX11_later 4 = .ok (.iload_n 1, 1) by decide +kernel) 1 rfl ?_
    refine y_sipush (show decode cX11_later 5 = .ok (.sipush 1000, 3) by decide +kernel) rfl rfl ?_
    by_cases c2 : a > 1000
    · rw [if_pos c2] at h
      refine y_icmp_gt_t (tgt := 25) (show decode cX11_later 8 = .ok (.if_icmp .gt 17, 3) by decide +kernel) rfl c2 ?_
      refine y_iconst (show decode cX11_later 25 = .ok (.iconst (-1), 1) by decide +kernel) rfl ?_
      cases h
      exact y_iret (show decode cX11_later 26 = .ok (.ireturn, 1) by decide +kernel) rfl
    · rw [if_neg c2] at h
      refine y_icmp_gt_f (show decode cX11_later 8 = .ok (.if_icmp .gt 17, 3) by decide +kernel) c2 (by decide) ?_
      refine y_aload_n (show decode cX11_later 11 = .ok (.aload_n 0, 1) by decide +kernel) 0 rfl ?_
      refine y_getf 0 11 1 19 (by decide) rfl (by decide) (by decide) q3_28 (show decode cX11_later 12 = .ok (.getfield 19, 3) by decide +kernel) (v := .inr (.inr (3 + 1))) rfl ?_
      refine y_getf 3 1 6 229 (by decide) rfl (by decide) (by decide) q1_88 (show decode cX11_later 15 = .ok (.getfield 229, 3) by decide +kernel) (v := .inl (σ 3 6)) rfl ?_
      refine y_iload_n (show decode cX11_later 18 = .ok (.iload_n 1, 1) by decide +kernel) 1 rfl ?_
      obtain ⟨c3, h⟩ := chkI_some h
      refine y_iadd (show decode cX11_later 19 = .ok (.iadd, 1) by decide +kernel) c3 ?_
      refine y_ldc (k := 100000) (show decode cX11_later 20 = .ok (.ldc 232, 2) by decide +kernel) q5_226 rfl rfl ?_
      by_cases c4 : ((σ 3 6) + a) ≤ 100000
      · rw [if_pos c4] at h
        refine y_icmp_le_t (tgt := 27) (show decode cX11_later 22 = .ok (.if_icmp .le 5, 3) by decide +kernel) rfl c4 ?_
        refine y_aload_n (show decode cX11_later 27 = .ok (.aload_n 0, 1) by decide +kernel) 0 rfl ?_
        refine y_getf 0 11 1 19 (by decide) rfl (by decide) (by decide) q3_28 (show decode cX11_later 28 = .ok (.getfield 19, 3) by decide +kernel) (v := .inr (.inr (3 + 1))) rfl ?_
        refine y_dup (show decode cX11_later 31 = .ok (.dup, 1) by decide +kernel) rfl ?_
        refine y_getf 3 1 6 229 (by decide) rfl (by decide) (by decide) q1_88 (show decode cX11_later 32 = .ok (.getfield 229, 3) by decide +kernel) (v := .inl (σ 3 6)) rfl ?_
        refine y_iload_n (show decode cX11_later 35 = .ok (.iload_n 1, 1) by decide +kernel) 1 rfl ?_
        obtain ⟨c5, h⟩ := chkI_some h
        refine y_iadd (show decode cX11_later 36 = .ok (.iadd, 1) by decide +kernel) c5 ?_
        obtain ⟨σ6, e7, h⟩ := bnd_i h
        refine yo_putI 3 1 6 229 (by decide) rfl (by decide) (by decide) q1_88 rfl (show decode cX11_later 37 = .ok (.putfield 229, 3) by decide +kernel) rfl rfl (ov_set1 e7 rfl) ?_
        refine y_aload_n (show decode cX11_later 40 = .ok (.aload_n 0, 1) by decide +kernel) 0 rfl ?_
        refine y_getf 0 11 1 19 (by decide) rfl (by decide) (by decide) q3_28 (show decode cX11_later 41 = .ok (.getfield 19, 3) by decide +kernel) (v := .inr (.inr (3 + 1))) rfl ?_
        refine y_getf 3 1 6 229 (by decide) rfl (by decide) (by decide) q1_88 (show decode cX11_later 44 = .ok (.getfield 229, 3) by decide +kernel) (v := .inl (σ6 3 6)) rfl ?_
        cases h
        exact y_iret (show decode cX11_later 47 = .ok (.ireturn, 1) by decide +kernel) rfl
      · rw [if_neg c4] at h
        refine y_icmp_le_f (show decode cX11_later 22 = .ok (.if_icmp .le 5, 3) by decide +kernel) c4 (by decide) ?_
        refine y_iconst (show decode cX11_later 25 = .ok (.iconst (-1), 1) by decide +kernel) rfl ?_
        cases h
        exact y_iret (show decode cX11_later 26 = .ok (.ireturn, 1) by decide +kernel) rfl
abbrev MX11_states : yM := (yX11_states, cX11_states, 3, some .int)
def cE_states (N : Nat) (a : Int) (b : Int) (σ : ySt) : Option (Int × ySt) :=
  chkT (σ 0 5) fun T1 =>
  bndO (cE_isStroke a (σ T1 17) σ) fun r5 =>
  if r5 = 0 then
    some ((-1), σ)
  else
    bndR (cAn_statesAt N a b σ) fun r8 σ9 =>
    some (r8, σ9)
set_option maxHeartbeats 4000000 in
set_option maxRecDepth 10000 in
theorem sh_cE_states {E : yE} {N : Nat} {a : Int} {b : Int} {σ : ySt} {ρ : Int} {τ : ySt} (h : cE_states N a b σ = some (ρ, τ)) : Con E MX11_states 7 0 0 [.inr (.inr (0 + 1)), .inl a, .inl b] 150 (ov σ) (some (.inl ρ)) (ov τ) := by
  unfold cE_states at h
  refine Con.ofY (by decide +kernel) (by simp [yWords, yCat]) (fun hok _ => ?_)
  show Y E MX11_states (yRm 7 0 0) (yQf E (150 + 0) 0 0 (some (.inl ρ)) (ov τ)) 0 [(0, .inr (.inr (0 + 1))), (1, .inl a), (2, .inl b)] [] (ov σ) 150 0 0
  refine y_iload_n (show decode cX11_states 0 = .ok (.iload_n 1, 1) by decide +kernel) 1 rfl ?_
  refine y_aload_n (show decode cX11_states 1 = .ok (.aload_n 0, 1) by decide +kernel) 0 rfl ?_
  obtain ⟨T1, c2, c3, h⟩ := chkT_some h
  refine y_getf 0 11 5 37 (by decide) rfl (by decide) (by decide) q3_32 (show decode cX11_states 2 = .ok (.getfield 37, 3) by decide +kernel) (v := .inr (.inr (T1 + 1))) (by rw [← c3]; rfl) ?_
  refine y_getf T1 9 17 164 (by omega) (by rcases c2 with rfl | rfl <;> rfl) (by decide) (by decide) q2_23 (show decode cX11_states 5 = .ok (.getfield 164, 3) by decide +kernel) (v := .inl (σ T1 17)) (by rcases c2 with rfl | rfl <;> rfl) ?_
  obtain ⟨r5, e4, h⟩ := bndO_some h
  refine y_callS (np := 2) (st := []) (as := [.inl a, .inl (σ T1 17)]) (sh_cE_isStroke e4) q4_164 q4_162 q4_163 q1_1 (by decide) (by decide +kernel) (by decide) rfl (Nat.le_of_ble_eq_true rfl) (show decode cX11_states 8 = .ok (.invokestatic 132, 3) by decide +kernel) rfl ?_
  by_cases c6 : r5 = 0
  · rw [if_pos c6] at h
    refine y_if_eq_t (tgt := 30) (show decode cX11_states 11 = .ok (.ifCond .eq 19, 3) by decide +kernel) rfl c6 ?_
    refine y_iconst (show decode cX11_states 30 = .ok (.iconst (-1), 1) by decide +kernel) rfl ?_
    cases h
    exact y_iret (show decode cX11_states 31 = .ok (.ireturn, 1) by decide +kernel) rfl
  · rw [if_neg c6] at h
    refine y_if_eq_f (show decode cX11_states 11 = .ok (.ifCond .eq 19, 3) by decide +kernel) c6 (by decide) ?_
    refine y_aload_n (show decode cX11_states 14 = .ok (.aload_n 0, 1) by decide +kernel) 0 rfl ?_
    refine y_getf 0 11 2 71 (by decide) rfl (by decide) (by decide) q3_29 (show decode cX11_states 15 = .ok (.getfield 71, 3) by decide +kernel) (v := .inr (.inr (58 + 1))) rfl ?_
    refine y_iload_n (show decode cX11_states 18 = .ok (.iload_n 1, 1) by decide +kernel) 1 rfl ?_
    refine y_aload_n (show decode cX11_states 19 = .ok (.aload_n 0, 1) by decide +kernel) 0 rfl ?_
    refine y_getf 0 11 1 19 (by decide) rfl (by decide) (by decide) q3_28 (show decode cX11_states 20 = .ok (.getfield 19, 3) by decide +kernel) (v := .inr (.inr (3 + 1))) rfl ?_
    refine y_iload_n (show decode cX11_states 23 = .ok (.iload_n 2, 1) by decide +kernel) 2 rfl ?_
    obtain ⟨r8, σ9, e7, h⟩ := bndR_some h
    refine y_callV (np := 3) (st := []) (as := [.inl a, .inr (.inr (3 + 1)), .inl b]) 58 0 (sh_cAn_statesAt e7) q5_234 q5_231 q5_232 q5_233 q1_12 (by decide) rfl (by decide) rfl (by decide) (by decide +kernel) (by decide) rfl (Nat.le_of_ble_eq_true rfl) (show decode cX11_states 24 = .ok (.invokevirtual 233, 3) by decide +kernel) rfl ?_
    refine y_goto (tgt := 31) (show decode cX11_states 27 = .ok (.goto 4, 3) by decide +kernel) rfl ?_
    cases h
    exact y_iret (show decode cX11_states 31 = .ok (.ireturn, 1) by decide +kernel) rfl
abbrev MX11_sure : yM := (yX11_sure, cX11_sure, 7, some .int)
def cE_sure (N : Nat) (a : Int) (b : Int) (c : Int) (d : Int) (σ : ySt) : Option (Int × ySt) :=
  chkT (σ 0 5) fun T1 =>
  bndO (cTw_hasPerson T1 a σ) fun r5 =>
  if r5 = 0 then
    some ((-1), σ)
  else
    chkT (σ 0 5) fun T7 =>
    bndO (cTw_hasPlace T7 b σ) fun r11 =>
    if r11 = 0 then
      some ((-1), σ)
    else
      chkT (σ 0 5) fun T13 =>
      bndO (cE_isStroke c (σ T13 17) σ) fun r17 =>
      if ¬ r17 = 0 then
        bndR (cAn_statesAt N c d σ) fun r20 σ21 =>
        bndO (cAn_statesWith N c a b σ21) fun r23 =>
        if ¬ r23 = 0 then
          if ¬ r23 = r20 then
            some (1, σ21)
          else
            some (2, σ21)
        else
          some (0, σ21)
      else
        some ((-1), σ)
set_option maxHeartbeats 4000000 in
set_option maxRecDepth 10000 in
theorem sh_cE_sure {E : yE} {N : Nat} {a : Int} {b : Int} {c : Int} {d : Int} {σ : ySt} {ρ : Int} {τ : ySt} (h : cE_sure N a b c d σ = some (ρ, τ)) : Con E MX11_sure 7 0 0 [.inr (.inr (0 + 1)), .inl a, .inl b, .inl c, .inl d] 150 (ov σ) (some (.inl ρ)) (ov τ) := by
  unfold cE_sure at h
  refine Con.ofY (by decide +kernel) (by simp [yWords, yCat]) (fun hok _ => ?_)
  show Y E MX11_sure (yRm 7 0 0) (yQf E (150 + 0) 0 0 (some (.inl ρ)) (ov τ)) 0 [(0, .inr (.inr (0 + 1))), (1, .inl a), (2, .inl b), (3, .inl c), (4, .inl d)] [] (ov σ) 150 0 0
  refine y_aload_n (show decode cX11_sure 0 = .ok (.aload_n 0, 1) by decide +kernel) 0 rfl ?_
  obtain ⟨T1, c2, c3, h⟩ := chkT_some h
  refine y_getf 0 11 5 37 (by decide) rfl (by decide) (by decide) q3_32 (show decode cX11_sure 1 = .ok (.getfield 37, 3) by decide +kernel) (v := .inr (.inr (T1 + 1))) (by rw [← c3]; rfl) ?_
  refine y_iload_n (show decode cX11_sure 4 = .ok (.iload_n 1, 1) by decide +kernel) 1 rfl ?_
  obtain ⟨r5, e4, h⟩ := bndO_some h
  refine y_callV (np := 1) (st := []) (as := [.inl a]) T1 9 (sh_cTw_hasPerson e4) q5_93 q5_90 q5_91 q5_92 q1_5 (by omega) (by rcases c2 with rfl | rfl <;> rfl) (by decide) rfl (by decide) (by decide +kernel) (by decide) rfl (Nat.le_of_ble_eq_true rfl) (show decode cX11_sure 5 = .ok (.invokevirtual 167, 3) by decide +kernel) rfl ?_
  by_cases c6 : r5 = 0
  · rw [if_pos c6] at h
    refine y_if_eq_t (tgt := 36) (show decode cX11_sure 8 = .ok (.ifCond .eq 28, 3) by decide +kernel) rfl c6 ?_
    refine y_iconst (show decode cX11_sure 36 = .ok (.iconst (-1), 1) by decide +kernel) rfl ?_
    cases h
    exact y_iret (show decode cX11_sure 37 = .ok (.ireturn, 1) by decide +kernel) rfl
  · rw [if_neg c6] at h
    refine y_if_eq_f (show decode cX11_sure 8 = .ok (.ifCond .eq 28, 3) by decide +kernel) c6 (by decide) ?_
    refine y_aload_n (show decode cX11_sure 11 = .ok (.aload_n 0, 1) by decide +kernel) 0 rfl ?_
    obtain ⟨T7, c8, c9, h⟩ := chkT_some h
    refine y_getf 0 11 5 37 (by decide) rfl (by decide) (by decide) q3_32 (show decode cX11_sure 12 = .ok (.getfield 37, 3) by decide +kernel) (v := .inr (.inr (T7 + 1))) (by rw [← c9]; rfl) ?_
    refine y_iload_n (show decode cX11_sure 15 = .ok (.iload_n 2, 1) by decide +kernel) 2 rfl ?_
    obtain ⟨r11, e10, h⟩ := bndO_some h
    refine y_callV (np := 1) (st := []) (as := [.inl b]) T7 9 (sh_cTw_hasPlace e10) q4_156 q4_153 q4_154 q4_155 q1_5 (by omega) (by rcases c8 with rfl | rfl <;> rfl) (by decide) rfl (by decide) (by decide +kernel) (by decide) rfl (Nat.le_of_ble_eq_true rfl) (show decode cX11_sure 16 = .ok (.invokevirtual 124, 3) by decide +kernel) rfl ?_
    by_cases c12 : r11 = 0
    · rw [if_pos c12] at h
      refine y_if_eq_t (tgt := 36) (show decode cX11_sure 19 = .ok (.ifCond .eq 17, 3) by decide +kernel) rfl c12 ?_
      refine y_iconst (show decode cX11_sure 36 = .ok (.iconst (-1), 1) by decide +kernel) rfl ?_
      cases h
      exact y_iret (show decode cX11_sure 37 = .ok (.ireturn, 1) by decide +kernel) rfl
    · rw [if_neg c12] at h
      refine y_if_eq_f (show decode cX11_sure 19 = .ok (.ifCond .eq 17, 3) by decide +kernel) c12 (by decide) ?_
      refine y_iload_n (show decode cX11_sure 22 = .ok (.iload_n 3, 1) by decide +kernel) 3 rfl ?_
      refine y_aload_n (show decode cX11_sure 23 = .ok (.aload_n 0, 1) by decide +kernel) 0 rfl ?_
      obtain ⟨T13, c14, c15, h⟩ := chkT_some h
      refine y_getf 0 11 5 37 (by decide) rfl (by decide) (by decide) q3_32 (show decode cX11_sure 24 = .ok (.getfield 37, 3) by decide +kernel) (v := .inr (.inr (T13 + 1))) (by rw [← c15]; rfl) ?_
      refine y_getf T13 9 17 164 (by omega) (by rcases c14 with rfl | rfl <;> rfl) (by decide) (by decide) q2_23 (show decode cX11_sure 27 = .ok (.getfield 164, 3) by decide +kernel) (v := .inl (σ T13 17)) (by rcases c14 with rfl | rfl <;> rfl) ?_
      obtain ⟨r17, e16, h⟩ := bndO_some h
      refine y_callS (np := 2) (st := []) (as := [.inl c, .inl (σ T13 17)]) (sh_cE_isStroke e16) q4_164 q4_162 q4_163 q1_1 (by decide) (by decide +kernel) (by decide) rfl (Nat.le_of_ble_eq_true rfl) (show decode cX11_sure 30 = .ok (.invokestatic 132, 3) by decide +kernel) rfl ?_
      by_cases c18 : ¬ r17 = 0
      · rw [if_pos c18] at h
        refine y_if_ne_t (tgt := 38) (show decode cX11_sure 33 = .ok (.ifCond .ne 5, 3) by decide +kernel) rfl c18 ?_
        refine y_aload_n (show decode cX11_sure 38 = .ok (.aload_n 0, 1) by decide +kernel) 0 rfl ?_
        refine y_getf 0 11 2 71 (by decide) rfl (by decide) (by decide) q3_29 (show decode cX11_sure 39 = .ok (.getfield 71, 3) by decide +kernel) (v := .inr (.inr (58 + 1))) rfl ?_
        refine y_iload_n (show decode cX11_sure 42 = .ok (.iload_n 3, 1) by decide +kernel) 3 rfl ?_
        refine y_aload_n (show decode cX11_sure 43 = .ok (.aload_n 0, 1) by decide +kernel) 0 rfl ?_
        refine y_getf 0 11 1 19 (by decide) rfl (by decide) (by decide) q3_28 (show decode cX11_sure 44 = .ok (.getfield 19, 3) by decide +kernel) (v := .inr (.inr (3 + 1))) rfl ?_
        refine y_iload (show decode cX11_sure 47 = .ok (.iload 4, 2) by decide +kernel) 4 rfl ?_
        obtain ⟨r20, σ21, e19, h⟩ := bndR_some h
        refine y_callV (np := 3) (st := []) (as := [.inl c, .inr (.inr (3 + 1)), .inl d]) 58 0 (sh_cAn_statesAt e19) q5_234 q5_231 q5_232 q5_233 q1_12 (by decide) rfl (by decide) rfl (by decide) (by decide +kernel) (by decide) rfl (Nat.le_of_ble_eq_true rfl) (show decode cX11_sure 49 = .ok (.invokevirtual 233, 3) by decide +kernel) rfl ?_
        refine y_istore (show decode cX11_sure 52 = .ok (.istore 5, 2) by decide +kernel) rfl (L1 := [(5, .inl r20), (0, .inr (.inr (0 + 1))), (1, .inl a), (2, .inl b), (3, .inl c), (4, .inl d)]) rfl ?_
        refine y_aload_n (show decode cX11_sure 54 = .ok (.aload_n 0, 1) by decide +kernel) 1 rfl ?_
        refine y_getf 0 11 2 71 (by decide) rfl (by decide) (by decide) q3_29 (show decode cX11_sure 55 = .ok (.getfield 71, 3) by decide +kernel) (v := .inr (.inr (58 + 1))) rfl ?_
        refine y_iload_n (show decode cX11_sure 58 = .ok (.iload_n 3, 1) by decide +kernel) 4 rfl ?_
        refine y_iload_n (show decode cX11_sure 59 = .ok (.iload_n 1, 1) by decide +kernel) 2 rfl ?_
        refine y_iload_n (show decode cX11_sure 60 = .ok (.iload_n 2, 1) by decide +kernel) 3 rfl ?_
        obtain ⟨r23, e22, h⟩ := bndO_some h
        refine y_callV (np := 3) (st := []) (as := [.inl c, .inl a, .inl b]) 58 0 (sh_cAn_statesWith e22) q6_6 q6_3 q6_4 q6_5 q1_12 (by decide) rfl (by decide) rfl (by decide) (by decide +kernel) (by decide) rfl (Nat.le_of_ble_eq_true rfl) (show decode cX11_sure 61 = .ok (.invokevirtual 237, 3) by decide +kernel) rfl ?_
        refine y_istore (show decode cX11_sure 64 = .ok (.istore 6, 2) by decide +kernel) rfl (L1 := [(6, .inl r23), (5, .inl r20), (0, .inr (.inr (0 + 1))), (1, .inl a), (2, .inl b), (3, .inl c), (4, .inl d)]) rfl ?_
        refine y_iload (show decode cX11_sure 66 = .ok (.iload 6, 2) by decide +kernel) 0 rfl ?_
        by_cases c24 : ¬ r23 = 0
        · rw [if_pos c24] at h
          refine y_if_ne_t (tgt := 75) (show decode cX11_sure 68 = .ok (.ifCond .ne 7, 3) by decide +kernel) rfl c24 ?_
          refine y_iload (show decode cX11_sure 75 = .ok (.iload 6, 2) by decide +kernel) 0 rfl ?_
          refine y_iload (show decode cX11_sure 77 = .ok (.iload 5, 2) by decide +kernel) 1 rfl ?_
          by_cases c25 : ¬ r23 = r20
          · rw [if_pos c25] at h
            refine y_icmp_ne_t (tgt := 86) (show decode cX11_sure 79 = .ok (.if_icmp .ne 7, 3) by decide +kernel) rfl c25 ?_
            refine y_iconst (show decode cX11_sure 86 = .ok (.iconst 1, 1) by decide +kernel) rfl ?_
            cases h
            exact y_iret (show decode cX11_sure 87 = .ok (.ireturn, 1) by decide +kernel) rfl
          · rw [if_neg c25] at h
            refine y_icmp_ne_f (show decode cX11_sure 79 = .ok (.if_icmp .ne 7, 3) by decide +kernel) c25 (by decide) ?_
            refine y_iconst (show decode cX11_sure 82 = .ok (.iconst 2, 1) by decide +kernel) rfl ?_
            refine y_goto (tgt := 87) (show decode cX11_sure 83 = .ok (.goto 4, 3) by decide +kernel) rfl ?_
            cases h
            exact y_iret (show decode cX11_sure 87 = .ok (.ireturn, 1) by decide +kernel) rfl
        · rw [if_neg c24] at h
          refine y_if_ne_f (show decode cX11_sure 68 = .ok (.ifCond .ne 7, 3) by decide +kernel) c24 (by decide) ?_
          refine y_iconst (show decode cX11_sure 71 = .ok (.iconst 0, 1) by decide +kernel) rfl ?_
          refine y_goto (tgt := 87) (show decode cX11_sure 72 = .ok (.goto 15, 3) by decide +kernel) rfl ?_
          cases h
          exact y_iret (show decode cX11_sure 87 = .ok (.ireturn, 1) by decide +kernel) rfl
      · rw [if_neg c18] at h
        refine y_if_ne_f (show decode cX11_sure 33 = .ok (.ifCond .ne 5, 3) by decide +kernel) c18 (by decide) ?_
        refine y_iconst (show decode cX11_sure 36 = .ok (.iconst (-1), 1) by decide +kernel) rfl ?_
        cases h
        exact y_iret (show decode cX11_sure 37 = .ok (.ireturn, 1) by decide +kernel) rfl
abbrev MX11_image : yM := (yX11_image, cX11_image, 2, some .int)
def cE_image (a : Int) (σ : ySt) : Option (Int × ySt) :=
  if a < 0 then
    some ((-1), σ)
  else
    if a < 3 then
      chkB a fun T3 =>
      bndO (cEa_copyFrom T3 9 σ) fun σ9 =>
      chkB a fun T10 =>
      bnd (yset σ9 T10 4 1) fun σ15 =>
      some ((σ15 9 2), σ15)
    else
      some ((-1), σ)
set_option maxHeartbeats 4000000 in
set_option maxRecDepth 10000 in
theorem sh_cE_image {E : yE} {a : Int} {σ : ySt} {ρ : Int} {τ : ySt} (h : cE_image a σ = some (ρ, τ)) : Con E MX11_image 2 0 0 [.inr (.inr (0 + 1)), .inl a] 150 (ov σ) (some (.inl ρ)) (ov τ) := by
  unfold cE_image at h
  refine Con.ofY (by decide +kernel) (by simp [yWords, yCat]) (fun hok _ => ?_)
  show Y E MX11_image (yRm 2 0 0) (yQf E (150 + 0) 0 0 (some (.inl ρ)) (ov τ)) 0 [(0, .inr (.inr (0 + 1))), (1, .inl a)] [] (ov σ) 150 0 0
  refine y_iload_n (show decode cX11_image 0 = .ok (.iload_n 1, 1) by decide +kernel) 1 rfl ?_
  by_cases c1 : a < 0
  · rw [if_pos c1] at h
    refine y_if_lt_t (tgt := 9) (show decode cX11_image 1 = .ok (.ifCond .lt 8, 3) by decide +kernel) rfl c1 ?_
    refine y_iconst (show decode cX11_image 9 = .ok (.iconst (-1), 1) by decide +kernel) rfl ?_
    cases h
    exact y_iret (show decode cX11_image 10 = .ok (.ireturn, 1) by decide +kernel) rfl
  · rw [if_neg c1] at h
    refine y_if_lt_f (show decode cX11_image 1 = .ok (.ifCond .lt 8, 3) by decide +kernel) c1 (by decide) ?_
    refine y_iload_n (show decode cX11_image 4 = .ok (.iload_n 1, 1) by decide +kernel) 1 rfl ?_
    refine y_iconst (show decode cX11_image 5 = .ok (.iconst 3, 1) by decide +kernel) rfl ?_
    by_cases c2 : a < 3
    · rw [if_pos c2] at h
      refine y_icmp_lt_t (tgt := 11) (show decode cX11_image 6 = .ok (.if_icmp .lt 5, 3) by decide +kernel) rfl c2 ?_
      refine y_aload_n (show decode cX11_image 11 = .ok (.aload_n 0, 1) by decide +kernel) 0 rfl ?_
      refine y_getf 0 11 4 30 (by decide) rfl (by decide) (by decide) q3_31 (show decode cX11_image 12 = .ok (.getfield 30, 3) by decide +kernel) (v := .inr (.inr (12 + 1))) rfl ?_
      refine y_iload_n (show decode cX11_image 15 = .ok (.iload_n 1, 1) by decide +kernel) 1 rfl ?_
      obtain ⟨T3, c4, c5, c6, c7, h⟩ := chkB_some h
      refine y_aald 12 24 3 (by decide) rfl (by decide) c6 c7 (show decode cX11_image 16 = .ok (.aaload, 1) by decide +kernel) (v := .inr (.inr (T3 + 1))) (by rw [c5]) ?_
      refine y_aload_n (show decode cX11_image 17 = .ok (.aload_n 0, 1) by decide +kernel) 0 rfl ?_
      refine y_getf 0 11 3 26 (by decide) rfl (by decide) (by decide) q3_30 (show decode cX11_image 18 = .ok (.getfield 26, 3) by decide +kernel) (v := .inr (.inr (9 + 1))) rfl ?_
      obtain ⟨σ9, e8, h⟩ := bndO_some h
      refine y_callV (np := 1) (st := []) (as := [.inr (.inr (9 + 1))]) T3 4 (sh_cEa_copyFrom e8) q6_14 q6_11 q6_12 q6_13 q1_4 (by omega) (by rcases c4 with rfl | rfl | rfl | rfl <;> rfl) (by decide) rfl (by decide) (by decide +kernel) (by decide) rfl (Nat.le_of_ble_eq_true rfl) (show decode cX11_image 21 = .ok (.invokevirtual 240, 3) by decide +kernel) rfl ?_
      refine y_aload_n (show decode cX11_image 24 = .ok (.aload_n 0, 1) by decide +kernel) 0 rfl ?_
      refine y_getf 0 11 4 30 (by decide) rfl (by decide) (by decide) q3_31 (show decode cX11_image 25 = .ok (.getfield 30, 3) by decide +kernel) (v := .inr (.inr (12 + 1))) rfl ?_
      refine y_iload_n (show decode cX11_image 28 = .ok (.iload_n 1, 1) by decide +kernel) 1 rfl ?_
      obtain ⟨T10, c11, c12, c13, c14, h⟩ := chkB_some h
      refine y_aald 12 24 3 (by decide) rfl (by decide) c13 c14 (show decode cX11_image 29 = .ok (.aaload, 1) by decide +kernel) (v := .inr (.inr (T10 + 1))) (by rw [c12]) ?_
      refine y_iconst (show decode cX11_image 30 = .ok (.iconst 1, 1) by decide +kernel) rfl ?_
      obtain ⟨σ15, e16, h⟩ := bnd_i h
      refine yo_putZ T10 4 4 103 (by omega) (by rcases c11 with rfl | rfl | rfl | rfl <;> rfl) (by decide) (by decide) q1_119 rfl (show decode cX11_image 31 = .ok (.putfield 103, 3) by decide +kernel) rfl rfl (Or.inr rfl) (ov_set1 e16 (by rcases c11 with rfl | rfl | rfl | rfl <;> rfl)) ?_
      refine y_aload_n (show decode cX11_image 34 = .ok (.aload_n 0, 1) by decide +kernel) 0 rfl ?_
      refine y_getf 0 11 3 26 (by decide) rfl (by decide) (by decide) q3_30 (show decode cX11_image 35 = .ok (.getfield 26, 3) by decide +kernel) (v := .inr (.inr (9 + 1))) rfl ?_
      refine y_getf 9 4 2 217 (by decide) rfl (by decide) (by decide) q1_116 (show decode cX11_image 38 = .ok (.getfield 217, 3) by decide +kernel) (v := .inl (σ15 9 2)) rfl ?_
      cases h
      exact y_iret (show decode cX11_image 41 = .ok (.ireturn, 1) by decide +kernel) rfl
    · rw [if_neg c2] at h
      refine y_icmp_lt_f (show decode cX11_image 6 = .ok (.if_icmp .lt 5, 3) by decide +kernel) c2 (by decide) ?_
      refine y_iconst (show decode cX11_image 9 = .ok (.iconst (-1), 1) by decide +kernel) rfl ?_
      cases h
      exact y_iret (show decode cX11_image 10 = .ok (.ireturn, 1) by decide +kernel) rfl
abbrev MX11_back : yM := (yX11_back, cX11_back, 2, some .int)
def cE_back (a : Int) (σ : ySt) : Option (Int × ySt) :=
  if a < 0 then
    some ((-1), σ)
  else
    if a ≥ 3 then
      some ((-1), σ)
    else
      chkB a fun T3 =>
      if ¬ (σ T3 4) = 0 then
        chkB a fun T9 =>
        bndO (cEa_copyFrom 9 T9 σ) fun σ15 =>
        some ((σ15 9 2), σ15)
      else
        some ((-1), σ)
set_option maxHeartbeats 4000000 in
set_option maxRecDepth 10000 in
theorem sh_cE_back {E : yE} {a : Int} {σ : ySt} {ρ : Int} {τ : ySt} (h : cE_back a σ = some (ρ, τ)) : Con E MX11_back 2 0 0 [.inr (.inr (0 + 1)), .inl a] 150 (ov σ) (some (.inl ρ)) (ov τ) := by
  unfold cE_back at h
  refine Con.ofY (by decide +kernel) (by simp [yWords, yCat]) (fun hok _ => ?_)
  show Y E MX11_back (yRm 2 0 0) (yQf E (150 + 0) 0 0 (some (.inl ρ)) (ov τ)) 0 [(0, .inr (.inr (0 + 1))), (1, .inl a)] [] (ov σ) 150 0 0
  refine y_iload_n (show decode cX11_back 0 = .ok (.iload_n 1, 1) by decide +kernel) 1 rfl ?_
  by_cases c1 : a < 0
  · rw [if_pos c1] at h
    refine y_if_lt_t (tgt := 21) (show decode cX11_back 1 = .ok (.ifCond .lt 20, 3) by decide +kernel) rfl c1 ?_
    refine y_iconst (show decode cX11_back 21 = .ok (.iconst (-1), 1) by decide +kernel) rfl ?_
    cases h
    exact y_iret (show decode cX11_back 22 = .ok (.ireturn, 1) by decide +kernel) rfl
  · rw [if_neg c1] at h
    refine y_if_lt_f (show decode cX11_back 1 = .ok (.ifCond .lt 20, 3) by decide +kernel) c1 (by decide) ?_
    refine y_iload_n (show decode cX11_back 4 = .ok (.iload_n 1, 1) by decide +kernel) 1 rfl ?_
    refine y_iconst (show decode cX11_back 5 = .ok (.iconst 3, 1) by decide +kernel) rfl ?_
    by_cases c2 : a ≥ 3
    · rw [if_pos c2] at h
      refine y_icmp_ge_t (tgt := 21) (show decode cX11_back 6 = .ok (.if_icmp .ge 15, 3) by decide +kernel) rfl c2 ?_
      refine y_iconst (show decode cX11_back 21 = .ok (.iconst (-1), 1) by decide +kernel) rfl ?_
      cases h
      exact y_iret (show decode cX11_back 22 = .ok (.ireturn, 1) by decide +kernel) rfl
    · rw [if_neg c2] at h
      refine y_icmp_ge_f (show decode cX11_back 6 = .ok (.if_icmp .ge 15, 3) by decide +kernel) c2 (by decide) ?_
      refine y_aload_n (show decode cX11_back 9 = .ok (.aload_n 0, 1) by decide +kernel) 0 rfl ?_
      refine y_getf 0 11 4 30 (by decide) rfl (by decide) (by decide) q3_31 (show decode cX11_back 10 = .ok (.getfield 30, 3) by decide +kernel) (v := .inr (.inr (12 + 1))) rfl ?_
      refine y_iload_n (show decode cX11_back 13 = .ok (.iload_n 1, 1) by decide +kernel) 1 rfl ?_
      obtain ⟨T3, c4, c5, c6, c7, h⟩ := chkB_some h
      refine y_aald 12 24 3 (by decide) rfl (by decide) c6 c7 (show decode cX11_back 14 = .ok (.aaload, 1) by decide +kernel) (v := .inr (.inr (T3 + 1))) (by rw [c5]) ?_
      refine y_getf T3 4 4 103 (by omega) (by rcases c4 with rfl | rfl | rfl | rfl <;> rfl) (by decide) (by decide) q1_119 (show decode cX11_back 15 = .ok (.getfield 103, 3) by decide +kernel) (v := .inl (σ T3 4)) (by rcases c4 with rfl | rfl | rfl | rfl <;> rfl) ?_
      by_cases c8 : ¬ (σ T3 4) = 0
      · rw [if_pos c8] at h
        refine y_if_ne_t (tgt := 23) (show decode cX11_back 18 = .ok (.ifCond .ne 5, 3) by decide +kernel) rfl c8 ?_
        refine y_aload_n (show decode cX11_back 23 = .ok (.aload_n 0, 1) by decide +kernel) 0 rfl ?_
        refine y_getf 0 11 3 26 (by decide) rfl (by decide) (by decide) q3_30 (show decode cX11_back 24 = .ok (.getfield 26, 3) by decide +kernel) (v := .inr (.inr (9 + 1))) rfl ?_
        refine y_aload_n (show decode cX11_back 27 = .ok (.aload_n 0, 1) by decide +kernel) 0 rfl ?_
        refine y_getf 0 11 4 30 (by decide) rfl (by decide) (by decide) q3_31 (show decode cX11_back 28 = .ok (.getfield 30, 3) by decide +kernel) (v := .inr (.inr (12 + 1))) rfl ?_
        refine y_iload_n (show decode cX11_back 31 = .ok (.iload_n 1, 1) by decide +kernel) 1 rfl ?_
        obtain ⟨T9, c10, c11, c12, c13, h⟩ := chkB_some h
        refine y_aald 12 24 3 (by decide) rfl (by decide) c12 c13 (show decode cX11_back 32 = .ok (.aaload, 1) by decide +kernel) (v := .inr (.inr (T9 + 1))) (by rw [c11]) ?_
        obtain ⟨σ15, e14, h⟩ := bndO_some h
        refine y_callV (np := 1) (st := []) (as := [.inr (.inr (T9 + 1))]) 9 4 (sh_cEa_copyFrom e14) q6_14 q6_11 q6_12 q6_13 q1_4 (by decide) rfl (by decide) rfl (by decide) (by decide +kernel) (by decide) rfl (Nat.le_of_ble_eq_true rfl) (show decode cX11_back 33 = .ok (.invokevirtual 240, 3) by decide +kernel) rfl ?_
        refine y_aload_n (show decode cX11_back 36 = .ok (.aload_n 0, 1) by decide +kernel) 0 rfl ?_
        refine y_getf 0 11 3 26 (by decide) rfl (by decide) (by decide) q3_30 (show decode cX11_back 37 = .ok (.getfield 26, 3) by decide +kernel) (v := .inr (.inr (9 + 1))) rfl ?_
        refine y_getf 9 4 2 217 (by decide) rfl (by decide) (by decide) q1_116 (show decode cX11_back 40 = .ok (.getfield 217, 3) by decide +kernel) (v := .inl (σ15 9 2)) rfl ?_
        cases h
        exact y_iret (show decode cX11_back 43 = .ok (.ireturn, 1) by decide +kernel) rfl
      · rw [if_neg c8] at h
        refine y_if_ne_f (show decode cX11_back 18 = .ok (.ifCond .ne 5, 3) by decide +kernel) c8 (by decide) ?_
        refine y_iconst (show decode cX11_back 21 = .ok (.iconst (-1), 1) by decide +kernel) rfl ?_
        cases h
        exact y_iret (show decode cX11_back 22 = .ok (.ireturn, 1) by decide +kernel) rfl
abbrev MX11_about : yM := (yX11_about, cX11_about, 2, some .int)
def cE_about (a : Int) (σ : ySt) : Option (Int) :=
  if a = 0 then
    chkT (σ 0 5) fun T2 =>
    some (σ (T2 + 1) 1)
  else
  if a = 1 then
    chkT (σ 0 5) fun T6 =>
    some (σ (T6 + 3) 1)
  else
  if a = 2 then
    chkT (σ 0 5) fun T10 =>
    some (σ (T10 + 5) 1)
  else
  if a = 3 then
    chkT (σ 0 5) fun T14 =>
    some (σ T14 14)
  else
  if a = 4 then
    chkT (σ 0 5) fun T18 =>
    some (σ T18 15)
  else
  if a = 5 then
    some (σ 3 5)
  else
  if a = 6 then
    some (σ 3 6)
  else
  if a = 7 then
    some (σ 1 1)
  else
  if a = 8 then
    some (σ 9 2)
  else
  if a = 9 then
    some (σ 9 3)
  else
  if a = 10 then
    chkT (σ 0 5) fun T27 =>
    some (σ (T27 + 17) 3)
  else
  if a = 11 then
    chkT (σ 0 5) fun T31 =>
    some (σ T31 16)
  else
  if a = 12 then
    chkT (σ 0 5) fun T35 =>
    some (σ T35 17)
  else
  some (-1)
set_option maxHeartbeats 4000000 in
set_option maxRecDepth 10000 in
theorem sh_cE_about {E : yE} {a : Int} {σ : ySt} {ρ : Int} (h : cE_about a σ = some ρ) : Con E MX11_about 0 0 0 [.inr (.inr (0 + 1)), .inl a] 150 (ov σ) (some (.inl ρ)) (ov σ) := by
  unfold cE_about at h
  refine Con.ofY (by decide +kernel) (by simp [yWords, yCat]) (fun hok _ => ?_)
  show Y E MX11_about (yRm 0 0 0) (yQf E (150 + 0) 0 0 (some (.inl ρ)) (ov σ)) 0 [(0, .inr (.inr (0 + 1))), (1, .inl a)] [] (ov σ) 150 0 0
  refine y_iload_n (show decode cX11_about 0 = .ok (.iload_n 1, 1) by decide +kernel) 1 rfl ?_
  by_cases c1 : a = 0
  · rw [if_pos c1] at h
    refine y_tableIn (off := 67) (tgt := 68) (show decode cX11_about 1 = .ok (.tableswitch 183 0 12 #[67, 78, 89, 100, 108, 116, 124, 132, 140, 148, 156, 167, 175], 67) by decide +kernel) (by omega) (by omega) (by rw [c1]; rfl) rfl ?_
    refine y_aload_n (show decode cX11_about 68 = .ok (.aload_n 0, 1) by decide +kernel) 0 rfl ?_
    obtain ⟨T2, c3, c4, h⟩ := chkT_some h
    refine y_getf 0 11 5 37 (by decide) rfl (by decide) (by decide) q3_32 (show decode cX11_about 69 = .ok (.getfield 37, 3) by decide +kernel) (v := .inr (.inr (T2 + 1))) (by rw [← c4]; rfl) ?_
    refine y_getf T2 9 0 244 (by omega) (by rcases c3 with rfl | rfl <;> rfl) (by decide) (by decide) q1_199 (show decode cX11_about 72 = .ok (.getfield 244, 3) by decide +kernel) (v := .inr (.inr ((T2 + 1) + 1))) (by rcases c3 with rfl | rfl <;> rfl) ?_
    refine y_getf (T2 + 1) 5 1 111 (by omega) (by rcases c3 with rfl | rfl <;> rfl) (by decide) (by decide) q1_151 (show decode cX11_about 75 = .ok (.getfield 111, 3) by decide +kernel) (v := .inl (σ (T2 + 1) 1)) (by rcases c3 with rfl | rfl <;> rfl) ?_
    cases h
    exact y_iret (show decode cX11_about 78 = .ok (.ireturn, 1) by decide +kernel) rfl
  rw [if_neg c1] at h
  by_cases c5 : a = 1
  · rw [if_pos c5] at h
    refine y_tableIn (off := 78) (tgt := 79) (show decode cX11_about 1 = .ok (.tableswitch 183 0 12 #[67, 78, 89, 100, 108, 116, 124, 132, 140, 148, 156, 167, 175], 67) by decide +kernel) (by omega) (by omega) (by rw [c5]; rfl) rfl ?_
    refine y_aload_n (show decode cX11_about 79 = .ok (.aload_n 0, 1) by decide +kernel) 0 rfl ?_
    obtain ⟨T6, c7, c8, h⟩ := chkT_some h
    refine y_getf 0 11 5 37 (by decide) rfl (by decide) (by decide) q3_32 (show decode cX11_about 80 = .ok (.getfield 37, 3) by decide +kernel) (v := .inr (.inr (T6 + 1))) (by rw [← c8]; rfl) ?_
    refine y_getf T6 9 1 107 (by omega) (by rcases c7 with rfl | rfl <;> rfl) (by decide) (by decide) q1_204 (show decode cX11_about 83 = .ok (.getfield 107, 3) by decide +kernel) (v := .inr (.inr ((T6 + 3) + 1))) (by rcases c7 with rfl | rfl <;> rfl) ?_
    refine y_getf (T6 + 3) 5 1 111 (by omega) (by rcases c7 with rfl | rfl <;> rfl) (by decide) (by decide) q1_151 (show decode cX11_about 86 = .ok (.getfield 111, 3) by decide +kernel) (v := .inl (σ (T6 + 3) 1)) (by rcases c7 with rfl | rfl <;> rfl) ?_
    cases h
    exact y_iret (show decode cX11_about 89 = .ok (.ireturn, 1) by decide +kernel) rfl
  rw [if_neg c5] at h
  by_cases c9 : a = 2
  · rw [if_pos c9] at h
    refine y_tableIn (off := 89) (tgt := 90) (show decode cX11_about 1 = .ok (.tableswitch 183 0 12 #[67, 78, 89, 100, 108, 116, 124, 132, 140, 148, 156, 167, 175], 67) by decide +kernel) (by omega) (by omega) (by rw [c9]; rfl) rfl ?_
    refine y_aload_n (show decode cX11_about 90 = .ok (.aload_n 0, 1) by decide +kernel) 0 rfl ?_
    obtain ⟨T10, c11, c12, h⟩ := chkT_some h
    refine y_getf 0 11 5 37 (by decide) rfl (by decide) (by decide) q3_32 (show decode cX11_about 91 = .ok (.getfield 37, 3) by decide +kernel) (v := .inr (.inr (T10 + 1))) (by rw [← c12]; rfl) ?_
    refine y_getf T10 9 2 247 (by omega) (by rcases c11 with rfl | rfl <;> rfl) (by decide) (by decide) q1_208 (show decode cX11_about 94 = .ok (.getfield 247, 3) by decide +kernel) (v := .inr (.inr ((T10 + 5) + 1))) (by rcases c11 with rfl | rfl <;> rfl) ?_
    refine y_getf (T10 + 5) 5 1 111 (by omega) (by rcases c11 with rfl | rfl <;> rfl) (by decide) (by decide) q1_151 (show decode cX11_about 97 = .ok (.getfield 111, 3) by decide +kernel) (v := .inl (σ (T10 + 5) 1)) (by rcases c11 with rfl | rfl <;> rfl) ?_
    cases h
    exact y_iret (show decode cX11_about 100 = .ok (.ireturn, 1) by decide +kernel) rfl
  rw [if_neg c9] at h
  by_cases c13 : a = 3
  · rw [if_pos c13] at h
    refine y_tableIn (off := 100) (tgt := 101) (show decode cX11_about 1 = .ok (.tableswitch 183 0 12 #[67, 78, 89, 100, 108, 116, 124, 132, 140, 148, 156, 167, 175], 67) by decide +kernel) (by omega) (by omega) (by rw [c13]; rfl) rfl ?_
    refine y_aload_n (show decode cX11_about 101 = .ok (.aload_n 0, 1) by decide +kernel) 0 rfl ?_
    obtain ⟨T14, c15, c16, h⟩ := chkT_some h
    refine y_getf 0 11 5 37 (by decide) rfl (by decide) (by decide) q3_32 (show decode cX11_about 102 = .ok (.getfield 37, 3) by decide +kernel) (v := .inr (.inr (T14 + 1))) (by rw [← c16]; rfl) ?_
    refine y_getf T14 9 14 250 (by omega) (by rcases c15 with rfl | rfl <;> rfl) (by decide) (by decide) q2_11 (show decode cX11_about 105 = .ok (.getfield 250, 3) by decide +kernel) (v := .inl (σ T14 14)) (by rcases c15 with rfl | rfl <;> rfl) ?_
    cases h
    exact y_iret (show decode cX11_about 108 = .ok (.ireturn, 1) by decide +kernel) rfl
  rw [if_neg c13] at h
  by_cases c17 : a = 4
  · rw [if_pos c17] at h
    refine y_tableIn (off := 108) (tgt := 109) (show decode cX11_about 1 = .ok (.tableswitch 183 0 12 #[67, 78, 89, 100, 108, 116, 124, 132, 140, 148, 156, 167, 175], 67) by decide +kernel) (by omega) (by omega) (by rw [c17]; rfl) rfl ?_
    refine y_aload_n (show decode cX11_about 109 = .ok (.aload_n 0, 1) by decide +kernel) 0 rfl ?_
    obtain ⟨T18, c19, c20, h⟩ := chkT_some h
    refine y_getf 0 11 5 37 (by decide) rfl (by decide) (by decide) q3_32 (show decode cX11_about 110 = .ok (.getfield 37, 3) by decide +kernel) (v := .inr (.inr (T18 + 1))) (by rw [← c20]; rfl) ?_
    refine y_getf T18 9 15 253 (by omega) (by rcases c19 with rfl | rfl <;> rfl) (by decide) (by decide) q2_14 (show decode cX11_about 113 = .ok (.getfield 253, 3) by decide +kernel) (v := .inl (σ T18 15)) (by rcases c19 with rfl | rfl <;> rfl) ?_
    cases h
    exact y_iret (show decode cX11_about 116 = .ok (.ireturn, 1) by decide +kernel) rfl
  rw [if_neg c17] at h
  by_cases c21 : a = 5
  · rw [if_pos c21] at h
    refine y_tableIn (off := 116) (tgt := 117) (show decode cX11_about 1 = .ok (.tableswitch 183 0 12 #[67, 78, 89, 100, 108, 116, 124, 132, 140, 148, 156, 167, 175], 67) by decide +kernel) (by omega) (by omega) (by rw [c21]; rfl) rfl ?_
    refine y_aload_n (show decode cX11_about 117 = .ok (.aload_n 0, 1) by decide +kernel) 0 rfl ?_
    refine y_getf 0 11 1 19 (by decide) rfl (by decide) (by decide) q3_28 (show decode cX11_about 118 = .ok (.getfield 19, 3) by decide +kernel) (v := .inr (.inr (3 + 1))) rfl ?_
    refine y_getf 3 1 5 100 (by decide) rfl (by decide) (by decide) q1_86 (show decode cX11_about 121 = .ok (.getfield 100, 3) by decide +kernel) (v := .inl (σ 3 5)) rfl ?_
    cases h
    exact y_iret (show decode cX11_about 124 = .ok (.ireturn, 1) by decide +kernel) rfl
  rw [if_neg c21] at h
  by_cases c22 : a = 6
  · rw [if_pos c22] at h
    refine y_tableIn (off := 124) (tgt := 125) (show decode cX11_about 1 = .ok (.tableswitch 183 0 12 #[67, 78, 89, 100, 108, 116, 124, 132, 140, 148, 156, 167, 175], 67) by decide +kernel) (by omega) (by omega) (by rw [c22]; rfl) rfl ?_
    refine y_aload_n (show decode cX11_about 125 = .ok (.aload_n 0, 1) by decide +kernel) 0 rfl ?_
    refine y_getf 0 11 1 19 (by decide) rfl (by decide) (by decide) q3_28 (show decode cX11_about 126 = .ok (.getfield 19, 3) by decide +kernel) (v := .inr (.inr (3 + 1))) rfl ?_
    refine y_getf 3 1 6 229 (by decide) rfl (by decide) (by decide) q1_88 (show decode cX11_about 129 = .ok (.getfield 229, 3) by decide +kernel) (v := .inl (σ 3 6)) rfl ?_
    cases h
    exact y_iret (show decode cX11_about 132 = .ok (.ireturn, 1) by decide +kernel) rfl
  rw [if_neg c22] at h
  by_cases c23 : a = 7
  · rw [if_pos c23] at h
    refine y_tableIn (off := 132) (tgt := 133) (show decode cX11_about 1 = .ok (.tableswitch 183 0 12 #[67, 78, 89, 100, 108, 116, 124, 132, 140, 148, 156, 167, 175], 67) by decide +kernel) (by omega) (by omega) (by rw [c23]; rfl) rfl ?_
    refine y_aload_n (show decode cX11_about 133 = .ok (.aload_n 0, 1) by decide +kernel) 0 rfl ?_
    refine y_getf 0 11 0 12 (by decide) rfl (by decide) (by decide) q3_27 (show decode cX11_about 134 = .ok (.getfield 12, 3) by decide +kernel) (v := .inr (.inr (1 + 1))) rfl ?_
    refine y_getf 1 8 1 83 (by decide) rfl (by decide) (by decide) q1_38 (show decode cX11_about 137 = .ok (.getfield 83, 3) by decide +kernel) (v := .inl (σ 1 1)) rfl ?_
    cases h
    exact y_iret (show decode cX11_about 140 = .ok (.ireturn, 1) by decide +kernel) rfl
  rw [if_neg c23] at h
  by_cases c24 : a = 8
  · rw [if_pos c24] at h
    refine y_tableIn (off := 140) (tgt := 141) (show decode cX11_about 1 = .ok (.tableswitch 183 0 12 #[67, 78, 89, 100, 108, 116, 124, 132, 140, 148, 156, 167, 175], 67) by decide +kernel) (by omega) (by omega) (by rw [c24]; rfl) rfl ?_
    refine y_aload_n (show decode cX11_about 141 = .ok (.aload_n 0, 1) by decide +kernel) 0 rfl ?_
    refine y_getf 0 11 3 26 (by decide) rfl (by decide) (by decide) q3_30 (show decode cX11_about 142 = .ok (.getfield 26, 3) by decide +kernel) (v := .inr (.inr (9 + 1))) rfl ?_
    refine y_getf 9 4 2 217 (by decide) rfl (by decide) (by decide) q1_116 (show decode cX11_about 145 = .ok (.getfield 217, 3) by decide +kernel) (v := .inl (σ 9 2)) rfl ?_
    cases h
    exact y_iret (show decode cX11_about 148 = .ok (.ireturn, 1) by decide +kernel) rfl
  rw [if_neg c24] at h
  by_cases c25 : a = 9
  · rw [if_pos c25] at h
    refine y_tableIn (off := 148) (tgt := 149) (show decode cX11_about 1 = .ok (.tableswitch 183 0 12 #[67, 78, 89, 100, 108, 116, 124, 132, 140, 148, 156, 167, 175], 67) by decide +kernel) (by omega) (by omega) (by rw [c25]; rfl) rfl ?_
    refine y_aload_n (show decode cX11_about 149 = .ok (.aload_n 0, 1) by decide +kernel) 0 rfl ?_
    refine y_getf 0 11 3 26 (by decide) rfl (by decide) (by decide) q3_30 (show decode cX11_about 150 = .ok (.getfield 26, 3) by decide +kernel) (v := .inr (.inr (9 + 1))) rfl ?_
    refine y_getf 9 4 3 256 (by decide) rfl (by decide) (by decide) q1_118 (show decode cX11_about 153 = .ok (.getfield 256, 3) by decide +kernel) (v := .inl (σ 9 3)) rfl ?_
    cases h
    exact y_iret (show decode cX11_about 156 = .ok (.ireturn, 1) by decide +kernel) rfl
  rw [if_neg c25] at h
  by_cases c26 : a = 10
  · rw [if_pos c26] at h
    refine y_tableIn (off := 156) (tgt := 157) (show decode cX11_about 1 = .ok (.tableswitch 183 0 12 #[67, 78, 89, 100, 108, 116, 124, 132, 140, 148, 156, 167, 175], 67) by decide +kernel) (by omega) (by omega) (by rw [c26]; rfl) rfl ?_
    refine y_aload_n (show decode cX11_about 157 = .ok (.aload_n 0, 1) by decide +kernel) 0 rfl ?_
    obtain ⟨T27, c28, c29, h⟩ := chkT_some h
    refine y_getf 0 11 5 37 (by decide) rfl (by decide) (by decide) q3_32 (show decode cX11_about 158 = .ok (.getfield 37, 3) by decide +kernel) (v := .inr (.inr (T27 + 1))) (by rw [← c29]; rfl) ?_
    refine y_getf T27 9 13 259 (by omega) (by rcases c28 with rfl | rfl <;> rfl) (by decide) (by decide) q2_6 (show decode cX11_about 161 = .ok (.getfield 259, 3) by decide +kernel) (v := .inr (.inr ((T27 + 17) + 1))) (by rcases c28 with rfl | rfl <;> rfl) ?_
    refine y_getf (T27 + 17) 7 3 263 (by omega) (by rcases c28 with rfl | rfl <;> rfl) (by decide) (by decide) q1_169 (show decode cX11_about 164 = .ok (.getfield 263, 3) by decide +kernel) (v := .inl (σ (T27 + 17) 3)) (by rcases c28 with rfl | rfl <;> rfl) ?_
    cases h
    exact y_iret (show decode cX11_about 167 = .ok (.ireturn, 1) by decide +kernel) rfl
  rw [if_neg c26] at h
  by_cases c30 : a = 11
  · rw [if_pos c30] at h
    refine y_tableIn (off := 167) (tgt := 168) (show decode cX11_about 1 = .ok (.tableswitch 183 0 12 #[67, 78, 89, 100, 108, 116, 124, 132, 140, 148, 156, 167, 175], 67) by decide +kernel) (by omega) (by omega) (by rw [c30]; rfl) rfl ?_
    refine y_aload_n (show decode cX11_about 168 = .ok (.aload_n 0, 1) by decide +kernel) 0 rfl ?_
    obtain ⟨T31, c32, c33, h⟩ := chkT_some h
    refine y_getf 0 11 5 37 (by decide) rfl (by decide) (by decide) q3_32 (show decode cX11_about 169 = .ok (.getfield 37, 3) by decide +kernel) (v := .inr (.inr (T31 + 1))) (by rw [← c33]; rfl) ?_
    refine y_getf T31 9 16 268 (by omega) (by rcases c32 with rfl | rfl <;> rfl) (by decide) (by decide) q2_18 (show decode cX11_about 172 = .ok (.getfield 268, 3) by decide +kernel) (v := .inl (σ T31 16)) (by rcases c32 with rfl | rfl <;> rfl) ?_
    cases h
    exact y_iret (show decode cX11_about 175 = .ok (.ireturn, 1) by decide +kernel) rfl
  rw [if_neg c30] at h
  by_cases c34 : a = 12
  · rw [if_pos c34] at h
    refine y_tableIn (off := 175) (tgt := 176) (show decode cX11_about 1 = .ok (.tableswitch 183 0 12 #[67, 78, 89, 100, 108, 116, 124, 132, 140, 148, 156, 167, 175], 67) by decide +kernel) (by omega) (by omega) (by rw [c34]; rfl) rfl ?_
    refine y_aload_n (show decode cX11_about 176 = .ok (.aload_n 0, 1) by decide +kernel) 0 rfl ?_
    obtain ⟨T35, c36, c37, h⟩ := chkT_some h
    refine y_getf 0 11 5 37 (by decide) rfl (by decide) (by decide) q3_32 (show decode cX11_about 177 = .ok (.getfield 37, 3) by decide +kernel) (v := .inr (.inr (T35 + 1))) (by rw [← c37]; rfl) ?_
    refine y_getf T35 9 17 164 (by omega) (by rcases c36 with rfl | rfl <;> rfl) (by decide) (by decide) q2_23 (show decode cX11_about 180 = .ok (.getfield 164, 3) by decide +kernel) (v := .inl (σ T35 17)) (by rcases c36 with rfl | rfl <;> rfl) ?_
    cases h
    exact y_iret (show decode cX11_about 183 = .ok (.ireturn, 1) by decide +kernel) rfl
  rw [if_neg c34] at h
  refine y_tableOut (tgt := 184) (show decode cX11_about 1 = .ok (.tableswitch 183 0 12 #[67, 78, 89, 100, 108, 116, 124, 132, 140, 148, 156, 167, 175], 67) by decide +kernel) (by omega) rfl ?_
  refine y_iconst (show decode cX11_about 184 = .ok (.iconst (-1), 1) by decide +kernel) rfl ?_
  cases h
  exact y_iret (show decode cX11_about 185 = .ok (.ireturn, 1) by decide +kernel) rfl
