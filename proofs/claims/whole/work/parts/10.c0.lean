abbrev MJ7_rangeCheck_23922 : yM := (yJ7_rangeCheck_23922, cJ7_rangeCheck_23922, 3, none)
def jA_rangeCheck_23922 (a : Int) (b : Int) (c : Int) (σ : ySt) : Option (Unit) :=
  if b ≤ c then
    if b ≥ 0 then
      if c ≤ a then
        some ()
      else
        none
    else
      none
  else
    none
set_option maxHeartbeats 4000000 in
set_option maxRecDepth 10000 in
theorem sh_jA_rangeCheck_23922 {E : yE} {a : Int} {b : Int} {c : Int} {σ : ySt} (h : jA_rangeCheck_23922 a b c σ = some ()) : Con E MJ7_rangeCheck_23922 0 0 0 [.inl a, .inl b, .inl c] 150 (ov σ) none (ov σ) := by
  unfold jA_rangeCheck_23922 at h
  refine Con.ofY (by decide +kernel) (by simp [yWords, yCat]) (fun hok _ => ?_)
  show Y E MJ7_rangeCheck_23922 (yRm 0 0 0) (yQf E (150 + 0) 0 0 none (ov σ)) 0 [(0, .inl a), (1, .inl b), (2, .inl c)] [] (ov σ) 150 0 0
  refine y_iload_n (show decode cJ7_rangeCheck_23922 0 = .ok (.iload_n 1, 1) by decide +kernel) 1 rfl ?_
  refine y_iload_n (show decode cJ7_rangeCheck_23922 1 = .ok (.iload_n 2, 1) by decide +kernel) 2 rfl ?_
  by_cases c1 : b ≤ c
  · rw [if_pos c1] at h
    refine y_icmp_le_t (tgt := 46) (show decode cJ7_rangeCheck_23922 2 = .ok (.if_icmp .le 44, 3) by decide +kernel) rfl c1 ?_
    refine y_iload_n (show decode cJ7_rangeCheck_23922 46 = .ok (.iload_n 1, 1) by decide +kernel) 1 rfl ?_
    by_cases c2 : b ≥ 0
    · rw [if_pos c2] at h
      refine y_if_ge_t (tgt := 59) (show decode cJ7_rangeCheck_23922 47 = .ok (.ifCond .ge 12, 3) by decide +kernel) rfl c2 ?_
      refine y_iload_n (show decode cJ7_rangeCheck_23922 59 = .ok (.iload_n 2, 1) by decide +kernel) 2 rfl ?_
      refine y_iload_n (show decode cJ7_rangeCheck_23922 60 = .ok (.iload_n 0, 1) by decide +kernel) 0 rfl ?_
      by_cases c3 : c ≤ a
      · rw [if_pos c3] at h
        refine y_icmp_le_t (tgt := 73) (show decode cJ7_rangeCheck_23922 61 = .ok (.if_icmp .le 12, 3) by decide +kernel) rfl c3 ?_
        cases h
        exact y_vret (show decode cJ7_rangeCheck_23922 73 = .ok (.return_, 1) by decide +kernel) rfl
      · rw [if_neg c3] at h
        refine y_icmp_le_f (show decode cJ7_rangeCheck_23922 61 = .ok (.if_icmp .le 12, 3) by decide +kernel) c3 (by decide) ?_
        cases h
    · rw [if_neg c2] at h
      refine y_if_ge_f (show decode cJ7_rangeCheck_23922 47 = .ok (.ifCond .ge 12, 3) by decide +kernel) c2 (by decide) ?_
      cases h
  · rw [if_neg c1] at h
    refine y_icmp_le_f (show decode cJ7_rangeCheck_23922 2 = .ok (.if_icmp .le 44, 3) by decide +kernel) c1 (by decide) ?_
    cases h
abbrev MJ7_fill_fda19 : yM := (yJ7_fill_fda19, cJ7_fill_fda19, 5, none)
def jA_fill_fda19 (N : Nat) (a : Nat) (b : Int) (c : Int) (d : Int) (σ : ySt) : Option (ySt) :=
  chk ((yKd a).1 = 20 ∧ a < 150) <|
  bndO (jA_rangeCheck_23922 ((yKd a).2 : Int) b c σ) fun u3 =>
  loopS1 (fun k6 x4 σ5 =>
    if x4 ≥ c then
      some σ5
    else
      chkA (yKd a).2 x4 <|
      bnd (yset σ5 a (x4).toNat d) fun σ9 =>
      chkI (x4 + 1) <|
      k6 (x4 + 1) σ9) N b σ
set_option maxHeartbeats 4000000 in
set_option maxRecDepth 10000 in
theorem sh_jA_fill_fda19 {E : yE} {N : Nat} {a : Nat} {b : Int} {c : Int} {d : Int} {σ : ySt} {τ : ySt} (h : jA_fill_fda19 N a b c d σ = some τ) : Con E MJ7_fill_fda19 1 0 0 [.inr (.inr (a + 1)), .inl b, .inl c, .inl d] 150 (ov σ) none (ov τ) := by
  unfold jA_fill_fda19 at h
  refine Con.ofY (by decide +kernel) (by simp [yWords, yCat]) (fun hok _ => ?_)
  show Y E MJ7_fill_fda19 (yRm 1 0 0) (yQf E (150 + 0) 0 0 none (ov τ)) 0 [(0, .inr (.inr (a + 1))), (1, .inl b), (2, .inl c), (3, .inl d)] [] (ov σ) 150 0 0
  obtain ⟨c1, h⟩ := chk_some h
  refine y_aload_n (show decode cJ7_fill_fda19 0 = .ok (.aload_n 0, 1) by decide +kernel) 0 rfl ?_
  refine y_alen a 20 (yKd a).2 c1.2 (yArr_kd c1) (by decide) (by decide) (yLen_ok c1.2) (show decode cJ7_fill_fda19 1 = .ok (.arraylength, 1) by decide +kernel) ?_
  refine y_iload_n (show decode cJ7_fill_fda19 2 = .ok (.iload_n 1, 1) by decide +kernel) 1 rfl ?_
  refine y_iload_n (show decode cJ7_fill_fda19 3 = .ok (.iload_n 2, 1) by decide +kernel) 2 rfl ?_
  obtain ⟨u3, e2, h⟩ := bndO_some h
  refine y_callS (np := 3) (st := []) (as := [.inl ((yKd a).2 : Int), .inl b, .inl c]) (sh_jA_rangeCheck_23922 e2) q5_48 q5_46 q5_47 q1_8 (by decide) (by decide +kernel) (by decide) rfl (Nat.le_of_ble_eq_true rfl) (show decode cJ7_fill_fda19 4 = .ok (.invokestatic 13, 3) by decide +kernel) rfl ?_
  refine y_iload_n (show decode cJ7_fill_fda19 7 = .ok (.iload_n 1, 1) by decide +kernel) 1 rfl ?_
  refine y_istore (show decode cJ7_fill_fda19 8 = .ok (.istore 4, 2) by decide +kernel) rfl (L1 := [(4, .inl b), (0, .inr (.inr (a + 1))), (1, .inl b), (2, .inl c), (3, .inl d)]) rfl ?_
  refine y_pick [1, 3, 4, 0] rfl ?_
  refine loopS1_ind (P := fun x4 σ5 => Y E MJ7_fill_fda19 (yRm 1 0 0) (yQf E (150 + 0) 0 0 none (ov τ)) 10 [(0, .inr (.inr (a + 1))), (2, .inl c), (3, .inl d), (4, .inl x4)] [] (ov σ5) 150 0 0) (fun k6 hk6 x4 σ5 h => ?_) _ _ _  h
  refine y_iload (show decode cJ7_fill_fda19 10 = .ok (.iload 4, 2) by decide +kernel) 3 rfl ?_
  refine y_iload_n (show decode cJ7_fill_fda19 12 = .ok (.iload_n 2, 1) by decide +kernel) 1 rfl ?_
  by_cases c7 : x4 ≥ c
  · rw [if_pos c7] at h
    refine y_icmp_ge_t (tgt := 27) (show decode cJ7_fill_fda19 13 = .ok (.if_icmp .ge 14, 3) by decide +kernel) rfl c7 ?_
    cases h
    exact y_vret (show decode cJ7_fill_fda19 27 = .ok (.return_, 1) by decide +kernel) rfl
  · rw [if_neg c7] at h
    refine y_icmp_ge_f (show decode cJ7_fill_fda19 13 = .ok (.if_icmp .ge 14, 3) by decide +kernel) c7 (by decide) ?_
    refine y_aload_n (show decode cJ7_fill_fda19 16 = .ok (.aload_n 0, 1) by decide +kernel) 0 rfl ?_
    refine y_iload (show decode cJ7_fill_fda19 17 = .ok (.iload 4, 2) by decide +kernel) 3 rfl ?_
    refine y_iload_n (show decode cJ7_fill_fda19 19 = .ok (.iload_n 3, 1) by decide +kernel) 2 rfl ?_
    obtain ⟨c8, h⟩ := chkA_some h
    obtain ⟨σ9, e10, h⟩ := bnd_i h
    refine yo_iast a (yKd a).2 c1.2 (yArr_kd c1) c8 (ov_set1 e10 (yArr_cr (by rw [c1.1]; decide) c1.2 _)) (show decode cJ7_fill_fda19 20 = .ok (.iastore, 1) by decide +kernel) ?_
    obtain ⟨c11, h⟩ := chkI_some h
    refine y_iinc (show decode cJ7_fill_fda19 21 = .ok (.iinc 4 1, 3) by decide +kernel) 3 rfl c11 rfl (L1 := [(4, .inl (x4 + 1)), (0, .inr (.inr (a + 1))), (2, .inl c), (3, .inl d)]) rfl ?_
    refine y_goto (tgt := 10) (show decode cJ7_fill_fda19 24 = .ok (.goto (-14), 3) by decide +kernel) rfl ?_
    refine y_pick [1, 2, 3, 0] rfl ?_
    exact hk6 _ _ h
abbrev MJ9_max_7cf53 : yM := (yJ9_max_7cf53, cJ9_max_7cf53, 2, some .int)
def jM_max_7cf53 (a : Int) (b : Int) (σ : ySt) : Option (Int) :=
  if a < b then
    some b
  else
    some a
set_option maxHeartbeats 4000000 in
set_option maxRecDepth 10000 in
theorem sh_jM_max_7cf53 {E : yE} {a : Int} {b : Int} {σ : ySt} {ρ : Int} (h : jM_max_7cf53 a b σ = some ρ) : Con E MJ9_max_7cf53 0 0 0 [.inl a, .inl b] 150 (ov σ) (some (.inl ρ)) (ov σ) := by
  unfold jM_max_7cf53 at h
  refine Con.ofY (by decide +kernel) (by simp [yWords, yCat]) (fun hok _ => ?_)
  show Y E MJ9_max_7cf53 (yRm 0 0 0) (yQf E (150 + 0) 0 0 (some (.inl ρ)) (ov σ)) 0 [(0, .inl a), (1, .inl b)] [] (ov σ) 150 0 0
  refine y_iload_n (show decode cJ9_max_7cf53 0 = .ok (.iload_n 0, 1) by decide +kernel) 0 rfl ?_
  refine y_iload_n (show decode cJ9_max_7cf53 1 = .ok (.iload_n 1, 1) by decide +kernel) 1 rfl ?_
  by_cases c1 : a < b
  · rw [if_pos c1] at h
    refine y_icmp_lt_t (tgt := 9) (show decode cJ9_max_7cf53 2 = .ok (.if_icmp .lt 7, 3) by decide +kernel) rfl c1 ?_
    refine y_iload_n (show decode cJ9_max_7cf53 9 = .ok (.iload_n 1, 1) by decide +kernel) 1 rfl ?_
    cases h
    exact y_iret (show decode cJ9_max_7cf53 10 = .ok (.ireturn, 1) by decide +kernel) rfl
  · rw [if_neg c1] at h
    refine y_icmp_lt_f (show decode cJ9_max_7cf53 2 = .ok (.if_icmp .lt 7, 3) by decide +kernel) c1 (by decide) ?_
    refine y_iload_n (show decode cJ9_max_7cf53 5 = .ok (.iload_n 0, 1) by decide +kernel) 0 rfl ?_
    refine y_goto (tgt := 10) (show decode cJ9_max_7cf53 6 = .ok (.goto 4, 3) by decide +kernel) rfl ?_
    cases h
    exact y_iret (show decode cJ9_max_7cf53 10 = .ok (.ireturn, 1) by decide +kernel) rfl
abbrev MJ9_min_7cf53 : yM := (yJ9_min_7cf53, cJ9_min_7cf53, 2, some .int)
def jM_min_7cf53 (a : Int) (b : Int) (σ : ySt) : Option (Int) :=
  if a > b then
    some b
  else
    some a
set_option maxHeartbeats 4000000 in
set_option maxRecDepth 10000 in
theorem sh_jM_min_7cf53 {E : yE} {a : Int} {b : Int} {σ : ySt} {ρ : Int} (h : jM_min_7cf53 a b σ = some ρ) : Con E MJ9_min_7cf53 0 0 0 [.inl a, .inl b] 150 (ov σ) (some (.inl ρ)) (ov σ) := by
  unfold jM_min_7cf53 at h
  refine Con.ofY (by decide +kernel) (by simp [yWords, yCat]) (fun hok _ => ?_)
  show Y E MJ9_min_7cf53 (yRm 0 0 0) (yQf E (150 + 0) 0 0 (some (.inl ρ)) (ov σ)) 0 [(0, .inl a), (1, .inl b)] [] (ov σ) 150 0 0
  refine y_iload_n (show decode cJ9_min_7cf53 0 = .ok (.iload_n 0, 1) by decide +kernel) 0 rfl ?_
  refine y_iload_n (show decode cJ9_min_7cf53 1 = .ok (.iload_n 1, 1) by decide +kernel) 1 rfl ?_
  by_cases c1 : a > b
  · rw [if_pos c1] at h
    refine y_icmp_gt_t (tgt := 9) (show decode cJ9_min_7cf53 2 = .ok (.if_icmp .gt 7, 3) by decide +kernel) rfl c1 ?_
    refine y_iload_n (show decode cJ9_min_7cf53 9 = .ok (.iload_n 1, 1) by decide +kernel) 1 rfl ?_
    cases h
    exact y_iret (show decode cJ9_min_7cf53 10 = .ok (.ireturn, 1) by decide +kernel) rfl
  · rw [if_neg c1] at h
    refine y_icmp_gt_f (show decode cJ9_min_7cf53 2 = .ok (.if_icmp .gt 7, 3) by decide +kernel) c1 (by decide) ?_
    refine y_iload_n (show decode cJ9_min_7cf53 5 = .ok (.iload_n 0, 1) by decide +kernel) 0 rfl ?_
    refine y_goto (tgt := 10) (show decode cJ9_min_7cf53 6 = .ok (.goto 4, 3) by decide +kernel) rfl ?_
    cases h
    exact y_iret (show decode cJ9_min_7cf53 10 = .ok (.ireturn, 1) by decide +kernel) rfl
abbrev MJ7_fill_53178 : yM := (yJ7_fill_53178, cJ7_fill_53178, 4, none)
def jA_fill_53178 (N : Nat) (a : Nat) (b : Int) (σ : ySt) : Option (ySt) :=
  chk ((yKd a).1 = 20 ∧ a < 150) <|
  loopS1 (fun k4 x2 σ3 =>
    if x2 ≥ ((yKd a).2 : Int) then
      some σ3
    else
      chkA (yKd a).2 x2 <|
      bnd (yset σ3 a (x2).toNat b) fun σ7 =>
      chkI (x2 + 1) <|
      k4 (x2 + 1) σ7) N 0 σ
set_option maxHeartbeats 4000000 in
set_option maxRecDepth 10000 in
theorem sh_jA_fill_53178 {E : yE} {N : Nat} {a : Nat} {b : Int} {σ : ySt} {τ : ySt} (h : jA_fill_53178 N a b σ = some τ) : Con E MJ7_fill_53178 0 0 0 [.inr (.inr (a + 1)), .inl b] 150 (ov σ) none (ov τ) := by
  unfold jA_fill_53178 at h
  refine Con.ofY (by decide +kernel) (by simp [yWords, yCat]) (fun hok _ => ?_)
  show Y E MJ7_fill_53178 (yRm 0 0 0) (yQf E (150 + 0) 0 0 none (ov τ)) 0 [(0, .inr (.inr (a + 1))), (1, .inl b)] [] (ov σ) 150 0 0
  obtain ⟨c1, h⟩ := chk_some h
  refine y_iconst (show decode cJ7_fill_53178 0 = .ok (.iconst 0, 1) by decide +kernel) rfl ?_
  refine y_istore_n (show decode cJ7_fill_53178 1 = .ok (.istore_n 2, 1) by decide +kernel) rfl (L1 := [(2, .inl 0), (0, .inr (.inr (a + 1))), (1, .inl b)]) rfl ?_
  refine y_aload_n (show decode cJ7_fill_53178 2 = .ok (.aload_n 0, 1) by decide +kernel) 1 rfl ?_
  refine y_alen a 20 (yKd a).2 c1.2 (yArr_kd c1) (by decide) (by decide) (yLen_ok c1.2) (show decode cJ7_fill_53178 3 = .ok (.arraylength, 1) by decide +kernel) ?_
  refine y_istore_n (show decode cJ7_fill_53178 4 = .ok (.istore_n 3, 1) by decide +kernel) rfl (L1 := [(3, .inl ((yKd a).2 : Int)), (2, .inl 0), (0, .inr (.inr (a + 1))), (1, .inl b)]) rfl ?_
  refine y_pick [2, 3, 1, 0] rfl ?_
  refine loopS1_ind (P := fun x2 σ3 => Y E MJ7_fill_53178 (yRm 0 0 0) (yQf E (150 + 0) 0 0 none (ov τ)) 5 [(0, .inr (.inr (a + 1))), (1, .inl b), (2, .inl x2), (3, .inl ((yKd a).2 : Int))] [] (ov σ3) 150 0 0) (fun k4 hk4 x2 σ3 h => ?_) _ _ _  h
  refine y_iload_n (show decode cJ7_fill_53178 5 = .ok (.iload_n 2, 1) by decide +kernel) 2 rfl ?_
  refine y_iload_n (show decode cJ7_fill_53178 6 = .ok (.iload_n 3, 1) by decide +kernel) 3 rfl ?_
  by_cases c5 : x2 ≥ ((yKd a).2 : Int)
  · rw [if_pos c5] at h
    refine y_icmp_ge_t (tgt := 20) (show decode cJ7_fill_53178 7 = .ok (.if_icmp .ge 13, 3) by decide +kernel) rfl c5 ?_
    cases h
    exact y_vret (show decode cJ7_fill_53178 20 = .ok (.return_, 1) by decide +kernel) rfl
  · rw [if_neg c5] at h
    refine y_icmp_ge_f (show decode cJ7_fill_53178 7 = .ok (.if_icmp .ge 13, 3) by decide +kernel) c5 (by decide) ?_
    refine y_aload_n (show decode cJ7_fill_53178 10 = .ok (.aload_n 0, 1) by decide +kernel) 0 rfl ?_
    refine y_iload_n (show decode cJ7_fill_53178 11 = .ok (.iload_n 2, 1) by decide +kernel) 2 rfl ?_
    refine y_iload_n (show decode cJ7_fill_53178 12 = .ok (.iload_n 1, 1) by decide +kernel) 1 rfl ?_
    obtain ⟨c6, h⟩ := chkA_some h
    obtain ⟨σ7, e8, h⟩ := bnd_i h
    refine yo_iast a (yKd a).2 c1.2 (yArr_kd c1) c6 (ov_set1 e8 (yArr_cr (by rw [c1.1]; decide) c1.2 _)) (show decode cJ7_fill_53178 13 = .ok (.iastore, 1) by decide +kernel) ?_
    obtain ⟨c9, h⟩ := chkI_some h
    refine y_iinc (show decode cJ7_fill_53178 14 = .ok (.iinc 2 1, 3) by decide +kernel) 2 rfl c9 rfl (L1 := [(2, .inl (x2 + 1)), (0, .inr (.inr (a + 1))), (1, .inl b), (3, .inl ((yKd a).2 : Int))]) rfl ?_
    refine y_goto (tgt := 5) (show decode cJ7_fill_53178 17 = .ok (.goto (-12), 3) by decide +kernel) rfl ?_
    refine y_pick [1, 2, 0, 3] rfl ?_
    exact hk4 _ _ h
abbrev MX0_turnTo : yM := (yX0_turnTo, cX0_turnTo, 3, none)
def cAn_turnTo (N : Nat) (a : Nat) (σ : ySt) : Option (ySt) :=
  chk (a = 13 ∨ a = 33) <|
  bnd (yset σ 58 0 ((a : Nat) + 1 : Int)) fun σ2 =>
  bnd (yset σ2 58 13 0) fun σ4 =>
  loopS1 (fun k8 x6 σ7 =>
    if x6 ≥ 3 then
      some σ7
    else
      chkA 3 x6 <|
      bnd (yset σ7 65 (x6).toNat 0) fun σ11 =>
      chkA 3 x6 <|
      bnd (yset σ11 71 (x6).toNat 0) fun σ14 =>
      chkA 3 x6 <|
      bnd (yset σ14 74 (x6).toNat 0) fun σ17 =>
      chkI (x6 + 1) <|
      k8 (x6 + 1) σ17) N 0 σ4
set_option maxHeartbeats 4000000 in
set_option maxRecDepth 10000 in
theorem sh_cAn_turnTo {E : yE} {N : Nat} {a : Nat} {σ : ySt} {τ : ySt} (h : cAn_turnTo N a σ = some τ) : Con E MX0_turnTo 0 0 0 [.inr (.inr (58 + 1)), .inr (.inr (a + 1))] 150 (ov σ) none (ov τ) := by
  unfold cAn_turnTo at h
  refine Con.ofY (by decide +kernel) (by simp [yWords, yCat]) (fun hok _ => ?_)
  show Y E MX0_turnTo (yRm 0 0 0) (yQf E (150 + 0) 0 0 none (ov τ)) 0 [(0, .inr (.inr (58 + 1))), (1, .inr (.inr (a + 1)))] [] (ov σ) 150 0 0
  obtain ⟨c1, h⟩ := chk_some h
  refine y_aload_n (show decode cX0_turnTo 0 = .ok (.aload_n 0, 1) by decide +kernel) 0 rfl ?_
  refine y_aload_n (show decode cX0_turnTo 1 = .ok (.aload_n 1, 1) by decide +kernel) 1 rfl ?_
  obtain ⟨σ2, e3, h⟩ := bnd_i h
  refine yo_putR 58 0 0 52 a (by decide) rfl (by decide) (by decide) q2_217 rfl (show decode cX0_turnTo 2 = .ok (.putfield 52, 3) by decide +kernel) rfl rfl (ov_set1 e3 rfl) ?_
  refine y_aload_n (show decode cX0_turnTo 5 = .ok (.aload_n 0, 1) by decide +kernel) 0 rfl ?_
  refine y_iconst (show decode cX0_turnTo 6 = .ok (.iconst 0, 1) by decide +kernel) rfl ?_
  obtain ⟨σ4, e5, h⟩ := bnd_i h
  refine yo_putZ 58 0 13 65 (by decide) rfl (by decide) (by decide) q2_234 rfl (show decode cX0_turnTo 7 = .ok (.putfield 65, 3) by decide +kernel) rfl rfl (Or.inl rfl) (ov_set1 e5 rfl) ?_
  refine y_iconst (show decode cX0_turnTo 10 = .ok (.iconst 0, 1) by decide +kernel) rfl ?_
  refine y_istore_n (show decode cX0_turnTo 11 = .ok (.istore_n 2, 1) by decide +kernel) rfl (L1 := [(2, .inl 0), (0, .inr (.inr (58 + 1))), (1, .inr (.inr (a + 1)))]) rfl ?_
  refine y_pick [1, 0] rfl ?_
  refine loopS1_ind (P := fun x6 σ7 => Y E MX0_turnTo (yRm 0 0 0) (yQf E (150 + 0) 0 0 none (ov τ)) 12 [(0, .inr (.inr (58 + 1))), (2, .inl x6)] [] (ov σ7) 150 0 0) (fun k8 hk8 x6 σ7 h => ?_) _ _ _  h
  refine y_iload_n (show decode cX0_turnTo 12 = .ok (.iload_n 2, 1) by decide +kernel) 1 rfl ?_
  refine y_iconst (show decode cX0_turnTo 13 = .ok (.iconst 3, 1) by decide +kernel) rfl ?_
  by_cases c9 : x6 ≥ 3
  · rw [if_pos c9] at h
    refine y_icmp_ge_t (tgt := 44) (show decode cX0_turnTo 14 = .ok (.if_icmp .ge 30, 3) by decide +kernel) rfl c9 ?_
    cases h
    exact y_vret (show decode cX0_turnTo 44 = .ok (.return_, 1) by decide +kernel) rfl
  · rw [if_neg c9] at h
    refine y_icmp_ge_f (show decode cX0_turnTo 14 = .ok (.if_icmp .ge 30, 3) by decide +kernel) c9 (by decide) ?_
    refine y_aload_n (show decode cX0_turnTo 17 = .ok (.aload_n 0, 1) by decide +kernel) 0 rfl ?_
    refine y_getf 58 0 3 18 (by decide) rfl (by decide) (by decide) q2_220 (show decode cX0_turnTo 18 = .ok (.getfield 18, 3) by decide +kernel) (v := .inr (.inr (65 + 1))) rfl ?_
    refine y_iload_n (show decode cX0_turnTo 21 = .ok (.iload_n 2, 1) by decide +kernel) 1 rfl ?_
    refine y_iconst (show decode cX0_turnTo 22 = .ok (.iconst 0, 1) by decide +kernel) rfl ?_
    obtain ⟨c10, h⟩ := chkA_some h
    obtain ⟨σ11, e12, h⟩ := bnd_i h
    refine yo_zast 65 3 (by decide) rfl c10 (Or.inl rfl) (ov_set1 e12 rfl) (show decode cX0_turnTo 23 = .ok (.bastore, 1) by decide +kernel) ?_
    refine y_aload_n (show decode cX0_turnTo 24 = .ok (.aload_n 0, 1) by decide +kernel) 0 rfl ?_
    refine y_getf 58 0 6 31 (by decide) rfl (by decide) (by decide) q2_223 (show decode cX0_turnTo 25 = .ok (.getfield 31, 3) by decide +kernel) (v := .inr (.inr (71 + 1))) rfl ?_
    refine y_iload_n (show decode cX0_turnTo 28 = .ok (.iload_n 2, 1) by decide +kernel) 1 rfl ?_
    refine y_iconst (show decode cX0_turnTo 29 = .ok (.iconst 0, 1) by decide +kernel) rfl ?_
    obtain ⟨c13, h⟩ := chkA_some h
    obtain ⟨σ14, e15, h⟩ := bnd_i h
    refine yo_zast 71 3 (by decide) rfl c13 (Or.inl rfl) (ov_set1 e15 rfl) (show decode cX0_turnTo 30 = .ok (.bastore, 1) by decide +kernel) ?_
    refine y_aload_n (show decode cX0_turnTo 31 = .ok (.aload_n 0, 1) by decide +kernel) 0 rfl ?_
    refine y_getf 58 0 9 40 (by decide) rfl (by decide) (by decide) q2_228 (show decode cX0_turnTo 32 = .ok (.getfield 40, 3) by decide +kernel) (v := .inr (.inr (74 + 1))) rfl ?_
    refine y_iload_n (show decode cX0_turnTo 35 = .ok (.iload_n 2, 1) by decide +kernel) 1 rfl ?_
    refine y_iconst (show decode cX0_turnTo 36 = .ok (.iconst 0, 1) by decide +kernel) rfl ?_
    obtain ⟨c16, h⟩ := chkA_some h
    obtain ⟨σ17, e18, h⟩ := bnd_i h
    refine yo_iast 74 3 (by decide) rfl c16 (ov_set1 e18 rfl) (show decode cX0_turnTo 37 = .ok (.iastore, 1) by decide +kernel) ?_
    obtain ⟨c19, h⟩ := chkI_some h
    refine y_iinc (show decode cX0_turnTo 38 = .ok (.iinc 2 1, 3) by decide +kernel) 1 rfl c19 rfl (L1 := [(2, .inl (x6 + 1)), (0, .inr (.inr (58 + 1)))]) rfl ?_
    refine y_goto (tgt := 12) (show decode cX0_turnTo 41 = .ok (.goto (-29), 3) by decide +kernel) rfl ?_
    refine y_pick [1, 0] rfl ?_
    exact hk8 _ _ h
abbrev MX2_errandsCanBe : yM := (yX2_errandsCanBe, cX2_errandsCanBe, 2, some .boolean)
def cDy_errandsCanBe (N : Nat) (σ : ySt) : Option (Int) :=
  loop1 (fun k2 x1 =>
    chkT (σ 78 0) fun T3 =>
    if x1 ≥ (σ T3 14) then
      some 1
    else
      chkT (σ 78 0) fun T7 =>
      chkA 8 x1 <|
      chkT (σ 78 0) fun T11 =>
      if (σ (T7 + 13) (x1).toNat) ≤ (σ T11 17) then
        chkI (x1 + 1) <|
        k2 (x1 + 1)
      else
        some 0) N 0
set_option maxHeartbeats 4000000 in
set_option maxRecDepth 10000 in
theorem sh_cDy_errandsCanBe {E : yE} {N : Nat} {σ : ySt} {ρ : Int} (h : cDy_errandsCanBe N σ = some ρ) : Con E MX2_errandsCanBe 0 0 0 [.inr (.inr (78 + 1))] 150 (ov σ) (some (.inl ρ)) (ov σ) := by
  unfold cDy_errandsCanBe at h
  refine Con.ofY (by decide +kernel) (by simp [yWords, yCat]) (fun hok _ => ?_)
  show Y E MX2_errandsCanBe (yRm 0 0 0) (yQf E (150 + 0) 0 0 (some (.inl ρ)) (ov σ)) 0 [(0, .inr (.inr (78 + 1)))] [] (ov σ) 150 0 0
  refine y_iconst (show decode cX2_errandsCanBe 0 = .ok (.iconst 0, 1) by decide +kernel) rfl ?_
  refine y_istore_n (show decode cX2_errandsCanBe 1 = .ok (.istore_n 1, 1) by decide +kernel) rfl (L1 := [(1, .inl 0), (0, .inr (.inr (78 + 1)))]) rfl ?_
  refine y_pick [1, 0] rfl ?_
  refine loop1_ind (P := fun x1 => Y E MX2_errandsCanBe (yRm 0 0 0) (yQf E (150 + 0) 0 0 (some (.inl ρ)) (ov σ)) 2 [(0, .inr (.inr (78 + 1))), (1, .inl x1)] [] (ov σ) 150 0 0) (fun k2 hk2 x1 h => ?_) _ _  h
  refine y_iload_n (show decode cX2_errandsCanBe 2 = .ok (.iload_n 1, 1) by decide +kernel) 1 rfl ?_
  refine y_aload_n (show decode cX2_errandsCanBe 3 = .ok (.aload_n 0, 1) by decide +kernel) 0 rfl ?_
  obtain ⟨T3, c4, c5, h⟩ := chkT_some h
  refine y_getf 78 2 0 24 (by decide) rfl (by decide) (by decide) q2_174 (show decode cX2_errandsCanBe 4 = .ok (.getfield 24, 3) by decide +kernel) (v := .inr (.inr (T3 + 1))) (by rw [← c5]; rfl) ?_
  refine y_getf T3 9 14 71 (by omega) (by rcases c4 with rfl | rfl <;> rfl) (by decide) (by decide) q2_8 (show decode cX2_errandsCanBe 7 = .ok (.getfield 71, 3) by decide +kernel) (v := .inl (σ T3 14)) (by rcases c4 with rfl | rfl <;> rfl) ?_
  by_cases c6 : x1 ≥ (σ T3 14)
  · rw [if_pos c6] at h
    refine y_icmp_ge_t (tgt := 40) (show decode cX2_errandsCanBe 10 = .ok (.if_icmp .ge 30, 3) by decide +kernel) rfl c6 ?_
    refine y_iconst (show decode cX2_errandsCanBe 40 = .ok (.iconst 1, 1) by decide +kernel) rfl ?_
    cases h
    exact y_zret (show decode cX2_errandsCanBe 41 = .ok (.ireturn, 1) by decide +kernel) rfl (Or.inr rfl)
  · rw [if_neg c6] at h
    refine y_icmp_ge_f (show decode cX2_errandsCanBe 10 = .ok (.if_icmp .ge 30, 3) by decide +kernel) c6 (by decide) ?_
    refine y_aload_n (show decode cX2_errandsCanBe 13 = .ok (.aload_n 0, 1) by decide +kernel) 0 rfl ?_
    obtain ⟨T7, c8, c9, h⟩ := chkT_some h
    refine y_getf 78 2 0 24 (by decide) rfl (by decide) (by decide) q2_174 (show decode cX2_errandsCanBe 14 = .ok (.getfield 24, 3) by decide +kernel) (v := .inr (.inr (T7 + 1))) (by rw [← c9]; rfl) ?_
    refine y_getf T7 9 9 74 (by omega) (by rcases c8 with rfl | rfl <;> rfl) (by decide) (by decide) q1_231 (show decode cX2_errandsCanBe 17 = .ok (.getfield 74, 3) by decide +kernel) (v := .inr (.inr ((T7 + 13) + 1))) (by rcases c8 with rfl | rfl <;> rfl) ?_
    refine y_iload_n (show decode cX2_errandsCanBe 20 = .ok (.iload_n 1, 1) by decide +kernel) 1 rfl ?_
    obtain ⟨c10, h⟩ := chkA_some h
    refine yo_iald (T7 + 13) 8 (by omega) (by rcases c8 with rfl | rfl <;> rfl) c10 (ov_at (by rcases c8 with rfl | rfl <;> rfl)) (show decode cX2_errandsCanBe 21 = .ok (.iaload, 1) by decide +kernel) ?_
    refine y_aload_n (show decode cX2_errandsCanBe 22 = .ok (.aload_n 0, 1) by decide +kernel) 0 rfl ?_
    obtain ⟨T11, c12, c13, h⟩ := chkT_some h
    refine y_getf 78 2 0 24 (by decide) rfl (by decide) (by decide) q2_174 (show decode cX2_errandsCanBe 23 = .ok (.getfield 24, 3) by decide +kernel) (v := .inr (.inr (T11 + 1))) (by rw [← c13]; rfl) ?_
    refine y_getf T11 9 17 36 (by omega) (by rcases c12 with rfl | rfl <;> rfl) (by decide) (by decide) q2_19 (show decode cX2_errandsCanBe 26 = .ok (.getfield 36, 3) by decide +kernel) (v := .inl (σ T11 17)) (by rcases c12 with rfl | rfl <;> rfl) ?_
    by_cases c14 : (σ (T7 + 13) (x1).toNat) ≤ (σ T11 17)
    · rw [if_pos c14] at h
      refine y_icmp_le_t (tgt := 34) (show decode cX2_errandsCanBe 29 = .ok (.if_icmp .le 5, 3) by decide +kernel) rfl c14 ?_
      obtain ⟨c15, h⟩ := chkI_some h
      refine y_iinc (show decode cX2_errandsCanBe 34 = .ok (.iinc 1 1, 3) by decide +kernel) 1 rfl c15 rfl (L1 := [(1, .inl (x1 + 1)), (0, .inr (.inr (78 + 1)))]) rfl ?_
      refine y_goto (tgt := 2) (show decode cX2_errandsCanBe 37 = .ok (.goto (-35), 3) by decide +kernel) rfl ?_
      refine y_pick [1, 0] rfl ?_
      exact hk2 _ h
    · rw [if_neg c14] at h
      refine y_icmp_le_f (show decode cX2_errandsCanBe 29 = .ok (.if_icmp .le 5, 3) by decide +kernel) c14 (by decide) ?_
      refine y_iconst (show decode cX2_errandsCanBe 32 = .ok (.iconst 0, 1) by decide +kernel) rfl ?_
      cases h
      exact y_zret (show decode cX2_errandsCanBe 33 = .ok (.ireturn, 1) by decide +kernel) rfl (Or.inl rfl)
abbrev MX2_layStates : yM := (yX2_layStates, cX2_layStates, 2, none)
def cDy_layStates (N : Nat) (σ : ySt) : Option (ySt) :=
  bnd (yset σ 78 3 1) fun σ1 =>
  chkT (σ1 78 0) fun T3 =>
  chkI ((σ1 (T3 + 3) 1) - 1) <|
  loopS1 (fun k9 x7 σ8 =>
    if x7 < 0 then
      some σ8
    else
      chkA 5 x7 <|
      bnd (yset σ8 79 (x7).toNat (σ8 78 3)) fun σ12 =>
      chkT (σ12 78 0) fun T14 =>
      chkI ((σ12 78 3) * (σ12 (T14 + 1) 1)) <|
      bnd (yset σ12 78 3 ((σ12 78 3) * (σ12 (T14 + 1) 1))) fun σ18 =>
      chkI (x7 + (-1)) <|
      k9 (x7 + (-1)) σ18) N ((σ1 (T3 + 3) 1) - 1) σ1
set_option maxHeartbeats 4000000 in
set_option maxRecDepth 10000 in
theorem sh_cDy_layStates {E : yE} {N : Nat} {σ : ySt} {τ : ySt} (h : cDy_layStates N σ = some τ) : Con E MX2_layStates 0 0 0 [.inr (.inr (78 + 1))] 150 (ov σ) none (ov τ) := by
  unfold cDy_layStates at h
  refine Con.ofY (by decide +kernel) (by simp [yWords, yCat]) (fun hok _ => ?_)
  show Y E MX2_layStates (yRm 0 0 0) (yQf E (150 + 0) 0 0 none (ov τ)) 0 [(0, .inr (.inr (78 + 1)))] [] (ov σ) 150 0 0
  refine y_aload_n (show decode cX2_layStates 0 = .ok (.aload_n 0, 1) by decide +kernel) 0 rfl ?_
  refine y_iconst (show decode cX2_layStates 1 = .ok (.iconst 1, 1) by decide +kernel) rfl ?_
  obtain ⟨σ1, e2, h⟩ := bnd_i h
  refine yo_putI 78 2 3 77 (by decide) rfl (by decide) (by decide) q2_184 rfl (show decode cX2_layStates 2 = .ok (.putfield 77, 3) by decide +kernel) rfl rfl (ov_set1 e2 rfl) ?_
  refine y_aload_n (show decode cX2_layStates 5 = .ok (.aload_n 0, 1) by decide +kernel) 0 rfl ?_
  obtain ⟨T3, c4, c5, h⟩ := chkT_some h
  refine y_getf 78 2 0 24 (by decide) rfl (by decide) (by decide) q2_174 (show decode cX2_layStates 6 = .ok (.getfield 24, 3) by decide +kernel) (v := .inr (.inr (T3 + 1))) (by rw [← c5]; rfl) ?_
  refine y_getf T3 9 1 80 (by omega) (by rcases c4 with rfl | rfl <;> rfl) (by decide) (by decide) q1_203 (show decode cX2_layStates 9 = .ok (.getfield 80, 3) by decide +kernel) (v := .inr (.inr ((T3 + 3) + 1))) (by rcases c4 with rfl | rfl <;> rfl) ?_
  refine y_getf (T3 + 3) 5 1 84 (by omega) (by rcases c4 with rfl | rfl <;> rfl) (by decide) (by decide) q1_149 (show decode cX2_layStates 12 = .ok (.getfield 84, 3) by decide +kernel) (v := .inl (σ1 (T3 + 3) 1)) (by rcases c4 with rfl | rfl <;> rfl) ?_
  refine y_iconst (show decode cX2_layStates 15 = .ok (.iconst 1, 1) by decide +kernel) rfl ?_
  obtain ⟨c6, h⟩ := chkI_some h
  refine y_isub (show decode cX2_layStates 16 = .ok (.isub, 1) by decide +kernel) c6 ?_
  refine y_istore_n (show decode cX2_layStates 17 = .ok (.istore_n 1, 1) by decide +kernel) rfl (L1 := [(1, .inl ((σ1 (T3 + 3) 1) - 1)), (0, .inr (.inr (78 + 1)))]) rfl ?_
  refine y_pick [1, 0] rfl ?_
  refine loopS1_ind (P := fun x7 σ8 => Y E MX2_layStates (yRm 0 0 0) (yQf E (150 + 0) 0 0 none (ov τ)) 18 [(0, .inr (.inr (78 + 1))), (1, .inl x7)] [] (ov σ8) 150 0 0) (fun k9 hk9 x7 σ8 h => ?_) _ _ _  h
  refine y_iload_n (show decode cX2_layStates 18 = .ok (.iload_n 1, 1) by decide +kernel) 1 rfl ?_
  by_cases c10 : x7 < 0
  · rw [if_pos c10] at h
    refine y_if_lt_t (tgt := 57) (show decode cX2_layStates 19 = .ok (.ifCond .lt 38, 3) by decide +kernel) rfl c10 ?_
    cases h
    exact y_vret (show decode cX2_layStates 57 = .ok (.return_, 1) by decide +kernel) rfl
  · rw [if_neg c10] at h
    refine y_if_lt_f (show decode cX2_layStates 19 = .ok (.ifCond .lt 38, 3) by decide +kernel) c10 (by decide) ?_
    refine y_aload_n (show decode cX2_layStates 22 = .ok (.aload_n 0, 1) by decide +kernel) 0 rfl ?_
    refine y_getf 78 2 4 9 (by decide) rfl (by decide) (by decide) q2_186 (show decode cX2_layStates 23 = .ok (.getfield 9, 3) by decide +kernel) (v := .inr (.inr (79 + 1))) rfl ?_
    refine y_iload_n (show decode cX2_layStates 26 = .ok (.iload_n 1, 1) by decide +kernel) 1 rfl ?_
    refine y_aload_n (show decode cX2_layStates 27 = .ok (.aload_n 0, 1) by decide +kernel) 0 rfl ?_
    refine y_getf 78 2 3 77 (by decide) rfl (by decide) (by decide) q2_184 (show decode cX2_layStates 28 = .ok (.getfield 77, 3) by decide +kernel) (v := .inl (σ8 78 3)) rfl ?_
    obtain ⟨c11, h⟩ := chkA_some h
    obtain ⟨σ12, e13, h⟩ := bnd_i h
    refine yo_iast 79 5 (by decide) rfl c11 (ov_set1 e13 rfl) (show decode cX2_layStates 31 = .ok (.iastore, 1) by decide +kernel) ?_
    refine y_aload_n (show decode cX2_layStates 32 = .ok (.aload_n 0, 1) by decide +kernel) 0 rfl ?_
    refine y_dup (show decode cX2_layStates 33 = .ok (.dup, 1) by decide +kernel) rfl ?_
    refine y_getf 78 2 3 77 (by decide) rfl (by decide) (by decide) q2_184 (show decode cX2_layStates 34 = .ok (.getfield 77, 3) by decide +kernel) (v := .inl (σ12 78 3)) rfl ?_
    refine y_aload_n (show decode cX2_layStates 37 = .ok (.aload_n 0, 1) by decide +kernel) 0 rfl ?_
    obtain ⟨T14, c15, c16, h⟩ := chkT_some h
    refine y_getf 78 2 0 24 (by decide) rfl (by decide) (by decide) q2_174 (show decode cX2_layStates 38 = .ok (.getfield 24, 3) by decide +kernel) (v := .inr (.inr (T14 + 1))) (by rw [← c16]; rfl) ?_
    refine y_getf T14 9 0 89 (by omega) (by rcases c15 with rfl | rfl <;> rfl) (by decide) (by decide) q1_195 (show decode cX2_layStates 41 = .ok (.getfield 89, 3) by decide +kernel) (v := .inr (.inr ((T14 + 1) + 1))) (by rcases c15 with rfl | rfl <;> rfl) ?_
    refine y_getf (T14 + 1) 5 1 84 (by omega) (by rcases c15 with rfl | rfl <;> rfl) (by decide) (by decide) q1_149 (show decode cX2_layStates 44 = .ok (.getfield 84, 3) by decide +kernel) (v := .inl (σ12 (T14 + 1) 1)) (by rcases c15 with rfl | rfl <;> rfl) ?_
    obtain ⟨c17, h⟩ := chkI_some h
    refine y_imul (show decode cX2_layStates 47 = .ok (.imul, 1) by decide +kernel) c17 ?_
    obtain ⟨σ18, e19, h⟩ := bnd_i h
    refine yo_putI 78 2 3 77 (by decide) rfl (by decide) (by decide) q2_184 rfl (show decode cX2_layStates 48 = .ok (.putfield 77, 3) by decide +kernel) rfl rfl (ov_set1 e19 rfl) ?_
    obtain ⟨c20, h⟩ := chkI_some h
    refine y_iinc (show decode cX2_layStates 51 = .ok (.iinc 1 (-1), 3) by decide +kernel) 1 rfl c20 rfl (L1 := [(1, .inl (x7 + (-1))), (0, .inr (.inr (78 + 1)))]) rfl ?_
    refine y_goto (tgt := 18) (show decode cX2_layStates 54 = .ok (.goto (-36), 3) by decide +kernel) rfl ?_
    refine y_pick [1, 0] rfl ?_
    exact hk9 _ _ h
abbrev MX2_walkOf : yM := (yX2_walkOf, cX2_walkOf, 2, some .int)
def cDy_walkOf (a : Int) (σ : ySt) : Option (Int) :=
  if a ≤ (σ 78 9) then
    if ¬ (σ 78 8) = 2 then
      some 0
    else
      chkI (-a) <|
      some (-a)
  else
    some (-1000000)
set_option maxHeartbeats 4000000 in
set_option maxRecDepth 10000 in
theorem sh_cDy_walkOf {E : yE} {a : Int} {σ : ySt} {ρ : Int} (h : cDy_walkOf a σ = some ρ) : Con E MX2_walkOf 0 0 0 [.inr (.inr (78 + 1)), .inl a] 150 (ov σ) (some (.inl ρ)) (ov σ) := by
  unfold cDy_walkOf at h
  refine Con.ofY (by decide +kernel) (by simp [yWords, yCat]) (fun hok _ => ?_)
  show Y E MX2_walkOf (yRm 0 0 0) (yQf E (150 + 0) 0 0 (some (.inl ρ)) (ov σ)) 0 [(0, .inr (.inr (78 + 1))), (1, .inl a)] [] (ov σ) 150 0 0
  refine y_iload_n (show decode cX2_walkOf 0 = .ok (.iload_n 1, 1) by decide +kernel) 1 rfl ?_
  refine y_aload_n (show decode cX2_walkOf 1 = .ok (.aload_n 0, 1) by decide +kernel) 0 rfl ?_
  refine y_getf 78 2 9 45 (by decide) rfl (by decide) (by decide) q2_195 (show decode cX2_walkOf 2 = .ok (.getfield 45, 3) by decide +kernel) (v := .inl (σ 78 9)) rfl ?_
  by_cases c1 : a ≤ (σ 78 9)
  · rw [if_pos c1] at h
    refine y_icmp_le_t (tgt := 13) (show decode cX2_walkOf 5 = .ok (.if_icmp .le 8, 3) by decide +kernel) rfl c1 ?_
    refine y_aload_n (show decode cX2_walkOf 13 = .ok (.aload_n 0, 1) by decide +kernel) 0 rfl ?_
    refine y_getf 78 2 8 28 (by decide) rfl (by decide) (by decide) q2_194 (show decode cX2_walkOf 14 = .ok (.getfield 28, 3) by decide +kernel) (v := .inl (σ 78 8)) rfl ?_
    refine y_iconst (show decode cX2_walkOf 17 = .ok (.iconst 2, 1) by decide +kernel) rfl ?_
    by_cases c2 : ¬ (σ 78 8) = 2
    · rw [if_pos c2] at h
      refine y_icmp_ne_t (tgt := 26) (show decode cX2_walkOf 18 = .ok (.if_icmp .ne 8, 3) by decide +kernel) rfl c2 ?_
      refine y_iconst (show decode cX2_walkOf 26 = .ok (.iconst 0, 1) by decide +kernel) rfl ?_
      cases h
      exact y_iret (show decode cX2_walkOf 27 = .ok (.ireturn, 1) by decide +kernel) rfl
    · rw [if_neg c2] at h
      refine y_icmp_ne_f (show decode cX2_walkOf 18 = .ok (.if_icmp .ne 8, 3) by decide +kernel) c2 (by decide) ?_
      refine y_iload_n (show decode cX2_walkOf 21 = .ok (.iload_n 1, 1) by decide +kernel) 1 rfl ?_
      obtain ⟨c3, h⟩ := chkI_some h
      refine y_ineg (show decode cX2_walkOf 22 = .ok (.ineg, 1) by decide +kernel) c3 ?_
      refine y_goto (tgt := 27) (show decode cX2_walkOf 23 = .ok (.goto 4, 3) by decide +kernel) rfl ?_
      cases h
      exact y_iret (show decode cX2_walkOf 27 = .ok (.ireturn, 1) by decide +kernel) rfl
  · rw [if_neg c1] at h
    refine y_icmp_le_f (show decode cX2_walkOf 5 = .ok (.if_icmp .le 8, 3) by decide +kernel) c1 (by decide) ?_
    refine y_ldc (k := -1000000) (show decode cX2_walkOf 8 = .ok (.ldc 92, 2) by decide +kernel) q4_234 rfl rfl ?_
    refine y_goto (tgt := 27) (show decode cX2_walkOf 10 = .ok (.goto 17, 3) by decide +kernel) rfl ?_
    cases h
    exact y_iret (show decode cX2_walkOf 27 = .ok (.ireturn, 1) by decide +kernel) rfl
abbrev MX2_gainOf : yM := (yX2_gainOf, cX2_gainOf, 10, some .int)
def cDy_gainOf (N : Nat) (a : Int) (b : Int) (c : Int) (d : Int) (σ : ySt) : Option (Int) :=
  loop4 (fun k5 x1 x2 x3 x4 =>
    chkT (σ 78 0) fun T6 =>
    if x4 ≥ (σ T6 14) then
      chkT (σ 78 0) fun T10 =>
      chkA 5 b <|
      bnd (fun (y14 : Int) =>
        if ¬ (σ 78 8) = 0 then
          if x3 = 0 then
            if ¬ (σ 78 8) = 1 then
              some 0
            else
              if y14 = 0 then
                some 0
              else
                if ¬ x2 = 0 then
                  some 0
                else
                  some (-1)
          else
            some (-1000000)
        else
          if y14 = 0 then
            some x1
          else
            chkT (σ 78 0) fun T22 =>
            chkA 5 b <|
            chkI (x1 - (σ (T22 + 9) (b).toNat)) <|
            some (x1 - (σ (T22 + 9) (b).toNat))) fun j15 =>
      if (σ (T10 + 8) (b).toNat) = c then
        j15 0
      else
        j15 1
    else
      chkT (σ 78 0) fun T28 =>
      chkA 8 x4 <|
      bnd (fun (y32 : Int) (y33 : Int) (y34 : Int) =>
        chkI (x4 + 1) <|
        k5 y32 y33 y34 (x4 + 1)) fun j35 =>
      if ¬ (σ (T28 + 11) (x4).toNat) = b then
        j35 x1 x2 x3
      else
        chkT (σ 78 0) fun T38 =>
        chkA 8 x4 <|
        chkI ((σ (T38 + 13) (x4).toNat) * d) <|
        if ¬ ((σ (T38 + 13) (x4).toNat) * d) = a then
          j35 x1 x2 x3
        else
          chkT (σ 78 0) fun T44 =>
          chkA 8 x4 <|
          bnd (fun (y48 : Int) =>
            bnd (fun (y50 : Int) =>
              chkI (x1 + y50) <|
              bnd (fun (y53 : Int) =>
                j35 (x1 + y50) (b32or x2 y48) (b32or x3 y53)) fun j54 =>
              if ¬ y48 = 0 then
                j54 0
              else
                j54 1) fun j51 =>
            if y48 = 0 then
              j51 0
            else
              chkT (σ 78 0) fun T57 =>
              chkA 8 x4 <|
              j51 (σ (T57 + 14) (x4).toNat)) fun j49 =>
          if ¬ (σ (T44 + 12) (x4).toNat) = c then
            j49 0
          else
            j49 1) N 0 0 0 0
set_option maxHeartbeats 4000000 in
set_option maxRecDepth 10000 in
theorem sh_cDy_gainOf {E : yE} {N : Nat} {a : Int} {b : Int} {c : Int} {d : Int} {σ : ySt} {ρ : Int} (h : cDy_gainOf N a b c d σ = some ρ) : Con E MX2_gainOf 0 0 0 [.inr (.inr (78 + 1)), .inl a, .inl b, .inl c, .inl d] 150 (ov σ) (some (.inl ρ)) (ov σ) := by
  unfold cDy_gainOf at h
  refine Con.ofY (by decide +kernel) (by simp [yWords, yCat]) (fun hok _ => ?_)
  show Y E MX2_gainOf (yRm 0 0 0) (yQf E (150 + 0) 0 0 (some (.inl ρ)) (ov σ)) 0 [(0, .inr (.inr (78 + 1))), (1, .inl a), (2, .inl b), (3, .inl c), (4, .inl d)] [] (ov σ) 150 0 0
  refine y_iconst (show decode cX2_gainOf 0 = .ok (.iconst 0, 1) by decide +kernel) rfl ?_
  refine y_istore (show decode cX2_gainOf 1 = .ok (.istore 5, 2) by decide +kernel) rfl (L1 := [(5, .inl 0), (0, .inr (.inr (78 + 1))), (1, .inl a), (2, .inl b), (3, .inl c), (4, .inl d)]) rfl ?_
  refine y_iconst (show decode cX2_gainOf 3 = .ok (.iconst 0, 1) by decide +kernel) rfl ?_
  refine y_istore (show decode cX2_gainOf 4 = .ok (.istore 6, 2) by decide +kernel) rfl (L1 := [(6, .inl 0), (5, .inl 0), (0, .inr (.inr (78 + 1))), (1, .inl a), (2, .inl b), (3, .inl c), (4, .inl d)]) rfl ?_
  refine y_iconst (show decode cX2_gainOf 6 = .ok (.iconst 0, 1) by decide +kernel) rfl ?_
  refine y_istore (show decode cX2_gainOf 7 = .ok (.istore 7, 2) by decide +kernel) rfl (L1 := [(7, .inl 0), (6, .inl 0), (5, .inl 0), (0, .inr (.inr (78 + 1))), (1, .inl a), (2, .inl b), (3, .inl c), (4, .inl d)]) rfl ?_
  refine y_iconst (show decode cX2_gainOf 9 = .ok (.iconst 0, 1) by decide +kernel) rfl ?_
  refine y_istore (show decode cX2_gainOf 10 = .ok (.istore 8, 2) by decide +kernel) rfl (L1 := [(8, .inl 0), (7, .inl 0), (6, .inl 0), (5, .inl 0), (0, .inr (.inr (78 + 1))), (1, .inl a), (2, .inl b), (3, .inl c), (4, .inl d)]) rfl ?_
  refine y_pick [4, 5, 6, 7, 8, 3, 2, 1, 0] rfl ?_
  refine loop4_ind (P := fun x1 x2 x3 x4 => Y E MX2_gainOf (yRm 0 0 0) (yQf E (150 + 0) 0 0 (some (.inl ρ)) (ov σ)) 12 [(0, .inr (.inr (78 + 1))), (1, .inl a), (2, .inl b), (3, .inl c), (4, .inl d), (5, .inl x1), (6, .inl x2), (7, .inl x3), (8, .inl x4)] [] (ov σ) 150 0 0) (fun k5 hk5 x1 x2 x3 x4 h => ?_) _ _ _ _ _  h
  refine y_iload (show decode cX2_gainOf 12 = .ok (.iload 8, 2) by decide +kernel) 8 rfl ?_
  refine y_aload_n (show decode cX2_gainOf 14 = .ok (.aload_n 0, 1) by decide +kernel) 0 rfl ?_
  obtain ⟨T6, c7, c8, h⟩ := chkT_some h
  refine y_getf 78 2 0 24 (by decide) rfl (by decide) (by decide) q2_174 (show decode cX2_gainOf 15 = .ok (.getfield 24, 3) by decide +kernel) (v := .inr (.inr (T6 + 1))) (by rw [← c8]; rfl) ?_
  refine y_getf T6 9 14 71 (by omega) (by rcases c7 with rfl | rfl <;> rfl) (by decide) (by decide) q2_8 (show decode cX2_gainOf 18 = .ok (.getfield 71, 3) by decide +kernel) (v := .inl (σ T6 14)) (by rcases c7 with rfl | rfl <;> rfl) ?_
  by_cases c9 : x4 ≥ (σ T6 14)
  · rw [if_pos c9] at h
    refine y_icmp_ge_t (tgt := 128) (show decode cX2_gainOf 21 = .ok (.if_icmp .ge 107, 3) by decide +kernel) rfl c9 ?_
    refine y_aload_n (show decode cX2_gainOf 128 = .ok (.aload_n 0, 1) by decide +kernel) 0 rfl ?_
    obtain ⟨T10, c11, c12, h⟩ := chkT_some h
    refine y_getf 78 2 0 24 (by decide) rfl (by decide) (by decide) q2_174 (show decode cX2_gainOf 129 = .ok (.getfield 24, 3) by decide +kernel) (v := .inr (.inr (T10 + 1))) (by rw [← c12]; rfl) ?_
    refine y_getf T10 9 4 106 (by omega) (by rcases c11 with rfl | rfl <;> rfl) (by decide) (by decide) q1_215 (show decode cX2_gainOf 132 = .ok (.getfield 106, 3) by decide +kernel) (v := .inr (.inr ((T10 + 8) + 1))) (by rcases c11 with rfl | rfl <;> rfl) ?_
    refine y_iload_n (show decode cX2_gainOf 135 = .ok (.iload_n 2, 1) by decide +kernel) 2 rfl ?_
    obtain ⟨c13, h⟩ := chkA_some h
    refine yo_iald (T10 + 8) 5 (by omega) (by rcases c11 with rfl | rfl <;> rfl) c13 (ov_at (by rcases c11 with rfl | rfl <;> rfl)) (show decode cX2_gainOf 136 = .ok (.iaload, 1) by decide +kernel) ?_
    refine y_iload_n (show decode cX2_gainOf 137 = .ok (.iload_n 3, 1) by decide +kernel) 3 rfl ?_
    refine bnd_j (Q := fun j15 => ∀ (y14 : Int), j15 y14 = some ρ → Y E MX2_gainOf (yRm 0 0 0) (yQf E (150 + 0) 0 0 (some (.inl ρ)) (ov σ)) 146 [(0, .inr (.inr (78 + 1))), (2, .inl b), (5, .inl x1), (6, .inl x2), (7, .inl x3)] [.inl y14] (ov σ) 150 0 0) (fun y14 h => ?_) (fun j15 hj15 h => ?_) h
    · dsimp only at h
      refine y_istore (show decode cX2_gainOf 146 = .ok (.istore 8, 2) by decide +kernel) rfl (L1 := [(8, .inl y14), (0, .inr (.inr (78 + 1))), (2, .inl b), (5, .inl x1), (6, .inl x2), (7, .inl x3)]) rfl ?_
      refine y_aload_n (show decode cX2_gainOf 148 = .ok (.aload_n 0, 1) by decide +kernel) 1 rfl ?_
      refine y_getf 78 2 8 28 (by decide) rfl (by decide) (by decide) q2_194 (show decode cX2_gainOf 149 = .ok (.getfield 28, 3) by decide +kernel) (v := .inl (σ 78 8)) rfl ?_
      by_cases c16 : ¬ (σ 78 8) = 0
      · rw [if_pos c16] at h
        refine y_if_ne_t (tgt := 178) (show decode cX2_gainOf 152 = .ok (.ifCond .ne 26, 3) by decide +kernel) rfl c16 ?_
        refine y_iload (show decode cX2_gainOf 178 = .ok (.iload 7, 2) by decide +kernel) 5 rfl ?_
        by_cases c17 : x3 = 0
        · rw [if_pos c17] at h
          refine y_if_eq_t (tgt := 188) (show decode cX2_gainOf 180 = .ok (.ifCond .eq 8, 3) by decide +kernel) rfl c17 ?_
          refine y_aload_n (show decode cX2_gainOf 188 = .ok (.aload_n 0, 1) by decide +kernel) 1 rfl ?_
          refine y_getf 78 2 8 28 (by decide) rfl (by decide) (by decide) q2_194 (show decode cX2_gainOf 189 = .ok (.getfield 28, 3) by decide +kernel) (v := .inl (σ 78 8)) rfl ?_
          refine y_iconst (show decode cX2_gainOf 192 = .ok (.iconst 1, 1) by decide +kernel) rfl ?_
          by_cases c18 : ¬ (σ 78 8) = 1
          · rw [if_pos c18] at h
            refine y_icmp_ne_t (tgt := 210) (show decode cX2_gainOf 193 = .ok (.if_icmp .ne 17, 3) by decide +kernel) rfl c18 ?_
            refine y_iconst (show decode cX2_gainOf 210 = .ok (.iconst 0, 1) by decide +kernel) rfl ?_
            cases h
            exact y_iret (show decode cX2_gainOf 211 = .ok (.ireturn, 1) by decide +kernel) rfl
          · rw [if_neg c18] at h
            refine y_icmp_ne_f (show decode cX2_gainOf 193 = .ok (.if_icmp .ne 17, 3) by decide +kernel) c18 (by decide) ?_
            refine y_iload (show decode cX2_gainOf 196 = .ok (.iload 8, 2) by decide +kernel) 0 rfl ?_
            by_cases c19 : y14 = 0
            · rw [if_pos c19] at h
              refine y_if_eq_t (tgt := 210) (show decode cX2_gainOf 198 = .ok (.ifCond .eq 12, 3) by decide +kernel) rfl c19 ?_
              refine y_iconst (show decode cX2_gainOf 210 = .ok (.iconst 0, 1) by decide +kernel) rfl ?_
              cases h
              exact y_iret (show decode cX2_gainOf 211 = .ok (.ireturn, 1) by decide +kernel) rfl
            · rw [if_neg c19] at h
              refine y_if_eq_f (show decode cX2_gainOf 198 = .ok (.ifCond .eq 12, 3) by decide +kernel) c19 (by decide) ?_
              refine y_iload (show decode cX2_gainOf 201 = .ok (.iload 6, 2) by decide +kernel) 4 rfl ?_
              by_cases c20 : ¬ x2 = 0
              · rw [if_pos c20] at h
                refine y_if_ne_t (tgt := 210) (show decode cX2_gainOf 203 = .ok (.ifCond .ne 7, 3) by decide +kernel) rfl c20 ?_
                refine y_iconst (show decode cX2_gainOf 210 = .ok (.iconst 0, 1) by decide +kernel) rfl ?_
                cases h
                exact y_iret (show decode cX2_gainOf 211 = .ok (.ireturn, 1) by decide +kernel) rfl
              · rw [if_neg c20] at h
                refine y_if_ne_f (show decode cX2_gainOf 203 = .ok (.ifCond .ne 7, 3) by decide +kernel) c20 (by decide) ?_
                refine y_iconst (show decode cX2_gainOf 206 = .ok (.iconst (-1), 1) by decide +kernel) rfl ?_
                refine y_goto (tgt := 211) (show decode cX2_gainOf 207 = .ok (.goto 4, 3) by decide +kernel) rfl ?_
                cases h
                exact y_iret (show decode cX2_gainOf 211 = .ok (.ireturn, 1) by decide +kernel) rfl
        · rw [if_neg c17] at h
          refine y_if_eq_f (show decode cX2_gainOf 180 = .ok (.ifCond .eq 8, 3) by decide +kernel) c17 (by decide) ?_
          refine y_ldc (k := -1000000) (show decode cX2_gainOf 183 = .ok (.ldc 92, 2) by decide +kernel) q4_234 rfl rfl ?_
          refine y_goto (tgt := 211) (show decode cX2_gainOf 185 = .ok (.goto 26, 3) by decide +kernel) rfl ?_
          cases h
          exact y_iret (show decode cX2_gainOf 211 = .ok (.ireturn, 1) by decide +kernel) rfl
      · rw [if_neg c16] at h
        refine y_if_ne_f (show decode cX2_gainOf 152 = .ok (.ifCond .ne 26, 3) by decide +kernel) c16 (by decide) ?_
        refine y_iload (show decode cX2_gainOf 155 = .ok (.iload 8, 2) by decide +kernel) 0 rfl ?_
        by_cases c21 : y14 = 0
        · rw [if_pos c21] at h
          refine y_if_eq_t (tgt := 175) (show decode cX2_gainOf 157 = .ok (.ifCond .eq 18, 3) by decide +kernel) rfl c21 ?_
          refine y_iload (show decode cX2_gainOf 175 = .ok (.iload 5, 2) by decide +kernel) 3 rfl ?_
          cases h
          exact y_iret (show decode cX2_gainOf 177 = .ok (.ireturn, 1) by decide +kernel) rfl
        · rw [if_neg c21] at h
          refine y_if_eq_f (show decode cX2_gainOf 157 = .ok (.ifCond .eq 18, 3) by decide +kernel) c21 (by decide) ?_
          refine y_iload (show decode cX2_gainOf 160 = .ok (.iload 5, 2) by decide +kernel) 3 rfl ?_
          refine y_aload_n (show decode cX2_gainOf 162 = .ok (.aload_n 0, 1) by decide +kernel) 1 rfl ?_
          obtain ⟨T22, c23, c24, h⟩ := chkT_some h
          refine y_getf 78 2 0 24 (by decide) rfl (by decide) (by decide) q2_174 (show decode cX2_gainOf 163 = .ok (.getfield 24, 3) by decide +kernel) (v := .inr (.inr (T22 + 1))) (by rw [← c24]; rfl) ?_
          refine y_getf T22 9 5 109 (by omega) (by rcases c23 with rfl | rfl <;> rfl) (by decide) (by decide) q1_218 (show decode cX2_gainOf 166 = .ok (.getfield 109, 3) by decide +kernel) (v := .inr (.inr ((T22 + 9) + 1))) (by rcases c23 with rfl | rfl <;> rfl) ?_
          refine y_iload_n (show decode cX2_gainOf 169 = .ok (.iload_n 2, 1) by decide +kernel) 2 rfl ?_
          obtain ⟨c25, h⟩ := chkA_some h
          refine yo_iald (T22 + 9) 5 (by omega) (by rcases c23 with rfl | rfl <;> rfl) c25 (ov_at (by rcases c23 with rfl | rfl <;> rfl)) (show decode cX2_gainOf 170 = .ok (.iaload, 1) by decide +kernel) ?_
          obtain ⟨c26, h⟩ := chkI_some h
          refine y_isub (show decode cX2_gainOf 171 = .ok (.isub, 1) by decide +kernel) c26 ?_
          refine y_goto (tgt := 177) (show decode cX2_gainOf 172 = .ok (.goto 5, 3) by decide +kernel) rfl ?_
          cases h
          exact y_iret (show decode cX2_gainOf 177 = .ok (.ireturn, 1) by decide +kernel) rfl
    by_cases c27 : (σ (T10 + 8) (b).toNat) = c
    · rw [if_pos c27] at h
      refine y_icmp_eq_t (tgt := 145) (show decode cX2_gainOf 138 = .ok (.if_icmp .eq 7, 3) by decide +kernel) rfl c27 ?_
      refine y_iconst (show decode cX2_gainOf 145 = .ok (.iconst 0, 1) by decide +kernel) rfl ?_
      refine y_pick [0, 2, 5, 6, 7] rfl ?_
      exact hj15 _ h
    · rw [if_neg c27] at h
      refine y_icmp_eq_f (show decode cX2_gainOf 138 = .ok (.if_icmp .eq 7, 3) by decide +kernel) c27 (by decide) ?_
      refine y_iconst (show decode cX2_gainOf 141 = .ok (.iconst 1, 1) by decide +kernel) rfl ?_
      refine y_goto (tgt := 146) (show decode cX2_gainOf 142 = .ok (.goto 4, 3) by decide +kernel) rfl ?_
      refine y_pick [0, 2, 5, 6, 7] rfl ?_
      exact hj15 _ h
  · rw [if_neg c9] at h
    refine y_icmp_ge_f (show decode cX2_gainOf 21 = .ok (.if_icmp .ge 107, 3) by decide +kernel) c9 (by decide) ?_
    refine y_aload_n (show decode cX2_gainOf 24 = .ok (.aload_n 0, 1) by decide +kernel) 0 rfl ?_
    obtain ⟨T28, c29, c30, h⟩ := chkT_some h
    refine y_getf 78 2 0 24 (by decide) rfl (by decide) (by decide) q2_174 (show decode cX2_gainOf 25 = .ok (.getfield 24, 3) by decide +kernel) (v := .inr (.inr (T28 + 1))) (by rw [← c30]; rfl) ?_
    refine y_getf T28 9 7 97 (by omega) (by rcases c29 with rfl | rfl <;> rfl) (by decide) (by decide) q1_223 (show decode cX2_gainOf 28 = .ok (.getfield 97, 3) by decide +kernel) (v := .inr (.inr ((T28 + 11) + 1))) (by rcases c29 with rfl | rfl <;> rfl) ?_
    refine y_iload (show decode cX2_gainOf 31 = .ok (.iload 8, 2) by decide +kernel) 8 rfl ?_
    obtain ⟨c31, h⟩ := chkA_some h
    refine yo_iald (T28 + 11) 8 (by omega) (by rcases c29 with rfl | rfl <;> rfl) c31 (ov_at (by rcases c29 with rfl | rfl <;> rfl)) (show decode cX2_gainOf 33 = .ok (.iaload, 1) by decide +kernel) ?_
    refine y_iload_n (show decode cX2_gainOf 34 = .ok (.iload_n 2, 1) by decide +kernel) 2 rfl ?_
    refine bnd_j (Q := fun j35 => ∀ (y32 : Int) (y33 : Int) (y34 : Int), j35 y32 y33 y34 = some ρ → Y E MX2_gainOf (yRm 0 0 0) (yQf E (150 + 0) 0 0 (some (.inl ρ)) (ov σ)) 122 [(0, .inr (.inr (78 + 1))), (1, .inl a), (2, .inl b), (3, .inl c), (4, .inl d), (5, .inl y32), (6, .inl y33), (7, .inl y34), (8, .inl x4)] [] (ov σ) 150 0 0) (fun y32 y33 y34 h => ?_) (fun j35 hj35 h => ?_) h
    · dsimp only at h
      obtain ⟨c36, h⟩ := chkI_some h
      refine y_iinc (show decode cX2_gainOf 122 = .ok (.iinc 8 1, 3) by decide +kernel) 8 rfl c36 rfl (L1 := [(8, .inl (x4 + 1)), (0, .inr (.inr (78 + 1))), (1, .inl a), (2, .inl b), (3, .inl c), (4, .inl d), (5, .inl y32), (6, .inl y33), (7, .inl y34)]) rfl ?_
      refine y_goto (tgt := 12) (show decode cX2_gainOf 125 = .ok (.goto (-113), 3) by decide +kernel) rfl ?_
      refine y_pick [1, 2, 3, 4, 5, 6, 7, 8, 0] rfl ?_
      exact hk5 _ _ _ _ h
    by_cases c37 : ¬ (σ (T28 + 11) (x4).toNat) = b
    · rw [if_pos c37] at h
      refine y_icmp_ne_t (tgt := 122) (show decode cX2_gainOf 35 = .ok (.if_icmp .ne 87, 3) by decide +kernel) rfl c37 ?_
      refine y_pick [0, 1, 2, 3, 4, 5, 6, 7, 8] rfl ?_
      exact hj35 _ _ _ h
    · rw [if_neg c37] at h
      refine y_icmp_ne_f (show decode cX2_gainOf 35 = .ok (.if_icmp .ne 87, 3) by decide +kernel) c37 (by decide) ?_
      refine y_aload_n (show decode cX2_gainOf 38 = .ok (.aload_n 0, 1) by decide +kernel) 0 rfl ?_
      obtain ⟨T38, c39, c40, h⟩ := chkT_some h
      refine y_getf 78 2 0 24 (by decide) rfl (by decide) (by decide) q2_174 (show decode cX2_gainOf 39 = .ok (.getfield 24, 3) by decide +kernel) (v := .inr (.inr (T38 + 1))) (by rw [← c40]; rfl) ?_
      refine y_getf T38 9 9 74 (by omega) (by rcases c39 with rfl | rfl <;> rfl) (by decide) (by decide) q1_231 (show decode cX2_gainOf 42 = .ok (.getfield 74, 3) by decide +kernel) (v := .inr (.inr ((T38 + 13) + 1))) (by rcases c39 with rfl | rfl <;> rfl) ?_
      refine y_iload (show decode cX2_gainOf 45 = .ok (.iload 8, 2) by decide +kernel) 8 rfl ?_
      obtain ⟨c41, h⟩ := chkA_some h
      refine yo_iald (T38 + 13) 8 (by omega) (by rcases c39 with rfl | rfl <;> rfl) c41 (ov_at (by rcases c39 with rfl | rfl <;> rfl)) (show decode cX2_gainOf 47 = .ok (.iaload, 1) by decide +kernel) ?_
      refine y_iload (show decode cX2_gainOf 48 = .ok (.iload 4, 2) by decide +kernel) 4 rfl ?_
      obtain ⟨c42, h⟩ := chkI_some h
      refine y_imul (show decode cX2_gainOf 50 = .ok (.imul, 1) by decide +kernel) c42 ?_
      refine y_iload_n (show decode cX2_gainOf 51 = .ok (.iload_n 1, 1) by decide +kernel) 1 rfl ?_
      by_cases c43 : ¬ ((σ (T38 + 13) (x4).toNat) * d) = a
      · rw [if_pos c43] at h
        refine y_icmp_ne_t (tgt := 122) (show decode cX2_gainOf 52 = .ok (.if_icmp .ne 70, 3) by decide +kernel) rfl c43 ?_
        refine y_pick [0, 1, 2, 3, 4, 5, 6, 7, 8] rfl ?_
        exact hj35 _ _ _ h
      · rw [if_neg c43] at h
        refine y_icmp_ne_f (show decode cX2_gainOf 52 = .ok (.if_icmp .ne 70, 3) by decide +kernel) c43 (by decide) ?_
        refine y_aload_n (show decode cX2_gainOf 55 = .ok (.aload_n 0, 1) by decide +kernel) 0 rfl ?_
        obtain ⟨T44, c45, c46, h⟩ := chkT_some h
        refine y_getf 78 2 0 24 (by decide) rfl (by decide) (by decide) q2_174 (show decode cX2_gainOf 56 = .ok (.getfield 24, 3) by decide +kernel) (v := .inr (.inr (T44 + 1))) (by rw [← c46]; rfl) ?_
        refine y_getf T44 9 8 100 (by omega) (by rcases c45 with rfl | rfl <;> rfl) (by decide) (by decide) q1_227 (show decode cX2_gainOf 59 = .ok (.getfield 100, 3) by decide +kernel) (v := .inr (.inr ((T44 + 12) + 1))) (by rcases c45 with rfl | rfl <;> rfl) ?_
        refine y_iload (show decode cX2_gainOf 62 = .ok (.iload 8, 2) by decide +kernel) 8 rfl ?_
        obtain ⟨c47, h⟩ := chkA_some h
        refine yo_iald (T44 + 12) 8 (by omega) (by rcases c45 with rfl | rfl <;> rfl) c47 (ov_at (by rcases c45 with rfl | rfl <;> rfl)) (show decode cX2_gainOf 64 = .ok (.iaload, 1) by decide +kernel) ?_
        refine y_iload_n (show decode cX2_gainOf 65 = .ok (.iload_n 3, 1) by decide +kernel) 3 rfl ?_
        refine bnd_j (Q := fun j49 => ∀ (y48 : Int), j49 y48 = some ρ → Y E MX2_gainOf (yRm 0 0 0) (yQf E (150 + 0) 0 0 (some (.inl ρ)) (ov σ)) 74 [(0, .inr (.inr (78 + 1))), (1, .inl a), (2, .inl b), (3, .inl c), (4, .inl d), (5, .inl x1), (6, .inl x2), (7, .inl x3), (8, .inl x4)] [.inl y48] (ov σ) 150 0 0) (fun y48 h => ?_) (fun j49 hj49 h => ?_) h
        · dsimp only at h
          refine y_istore (show decode cX2_gainOf 74 = .ok (.istore 9, 2) by decide +kernel) rfl (L1 := [(9, .inl y48), (0, .inr (.inr (78 + 1))), (1, .inl a), (2, .inl b), (3, .inl c), (4, .inl d), (5, .inl x1), (6, .inl x2), (7, .inl x3), (8, .inl x4)]) rfl ?_
          refine y_iload (show decode cX2_gainOf 76 = .ok (.iload 5, 2) by decide +kernel) 6 rfl ?_
          refine y_iload (show decode cX2_gainOf 78 = .ok (.iload 9, 2) by decide +kernel) 0 rfl ?_
          refine bnd_j (Q := fun j51 => ∀ (y50 : Int), j51 y50 = some ρ → Y E MX2_gainOf (yRm 0 0 0) (yQf E (150 + 0) 0 0 (some (.inl ρ)) (ov σ)) 97 [(0, .inr (.inr (78 + 1))), (1, .inl a), (2, .inl b), (3, .inl c), (4, .inl d), (6, .inl x2), (7, .inl x3), (8, .inl x4), (9, .inl y48)] [.inl y50, .inl x1] (ov σ) 150 0 0) (fun y50 h => ?_) (fun j51 hj51 h => ?_) h
          · dsimp only at h
            obtain ⟨c52, h⟩ := chkI_some h
            refine y_iadd (show decode cX2_gainOf 97 = .ok (.iadd, 1) by decide +kernel) c52 ?_
            refine y_istore (show decode cX2_gainOf 98 = .ok (.istore 5, 2) by decide +kernel) rfl (L1 := [(5, .inl (x1 + y50)), (0, .inr (.inr (78 + 1))), (1, .inl a), (2, .inl b), (3, .inl c), (4, .inl d), (6, .inl x2), (7, .inl x3), (8, .inl x4), (9, .inl y48)]) rfl ?_
            refine y_iload (show decode cX2_gainOf 100 = .ok (.iload 6, 2) by decide +kernel) 6 rfl ?_
            refine y_iload (show decode cX2_gainOf 102 = .ok (.iload 9, 2) by decide +kernel) 9 rfl ?_
            refine y_ior (show decode cX2_gainOf 104 = .ok (.ior, 1) by decide +kernel) ?_
            refine y_istore (show decode cX2_gainOf 105 = .ok (.istore 6, 2) by decide +kernel) rfl (L1 := [(6, .inl (b32or x2 y48)), (5, .inl (x1 + y50)), (0, .inr (.inr (78 + 1))), (1, .inl a), (2, .inl b), (3, .inl c), (4, .inl d), (7, .inl x3), (8, .inl x4), (9, .inl y48)]) rfl ?_
            refine y_iload (show decode cX2_gainOf 107 = .ok (.iload 7, 2) by decide +kernel) 7 rfl ?_
            refine y_iload (show decode cX2_gainOf 109 = .ok (.iload 9, 2) by decide +kernel) 9 rfl ?_
            refine bnd_j (Q := fun j54 => ∀ (y53 : Int), j54 y53 = some ρ → Y E MX2_gainOf (yRm 0 0 0) (yQf E (150 + 0) 0 0 (some (.inl ρ)) (ov σ)) 119 [(0, .inr (.inr (78 + 1))), (1, .inl a), (2, .inl b), (3, .inl c), (4, .inl d), (5, .inl (x1 + y50)), (6, .inl (b32or x2 y48)), (8, .inl x4)] [.inl y53, .inl x3] (ov σ) 150 0 0) (fun y53 h => ?_) (fun j54 hj54 h => ?_) h
            · dsimp only at h
              refine y_ior (show decode cX2_gainOf 119 = .ok (.ior, 1) by decide +kernel) ?_
              refine y_istore (show decode cX2_gainOf 120 = .ok (.istore 7, 2) by decide +kernel) rfl (L1 := [(7, .inl (b32or x3 y53)), (0, .inr (.inr (78 + 1))), (1, .inl a), (2, .inl b), (3, .inl c), (4, .inl d), (5, .inl (x1 + y50)), (6, .inl (b32or x2 y48)), (8, .inl x4)]) rfl ?_
              refine y_pick [1, 2, 3, 4, 5, 6, 7, 0, 8] rfl ?_
              exact hj35 _ _ _ h
            by_cases c55 : ¬ y48 = 0
            · rw [if_pos c55] at h
              refine y_if_ne_t (tgt := 118) (show decode cX2_gainOf 111 = .ok (.ifCond .ne 7, 3) by decide +kernel) rfl c55 ?_
              refine y_iconst (show decode cX2_gainOf 118 = .ok (.iconst 0, 1) by decide +kernel) rfl ?_
              refine y_pick [2, 3, 4, 5, 6, 1, 0, 8] rfl ?_
              exact hj54 _ h
            · rw [if_neg c55] at h
              refine y_if_ne_f (show decode cX2_gainOf 111 = .ok (.ifCond .ne 7, 3) by decide +kernel) c55 (by decide) ?_
              refine y_iconst (show decode cX2_gainOf 114 = .ok (.iconst 1, 1) by decide +kernel) rfl ?_
              refine y_goto (tgt := 119) (show decode cX2_gainOf 115 = .ok (.goto 4, 3) by decide +kernel) rfl ?_
              refine y_pick [2, 3, 4, 5, 6, 1, 0, 8] rfl ?_
              exact hj54 _ h
          by_cases c56 : y48 = 0
          · rw [if_pos c56] at h
            refine y_if_eq_t (tgt := 96) (show decode cX2_gainOf 80 = .ok (.ifCond .eq 16, 3) by decide +kernel) rfl c56 ?_
            refine y_iconst (show decode cX2_gainOf 96 = .ok (.iconst 0, 1) by decide +kernel) rfl ?_
            refine y_pick [1, 2, 3, 4, 5, 7, 8, 9, 0] rfl ?_
            exact hj51 _ h
          · rw [if_neg c56] at h
            refine y_if_eq_f (show decode cX2_gainOf 80 = .ok (.ifCond .eq 16, 3) by decide +kernel) c56 (by decide) ?_
            refine y_aload_n (show decode cX2_gainOf 83 = .ok (.aload_n 0, 1) by decide +kernel) 1 rfl ?_
            obtain ⟨T57, c58, c59, h⟩ := chkT_some h
            refine y_getf 78 2 0 24 (by decide) rfl (by decide) (by decide) q2_174 (show decode cX2_gainOf 84 = .ok (.getfield 24, 3) by decide +kernel) (v := .inr (.inr (T57 + 1))) (by rw [← c59]; rfl) ?_
            refine y_getf T57 9 10 103 (by omega) (by rcases c58 with rfl | rfl <;> rfl) (by decide) (by decide) q1_235 (show decode cX2_gainOf 87 = .ok (.getfield 103, 3) by decide +kernel) (v := .inr (.inr ((T57 + 14) + 1))) (by rcases c58 with rfl | rfl <;> rfl) ?_
            refine y_iload (show decode cX2_gainOf 90 = .ok (.iload 8, 2) by decide +kernel) 9 rfl ?_
            obtain ⟨c60, h⟩ := chkA_some h
            refine yo_iald (T57 + 14) 8 (by omega) (by rcases c58 with rfl | rfl <;> rfl) c60 (ov_at (by rcases c58 with rfl | rfl <;> rfl)) (show decode cX2_gainOf 92 = .ok (.iaload, 1) by decide +kernel) ?_
            refine y_goto (tgt := 97) (show decode cX2_gainOf 93 = .ok (.goto 4, 3) by decide +kernel) rfl ?_
            refine y_pick [1, 2, 3, 4, 5, 7, 8, 9, 0] rfl ?_
            exact hj51 _ h
        by_cases c61 : ¬ (σ (T44 + 12) (x4).toNat) = c
        · rw [if_pos c61] at h
          refine y_icmp_ne_t (tgt := 73) (show decode cX2_gainOf 66 = .ok (.if_icmp .ne 7, 3) by decide +kernel) rfl c61 ?_
          refine y_iconst (show decode cX2_gainOf 73 = .ok (.iconst 0, 1) by decide +kernel) rfl ?_
          refine y_pick [0, 1, 2, 3, 4, 5, 6, 7, 8] rfl ?_
          exact hj49 _ h
        · rw [if_neg c61] at h
          refine y_icmp_ne_f (show decode cX2_gainOf 66 = .ok (.if_icmp .ne 7, 3) by decide +kernel) c61 (by decide) ?_
          refine y_iconst (show decode cX2_gainOf 69 = .ok (.iconst 1, 1) by decide +kernel) rfl ?_
          refine y_goto (tgt := 74) (show decode cX2_gainOf 70 = .ok (.goto 4, 3) by decide +kernel) rfl ?_
          refine y_pick [0, 1, 2, 3, 4, 5, 6, 7, 8] rfl ?_
          exact hj49 _ h
abbrev MX2_layGains : yM := (yX2_layGains, cX2_layGains, 5, none)
def cDy_layGains (N : Nat) (a : Int) (b : Int) (σ : ySt) : Option (ySt) :=
  loopS1 (fun k3 x1 σ2 =>
    chkT (σ2 78 0) fun T4 =>
    if x1 ≥ (σ2 (T4 + 3) 1) then
      some σ2
    else
      loopS2 (fun k11 x8 x9 σ10 =>
        chkT (σ10 78 0) fun T12 =>
        if x9 ≥ (σ10 (T12 + 1) 1) then
          chkI (x8 + 1) <|
          k3 (x8 + 1) σ10
        else
          chkI (a * 5) <|
          chkI ((a * 5) + x8) <|
          chkI (((a * 5) + x8) * 6) <|
          chkI ((((a * 5) + x8) * 6) + x9) <|
          bndO (cDy_gainOf N a x8 x9 b σ10) fun r22 =>
          chkA 270 ((((a * 5) + x8) * 6) + x9) <|
          bnd (yset σ10 81 (((((a * 5) + x8) * 6) + x9)).toNat r22) fun σ24 =>
          chkI (x9 + 1) <|
          k11 x8 (x9 + 1) σ24) N x1 0 σ2) N 0 σ
set_option maxHeartbeats 4000000 in
set_option maxRecDepth 10000 in
theorem sh_cDy_layGains {E : yE} {N : Nat} {a : Int} {b : Int} {σ : ySt} {τ : ySt} (h : cDy_layGains N a b σ = some τ) : Con E MX2_layGains 1 0 0 [.inr (.inr (78 + 1)), .inl a, .inl b] 150 (ov σ) none (ov τ) := by
  unfold cDy_layGains at h
  refine Con.ofY (by decide +kernel) (by simp [yWords, yCat]) (fun hok _ => ?_)
  show Y E MX2_layGains (yRm 1 0 0) (yQf E (150 + 0) 0 0 none (ov τ)) 0 [(0, .inr (.inr (78 + 1))), (1, .inl a), (2, .inl b)] [] (ov σ) 150 0 0
  refine y_iconst (show decode cX2_layGains 0 = .ok (.iconst 0, 1) by decide +kernel) rfl ?_
  refine y_istore_n (show decode cX2_layGains 1 = .ok (.istore_n 3, 1) by decide +kernel) rfl (L1 := [(3, .inl 0), (0, .inr (.inr (78 + 1))), (1, .inl a), (2, .inl b)]) rfl ?_
  refine y_pick [1, 2, 3, 0] rfl ?_
  refine loopS1_ind (P := fun x1 σ2 => Y E MX2_layGains (yRm 1 0 0) (yQf E (150 + 0) 0 0 none (ov τ)) 2 [(0, .inr (.inr (78 + 1))), (1, .inl a), (2, .inl b), (3, .inl x1)] [] (ov σ2) 150 0 0) (fun k3 hk3 x1 σ2 h => ?_) _ _ _  h
  refine y_iload_n (show decode cX2_layGains 2 = .ok (.iload_n 3, 1) by decide +kernel) 3 rfl ?_
  refine y_aload_n (show decode cX2_layGains 3 = .ok (.aload_n 0, 1) by decide +kernel) 0 rfl ?_
  obtain ⟨T4, c5, c6, h⟩ := chkT_some h
  refine y_getf 78 2 0 24 (by decide) rfl (by decide) (by decide) q2_174 (show decode cX2_layGains 4 = .ok (.getfield 24, 3) by decide +kernel) (v := .inr (.inr (T4 + 1))) (by rw [← c6]; rfl) ?_
  refine y_getf T4 9 1 80 (by omega) (by rcases c5 with rfl | rfl <;> rfl) (by decide) (by decide) q1_203 (show decode cX2_layGains 7 = .ok (.getfield 80, 3) by decide +kernel) (v := .inr (.inr ((T4 + 3) + 1))) (by rcases c5 with rfl | rfl <;> rfl) ?_
  refine y_getf (T4 + 3) 5 1 84 (by omega) (by rcases c5 with rfl | rfl <;> rfl) (by decide) (by decide) q1_149 (show decode cX2_layGains 10 = .ok (.getfield 84, 3) by decide +kernel) (v := .inl (σ2 (T4 + 3) 1)) (by rcases c5 with rfl | rfl <;> rfl) ?_
  by_cases c7 : x1 ≥ (σ2 (T4 + 3) 1)
  · rw [if_pos c7] at h
    refine y_icmp_ge_t (tgt := 71) (show decode cX2_layGains 13 = .ok (.if_icmp .ge 58, 3) by decide +kernel) rfl c7 ?_
    cases h
    exact y_vret (show decode cX2_layGains 71 = .ok (.return_, 1) by decide +kernel) rfl
  · rw [if_neg c7] at h
    refine y_icmp_ge_f (show decode cX2_layGains 13 = .ok (.if_icmp .ge 58, 3) by decide +kernel) c7 (by decide) ?_
    refine y_iconst (show decode cX2_layGains 16 = .ok (.iconst 0, 1) by decide +kernel) rfl ?_
    refine y_istore (show decode cX2_layGains 17 = .ok (.istore 4, 2) by decide +kernel) rfl (L1 := [(4, .inl 0), (0, .inr (.inr (78 + 1))), (1, .inl a), (2, .inl b), (3, .inl x1)]) rfl ?_
    refine y_pick [1, 2, 3, 4, 0] rfl ?_
    refine loopS2_ind (P := fun x8 x9 σ10 => Y E MX2_layGains (yRm 1 0 0) (yQf E (150 + 0) 0 0 none (ov τ)) 19 [(0, .inr (.inr (78 + 1))), (1, .inl a), (2, .inl b), (3, .inl x8), (4, .inl x9)] [] (ov σ10) 150 0 0) (fun k11 hk11 x8 x9 σ10 h => ?_) _ _ _ _  h
    refine y_iload (show decode cX2_layGains 19 = .ok (.iload 4, 2) by decide +kernel) 4 rfl ?_
    refine y_aload_n (show decode cX2_layGains 21 = .ok (.aload_n 0, 1) by decide +kernel) 0 rfl ?_
    obtain ⟨T12, c13, c14, h⟩ := chkT_some h
    refine y_getf 78 2 0 24 (by decide) rfl (by decide) (by decide) q2_174 (show decode cX2_layGains 22 = .ok (.getfield 24, 3) by decide +kernel) (v := .inr (.inr (T12 + 1))) (by rw [← c14]; rfl) ?_
    refine y_getf T12 9 0 89 (by omega) (by rcases c13 with rfl | rfl <;> rfl) (by decide) (by decide) q1_195 (show decode cX2_layGains 25 = .ok (.getfield 89, 3) by decide +kernel) (v := .inr (.inr ((T12 + 1) + 1))) (by rcases c13 with rfl | rfl <;> rfl) ?_
    refine y_getf (T12 + 1) 5 1 84 (by omega) (by rcases c13 with rfl | rfl <;> rfl) (by decide) (by decide) q1_149 (show decode cX2_layGains 28 = .ok (.getfield 84, 3) by decide +kernel) (v := .inl (σ10 (T12 + 1) 1)) (by rcases c13 with rfl | rfl <;> rfl) ?_
    by_cases c15 : x9 ≥ (σ10 (T12 + 1) 1)
    · rw [if_pos c15] at h
      refine y_icmp_ge_t (tgt := 65) (show decode cX2_layGains 31 = .ok (.if_icmp .ge 34, 3) by decide +kernel) rfl c15 ?_
      obtain ⟨c16, h⟩ := chkI_some h
      refine y_iinc (show decode cX2_layGains 65 = .ok (.iinc 3 1, 3) by decide +kernel) 3 rfl c16 rfl (L1 := [(3, .inl (x8 + 1)), (0, .inr (.inr (78 + 1))), (1, .inl a), (2, .inl b), (4, .inl x9)]) rfl ?_
      refine y_goto (tgt := 2) (show decode cX2_layGains 68 = .ok (.goto (-66), 3) by decide +kernel) rfl ?_
      refine y_pick [1, 2, 3, 0] rfl ?_
      exact hk3 _ _ h
    · rw [if_neg c15] at h
      refine y_icmp_ge_f (show decode cX2_layGains 31 = .ok (.if_icmp .ge 34, 3) by decide +kernel) c15 (by decide) ?_
      refine y_aload_n (show decode cX2_layGains 34 = .ok (.aload_n 0, 1) by decide +kernel) 0 rfl ?_
      refine y_getf 78 2 6 18 (by decide) rfl (by decide) (by decide) q2_190 (show decode cX2_layGains 35 = .ok (.getfield 18, 3) by decide +kernel) (v := .inr (.inr (81 + 1))) rfl ?_
      refine y_iload_n (show decode cX2_layGains 38 = .ok (.iload_n 1, 1) by decide +kernel) 1 rfl ?_
      refine y_iconst (show decode cX2_layGains 39 = .ok (.iconst 5, 1) by decide +kernel) rfl ?_
      obtain ⟨c17, h⟩ := chkI_some h
      refine y_imul (show decode cX2_layGains 40 = .ok (.imul, 1) by decide +kernel) c17 ?_
      refine y_iload_n (show decode cX2_layGains 41 = .ok (.iload_n 3, 1) by decide +kernel) 3 rfl ?_
      obtain ⟨c18, h⟩ := chkI_some h
      refine y_iadd (show decode cX2_layGains 42 = .ok (.iadd, 1) by decide +kernel) c18 ?_
      refine y_bipush (show decode cX2_layGains 43 = .ok (.bipush 6, 2) by decide +kernel) rfl rfl ?_
      obtain ⟨c19, h⟩ := chkI_some h
      refine y_imul (show decode cX2_layGains 45 = .ok (.imul, 1) by decide +kernel) c19 ?_
      refine y_iload (show decode cX2_layGains 46 = .ok (.iload 4, 2) by decide +kernel) 4 rfl ?_
      obtain ⟨c20, h⟩ := chkI_some h
      refine y_iadd (show decode cX2_layGains 48 = .ok (.iadd, 1) by decide +kernel) c20 ?_
      refine y_aload_n (show decode cX2_layGains 49 = .ok (.aload_n 0, 1) by decide +kernel) 0 rfl ?_
      refine y_iload_n (show decode cX2_layGains 50 = .ok (.iload_n 1, 1) by decide +kernel) 1 rfl ?_
      refine y_iload_n (show decode cX2_layGains 51 = .ok (.iload_n 3, 1) by decide +kernel) 3 rfl ?_
      refine y_iload (show decode cX2_layGains 52 = .ok (.iload 4, 2) by decide +kernel) 4 rfl ?_
      refine y_iload_n (show decode cX2_layGains 54 = .ok (.iload_n 2, 1) by decide +kernel) 2 rfl ?_
      obtain ⟨r22, e21, h⟩ := bndO_some h
      refine y_callV (np := 4) (st := [.inl ((((a * 5) + x8) * 6) + x9), .inr (.inr (81 + 1))]) (as := [.inl a, .inl x8, .inl x9, .inl b]) 78 2 (sh_cDy_gainOf e21) q5_2 q4_239 q5_1 qs3_3 q1_14 (by decide) rfl (by decide) rfl (by decide) (by decide +kernel) (by decide) rfl (Nat.le_of_ble_eq_true rfl) (show decode cX2_layGains 55 = .ok (.invokevirtual 93, 3) by decide +kernel) rfl ?_
      obtain ⟨c23, h⟩ := chkA_some h
      obtain ⟨σ24, e25, h⟩ := bnd_i h
      refine yo_iast 81 270 (by decide) rfl c23 (ov_set1 e25 rfl) (show decode cX2_layGains 58 = .ok (.iastore, 1) by decide +kernel) ?_
      obtain ⟨c26, h⟩ := chkI_some h
      refine y_iinc (show decode cX2_layGains 59 = .ok (.iinc 4 1, 3) by decide +kernel) 4 rfl c26 rfl (L1 := [(4, .inl (x9 + 1)), (0, .inr (.inr (78 + 1))), (1, .inl a), (2, .inl b), (3, .inl x8)]) rfl ?_
      refine y_goto (tgt := 19) (show decode cX2_layGains 62 = .ok (.goto (-43), 3) by decide +kernel) rfl ?_
      refine y_pick [1, 2, 3, 4, 0] rfl ?_
      exact hk11 _ _ _ h
abbrev MX2_lay : yM := (yX2_lay, cX2_lay, 5, none)
def cDy_lay (N : Nat) (a : Nat) (b : Int) (c : Int) (σ : ySt) : Option (ySt) :=
  chk (a = 13 ∨ a = 33) <|
  bnd (yset σ 78 0 ((a : Nat) + 1 : Int)) fun σ2 =>
  bnd (yset σ2 78 8 b) fun σ4 =>
  bnd (yset σ4 78 2 0) fun σ6 =>
  if c < 1 then
    some σ6
  else
    chkI ((σ6 a 17) * c) <|
    if ((σ6 a 17) * c) > 8 then
      some σ6
    else
      chk ((c : Int) ≠ 0) <|
      chkI (((σ6 a 16) : Int).tdiv c) <|
      if ¬ (((σ6 a 16) : Int).tdiv c) = 0 then
        chkI ((σ6 a 17) * c) <|
        bnd (yset σ6 78 1 ((σ6 a 17) * c)) fun σ15 =>
        chk ((c : Int) ≠ 0) <|
        chkI (((σ15 a 16) : Int).tdiv c) <|
        bnd (yset σ15 78 9 (((σ15 a 16) : Int).tdiv c)) fun σ19 =>
        bnd (fun (y21 : Int) =>
          chk (y21 = 0 ∨ y21 = 1) <|
          bnd (yset σ19 78 2 y21) fun σ24 =>
          bndO (cDy_layStates N σ24) fun σ27 =>
          chkC 36 36 0 0 36 <|
          bnd (ycpy σ27 (a + 16) ((0 : Int).toNat) 82 ((0 : Int).toNat) ((36 : Int).toNat)) fun σ29 =>
          loopS1 (fun k33 x31 σ32 =>
            if x31 ≥ 36 then
              loopS1 (fun k37 x35 σ36 =>
                if x35 > (σ36 78 1) then
                  some σ36
                else
                  bndO (cDy_layGains N x35 c σ36) fun σ40 =>
                  chkI (x35 + 1) <|
                  k37 (x35 + 1) σ40) N 1 σ32
            else
              chkA 36 x31 <|
              bndO (cDy_walkOf (σ32 (a + 15) (x31).toNat) σ32) fun r44 =>
              chkA 36 x31 <|
              bnd (yset σ32 80 (x31).toNat r44) fun σ46 =>
              chkI (x31 + 1) <|
              k33 (x31 + 1) σ46) N 0 σ29) fun j22 =>
        if (σ19 78 8) = 0 then
          j22 1
        else
          bndO (cDy_errandsCanBe N σ19) fun r51 =>
          if r51 = 0 then
            j22 0
          else
            j22 1
      else
        some σ6
set_option maxHeartbeats 4000000 in
set_option maxRecDepth 10000 in
theorem sh_cDy_lay {E : yE} {N : Nat} {a : Nat} {b : Int} {c : Int} {σ : ySt} {τ : ySt} (h : cDy_lay N a b c σ = some τ) : Con E MX2_lay 2 0 0 [.inr (.inr (78 + 1)), .inr (.inr (a + 1)), .inl b, .inl c] 150 (ov σ) none (ov τ) := by
  unfold cDy_lay at h
  refine Con.ofY (by decide +kernel) (by simp [yWords, yCat]) (fun hok _ => ?_)
  show Y E MX2_lay (yRm 2 0 0) (yQf E (150 + 0) 0 0 none (ov τ)) 0 [(0, .inr (.inr (78 + 1))), (1, .inr (.inr (a + 1))), (2, .inl b), (3, .inl c)] [] (ov σ) 150 0 0
  obtain ⟨c1, h⟩ := chk_some h
  refine y_aload_n (show decode cX2_lay 0 = .ok (.aload_n 0, 1) by decide +kernel) 0 rfl ?_
  refine y_aload_n (show decode cX2_lay 1 = .ok (.aload_n 1, 1) by decide +kernel) 1 rfl ?_
  obtain ⟨σ2, e3, h⟩ := bnd_i h
  refine yo_putR 78 2 0 24 a (by decide) rfl (by decide) (by decide) q2_174 rfl (show decode cX2_lay 2 = .ok (.putfield 24, 3) by decide +kernel) rfl rfl (ov_set1 e3 rfl) ?_
  refine y_aload_n (show decode cX2_lay 5 = .ok (.aload_n 0, 1) by decide +kernel) 0 rfl ?_
  refine y_iload_n (show decode cX2_lay 6 = .ok (.iload_n 2, 1) by decide +kernel) 2 rfl ?_
  obtain ⟨σ4, e5, h⟩ := bnd_i h
  refine yo_putI 78 2 8 28 (by decide) rfl (by decide) (by decide) q2_194 rfl (show decode cX2_lay 7 = .ok (.putfield 28, 3) by decide +kernel) rfl rfl (ov_set1 e5 rfl) ?_
  refine y_aload_n (show decode cX2_lay 10 = .ok (.aload_n 0, 1) by decide +kernel) 0 rfl ?_
  refine y_iconst (show decode cX2_lay 11 = .ok (.iconst 0, 1) by decide +kernel) rfl ?_
  obtain ⟨σ6, e7, h⟩ := bnd_i h
  refine yo_putZ 78 2 2 32 (by decide) rfl (by decide) (by decide) q2_181 rfl (show decode cX2_lay 12 = .ok (.putfield 32, 3) by decide +kernel) rfl rfl (Or.inl rfl) (ov_set1 e7 rfl) ?_
  refine y_iload_n (show decode cX2_lay 15 = .ok (.iload_n 3, 1) by decide +kernel) 3 rfl ?_
  refine y_iconst (show decode cX2_lay 16 = .ok (.iconst 1, 1) by decide +kernel) rfl ?_
  by_cases c8 : c < 1
  · rw [if_pos c8] at h
    refine y_icmp_lt_t (tgt := 40) (show decode cX2_lay 17 = .ok (.if_icmp .lt 23, 3) by decide +kernel) rfl c8 ?_
    cases h
    exact y_vret (show decode cX2_lay 40 = .ok (.return_, 1) by decide +kernel) rfl
  · rw [if_neg c8] at h
    refine y_icmp_lt_f (show decode cX2_lay 17 = .ok (.if_icmp .lt 23, 3) by decide +kernel) c8 (by decide) ?_
    refine y_aload_n (show decode cX2_lay 20 = .ok (.aload_n 1, 1) by decide +kernel) 1 rfl ?_
    refine y_getf a 9 17 36 (by omega) (by rcases c1 with rfl | rfl <;> rfl) (by decide) (by decide) q2_19 (show decode cX2_lay 21 = .ok (.getfield 36, 3) by decide +kernel) (v := .inl (σ6 a 17)) (by rcases c1 with rfl | rfl <;> rfl) ?_
    refine y_iload_n (show decode cX2_lay 24 = .ok (.iload_n 3, 1) by decide +kernel) 3 rfl ?_
    obtain ⟨c9, h⟩ := chkI_some h
    refine y_imul (show decode cX2_lay 25 = .ok (.imul, 1) by decide +kernel) c9 ?_
    refine y_bipush (show decode cX2_lay 26 = .ok (.bipush 8, 2) by decide +kernel) rfl rfl ?_
    by_cases c10 : ((σ6 a 17) * c) > 8
    · rw [if_pos c10] at h
      refine y_icmp_gt_t (tgt := 40) (show decode cX2_lay 28 = .ok (.if_icmp .gt 12, 3) by decide +kernel) rfl c10 ?_
      cases h
      exact y_vret (show decode cX2_lay 40 = .ok (.return_, 1) by decide +kernel) rfl
    · rw [if_neg c10] at h
      refine y_icmp_gt_f (show decode cX2_lay 28 = .ok (.if_icmp .gt 12, 3) by decide +kernel) c10 (by decide) ?_
      refine y_aload_n (show decode cX2_lay 31 = .ok (.aload_n 1, 1) by decide +kernel) 1 rfl ?_
      refine y_getf a 9 16 41 (by omega) (by rcases c1 with rfl | rfl <;> rfl) (by decide) (by decide) q2_15 (show decode cX2_lay 32 = .ok (.getfield 41, 3) by decide +kernel) (v := .inl (σ6 a 16)) (by rcases c1 with rfl | rfl <;> rfl) ?_
      refine y_iload_n (show decode cX2_lay 35 = .ok (.iload_n 3, 1) by decide +kernel) 3 rfl ?_
      obtain ⟨c11, h⟩ := chk_some h
      obtain ⟨c12, h⟩ := chkI_some h
      refine y_idiv (show decode cX2_lay 36 = .ok (.idiv, 1) by decide +kernel) c11 c12 ?_
      by_cases c13 : ¬ (((σ6 a 16) : Int).tdiv c) = 0
      · rw [if_pos c13] at h
        refine y_if_ne_t (tgt := 41) (show decode cX2_lay 37 = .ok (.ifCond .ne 4, 3) by decide +kernel) rfl c13 ?_
        refine y_aload_n (show decode cX2_lay 41 = .ok (.aload_n 0, 1) by decide +kernel) 0 rfl ?_
        refine y_aload_n (show decode cX2_lay 42 = .ok (.aload_n 1, 1) by decide +kernel) 1 rfl ?_
        refine y_getf a 9 17 36 (by omega) (by rcases c1 with rfl | rfl <;> rfl) (by decide) (by decide) q2_19 (show decode cX2_lay 43 = .ok (.getfield 36, 3) by decide +kernel) (v := .inl (σ6 a 17)) (by rcases c1 with rfl | rfl <;> rfl) ?_
        refine y_iload_n (show decode cX2_lay 46 = .ok (.iload_n 3, 1) by decide +kernel) 3 rfl ?_
        obtain ⟨c14, h⟩ := chkI_some h
        refine y_imul (show decode cX2_lay 47 = .ok (.imul, 1) by decide +kernel) c14 ?_
        obtain ⟨σ15, e16, h⟩ := bnd_i h
        refine yo_putI 78 2 1 44 (by decide) rfl (by decide) (by decide) q2_177 rfl (show decode cX2_lay 48 = .ok (.putfield 44, 3) by decide +kernel) rfl rfl (ov_set1 e16 rfl) ?_
        refine y_aload_n (show decode cX2_lay 51 = .ok (.aload_n 0, 1) by decide +kernel) 0 rfl ?_
        refine y_aload_n (show decode cX2_lay 52 = .ok (.aload_n 1, 1) by decide +kernel) 1 rfl ?_
        refine y_getf a 9 16 41 (by omega) (by rcases c1 with rfl | rfl <;> rfl) (by decide) (by decide) q2_15 (show decode cX2_lay 53 = .ok (.getfield 41, 3) by decide +kernel) (v := .inl (σ15 a 16)) (by rcases c1 with rfl | rfl <;> rfl) ?_
        refine y_iload_n (show decode cX2_lay 56 = .ok (.iload_n 3, 1) by decide +kernel) 3 rfl ?_
        obtain ⟨c17, h⟩ := chk_some h
        obtain ⟨c18, h⟩ := chkI_some h
        refine y_idiv (show decode cX2_lay 57 = .ok (.idiv, 1) by decide +kernel) c17 c18 ?_
        obtain ⟨σ19, e20, h⟩ := bnd_i h
        refine yo_putI 78 2 9 45 (by decide) rfl (by decide) (by decide) q2_195 rfl (show decode cX2_lay 58 = .ok (.putfield 45, 3) by decide +kernel) rfl rfl (ov_set1 e20 rfl) ?_
        refine y_aload_n (show decode cX2_lay 61 = .ok (.aload_n 0, 1) by decide +kernel) 0 rfl ?_
        refine y_aload_n (show decode cX2_lay 62 = .ok (.aload_n 0, 1) by decide +kernel) 0 rfl ?_
        refine y_getf 78 2 8 28 (by decide) rfl (by decide) (by decide) q2_194 (show decode cX2_lay 63 = .ok (.getfield 28, 3) by decide +kernel) (v := .inl (σ19 78 8)) rfl ?_
        refine bnd_j (Q := fun j22 => ∀ (y21 : Int), j22 y21 = some τ → Y E MX2_lay (yRm 2 0 0) (yQf E (150 + 0) 0 0 none (ov τ)) 81 [(0, .inr (.inr (78 + 1))), (1, .inr (.inr (a + 1))), (3, .inl c)] [.inl y21, .inr (.inr (78 + 1))] (ov σ19) 150 0 0) (fun y21 h => ?_) (fun j22 hj22 h => ?_) h
        · dsimp only at h
          obtain ⟨c23, h⟩ := chk_some h
          obtain ⟨σ24, e25, h⟩ := bnd_i h
          refine yo_putZ 78 2 2 32 (by decide) rfl (by decide) (by decide) q2_181 rfl (show decode cX2_lay 81 = .ok (.putfield 32, 3) by decide +kernel) rfl rfl c23 (ov_set1 e25 rfl) ?_
          refine y_aload_n (show decode cX2_lay 84 = .ok (.aload_n 0, 1) by decide +kernel) 0 rfl ?_
          obtain ⟨σ27, e26, h⟩ := bndO_some h
          refine y_callV (np := 0) (st := []) (as := []) 78 2 (sh_cDy_layStates e26) q4_228 q4_225 q4_227 qs3_0 q1_14 (by decide) rfl (by decide) rfl (by decide) (by decide +kernel) (by decide) rfl (Nat.le_of_ble_eq_true rfl) (show decode cX2_lay 85 = .ok (.invokevirtual 50, 3) by decide +kernel) rfl ?_
          refine y_aload_n (show decode cX2_lay 88 = .ok (.aload_n 1, 1) by decide +kernel) 1 rfl ?_
          refine y_getf a 9 12 53 (by omega) (by rcases c1 with rfl | rfl <;> rfl) (by decide) (by decide) q2_3 (show decode cX2_lay 89 = .ok (.getfield 53, 3) by decide +kernel) (v := .inr (.inr ((a + 16) + 1))) (by rcases c1 with rfl | rfl <;> rfl) ?_
          refine y_iconst (show decode cX2_lay 92 = .ok (.iconst 0, 1) by decide +kernel) rfl ?_
          refine y_aload_n (show decode cX2_lay 93 = .ok (.aload_n 0, 1) by decide +kernel) 0 rfl ?_
          refine y_getf 78 2 7 21 (by decide) rfl (by decide) (by decide) q2_191 (show decode cX2_lay 94 = .ok (.getfield 21, 3) by decide +kernel) (v := .inr (.inr (82 + 1))) rfl ?_
          refine y_iconst (show decode cX2_lay 97 = .ok (.iconst 0, 1) by decide +kernel) rfl ?_
          refine y_bipush (show decode cX2_lay 98 = .ok (.bipush 36, 2) by decide +kernel) rfl rfl ?_
          obtain ⟨c28, h⟩ := chkC_some h
          obtain ⟨σ29, e30, h⟩ := bnd_i h
          refine y_acopy (a + 16) 36 82 36 (by omega) (by rcases c1 with rfl | rfl <;> rfl) (by decide) rfl c28 q4_229 q4_125 q4_124 q1_21 (show decode cX2_lay 100 = .ok (.invokestatic 54, 3) by decide +kernel) (ov_cpy1 e30 (fun k => (by rcases c1 with rfl | rfl <;> rfl)) (fun k => rfl)) (by decide) (Nat.le_of_ble_eq_true rfl) ?_
          refine y_iconst (show decode cX2_lay 103 = .ok (.iconst 0, 1) by decide +kernel) rfl ?_
          refine y_istore (show decode cX2_lay 104 = .ok (.istore 4, 2) by decide +kernel) rfl (L1 := [(4, .inl 0), (0, .inr (.inr (78 + 1))), (1, .inr (.inr (a + 1))), (3, .inl c)]) rfl ?_
          refine y_pick [1, 2, 3, 0] rfl ?_
          refine loopS1_ind (P := fun x31 σ32 => Y E MX2_lay (yRm 2 0 0) (yQf E (150 + 0) 0 0 none (ov τ)) 106 [(0, .inr (.inr (78 + 1))), (1, .inr (.inr (a + 1))), (3, .inl c), (4, .inl x31)] [] (ov σ32) 150 0 0) (fun k33 hk33 x31 σ32 h => ?_) _ _ _  h
          refine y_iload (show decode cX2_lay 106 = .ok (.iload 4, 2) by decide +kernel) 3 rfl ?_
          refine y_bipush (show decode cX2_lay 108 = .ok (.bipush 36, 2) by decide +kernel) rfl rfl ?_
          by_cases c34 : x31 ≥ 36
          · rw [if_pos c34] at h
            refine y_icmp_ge_t (tgt := 137) (show decode cX2_lay 110 = .ok (.if_icmp .ge 27, 3) by decide +kernel) rfl c34 ?_
            refine y_iconst (show decode cX2_lay 137 = .ok (.iconst 1, 1) by decide +kernel) rfl ?_
            refine y_istore (show decode cX2_lay 138 = .ok (.istore 4, 2) by decide +kernel) rfl (L1 := [(4, .inl 1), (0, .inr (.inr (78 + 1))), (1, .inr (.inr (a + 1))), (3, .inl c)]) rfl ?_
            refine y_pick [1, 3, 0] rfl ?_
            refine loopS1_ind (P := fun x35 σ36 => Y E MX2_lay (yRm 2 0 0) (yQf E (150 + 0) 0 0 none (ov τ)) 140 [(0, .inr (.inr (78 + 1))), (3, .inl c), (4, .inl x35)] [] (ov σ36) 150 0 0) (fun k37 hk37 x35 σ36 h => ?_) _ _ _  h
            refine y_iload (show decode cX2_lay 140 = .ok (.iload 4, 2) by decide +kernel) 2 rfl ?_
            refine y_aload_n (show decode cX2_lay 142 = .ok (.aload_n 0, 1) by decide +kernel) 0 rfl ?_
            refine y_getf 78 2 1 44 (by decide) rfl (by decide) (by decide) q2_177 (show decode cX2_lay 143 = .ok (.getfield 44, 3) by decide +kernel) (v := .inl (σ36 78 1)) rfl ?_
            by_cases c38 : x35 > (σ36 78 1)
            · rw [if_pos c38] at h
              refine y_icmp_gt_t (tgt := 162) (show decode cX2_lay 146 = .ok (.if_icmp .gt 16, 3) by decide +kernel) rfl c38 ?_
              cases h
              exact y_vret (show decode cX2_lay 162 = .ok (.return_, 1) by decide +kernel) rfl
            · rw [if_neg c38] at h
              refine y_icmp_gt_f (show decode cX2_lay 146 = .ok (.if_icmp .gt 16, 3) by decide +kernel) c38 (by decide) ?_
              refine y_aload_n (show decode cX2_lay 149 = .ok (.aload_n 0, 1) by decide +kernel) 0 rfl ?_
              refine y_iload (show decode cX2_lay 150 = .ok (.iload 4, 2) by decide +kernel) 2 rfl ?_
              refine y_iload_n (show decode cX2_lay 152 = .ok (.iload_n 3, 1) by decide +kernel) 1 rfl ?_
              obtain ⟨σ40, e39, h⟩ := bndO_some h
              refine y_callV (np := 2) (st := []) (as := [.inl x35, .inl c]) 78 2 (sh_cDy_layGains e39) q4_238 q4_235 q4_237 qs3_2 q1_14 (by decide) rfl (by decide) rfl (by decide) (by decide +kernel) (by decide) rfl (Nat.le_of_ble_eq_true rfl) (show decode cX2_lay 153 = .ok (.invokevirtual 67, 3) by decide +kernel) rfl ?_
              obtain ⟨c41, h⟩ := chkI_some h
              refine y_iinc (show decode cX2_lay 156 = .ok (.iinc 4 1, 3) by decide +kernel) 2 rfl c41 rfl (L1 := [(4, .inl (x35 + 1)), (0, .inr (.inr (78 + 1))), (3, .inl c)]) rfl ?_
              refine y_goto (tgt := 140) (show decode cX2_lay 159 = .ok (.goto (-19), 3) by decide +kernel) rfl ?_
              refine y_pick [1, 2, 0] rfl ?_
              exact hk37 _ _ h
          · rw [if_neg c34] at h
            refine y_icmp_ge_f (show decode cX2_lay 110 = .ok (.if_icmp .ge 27, 3) by decide +kernel) c34 (by decide) ?_
            refine y_aload_n (show decode cX2_lay 113 = .ok (.aload_n 0, 1) by decide +kernel) 0 rfl ?_
            refine y_getf 78 2 5 15 (by decide) rfl (by decide) (by decide) q2_188 (show decode cX2_lay 114 = .ok (.getfield 15, 3) by decide +kernel) (v := .inr (.inr (80 + 1))) rfl ?_
            refine y_iload (show decode cX2_lay 117 = .ok (.iload 4, 2) by decide +kernel) 3 rfl ?_
            refine y_aload_n (show decode cX2_lay 119 = .ok (.aload_n 0, 1) by decide +kernel) 0 rfl ?_
            refine y_aload_n (show decode cX2_lay 120 = .ok (.aload_n 1, 1) by decide +kernel) 1 rfl ?_
            refine y_getf a 9 11 60 (by omega) (by rcases c1 with rfl | rfl <;> rfl) (by decide) (by decide) q1_238 (show decode cX2_lay 121 = .ok (.getfield 60, 3) by decide +kernel) (v := .inr (.inr ((a + 15) + 1))) (by rcases c1 with rfl | rfl <;> rfl) ?_
            refine y_iload (show decode cX2_lay 124 = .ok (.iload 4, 2) by decide +kernel) 3 rfl ?_
            obtain ⟨c42, h⟩ := chkA_some h
            refine yo_iald (a + 15) 36 (by omega) (by rcases c1 with rfl | rfl <;> rfl) c42 (ov_at (by rcases c1 with rfl | rfl <;> rfl)) (show decode cX2_lay 126 = .ok (.iaload, 1) by decide +kernel) ?_
            obtain ⟨r44, e43, h⟩ := bndO_some h
            refine y_callV (np := 1) (st := [.inl x31, .inr (.inr (80 + 1))]) (as := [.inl (σ32 (a + 15) (x31).toNat)]) 78 2 (sh_cDy_walkOf e43) q4_233 q4_230 q4_232 qs3_1 q1_14 (by decide) rfl (by decide) rfl (by decide) (by decide +kernel) (by decide) rfl (Nat.le_of_ble_eq_true rfl) (show decode cX2_lay 127 = .ok (.invokevirtual 63, 3) by decide +kernel) rfl ?_
            obtain ⟨c45, h⟩ := chkA_some h
            obtain ⟨σ46, e47, h⟩ := bnd_i h
            refine yo_iast 80 36 (by decide) rfl c45 (ov_set1 e47 rfl) (show decode cX2_lay 130 = .ok (.iastore, 1) by decide +kernel) ?_
            obtain ⟨c48, h⟩ := chkI_some h
            refine y_iinc (show decode cX2_lay 131 = .ok (.iinc 4 1, 3) by decide +kernel) 3 rfl c48 rfl (L1 := [(4, .inl (x31 + 1)), (0, .inr (.inr (78 + 1))), (1, .inr (.inr (a + 1))), (3, .inl c)]) rfl ?_
            refine y_goto (tgt := 106) (show decode cX2_lay 134 = .ok (.goto (-28), 3) by decide +kernel) rfl ?_
            refine y_pick [1, 2, 3, 0] rfl ?_
            exact hk33 _ _ h
        by_cases c49 : (σ19 78 8) = 0
        · rw [if_pos c49] at h
          refine y_if_eq_t (tgt := 76) (show decode cX2_lay 66 = .ok (.ifCond .eq 10, 3) by decide +kernel) rfl c49 ?_
          refine y_iconst (show decode cX2_lay 76 = .ok (.iconst 1, 1) by decide +kernel) rfl ?_
          refine y_goto (tgt := 81) (show decode cX2_lay 77 = .ok (.goto 4, 3) by decide +kernel) rfl ?_
          refine y_pick [0, 1, 3] rfl ?_
          exact hj22 _ h
        · rw [if_neg c49] at h
          refine y_if_eq_f (show decode cX2_lay 66 = .ok (.ifCond .eq 10, 3) by decide +kernel) c49 (by decide) ?_
          refine y_aload_n (show decode cX2_lay 69 = .ok (.aload_n 0, 1) by decide +kernel) 0 rfl ?_
          obtain ⟨r51, e50, h⟩ := bndO_some h
          refine y_callV (np := 0) (st := [.inr (.inr (78 + 1))]) (as := []) 78 2 (sh_cDy_errandsCanBe e50) q4_224 q4_221 q4_223 qs2_15 q1_14 (by decide) rfl (by decide) rfl (by decide) (by decide +kernel) (by decide) rfl (Nat.le_of_ble_eq_true rfl) (show decode cX2_lay 70 = .ok (.invokevirtual 46, 3) by decide +kernel) rfl ?_
          by_cases c52 : r51 = 0
          · rw [if_pos c52] at h
            refine y_if_eq_t (tgt := 80) (show decode cX2_lay 73 = .ok (.ifCond .eq 7, 3) by decide +kernel) rfl c52 ?_
            refine y_iconst (show decode cX2_lay 80 = .ok (.iconst 0, 1) by decide +kernel) rfl ?_
            refine y_pick [0, 1, 3] rfl ?_
            exact hj22 _ h
          · rw [if_neg c52] at h
            refine y_if_eq_f (show decode cX2_lay 73 = .ok (.ifCond .eq 7, 3) by decide +kernel) c52 (by decide) ?_
            refine y_iconst (show decode cX2_lay 76 = .ok (.iconst 1, 1) by decide +kernel) rfl ?_
            refine y_goto (tgt := 81) (show decode cX2_lay 77 = .ok (.goto 4, 3) by decide +kernel) rfl ?_
            refine y_pick [0, 1, 3] rfl ?_
            exact hj22 _ h
      · rw [if_neg c13] at h
        refine y_if_ne_f (show decode cX2_lay 37 = .ok (.ifCond .ne 4, 3) by decide +kernel) c13 (by decide) ?_
        cases h
        exact y_vret (show decode cX2_lay 40 = .ok (.return_, 1) by decide +kernel) rfl
abbrev MX6_placeAt : yM := (yX6_placeAt, cX6_placeAt, 3, some .int)
def cPl_placeAt (o : Nat) (a : Int) (b : Int) (σ : ySt) : Option (Int) :=
  chk (o = 54 ∨ o = 56) <|
  chkI (a * 5) <|
  chkI ((a * 5) + b) <|
  chkA 45 ((a * 5) + b) <|
  some (σ (o + 1) (((a * 5) + b)).toNat)
set_option maxHeartbeats 4000000 in
set_option maxRecDepth 10000 in
theorem sh_cPl_placeAt {E : yE} {o : Nat} {a : Int} {b : Int} {σ : ySt} {ρ : Int} (h : cPl_placeAt o a b σ = some ρ) : Con E MX6_placeAt 0 0 0 [.inr (.inr (o + 1)), .inl a, .inl b] 150 (ov σ) (some (.inl ρ)) (ov σ) := by
  unfold cPl_placeAt at h
  refine Con.ofY (by decide +kernel) (by simp [yWords, yCat]) (fun hok _ => ?_)
  show Y E MX6_placeAt (yRm 0 0 0) (yQf E (150 + 0) 0 0 (some (.inl ρ)) (ov σ)) 0 [(0, .inr (.inr (o + 1))), (1, .inl a), (2, .inl b)] [] (ov σ) 150 0 0
  obtain ⟨c1, h⟩ := chk_some h
  refine y_aload_n (show decode cX6_placeAt 0 = .ok (.aload_n 0, 1) by decide +kernel) 0 rfl ?_
  refine y_getf o 6 0 9 (by omega) (by rcases c1 with rfl | rfl <;> rfl) (by decide) (by decide) q2_90 (show decode cX6_placeAt 1 = .ok (.getfield 9, 3) by decide +kernel) (v := .inr (.inr ((o + 1) + 1))) (by rcases c1 with rfl | rfl <;> rfl) ?_
  refine y_iload_n (show decode cX6_placeAt 4 = .ok (.iload_n 1, 1) by decide +kernel) 1 rfl ?_
  refine y_iconst (show decode cX6_placeAt 5 = .ok (.iconst 5, 1) by decide +kernel) rfl ?_
  obtain ⟨c2, h⟩ := chkI_some h
  refine y_imul (show decode cX6_placeAt 6 = .ok (.imul, 1) by decide +kernel) c2 ?_
  refine y_iload_n (show decode cX6_placeAt 7 = .ok (.iload_n 2, 1) by decide +kernel) 2 rfl ?_
  obtain ⟨c3, h⟩ := chkI_some h
  refine y_iadd (show decode cX6_placeAt 8 = .ok (.iadd, 1) by decide +kernel) c3 ?_
  obtain ⟨c4, h⟩ := chkA_some h
  refine yo_iald (o + 1) 45 (by omega) (by rcases c1 with rfl | rfl <;> rfl) c4 (ov_at (by rcases c1 with rfl | rfl <;> rfl)) (show decode cX6_placeAt 9 = .ok (.iaload, 1) by decide +kernel) ?_
  cases h
  exact y_iret (show decode cX6_placeAt 10 = .ok (.ireturn, 1) by decide +kernel) rfl
abbrev MX9_gets : yM := (yX9_gets, cX9_gets, 3, some .boolean)
def cTw_gets (o : Nat) (a : Int) (b : Int) (σ : ySt) : Option (Int) :=
  chk (o = 13 ∨ o = 33) <|
  chkI (a * 6) <|
  chkI ((a * 6) + b) <|
  chkA 36 ((a * 6) + b) <|
  if (σ (o + 15) (((a * 6) + b)).toNat) > (σ o 16) then
    some 0
  else
    some 1
set_option maxHeartbeats 4000000 in
set_option maxRecDepth 10000 in
theorem sh_cTw_gets {E : yE} {o : Nat} {a : Int} {b : Int} {σ : ySt} {ρ : Int} (h : cTw_gets o a b σ = some ρ) : Con E MX9_gets 0 0 0 [.inr (.inr (o + 1)), .inl a, .inl b] 150 (ov σ) (some (.inl ρ)) (ov σ) := by
  unfold cTw_gets at h
  refine Con.ofY (by decide +kernel) (by simp [yWords, yCat]) (fun hok _ => ?_)
  show Y E MX9_gets (yRm 0 0 0) (yQf E (150 + 0) 0 0 (some (.inl ρ)) (ov σ)) 0 [(0, .inr (.inr (o + 1))), (1, .inl a), (2, .inl b)] [] (ov σ) 150 0 0
  obtain ⟨c1, h⟩ := chk_some h
  refine y_aload_n (show decode cX9_gets 0 = .ok (.aload_n 0, 1) by decide +kernel) 0 rfl ?_
  refine y_getf o 9 11 52 (by omega) (by rcases c1 with rfl | rfl <;> rfl) (by decide) (by decide) q1_237 (show decode cX9_gets 1 = .ok (.getfield 52, 3) by decide +kernel) (v := .inr (.inr ((o + 15) + 1))) (by rcases c1 with rfl | rfl <;> rfl) ?_
  refine y_iload_n (show decode cX9_gets 4 = .ok (.iload_n 1, 1) by decide +kernel) 1 rfl ?_
  refine y_bipush (show decode cX9_gets 5 = .ok (.bipush 6, 2) by decide +kernel) rfl rfl ?_
  obtain ⟨c2, h⟩ := chkI_some h
  refine y_imul (show decode cX9_gets 7 = .ok (.imul, 1) by decide +kernel) c2 ?_
  refine y_iload_n (show decode cX9_gets 8 = .ok (.iload_n 2, 1) by decide +kernel) 2 rfl ?_
  obtain ⟨c3, h⟩ := chkI_some h
  refine y_iadd (show decode cX9_gets 9 = .ok (.iadd, 1) by decide +kernel) c3 ?_
  obtain ⟨c4, h⟩ := chkA_some h
  refine yo_iald (o + 15) 36 (by omega) (by rcases c1 with rfl | rfl <;> rfl) c4 (ov_at (by rcases c1 with rfl | rfl <;> rfl)) (show decode cX9_gets 10 = .ok (.iaload, 1) by decide +kernel) ?_
  refine y_aload_n (show decode cX9_gets 11 = .ok (.aload_n 0, 1) by decide +kernel) 0 rfl ?_
  refine y_getf o 9 16 78 (by omega) (by rcases c1 with rfl | rfl <;> rfl) (by decide) (by decide) q2_16 (show decode cX9_gets 12 = .ok (.getfield 78, 3) by decide +kernel) (v := .inl (σ o 16)) (by rcases c1 with rfl | rfl <;> rfl) ?_
  by_cases c5 : (σ (o + 15) (((a * 6) + b)).toNat) > (σ o 16)
  · rw [if_pos c5] at h
    refine y_icmp_gt_t (tgt := 22) (show decode cX9_gets 15 = .ok (.if_icmp .gt 7, 3) by decide +kernel) rfl c5 ?_
    refine y_iconst (show decode cX9_gets 22 = .ok (.iconst 0, 1) by decide +kernel) rfl ?_
    cases h
    exact y_zret (show decode cX9_gets 23 = .ok (.ireturn, 1) by decide +kernel) rfl (Or.inl rfl)
  · rw [if_neg c5] at h
    refine y_icmp_gt_f (show decode cX9_gets 15 = .ok (.if_icmp .gt 7, 3) by decide +kernel) c5 (by decide) ?_
    refine y_iconst (show decode cX9_gets 18 = .ok (.iconst 1, 1) by decide +kernel) rfl ?_
    refine y_goto (tgt := 23) (show decode cX9_gets 19 = .ok (.goto 4, 3) by decide +kernel) rfl ?_
    cases h
    exact y_zret (show decode cX9_gets 23 = .ok (.ireturn, 1) by decide +kernel) rfl (Or.inr rfl)
abbrev MX6_firstLate : yM := (yX6_firstLate, cX6_firstLate, 4, some .int)
def cPl_firstLate (N : Nat) (o : Nat) (a : Nat) (b : Int) (σ : ySt) : Option (Int) :=
  chk (o = 54 ∨ o = 56) <|
  chk (a = 13 ∨ a = 33) <|
  loop1 (fun k4 x3 =>
    if x3 ≥ (σ (a + 3) 1) then
      some (-1)
    else
      chkI (b - 1) <|
      bndO (cPl_placeAt o (b - 1) x3 σ) fun r8 =>
      bndO (cPl_placeAt o b x3 σ) fun r10 =>
      bndO (cTw_gets a r8 r10 σ) fun r12 =>
      if ¬ r12 = 0 then
        chkI (x3 + 1) <|
        k4 (x3 + 1)
      else
        some x3) N 0
set_option maxHeartbeats 4000000 in
set_option maxRecDepth 10000 in
theorem sh_cPl_firstLate {E : yE} {N : Nat} {o : Nat} {a : Nat} {b : Int} {σ : ySt} {ρ : Int} (h : cPl_firstLate N o a b σ = some ρ) : Con E MX6_firstLate 1 0 0 [.inr (.inr (o + 1)), .inr (.inr (a + 1)), .inl b] 150 (ov σ) (some (.inl ρ)) (ov σ) := by
  unfold cPl_firstLate at h
  refine Con.ofY (by decide +kernel) (by simp [yWords, yCat]) (fun hok _ => ?_)
  show Y E MX6_firstLate (yRm 1 0 0) (yQf E (150 + 0) 0 0 (some (.inl ρ)) (ov σ)) 0 [(0, .inr (.inr (o + 1))), (1, .inr (.inr (a + 1))), (2, .inl b)] [] (ov σ) 150 0 0
  obtain ⟨c1, h⟩ := chk_some h
  obtain ⟨c2, h⟩ := chk_some h
  refine y_iconst (show decode cX6_firstLate 0 = .ok (.iconst 0, 1) by decide +kernel) rfl ?_
  refine y_istore_n (show decode cX6_firstLate 1 = .ok (.istore_n 3, 1) by decide +kernel) rfl (L1 := [(3, .inl 0), (0, .inr (.inr (o + 1))), (1, .inr (.inr (a + 1))), (2, .inl b)]) rfl ?_
  refine y_pick [1, 2, 3, 0] rfl ?_
  refine loop1_ind (P := fun x3 => Y E MX6_firstLate (yRm 1 0 0) (yQf E (150 + 0) 0 0 (some (.inl ρ)) (ov σ)) 2 [(0, .inr (.inr (o + 1))), (1, .inr (.inr (a + 1))), (2, .inl b), (3, .inl x3)] [] (ov σ) 150 0 0) (fun k4 hk4 x3 h => ?_) _ _  h
  refine y_iload_n (show decode cX6_firstLate 2 = .ok (.iload_n 3, 1) by decide +kernel) 3 rfl ?_
  refine y_aload_n (show decode cX6_firstLate 3 = .ok (.aload_n 1, 1) by decide +kernel) 1 rfl ?_
  refine y_getf a 9 1 15 (by omega) (by rcases c2 with rfl | rfl <;> rfl) (by decide) (by decide) q1_201 (show decode cX6_firstLate 4 = .ok (.getfield 15, 3) by decide +kernel) (v := .inr (.inr ((a + 3) + 1))) (by rcases c2 with rfl | rfl <;> rfl) ?_
  refine y_getf (a + 3) 5 1 21 (by omega) (by rcases c2 with rfl | rfl <;> rfl) (by decide) (by decide) q1_147 (show decode cX6_firstLate 7 = .ok (.getfield 21, 3) by decide +kernel) (v := .inl (σ (a + 3) 1)) (by rcases c2 with rfl | rfl <;> rfl) ?_
  by_cases c5 : x3 ≥ (σ (a + 3) 1)
  · rw [if_pos c5] at h
    refine y_icmp_ge_t (tgt := 42) (show decode cX6_firstLate 10 = .ok (.if_icmp .ge 32, 3) by decide +kernel) rfl c5 ?_
    refine y_iconst (show decode cX6_firstLate 42 = .ok (.iconst (-1), 1) by decide +kernel) rfl ?_
    cases h
    exact y_iret (show decode cX6_firstLate 43 = .ok (.ireturn, 1) by decide +kernel) rfl
  · rw [if_neg c5] at h
    refine y_icmp_ge_f (show decode cX6_firstLate 10 = .ok (.if_icmp .ge 32, 3) by decide +kernel) c5 (by decide) ?_
    refine y_aload_n (show decode cX6_firstLate 13 = .ok (.aload_n 1, 1) by decide +kernel) 1 rfl ?_
    refine y_aload_n (show decode cX6_firstLate 14 = .ok (.aload_n 0, 1) by decide +kernel) 0 rfl ?_
    refine y_iload_n (show decode cX6_firstLate 15 = .ok (.iload_n 2, 1) by decide +kernel) 2 rfl ?_
    refine y_iconst (show decode cX6_firstLate 16 = .ok (.iconst 1, 1) by decide +kernel) rfl ?_
    obtain ⟨c6, h⟩ := chkI_some h
    refine y_isub (show decode cX6_firstLate 17 = .ok (.isub, 1) by decide +kernel) c6 ?_
    refine y_iload_n (show decode cX6_firstLate 18 = .ok (.iload_n 3, 1) by decide +kernel) 3 rfl ?_
    obtain ⟨r8, e7, h⟩ := bndO_some h
    refine y_callV (np := 2) (st := [.inr (.inr (a + 1))]) (as := [.inl (b - 1), .inl x3]) o 6 (sh_cPl_placeAt e7) q4_184 q4_181 q4_182 q4_183 q1_10 (by omega) (by rcases c1 with rfl | rfl <;> rfl) (by decide) rfl (by decide) (by decide +kernel) (by decide) rfl (Nat.le_of_ble_eq_true rfl) (show decode cX6_firstLate 19 = .ok (.invokevirtual 101, 3) by decide +kernel) rfl ?_
    refine y_aload_n (show decode cX6_firstLate 22 = .ok (.aload_n 0, 1) by decide +kernel) 0 rfl ?_
    refine y_iload_n (show decode cX6_firstLate 23 = .ok (.iload_n 2, 1) by decide +kernel) 2 rfl ?_
    refine y_iload_n (show decode cX6_firstLate 24 = .ok (.iload_n 3, 1) by decide +kernel) 3 rfl ?_
    obtain ⟨r10, e9, h⟩ := bndO_some h
    refine y_callV (np := 2) (st := [.inl r8, .inr (.inr (a + 1))]) (as := [.inl b, .inl x3]) o 6 (sh_cPl_placeAt e9) q4_184 q4_181 q4_182 q4_183 q1_10 (by omega) (by rcases c1 with rfl | rfl <;> rfl) (by decide) rfl (by decide) (by decide +kernel) (by decide) rfl (Nat.le_of_ble_eq_true rfl) (show decode cX6_firstLate 25 = .ok (.invokevirtual 101, 3) by decide +kernel) rfl ?_
    obtain ⟨r12, e11, h⟩ := bndO_some h
    refine y_callV (np := 2) (st := []) (as := [.inl r8, .inl r10]) a 9 (sh_cTw_gets e11) q4_188 q4_185 q4_186 q4_187 q1_5 (by omega) (by rcases c2 with rfl | rfl <;> rfl) (by decide) rfl (by decide) (by decide +kernel) (by decide) rfl (Nat.le_of_ble_eq_true rfl) (show decode cX6_firstLate 28 = .ok (.invokevirtual 105, 3) by decide +kernel) rfl ?_
    by_cases c13 : ¬ r12 = 0
    · rw [if_pos c13] at h
      refine y_if_ne_t (tgt := 36) (show decode cX6_firstLate 31 = .ok (.ifCond .ne 5, 3) by decide +kernel) rfl c13 ?_
      obtain ⟨c14, h⟩ := chkI_some h
      refine y_iinc (show decode cX6_firstLate 36 = .ok (.iinc 3 1, 3) by decide +kernel) 3 rfl c14 rfl (L1 := [(3, .inl (x3 + 1)), (0, .inr (.inr (o + 1))), (1, .inr (.inr (a + 1))), (2, .inl b)]) rfl ?_
      refine y_goto (tgt := 2) (show decode cX6_firstLate 39 = .ok (.goto (-37), 3) by decide +kernel) rfl ?_
      refine y_pick [1, 2, 3, 0] rfl ?_
      exact hk4 _ h
    · rw [if_neg c13] at h
      refine y_if_ne_f (show decode cX6_firstLate 31 = .ok (.ifCond .ne 5, 3) by decide +kernel) c13 (by decide) ?_
      refine y_iload_n (show decode cX6_firstLate 34 = .ok (.iload_n 3, 1) by decide +kernel) 3 rfl ?_
      cases h
      exact y_iret (show decode cX6_firstLate 35 = .ok (.ireturn, 1) by decide +kernel) rfl
abbrev MX9_crowd : yM := (yX9_crowd, cX9_crowd, 6, some .int)
def cTw_crowd (N : Nat) (o : Nat) (a : Nat) (b : Int) (c : Int) (σ : ySt) : Option (Int) :=
  chk (o = 13 ∨ o = 33) <|
  chk ((yKd a).1 = 20 ∧ a < 150) <|
  loop2 (fun k5 x3 x4 =>
    if x4 ≥ (σ (o + 3) 1) then
      some x3
    else
      chkI (b + x4) <|
      chkA (yKd a).2 (b + x4) <|
      bnd (fun (y9 : Int) =>
        chkI (x3 + y9) <|
        chkI (x4 + 1) <|
        k5 (x3 + y9) (x4 + 1)) fun j10 =>
      if ¬ (σ a ((b + x4)).toNat) = c then
        j10 0
      else
        j10 1) N 0 0
set_option maxHeartbeats 4000000 in
set_option maxRecDepth 10000 in
theorem sh_cTw_crowd {E : yE} {N : Nat} {o : Nat} {a : Nat} {b : Int} {c : Int} {σ : ySt} {ρ : Int} (h : cTw_crowd N o a b c σ = some ρ) : Con E MX9_crowd 0 0 0 [.inr (.inr (o + 1)), .inr (.inr (a + 1)), .inl b, .inl c] 150 (ov σ) (some (.inl ρ)) (ov σ) := by
  unfold cTw_crowd at h
  refine Con.ofY (by decide +kernel) (by simp [yWords, yCat]) (fun hok _ => ?_)
  show Y E MX9_crowd (yRm 0 0 0) (yQf E (150 + 0) 0 0 (some (.inl ρ)) (ov σ)) 0 [(0, .inr (.inr (o + 1))), (1, .inr (.inr (a + 1))), (2, .inl b), (3, .inl c)] [] (ov σ) 150 0 0
  obtain ⟨c1, h⟩ := chk_some h
  obtain ⟨c2, h⟩ := chk_some h
  refine y_iconst (show decode cX9_crowd 0 = .ok (.iconst 0, 1) by decide +kernel) rfl ?_
  refine y_istore (show decode cX9_crowd 1 = .ok (.istore 4, 2) by decide +kernel) rfl (L1 := [(4, .inl 0), (0, .inr (.inr (o + 1))), (1, .inr (.inr (a + 1))), (2, .inl b), (3, .inl c)]) rfl ?_
  refine y_iconst (show decode cX9_crowd 3 = .ok (.iconst 0, 1) by decide +kernel) rfl ?_
  refine y_istore (show decode cX9_crowd 4 = .ok (.istore 5, 2) by decide +kernel) rfl (L1 := [(5, .inl 0), (4, .inl 0), (0, .inr (.inr (o + 1))), (1, .inr (.inr (a + 1))), (2, .inl b), (3, .inl c)]) rfl ?_
  refine y_pick [2, 3, 4, 5, 1, 0] rfl ?_
  refine loop2_ind (P := fun x3 x4 => Y E MX9_crowd (yRm 0 0 0) (yQf E (150 + 0) 0 0 (some (.inl ρ)) (ov σ)) 6 [(0, .inr (.inr (o + 1))), (1, .inr (.inr (a + 1))), (2, .inl b), (3, .inl c), (4, .inl x3), (5, .inl x4)] [] (ov σ) 150 0 0) (fun k5 hk5 x3 x4 h => ?_) _ _ _  h
  refine y_iload (show decode cX9_crowd 6 = .ok (.iload 5, 2) by decide +kernel) 5 rfl ?_
  refine y_aload_n (show decode cX9_crowd 8 = .ok (.aload_n 0, 1) by decide +kernel) 0 rfl ?_
  refine y_getf o 9 1 20 (by omega) (by rcases c1 with rfl | rfl <;> rfl) (by decide) (by decide) q1_200 (show decode cX9_crowd 9 = .ok (.getfield 20, 3) by decide +kernel) (v := .inr (.inr ((o + 3) + 1))) (by rcases c1 with rfl | rfl <;> rfl) ?_
  refine y_getf (o + 3) 5 1 68 (by omega) (by rcases c1 with rfl | rfl <;> rfl) (by decide) (by decide) q1_146 (show decode cX9_crowd 12 = .ok (.getfield 68, 3) by decide +kernel) (v := .inl (σ (o + 3) 1)) (by rcases c1 with rfl | rfl <;> rfl) ?_
  by_cases c6 : x4 ≥ (σ (o + 3) 1)
  · rw [if_pos c6] at h
    refine y_icmp_ge_t (tgt := 44) (show decode cX9_crowd 15 = .ok (.if_icmp .ge 29, 3) by decide +kernel) rfl c6 ?_
    refine y_iload (show decode cX9_crowd 44 = .ok (.iload 4, 2) by decide +kernel) 4 rfl ?_
    cases h
    exact y_iret (show decode cX9_crowd 46 = .ok (.ireturn, 1) by decide +kernel) rfl
  · rw [if_neg c6] at h
    refine y_icmp_ge_f (show decode cX9_crowd 15 = .ok (.if_icmp .ge 29, 3) by decide +kernel) c6 (by decide) ?_
    refine y_iload (show decode cX9_crowd 18 = .ok (.iload 4, 2) by decide +kernel) 4 rfl ?_
    refine y_aload_n (show decode cX9_crowd 20 = .ok (.aload_n 1, 1) by decide +kernel) 1 rfl ?_
    refine y_iload_n (show decode cX9_crowd 21 = .ok (.iload_n 2, 1) by decide +kernel) 2 rfl ?_
    refine y_iload (show decode cX9_crowd 22 = .ok (.iload 5, 2) by decide +kernel) 5 rfl ?_
    obtain ⟨c7, h⟩ := chkI_some h
    refine y_iadd (show decode cX9_crowd 24 = .ok (.iadd, 1) by decide +kernel) c7 ?_
    obtain ⟨c8, h⟩ := chkA_some h
    refine yo_iald a (yKd a).2 c2.2 (yArr_kd c2) c8 (ov_at (yArr_cr (by rw [c2.1]; decide) c2.2 _)) (show decode cX9_crowd 25 = .ok (.iaload, 1) by decide +kernel) ?_
    refine y_iload_n (show decode cX9_crowd 26 = .ok (.iload_n 3, 1) by decide +kernel) 3 rfl ?_
    refine bnd_j (Q := fun j10 => ∀ (y9 : Int), j10 y9 = some ρ → Y E MX9_crowd (yRm 0 0 0) (yQf E (150 + 0) 0 0 (some (.inl ρ)) (ov σ)) 35 [(0, .inr (.inr (o + 1))), (1, .inr (.inr (a + 1))), (2, .inl b), (3, .inl c), (5, .inl x4)] [.inl y9, .inl x3] (ov σ) 150 0 0) (fun y9 h => ?_) (fun j10 hj10 h => ?_) h
    · dsimp only at h
      obtain ⟨c11, h⟩ := chkI_some h
      refine y_iadd (show decode cX9_crowd 35 = .ok (.iadd, 1) by decide +kernel) c11 ?_
      refine y_istore (show decode cX9_crowd 36 = .ok (.istore 4, 2) by decide +kernel) rfl (L1 := [(4, .inl (x3 + y9)), (0, .inr (.inr (o + 1))), (1, .inr (.inr (a + 1))), (2, .inl b), (3, .inl c), (5, .inl x4)]) rfl ?_
      obtain ⟨c12, h⟩ := chkI_some h
      refine y_iinc (show decode cX9_crowd 38 = .ok (.iinc 5 1, 3) by decide +kernel) 5 rfl c12 rfl (L1 := [(5, .inl (x4 + 1)), (4, .inl (x3 + y9)), (0, .inr (.inr (o + 1))), (1, .inr (.inr (a + 1))), (2, .inl b), (3, .inl c)]) rfl ?_
      refine y_goto (tgt := 6) (show decode cX9_crowd 41 = .ok (.goto (-35), 3) by decide +kernel) rfl ?_
      refine y_pick [2, 3, 4, 5, 1, 0] rfl ?_
      exact hk5 _ _ h
    by_cases c13 : ¬ (σ a ((b + x4)).toNat) = c
    · rw [if_pos c13] at h
      refine y_icmp_ne_t (tgt := 34) (show decode cX9_crowd 27 = .ok (.if_icmp .ne 7, 3) by decide +kernel) rfl c13 ?_
      refine y_iconst (show decode cX9_crowd 34 = .ok (.iconst 0, 1) by decide +kernel) rfl ?_
      refine y_pick [0, 1, 2, 3, 5] rfl ?_
      exact hj10 _ h
    · rw [if_neg c13] at h
      refine y_icmp_ne_f (show decode cX9_crowd 27 = .ok (.if_icmp .ne 7, 3) by decide +kernel) c13 (by decide) ?_
      refine y_iconst (show decode cX9_crowd 30 = .ok (.iconst 1, 1) by decide +kernel) rfl ?_
      refine y_goto (tgt := 35) (show decode cX9_crowd 31 = .ok (.goto 4, 3) by decide +kernel) rfl ?_
      refine y_pick [0, 1, 2, 3, 5] rfl ?_
      exact hj10 _ h
abbrev MX9_isRight : yM := (yX9_isRight, cX9_isRight, 4, some .boolean)
def cTw_isRight (o : Nat) (a : Int) (b : Int) (c : Int) (σ : ySt) : Option (Int) :=
  chk (o = 13 ∨ o = 33) <|
  chkI (a * 6) <|
  chkI ((a * 6) + b) <|
  chkA 36 ((a * 6) + b) <|
  if ¬ (b32and (b32shr (σ (o + 16) (((a * 6) + b)).toNat) c) 1) = 1 then
    some 0
  else
    some 1
set_option maxHeartbeats 4000000 in
set_option maxRecDepth 10000 in
theorem sh_cTw_isRight {E : yE} {o : Nat} {a : Int} {b : Int} {c : Int} {σ : ySt} {ρ : Int} (h : cTw_isRight o a b c σ = some ρ) : Con E MX9_isRight 0 0 0 [.inr (.inr (o + 1)), .inl a, .inl b, .inl c] 150 (ov σ) (some (.inl ρ)) (ov σ) := by
  unfold cTw_isRight at h
  refine Con.ofY (by decide +kernel) (by simp [yWords, yCat]) (fun hok _ => ?_)
  show Y E MX9_isRight (yRm 0 0 0) (yQf E (150 + 0) 0 0 (some (.inl ρ)) (ov σ)) 0 [(0, .inr (.inr (o + 1))), (1, .inl a), (2, .inl b), (3, .inl c)] [] (ov σ) 150 0 0
  obtain ⟨c1, h⟩ := chk_some h
  refine y_aload_n (show decode cX9_isRight 0 = .ok (.aload_n 0, 1) by decide +kernel) 0 rfl ?_
  refine y_getf o 9 12 55 (by omega) (by rcases c1 with rfl | rfl <;> rfl) (by decide) (by decide) q2_2 (show decode cX9_isRight 1 = .ok (.getfield 55, 3) by decide +kernel) (v := .inr (.inr ((o + 16) + 1))) (by rcases c1 with rfl | rfl <;> rfl) ?_
  refine y_iload_n (show decode cX9_isRight 4 = .ok (.iload_n 1, 1) by decide +kernel) 1 rfl ?_
  refine y_bipush (show decode cX9_isRight 5 = .ok (.bipush 6, 2) by decide +kernel) rfl rfl ?_
  obtain ⟨c2, h⟩ := chkI_some h
  refine y_imul (show decode cX9_isRight 7 = .ok (.imul, 1) by decide +kernel) c2 ?_
  refine y_iload_n (show decode cX9_isRight 8 = .ok (.iload_n 2, 1) by decide +kernel) 2 rfl ?_
  obtain ⟨c3, h⟩ := chkI_some h
  refine y_iadd (show decode cX9_isRight 9 = .ok (.iadd, 1) by decide +kernel) c3 ?_
  obtain ⟨c4, h⟩ := chkA_some h
  refine yo_iald (o + 16) 36 (by omega) (by rcases c1 with rfl | rfl <;> rfl) c4 (ov_at (by rcases c1 with rfl | rfl <;> rfl)) (show decode cX9_isRight 10 = .ok (.iaload, 1) by decide +kernel) ?_
  refine y_iload_n (show decode cX9_isRight 11 = .ok (.iload_n 3, 1) by decide +kernel) 3 rfl ?_
  refine y_ishr (show decode cX9_isRight 12 = .ok (.ishr, 1) by decide +kernel) ?_
  refine y_iconst (show decode cX9_isRight 13 = .ok (.iconst 1, 1) by decide +kernel) rfl ?_
  refine y_iand (show decode cX9_isRight 14 = .ok (.iand, 1) by decide +kernel) ?_
  refine y_iconst (show decode cX9_isRight 15 = .ok (.iconst 1, 1) by decide +kernel) rfl ?_
  by_cases c5 : ¬ (b32and (b32shr (σ (o + 16) (((a * 6) + b)).toNat) c) 1) = 1
  · rw [if_pos c5] at h
    refine y_icmp_ne_t (tgt := 23) (show decode cX9_isRight 16 = .ok (.if_icmp .ne 7, 3) by decide +kernel) rfl c5 ?_
    refine y_iconst (show decode cX9_isRight 23 = .ok (.iconst 0, 1) by decide +kernel) rfl ?_
    cases h
    exact y_zret (show decode cX9_isRight 24 = .ok (.ireturn, 1) by decide +kernel) rfl (Or.inl rfl)
  · rw [if_neg c5] at h
    refine y_icmp_ne_f (show decode cX9_isRight 16 = .ok (.if_icmp .ne 7, 3) by decide +kernel) c5 (by decide) ?_
    refine y_iconst (show decode cX9_isRight 19 = .ok (.iconst 1, 1) by decide +kernel) rfl ?_
    refine y_goto (tgt := 24) (show decode cX9_isRight 20 = .ok (.goto 4, 3) by decide +kernel) rfl ?_
    cases h
    exact y_zret (show decode cX9_isRight 24 = .ok (.ireturn, 1) by decide +kernel) rfl (Or.inr rfl)
abbrev MX6_firstWrong : yM := (yX6_firstWrong, cX6_firstWrong, 5, some .int)
def cPl_firstWrong (N : Nat) (o : Nat) (a : Nat) (b : Int) (σ : ySt) : Option (Int) :=
  chk (o = 54 ∨ o = 56) <|
  chk (a = 13 ∨ a = 33) <|
  loop1 (fun k4 x3 =>
    if x3 ≥ (σ (a + 1) 1) then
      some (-1)
    else
      chkI (b * 5) <|
      bndO (cTw_crowd N a (o + 1) (b * 5) x3 σ) fun r8 =>
      bndO (cTw_isRight a x3 r8 b σ) fun r10 =>
      if ¬ r10 = 0 then
        chkI (x3 + 1) <|
        k4 (x3 + 1)
      else
        some x3) N 0
set_option maxHeartbeats 4000000 in
set_option maxRecDepth 10000 in
theorem sh_cPl_firstWrong {E : yE} {N : Nat} {o : Nat} {a : Nat} {b : Int} {σ : ySt} {ρ : Int} (h : cPl_firstWrong N o a b σ = some ρ) : Con E MX6_firstWrong 1 0 0 [.inr (.inr (o + 1)), .inr (.inr (a + 1)), .inl b] 150 (ov σ) (some (.inl ρ)) (ov σ) := by
  unfold cPl_firstWrong at h
  refine Con.ofY (by decide +kernel) (by simp [yWords, yCat]) (fun hok _ => ?_)
  show Y E MX6_firstWrong (yRm 1 0 0) (yQf E (150 + 0) 0 0 (some (.inl ρ)) (ov σ)) 0 [(0, .inr (.inr (o + 1))), (1, .inr (.inr (a + 1))), (2, .inl b)] [] (ov σ) 150 0 0
  obtain ⟨c1, h⟩ := chk_some h
  obtain ⟨c2, h⟩ := chk_some h
  refine y_iconst (show decode cX6_firstWrong 0 = .ok (.iconst 0, 1) by decide +kernel) rfl ?_
  refine y_istore_n (show decode cX6_firstWrong 1 = .ok (.istore_n 3, 1) by decide +kernel) rfl (L1 := [(3, .inl 0), (0, .inr (.inr (o + 1))), (1, .inr (.inr (a + 1))), (2, .inl b)]) rfl ?_
  refine y_pick [1, 2, 3, 0] rfl ?_
  refine loop1_ind (P := fun x3 => Y E MX6_firstWrong (yRm 1 0 0) (yQf E (150 + 0) 0 0 (some (.inl ρ)) (ov σ)) 2 [(0, .inr (.inr (o + 1))), (1, .inr (.inr (a + 1))), (2, .inl b), (3, .inl x3)] [] (ov σ) 150 0 0) (fun k4 hk4 x3 h => ?_) _ _  h
  refine y_iload_n (show decode cX6_firstWrong 2 = .ok (.iload_n 3, 1) by decide +kernel) 3 rfl ?_
  refine y_aload_n (show decode cX6_firstWrong 3 = .ok (.aload_n 1, 1) by decide +kernel) 1 rfl ?_
  refine y_getf a 9 0 76 (by omega) (by rcases c2 with rfl | rfl <;> rfl) (by decide) (by decide) q1_196 (show decode cX6_firstWrong 4 = .ok (.getfield 76, 3) by decide +kernel) (v := .inr (.inr ((a + 1) + 1))) (by rcases c2 with rfl | rfl <;> rfl) ?_
  refine y_getf (a + 1) 5 1 21 (by omega) (by rcases c2 with rfl | rfl <;> rfl) (by decide) (by decide) q1_147 (show decode cX6_firstWrong 7 = .ok (.getfield 21, 3) by decide +kernel) (v := .inl (σ (a + 1) 1)) (by rcases c2 with rfl | rfl <;> rfl) ?_
  by_cases c5 : x3 ≥ (σ (a + 1) 1)
  · rw [if_pos c5] at h
    refine y_icmp_ge_t (tgt := 46) (show decode cX6_firstWrong 10 = .ok (.if_icmp .ge 36, 3) by decide +kernel) rfl c5 ?_
    refine y_iconst (show decode cX6_firstWrong 46 = .ok (.iconst (-1), 1) by decide +kernel) rfl ?_
    cases h
    exact y_iret (show decode cX6_firstWrong 47 = .ok (.ireturn, 1) by decide +kernel) rfl
  · rw [if_neg c5] at h
    refine y_icmp_ge_f (show decode cX6_firstWrong 10 = .ok (.if_icmp .ge 36, 3) by decide +kernel) c5 (by decide) ?_
    refine y_aload_n (show decode cX6_firstWrong 13 = .ok (.aload_n 1, 1) by decide +kernel) 1 rfl ?_
    refine y_aload_n (show decode cX6_firstWrong 14 = .ok (.aload_n 0, 1) by decide +kernel) 0 rfl ?_
    refine y_getf o 6 0 9 (by omega) (by rcases c1 with rfl | rfl <;> rfl) (by decide) (by decide) q2_90 (show decode cX6_firstWrong 15 = .ok (.getfield 9, 3) by decide +kernel) (v := .inr (.inr ((o + 1) + 1))) (by rcases c1 with rfl | rfl <;> rfl) ?_
    refine y_iload_n (show decode cX6_firstWrong 18 = .ok (.iload_n 2, 1) by decide +kernel) 2 rfl ?_
    refine y_iconst (show decode cX6_firstWrong 19 = .ok (.iconst 5, 1) by decide +kernel) rfl ?_
    obtain ⟨c6, h⟩ := chkI_some h
    refine y_imul (show decode cX6_firstWrong 20 = .ok (.imul, 1) by decide +kernel) c6 ?_
    refine y_iload_n (show decode cX6_firstWrong 21 = .ok (.iload_n 3, 1) by decide +kernel) 3 rfl ?_
    obtain ⟨r8, e7, h⟩ := bndO_some h
    refine y_callV (np := 3) (st := []) (as := [.inr (.inr ((o + 1) + 1)), .inl (b * 5), .inl x3]) a 9 (sh_cTw_crowd e7) q4_200 q4_197 q4_198 q4_199 q1_5 (by omega) (by rcases c2 with rfl | rfl <;> rfl) (by decide) rfl (by decide) (by decide +kernel) (by decide) rfl (Nat.le_of_ble_eq_true rfl) (show decode cX6_firstWrong 22 = .ok (.invokevirtual 109, 3) by decide +kernel) rfl ?_
    refine y_istore (show decode cX6_firstWrong 25 = .ok (.istore 4, 2) by decide +kernel) rfl (L1 := [(4, .inl r8), (0, .inr (.inr (o + 1))), (1, .inr (.inr (a + 1))), (2, .inl b), (3, .inl x3)]) rfl ?_
    refine y_aload_n (show decode cX6_firstWrong 27 = .ok (.aload_n 1, 1) by decide +kernel) 2 rfl ?_
    refine y_iload_n (show decode cX6_firstWrong 28 = .ok (.iload_n 3, 1) by decide +kernel) 4 rfl ?_
    refine y_iload (show decode cX6_firstWrong 29 = .ok (.iload 4, 2) by decide +kernel) 0 rfl ?_
    refine y_iload_n (show decode cX6_firstWrong 31 = .ok (.iload_n 2, 1) by decide +kernel) 3 rfl ?_
    obtain ⟨r10, e9, h⟩ := bndO_some h
    refine y_callV (np := 3) (st := []) (as := [.inl x3, .inl r8, .inl b]) a 9 (sh_cTw_isRight e9) q4_168 q4_201 q4_166 q4_167 q1_5 (by omega) (by rcases c2 with rfl | rfl <;> rfl) (by decide) rfl (by decide) (by decide +kernel) (by decide) rfl (Nat.le_of_ble_eq_true rfl) (show decode cX6_firstWrong 32 = .ok (.invokevirtual 113, 3) by decide +kernel) rfl ?_
    by_cases c11 : ¬ r10 = 0
    · rw [if_pos c11] at h
      refine y_if_ne_t (tgt := 40) (show decode cX6_firstWrong 35 = .ok (.ifCond .ne 5, 3) by decide +kernel) rfl c11 ?_
      obtain ⟨c12, h⟩ := chkI_some h
      refine y_iinc (show decode cX6_firstWrong 40 = .ok (.iinc 3 1, 3) by decide +kernel) 4 rfl c12 rfl (L1 := [(3, .inl (x3 + 1)), (4, .inl r8), (0, .inr (.inr (o + 1))), (1, .inr (.inr (a + 1))), (2, .inl b)]) rfl ?_
      refine y_goto (tgt := 2) (show decode cX6_firstWrong 43 = .ok (.goto (-41), 3) by decide +kernel) rfl ?_
      refine y_pick [2, 3, 4, 0] rfl ?_
      exact hk4 _ h
    · rw [if_neg c11] at h
      refine y_if_ne_f (show decode cX6_firstWrong 35 = .ok (.ifCond .ne 5, 3) by decide +kernel) c11 (by decide) ?_
      refine y_iload_n (show decode cX6_firstWrong 38 = .ok (.iload_n 3, 1) by decide +kernel) 4 rfl ?_
      cases h
      exact y_iret (show decode cX6_firstWrong 39 = .ok (.ireturn, 1) by decide +kernel) rfl
abbrev MX2_step : yM := (yX2_step, cX2_step, 5, some .int)
def cDy_step (a : Int) (b : Int) (c : Int) (d : Int) (σ : ySt) : Option (Int) :=
  chkI (c * 6) <|
  chkI ((c * 6) + d) <|
  chkA 36 ((c * 6) + d) <|
  chkI (a * 5) <|
  chkI ((a * 5) + b) <|
  chkI (((a * 5) + b) * 6) <|
  chkI ((((a * 5) + b) * 6) + d) <|
  chkA 270 ((((a * 5) + b) * 6) + d) <|
  chkI ((σ 80 (((c * 6) + d)).toNat) + (σ 81 (((((a * 5) + b) * 6) + d)).toNat)) <|
  some ((σ 80 (((c * 6) + d)).toNat) + (σ 81 (((((a * 5) + b) * 6) + d)).toNat))
set_option maxHeartbeats 4000000 in
set_option maxRecDepth 10000 in
theorem sh_cDy_step {E : yE} {a : Int} {b : Int} {c : Int} {d : Int} {σ : ySt} {ρ : Int} (h : cDy_step a b c d σ = some ρ) : Con E MX2_step 0 0 0 [.inr (.inr (78 + 1)), .inl a, .inl b, .inl c, .inl d] 150 (ov σ) (some (.inl ρ)) (ov σ) := by
  unfold cDy_step at h
  refine Con.ofY (by decide +kernel) (by simp [yWords, yCat]) (fun hok _ => ?_)
  show Y E MX2_step (yRm 0 0 0) (yQf E (150 + 0) 0 0 (some (.inl ρ)) (ov σ)) 0 [(0, .inr (.inr (78 + 1))), (1, .inl a), (2, .inl b), (3, .inl c), (4, .inl d)] [] (ov σ) 150 0 0
  refine y_aload_n (show decode cX2_step 0 = .ok (.aload_n 0, 1) by decide +kernel) 0 rfl ?_
  refine y_getf 78 2 5 15 (by decide) rfl (by decide) (by decide) q2_188 (show decode cX2_step 1 = .ok (.getfield 15, 3) by decide +kernel) (v := .inr (.inr (80 + 1))) rfl ?_
  refine y_iload_n (show decode cX2_step 4 = .ok (.iload_n 3, 1) by decide +kernel) 3 rfl ?_
  refine y_bipush (show decode cX2_step 5 = .ok (.bipush 6, 2) by decide +kernel) rfl rfl ?_
  obtain ⟨c1, h⟩ := chkI_some h
  refine y_imul (show decode cX2_step 7 = .ok (.imul, 1) by decide +kernel) c1 ?_
  refine y_iload (show decode cX2_step 8 = .ok (.iload 4, 2) by decide +kernel) 4 rfl ?_
  obtain ⟨c2, h⟩ := chkI_some h
  refine y_iadd (show decode cX2_step 10 = .ok (.iadd, 1) by decide +kernel) c2 ?_
  obtain ⟨c3, h⟩ := chkA_some h
  refine yo_iald 80 36 (by decide) rfl c3 (ov_at rfl) (show decode cX2_step 11 = .ok (.iaload, 1) by decide +kernel) ?_
  refine y_aload_n (show decode cX2_step 12 = .ok (.aload_n 0, 1) by decide +kernel) 0 rfl ?_
  refine y_getf 78 2 6 18 (by decide) rfl (by decide) (by decide) q2_190 (show decode cX2_step 13 = .ok (.getfield 18, 3) by decide +kernel) (v := .inr (.inr (81 + 1))) rfl ?_
  refine y_iload_n (show decode cX2_step 16 = .ok (.iload_n 1, 1) by decide +kernel) 1 rfl ?_
  refine y_iconst (show decode cX2_step 17 = .ok (.iconst 5, 1) by decide +kernel) rfl ?_
  obtain ⟨c4, h⟩ := chkI_some h
  refine y_imul (show decode cX2_step 18 = .ok (.imul, 1) by decide +kernel) c4 ?_
  refine y_iload_n (show decode cX2_step 19 = .ok (.iload_n 2, 1) by decide +kernel) 2 rfl ?_
  obtain ⟨c5, h⟩ := chkI_some h
  refine y_iadd (show decode cX2_step 20 = .ok (.iadd, 1) by decide +kernel) c5 ?_
  refine y_bipush (show decode cX2_step 21 = .ok (.bipush 6, 2) by decide +kernel) rfl rfl ?_
  obtain ⟨c6, h⟩ := chkI_some h
  refine y_imul (show decode cX2_step 23 = .ok (.imul, 1) by decide +kernel) c6 ?_
  refine y_iload (show decode cX2_step 24 = .ok (.iload 4, 2) by decide +kernel) 4 rfl ?_
  obtain ⟨c7, h⟩ := chkI_some h
  refine y_iadd (show decode cX2_step 26 = .ok (.iadd, 1) by decide +kernel) c7 ?_
  obtain ⟨c8, h⟩ := chkA_some h
  refine yo_iald 81 270 (by decide) rfl c8 (ov_at rfl) (show decode cX2_step 27 = .ok (.iaload, 1) by decide +kernel) ?_
  obtain ⟨c9, h⟩ := chkI_some h
  refine y_iadd (show decode cX2_step 28 = .ok (.iadd, 1) by decide +kernel) c9 ?_
  cases h
  exact y_iret (show decode cX2_step 29 = .ok (.ireturn, 1) by decide +kernel) rfl
abbrev MX6_worthOn : yM := (yX6_worthOn, cX6_worthOn, 5, some .int)
def cPl_worthOn (N : Nat) (o : Nat) (σ : ySt) : Option (Int) :=
  chk (o = 54 ∨ o = 56) <|
  if ¬ (σ 78 2) = 0 then
    loop2 (fun k5 x3 x4 =>
      if x4 > (σ 78 1) then
        if x3 ≥ (-500000) then
          some x3
        else
          some (-1000000)
      else
        chkT (σ 78 0) fun T8 =>
        bndO (cPl_firstLate N o T8 x4 σ) fun r12 =>
        if ¬ r12 = (-1) then
          some (-1000000)
        else
          chkT (σ 78 0) fun T14 =>
          bndO (cPl_firstWrong N o T14 x4 σ) fun r18 =>
          if r18 = (-1) then
            loop3 (fun k23 x20 x21 x22 =>
              chkT (σ 78 0) fun T24 =>
              if x22 ≥ (σ (T24 + 3) 1) then
                chkI (x21 + 1) <|
                k5 x20 (x21 + 1)
              else
                chkI (x21 - 1) <|
                bndO (cPl_placeAt o (x21 - 1) x22 σ) fun r31 =>
                bndO (cPl_placeAt o x21 x22 σ) fun r33 =>
                bndO (cDy_step x21 x22 r31 r33 σ) fun r35 =>
                chkI (x20 + r35) <|
                chkI (x22 + 1) <|
                k23 (x20 + r35) x21 (x22 + 1)) N x3 x4 0
          else
            some (-1000000)) N 0 1
  else
    some (-1000000)
set_option maxHeartbeats 4000000 in
set_option maxRecDepth 10000 in
theorem sh_cPl_worthOn {E : yE} {N : Nat} {o : Nat} {σ : ySt} {ρ : Int} (h : cPl_worthOn N o σ = some ρ) : Con E MX6_worthOn 2 0 0 [.inr (.inr (o + 1)), .inr (.inr (78 + 1))] 150 (ov σ) (some (.inl ρ)) (ov σ) := by
  unfold cPl_worthOn at h
  refine Con.ofY (by decide +kernel) (by simp [yWords, yCat]) (fun hok _ => ?_)
  show Y E MX6_worthOn (yRm 2 0 0) (yQf E (150 + 0) 0 0 (some (.inl ρ)) (ov σ)) 0 [(0, .inr (.inr (o + 1))), (1, .inr (.inr (78 + 1)))] [] (ov σ) 150 0 0
  obtain ⟨c1, h⟩ := chk_some h
  refine y_aload_n (show decode cX6_worthOn 0 = .ok (.aload_n 1, 1) by decide +kernel) 1 rfl ?_
  refine y_getf 78 2 2 129 (by decide) rfl (by decide) (by decide) q2_182 (show decode cX6_worthOn 1 = .ok (.getfield 129, 3) by decide +kernel) (v := .inl (σ 78 2)) rfl ?_
  by_cases c2 : ¬ (σ 78 2) = 0
  · rw [if_pos c2] at h
    refine y_if_ne_t (tgt := 10) (show decode cX6_worthOn 4 = .ok (.ifCond .ne 6, 3) by decide +kernel) rfl c2 ?_
    refine y_iconst (show decode cX6_worthOn 10 = .ok (.iconst 0, 1) by decide +kernel) rfl ?_
    refine y_istore_n (show decode cX6_worthOn 11 = .ok (.istore_n 2, 1) by decide +kernel) rfl (L1 := [(2, .inl 0), (0, .inr (.inr (o + 1))), (1, .inr (.inr (78 + 1)))]) rfl ?_
    refine y_iconst (show decode cX6_worthOn 12 = .ok (.iconst 1, 1) by decide +kernel) rfl ?_
    refine y_istore_n (show decode cX6_worthOn 13 = .ok (.istore_n 3, 1) by decide +kernel) rfl (L1 := [(3, .inl 1), (2, .inl 0), (0, .inr (.inr (o + 1))), (1, .inr (.inr (78 + 1)))]) rfl ?_
    refine y_pick [2, 3, 1, 0] rfl ?_
    refine loop2_ind (P := fun x3 x4 => Y E MX6_worthOn (yRm 2 0 0) (yQf E (150 + 0) 0 0 (some (.inl ρ)) (ov σ)) 14 [(0, .inr (.inr (o + 1))), (1, .inr (.inr (78 + 1))), (2, .inl x3), (3, .inl x4)] [] (ov σ) 150 0 0) (fun k5 hk5 x3 x4 h => ?_) _ _ _  h
    refine y_iload_n (show decode cX6_worthOn 14 = .ok (.iload_n 3, 1) by decide +kernel) 3 rfl ?_
    refine y_aload_n (show decode cX6_worthOn 15 = .ok (.aload_n 1, 1) by decide +kernel) 1 rfl ?_
    refine y_getf 78 2 1 136 (by decide) rfl (by decide) (by decide) q2_179 (show decode cX6_worthOn 16 = .ok (.getfield 136, 3) by decide +kernel) (v := .inl (σ 78 1)) rfl ?_
    by_cases c6 : x4 > (σ 78 1)
    · rw [if_pos c6] at h
      refine y_icmp_gt_t (tgt := 107) (show decode cX6_worthOn 19 = .ok (.if_icmp .gt 88, 3) by decide +kernel) rfl c6 ?_
      refine y_iload_n (show decode cX6_worthOn 107 = .ok (.iload_n 2, 1) by decide +kernel) 2 rfl ?_
      refine y_ldc (k := -500000) (show decode cX6_worthOn 108 = .ok (.ldc 145, 2) by decide +kernel) q5_12 rfl rfl ?_
      by_cases c7 : x3 ≥ (-500000)
      · rw [if_pos c7] at h
        refine y_icmp_ge_t (tgt := 118) (show decode cX6_worthOn 110 = .ok (.if_icmp .ge 8, 3) by decide +kernel) rfl c7 ?_
        refine y_iload_n (show decode cX6_worthOn 118 = .ok (.iload_n 2, 1) by decide +kernel) 2 rfl ?_
        cases h
        exact y_iret (show decode cX6_worthOn 119 = .ok (.ireturn, 1) by decide +kernel) rfl
      · rw [if_neg c7] at h
        refine y_icmp_ge_f (show decode cX6_worthOn 110 = .ok (.if_icmp .ge 8, 3) by decide +kernel) c7 (by decide) ?_
        refine y_ldc (k := -1000000) (show decode cX6_worthOn 113 = .ok (.ldc 135, 2) by decide +kernel) q5_7 rfl rfl ?_
        refine y_goto (tgt := 119) (show decode cX6_worthOn 115 = .ok (.goto 4, 3) by decide +kernel) rfl ?_
        cases h
        exact y_iret (show decode cX6_worthOn 119 = .ok (.ireturn, 1) by decide +kernel) rfl
    · rw [if_neg c6] at h
      refine y_icmp_gt_f (show decode cX6_worthOn 19 = .ok (.if_icmp .gt 88, 3) by decide +kernel) c6 (by decide) ?_
      refine y_aload_n (show decode cX6_worthOn 22 = .ok (.aload_n 0, 1) by decide +kernel) 0 rfl ?_
      refine y_aload_n (show decode cX6_worthOn 23 = .ok (.aload_n 1, 1) by decide +kernel) 1 rfl ?_
      obtain ⟨T8, c9, c10, h⟩ := chkT_some h
      refine y_getf 78 2 0 137 (by decide) rfl (by decide) (by decide) q2_176 (show decode cX6_worthOn 24 = .ok (.getfield 137, 3) by decide +kernel) (v := .inr (.inr (T8 + 1))) (by rw [← c10]; rfl) ?_
      refine y_iload_n (show decode cX6_worthOn 27 = .ok (.iload_n 3, 1) by decide +kernel) 3 rfl ?_
      obtain ⟨r12, e11, h⟩ := bndO_some h
      refine y_callV (np := 2) (st := []) (as := [.inr (.inr (T8 + 1)), .inl x4]) o 6 (sh_cPl_firstLate e11) q4_180 q4_177 q4_179 qs2_11 q1_10 (by omega) (by rcases c1 with rfl | rfl <;> rfl) (by decide) rfl (by decide) (by decide +kernel) (by decide) rfl (Nat.le_of_ble_eq_true rfl) (show decode cX6_worthOn 28 = .ok (.invokevirtual 88, 3) by decide +kernel) rfl ?_
      refine y_iconst (show decode cX6_worthOn 31 = .ok (.iconst (-1), 1) by decide +kernel) rfl ?_
      by_cases c13 : ¬ r12 = (-1)
      · rw [if_pos c13] at h
        refine y_icmp_ne_t (tgt := 48) (show decode cX6_worthOn 32 = .ok (.if_icmp .ne 16, 3) by decide +kernel) rfl c13 ?_
        refine y_ldc (k := -1000000) (show decode cX6_worthOn 48 = .ok (.ldc 135, 2) by decide +kernel) q5_7 rfl rfl ?_
        cases h
        exact y_iret (show decode cX6_worthOn 50 = .ok (.ireturn, 1) by decide +kernel) rfl
      · rw [if_neg c13] at h
        refine y_icmp_ne_f (show decode cX6_worthOn 32 = .ok (.if_icmp .ne 16, 3) by decide +kernel) c13 (by decide) ?_
        refine y_aload_n (show decode cX6_worthOn 35 = .ok (.aload_n 0, 1) by decide +kernel) 0 rfl ?_
        refine y_aload_n (show decode cX6_worthOn 36 = .ok (.aload_n 1, 1) by decide +kernel) 1 rfl ?_
        obtain ⟨T14, c15, c16, h⟩ := chkT_some h
        refine y_getf 78 2 0 137 (by decide) rfl (by decide) (by decide) q2_176 (show decode cX6_worthOn 37 = .ok (.getfield 137, 3) by decide +kernel) (v := .inr (.inr (T14 + 1))) (by rw [← c16]; rfl) ?_
        refine y_iload_n (show decode cX6_worthOn 40 = .ok (.iload_n 3, 1) by decide +kernel) 3 rfl ?_
        obtain ⟨r18, e17, h⟩ := bndO_some h
        refine y_callV (np := 2) (st := []) (as := [.inr (.inr (T14 + 1)), .inl x4]) o 6 (sh_cPl_firstWrong e17) q4_196 q4_193 q4_195 qs2_13 q1_10 (by omega) (by rcases c1 with rfl | rfl <;> rfl) (by decide) rfl (by decide) (by decide +kernel) (by decide) rfl (Nat.le_of_ble_eq_true rfl) (show decode cX6_worthOn 41 = .ok (.invokevirtual 95, 3) by decide +kernel) rfl ?_
        refine y_iconst (show decode cX6_worthOn 44 = .ok (.iconst (-1), 1) by decide +kernel) rfl ?_
        by_cases c19 : r18 = (-1)
        · rw [if_pos c19] at h
          refine y_icmp_eq_t (tgt := 51) (show decode cX6_worthOn 45 = .ok (.if_icmp .eq 6, 3) by decide +kernel) rfl c19 ?_
          refine y_iconst (show decode cX6_worthOn 51 = .ok (.iconst 0, 1) by decide +kernel) rfl ?_
          refine y_istore (show decode cX6_worthOn 52 = .ok (.istore 4, 2) by decide +kernel) rfl (L1 := [(4, .inl 0), (0, .inr (.inr (o + 1))), (1, .inr (.inr (78 + 1))), (2, .inl x3), (3, .inl x4)]) rfl ?_
          refine y_pick [1, 2, 3, 4, 0] rfl ?_
          refine loop3_ind (P := fun x20 x21 x22 => Y E MX6_worthOn (yRm 2 0 0) (yQf E (150 + 0) 0 0 (some (.inl ρ)) (ov σ)) 54 [(0, .inr (.inr (o + 1))), (1, .inr (.inr (78 + 1))), (2, .inl x20), (3, .inl x21), (4, .inl x22)] [] (ov σ) 150 0 0) (fun k23 hk23 x20 x21 x22 h => ?_) _ _ _ _  h
          refine y_iload (show decode cX6_worthOn 54 = .ok (.iload 4, 2) by decide +kernel) 4 rfl ?_
          refine y_aload_n (show decode cX6_worthOn 56 = .ok (.aload_n 1, 1) by decide +kernel) 1 rfl ?_
          obtain ⟨T24, c25, c26, h⟩ := chkT_some h
          refine y_getf 78 2 0 137 (by decide) rfl (by decide) (by decide) q2_176 (show decode cX6_worthOn 57 = .ok (.getfield 137, 3) by decide +kernel) (v := .inr (.inr (T24 + 1))) (by rw [← c26]; rfl) ?_
          refine y_getf T24 9 1 15 (by omega) (by rcases c25 with rfl | rfl <;> rfl) (by decide) (by decide) q1_201 (show decode cX6_worthOn 60 = .ok (.getfield 15, 3) by decide +kernel) (v := .inr (.inr ((T24 + 3) + 1))) (by rcases c25 with rfl | rfl <;> rfl) ?_
          refine y_getf (T24 + 3) 5 1 21 (by omega) (by rcases c25 with rfl | rfl <;> rfl) (by decide) (by decide) q1_147 (show decode cX6_worthOn 63 = .ok (.getfield 21, 3) by decide +kernel) (v := .inl (σ (T24 + 3) 1)) (by rcases c25 with rfl | rfl <;> rfl) ?_
          by_cases c27 : x22 ≥ (σ (T24 + 3) 1)
          · rw [if_pos c27] at h
            refine y_icmp_ge_t (tgt := 101) (show decode cX6_worthOn 66 = .ok (.if_icmp .ge 35, 3) by decide +kernel) rfl c27 ?_
            obtain ⟨c28, h⟩ := chkI_some h
            refine y_iinc (show decode cX6_worthOn 101 = .ok (.iinc 3 1, 3) by decide +kernel) 3 rfl c28 rfl (L1 := [(3, .inl (x21 + 1)), (0, .inr (.inr (o + 1))), (1, .inr (.inr (78 + 1))), (2, .inl x20), (4, .inl x22)]) rfl ?_
            refine y_goto (tgt := 14) (show decode cX6_worthOn 104 = .ok (.goto (-90), 3) by decide +kernel) rfl ?_
            refine y_pick [1, 2, 3, 0] rfl ?_
            exact hk5 _ _ h
          · rw [if_neg c27] at h
            refine y_icmp_ge_f (show decode cX6_worthOn 66 = .ok (.if_icmp .ge 35, 3) by decide +kernel) c27 (by decide) ?_
            refine y_iload_n (show decode cX6_worthOn 69 = .ok (.iload_n 2, 1) by decide +kernel) 2 rfl ?_
            refine y_aload_n (show decode cX6_worthOn 70 = .ok (.aload_n 1, 1) by decide +kernel) 1 rfl ?_
            refine y_iload_n (show decode cX6_worthOn 71 = .ok (.iload_n 3, 1) by decide +kernel) 3 rfl ?_
            refine y_iload (show decode cX6_worthOn 72 = .ok (.iload 4, 2) by decide +kernel) 4 rfl ?_
            refine y_aload_n (show decode cX6_worthOn 74 = .ok (.aload_n 0, 1) by decide +kernel) 0 rfl ?_
            refine y_iload_n (show decode cX6_worthOn 75 = .ok (.iload_n 3, 1) by decide +kernel) 3 rfl ?_
            refine y_iconst (show decode cX6_worthOn 76 = .ok (.iconst 1, 1) by decide +kernel) rfl ?_
            obtain ⟨c29, h⟩ := chkI_some h
            refine y_isub (show decode cX6_worthOn 77 = .ok (.isub, 1) by decide +kernel) c29 ?_
            refine y_iload (show decode cX6_worthOn 78 = .ok (.iload 4, 2) by decide +kernel) 4 rfl ?_
            obtain ⟨r31, e30, h⟩ := bndO_some h
            refine y_callV (np := 2) (st := [.inl x22, .inl x21, .inr (.inr (78 + 1)), .inl x20]) (as := [.inl (x21 - 1), .inl x22]) o 6 (sh_cPl_placeAt e30) q4_184 q4_181 q4_182 q4_183 q1_10 (by omega) (by rcases c1 with rfl | rfl <;> rfl) (by decide) rfl (by decide) (by decide +kernel) (by decide) rfl (Nat.le_of_ble_eq_true rfl) (show decode cX6_worthOn 80 = .ok (.invokevirtual 101, 3) by decide +kernel) rfl ?_
            refine y_aload_n (show decode cX6_worthOn 83 = .ok (.aload_n 0, 1) by decide +kernel) 0 rfl ?_
            refine y_iload_n (show decode cX6_worthOn 84 = .ok (.iload_n 3, 1) by decide +kernel) 3 rfl ?_
            refine y_iload (show decode cX6_worthOn 85 = .ok (.iload 4, 2) by decide +kernel) 4 rfl ?_
            obtain ⟨r33, e32, h⟩ := bndO_some h
            refine y_callV (np := 2) (st := [.inl r31, .inl x22, .inl x21, .inr (.inr (78 + 1)), .inl x20]) (as := [.inl x21, .inl x22]) o 6 (sh_cPl_placeAt e32) q4_184 q4_181 q4_182 q4_183 q1_10 (by omega) (by rcases c1 with rfl | rfl <;> rfl) (by decide) rfl (by decide) (by decide +kernel) (by decide) rfl (Nat.le_of_ble_eq_true rfl) (show decode cX6_worthOn 87 = .ok (.invokevirtual 101, 3) by decide +kernel) rfl ?_
            obtain ⟨r35, e34, h⟩ := bndO_some h
            refine y_callV (np := 4) (st := [.inl x20]) (as := [.inl x21, .inl x22, .inl r31, .inl r33]) 78 2 (sh_cDy_step e34) q5_11 q5_8 q5_9 q5_10 q1_14 (by decide) rfl (by decide) rfl (by decide) (by decide +kernel) (by decide) rfl (Nat.le_of_ble_eq_true rfl) (show decode cX6_worthOn 90 = .ok (.invokevirtual 141, 3) by decide +kernel) rfl ?_
            obtain ⟨c36, h⟩ := chkI_some h
            refine y_iadd (show decode cX6_worthOn 93 = .ok (.iadd, 1) by decide +kernel) c36 ?_
            refine y_istore_n (show decode cX6_worthOn 94 = .ok (.istore_n 2, 1) by decide +kernel) rfl (L1 := [(2, .inl (x20 + r35)), (0, .inr (.inr (o + 1))), (1, .inr (.inr (78 + 1))), (3, .inl x21), (4, .inl x22)]) rfl ?_
            obtain ⟨c37, h⟩ := chkI_some h
            refine y_iinc (show decode cX6_worthOn 95 = .ok (.iinc 4 1, 3) by decide +kernel) 4 rfl c37 rfl (L1 := [(4, .inl (x22 + 1)), (2, .inl (x20 + r35)), (0, .inr (.inr (o + 1))), (1, .inr (.inr (78 + 1))), (3, .inl x21)]) rfl ?_
            refine y_goto (tgt := 54) (show decode cX6_worthOn 98 = .ok (.goto (-44), 3) by decide +kernel) rfl ?_
            refine y_pick [2, 3, 1, 4, 0] rfl ?_
            exact hk23 _ _ _ h
        · rw [if_neg c19] at h
          refine y_icmp_eq_f (show decode cX6_worthOn 45 = .ok (.if_icmp .eq 6, 3) by decide +kernel) c19 (by decide) ?_
          refine y_ldc (k := -1000000) (show decode cX6_worthOn 48 = .ok (.ldc 135, 2) by decide +kernel) q5_7 rfl rfl ?_
          cases h
          exact y_iret (show decode cX6_worthOn 50 = .ok (.ireturn, 1) by decide +kernel) rfl
  · rw [if_neg c2] at h
    refine y_if_ne_f (show decode cX6_worthOn 4 = .ok (.ifCond .ne 6, 3) by decide +kernel) c2 (by decide) ?_
    refine y_ldc (k := -1000000) (show decode cX6_worthOn 7 = .ok (.ldc 135, 2) by decide +kernel) q5_7 rfl rfl ?_
    cases h
    exact y_iret (show decode cX6_worthOn 9 = .ok (.ireturn, 1) by decide +kernel) rfl
abbrev MX0_worthOfPlan : yM := (yX0_worthOfPlan, cX0_worthOfPlan, 3, some .int)
def cAn_worthOfPlan (N : Nat) (a : Int) (b : Nat) (σ : ySt) : Option (Int × ySt) :=
  chk (b = 54 ∨ b = 56) <|
  chkT (σ 58 0) fun T2 =>
  bndO (cDy_lay N T2 a 1 σ) fun σ6 =>
  bndO (cPl_worthOn N b σ6) fun r8 =>
  some (r8, σ6)
set_option maxHeartbeats 4000000 in
set_option maxRecDepth 10000 in
theorem sh_cAn_worthOfPlan {E : yE} {N : Nat} {a : Int} {b : Nat} {σ : ySt} {ρ : Int} {τ : ySt} (h : cAn_worthOfPlan N a b σ = some (ρ, τ)) : Con E MX0_worthOfPlan 3 0 0 [.inr (.inr (58 + 1)), .inl a, .inr (.inr (b + 1))] 150 (ov σ) (some (.inl ρ)) (ov τ) := by
  unfold cAn_worthOfPlan at h
  refine Con.ofY (by decide +kernel) (by simp [yWords, yCat]) (fun hok _ => ?_)
  show Y E MX0_worthOfPlan (yRm 3 0 0) (yQf E (150 + 0) 0 0 (some (.inl ρ)) (ov τ)) 0 [(0, .inr (.inr (58 + 1))), (1, .inl a), (2, .inr (.inr (b + 1)))] [] (ov σ) 150 0 0
  obtain ⟨c1, h⟩ := chk_some h
  refine y_aload_n (show decode cX0_worthOfPlan 0 = .ok (.aload_n 0, 1) by decide +kernel) 0 rfl ?_
  refine y_getf 58 0 1 61 (by decide) rfl (by decide) (by decide) q2_218 (show decode cX0_worthOfPlan 1 = .ok (.getfield 61, 3) by decide +kernel) (v := .inr (.inr (78 + 1))) rfl ?_
  refine y_aload_n (show decode cX0_worthOfPlan 4 = .ok (.aload_n 0, 1) by decide +kernel) 0 rfl ?_
  obtain ⟨T2, c3, c4, h⟩ := chkT_some h
  refine y_getf 58 0 0 52 (by decide) rfl (by decide) (by decide) q2_217 (show decode cX0_worthOfPlan 5 = .ok (.getfield 52, 3) by decide +kernel) (v := .inr (.inr (T2 + 1))) (by rw [← c4]; rfl) ?_
  refine y_iload_n (show decode cX0_worthOfPlan 8 = .ok (.iload_n 1, 1) by decide +kernel) 1 rfl ?_
  refine y_iconst (show decode cX0_worthOfPlan 9 = .ok (.iconst 1, 1) by decide +kernel) rfl ?_
  obtain ⟨σ6, e5, h⟩ := bndO_some h
  refine y_callV (np := 3) (st := []) (as := [.inr (.inr (T2 + 1)), .inl a, .inl 1]) 78 2 (sh_cDy_lay e5) q4_220 q4_217 q4_218 q4_219 q1_14 (by decide) rfl (by decide) rfl (by decide) (by decide +kernel) (by decide) rfl (Nat.le_of_ble_eq_true rfl) (show decode cX0_worthOfPlan 10 = .ok (.invokevirtual 69, 3) by decide +kernel) rfl ?_
  refine y_aload_n (show decode cX0_worthOfPlan 13 = .ok (.aload_n 2, 1) by decide +kernel) 2 rfl ?_
  refine y_aload_n (show decode cX0_worthOfPlan 14 = .ok (.aload_n 0, 1) by decide +kernel) 0 rfl ?_
  refine y_getf 58 0 1 61 (by decide) rfl (by decide) (by decide) q2_218 (show decode cX0_worthOfPlan 15 = .ok (.getfield 61, 3) by decide +kernel) (v := .inr (.inr (78 + 1))) rfl ?_
  obtain ⟨r8, e7, h⟩ := bndO_some h
  refine y_callV (np := 1) (st := []) (as := [.inr (.inr (78 + 1))]) b 6 (sh_cPl_worthOn e7) q5_6 q5_3 q5_4 q5_5 q1_10 (by omega) (by rcases c1 with rfl | rfl <;> rfl) (by decide) rfl (by decide) (by decide +kernel) (by decide) rfl (Nat.le_of_ble_eq_true rfl) (show decode cX0_worthOfPlan 18 = .ok (.invokevirtual 73, 3) by decide +kernel) rfl ?_
  cases h
  exact y_iret (show decode cX0_worthOfPlan 21 = .ok (.ireturn, 1) by decide +kernel) rfl
abbrev MX2_placeIn : yM := (yX2_placeIn, cX2_placeIn, 5, some .int)
def cDy_placeIn (a : Int) (b : Int) (σ : ySt) : Option (Int) :=
  chkA 5 b <|
  chkT (σ 78 0) fun T2 =>
  if (σ 79 (b).toNat) < 1 then
    some 0
  else
    if (σ (T2 + 1) 1) ≥ 1 then
      chk (((σ 79 (b).toNat) : Int) ≠ 0) <|
      chkI ((a : Int).tdiv (σ 79 (b).toNat)) <|
      chk (((σ (T2 + 1) 1) : Int) ≠ 0) <|
      chkI ((((a : Int).tdiv (σ 79 (b).toNat)) : Int).tmod (σ (T2 + 1) 1)) <|
      some ((((a : Int).tdiv (σ 79 (b).toNat)) : Int).tmod (σ (T2 + 1) 1))
    else
      some 0
set_option maxHeartbeats 4000000 in
set_option maxRecDepth 10000 in
theorem sh_cDy_placeIn {E : yE} {a : Int} {b : Int} {σ : ySt} {ρ : Int} (h : cDy_placeIn a b σ = some ρ) : Con E MX2_placeIn 0 0 0 [.inr (.inr (78 + 1)), .inl a, .inl b] 150 (ov σ) (some (.inl ρ)) (ov σ) := by
  unfold cDy_placeIn at h
  refine Con.ofY (by decide +kernel) (by simp [yWords, yCat]) (fun hok _ => ?_)
  show Y E MX2_placeIn (yRm 0 0 0) (yQf E (150 + 0) 0 0 (some (.inl ρ)) (ov σ)) 0 [(0, .inr (.inr (78 + 1))), (1, .inl a), (2, .inl b)] [] (ov σ) 150 0 0
  refine y_aload_n (show decode cX2_placeIn 0 = .ok (.aload_n 0, 1) by decide +kernel) 0 rfl ?_
  refine y_getf 78 2 4 9 (by decide) rfl (by decide) (by decide) q2_186 (show decode cX2_placeIn 1 = .ok (.getfield 9, 3) by decide +kernel) (v := .inr (.inr (79 + 1))) rfl ?_
  refine y_iload_n (show decode cX2_placeIn 4 = .ok (.iload_n 2, 1) by decide +kernel) 2 rfl ?_
  obtain ⟨c1, h⟩ := chkA_some h
  refine yo_iald 79 5 (by decide) rfl c1 (ov_at rfl) (show decode cX2_placeIn 5 = .ok (.iaload, 1) by decide +kernel) ?_
  refine y_istore_n (show decode cX2_placeIn 6 = .ok (.istore_n 3, 1) by decide +kernel) rfl (L1 := [(3, .inl (σ 79 (b).toNat)), (0, .inr (.inr (78 + 1))), (1, .inl a), (2, .inl b)]) rfl ?_
  refine y_aload_n (show decode cX2_placeIn 7 = .ok (.aload_n 0, 1) by decide +kernel) 1 rfl ?_
  obtain ⟨T2, c3, c4, h⟩ := chkT_some h
  refine y_getf 78 2 0 24 (by decide) rfl (by decide) (by decide) q2_174 (show decode cX2_placeIn 8 = .ok (.getfield 24, 3) by decide +kernel) (v := .inr (.inr (T2 + 1))) (by rw [← c4]; rfl) ?_
  refine y_getf T2 9 0 89 (by omega) (by rcases c3 with rfl | rfl <;> rfl) (by decide) (by decide) q1_195 (show decode cX2_placeIn 11 = .ok (.getfield 89, 3) by decide +kernel) (v := .inr (.inr ((T2 + 1) + 1))) (by rcases c3 with rfl | rfl <;> rfl) ?_
  refine y_getf (T2 + 1) 5 1 84 (by omega) (by rcases c3 with rfl | rfl <;> rfl) (by decide) (by decide) q1_149 (show decode cX2_placeIn 14 = .ok (.getfield 84, 3) by decide +kernel) (v := .inl (σ (T2 + 1) 1)) (by rcases c3 with rfl | rfl <;> rfl) ?_
  refine y_istore (show decode cX2_placeIn 17 = .ok (.istore 4, 2) by decide +kernel) rfl (L1 := [(4, .inl (σ (T2 + 1) 1)), (3, .inl (σ 79 (b).toNat)), (0, .inr (.inr (78 + 1))), (1, .inl a), (2, .inl b)]) rfl ?_
  refine y_iload_n (show decode cX2_placeIn 19 = .ok (.iload_n 3, 1) by decide +kernel) 1 rfl ?_
  refine y_iconst (show decode cX2_placeIn 20 = .ok (.iconst 1, 1) by decide +kernel) rfl ?_
  by_cases c5 : (σ 79 (b).toNat) < 1
  · rw [if_pos c5] at h
    refine y_icmp_lt_t (tgt := 30) (show decode cX2_placeIn 21 = .ok (.if_icmp .lt 9, 3) by decide +kernel) rfl c5 ?_
    refine y_iconst (show decode cX2_placeIn 30 = .ok (.iconst 0, 1) by decide +kernel) rfl ?_
    refine y_goto (tgt := 40) (show decode cX2_placeIn 31 = .ok (.goto 9, 3) by decide +kernel) rfl ?_
    cases h
    exact y_iret (show decode cX2_placeIn 40 = .ok (.ireturn, 1) by decide +kernel) rfl
  · rw [if_neg c5] at h
    refine y_icmp_lt_f (show decode cX2_placeIn 21 = .ok (.if_icmp .lt 9, 3) by decide +kernel) c5 (by decide) ?_
    refine y_iload (show decode cX2_placeIn 24 = .ok (.iload 4, 2) by decide +kernel) 0 rfl ?_
    refine y_iconst (show decode cX2_placeIn 26 = .ok (.iconst 1, 1) by decide +kernel) rfl ?_
    by_cases c6 : (σ (T2 + 1) 1) ≥ 1
    · rw [if_pos c6] at h
      refine y_icmp_ge_t (tgt := 34) (show decode cX2_placeIn 27 = .ok (.if_icmp .ge 7, 3) by decide +kernel) rfl c6 ?_
      refine y_iload_n (show decode cX2_placeIn 34 = .ok (.iload_n 1, 1) by decide +kernel) 3 rfl ?_
      refine y_iload_n (show decode cX2_placeIn 35 = .ok (.iload_n 3, 1) by decide +kernel) 1 rfl ?_
      obtain ⟨c7, h⟩ := chk_some h
      obtain ⟨c8, h⟩ := chkI_some h
      refine y_idiv (show decode cX2_placeIn 36 = .ok (.idiv, 1) by decide +kernel) c7 c8 ?_
      refine y_iload (show decode cX2_placeIn 37 = .ok (.iload 4, 2) by decide +kernel) 0 rfl ?_
      obtain ⟨c9, h⟩ := chk_some h
      obtain ⟨c10, h⟩ := chkI_some h
      refine y_irem (show decode cX2_placeIn 39 = .ok (.irem, 1) by decide +kernel) c9 c10 ?_
      cases h
      exact y_iret (show decode cX2_placeIn 40 = .ok (.ireturn, 1) by decide +kernel) rfl
    · rw [if_neg c6] at h
      refine y_icmp_ge_f (show decode cX2_placeIn 27 = .ok (.if_icmp .ge 7, 3) by decide +kernel) c6 (by decide) ?_
      refine y_iconst (show decode cX2_placeIn 30 = .ok (.iconst 0, 1) by decide +kernel) rfl ?_
      refine y_goto (tgt := 40) (show decode cX2_placeIn 31 = .ok (.goto 9, 3) by decide +kernel) rfl ?_
      cases h
      exact y_iret (show decode cX2_placeIn 40 = .ok (.ireturn, 1) by decide +kernel) rfl
abbrev MX2_crowds : yM := (yX2_crowds, cX2_crowds, 4, some .int)
def cDy_crowds (N : Nat) (a : Int) (σ : ySt) : Option (Int) :=
  loop2 (fun k3 x1 x2 =>
    chkT (σ 78 0) fun T4 =>
    if x2 ≥ (σ (T4 + 3) 1) then
      some x1
    else
      bndO (cDy_placeIn a x2 σ) fun r9 =>
      chkI (3 * r9) <|
      chkI (x1 + (b32shl 1 (3 * r9))) <|
      chkI (x2 + 1) <|
      k3 (x1 + (b32shl 1 (3 * r9))) (x2 + 1)) N 0 0
set_option maxHeartbeats 4000000 in
set_option maxRecDepth 10000 in
theorem sh_cDy_crowds {E : yE} {N : Nat} {a : Int} {σ : ySt} {ρ : Int} (h : cDy_crowds N a σ = some ρ) : Con E MX2_crowds 1 0 0 [.inr (.inr (78 + 1)), .inl a] 150 (ov σ) (some (.inl ρ)) (ov σ) := by
  unfold cDy_crowds at h
  refine Con.ofY (by decide +kernel) (by simp [yWords, yCat]) (fun hok _ => ?_)
  show Y E MX2_crowds (yRm 1 0 0) (yQf E (150 + 0) 0 0 (some (.inl ρ)) (ov σ)) 0 [(0, .inr (.inr (78 + 1))), (1, .inl a)] [] (ov σ) 150 0 0
  refine y_iconst (show decode cX2_crowds 0 = .ok (.iconst 0, 1) by decide +kernel) rfl ?_
  refine y_istore_n (show decode cX2_crowds 1 = .ok (.istore_n 2, 1) by decide +kernel) rfl (L1 := [(2, .inl 0), (0, .inr (.inr (78 + 1))), (1, .inl a)]) rfl ?_
  refine y_iconst (show decode cX2_crowds 2 = .ok (.iconst 0, 1) by decide +kernel) rfl ?_
  refine y_istore_n (show decode cX2_crowds 3 = .ok (.istore_n 3, 1) by decide +kernel) rfl (L1 := [(3, .inl 0), (2, .inl 0), (0, .inr (.inr (78 + 1))), (1, .inl a)]) rfl ?_
  refine y_pick [2, 3, 1, 0] rfl ?_
  refine loop2_ind (P := fun x1 x2 => Y E MX2_crowds (yRm 1 0 0) (yQf E (150 + 0) 0 0 (some (.inl ρ)) (ov σ)) 4 [(0, .inr (.inr (78 + 1))), (1, .inl a), (2, .inl x1), (3, .inl x2)] [] (ov σ) 150 0 0) (fun k3 hk3 x1 x2 h => ?_) _ _ _  h
  refine y_iload_n (show decode cX2_crowds 4 = .ok (.iload_n 3, 1) by decide +kernel) 3 rfl ?_
  refine y_aload_n (show decode cX2_crowds 5 = .ok (.aload_n 0, 1) by decide +kernel) 0 rfl ?_
  obtain ⟨T4, c5, c6, h⟩ := chkT_some h
  refine y_getf 78 2 0 24 (by decide) rfl (by decide) (by decide) q2_174 (show decode cX2_crowds 6 = .ok (.getfield 24, 3) by decide +kernel) (v := .inr (.inr (T4 + 1))) (by rw [← c6]; rfl) ?_
  refine y_getf T4 9 1 80 (by omega) (by rcases c5 with rfl | rfl <;> rfl) (by decide) (by decide) q1_203 (show decode cX2_crowds 9 = .ok (.getfield 80, 3) by decide +kernel) (v := .inr (.inr ((T4 + 3) + 1))) (by rcases c5 with rfl | rfl <;> rfl) ?_
  refine y_getf (T4 + 3) 5 1 84 (by omega) (by rcases c5 with rfl | rfl <;> rfl) (by decide) (by decide) q1_149 (show decode cX2_crowds 12 = .ok (.getfield 84, 3) by decide +kernel) (v := .inl (σ (T4 + 3) 1)) (by rcases c5 with rfl | rfl <;> rfl) ?_
  by_cases c7 : x2 ≥ (σ (T4 + 3) 1)
  · rw [if_pos c7] at h
    refine y_icmp_ge_t (tgt := 37) (show decode cX2_crowds 15 = .ok (.if_icmp .ge 22, 3) by decide +kernel) rfl c7 ?_
    refine y_iload_n (show decode cX2_crowds 37 = .ok (.iload_n 2, 1) by decide +kernel) 2 rfl ?_
    cases h
    exact y_iret (show decode cX2_crowds 38 = .ok (.ireturn, 1) by decide +kernel) rfl
  · rw [if_neg c7] at h
    refine y_icmp_ge_f (show decode cX2_crowds 15 = .ok (.if_icmp .ge 22, 3) by decide +kernel) c7 (by decide) ?_
    refine y_iload_n (show decode cX2_crowds 18 = .ok (.iload_n 2, 1) by decide +kernel) 2 rfl ?_
    refine y_iconst (show decode cX2_crowds 19 = .ok (.iconst 1, 1) by decide +kernel) rfl ?_
    refine y_iconst (show decode cX2_crowds 20 = .ok (.iconst 3, 1) by decide +kernel) rfl ?_
    refine y_aload_n (show decode cX2_crowds 21 = .ok (.aload_n 0, 1) by decide +kernel) 0 rfl ?_
    refine y_iload_n (show decode cX2_crowds 22 = .ok (.iload_n 1, 1) by decide +kernel) 1 rfl ?_
    refine y_iload_n (show decode cX2_crowds 23 = .ok (.iload_n 3, 1) by decide +kernel) 3 rfl ?_
    obtain ⟨r9, e8, h⟩ := bndO_some h
    refine y_callV (np := 2) (st := [.inl 3, .inl 1, .inl x1]) (as := [.inl a, .inl x2]) 78 2 (sh_cDy_placeIn e8) q5_38 q5_35 q5_36 q5_37 q1_14 (by decide) rfl (by decide) rfl (by decide) (by decide +kernel) (by decide) rfl (Nat.le_of_ble_eq_true rfl) (show decode cX2_crowds 24 = .ok (.invokevirtual 118, 3) by decide +kernel) rfl ?_
    obtain ⟨c10, h⟩ := chkI_some h
    refine y_imul (show decode cX2_crowds 27 = .ok (.imul, 1) by decide +kernel) c10 ?_
    refine y_ishl (show decode cX2_crowds 28 = .ok (.ishl, 1) by decide +kernel) ?_
    obtain ⟨c11, h⟩ := chkI_some h
    refine y_iadd (show decode cX2_crowds 29 = .ok (.iadd, 1) by decide +kernel) c11 ?_
    refine y_istore_n (show decode cX2_crowds 30 = .ok (.istore_n 2, 1) by decide +kernel) rfl (L1 := [(2, .inl (x1 + (b32shl 1 (3 * r9)))), (0, .inr (.inr (78 + 1))), (1, .inl a), (3, .inl x2)]) rfl ?_
    obtain ⟨c12, h⟩ := chkI_some h
    refine y_iinc (show decode cX2_crowds 31 = .ok (.iinc 3 1, 3) by decide +kernel) 3 rfl c12 rfl (L1 := [(3, .inl (x2 + 1)), (2, .inl (x1 + (b32shl 1 (3 * r9)))), (0, .inr (.inr (78 + 1))), (1, .inl a)]) rfl ?_
    refine y_goto (tgt := 4) (show decode cX2_crowds 34 = .ok (.goto (-30), 3) by decide +kernel) rfl ?_
    refine y_pick [2, 3, 1, 0] rfl ?_
    exact hk3 _ _ h
abbrev MX3_layLawful : yM := (yX3_layLawful, cX3_layLawful, 6, none)
def cDs_layLawful (N : Nat) (σ : ySt) : Option (ySt) :=
  loopS1 (fun k3 x1 σ2 =>
    if x1 ≥ (σ2 78 3) then
      some σ2
    else
      bndO (cDy_crowds N x1 σ2) fun r6 =>
      loopS3 (fun k11 x7 x8 x9 σ10 =>
        chkT (σ10 78 0) fun T12 =>
        if x9 ≥ (σ10 (T12 + 1) 1) then
          chkA 7776 x7 <|
          bnd (yset σ10 61 (x7).toNat x8) fun σ17 =>
          chkI (x7 + 1) <|
          k3 (x7 + 1) σ17
        else
          chkI (x9 * 6) <|
          chkI (3 * x9) <|
          chkI ((x9 * 6) + (b32and (b32shr r6 (3 * x9)) 7)) <|
          chkA 36 ((x9 * 6) + (b32and (b32shr r6 (3 * x9)) 7)) <|
          chkI (x9 + 1) <|
          k11 x7 (b32and x8 (σ10 82 (((x9 * 6) + (b32and (b32shr r6 (3 * x9)) 7))).toNat)) (x9 + 1) σ10) N x1 510 0 σ2) N 0 σ
set_option maxHeartbeats 4000000 in
set_option maxRecDepth 10000 in
theorem sh_cDs_layLawful {E : yE} {N : Nat} {σ : ySt} {τ : ySt} (h : cDs_layLawful N σ = some τ) : Con E MX3_layLawful 2 0 0 [.inr (.inr (59 + 1)), .inr (.inr (78 + 1))] 150 (ov σ) none (ov τ) := by
  unfold cDs_layLawful at h
  refine Con.ofY (by decide +kernel) (by simp [yWords, yCat]) (fun hok _ => ?_)
  show Y E MX3_layLawful (yRm 2 0 0) (yQf E (150 + 0) 0 0 none (ov τ)) 0 [(0, .inr (.inr (59 + 1))), (1, .inr (.inr (78 + 1)))] [] (ov σ) 150 0 0
  refine y_iconst (show decode cX3_layLawful 0 = .ok (.iconst 0, 1) by decide +kernel) rfl ?_
  refine y_istore_n (show decode cX3_layLawful 1 = .ok (.istore_n 2, 1) by decide +kernel) rfl (L1 := [(2, .inl 0), (0, .inr (.inr (59 + 1))), (1, .inr (.inr (78 + 1)))]) rfl ?_
  refine y_pick [1, 2, 0] rfl ?_
  refine loopS1_ind (P := fun x1 σ2 => Y E MX3_layLawful (yRm 2 0 0) (yQf E (150 + 0) 0 0 none (ov τ)) 2 [(0, .inr (.inr (59 + 1))), (1, .inr (.inr (78 + 1))), (2, .inl x1)] [] (ov σ2) 150 0 0) (fun k3 hk3 x1 σ2 h => ?_) _ _ _  h
  refine y_iload_n (show decode cX3_layLawful 2 = .ok (.iload_n 2, 1) by decide +kernel) 2 rfl ?_
  refine y_aload_n (show decode cX3_layLawful 3 = .ok (.aload_n 1, 1) by decide +kernel) 1 rfl ?_
  refine y_getf 78 2 3 50 (by decide) rfl (by decide) (by decide) q2_183 (show decode cX3_layLawful 4 = .ok (.getfield 50, 3) by decide +kernel) (v := .inl (σ2 78 3)) rfl ?_
  by_cases c4 : x1 ≥ (σ2 78 3)
  · rw [if_pos c4] at h
    refine y_icmp_ge_t (tgt := 84) (show decode cX3_layLawful 7 = .ok (.if_icmp .ge 77, 3) by decide +kernel) rfl c4 ?_
    cases h
    exact y_vret (show decode cX3_layLawful 84 = .ok (.return_, 1) by decide +kernel) rfl
  · rw [if_neg c4] at h
    refine y_icmp_ge_f (show decode cX3_layLawful 7 = .ok (.if_icmp .ge 77, 3) by decide +kernel) c4 (by decide) ?_
    refine y_aload_n (show decode cX3_layLawful 10 = .ok (.aload_n 1, 1) by decide +kernel) 1 rfl ?_
    refine y_iload_n (show decode cX3_layLawful 11 = .ok (.iload_n 2, 1) by decide +kernel) 2 rfl ?_
    obtain ⟨r6, e5, h⟩ := bndO_some h
    refine y_callV (np := 1) (st := []) (as := [.inl x1]) 78 2 (sh_cDy_crowds e5) q5_34 q5_31 q5_32 q5_33 q1_14 (by decide) rfl (by decide) rfl (by decide) (by decide +kernel) (by decide) rfl (Nat.le_of_ble_eq_true rfl) (show decode cX3_layLawful 12 = .ok (.invokevirtual 79, 3) by decide +kernel) rfl ?_
    refine y_istore_n (show decode cX3_layLawful 15 = .ok (.istore_n 3, 1) by decide +kernel) rfl (L1 := [(3, .inl r6), (0, .inr (.inr (59 + 1))), (1, .inr (.inr (78 + 1))), (2, .inl x1)]) rfl ?_
    refine y_sipush (show decode cX3_layLawful 16 = .ok (.sipush 510, 3) by decide +kernel) rfl rfl ?_
    refine y_istore (show decode cX3_layLawful 19 = .ok (.istore 4, 2) by decide +kernel) rfl (L1 := [(4, .inl 510), (3, .inl r6), (0, .inr (.inr (59 + 1))), (1, .inr (.inr (78 + 1))), (2, .inl x1)]) rfl ?_
    refine y_iconst (show decode cX3_layLawful 21 = .ok (.iconst 0, 1) by decide +kernel) rfl ?_
    refine y_istore (show decode cX3_layLawful 22 = .ok (.istore 5, 2) by decide +kernel) rfl (L1 := [(5, .inl 0), (4, .inl 510), (3, .inl r6), (0, .inr (.inr (59 + 1))), (1, .inr (.inr (78 + 1))), (2, .inl x1)]) rfl ?_
    refine y_pick [3, 4, 5, 2, 1, 0] rfl ?_
    refine loopS3_ind (P := fun x7 x8 x9 σ10 => Y E MX3_layLawful (yRm 2 0 0) (yQf E (150 + 0) 0 0 none (ov τ)) 24 [(0, .inr (.inr (59 + 1))), (1, .inr (.inr (78 + 1))), (2, .inl x7), (3, .inl r6), (4, .inl x8), (5, .inl x9)] [] (ov σ10) 150 0 0) (fun k11 hk11 x7 x8 x9 σ10 h => ?_) _ _ _ _ _  h
    refine y_iload (show decode cX3_layLawful 24 = .ok (.iload 5, 2) by decide +kernel) 5 rfl ?_
    refine y_aload_n (show decode cX3_layLawful 26 = .ok (.aload_n 1, 1) by decide +kernel) 1 rfl ?_
    obtain ⟨T12, c13, c14, h⟩ := chkT_some h
    refine y_getf 78 2 0 42 (by decide) rfl (by decide) (by decide) q2_175 (show decode cX3_layLawful 27 = .ok (.getfield 42, 3) by decide +kernel) (v := .inr (.inr (T12 + 1))) (by rw [← c14]; rfl) ?_
    refine y_getf T12 9 0 83 (by omega) (by rcases c13 with rfl | rfl <;> rfl) (by decide) (by decide) q1_193 (show decode cX3_layLawful 30 = .ok (.getfield 83, 3) by decide +kernel) (v := .inr (.inr ((T12 + 1) + 1))) (by rcases c13 with rfl | rfl <;> rfl) ?_
    refine y_getf (T12 + 1) 5 1 71 (by omega) (by rcases c13 with rfl | rfl <;> rfl) (by decide) (by decide) q1_148 (show decode cX3_layLawful 33 = .ok (.getfield 71, 3) by decide +kernel) (v := .inl (σ10 (T12 + 1) 1)) (by rcases c13 with rfl | rfl <;> rfl) ?_
    by_cases c15 : x9 ≥ (σ10 (T12 + 1) 1)
    · rw [if_pos c15] at h
      refine y_icmp_ge_t (tgt := 70) (show decode cX3_layLawful 36 = .ok (.if_icmp .ge 34, 3) by decide +kernel) rfl c15 ?_
      refine y_aload_n (show decode cX3_layLawful 70 = .ok (.aload_n 0, 1) by decide +kernel) 0 rfl ?_
      refine y_getf 59 3 1 15 (by decide) rfl (by decide) (by decide) q2_151 (show decode cX3_layLawful 71 = .ok (.getfield 15, 3) by decide +kernel) (v := .inr (.inr (61 + 1))) rfl ?_
      refine y_iload_n (show decode cX3_layLawful 74 = .ok (.iload_n 2, 1) by decide +kernel) 2 rfl ?_
      refine y_iload (show decode cX3_layLawful 75 = .ok (.iload 4, 2) by decide +kernel) 4 rfl ?_
      obtain ⟨c16, h⟩ := chkA_some h
      obtain ⟨σ17, e18, h⟩ := bnd_i h
      refine yo_iast 61 7776 (by decide) rfl c16 (ov_set1 e18 rfl) (show decode cX3_layLawful 77 = .ok (.iastore, 1) by decide +kernel) ?_
      obtain ⟨c19, h⟩ := chkI_some h
      refine y_iinc (show decode cX3_layLawful 78 = .ok (.iinc 2 1, 3) by decide +kernel) 2 rfl c19 rfl (L1 := [(2, .inl (x7 + 1)), (0, .inr (.inr (59 + 1))), (1, .inr (.inr (78 + 1))), (3, .inl r6), (4, .inl x8), (5, .inl x9)]) rfl ?_
      refine y_goto (tgt := 2) (show decode cX3_layLawful 81 = .ok (.goto (-79), 3) by decide +kernel) rfl ?_
      refine y_pick [1, 2, 0] rfl ?_
      exact hk3 _ _ h
    · rw [if_neg c15] at h
      refine y_icmp_ge_f (show decode cX3_layLawful 36 = .ok (.if_icmp .ge 34, 3) by decide +kernel) c15 (by decide) ?_
      refine y_iload (show decode cX3_layLawful 39 = .ok (.iload 4, 2) by decide +kernel) 4 rfl ?_
      refine y_aload_n (show decode cX3_layLawful 41 = .ok (.aload_n 1, 1) by decide +kernel) 1 rfl ?_
      refine y_getf 78 2 7 86 (by decide) rfl (by decide) (by decide) q2_192 (show decode cX3_layLawful 42 = .ok (.getfield 86, 3) by decide +kernel) (v := .inr (.inr (82 + 1))) rfl ?_
      refine y_iload (show decode cX3_layLawful 45 = .ok (.iload 5, 2) by decide +kernel) 5 rfl ?_
      refine y_bipush (show decode cX3_layLawful 47 = .ok (.bipush 6, 2) by decide +kernel) rfl rfl ?_
      obtain ⟨c20, h⟩ := chkI_some h
      refine y_imul (show decode cX3_layLawful 49 = .ok (.imul, 1) by decide +kernel) c20 ?_
      refine y_iload_n (show decode cX3_layLawful 50 = .ok (.iload_n 3, 1) by decide +kernel) 3 rfl ?_
      refine y_iconst (show decode cX3_layLawful 51 = .ok (.iconst 3, 1) by decide +kernel) rfl ?_
      refine y_iload (show decode cX3_layLawful 52 = .ok (.iload 5, 2) by decide +kernel) 5 rfl ?_
      obtain ⟨c21, h⟩ := chkI_some h
      refine y_imul (show decode cX3_layLawful 54 = .ok (.imul, 1) by decide +kernel) c21 ?_
      refine y_ishr (show decode cX3_layLawful 55 = .ok (.ishr, 1) by decide +kernel) ?_
      refine y_bipush (show decode cX3_layLawful 56 = .ok (.bipush 7, 2) by decide +kernel) rfl rfl ?_
      refine y_iand (show decode cX3_layLawful 58 = .ok (.iand, 1) by decide +kernel) ?_
      obtain ⟨c22, h⟩ := chkI_some h
      refine y_iadd (show decode cX3_layLawful 59 = .ok (.iadd, 1) by decide +kernel) c22 ?_
      obtain ⟨c23, h⟩ := chkA_some h
      refine yo_iald 82 36 (by decide) rfl c23 (ov_at rfl) (show decode cX3_layLawful 60 = .ok (.iaload, 1) by decide +kernel) ?_
      refine y_iand (show decode cX3_layLawful 61 = .ok (.iand, 1) by decide +kernel) ?_
      refine y_istore (show decode cX3_layLawful 62 = .ok (.istore 4, 2) by decide +kernel) rfl (L1 := [(4, .inl (b32and x8 (σ10 82 (((x9 * 6) + (b32and (b32shr r6 (3 * x9)) 7))).toNat))), (0, .inr (.inr (59 + 1))), (1, .inr (.inr (78 + 1))), (2, .inl x7), (3, .inl r6), (5, .inl x9)]) rfl ?_
      obtain ⟨c24, h⟩ := chkI_some h
      refine y_iinc (show decode cX3_layLawful 64 = .ok (.iinc 5 1, 3) by decide +kernel) 5 rfl c24 rfl (L1 := [(5, .inl (x9 + 1)), (4, .inl (b32and x8 (σ10 82 (((x9 * 6) + (b32and (b32shr r6 (3 * x9)) 7))).toNat))), (0, .inr (.inr (59 + 1))), (1, .inr (.inr (78 + 1))), (2, .inl x7), (3, .inl r6)]) rfl ?_
      refine y_goto (tgt := 24) (show decode cX3_layLawful 67 = .ok (.goto (-43), 3) by decide +kernel) rfl ?_
      refine y_pick [2, 3, 4, 5, 1, 0] rfl ?_
      exact hk11 _ _ _ _ h
abbrev MX3_keepLawful : yM := (yX3_keepLawful, cX3_keepLawful, 4, none)
def cDs_keepLawful (N : Nat) (b : Int) (σ : ySt) : Option (ySt) :=
  loopS1 (fun k3 x1 σ2 =>
    if x1 ≥ (σ2 78 3) then
      some σ2
    else
      chkA 7776 x1 <|
      bnd (fun (σ6 : ySt) =>
        chkI (x1 + 1) <|
        k3 (x1 + 1) σ6) fun j7 =>
      if ¬ (b32and (b32shr (σ2 61 (x1).toNat) b) 1) = 0 then
        j7 σ2
      else
        chkA 7776 x1 <|
        bnd (yset σ2 60 (x1).toNat (-1000000)) fun σ11 =>
        j7 σ11) N 0 σ
set_option maxHeartbeats 4000000 in
set_option maxRecDepth 10000 in
theorem sh_cDs_keepLawful {E : yE} {N : Nat} {b : Int} {σ : ySt} {τ : ySt} (h : cDs_keepLawful N b σ = some τ) : Con E MX3_keepLawful 0 0 0 [.inr (.inr (59 + 1)), .inr (.inr (78 + 1)), .inl b] 150 (ov σ) none (ov τ) := by
  unfold cDs_keepLawful at h
  refine Con.ofY (by decide +kernel) (by simp [yWords, yCat]) (fun hok _ => ?_)
  show Y E MX3_keepLawful (yRm 0 0 0) (yQf E (150 + 0) 0 0 none (ov τ)) 0 [(0, .inr (.inr (59 + 1))), (1, .inr (.inr (78 + 1))), (2, .inl b)] [] (ov σ) 150 0 0
  refine y_iconst (show decode cX3_keepLawful 0 = .ok (.iconst 0, 1) by decide +kernel) rfl ?_
  refine y_istore_n (show decode cX3_keepLawful 1 = .ok (.istore_n 3, 1) by decide +kernel) rfl (L1 := [(3, .inl 0), (0, .inr (.inr (59 + 1))), (1, .inr (.inr (78 + 1))), (2, .inl b)]) rfl ?_
  refine y_pick [1, 2, 3, 0] rfl ?_
  refine loopS1_ind (P := fun x1 σ2 => Y E MX3_keepLawful (yRm 0 0 0) (yQf E (150 + 0) 0 0 none (ov τ)) 2 [(0, .inr (.inr (59 + 1))), (1, .inr (.inr (78 + 1))), (2, .inl b), (3, .inl x1)] [] (ov σ2) 150 0 0) (fun k3 hk3 x1 σ2 h => ?_) _ _ _  h
  refine y_iload_n (show decode cX3_keepLawful 2 = .ok (.iload_n 3, 1) by decide +kernel) 3 rfl ?_
  refine y_aload_n (show decode cX3_keepLawful 3 = .ok (.aload_n 1, 1) by decide +kernel) 1 rfl ?_
  refine y_getf 78 2 3 50 (by decide) rfl (by decide) (by decide) q2_183 (show decode cX3_keepLawful 4 = .ok (.getfield 50, 3) by decide +kernel) (v := .inl (σ2 78 3)) rfl ?_
  by_cases c4 : x1 ≥ (σ2 78 3)
  · rw [if_pos c4] at h
    refine y_icmp_ge_t (tgt := 37) (show decode cX3_keepLawful 7 = .ok (.if_icmp .ge 30, 3) by decide +kernel) rfl c4 ?_
    cases h
    exact y_vret (show decode cX3_keepLawful 37 = .ok (.return_, 1) by decide +kernel) rfl
  · rw [if_neg c4] at h
    refine y_icmp_ge_f (show decode cX3_keepLawful 7 = .ok (.if_icmp .ge 30, 3) by decide +kernel) c4 (by decide) ?_
    refine y_aload_n (show decode cX3_keepLawful 10 = .ok (.aload_n 0, 1) by decide +kernel) 0 rfl ?_
    refine y_getf 59 3 1 15 (by decide) rfl (by decide) (by decide) q2_151 (show decode cX3_keepLawful 11 = .ok (.getfield 15, 3) by decide +kernel) (v := .inr (.inr (61 + 1))) rfl ?_
    refine y_iload_n (show decode cX3_keepLawful 14 = .ok (.iload_n 3, 1) by decide +kernel) 3 rfl ?_
    obtain ⟨c5, h⟩ := chkA_some h
    refine yo_iald 61 7776 (by decide) rfl c5 (ov_at rfl) (show decode cX3_keepLawful 15 = .ok (.iaload, 1) by decide +kernel) ?_
    refine y_iload_n (show decode cX3_keepLawful 16 = .ok (.iload_n 2, 1) by decide +kernel) 2 rfl ?_
    refine y_ishr (show decode cX3_keepLawful 17 = .ok (.ishr, 1) by decide +kernel) ?_
    refine y_iconst (show decode cX3_keepLawful 18 = .ok (.iconst 1, 1) by decide +kernel) rfl ?_
    refine y_iand (show decode cX3_keepLawful 19 = .ok (.iand, 1) by decide +kernel) ?_
    refine bnd_j (Q := fun j7 => ∀ (σ6 : ySt), j7 σ6 = some τ → Y E MX3_keepLawful (yRm 0 0 0) (yQf E (150 + 0) 0 0 none (ov τ)) 31 [(0, .inr (.inr (59 + 1))), (1, .inr (.inr (78 + 1))), (2, .inl b), (3, .inl x1)] [] (ov σ6) 150 0 0) (fun σ6 h => ?_) (fun j7 hj7 h => ?_) h
    · dsimp only at h
      obtain ⟨c8, h⟩ := chkI_some h
      refine y_iinc (show decode cX3_keepLawful 31 = .ok (.iinc 3 1, 3) by decide +kernel) 3 rfl c8 rfl (L1 := [(3, .inl (x1 + 1)), (0, .inr (.inr (59 + 1))), (1, .inr (.inr (78 + 1))), (2, .inl b)]) rfl ?_
      refine y_goto (tgt := 2) (show decode cX3_keepLawful 34 = .ok (.goto (-32), 3) by decide +kernel) rfl ?_
      refine y_pick [1, 2, 3, 0] rfl ?_
      exact hk3 _ _ h
    by_cases c9 : ¬ (b32and (b32shr (σ2 61 (x1).toNat) b) 1) = 0
    · rw [if_pos c9] at h
      refine y_if_ne_t (tgt := 31) (show decode cX3_keepLawful 20 = .ok (.ifCond .ne 11, 3) by decide +kernel) rfl c9 ?_
      refine y_pick [0, 1, 2, 3] rfl ?_
      exact hj7 _ h
    · rw [if_neg c9] at h
      refine y_if_ne_f (show decode cX3_keepLawful 20 = .ok (.ifCond .ne 11, 3) by decide +kernel) c9 (by decide) ?_
      refine y_aload_n (show decode cX3_keepLawful 23 = .ok (.aload_n 0, 1) by decide +kernel) 0 rfl ?_
      refine y_getf 59 3 0 9 (by decide) rfl (by decide) (by decide) q2_150 (show decode cX3_keepLawful 24 = .ok (.getfield 9, 3) by decide +kernel) (v := .inr (.inr (60 + 1))) rfl ?_
      refine y_iload_n (show decode cX3_keepLawful 27 = .ok (.iload_n 3, 1) by decide +kernel) 3 rfl ?_
      refine y_ldc (k := -1000000) (show decode cX3_keepLawful 28 = .ok (.ldc 33, 2) by decide +kernel) q5_26 rfl rfl ?_
      obtain ⟨c10, h⟩ := chkA_some h
      obtain ⟨σ11, e12, h⟩ := bnd_i h
      refine yo_iast 60 7776 (by decide) rfl c10 (ov_set1 e12 rfl) (show decode cX3_keepLawful 30 = .ok (.iastore, 1) by decide +kernel) ?_
      refine y_pick [0, 1, 2, 3] rfl ?_
      exact hj7 _ h
abbrev MX3_layWeights : yM := (yX3_layWeights, cX3_layWeights, 7, none)
def cDs_layWeights (N : Nat) (b : Int) (c : Int) (σ : ySt) : Option (ySt) :=
  chkT (σ 78 0) fun T1 =>
  loopS1 (fun k6 x4 σ5 =>
    if x4 ≥ (σ (T1 + 1) 1) then
      some σ5
    else
      loopS2 (fun k11 x8 x9 σ10 =>
        if x9 ≥ (σ (T1 + 1) 1) then
          chkI (x8 + 1) <|
          k6 (x8 + 1) σ10
        else
          chkI (x8 * 6) <|
          chkI ((x8 * 6) + x9) <|
          bndO (cDy_step b c x8 x9 σ10) fun r17 =>
          chkA 36 ((x8 * 6) + x9) <|
          bnd (yset σ10 62 (((x8 * 6) + x9)).toNat r17) fun σ19 =>
          chkI (x9 + 1) <|
          k11 x8 (x9 + 1) σ19) N x4 0 σ5) N 0 σ
set_option maxHeartbeats 4000000 in
set_option maxRecDepth 10000 in
theorem sh_cDs_layWeights {E : yE} {N : Nat} {b : Int} {c : Int} {σ : ySt} {τ : ySt} (h : cDs_layWeights N b c σ = some τ) : Con E MX3_layWeights 1 0 0 [.inr (.inr (59 + 1)), .inr (.inr (78 + 1)), .inl b, .inl c] 150 (ov σ) none (ov τ) := by
  unfold cDs_layWeights at h
  refine Con.ofY (by decide +kernel) (by simp [yWords, yCat]) (fun hok _ => ?_)
  show Y E MX3_layWeights (yRm 1 0 0) (yQf E (150 + 0) 0 0 none (ov τ)) 0 [(0, .inr (.inr (59 + 1))), (1, .inr (.inr (78 + 1))), (2, .inl b), (3, .inl c)] [] (ov σ) 150 0 0
  refine y_aload_n (show decode cX3_layWeights 0 = .ok (.aload_n 1, 1) by decide +kernel) 1 rfl ?_
  obtain ⟨T1, c2, c3, h⟩ := chkT_some h
  refine y_getf 78 2 0 42 (by decide) rfl (by decide) (by decide) q2_175 (show decode cX3_layWeights 1 = .ok (.getfield 42, 3) by decide +kernel) (v := .inr (.inr (T1 + 1))) (by rw [← c3]; rfl) ?_
  refine y_getf T1 9 0 83 (by omega) (by rcases c2 with rfl | rfl <;> rfl) (by decide) (by decide) q1_193 (show decode cX3_layWeights 4 = .ok (.getfield 83, 3) by decide +kernel) (v := .inr (.inr ((T1 + 1) + 1))) (by rcases c2 with rfl | rfl <;> rfl) ?_
  refine y_getf (T1 + 1) 5 1 71 (by omega) (by rcases c2 with rfl | rfl <;> rfl) (by decide) (by decide) q1_148 (show decode cX3_layWeights 7 = .ok (.getfield 71, 3) by decide +kernel) (v := .inl (σ (T1 + 1) 1)) (by rcases c2 with rfl | rfl <;> rfl) ?_
  refine y_istore (show decode cX3_layWeights 10 = .ok (.istore 4, 2) by decide +kernel) rfl (L1 := [(4, .inl (σ (T1 + 1) 1)), (0, .inr (.inr (59 + 1))), (1, .inr (.inr (78 + 1))), (2, .inl b), (3, .inl c)]) rfl ?_
  refine y_iconst (show decode cX3_layWeights 12 = .ok (.iconst 0, 1) by decide +kernel) rfl ?_
  refine y_istore (show decode cX3_layWeights 13 = .ok (.istore 5, 2) by decide +kernel) rfl (L1 := [(5, .inl 0), (4, .inl (σ (T1 + 1) 1)), (0, .inr (.inr (59 + 1))), (1, .inr (.inr (78 + 1))), (2, .inl b), (3, .inl c)]) rfl ?_
  refine y_pick [2, 3, 4, 5, 1, 0] rfl ?_
  refine loopS1_ind (P := fun x4 σ5 => Y E MX3_layWeights (yRm 1 0 0) (yQf E (150 + 0) 0 0 none (ov τ)) 15 [(0, .inr (.inr (59 + 1))), (1, .inr (.inr (78 + 1))), (2, .inl b), (3, .inl c), (4, .inl (σ (T1 + 1) 1)), (5, .inl x4)] [] (ov σ5) 150 0 0) (fun k6 hk6 x4 σ5 h => ?_) _ _ _  h
  refine y_iload (show decode cX3_layWeights 15 = .ok (.iload 5, 2) by decide +kernel) 5 rfl ?_
  refine y_iload (show decode cX3_layWeights 17 = .ok (.iload 4, 2) by decide +kernel) 4 rfl ?_
  by_cases c7 : x4 ≥ (σ (T1 + 1) 1)
  · rw [if_pos c7] at h
    refine y_icmp_ge_t (tgt := 67) (show decode cX3_layWeights 19 = .ok (.if_icmp .ge 48, 3) by decide +kernel) rfl c7 ?_
    cases h
    exact y_vret (show decode cX3_layWeights 67 = .ok (.return_, 1) by decide +kernel) rfl
  · rw [if_neg c7] at h
    refine y_icmp_ge_f (show decode cX3_layWeights 19 = .ok (.if_icmp .ge 48, 3) by decide +kernel) c7 (by decide) ?_
    refine y_iconst (show decode cX3_layWeights 22 = .ok (.iconst 0, 1) by decide +kernel) rfl ?_
    refine y_istore (show decode cX3_layWeights 23 = .ok (.istore 6, 2) by decide +kernel) rfl (L1 := [(6, .inl 0), (0, .inr (.inr (59 + 1))), (1, .inr (.inr (78 + 1))), (2, .inl b), (3, .inl c), (4, .inl (σ (T1 + 1) 1)), (5, .inl x4)]) rfl ?_
    refine y_pick [1, 2, 3, 4, 5, 6, 0] rfl ?_
    refine loopS2_ind (P := fun x8 x9 σ10 => Y E MX3_layWeights (yRm 1 0 0) (yQf E (150 + 0) 0 0 none (ov τ)) 25 [(0, .inr (.inr (59 + 1))), (1, .inr (.inr (78 + 1))), (2, .inl b), (3, .inl c), (4, .inl (σ (T1 + 1) 1)), (5, .inl x8), (6, .inl x9)] [] (ov σ10) 150 0 0) (fun k11 hk11 x8 x9 σ10 h => ?_) _ _ _ _  h
    refine y_iload (show decode cX3_layWeights 25 = .ok (.iload 6, 2) by decide +kernel) 6 rfl ?_
    refine y_iload (show decode cX3_layWeights 27 = .ok (.iload 4, 2) by decide +kernel) 4 rfl ?_
    by_cases c12 : x9 ≥ (σ (T1 + 1) 1)
    · rw [if_pos c12] at h
      refine y_icmp_ge_t (tgt := 61) (show decode cX3_layWeights 29 = .ok (.if_icmp .ge 32, 3) by decide +kernel) rfl c12 ?_
      obtain ⟨c13, h⟩ := chkI_some h
      refine y_iinc (show decode cX3_layWeights 61 = .ok (.iinc 5 1, 3) by decide +kernel) 5 rfl c13 rfl (L1 := [(5, .inl (x8 + 1)), (0, .inr (.inr (59 + 1))), (1, .inr (.inr (78 + 1))), (2, .inl b), (3, .inl c), (4, .inl (σ (T1 + 1) 1)), (6, .inl x9)]) rfl ?_
      refine y_goto (tgt := 15) (show decode cX3_layWeights 64 = .ok (.goto (-49), 3) by decide +kernel) rfl ?_
      refine y_pick [1, 2, 3, 4, 5, 0] rfl ?_
      exact hk6 _ _ h
    · rw [if_neg c12] at h
      refine y_icmp_ge_f (show decode cX3_layWeights 29 = .ok (.if_icmp .ge 32, 3) by decide +kernel) c12 (by decide) ?_
      refine y_aload_n (show decode cX3_layWeights 32 = .ok (.aload_n 0, 1) by decide +kernel) 0 rfl ?_
      refine y_getf 59 3 2 18 (by decide) rfl (by decide) (by decide) q2_152 (show decode cX3_layWeights 33 = .ok (.getfield 18, 3) by decide +kernel) (v := .inr (.inr (62 + 1))) rfl ?_
      refine y_iload (show decode cX3_layWeights 36 = .ok (.iload 5, 2) by decide +kernel) 5 rfl ?_
      refine y_bipush (show decode cX3_layWeights 38 = .ok (.bipush 6, 2) by decide +kernel) rfl rfl ?_
      obtain ⟨c14, h⟩ := chkI_some h
      refine y_imul (show decode cX3_layWeights 40 = .ok (.imul, 1) by decide +kernel) c14 ?_
      refine y_iload (show decode cX3_layWeights 41 = .ok (.iload 6, 2) by decide +kernel) 6 rfl ?_
      obtain ⟨c15, h⟩ := chkI_some h
      refine y_iadd (show decode cX3_layWeights 43 = .ok (.iadd, 1) by decide +kernel) c15 ?_
      refine y_aload_n (show decode cX3_layWeights 44 = .ok (.aload_n 1, 1) by decide +kernel) 1 rfl ?_
      refine y_iload_n (show decode cX3_layWeights 45 = .ok (.iload_n 2, 1) by decide +kernel) 2 rfl ?_
      refine y_iload_n (show decode cX3_layWeights 46 = .ok (.iload_n 3, 1) by decide +kernel) 3 rfl ?_
      refine y_iload (show decode cX3_layWeights 47 = .ok (.iload 5, 2) by decide +kernel) 5 rfl ?_
      refine y_iload (show decode cX3_layWeights 49 = .ok (.iload 6, 2) by decide +kernel) 6 rfl ?_
      obtain ⟨r17, e16, h⟩ := bndO_some h
      refine y_callV (np := 4) (st := [.inl ((x8 * 6) + x9), .inr (.inr (62 + 1))]) (as := [.inl b, .inl c, .inl x8, .inl x9]) 78 2 (sh_cDy_step e16) q5_11 q5_57 q5_9 q5_10 q1_14 (by decide) rfl (by decide) rfl (by decide) (by decide +kernel) (by decide) rfl (Nat.le_of_ble_eq_true rfl) (show decode cX3_layWeights 51 = .ok (.invokevirtual 108, 3) by decide +kernel) rfl ?_
      obtain ⟨c18, h⟩ := chkA_some h
      obtain ⟨σ19, e20, h⟩ := bnd_i h
      refine yo_iast 62 36 (by decide) rfl c18 (ov_set1 e20 rfl) (show decode cX3_layWeights 54 = .ok (.iastore, 1) by decide +kernel) ?_
      obtain ⟨c21, h⟩ := chkI_some h
      refine y_iinc (show decode cX3_layWeights 55 = .ok (.iinc 6 1, 3) by decide +kernel) 6 rfl c21 rfl (L1 := [(6, .inl (x9 + 1)), (0, .inr (.inr (59 + 1))), (1, .inr (.inr (78 + 1))), (2, .inl b), (3, .inl c), (4, .inl (σ (T1 + 1) 1)), (5, .inl x8)]) rfl ?_
      refine y_goto (tgt := 25) (show decode cX3_layWeights 58 = .ok (.goto (-33), 3) by decide +kernel) rfl ?_
      refine y_pick [1, 2, 3, 4, 5, 6, 0] rfl ?_
      exact hk11 _ _ _ h
abbrev MX3_bestOfLine : yM := (yX3_bestOfLine, cX3_bestOfLine, 5, some .int)
def cDs_bestOfLine (N : Nat) (a : Int) (b : Int) (σ : ySt) : Option (Int) :=
  loop2 (fun k3 x1 x2 =>
    if x2 ≥ b then
      if x1 ≥ (-500000) then
        some x1
      else
        some (-1000000)
    else
      chkA 6 x2 <|
      chkI (a + x2) <|
      chkA 36 (a + x2) <|
      chkI ((σ 63 (x2).toNat) + (σ 62 ((a + x2)).toNat)) <|
      bndO (jM_max_7cf53 x1 ((σ 63 (x2).toNat) + (σ 62 ((a + x2)).toNat)) σ) fun r11 =>
      chkI (x2 + 1) <|
      k3 r11 (x2 + 1)) N (-1000000) 0
set_option maxHeartbeats 4000000 in
set_option maxRecDepth 10000 in
theorem sh_cDs_bestOfLine {E : yE} {N : Nat} {a : Int} {b : Int} {σ : ySt} {ρ : Int} (h : cDs_bestOfLine N a b σ = some ρ) : Con E MX3_bestOfLine 1 0 0 [.inr (.inr (59 + 1)), .inl a, .inl b] 150 (ov σ) (some (.inl ρ)) (ov σ) := by
  unfold cDs_bestOfLine at h
  refine Con.ofY (by decide +kernel) (by simp [yWords, yCat]) (fun hok _ => ?_)
  show Y E MX3_bestOfLine (yRm 1 0 0) (yQf E (150 + 0) 0 0 (some (.inl ρ)) (ov σ)) 0 [(0, .inr (.inr (59 + 1))), (1, .inl a), (2, .inl b)] [] (ov σ) 150 0 0
  refine y_ldc (k := -1000000) (show decode cX3_bestOfLine 0 = .ok (.ldc 33, 2) by decide +kernel) q5_26 rfl rfl ?_
  refine y_istore_n (show decode cX3_bestOfLine 2 = .ok (.istore_n 3, 1) by decide +kernel) rfl (L1 := [(3, .inl (-1000000)), (0, .inr (.inr (59 + 1))), (1, .inl a), (2, .inl b)]) rfl ?_
  refine y_iconst (show decode cX3_bestOfLine 3 = .ok (.iconst 0, 1) by decide +kernel) rfl ?_
  refine y_istore (show decode cX3_bestOfLine 4 = .ok (.istore 4, 2) by decide +kernel) rfl (L1 := [(4, .inl 0), (3, .inl (-1000000)), (0, .inr (.inr (59 + 1))), (1, .inl a), (2, .inl b)]) rfl ?_
  refine y_pick [2, 3, 4, 1, 0] rfl ?_
  refine loop2_ind (P := fun x1 x2 => Y E MX3_bestOfLine (yRm 1 0 0) (yQf E (150 + 0) 0 0 (some (.inl ρ)) (ov σ)) 6 [(0, .inr (.inr (59 + 1))), (1, .inl a), (2, .inl b), (3, .inl x1), (4, .inl x2)] [] (ov σ) 150 0 0) (fun k3 hk3 x1 x2 h => ?_) _ _ _  h
  refine y_iload (show decode cX3_bestOfLine 6 = .ok (.iload 4, 2) by decide +kernel) 4 rfl ?_
  refine y_iload_n (show decode cX3_bestOfLine 8 = .ok (.iload_n 2, 1) by decide +kernel) 2 rfl ?_
  by_cases c4 : x2 ≥ b
  · rw [if_pos c4] at h
    refine y_icmp_ge_t (tgt := 40) (show decode cX3_bestOfLine 9 = .ok (.if_icmp .ge 31, 3) by decide +kernel) rfl c4 ?_
    refine y_iload_n (show decode cX3_bestOfLine 40 = .ok (.iload_n 3, 1) by decide +kernel) 3 rfl ?_
    refine y_ldc (k := -500000) (show decode cX3_bestOfLine 41 = .ok (.ldc 64, 2) by decide +kernel) q5_62 rfl rfl ?_
    by_cases c5 : x1 ≥ (-500000)
    · rw [if_pos c5] at h
      refine y_icmp_ge_t (tgt := 51) (show decode cX3_bestOfLine 43 = .ok (.if_icmp .ge 8, 3) by decide +kernel) rfl c5 ?_
      refine y_iload_n (show decode cX3_bestOfLine 51 = .ok (.iload_n 3, 1) by decide +kernel) 3 rfl ?_
      cases h
      exact y_iret (show decode cX3_bestOfLine 52 = .ok (.ireturn, 1) by decide +kernel) rfl
    · rw [if_neg c5] at h
      refine y_icmp_ge_f (show decode cX3_bestOfLine 43 = .ok (.if_icmp .ge 8, 3) by decide +kernel) c5 (by decide) ?_
      refine y_ldc (k := -1000000) (show decode cX3_bestOfLine 46 = .ok (.ldc 33, 2) by decide +kernel) q5_26 rfl rfl ?_
      refine y_goto (tgt := 52) (show decode cX3_bestOfLine 48 = .ok (.goto 4, 3) by decide +kernel) rfl ?_
      cases h
      exact y_iret (show decode cX3_bestOfLine 52 = .ok (.ireturn, 1) by decide +kernel) rfl
  · rw [if_neg c4] at h
    refine y_icmp_ge_f (show decode cX3_bestOfLine 9 = .ok (.if_icmp .ge 31, 3) by decide +kernel) c4 (by decide) ?_
    refine y_iload_n (show decode cX3_bestOfLine 12 = .ok (.iload_n 3, 1) by decide +kernel) 3 rfl ?_
    refine y_aload_n (show decode cX3_bestOfLine 13 = .ok (.aload_n 0, 1) by decide +kernel) 0 rfl ?_
    refine y_getf 59 3 3 21 (by decide) rfl (by decide) (by decide) q2_153 (show decode cX3_bestOfLine 14 = .ok (.getfield 21, 3) by decide +kernel) (v := .inr (.inr (63 + 1))) rfl ?_
    refine y_iload (show decode cX3_bestOfLine 17 = .ok (.iload 4, 2) by decide +kernel) 4 rfl ?_
    obtain ⟨c6, h⟩ := chkA_some h
    refine yo_iald 63 6 (by decide) rfl c6 (ov_at rfl) (show decode cX3_bestOfLine 19 = .ok (.iaload, 1) by decide +kernel) ?_
    refine y_aload_n (show decode cX3_bestOfLine 20 = .ok (.aload_n 0, 1) by decide +kernel) 0 rfl ?_
    refine y_getf 59 3 2 18 (by decide) rfl (by decide) (by decide) q2_152 (show decode cX3_bestOfLine 21 = .ok (.getfield 18, 3) by decide +kernel) (v := .inr (.inr (62 + 1))) rfl ?_
    refine y_iload_n (show decode cX3_bestOfLine 24 = .ok (.iload_n 1, 1) by decide +kernel) 1 rfl ?_
    refine y_iload (show decode cX3_bestOfLine 25 = .ok (.iload 4, 2) by decide +kernel) 4 rfl ?_
    obtain ⟨c7, h⟩ := chkI_some h
    refine y_iadd (show decode cX3_bestOfLine 27 = .ok (.iadd, 1) by decide +kernel) c7 ?_
    obtain ⟨c8, h⟩ := chkA_some h
    refine yo_iald 62 36 (by decide) rfl c8 (ov_at rfl) (show decode cX3_bestOfLine 28 = .ok (.iaload, 1) by decide +kernel) ?_
    obtain ⟨c9, h⟩ := chkI_some h
    refine y_iadd (show decode cX3_bestOfLine 29 = .ok (.iadd, 1) by decide +kernel) c9 ?_
    obtain ⟨r11, e10, h⟩ := bndO_some h
    refine y_callS (np := 2) (st := []) (as := [.inl x1, .inl ((σ 63 (x2).toNat) + (σ 62 ((a + x2)).toNat))]) (sh_jM_max_7cf53 e10) q3_176 q5_67 q3_175 q1_11 (by decide) (by decide +kernel) (by decide) rfl (Nat.le_of_ble_eq_true rfl) (show decode cX3_bestOfLine 30 = .ok (.invokestatic 58, 3) by decide +kernel) rfl ?_
    refine y_istore_n (show decode cX3_bestOfLine 33 = .ok (.istore_n 3, 1) by decide +kernel) rfl (L1 := [(3, .inl r11), (0, .inr (.inr (59 + 1))), (1, .inl a), (2, .inl b), (4, .inl x2)]) rfl ?_
    obtain ⟨c12, h⟩ := chkI_some h
    refine y_iinc (show decode cX3_bestOfLine 34 = .ok (.iinc 4 1, 3) by decide +kernel) 4 rfl c12 rfl (L1 := [(4, .inl (x2 + 1)), (3, .inl r11), (0, .inr (.inr (59 + 1))), (1, .inl a), (2, .inl b)]) rfl ?_
    refine y_goto (tgt := 6) (show decode cX3_bestOfLine 37 = .ok (.goto (-31), 3) by decide +kernel) rfl ?_
    refine y_pick [2, 3, 4, 1, 0] rfl ?_
    exact hk3 _ _ h
abbrev MX3_goBack : yM := (yX3_goBack, cX3_goBack, 12, none)
def cDs_goBack (N : Nat) (b : Int) (σ : ySt) : Option (ySt) :=
  chkA 5 b <|
  chkT (σ 78 0) fun T2 =>
  chkI ((σ 79 (b).toNat) * (σ (T2 + 1) 1)) <|
  bnd (fun (y6 : Int) =>
    loopS1 (fun k10 x8 σ9 =>
      if x8 ≥ y6 then
        some σ9
      else
        loopS2 (fun k15 x12 x13 σ14 =>
          if x13 ≥ (σ 79 (b).toNat) then
            chkI (x12 + 1) <|
            k10 (x12 + 1) σ14
          else
            chkI (x12 * ((σ 79 (b).toNat) * (σ (T2 + 1) 1))) <|
            chkI ((x12 * ((σ 79 (b).toNat) * (σ (T2 + 1) 1))) + x13) <|
            loopS4 (fun k25 x20 x21 x22 x23 σ24 =>
              if x23 ≥ (σ (T2 + 1) 1) then
                loopS4 (fun k32 x27 x28 x29 x30 σ31 =>
                  bnd (chkI (x28 + 1) <|
                    k15 x27 (x28 + 1) σ31) fun j33 =>
                  if x30 ≥ (σ (T2 + 1) 1) then
                    j33
                  else
                    if x29 = 0 then
                      j33
                    else
                      chkI (x30 * (σ 79 (b).toNat)) <|
                      chkI (((x12 * ((σ 79 (b).toNat) * (σ (T2 + 1) 1))) + x13) + (x30 * (σ 79 (b).toNat))) <|
                      chkI (x30 * 6) <|
                      bndO (cDs_bestOfLine N (x30 * 6) (σ (T2 + 1) 1) σ31) fun r41 =>
                      chkA 7776 (((x12 * ((σ 79 (b).toNat) * (σ (T2 + 1) 1))) + x13) + (x30 * (σ 79 (b).toNat))) <|
                      bnd (yset σ31 60 ((((x12 * ((σ 79 (b).toNat) * (σ (T2 + 1) 1))) + x13) + (x30 * (σ 79 (b).toNat)))).toNat r41) fun σ43 =>
                      chkI (x30 + 1) <|
                      k32 x27 x28 x29 (x30 + 1) σ43) N x20 x21 x22 0 σ24
              else
                chkI (x23 * (σ 79 (b).toNat)) <|
                chkI (((x12 * ((σ 79 (b).toNat) * (σ (T2 + 1) 1))) + x13) + (x23 * (σ 79 (b).toNat))) <|
                chkA 7776 (((x12 * ((σ 79 (b).toNat) * (σ (T2 + 1) 1))) + x13) + (x23 * (σ 79 (b).toNat))) <|
                chkA 6 x23 <|
                bnd (yset σ24 63 (x23).toNat (σ24 60 ((((x12 * ((σ 79 (b).toNat) * (σ (T2 + 1) 1))) + x13) + (x23 * (σ 79 (b).toNat)))).toNat)) fun σ50 =>
                chkA 6 x23 <|
                bnd (fun (y53 : Int) =>
                  chkI (x23 + 1) <|
                  k25 x20 x21 (b32or x22 y53) (x23 + 1) σ50) fun j54 =>
                if (σ50 63 (x23).toNat) ≤ (-500000) then
                  j54 0
                else
                  j54 1) N x12 x13 0 0 σ14) N x8 0 σ9) N 0 σ) fun j7 =>
  if ((σ 79 (b).toNat) * (σ (T2 + 1) 1)) ≥ 1 then
    chk ((((σ 79 (b).toNat) * (σ (T2 + 1) 1)) : Int) ≠ 0) <|
    chkI (((σ 78 3) : Int).tdiv ((σ 79 (b).toNat) * (σ (T2 + 1) 1))) <|
    j7 (((σ 78 3) : Int).tdiv ((σ 79 (b).toNat) * (σ (T2 + 1) 1)))
  else
    j7 0
set_option maxHeartbeats 4000000 in
set_option maxRecDepth 10000 in
theorem sh_cDs_goBack {E : yE} {N : Nat} {b : Int} {σ : ySt} {τ : ySt} (h : cDs_goBack N b σ = some τ) : Con E MX3_goBack 2 0 0 [.inr (.inr (59 + 1)), .inr (.inr (78 + 1)), .inl b] 150 (ov σ) none (ov τ) := by
  unfold cDs_goBack at h
  refine Con.ofY (by decide +kernel) (by simp [yWords, yCat]) (fun hok _ => ?_)
  show Y E MX3_goBack (yRm 2 0 0) (yQf E (150 + 0) 0 0 none (ov τ)) 0 [(0, .inr (.inr (59 + 1))), (1, .inr (.inr (78 + 1))), (2, .inl b)] [] (ov σ) 150 0 0
  refine y_aload_n (show decode cX3_goBack 0 = .ok (.aload_n 1, 1) by decide +kernel) 1 rfl ?_
  refine y_getf 78 2 4 112 (by decide) rfl (by decide) (by decide) q2_187 (show decode cX3_goBack 1 = .ok (.getfield 112, 3) by decide +kernel) (v := .inr (.inr (79 + 1))) rfl ?_
  refine y_iload_n (show decode cX3_goBack 4 = .ok (.iload_n 2, 1) by decide +kernel) 2 rfl ?_
  obtain ⟨c1, h⟩ := chkA_some h
  refine yo_iald 79 5 (by decide) rfl c1 (ov_at rfl) (show decode cX3_goBack 5 = .ok (.iaload, 1) by decide +kernel) ?_
  refine y_istore_n (show decode cX3_goBack 6 = .ok (.istore_n 3, 1) by decide +kernel) rfl (L1 := [(3, .inl (σ 79 (b).toNat)), (0, .inr (.inr (59 + 1))), (1, .inr (.inr (78 + 1))), (2, .inl b)]) rfl ?_
  refine y_aload_n (show decode cX3_goBack 7 = .ok (.aload_n 1, 1) by decide +kernel) 2 rfl ?_
  obtain ⟨T2, c3, c4, h⟩ := chkT_some h
  refine y_getf 78 2 0 42 (by decide) rfl (by decide) (by decide) q2_175 (show decode cX3_goBack 8 = .ok (.getfield 42, 3) by decide +kernel) (v := .inr (.inr (T2 + 1))) (by rw [← c4]; rfl) ?_
  refine y_getf T2 9 0 83 (by omega) (by rcases c3 with rfl | rfl <;> rfl) (by decide) (by decide) q1_193 (show decode cX3_goBack 11 = .ok (.getfield 83, 3) by decide +kernel) (v := .inr (.inr ((T2 + 1) + 1))) (by rcases c3 with rfl | rfl <;> rfl) ?_
  refine y_getf (T2 + 1) 5 1 71 (by omega) (by rcases c3 with rfl | rfl <;> rfl) (by decide) (by decide) q1_148 (show decode cX3_goBack 14 = .ok (.getfield 71, 3) by decide +kernel) (v := .inl (σ (T2 + 1) 1)) (by rcases c3 with rfl | rfl <;> rfl) ?_
  refine y_istore (show decode cX3_goBack 17 = .ok (.istore 4, 2) by decide +kernel) rfl (L1 := [(4, .inl (σ (T2 + 1) 1)), (3, .inl (σ 79 (b).toNat)), (0, .inr (.inr (59 + 1))), (1, .inr (.inr (78 + 1))), (2, .inl b)]) rfl ?_
  refine y_iload_n (show decode cX3_goBack 19 = .ok (.iload_n 3, 1) by decide +kernel) 1 rfl ?_
  refine y_iload (show decode cX3_goBack 20 = .ok (.iload 4, 2) by decide +kernel) 0 rfl ?_
  obtain ⟨c5, h⟩ := chkI_some h
  refine y_imul (show decode cX3_goBack 22 = .ok (.imul, 1) by decide +kernel) c5 ?_
  refine y_istore (show decode cX3_goBack 23 = .ok (.istore 5, 2) by decide +kernel) rfl (L1 := [(5, .inl ((σ 79 (b).toNat) * (σ (T2 + 1) 1))), (4, .inl (σ (T2 + 1) 1)), (3, .inl (σ 79 (b).toNat)), (0, .inr (.inr (59 + 1))), (1, .inr (.inr (78 + 1))), (2, .inl b)]) rfl ?_
  refine y_iload (show decode cX3_goBack 25 = .ok (.iload 5, 2) by decide +kernel) 0 rfl ?_
  refine y_iconst (show decode cX3_goBack 27 = .ok (.iconst 1, 1) by decide +kernel) rfl ?_
  refine bnd_j (Q := fun j7 => ∀ (y6 : Int), j7 y6 = some τ → Y E MX3_goBack (yRm 2 0 0) (yQf E (150 + 0) 0 0 none (ov τ)) 42 [(0, .inr (.inr (59 + 1))), (3, .inl (σ 79 (b).toNat)), (4, .inl (σ (T2 + 1) 1)), (5, .inl ((σ 79 (b).toNat) * (σ (T2 + 1) 1)))] [.inl y6] (ov σ) 150 0 0) (fun y6 h => ?_) (fun j7 hj7 h => ?_) h
  · dsimp only at h
    refine y_istore (show decode cX3_goBack 42 = .ok (.istore 6, 2) by decide +kernel) rfl (L1 := [(6, .inl y6), (0, .inr (.inr (59 + 1))), (3, .inl (σ 79 (b).toNat)), (4, .inl (σ (T2 + 1) 1)), (5, .inl ((σ 79 (b).toNat) * (σ (T2 + 1) 1)))]) rfl ?_
    refine y_iconst (show decode cX3_goBack 44 = .ok (.iconst 0, 1) by decide +kernel) rfl ?_
    refine y_istore (show decode cX3_goBack 45 = .ok (.istore 7, 2) by decide +kernel) rfl (L1 := [(7, .inl 0), (6, .inl y6), (0, .inr (.inr (59 + 1))), (3, .inl (σ 79 (b).toNat)), (4, .inl (σ (T2 + 1) 1)), (5, .inl ((σ 79 (b).toNat) * (σ (T2 + 1) 1)))]) rfl ?_
    refine y_pick [2, 3, 4, 5, 1, 0] rfl ?_
    refine loopS1_ind (P := fun x8 σ9 => Y E MX3_goBack (yRm 2 0 0) (yQf E (150 + 0) 0 0 none (ov τ)) 47 [(0, .inr (.inr (59 + 1))), (3, .inl (σ 79 (b).toNat)), (4, .inl (σ (T2 + 1) 1)), (5, .inl ((σ 79 (b).toNat) * (σ (T2 + 1) 1))), (6, .inl y6), (7, .inl x8)] [] (ov σ9) 150 0 0) (fun k10 hk10 x8 σ9 h => ?_) _ _ _  h
    refine y_iload (show decode cX3_goBack 47 = .ok (.iload 7, 2) by decide +kernel) 5 rfl ?_
    refine y_iload (show decode cX3_goBack 49 = .ok (.iload 6, 2) by decide +kernel) 4 rfl ?_
    by_cases c11 : x8 ≥ y6
    · rw [if_pos c11] at h
      refine y_icmp_ge_t (tgt := 189) (show decode cX3_goBack 51 = .ok (.if_icmp .ge 138, 3) by decide +kernel) rfl c11 ?_
      cases h
      exact y_vret (show decode cX3_goBack 189 = .ok (.return_, 1) by decide +kernel) rfl
    · rw [if_neg c11] at h
      refine y_icmp_ge_f (show decode cX3_goBack 51 = .ok (.if_icmp .ge 138, 3) by decide +kernel) c11 (by decide) ?_
      refine y_iconst (show decode cX3_goBack 54 = .ok (.iconst 0, 1) by decide +kernel) rfl ?_
      refine y_istore (show decode cX3_goBack 55 = .ok (.istore 8, 2) by decide +kernel) rfl (L1 := [(8, .inl 0), (0, .inr (.inr (59 + 1))), (3, .inl (σ 79 (b).toNat)), (4, .inl (σ (T2 + 1) 1)), (5, .inl ((σ 79 (b).toNat) * (σ (T2 + 1) 1))), (6, .inl y6), (7, .inl x8)]) rfl ?_
      refine y_pick [1, 2, 3, 4, 5, 6, 0] rfl ?_
      refine loopS2_ind (P := fun x12 x13 σ14 => Y E MX3_goBack (yRm 2 0 0) (yQf E (150 + 0) 0 0 none (ov τ)) 57 [(0, .inr (.inr (59 + 1))), (3, .inl (σ 79 (b).toNat)), (4, .inl (σ (T2 + 1) 1)), (5, .inl ((σ 79 (b).toNat) * (σ (T2 + 1) 1))), (6, .inl y6), (7, .inl x12), (8, .inl x13)] [] (ov σ14) 150 0 0) (fun k15 hk15 x12 x13 σ14 h => ?_) _ _ _ _  h
      refine y_iload (show decode cX3_goBack 57 = .ok (.iload 8, 2) by decide +kernel) 6 rfl ?_
      refine y_iload_n (show decode cX3_goBack 59 = .ok (.iload_n 3, 1) by decide +kernel) 1 rfl ?_
      by_cases c16 : x13 ≥ (σ 79 (b).toNat)
      · rw [if_pos c16] at h
        refine y_icmp_ge_t (tgt := 183) (show decode cX3_goBack 60 = .ok (.if_icmp .ge 123, 3) by decide +kernel) rfl c16 ?_
        obtain ⟨c17, h⟩ := chkI_some h
        refine y_iinc (show decode cX3_goBack 183 = .ok (.iinc 7 1, 3) by decide +kernel) 5 rfl c17 rfl (L1 := [(7, .inl (x12 + 1)), (0, .inr (.inr (59 + 1))), (3, .inl (σ 79 (b).toNat)), (4, .inl (σ (T2 + 1) 1)), (5, .inl ((σ 79 (b).toNat) * (σ (T2 + 1) 1))), (6, .inl y6), (8, .inl x13)]) rfl ?_
        refine y_goto (tgt := 47) (show decode cX3_goBack 186 = .ok (.goto (-139), 3) by decide +kernel) rfl ?_
        refine y_pick [1, 2, 3, 4, 5, 0] rfl ?_
        exact hk10 _ _ h
      · rw [if_neg c16] at h
        refine y_icmp_ge_f (show decode cX3_goBack 60 = .ok (.if_icmp .ge 123, 3) by decide +kernel) c16 (by decide) ?_
        refine y_iload (show decode cX3_goBack 63 = .ok (.iload 7, 2) by decide +kernel) 5 rfl ?_
        refine y_iload (show decode cX3_goBack 65 = .ok (.iload 5, 2) by decide +kernel) 3 rfl ?_
        obtain ⟨c18, h⟩ := chkI_some h
        refine y_imul (show decode cX3_goBack 67 = .ok (.imul, 1) by decide +kernel) c18 ?_
        refine y_iload (show decode cX3_goBack 68 = .ok (.iload 8, 2) by decide +kernel) 6 rfl ?_
        obtain ⟨c19, h⟩ := chkI_some h
        refine y_iadd (show decode cX3_goBack 70 = .ok (.iadd, 1) by decide +kernel) c19 ?_
        refine y_istore (show decode cX3_goBack 71 = .ok (.istore 9, 2) by decide +kernel) rfl (L1 := [(9, .inl ((x12 * ((σ 79 (b).toNat) * (σ (T2 + 1) 1))) + x13)), (0, .inr (.inr (59 + 1))), (3, .inl (σ 79 (b).toNat)), (4, .inl (σ (T2 + 1) 1)), (5, .inl ((σ 79 (b).toNat) * (σ (T2 + 1) 1))), (6, .inl y6), (7, .inl x12), (8, .inl x13)]) rfl ?_
        refine y_iconst (show decode cX3_goBack 73 = .ok (.iconst 0, 1) by decide +kernel) rfl ?_
        refine y_istore (show decode cX3_goBack 74 = .ok (.istore 10, 2) by decide +kernel) rfl (L1 := [(10, .inl 0), (9, .inl ((x12 * ((σ 79 (b).toNat) * (σ (T2 + 1) 1))) + x13)), (0, .inr (.inr (59 + 1))), (3, .inl (σ 79 (b).toNat)), (4, .inl (σ (T2 + 1) 1)), (5, .inl ((σ 79 (b).toNat) * (σ (T2 + 1) 1))), (6, .inl y6), (7, .inl x12), (8, .inl x13)]) rfl ?_
        refine y_iconst (show decode cX3_goBack 76 = .ok (.iconst 0, 1) by decide +kernel) rfl ?_
        refine y_istore (show decode cX3_goBack 77 = .ok (.istore 11, 2) by decide +kernel) rfl (L1 := [(11, .inl 0), (10, .inl 0), (9, .inl ((x12 * ((σ 79 (b).toNat) * (σ (T2 + 1) 1))) + x13)), (0, .inr (.inr (59 + 1))), (3, .inl (σ 79 (b).toNat)), (4, .inl (σ (T2 + 1) 1)), (5, .inl ((σ 79 (b).toNat) * (σ (T2 + 1) 1))), (6, .inl y6), (7, .inl x12), (8, .inl x13)]) rfl ?_
        refine y_pick [3, 4, 5, 6, 7, 8, 9, 2, 1, 0] rfl ?_
        refine loopS4_ind (P := fun x20 x21 x22 x23 σ24 => Y E MX3_goBack (yRm 2 0 0) (yQf E (150 + 0) 0 0 none (ov τ)) 79 [(0, .inr (.inr (59 + 1))), (3, .inl (σ 79 (b).toNat)), (4, .inl (σ (T2 + 1) 1)), (5, .inl ((σ 79 (b).toNat) * (σ (T2 + 1) 1))), (6, .inl y6), (7, .inl x20), (8, .inl x21), (9, .inl ((x12 * ((σ 79 (b).toNat) * (σ (T2 + 1) 1))) + x13)), (10, .inl x22), (11, .inl x23)] [] (ov σ24) 150 0 0) (fun k25 hk25 x20 x21 x22 x23 σ24 h => ?_) _ _ _ _ _ _  h
        refine y_iload (show decode cX3_goBack 79 = .ok (.iload 11, 2) by decide +kernel) 9 rfl ?_
        refine y_iload (show decode cX3_goBack 81 = .ok (.iload 4, 2) by decide +kernel) 2 rfl ?_
        by_cases c26 : x23 ≥ (σ (T2 + 1) 1)
        · rw [if_pos c26] at h
          refine y_icmp_ge_t (tgt := 133) (show decode cX3_goBack 83 = .ok (.if_icmp .ge 50, 3) by decide +kernel) rfl c26 ?_
          refine y_iconst (show decode cX3_goBack 133 = .ok (.iconst 0, 1) by decide +kernel) rfl ?_
          refine y_istore (show decode cX3_goBack 134 = .ok (.istore 11, 2) by decide +kernel) rfl (L1 := [(11, .inl 0), (0, .inr (.inr (59 + 1))), (3, .inl (σ 79 (b).toNat)), (4, .inl (σ (T2 + 1) 1)), (5, .inl ((σ 79 (b).toNat) * (σ (T2 + 1) 1))), (6, .inl y6), (7, .inl x20), (8, .inl x21), (9, .inl ((x12 * ((σ 79 (b).toNat) * (σ (T2 + 1) 1))) + x13)), (10, .inl x22)]) rfl ?_
          refine y_pick [1, 2, 3, 4, 5, 6, 7, 8, 9, 0] rfl ?_
          refine loopS4_ind (P := fun x27 x28 x29 x30 σ31 => Y E MX3_goBack (yRm 2 0 0) (yQf E (150 + 0) 0 0 none (ov τ)) 136 [(0, .inr (.inr (59 + 1))), (3, .inl (σ 79 (b).toNat)), (4, .inl (σ (T2 + 1) 1)), (5, .inl ((σ 79 (b).toNat) * (σ (T2 + 1) 1))), (6, .inl y6), (7, .inl x27), (8, .inl x28), (9, .inl ((x12 * ((σ 79 (b).toNat) * (σ (T2 + 1) 1))) + x13)), (10, .inl x29), (11, .inl x30)] [] (ov σ31) 150 0 0) (fun k32 hk32 x27 x28 x29 x30 σ31 h => ?_) _ _ _ _ _ _  h
          refine y_iload (show decode cX3_goBack 136 = .ok (.iload 11, 2) by decide +kernel) 9 rfl ?_
          refine y_iload (show decode cX3_goBack 138 = .ok (.iload 4, 2) by decide +kernel) 2 rfl ?_
          refine bnd_j (Q := fun j33 => j33 = some τ → Y E MX3_goBack (yRm 2 0 0) (yQf E (150 + 0) 0 0 none (ov τ)) 177 [(0, .inr (.inr (59 + 1))), (3, .inl (σ 79 (b).toNat)), (4, .inl (σ (T2 + 1) 1)), (5, .inl ((σ 79 (b).toNat) * (σ (T2 + 1) 1))), (6, .inl y6), (7, .inl x27), (8, .inl x28)] [] (ov σ31) 150 0 0) (fun h => ?_) (fun j33 hj33 h => ?_) h
          · obtain ⟨c34, h⟩ := chkI_some h
            refine y_iinc (show decode cX3_goBack 177 = .ok (.iinc 8 1, 3) by decide +kernel) 6 rfl c34 rfl (L1 := [(8, .inl (x28 + 1)), (0, .inr (.inr (59 + 1))), (3, .inl (σ 79 (b).toNat)), (4, .inl (σ (T2 + 1) 1)), (5, .inl ((σ 79 (b).toNat) * (σ (T2 + 1) 1))), (6, .inl y6), (7, .inl x27)]) rfl ?_
            refine y_goto (tgt := 57) (show decode cX3_goBack 180 = .ok (.goto (-123), 3) by decide +kernel) rfl ?_
            refine y_pick [1, 2, 3, 4, 5, 6, 0] rfl ?_
            exact hk15 _ _ _ h
          by_cases c35 : x30 ≥ (σ (T2 + 1) 1)
          · rw [if_pos c35] at h
            refine y_icmp_ge_t (tgt := 177) (show decode cX3_goBack 140 = .ok (.if_icmp .ge 37, 3) by decide +kernel) rfl c35 ?_
            refine y_pick [0, 1, 2, 3, 4, 5, 6] rfl ?_
            exact hj33 h
          · rw [if_neg c35] at h
            refine y_icmp_ge_f (show decode cX3_goBack 140 = .ok (.if_icmp .ge 37, 3) by decide +kernel) c35 (by decide) ?_
            refine y_iload (show decode cX3_goBack 143 = .ok (.iload 10, 2) by decide +kernel) 8 rfl ?_
            by_cases c36 : x29 = 0
            · rw [if_pos c36] at h
              refine y_if_eq_t (tgt := 177) (show decode cX3_goBack 145 = .ok (.ifCond .eq 32, 3) by decide +kernel) rfl c36 ?_
              refine y_pick [0, 1, 2, 3, 4, 5, 6] rfl ?_
              exact hj33 h
            · rw [if_neg c36] at h
              refine y_if_eq_f (show decode cX3_goBack 145 = .ok (.ifCond .eq 32, 3) by decide +kernel) c36 (by decide) ?_
              refine y_aload_n (show decode cX3_goBack 148 = .ok (.aload_n 0, 1) by decide +kernel) 0 rfl ?_
              refine y_getf 59 3 0 9 (by decide) rfl (by decide) (by decide) q2_150 (show decode cX3_goBack 149 = .ok (.getfield 9, 3) by decide +kernel) (v := .inr (.inr (60 + 1))) rfl ?_
              refine y_iload (show decode cX3_goBack 152 = .ok (.iload 9, 2) by decide +kernel) 7 rfl ?_
              refine y_iload (show decode cX3_goBack 154 = .ok (.iload 11, 2) by decide +kernel) 9 rfl ?_
              refine y_iload_n (show decode cX3_goBack 156 = .ok (.iload_n 3, 1) by decide +kernel) 1 rfl ?_
              obtain ⟨c37, h⟩ := chkI_some h
              refine y_imul (show decode cX3_goBack 157 = .ok (.imul, 1) by decide +kernel) c37 ?_
              obtain ⟨c38, h⟩ := chkI_some h
              refine y_iadd (show decode cX3_goBack 158 = .ok (.iadd, 1) by decide +kernel) c38 ?_
              refine y_aload_n (show decode cX3_goBack 159 = .ok (.aload_n 0, 1) by decide +kernel) 0 rfl ?_
              refine y_iload (show decode cX3_goBack 160 = .ok (.iload 11, 2) by decide +kernel) 9 rfl ?_
              refine y_bipush (show decode cX3_goBack 162 = .ok (.bipush 6, 2) by decide +kernel) rfl rfl ?_
              obtain ⟨c39, h⟩ := chkI_some h
              refine y_imul (show decode cX3_goBack 164 = .ok (.imul, 1) by decide +kernel) c39 ?_
              refine y_iload (show decode cX3_goBack 165 = .ok (.iload 4, 2) by decide +kernel) 2 rfl ?_
              obtain ⟨r41, e40, h⟩ := bndO_some h
              refine y_callV (np := 2) (st := [.inl (((x12 * ((σ 79 (b).toNat) * (σ (T2 + 1) 1))) + x13) + (x30 * (σ 79 (b).toNat))), .inr (.inr (60 + 1))]) (as := [.inl (x30 * 6), .inl (σ (T2 + 1) 1)]) 59 3 (sh_cDs_bestOfLine e40) q5_66 q5_63 q5_65 qs3_9 q1_13 (by decide) rfl (by decide) rfl (by decide) (by decide +kernel) (by decide) rfl (Nat.le_of_ble_eq_true rfl) (show decode cX3_goBack 167 = .ok (.invokevirtual 115, 3) by decide +kernel) rfl ?_
              obtain ⟨c42, h⟩ := chkA_some h
              obtain ⟨σ43, e44, h⟩ := bnd_i h
              refine yo_iast 60 7776 (by decide) rfl c42 (ov_set1 e44 rfl) (show decode cX3_goBack 170 = .ok (.iastore, 1) by decide +kernel) ?_
              obtain ⟨c45, h⟩ := chkI_some h
              refine y_iinc (show decode cX3_goBack 171 = .ok (.iinc 11 1, 3) by decide +kernel) 9 rfl c45 rfl (L1 := [(11, .inl (x30 + 1)), (0, .inr (.inr (59 + 1))), (3, .inl (σ 79 (b).toNat)), (4, .inl (σ (T2 + 1) 1)), (5, .inl ((σ 79 (b).toNat) * (σ (T2 + 1) 1))), (6, .inl y6), (7, .inl x27), (8, .inl x28), (9, .inl ((x12 * ((σ 79 (b).toNat) * (σ (T2 + 1) 1))) + x13)), (10, .inl x29)]) rfl ?_
              refine y_goto (tgt := 136) (show decode cX3_goBack 174 = .ok (.goto (-38), 3) by decide +kernel) rfl ?_
              refine y_pick [1, 2, 3, 4, 5, 6, 7, 8, 9, 0] rfl ?_
              exact hk32 _ _ _ _ _ h
        · rw [if_neg c26] at h
          refine y_icmp_ge_f (show decode cX3_goBack 83 = .ok (.if_icmp .ge 50, 3) by decide +kernel) c26 (by decide) ?_
          refine y_aload_n (show decode cX3_goBack 86 = .ok (.aload_n 0, 1) by decide +kernel) 0 rfl ?_
          refine y_getf 59 3 3 21 (by decide) rfl (by decide) (by decide) q2_153 (show decode cX3_goBack 87 = .ok (.getfield 21, 3) by decide +kernel) (v := .inr (.inr (63 + 1))) rfl ?_
          refine y_iload (show decode cX3_goBack 90 = .ok (.iload 11, 2) by decide +kernel) 9 rfl ?_
          refine y_aload_n (show decode cX3_goBack 92 = .ok (.aload_n 0, 1) by decide +kernel) 0 rfl ?_
          refine y_getf 59 3 0 9 (by decide) rfl (by decide) (by decide) q2_150 (show decode cX3_goBack 93 = .ok (.getfield 9, 3) by decide +kernel) (v := .inr (.inr (60 + 1))) rfl ?_
          refine y_iload (show decode cX3_goBack 96 = .ok (.iload 9, 2) by decide +kernel) 7 rfl ?_
          refine y_iload (show decode cX3_goBack 98 = .ok (.iload 11, 2) by decide +kernel) 9 rfl ?_
          refine y_iload_n (show decode cX3_goBack 100 = .ok (.iload_n 3, 1) by decide +kernel) 1 rfl ?_
          obtain ⟨c46, h⟩ := chkI_some h
          refine y_imul (show decode cX3_goBack 101 = .ok (.imul, 1) by decide +kernel) c46 ?_
          obtain ⟨c47, h⟩ := chkI_some h
          refine y_iadd (show decode cX3_goBack 102 = .ok (.iadd, 1) by decide +kernel) c47 ?_
          obtain ⟨c48, h⟩ := chkA_some h
          refine yo_iald 60 7776 (by decide) rfl c48 (ov_at rfl) (show decode cX3_goBack 103 = .ok (.iaload, 1) by decide +kernel) ?_
          obtain ⟨c49, h⟩ := chkA_some h
          obtain ⟨σ50, e51, h⟩ := bnd_i h
          refine yo_iast 63 6 (by decide) rfl c49 (ov_set1 e51 rfl) (show decode cX3_goBack 104 = .ok (.iastore, 1) by decide +kernel) ?_
          refine y_iload (show decode cX3_goBack 105 = .ok (.iload 10, 2) by decide +kernel) 8 rfl ?_
          refine y_aload_n (show decode cX3_goBack 107 = .ok (.aload_n 0, 1) by decide +kernel) 0 rfl ?_
          refine y_getf 59 3 3 21 (by decide) rfl (by decide) (by decide) q2_153 (show decode cX3_goBack 108 = .ok (.getfield 21, 3) by decide +kernel) (v := .inr (.inr (63 + 1))) rfl ?_
          refine y_iload (show decode cX3_goBack 111 = .ok (.iload 11, 2) by decide +kernel) 9 rfl ?_
          obtain ⟨c52, h⟩ := chkA_some h
          refine yo_iald 63 6 (by decide) rfl c52 (ov_at rfl) (show decode cX3_goBack 113 = .ok (.iaload, 1) by decide +kernel) ?_
          refine y_ldc (k := -500000) (show decode cX3_goBack 114 = .ok (.ldc 64, 2) by decide +kernel) q5_62 rfl rfl ?_
          refine bnd_j (Q := fun j54 => ∀ (y53 : Int), j54 y53 = some τ → Y E MX3_goBack (yRm 2 0 0) (yQf E (150 + 0) 0 0 none (ov τ)) 124 [(0, .inr (.inr (59 + 1))), (3, .inl (σ 79 (b).toNat)), (4, .inl (σ (T2 + 1) 1)), (5, .inl ((σ 79 (b).toNat) * (σ (T2 + 1) 1))), (6, .inl y6), (7, .inl x20), (8, .inl x21), (9, .inl ((x12 * ((σ 79 (b).toNat) * (σ (T2 + 1) 1))) + x13)), (11, .inl x23)] [.inl y53, .inl x22] (ov σ50) 150 0 0) (fun y53 h => ?_) (fun j54 hj54 h => ?_) h
          · dsimp only at h
            refine y_ior (show decode cX3_goBack 124 = .ok (.ior, 1) by decide +kernel) ?_
            refine y_istore (show decode cX3_goBack 125 = .ok (.istore 10, 2) by decide +kernel) rfl (L1 := [(10, .inl (b32or x22 y53)), (0, .inr (.inr (59 + 1))), (3, .inl (σ 79 (b).toNat)), (4, .inl (σ (T2 + 1) 1)), (5, .inl ((σ 79 (b).toNat) * (σ (T2 + 1) 1))), (6, .inl y6), (7, .inl x20), (8, .inl x21), (9, .inl ((x12 * ((σ 79 (b).toNat) * (σ (T2 + 1) 1))) + x13)), (11, .inl x23)]) rfl ?_
            obtain ⟨c55, h⟩ := chkI_some h
            refine y_iinc (show decode cX3_goBack 127 = .ok (.iinc 11 1, 3) by decide +kernel) 9 rfl c55 rfl (L1 := [(11, .inl (x23 + 1)), (10, .inl (b32or x22 y53)), (0, .inr (.inr (59 + 1))), (3, .inl (σ 79 (b).toNat)), (4, .inl (σ (T2 + 1) 1)), (5, .inl ((σ 79 (b).toNat) * (σ (T2 + 1) 1))), (6, .inl y6), (7, .inl x20), (8, .inl x21), (9, .inl ((x12 * ((σ 79 (b).toNat) * (σ (T2 + 1) 1))) + x13))]) rfl ?_
            refine y_goto (tgt := 79) (show decode cX3_goBack 130 = .ok (.goto (-51), 3) by decide +kernel) rfl ?_
            refine y_pick [2, 3, 4, 5, 6, 7, 8, 9, 1, 0] rfl ?_
            exact hk25 _ _ _ _ _ h
          by_cases c56 : (σ50 63 (x23).toNat) ≤ (-500000)
          · rw [if_pos c56] at h
            refine y_icmp_le_t (tgt := 123) (show decode cX3_goBack 116 = .ok (.if_icmp .le 7, 3) by decide +kernel) rfl c56 ?_
            refine y_iconst (show decode cX3_goBack 123 = .ok (.iconst 0, 1) by decide +kernel) rfl ?_
            refine y_pick [0, 1, 2, 3, 4, 5, 6, 7, 9] rfl ?_
            exact hj54 _ h
          · rw [if_neg c56] at h
            refine y_icmp_le_f (show decode cX3_goBack 116 = .ok (.if_icmp .le 7, 3) by decide +kernel) c56 (by decide) ?_
            refine y_iconst (show decode cX3_goBack 119 = .ok (.iconst 1, 1) by decide +kernel) rfl ?_
            refine y_goto (tgt := 124) (show decode cX3_goBack 120 = .ok (.goto 4, 3) by decide +kernel) rfl ?_
            refine y_pick [0, 1, 2, 3, 4, 5, 6, 7, 9] rfl ?_
            exact hj54 _ h
  by_cases c57 : ((σ 79 (b).toNat) * (σ (T2 + 1) 1)) ≥ 1
  · rw [if_pos c57] at h
    refine y_icmp_ge_t (tgt := 35) (show decode cX3_goBack 28 = .ok (.if_icmp .ge 7, 3) by decide +kernel) rfl c57 ?_
    refine y_aload_n (show decode cX3_goBack 35 = .ok (.aload_n 1, 1) by decide +kernel) 4 rfl ?_
    refine y_getf 78 2 3 50 (by decide) rfl (by decide) (by decide) q2_183 (show decode cX3_goBack 36 = .ok (.getfield 50, 3) by decide +kernel) (v := .inl (σ 78 3)) rfl ?_
    refine y_iload (show decode cX3_goBack 39 = .ok (.iload 5, 2) by decide +kernel) 0 rfl ?_
    obtain ⟨c58, h⟩ := chk_some h
    obtain ⟨c59, h⟩ := chkI_some h
    refine y_idiv (show decode cX3_goBack 41 = .ok (.idiv, 1) by decide +kernel) c58 c59 ?_
    refine y_pick [3, 2, 1, 0] rfl ?_
    exact hj7 _ h
  · rw [if_neg c57] at h
    refine y_icmp_ge_f (show decode cX3_goBack 28 = .ok (.if_icmp .ge 7, 3) by decide +kernel) c57 (by decide) ?_
    refine y_iconst (show decode cX3_goBack 31 = .ok (.iconst 0, 1) by decide +kernel) rfl ?_
    refine y_goto (tgt := 42) (show decode cX3_goBack 32 = .ok (.goto 10, 3) by decide +kernel) rfl ?_
    refine y_pick [3, 2, 1, 0] rfl ?_
    exact hj7 _ h
