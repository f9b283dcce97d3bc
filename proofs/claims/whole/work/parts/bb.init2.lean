abbrev MX5_init : yM := (yX5_init, cX5_init, 2, none)
set_option maxHeartbeats 4000000 in
set_option maxRecDepth 10000 in
theorem in_Names_14 {E : yE} {S : ySt} (hz : Fr0 15 S) : Con E MX5_init 1 1 6 [.inr (.inr 15), .inl 6] 15 S none (yUp [(14, 0, 16)] S) := by
  refine Con.ofY (by decide +kernel) (by decide) (fun hok _ => ?_)
  show Y E MX5_init (yRm 1 1 6) (yQf E (15 + 1) 1 6 none (yUp [(14, 0, 16)] S)) 0 [(0, .inr (.inr 15)), (1, .inl 6)] [] (yUp [] S) 15 0 0
  refine y_aload_n (show decode cX5_init 0 = .ok (.aload_n 0, 1) by decide +kernel) 0 rfl ?_
  refine y_objI q1_143 q1_28 q1_29 ⟨by decide, by decide⟩ (by decide) (show decode cX5_init 1 = .ok (.invokespecial 3, 3) by decide +kernel) ?_
  refine y_aload_n (show decode cX5_init 4 = .ok (.aload_n 0, 1) by decide +kernel) 0 rfl ?_
  refine y_iload_n (show decode cX5_init 5 = .ok (.iload_n 1, 1) by decide +kernel) 1 rfl ?_
  refine y_newJ 6 rfl ((Fr0.yUp (l := []) (n := 15) (hz.up (by decide)) rfl) 15 (Nat.le_refl _)) q1_158 rfl (by decide) (show decode cX5_init 6 = .ok (.newarray .long, 2) by decide +kernel) ?_
  show Y E MX5_init (yRm 1 1 6) _ 8 [(0, .inr (.inr 15)), (1, .inl 6)] [.inr (.inr 16), .inr (.inr 15)] (yUp [] S) 16 1 6
  refine yi_putF 14 5 0 9 15 (z := 16) (by decide) rfl (by decide) (by decide) q1_144 rfl rfl rfl (show decode cX5_init 8 = .ok (.putfield 9, 3) by decide +kernel) rfl rfl (fun _ => ⟨rfl, rfl⟩) ?_
  exact y_vret (show decode cX5_init 11 = .ok (.return_, 1) by decide +kernel) rfl

set_option maxHeartbeats 4000000 in
set_option maxRecDepth 10000 in
theorem in_Names_16 {E : yE} {S : ySt} (hz : Fr0 17 S) : Con E MX5_init 1 1 5 [.inr (.inr 17), .inl 5] 17 S none (yUp [(16, 0, 18)] S) := by
  refine Con.ofY (by decide +kernel) (by decide) (fun hok _ => ?_)
  show Y E MX5_init (yRm 1 1 5) (yQf E (17 + 1) 1 5 none (yUp [(16, 0, 18)] S)) 0 [(0, .inr (.inr 17)), (1, .inl 5)] [] (yUp [] S) 17 0 0
  refine y_aload_n (show decode cX5_init 0 = .ok (.aload_n 0, 1) by decide +kernel) 0 rfl ?_
  refine y_objI q1_143 q1_28 q1_29 ⟨by decide, by decide⟩ (by decide) (show decode cX5_init 1 = .ok (.invokespecial 3, 3) by decide +kernel) ?_
  refine y_aload_n (show decode cX5_init 4 = .ok (.aload_n 0, 1) by decide +kernel) 0 rfl ?_
  refine y_iload_n (show decode cX5_init 5 = .ok (.iload_n 1, 1) by decide +kernel) 1 rfl ?_
  refine y_newJ 5 rfl ((Fr0.yUp (l := []) (n := 17) (hz.up (by decide)) rfl) 17 (Nat.le_refl _)) q1_158 rfl (by decide) (show decode cX5_init 6 = .ok (.newarray .long, 2) by decide +kernel) ?_
  show Y E MX5_init (yRm 1 1 5) _ 8 [(0, .inr (.inr 17)), (1, .inl 5)] [.inr (.inr 18), .inr (.inr 17)] (yUp [] S) 18 1 5
  refine yi_putF 16 5 0 9 17 (z := 18) (by decide) rfl (by decide) (by decide) q1_144 rfl rfl rfl (show decode cX5_init 8 = .ok (.putfield 9, 3) by decide +kernel) rfl rfl (fun _ => ⟨rfl, rfl⟩) ?_
  exact y_vret (show decode cX5_init 11 = .ok (.return_, 1) by decide +kernel) rfl

set_option maxHeartbeats 4000000 in
set_option maxRecDepth 10000 in
theorem in_Names_18 {E : yE} {S : ySt} (hz : Fr0 19 S) : Con E MX5_init 1 1 3 [.inr (.inr 19), .inl 3] 19 S none (yUp [(18, 0, 20)] S) := by
  refine Con.ofY (by decide +kernel) (by decide) (fun hok _ => ?_)
  show Y E MX5_init (yRm 1 1 3) (yQf E (19 + 1) 1 3 none (yUp [(18, 0, 20)] S)) 0 [(0, .inr (.inr 19)), (1, .inl 3)] [] (yUp [] S) 19 0 0
  refine y_aload_n (show decode cX5_init 0 = .ok (.aload_n 0, 1) by decide +kernel) 0 rfl ?_
  refine y_objI q1_143 q1_28 q1_29 ⟨by decide, by decide⟩ (by decide) (show decode cX5_init 1 = .ok (.invokespecial 3, 3) by decide +kernel) ?_
  refine y_aload_n (show decode cX5_init 4 = .ok (.aload_n 0, 1) by decide +kernel) 0 rfl ?_
  refine y_iload_n (show decode cX5_init 5 = .ok (.iload_n 1, 1) by decide +kernel) 1 rfl ?_
  refine y_newJ 3 rfl ((Fr0.yUp (l := []) (n := 19) (hz.up (by decide)) rfl) 19 (Nat.le_refl _)) q1_158 rfl (by decide) (show decode cX5_init 6 = .ok (.newarray .long, 2) by decide +kernel) ?_
  show Y E MX5_init (yRm 1 1 3) _ 8 [(0, .inr (.inr 19)), (1, .inl 3)] [.inr (.inr 20), .inr (.inr 19)] (yUp [] S) 20 1 3
  refine yi_putF 18 5 0 9 19 (z := 20) (by decide) rfl (by decide) (by decide) q1_144 rfl rfl rfl (show decode cX5_init 8 = .ok (.putfield 9, 3) by decide +kernel) rfl rfl (fun _ => ⟨rfl, rfl⟩) ?_
  exact y_vret (show decode cX5_init 11 = .ok (.return_, 1) by decide +kernel) rfl

abbrev MX7_init : yM := (yX7_init, cX7_init, 1, none)
set_option maxHeartbeats 4000000 in
set_option maxRecDepth 10000 in
theorem in_Rule_30 {E : yE} {S : ySt} (hz : Fr0 31 S) : Con E MX7_init 1 2 440 [.inr (.inr 31)] 31 S none (yUp [(30, 1, 33), (30, 0, 32)] S) := by
  refine Con.ofY (by decide +kernel) (by decide) (fun hok _ => ?_)
  show Y E MX7_init (yRm 1 2 440) (yQf E (31 + 2) 2 440 none (yUp [(30, 1, 33), (30, 0, 32)] S)) 0 [(0, .inr (.inr 31))] [] (yUp [] S) 31 0 0
  refine y_aload_n (show decode cX7_init 0 = .ok (.aload_n 0, 1) by decide +kernel) 0 rfl ?_
  refine y_objI q1_164 q1_28 q1_29 ⟨by decide, by decide⟩ (by decide) (show decode cX7_init 1 = .ok (.invokespecial 3, 3) by decide +kernel) ?_
  refine y_aload_n (show decode cX7_init 4 = .ok (.aload_n 0, 1) by decide +kernel) 0 rfl ?_
  refine y_sipush (show decode cX7_init 5 = .ok (.sipush 400, 3) by decide +kernel) rfl rfl ?_
  refine y_newI 400 rfl ((Fr0.yUp (l := []) (n := 31) (hz.up (by decide)) rfl) 31 (Nat.le_refl _)) q1_104 rfl (by decide) (show decode cX7_init 8 = .ok (.newarray .int, 2) by decide +kernel) ?_
  show Y E MX7_init (yRm 1 2 440) _ 10 [(0, .inr (.inr 31))] [.inr (.inr 32), .inr (.inr 31)] (yUp [] S) 32 1 400
  refine yi_putF 30 7 0 9 31 (z := 32) (by decide) rfl (by decide) (by decide) q1_165 rfl rfl rfl (show decode cX7_init 10 = .ok (.putfield 9, 3) by decide +kernel) rfl rfl (fun _ => ⟨rfl, rfl⟩) ?_
  refine y_aload_n (show decode cX7_init 13 = .ok (.aload_n 0, 1) by decide +kernel) 0 rfl ?_
  refine y_bipush (show decode cX7_init 14 = .ok (.bipush 40, 2) by decide +kernel) rfl rfl ?_
  refine y_newI 40 rfl ((Fr0.yUp (l := [(30, 0, 32)]) (n := 32) (hz.up (by decide)) rfl) 32 (Nat.le_refl _)) q1_104 rfl (by decide) (show decode cX7_init 16 = .ok (.newarray .int, 2) by decide +kernel) ?_
  show Y E MX7_init (yRm 1 2 440) _ 18 [(0, .inr (.inr 31))] [.inr (.inr 33), .inr (.inr 31)] (yUp [(30, 0, 32)] S) 33 2 440
  refine yi_putF 30 7 1 15 32 (z := 33) (by decide) rfl (by decide) (by decide) q1_166 rfl rfl rfl (show decode cX7_init 18 = .ok (.putfield 15, 3) by decide +kernel) rfl rfl (fun _ => ⟨rfl, rfl⟩) ?_
  exact y_vret (show decode cX7_init 21 = .ok (.return_, 1) by decide +kernel) rfl

abbrev MX9_init : yM := (yX9_init, cX9_init, 1, none)
set_option maxHeartbeats 4000000 in
set_option maxRecDepth 10000 in
theorem in_Town_13 {E : yE} {S : ySt} {τ : ySt} {N : Nat} (hc : cTw_clear N 13 (yUp [(13, 13, 31), (30, 1, 33), (30, 0, 32), (13, 12, 30), (13, 11, 29), (13, 10, 28), (13, 9, 27), (13, 8, 26), (13, 7, 25), (13, 6, 24), (13, 5, 23), (13, 4, 22), (13, 3, 21), (13, 2, 19), (18, 0, 20), (13, 1, 17), (16, 0, 18), (13, 0, 15), (14, 0, 16)] S) = some τ) (hz : Fr0 14 S) : Con E MX9_init 2 19 587 [.inr (.inr 14)] 14 S none (yUp [] (ovp 13 τ)) := by
  refine Con.ofY (by decide +kernel) (by decide) (fun hok _ => ?_)
  show Y E MX9_init (yRm 2 19 587) (yQf E (14 + 19) 19 587 none (yUp [] (ovp 13 τ))) 0 [(0, .inr (.inr 14))] [] (yUp [] S) 14 0 0
  refine y_aload_n (show decode cX9_init 0 = .ok (.aload_n 0, 1) by decide +kernel) 0 rfl ?_
  refine y_objI q1_137 q1_28 q1_29 ⟨by decide, by decide⟩ (by decide) (show decode cX9_init 1 = .ok (.invokespecial 3, 3) by decide +kernel) ?_
  refine y_aload_n (show decode cX9_init 4 = .ok (.aload_n 0, 1) by decide +kernel) 0 rfl ?_
  refine y_new 5 9 rfl (by decide) ((Fr0.yUp (l := []) (n := 14) (hz.up (by decide)) rfl) 14 (Nat.le_refl _)) q1_138 q1_139 q1_6 (by decide) (show decode cX9_init 5 = .ok (.new 9, 3) by decide +kernel) ?_
  show Y E MX9_init (yRm 2 19 587) _ 8 [(0, .inr (.inr 14))] [.inr (.inr 15), .inr (.inr 14)] (yUp [] S) 15 1 2
  refine y_dup (show decode cX9_init 8 = .ok (.dup, 1) by decide +kernel) rfl ?_
  refine y_bipush (show decode cX9_init 9 = .ok (.bipush 6, 2) by decide +kernel) rfl rfl ?_
  refine y_callI (np := 1) (st := [.inr (.inr 15), .inr (.inr 14)]) (as := [.inl 6]) 14 (in_Names_14 (Fr0.yUp (l := []) (n := 15) (hz.up (by decide)) rfl)) q1_142 rfl rfl q1_140 q1_141 q1_6 (by decide) (by decide +kernel) (by decide) rfl (by decide) (show decode cX9_init 11 = .ok (.invokespecial 11, 3) by decide +kernel) rfl ?_
  show Y E MX9_init (yRm 2 19 587) _ 14 [(0, .inr (.inr 14))] [.inr (.inr 15), .inr (.inr 14)] (yUp [(14, 0, 16)] S) 16 2 8
  refine yi_putF 13 9 0 14 14 (z := 15) (by decide) rfl (by decide) (by decide) q1_192 rfl rfl rfl (show decode cX9_init 14 = .ok (.putfield 14, 3) by decide +kernel) rfl rfl (fun _ => ⟨rfl, rfl⟩) ?_
  refine y_aload_n (show decode cX9_init 17 = .ok (.aload_n 0, 1) by decide +kernel) 0 rfl ?_
  refine y_new 5 9 rfl (by decide) ((Fr0.yUp (l := [(13, 0, 15), (14, 0, 16)]) (n := 16) (hz.up (by decide)) rfl) 16 (Nat.le_refl _)) q1_138 q1_139 q1_6 (by decide) (show decode cX9_init 18 = .ok (.new 9, 3) by decide +kernel) ?_
  show Y E MX9_init (yRm 2 19 587) _ 21 [(0, .inr (.inr 14))] [.inr (.inr 17), .inr (.inr 14)] (yUp [(13, 0, 15), (14, 0, 16)] S) 17 3 10
  refine y_dup (show decode cX9_init 21 = .ok (.dup, 1) by decide +kernel) rfl ?_
  refine y_iconst (show decode cX9_init 22 = .ok (.iconst 5, 1) by decide +kernel) rfl ?_
  refine y_callI (np := 1) (st := [.inr (.inr 17), .inr (.inr 14)]) (as := [.inl 5]) 16 (in_Names_16 (Fr0.yUp (l := [(13, 0, 15), (14, 0, 16)]) (n := 17) (hz.up (by decide)) rfl)) q1_142 rfl rfl q1_140 q1_141 q1_6 (by decide) (by decide +kernel) (by decide) rfl (by decide) (show decode cX9_init 23 = .ok (.invokespecial 11, 3) by decide +kernel) rfl ?_
  show Y E MX9_init (yRm 2 19 587) _ 26 [(0, .inr (.inr 14))] [.inr (.inr 17), .inr (.inr 14)] (yUp [(16, 0, 18), (13, 0, 15), (14, 0, 16)] S) 18 4 15
  refine yi_putF 13 9 1 20 16 (z := 17) (by decide) rfl (by decide) (by decide) q1_200 rfl rfl rfl (show decode cX9_init 26 = .ok (.putfield 20, 3) by decide +kernel) rfl rfl (fun _ => ⟨rfl, rfl⟩) ?_
  refine y_aload_n (show decode cX9_init 29 = .ok (.aload_n 0, 1) by decide +kernel) 0 rfl ?_
  refine y_new 5 9 rfl (by decide) ((Fr0.yUp (l := [(13, 1, 17), (16, 0, 18), (13, 0, 15), (14, 0, 16)]) (n := 18) (hz.up (by decide)) rfl) 18 (Nat.le_refl _)) q1_138 q1_139 q1_6 (by decide) (show decode cX9_init 30 = .ok (.new 9, 3) by decide +kernel) ?_
  show Y E MX9_init (yRm 2 19 587) _ 33 [(0, .inr (.inr 14))] [.inr (.inr 19), .inr (.inr 14)] (yUp [(13, 1, 17), (16, 0, 18), (13, 0, 15), (14, 0, 16)] S) 19 5 17
  refine y_dup (show decode cX9_init 33 = .ok (.dup, 1) by decide +kernel) rfl ?_
  refine y_iconst (show decode cX9_init 34 = .ok (.iconst 3, 1) by decide +kernel) rfl ?_
  refine y_callI (np := 1) (st := [.inr (.inr 19), .inr (.inr 14)]) (as := [.inl 3]) 18 (in_Names_18 (Fr0.yUp (l := [(13, 1, 17), (16, 0, 18), (13, 0, 15), (14, 0, 16)]) (n := 19) (hz.up (by decide)) rfl)) q1_142 rfl rfl q1_140 q1_141 q1_6 (by decide) (by decide +kernel) (by decide) rfl (by decide) (show decode cX9_init 35 = .ok (.invokespecial 11, 3) by decide +kernel) rfl ?_
  show Y E MX9_init (yRm 2 19 587) _ 38 [(0, .inr (.inr 14))] [.inr (.inr 19), .inr (.inr 14)] (yUp [(18, 0, 20), (13, 1, 17), (16, 0, 18), (13, 0, 15), (14, 0, 16)] S) 20 6 20
  refine yi_putF 13 9 2 23 18 (z := 19) (by decide) rfl (by decide) (by decide) q1_206 rfl rfl rfl (show decode cX9_init 38 = .ok (.putfield 23, 3) by decide +kernel) rfl rfl (fun _ => ⟨rfl, rfl⟩) ?_
  refine y_aload_n (show decode cX9_init 41 = .ok (.aload_n 0, 1) by decide +kernel) 0 rfl ?_
  refine y_bipush (show decode cX9_init 42 = .ok (.bipush 6, 2) by decide +kernel) rfl rfl ?_
  refine y_newZ 6 rfl ((Fr0.yUp (l := [(13, 2, 19), (18, 0, 20), (13, 1, 17), (16, 0, 18), (13, 0, 15), (14, 0, 16)]) (n := 20) (hz.up (by decide)) rfl) 20 (Nat.le_refl _)) q1_179 rfl (by decide) (show decode cX9_init 44 = .ok (.newarray .boolean, 2) by decide +kernel) ?_
  show Y E MX9_init (yRm 2 19 587) _ 46 [(0, .inr (.inr 14))] [.inr (.inr 21), .inr (.inr 14)] (yUp [(13, 2, 19), (18, 0, 20), (13, 1, 17), (16, 0, 18), (13, 0, 15), (14, 0, 16)] S) 21 7 26
  refine yi_putF 13 9 3 26 20 (z := 21) (by decide) rfl (by decide) (by decide) q1_209 rfl rfl rfl (show decode cX9_init 46 = .ok (.putfield 26, 3) by decide +kernel) rfl rfl (fun _ => ⟨rfl, rfl⟩) ?_
  refine y_aload_n (show decode cX9_init 49 = .ok (.aload_n 0, 1) by decide +kernel) 0 rfl ?_
  refine y_iconst (show decode cX9_init 50 = .ok (.iconst 5, 1) by decide +kernel) rfl ?_
  refine y_newI 5 rfl ((Fr0.yUp (l := [(13, 3, 21), (13, 2, 19), (18, 0, 20), (13, 1, 17), (16, 0, 18), (13, 0, 15), (14, 0, 16)]) (n := 21) (hz.up (by decide)) rfl) 21 (Nat.le_refl _)) q1_104 rfl (by decide) (show decode cX9_init 51 = .ok (.newarray .int, 2) by decide +kernel) ?_
  show Y E MX9_init (yRm 2 19 587) _ 53 [(0, .inr (.inr 14))] [.inr (.inr 22), .inr (.inr 14)] (yUp [(13, 3, 21), (13, 2, 19), (18, 0, 20), (13, 1, 17), (16, 0, 18), (13, 0, 15), (14, 0, 16)] S) 22 8 31
  refine yi_putF 13 9 4 30 21 (z := 22) (by decide) rfl (by decide) (by decide) q1_211 rfl rfl rfl (show decode cX9_init 53 = .ok (.putfield 30, 3) by decide +kernel) rfl rfl (fun _ => ⟨rfl, rfl⟩) ?_
  refine y_aload_n (show decode cX9_init 56 = .ok (.aload_n 0, 1) by decide +kernel) 0 rfl ?_
  refine y_iconst (show decode cX9_init 57 = .ok (.iconst 5, 1) by decide +kernel) rfl ?_
  refine y_newI 5 rfl ((Fr0.yUp (l := [(13, 4, 22), (13, 3, 21), (13, 2, 19), (18, 0, 20), (13, 1, 17), (16, 0, 18), (13, 0, 15), (14, 0, 16)]) (n := 22) (hz.up (by decide)) rfl) 22 (Nat.le_refl _)) q1_104 rfl (by decide) (show decode cX9_init 58 = .ok (.newarray .int, 2) by decide +kernel) ?_
  show Y E MX9_init (yRm 2 19 587) _ 60 [(0, .inr (.inr 14))] [.inr (.inr 23), .inr (.inr 14)] (yUp [(13, 4, 22), (13, 3, 21), (13, 2, 19), (18, 0, 20), (13, 1, 17), (16, 0, 18), (13, 0, 15), (14, 0, 16)] S) 23 9 36
  refine yi_putF 13 9 5 34 22 (z := 23) (by decide) rfl (by decide) (by decide) q1_217 rfl rfl rfl (show decode cX9_init 60 = .ok (.putfield 34, 3) by decide +kernel) rfl rfl (fun _ => ⟨rfl, rfl⟩) ?_
  refine y_aload_n (show decode cX9_init 63 = .ok (.aload_n 0, 1) by decide +kernel) 0 rfl ?_
  refine y_iconst (show decode cX9_init 64 = .ok (.iconst 3, 1) by decide +kernel) rfl ?_
  refine y_newI 3 rfl ((Fr0.yUp (l := [(13, 5, 23), (13, 4, 22), (13, 3, 21), (13, 2, 19), (18, 0, 20), (13, 1, 17), (16, 0, 18), (13, 0, 15), (14, 0, 16)]) (n := 23) (hz.up (by decide)) rfl) 23 (Nat.le_refl _)) q1_104 rfl (by decide) (show decode cX9_init 65 = .ok (.newarray .int, 2) by decide +kernel) ?_
  show Y E MX9_init (yRm 2 19 587) _ 67 [(0, .inr (.inr 14))] [.inr (.inr 24), .inr (.inr 14)] (yUp [(13, 5, 23), (13, 4, 22), (13, 3, 21), (13, 2, 19), (18, 0, 20), (13, 1, 17), (16, 0, 18), (13, 0, 15), (14, 0, 16)] S) 24 10 39
  refine yi_putF 13 9 6 37 23 (z := 24) (by decide) rfl (by decide) (by decide) q1_220 rfl rfl rfl (show decode cX9_init 67 = .ok (.putfield 37, 3) by decide +kernel) rfl rfl (fun _ => ⟨rfl, rfl⟩) ?_
  refine y_aload_n (show decode cX9_init 70 = .ok (.aload_n 0, 1) by decide +kernel) 0 rfl ?_
  refine y_bipush (show decode cX9_init 71 = .ok (.bipush 8, 2) by decide +kernel) rfl rfl ?_
  refine y_newI 8 rfl ((Fr0.yUp (l := [(13, 6, 24), (13, 5, 23), (13, 4, 22), (13, 3, 21), (13, 2, 19), (18, 0, 20), (13, 1, 17), (16, 0, 18), (13, 0, 15), (14, 0, 16)]) (n := 24) (hz.up (by decide)) rfl) 24 (Nat.le_refl _)) q1_104 rfl (by decide) (show decode cX9_init 73 = .ok (.newarray .int, 2) by decide +kernel) ?_
  show Y E MX9_init (yRm 2 19 587) _ 75 [(0, .inr (.inr 14))] [.inr (.inr 25), .inr (.inr 14)] (yUp [(13, 6, 24), (13, 5, 23), (13, 4, 22), (13, 3, 21), (13, 2, 19), (18, 0, 20), (13, 1, 17), (16, 0, 18), (13, 0, 15), (14, 0, 16)] S) 25 11 47
  refine yi_putF 13 9 7 40 24 (z := 25) (by decide) rfl (by decide) (by decide) q1_222 rfl rfl rfl (show decode cX9_init 75 = .ok (.putfield 40, 3) by decide +kernel) rfl rfl (fun _ => ⟨rfl, rfl⟩) ?_
  refine y_aload_n (show decode cX9_init 78 = .ok (.aload_n 0, 1) by decide +kernel) 0 rfl ?_
  refine y_bipush (show decode cX9_init 79 = .ok (.bipush 8, 2) by decide +kernel) rfl rfl ?_
  refine y_newI 8 rfl ((Fr0.yUp (l := [(13, 7, 25), (13, 6, 24), (13, 5, 23), (13, 4, 22), (13, 3, 21), (13, 2, 19), (18, 0, 20), (13, 1, 17), (16, 0, 18), (13, 0, 15), (14, 0, 16)]) (n := 25) (hz.up (by decide)) rfl) 25 (Nat.le_refl _)) q1_104 rfl (by decide) (show decode cX9_init 81 = .ok (.newarray .int, 2) by decide +kernel) ?_
  show Y E MX9_init (yRm 2 19 587) _ 83 [(0, .inr (.inr 14))] [.inr (.inr 26), .inr (.inr 14)] (yUp [(13, 7, 25), (13, 6, 24), (13, 5, 23), (13, 4, 22), (13, 3, 21), (13, 2, 19), (18, 0, 20), (13, 1, 17), (16, 0, 18), (13, 0, 15), (14, 0, 16)] S) 26 12 55
  refine yi_putF 13 9 8 43 25 (z := 26) (by decide) rfl (by decide) (by decide) q1_226 rfl rfl rfl (show decode cX9_init 83 = .ok (.putfield 43, 3) by decide +kernel) rfl rfl (fun _ => ⟨rfl, rfl⟩) ?_
  refine y_aload_n (show decode cX9_init 86 = .ok (.aload_n 0, 1) by decide +kernel) 0 rfl ?_
  refine y_bipush (show decode cX9_init 87 = .ok (.bipush 8, 2) by decide +kernel) rfl rfl ?_
  refine y_newI 8 rfl ((Fr0.yUp (l := [(13, 8, 26), (13, 7, 25), (13, 6, 24), (13, 5, 23), (13, 4, 22), (13, 3, 21), (13, 2, 19), (18, 0, 20), (13, 1, 17), (16, 0, 18), (13, 0, 15), (14, 0, 16)]) (n := 26) (hz.up (by decide)) rfl) 26 (Nat.le_refl _)) q1_104 rfl (by decide) (show decode cX9_init 89 = .ok (.newarray .int, 2) by decide +kernel) ?_
  show Y E MX9_init (yRm 2 19 587) _ 91 [(0, .inr (.inr 14))] [.inr (.inr 27), .inr (.inr 14)] (yUp [(13, 8, 26), (13, 7, 25), (13, 6, 24), (13, 5, 23), (13, 4, 22), (13, 3, 21), (13, 2, 19), (18, 0, 20), (13, 1, 17), (16, 0, 18), (13, 0, 15), (14, 0, 16)] S) 27 13 63
  refine yi_putF 13 9 9 46 26 (z := 27) (by decide) rfl (by decide) (by decide) q1_230 rfl rfl rfl (show decode cX9_init 91 = .ok (.putfield 46, 3) by decide +kernel) rfl rfl (fun _ => ⟨rfl, rfl⟩) ?_
  refine y_aload_n (show decode cX9_init 94 = .ok (.aload_n 0, 1) by decide +kernel) 0 rfl ?_
  refine y_bipush (show decode cX9_init 95 = .ok (.bipush 8, 2) by decide +kernel) rfl rfl ?_
  refine y_newI 8 rfl ((Fr0.yUp (l := [(13, 9, 27), (13, 8, 26), (13, 7, 25), (13, 6, 24), (13, 5, 23), (13, 4, 22), (13, 3, 21), (13, 2, 19), (18, 0, 20), (13, 1, 17), (16, 0, 18), (13, 0, 15), (14, 0, 16)]) (n := 27) (hz.up (by decide)) rfl) 27 (Nat.le_refl _)) q1_104 rfl (by decide) (show decode cX9_init 97 = .ok (.newarray .int, 2) by decide +kernel) ?_
  show Y E MX9_init (yRm 2 19 587) _ 99 [(0, .inr (.inr 14))] [.inr (.inr 28), .inr (.inr 14)] (yUp [(13, 9, 27), (13, 8, 26), (13, 7, 25), (13, 6, 24), (13, 5, 23), (13, 4, 22), (13, 3, 21), (13, 2, 19), (18, 0, 20), (13, 1, 17), (16, 0, 18), (13, 0, 15), (14, 0, 16)] S) 28 14 71
  refine yi_putF 13 9 10 49 27 (z := 28) (by decide) rfl (by decide) (by decide) q1_234 rfl rfl rfl (show decode cX9_init 99 = .ok (.putfield 49, 3) by decide +kernel) rfl rfl (fun _ => ⟨rfl, rfl⟩) ?_
  refine y_aload_n (show decode cX9_init 102 = .ok (.aload_n 0, 1) by decide +kernel) 0 rfl ?_
  refine y_bipush (show decode cX9_init 103 = .ok (.bipush 36, 2) by decide +kernel) rfl rfl ?_
  refine y_newI 36 rfl ((Fr0.yUp (l := [(13, 10, 28), (13, 9, 27), (13, 8, 26), (13, 7, 25), (13, 6, 24), (13, 5, 23), (13, 4, 22), (13, 3, 21), (13, 2, 19), (18, 0, 20), (13, 1, 17), (16, 0, 18), (13, 0, 15), (14, 0, 16)]) (n := 28) (hz.up (by decide)) rfl) 28 (Nat.le_refl _)) q1_104 rfl (by decide) (show decode cX9_init 105 = .ok (.newarray .int, 2) by decide +kernel) ?_
  show Y E MX9_init (yRm 2 19 587) _ 107 [(0, .inr (.inr 14))] [.inr (.inr 29), .inr (.inr 14)] (yUp [(13, 10, 28), (13, 9, 27), (13, 8, 26), (13, 7, 25), (13, 6, 24), (13, 5, 23), (13, 4, 22), (13, 3, 21), (13, 2, 19), (18, 0, 20), (13, 1, 17), (16, 0, 18), (13, 0, 15), (14, 0, 16)] S) 29 15 107
  refine yi_putF 13 9 11 52 28 (z := 29) (by decide) rfl (by decide) (by decide) q1_237 rfl rfl rfl (show decode cX9_init 107 = .ok (.putfield 52, 3) by decide +kernel) rfl rfl (fun _ => ⟨rfl, rfl⟩) ?_
  refine y_aload_n (show decode cX9_init 110 = .ok (.aload_n 0, 1) by decide +kernel) 0 rfl ?_
  refine y_bipush (show decode cX9_init 111 = .ok (.bipush 36, 2) by decide +kernel) rfl rfl ?_
  refine y_newI 36 rfl ((Fr0.yUp (l := [(13, 11, 29), (13, 10, 28), (13, 9, 27), (13, 8, 26), (13, 7, 25), (13, 6, 24), (13, 5, 23), (13, 4, 22), (13, 3, 21), (13, 2, 19), (18, 0, 20), (13, 1, 17), (16, 0, 18), (13, 0, 15), (14, 0, 16)]) (n := 29) (hz.up (by decide)) rfl) 29 (Nat.le_refl _)) q1_104 rfl (by decide) (show decode cX9_init 113 = .ok (.newarray .int, 2) by decide +kernel) ?_
  show Y E MX9_init (yRm 2 19 587) _ 115 [(0, .inr (.inr 14))] [.inr (.inr 30), .inr (.inr 14)] (yUp [(13, 11, 29), (13, 10, 28), (13, 9, 27), (13, 8, 26), (13, 7, 25), (13, 6, 24), (13, 5, 23), (13, 4, 22), (13, 3, 21), (13, 2, 19), (18, 0, 20), (13, 1, 17), (16, 0, 18), (13, 0, 15), (14, 0, 16)] S) 30 16 143
  refine yi_putF 13 9 12 55 29 (z := 30) (by decide) rfl (by decide) (by decide) q2_2 rfl rfl rfl (show decode cX9_init 115 = .ok (.putfield 55, 3) by decide +kernel) rfl rfl (fun _ => ⟨rfl, rfl⟩) ?_
  refine y_aload_n (show decode cX9_init 118 = .ok (.aload_n 0, 1) by decide +kernel) 0 rfl ?_
  refine y_new 7 58 rfl (by decide) ((Fr0.yUp (l := [(13, 12, 30), (13, 11, 29), (13, 10, 28), (13, 9, 27), (13, 8, 26), (13, 7, 25), (13, 6, 24), (13, 5, 23), (13, 4, 22), (13, 3, 21), (13, 2, 19), (18, 0, 20), (13, 1, 17), (16, 0, 18), (13, 0, 15), (14, 0, 16)]) (n := 30) (hz.up (by decide)) rfl) 30 (Nat.le_refl _)) q1_159 q1_160 q1_7 (by decide) (show decode cX9_init 119 = .ok (.new 58, 3) by decide +kernel) ?_
  show Y E MX9_init (yRm 2 19 587) _ 122 [(0, .inr (.inr 14))] [.inr (.inr 31), .inr (.inr 14)] (yUp [(13, 12, 30), (13, 11, 29), (13, 10, 28), (13, 9, 27), (13, 8, 26), (13, 7, 25), (13, 6, 24), (13, 5, 23), (13, 4, 22), (13, 3, 21), (13, 2, 19), (18, 0, 20), (13, 1, 17), (16, 0, 18), (13, 0, 15), (14, 0, 16)] S) 31 17 147
  refine y_dup (show decode cX9_init 122 = .ok (.dup, 1) by decide +kernel) rfl ?_
  refine y_callIN (np := 0) (st := [.inr (.inr 31), .inr (.inr 14)]) (as := []) 30 (in_Rule_30 (Fr0.yUp (l := [(13, 12, 30), (13, 11, 29), (13, 10, 28), (13, 9, 27), (13, 8, 26), (13, 7, 25), (13, 6, 24), (13, 5, 23), (13, 4, 22), (13, 3, 21), (13, 2, 19), (18, 0, 20), (13, 1, 17), (16, 0, 18), (13, 0, 15), (14, 0, 16)]) (n := 31) (hz.up (by decide)) rfl)) q1_163 rfl rfl (List.mem_of_getElem? (i := 3) rfl) q1_162 q1_7 (by decide) (by decide +kernel) (by decide) rfl (by decide) (show decode cX9_init 123 = .ok (.invokespecial 60, 3) by decide +kernel) rfl ?_
  show Y E MX9_init (yRm 2 19 587) _ 126 [(0, .inr (.inr 14))] [.inr (.inr 31), .inr (.inr 14)] (yUp [(30, 1, 33), (30, 0, 32), (13, 12, 30), (13, 11, 29), (13, 10, 28), (13, 9, 27), (13, 8, 26), (13, 7, 25), (13, 6, 24), (13, 5, 23), (13, 4, 22), (13, 3, 21), (13, 2, 19), (18, 0, 20), (13, 1, 17), (16, 0, 18), (13, 0, 15), (14, 0, 16)] S) 33 19 587
  refine yi_putF 13 9 13 61 30 (z := 31) (by decide) rfl (by decide) (by decide) q2_4 rfl rfl rfl (show decode cX9_init 126 = .ok (.putfield 61, 3) by decide +kernel) rfl rfl (fun _ => ⟨rfl, rfl⟩) ?_
  refine y_aload_n (show decode cX9_init 129 = .ok (.aload_n 0, 1) by decide +kernel) 0 rfl ?_
  have hcl : Con E MX9_clear 1 0 0 [.inr (.inr 14)] 33 (yUp [(13, 13, 31), (30, 1, 33), (30, 0, 32), (13, 12, 30), (13, 11, 29), (13, 10, 28), (13, 9, 27), (13, 8, 26), (13, 7, 25), (13, 6, 24), (13, 5, 23), (13, 4, 22), (13, 3, 21), (13, 2, 19), (18, 0, 20), (13, 1, 17), (16, 0, 18), (13, 0, 15), (14, 0, 16)] S) none (ovp 13 τ) := by
    have h9 := sq_cTw_clear (E := E) (n := 33) (T := 13) (by decide) (by decide) hc
    rwa [ovp_self (σ := (yUp [(13, 13, 31), (30, 1, 33), (30, 0, 32), (13, 12, 30), (13, 11, 29), (13, 10, 28), (13, 9, 27), (13, 8, 26), (13, 7, 25), (13, 6, 24), (13, 5, 23), (13, 4, 22), (13, 3, 21), (13, 2, 19), (18, 0, 20), (13, 1, 17), (16, 0, 18), (13, 0, 15), (14, 0, 16)] S)) (T := 13) (yUp_tw (l := [(13, 13, 31), (30, 1, 33), (30, 0, 32), (13, 12, 30), (13, 11, 29), (13, 10, 28), (13, 9, 27), (13, 8, 26), (13, 7, 25), (13, 6, 24), (13, 5, 23), (13, 4, 22), (13, 3, 21), (13, 2, 19), (18, 0, 20), (13, 1, 17), (16, 0, 18), (13, 0, 15), (14, 0, 16)]) (by decide +kernel))] at h9
  refine y_callV (np := 0) (st := []) (as := []) 13 9 hcl q1_183 q1_180 q1_181 q1_182 q1_5 (by decide) rfl (by decide) rfl (by decide) (by decide +kernel) (by decide) rfl (by decide) (show decode cX9_init 130 = .ok (.invokevirtual 65, 3) by decide +kernel) rfl ?_
  show Y E MX9_init (yRm 2 19 587) _ 133 [(0, .inr (.inr 14))] [] (yUp [] (ovp 13 τ)) 33 19 587
  exact y_vret (show decode cX9_init 133 = .ok (.return_, 1) by decide +kernel) rfl

set_option maxHeartbeats 4000000 in
set_option maxRecDepth 10000 in
theorem in_Names_34 {E : yE} {S : ySt} (hz : Fr0 35 S) : Con E MX5_init 1 1 6 [.inr (.inr 35), .inl 6] 35 S none (yUp [(34, 0, 36)] S) := by
  refine Con.ofY (by decide +kernel) (by decide) (fun hok _ => ?_)
  show Y E MX5_init (yRm 1 1 6) (yQf E (35 + 1) 1 6 none (yUp [(34, 0, 36)] S)) 0 [(0, .inr (.inr 35)), (1, .inl 6)] [] (yUp [] S) 35 0 0
  refine y_aload_n (show decode cX5_init 0 = .ok (.aload_n 0, 1) by decide +kernel) 0 rfl ?_
  refine y_objI q1_143 q1_28 q1_29 ⟨by decide, by decide⟩ (by decide) (show decode cX5_init 1 = .ok (.invokespecial 3, 3) by decide +kernel) ?_
  refine y_aload_n (show decode cX5_init 4 = .ok (.aload_n 0, 1) by decide +kernel) 0 rfl ?_
  refine y_iload_n (show decode cX5_init 5 = .ok (.iload_n 1, 1) by decide +kernel) 1 rfl ?_
  refine y_newJ 6 rfl ((Fr0.yUp (l := []) (n := 35) (hz.up (by decide)) rfl) 35 (Nat.le_refl _)) q1_158 rfl (by decide) (show decode cX5_init 6 = .ok (.newarray .long, 2) by decide +kernel) ?_
  show Y E MX5_init (yRm 1 1 6) _ 8 [(0, .inr (.inr 35)), (1, .inl 6)] [.inr (.inr 36), .inr (.inr 35)] (yUp [] S) 36 1 6
  refine yi_putF 34 5 0 9 35 (z := 36) (by decide) rfl (by decide) (by decide) q1_144 rfl rfl rfl (show decode cX5_init 8 = .ok (.putfield 9, 3) by decide +kernel) rfl rfl (fun _ => ⟨rfl, rfl⟩) ?_
  exact y_vret (show decode cX5_init 11 = .ok (.return_, 1) by decide +kernel) rfl

set_option maxHeartbeats 4000000 in
set_option maxRecDepth 10000 in
theorem in_Names_36 {E : yE} {S : ySt} (hz : Fr0 37 S) : Con E MX5_init 1 1 5 [.inr (.inr 37), .inl 5] 37 S none (yUp [(36, 0, 38)] S) := by
  refine Con.ofY (by decide +kernel) (by decide) (fun hok _ => ?_)
  show Y E MX5_init (yRm 1 1 5) (yQf E (37 + 1) 1 5 none (yUp [(36, 0, 38)] S)) 0 [(0, .inr (.inr 37)), (1, .inl 5)] [] (yUp [] S) 37 0 0
  refine y_aload_n (show decode cX5_init 0 = .ok (.aload_n 0, 1) by decide +kernel) 0 rfl ?_
  refine y_objI q1_143 q1_28 q1_29 ⟨by decide, by decide⟩ (by decide) (show decode cX5_init 1 = .ok (.invokespecial 3, 3) by decide +kernel) ?_
  refine y_aload_n (show decode cX5_init 4 = .ok (.aload_n 0, 1) by decide +kernel) 0 rfl ?_
  refine y_iload_n (show decode cX5_init 5 = .ok (.iload_n 1, 1) by decide +kernel) 1 rfl ?_
  refine y_newJ 5 rfl ((Fr0.yUp (l := []) (n := 37) (hz.up (by decide)) rfl) 37 (Nat.le_refl _)) q1_158 rfl (by decide) (show decode cX5_init 6 = .ok (.newarray .long, 2) by decide +kernel) ?_
  show Y E MX5_init (yRm 1 1 5) _ 8 [(0, .inr (.inr 37)), (1, .inl 5)] [.inr (.inr 38), .inr (.inr 37)] (yUp [] S) 38 1 5
  refine yi_putF 36 5 0 9 37 (z := 38) (by decide) rfl (by decide) (by decide) q1_144 rfl rfl rfl (show decode cX5_init 8 = .ok (.putfield 9, 3) by decide +kernel) rfl rfl (fun _ => ⟨rfl, rfl⟩) ?_
  exact y_vret (show decode cX5_init 11 = .ok (.return_, 1) by decide +kernel) rfl

set_option maxHeartbeats 4000000 in
set_option maxRecDepth 10000 in
theorem in_Names_38 {E : yE} {S : ySt} (hz : Fr0 39 S) : Con E MX5_init 1 1 3 [.inr (.inr 39), .inl 3] 39 S none (yUp [(38, 0, 40)] S) := by
  refine Con.ofY (by decide +kernel) (by decide) (fun hok _ => ?_)
  show Y E MX5_init (yRm 1 1 3) (yQf E (39 + 1) 1 3 none (yUp [(38, 0, 40)] S)) 0 [(0, .inr (.inr 39)), (1, .inl 3)] [] (yUp [] S) 39 0 0
  refine y_aload_n (show decode cX5_init 0 = .ok (.aload_n 0, 1) by decide +kernel) 0 rfl ?_
  refine y_objI q1_143 q1_28 q1_29 ⟨by decide, by decide⟩ (by decide) (show decode cX5_init 1 = .ok (.invokespecial 3, 3) by decide +kernel) ?_
  refine y_aload_n (show decode cX5_init 4 = .ok (.aload_n 0, 1) by decide +kernel) 0 rfl ?_
  refine y_iload_n (show decode cX5_init 5 = .ok (.iload_n 1, 1) by decide +kernel) 1 rfl ?_
  refine y_newJ 3 rfl ((Fr0.yUp (l := []) (n := 39) (hz.up (by decide)) rfl) 39 (Nat.le_refl _)) q1_158 rfl (by decide) (show decode cX5_init 6 = .ok (.newarray .long, 2) by decide +kernel) ?_
  show Y E MX5_init (yRm 1 1 3) _ 8 [(0, .inr (.inr 39)), (1, .inl 3)] [.inr (.inr 40), .inr (.inr 39)] (yUp [] S) 40 1 3
  refine yi_putF 38 5 0 9 39 (z := 40) (by decide) rfl (by decide) (by decide) q1_144 rfl rfl rfl (show decode cX5_init 8 = .ok (.putfield 9, 3) by decide +kernel) rfl rfl (fun _ => ⟨rfl, rfl⟩) ?_
  exact y_vret (show decode cX5_init 11 = .ok (.return_, 1) by decide +kernel) rfl

set_option maxHeartbeats 4000000 in
set_option maxRecDepth 10000 in
theorem in_Rule_50 {E : yE} {S : ySt} (hz : Fr0 51 S) : Con E MX7_init 1 2 440 [.inr (.inr 51)] 51 S none (yUp [(50, 1, 53), (50, 0, 52)] S) := by
  refine Con.ofY (by decide +kernel) (by decide) (fun hok _ => ?_)
  show Y E MX7_init (yRm 1 2 440) (yQf E (51 + 2) 2 440 none (yUp [(50, 1, 53), (50, 0, 52)] S)) 0 [(0, .inr (.inr 51))] [] (yUp [] S) 51 0 0
  refine y_aload_n (show decode cX7_init 0 = .ok (.aload_n 0, 1) by decide +kernel) 0 rfl ?_
  refine y_objI q1_164 q1_28 q1_29 ⟨by decide, by decide⟩ (by decide) (show decode cX7_init 1 = .ok (.invokespecial 3, 3) by decide +kernel) ?_
  refine y_aload_n (show decode cX7_init 4 = .ok (.aload_n 0, 1) by decide +kernel) 0 rfl ?_
  refine y_sipush (show decode cX7_init 5 = .ok (.sipush 400, 3) by decide +kernel) rfl rfl ?_
  refine y_newI 400 rfl ((Fr0.yUp (l := []) (n := 51) (hz.up (by decide)) rfl) 51 (Nat.le_refl _)) q1_104 rfl (by decide) (show decode cX7_init 8 = .ok (.newarray .int, 2) by decide +kernel) ?_
  show Y E MX7_init (yRm 1 2 440) _ 10 [(0, .inr (.inr 51))] [.inr (.inr 52), .inr (.inr 51)] (yUp [] S) 52 1 400
  refine yi_putF 50 7 0 9 51 (z := 52) (by decide) rfl (by decide) (by decide) q1_165 rfl rfl rfl (show decode cX7_init 10 = .ok (.putfield 9, 3) by decide +kernel) rfl rfl (fun _ => ⟨rfl, rfl⟩) ?_
  refine y_aload_n (show decode cX7_init 13 = .ok (.aload_n 0, 1) by decide +kernel) 0 rfl ?_
  refine y_bipush (show decode cX7_init 14 = .ok (.bipush 40, 2) by decide +kernel) rfl rfl ?_
  refine y_newI 40 rfl ((Fr0.yUp (l := [(50, 0, 52)]) (n := 52) (hz.up (by decide)) rfl) 52 (Nat.le_refl _)) q1_104 rfl (by decide) (show decode cX7_init 16 = .ok (.newarray .int, 2) by decide +kernel) ?_
  show Y E MX7_init (yRm 1 2 440) _ 18 [(0, .inr (.inr 51))] [.inr (.inr 53), .inr (.inr 51)] (yUp [(50, 0, 52)] S) 53 2 440
  refine yi_putF 50 7 1 15 52 (z := 53) (by decide) rfl (by decide) (by decide) q1_166 rfl rfl rfl (show decode cX7_init 18 = .ok (.putfield 15, 3) by decide +kernel) rfl rfl (fun _ => ⟨rfl, rfl⟩) ?_
  exact y_vret (show decode cX7_init 21 = .ok (.return_, 1) by decide +kernel) rfl

set_option maxHeartbeats 4000000 in
set_option maxRecDepth 10000 in
theorem in_Town_33 {E : yE} {S : ySt} {τ : ySt} {N : Nat} (hc : cTw_clear N 33 (yUp [(33, 13, 51), (50, 1, 53), (50, 0, 52), (33, 12, 50), (33, 11, 49), (33, 10, 48), (33, 9, 47), (33, 8, 46), (33, 7, 45), (33, 6, 44), (33, 5, 43), (33, 4, 42), (33, 3, 41), (33, 2, 39), (38, 0, 40), (33, 1, 37), (36, 0, 38), (33, 0, 35), (34, 0, 36)] S) = some τ) (hz : Fr0 34 S) : Con E MX9_init 2 19 587 [.inr (.inr 34)] 34 S none (yUp [] (ovp 33 τ)) := by
  refine Con.ofY (by decide +kernel) (by decide) (fun hok _ => ?_)
  show Y E MX9_init (yRm 2 19 587) (yQf E (34 + 19) 19 587 none (yUp [] (ovp 33 τ))) 0 [(0, .inr (.inr 34))] [] (yUp [] S) 34 0 0
  refine y_aload_n (show decode cX9_init 0 = .ok (.aload_n 0, 1) by decide +kernel) 0 rfl ?_
  refine y_objI q1_137 q1_28 q1_29 ⟨by decide, by decide⟩ (by decide) (show decode cX9_init 1 = .ok (.invokespecial 3, 3) by decide +kernel) ?_
  refine y_aload_n (show decode cX9_init 4 = .ok (.aload_n 0, 1) by decide +kernel) 0 rfl ?_
  refine y_new 5 9 rfl (by decide) ((Fr0.yUp (l := []) (n := 34) (hz.up (by decide)) rfl) 34 (Nat.le_refl _)) q1_138 q1_139 q1_6 (by decide) (show decode cX9_init 5 = .ok (.new 9, 3) by decide +kernel) ?_
  show Y E MX9_init (yRm 2 19 587) _ 8 [(0, .inr (.inr 34))] [.inr (.inr 35), .inr (.inr 34)] (yUp [] S) 35 1 2
  refine y_dup (show decode cX9_init 8 = .ok (.dup, 1) by decide +kernel) rfl ?_
  refine y_bipush (show decode cX9_init 9 = .ok (.bipush 6, 2) by decide +kernel) rfl rfl ?_
  refine y_callI (np := 1) (st := [.inr (.inr 35), .inr (.inr 34)]) (as := [.inl 6]) 34 (in_Names_34 (Fr0.yUp (l := []) (n := 35) (hz.up (by decide)) rfl)) q1_142 rfl rfl q1_140 q1_141 q1_6 (by decide) (by decide +kernel) (by decide) rfl (by decide) (show decode cX9_init 11 = .ok (.invokespecial 11, 3) by decide +kernel) rfl ?_
  show Y E MX9_init (yRm 2 19 587) _ 14 [(0, .inr (.inr 34))] [.inr (.inr 35), .inr (.inr 34)] (yUp [(34, 0, 36)] S) 36 2 8
  refine yi_putF 33 9 0 14 34 (z := 35) (by decide) rfl (by decide) (by decide) q1_192 rfl rfl rfl (show decode cX9_init 14 = .ok (.putfield 14, 3) by decide +kernel) rfl rfl (fun _ => ⟨rfl, rfl⟩) ?_
  refine y_aload_n (show decode cX9_init 17 = .ok (.aload_n 0, 1) by decide +kernel) 0 rfl ?_
  refine y_new 5 9 rfl (by decide) ((Fr0.yUp (l := [(33, 0, 35), (34, 0, 36)]) (n := 36) (hz.up (by decide)) rfl) 36 (Nat.le_refl _)) q1_138 q1_139 q1_6 (by decide) (show decode cX9_init 18 = .ok (.new 9, 3) by decide +kernel) ?_
  show Y E MX9_init (yRm 2 19 587) _ 21 [(0, .inr (.inr 34))] [.inr (.inr 37), .inr (.inr 34)] (yUp [(33, 0, 35), (34, 0, 36)] S) 37 3 10
  refine y_dup (show decode cX9_init 21 = .ok (.dup, 1) by decide +kernel) rfl ?_
  refine y_iconst (show decode cX9_init 22 = .ok (.iconst 5, 1) by decide +kernel) rfl ?_
  refine y_callI (np := 1) (st := [.inr (.inr 37), .inr (.inr 34)]) (as := [.inl 5]) 36 (in_Names_36 (Fr0.yUp (l := [(33, 0, 35), (34, 0, 36)]) (n := 37) (hz.up (by decide)) rfl)) q1_142 rfl rfl q1_140 q1_141 q1_6 (by decide) (by decide +kernel) (by decide) rfl (by decide) (show decode cX9_init 23 = .ok (.invokespecial 11, 3) by decide +kernel) rfl ?_
  show Y E MX9_init (yRm 2 19 587) _ 26 [(0, .inr (.inr 34))] [.inr (.inr 37), .inr (.inr 34)] (yUp [(36, 0, 38), (33, 0, 35), (34, 0, 36)] S) 38 4 15
  refine yi_putF 33 9 1 20 36 (z := 37) (by decide) rfl (by decide) (by decide) q1_200 rfl rfl rfl (show decode cX9_init 26 = .ok (.putfield 20, 3) by decide +kernel) rfl rfl (fun _ => ⟨rfl, rfl⟩) ?_
  refine y_aload_n (show decode cX9_init 29 = .ok (.aload_n 0, 1) by decide +kernel) 0 rfl ?_
  refine y_new 5 9 rfl (by decide) ((Fr0.yUp (l := [(33, 1, 37), (36, 0, 38), (33, 0, 35), (34, 0, 36)]) (n := 38) (hz.up (by decide)) rfl) 38 (Nat.le_refl _)) q1_138 q1_139 q1_6 (by decide) (show decode cX9_init 30 = .ok (.new 9, 3) by decide +kernel) ?_
  show Y E MX9_init (yRm 2 19 587) _ 33 [(0, .inr (.inr 34))] [.inr (.inr 39), .inr (.inr 34)] (yUp [(33, 1, 37), (36, 0, 38), (33, 0, 35), (34, 0, 36)] S) 39 5 17
  refine y_dup (show decode cX9_init 33 = .ok (.dup, 1) by decide +kernel) rfl ?_
  refine y_iconst (show decode cX9_init 34 = .ok (.iconst 3, 1) by decide +kernel) rfl ?_
  refine y_callI (np := 1) (st := [.inr (.inr 39), .inr (.inr 34)]) (as := [.inl 3]) 38 (in_Names_38 (Fr0.yUp (l := [(33, 1, 37), (36, 0, 38), (33, 0, 35), (34, 0, 36)]) (n := 39) (hz.up (by decide)) rfl)) q1_142 rfl rfl q1_140 q1_141 q1_6 (by decide) (by decide +kernel) (by decide) rfl (by decide) (show decode cX9_init 35 = .ok (.invokespecial 11, 3) by decide +kernel) rfl ?_
  show Y E MX9_init (yRm 2 19 587) _ 38 [(0, .inr (.inr 34))] [.inr (.inr 39), .inr (.inr 34)] (yUp [(38, 0, 40), (33, 1, 37), (36, 0, 38), (33, 0, 35), (34, 0, 36)] S) 40 6 20
  refine yi_putF 33 9 2 23 38 (z := 39) (by decide) rfl (by decide) (by decide) q1_206 rfl rfl rfl (show decode cX9_init 38 = .ok (.putfield 23, 3) by decide +kernel) rfl rfl (fun _ => ⟨rfl, rfl⟩) ?_
  refine y_aload_n (show decode cX9_init 41 = .ok (.aload_n 0, 1) by decide +kernel) 0 rfl ?_
  refine y_bipush (show decode cX9_init 42 = .ok (.bipush 6, 2) by decide +kernel) rfl rfl ?_
  refine y_newZ 6 rfl ((Fr0.yUp (l := [(33, 2, 39), (38, 0, 40), (33, 1, 37), (36, 0, 38), (33, 0, 35), (34, 0, 36)]) (n := 40) (hz.up (by decide)) rfl) 40 (Nat.le_refl _)) q1_179 rfl (by decide) (show decode cX9_init 44 = .ok (.newarray .boolean, 2) by decide +kernel) ?_
  show Y E MX9_init (yRm 2 19 587) _ 46 [(0, .inr (.inr 34))] [.inr (.inr 41), .inr (.inr 34)] (yUp [(33, 2, 39), (38, 0, 40), (33, 1, 37), (36, 0, 38), (33, 0, 35), (34, 0, 36)] S) 41 7 26
  refine yi_putF 33 9 3 26 40 (z := 41) (by decide) rfl (by decide) (by decide) q1_209 rfl rfl rfl (show decode cX9_init 46 = .ok (.putfield 26, 3) by decide +kernel) rfl rfl (fun _ => ⟨rfl, rfl⟩) ?_
  refine y_aload_n (show decode cX9_init 49 = .ok (.aload_n 0, 1) by decide +kernel) 0 rfl ?_
  refine y_iconst (show decode cX9_init 50 = .ok (.iconst 5, 1) by decide +kernel) rfl ?_
  refine y_newI 5 rfl ((Fr0.yUp (l := [(33, 3, 41), (33, 2, 39), (38, 0, 40), (33, 1, 37), (36, 0, 38), (33, 0, 35), (34, 0, 36)]) (n := 41) (hz.up (by decide)) rfl) 41 (Nat.le_refl _)) q1_104 rfl (by decide) (show decode cX9_init 51 = .ok (.newarray .int, 2) by decide +kernel) ?_
  show Y E MX9_init (yRm 2 19 587) _ 53 [(0, .inr (.inr 34))] [.inr (.inr 42), .inr (.inr 34)] (yUp [(33, 3, 41), (33, 2, 39), (38, 0, 40), (33, 1, 37), (36, 0, 38), (33, 0, 35), (34, 0, 36)] S) 42 8 31
  refine yi_putF 33 9 4 30 41 (z := 42) (by decide) rfl (by decide) (by decide) q1_211 rfl rfl rfl (show decode cX9_init 53 = .ok (.putfield 30, 3) by decide +kernel) rfl rfl (fun _ => ⟨rfl, rfl⟩) ?_
  refine y_aload_n (show decode cX9_init 56 = .ok (.aload_n 0, 1) by decide +kernel) 0 rfl ?_
  refine y_iconst (show decode cX9_init 57 = .ok (.iconst 5, 1) by decide +kernel) rfl ?_
  refine y_newI 5 rfl ((Fr0.yUp (l := [(33, 4, 42), (33, 3, 41), (33, 2, 39), (38, 0, 40), (33, 1, 37), (36, 0, 38), (33, 0, 35), (34, 0, 36)]) (n := 42) (hz.up (by decide)) rfl) 42 (Nat.le_refl _)) q1_104 rfl (by decide) (show decode cX9_init 58 = .ok (.newarray .int, 2) by decide +kernel) ?_
  show Y E MX9_init (yRm 2 19 587) _ 60 [(0, .inr (.inr 34))] [.inr (.inr 43), .inr (.inr 34)] (yUp [(33, 4, 42), (33, 3, 41), (33, 2, 39), (38, 0, 40), (33, 1, 37), (36, 0, 38), (33, 0, 35), (34, 0, 36)] S) 43 9 36
  refine yi_putF 33 9 5 34 42 (z := 43) (by decide) rfl (by decide) (by decide) q1_217 rfl rfl rfl (show decode cX9_init 60 = .ok (.putfield 34, 3) by decide +kernel) rfl rfl (fun _ => ⟨rfl, rfl⟩) ?_
  refine y_aload_n (show decode cX9_init 63 = .ok (.aload_n 0, 1) by decide +kernel) 0 rfl ?_
  refine y_iconst (show decode cX9_init 64 = .ok (.iconst 3, 1) by decide +kernel) rfl ?_
  refine y_newI 3 rfl ((Fr0.yUp (l := [(33, 5, 43), (33, 4, 42), (33, 3, 41), (33, 2, 39), (38, 0, 40), (33, 1, 37), (36, 0, 38), (33, 0, 35), (34, 0, 36)]) (n := 43) (hz.up (by decide)) rfl) 43 (Nat.le_refl _)) q1_104 rfl (by decide) (show decode cX9_init 65 = .ok (.newarray .int, 2) by decide +kernel) ?_
  show Y E MX9_init (yRm 2 19 587) _ 67 [(0, .inr (.inr 34))] [.inr (.inr 44), .inr (.inr 34)] (yUp [(33, 5, 43), (33, 4, 42), (33, 3, 41), (33, 2, 39), (38, 0, 40), (33, 1, 37), (36, 0, 38), (33, 0, 35), (34, 0, 36)] S) 44 10 39
  refine yi_putF 33 9 6 37 43 (z := 44) (by decide) rfl (by decide) (by decide) q1_220 rfl rfl rfl (show decode cX9_init 67 = .ok (.putfield 37, 3) by decide +kernel) rfl rfl (fun _ => ⟨rfl, rfl⟩) ?_
  refine y_aload_n (show decode cX9_init 70 = .ok (.aload_n 0, 1) by decide +kernel) 0 rfl ?_
  refine y_bipush (show decode cX9_init 71 = .ok (.bipush 8, 2) by decide +kernel) rfl rfl ?_
  refine y_newI 8 rfl ((Fr0.yUp (l := [(33, 6, 44), (33, 5, 43), (33, 4, 42), (33, 3, 41), (33, 2, 39), (38, 0, 40), (33, 1, 37), (36, 0, 38), (33, 0, 35), (34, 0, 36)]) (n := 44) (hz.up (by decide)) rfl) 44 (Nat.le_refl _)) q1_104 rfl (by decide) (show decode cX9_init 73 = .ok (.newarray .int, 2) by decide +kernel) ?_
  show Y E MX9_init (yRm 2 19 587) _ 75 [(0, .inr (.inr 34))] [.inr (.inr 45), .inr (.inr 34)] (yUp [(33, 6, 44), (33, 5, 43), (33, 4, 42), (33, 3, 41), (33, 2, 39), (38, 0, 40), (33, 1, 37), (36, 0, 38), (33, 0, 35), (34, 0, 36)] S) 45 11 47
  refine yi_putF 33 9 7 40 44 (z := 45) (by decide) rfl (by decide) (by decide) q1_222 rfl rfl rfl (show decode cX9_init 75 = .ok (.putfield 40, 3) by decide +kernel) rfl rfl (fun _ => ⟨rfl, rfl⟩) ?_
  refine y_aload_n (show decode cX9_init 78 = .ok (.aload_n 0, 1) by decide +kernel) 0 rfl ?_
  refine y_bipush (show decode cX9_init 79 = .ok (.bipush 8, 2) by decide +kernel) rfl rfl ?_
  refine y_newI 8 rfl ((Fr0.yUp (l := [(33, 7, 45), (33, 6, 44), (33, 5, 43), (33, 4, 42), (33, 3, 41), (33, 2, 39), (38, 0, 40), (33, 1, 37), (36, 0, 38), (33, 0, 35), (34, 0, 36)]) (n := 45) (hz.up (by decide)) rfl) 45 (Nat.le_refl _)) q1_104 rfl (by decide) (show decode cX9_init 81 = .ok (.newarray .int, 2) by decide +kernel) ?_
  show Y E MX9_init (yRm 2 19 587) _ 83 [(0, .inr (.inr 34))] [.inr (.inr 46), .inr (.inr 34)] (yUp [(33, 7, 45), (33, 6, 44), (33, 5, 43), (33, 4, 42), (33, 3, 41), (33, 2, 39), (38, 0, 40), (33, 1, 37), (36, 0, 38), (33, 0, 35), (34, 0, 36)] S) 46 12 55
  refine yi_putF 33 9 8 43 45 (z := 46) (by decide) rfl (by decide) (by decide) q1_226 rfl rfl rfl (show decode cX9_init 83 = .ok (.putfield 43, 3) by decide +kernel) rfl rfl (fun _ => ⟨rfl, rfl⟩) ?_
  refine y_aload_n (show decode cX9_init 86 = .ok (.aload_n 0, 1) by decide +kernel) 0 rfl ?_
  refine y_bipush (show decode cX9_init 87 = .ok (.bipush 8, 2) by decide +kernel) rfl rfl ?_
  refine y_newI 8 rfl ((Fr0.yUp (l := [(33, 8, 46), (33, 7, 45), (33, 6, 44), (33, 5, 43), (33, 4, 42), (33, 3, 41), (33, 2, 39), (38, 0, 40), (33, 1, 37), (36, 0, 38), (33, 0, 35), (34, 0, 36)]) (n := 46) (hz.up (by decide)) rfl) 46 (Nat.le_refl _)) q1_104 rfl (by decide) (show decode cX9_init 89 = .ok (.newarray .int, 2) by decide +kernel) ?_
  show Y E MX9_init (yRm 2 19 587) _ 91 [(0, .inr (.inr 34))] [.inr (.inr 47), .inr (.inr 34)] (yUp [(33, 8, 46), (33, 7, 45), (33, 6, 44), (33, 5, 43), (33, 4, 42), (33, 3, 41), (33, 2, 39), (38, 0, 40), (33, 1, 37), (36, 0, 38), (33, 0, 35), (34, 0, 36)] S) 47 13 63
  refine yi_putF 33 9 9 46 46 (z := 47) (by decide) rfl (by decide) (by decide) q1_230 rfl rfl rfl (show decode cX9_init 91 = .ok (.putfield 46, 3) by decide +kernel) rfl rfl (fun _ => ⟨rfl, rfl⟩) ?_
  refine y_aload_n (show decode cX9_init 94 = .ok (.aload_n 0, 1) by decide +kernel) 0 rfl ?_
  refine y_bipush (show decode cX9_init 95 = .ok (.bipush 8, 2) by decide +kernel) rfl rfl ?_
  refine y_newI 8 rfl ((Fr0.yUp (l := [(33, 9, 47), (33, 8, 46), (33, 7, 45), (33, 6, 44), (33, 5, 43), (33, 4, 42), (33, 3, 41), (33, 2, 39), (38, 0, 40), (33, 1, 37), (36, 0, 38), (33, 0, 35), (34, 0, 36)]) (n := 47) (hz.up (by decide)) rfl) 47 (Nat.le_refl _)) q1_104 rfl (by decide) (show decode cX9_init 97 = .ok (.newarray .int, 2) by decide +kernel) ?_
  show Y E MX9_init (yRm 2 19 587) _ 99 [(0, .inr (.inr 34))] [.inr (.inr 48), .inr (.inr 34)] (yUp [(33, 9, 47), (33, 8, 46), (33, 7, 45), (33, 6, 44), (33, 5, 43), (33, 4, 42), (33, 3, 41), (33, 2, 39), (38, 0, 40), (33, 1, 37), (36, 0, 38), (33, 0, 35), (34, 0, 36)] S) 48 14 71
  refine yi_putF 33 9 10 49 47 (z := 48) (by decide) rfl (by decide) (by decide) q1_234 rfl rfl rfl (show decode cX9_init 99 = .ok (.putfield 49, 3) by decide +kernel) rfl rfl (fun _ => ⟨rfl, rfl⟩) ?_
  refine y_aload_n (show decode cX9_init 102 = .ok (.aload_n 0, 1) by decide +kernel) 0 rfl ?_
  refine y_bipush (show decode cX9_init 103 = .ok (.bipush 36, 2) by decide +kernel) rfl rfl ?_
  refine y_newI 36 rfl ((Fr0.yUp (l := [(33, 10, 48), (33, 9, 47), (33, 8, 46), (33, 7, 45), (33, 6, 44), (33, 5, 43), (33, 4, 42), (33, 3, 41), (33, 2, 39), (38, 0, 40), (33, 1, 37), (36, 0, 38), (33, 0, 35), (34, 0, 36)]) (n := 48) (hz.up (by decide)) rfl) 48 (Nat.le_refl _)) q1_104 rfl (by decide) (show decode cX9_init 105 = .ok (.newarray .int, 2) by decide +kernel) ?_
  show Y E MX9_init (yRm 2 19 587) _ 107 [(0, .inr (.inr 34))] [.inr (.inr 49), .inr (.inr 34)] (yUp [(33, 10, 48), (33, 9, 47), (33, 8, 46), (33, 7, 45), (33, 6, 44), (33, 5, 43), (33, 4, 42), (33, 3, 41), (33, 2, 39), (38, 0, 40), (33, 1, 37), (36, 0, 38), (33, 0, 35), (34, 0, 36)] S) 49 15 107
  refine yi_putF 33 9 11 52 48 (z := 49) (by decide) rfl (by decide) (by decide) q1_237 rfl rfl rfl (show decode cX9_init 107 = .ok (.putfield 52, 3) by decide +kernel) rfl rfl (fun _ => ⟨rfl, rfl⟩) ?_
  refine y_aload_n (show decode cX9_init 110 = .ok (.aload_n 0, 1) by decide +kernel) 0 rfl ?_
  refine y_bipush (show decode cX9_init 111 = .ok (.bipush 36, 2) by decide +kernel) rfl rfl ?_
  refine y_newI 36 rfl ((Fr0.yUp (l := [(33, 11, 49), (33, 10, 48), (33, 9, 47), (33, 8, 46), (33, 7, 45), (33, 6, 44), (33, 5, 43), (33, 4, 42), (33, 3, 41), (33, 2, 39), (38, 0, 40), (33, 1, 37), (36, 0, 38), (33, 0, 35), (34, 0, 36)]) (n := 49) (hz.up (by decide)) rfl) 49 (Nat.le_refl _)) q1_104 rfl (by decide) (show decode cX9_init 113 = .ok (.newarray .int, 2) by decide +kernel) ?_
  show Y E MX9_init (yRm 2 19 587) _ 115 [(0, .inr (.inr 34))] [.inr (.inr 50), .inr (.inr 34)] (yUp [(33, 11, 49), (33, 10, 48), (33, 9, 47), (33, 8, 46), (33, 7, 45), (33, 6, 44), (33, 5, 43), (33, 4, 42), (33, 3, 41), (33, 2, 39), (38, 0, 40), (33, 1, 37), (36, 0, 38), (33, 0, 35), (34, 0, 36)] S) 50 16 143
  refine yi_putF 33 9 12 55 49 (z := 50) (by decide) rfl (by decide) (by decide) q2_2 rfl rfl rfl (show decode cX9_init 115 = .ok (.putfield 55, 3) by decide +kernel) rfl rfl (fun _ => ⟨rfl, rfl⟩) ?_
  refine y_aload_n (show decode cX9_init 118 = .ok (.aload_n 0, 1) by decide +kernel) 0 rfl ?_
  refine y_new 7 58 rfl (by decide) ((Fr0.yUp (l := [(33, 12, 50), (33, 11, 49), (33, 10, 48), (33, 9, 47), (33, 8, 46), (33, 7, 45), (33, 6, 44), (33, 5, 43), (33, 4, 42), (33, 3, 41), (33, 2, 39), (38, 0, 40), (33, 1, 37), (36, 0, 38), (33, 0, 35), (34, 0, 36)]) (n := 50) (hz.up (by decide)) rfl) 50 (Nat.le_refl _)) q1_159 q1_160 q1_7 (by decide) (show decode cX9_init 119 = .ok (.new 58, 3) by decide +kernel) ?_
  show Y E MX9_init (yRm 2 19 587) _ 122 [(0, .inr (.inr 34))] [.inr (.inr 51), .inr (.inr 34)] (yUp [(33, 12, 50), (33, 11, 49), (33, 10, 48), (33, 9, 47), (33, 8, 46), (33, 7, 45), (33, 6, 44), (33, 5, 43), (33, 4, 42), (33, 3, 41), (33, 2, 39), (38, 0, 40), (33, 1, 37), (36, 0, 38), (33, 0, 35), (34, 0, 36)] S) 51 17 147
  refine y_dup (show decode cX9_init 122 = .ok (.dup, 1) by decide +kernel) rfl ?_
  refine y_callIN (np := 0) (st := [.inr (.inr 51), .inr (.inr 34)]) (as := []) 50 (in_Rule_50 (Fr0.yUp (l := [(33, 12, 50), (33, 11, 49), (33, 10, 48), (33, 9, 47), (33, 8, 46), (33, 7, 45), (33, 6, 44), (33, 5, 43), (33, 4, 42), (33, 3, 41), (33, 2, 39), (38, 0, 40), (33, 1, 37), (36, 0, 38), (33, 0, 35), (34, 0, 36)]) (n := 51) (hz.up (by decide)) rfl)) q1_163 rfl rfl (List.mem_of_getElem? (i := 3) rfl) q1_162 q1_7 (by decide) (by decide +kernel) (by decide) rfl (by decide) (show decode cX9_init 123 = .ok (.invokespecial 60, 3) by decide +kernel) rfl ?_
  show Y E MX9_init (yRm 2 19 587) _ 126 [(0, .inr (.inr 34))] [.inr (.inr 51), .inr (.inr 34)] (yUp [(50, 1, 53), (50, 0, 52), (33, 12, 50), (33, 11, 49), (33, 10, 48), (33, 9, 47), (33, 8, 46), (33, 7, 45), (33, 6, 44), (33, 5, 43), (33, 4, 42), (33, 3, 41), (33, 2, 39), (38, 0, 40), (33, 1, 37), (36, 0, 38), (33, 0, 35), (34, 0, 36)] S) 53 19 587
  refine yi_putF 33 9 13 61 50 (z := 51) (by decide) rfl (by decide) (by decide) q2_4 rfl rfl rfl (show decode cX9_init 126 = .ok (.putfield 61, 3) by decide +kernel) rfl rfl (fun _ => ⟨rfl, rfl⟩) ?_
  refine y_aload_n (show decode cX9_init 129 = .ok (.aload_n 0, 1) by decide +kernel) 0 rfl ?_
  have hcl : Con E MX9_clear 1 0 0 [.inr (.inr 34)] 53 (yUp [(33, 13, 51), (50, 1, 53), (50, 0, 52), (33, 12, 50), (33, 11, 49), (33, 10, 48), (33, 9, 47), (33, 8, 46), (33, 7, 45), (33, 6, 44), (33, 5, 43), (33, 4, 42), (33, 3, 41), (33, 2, 39), (38, 0, 40), (33, 1, 37), (36, 0, 38), (33, 0, 35), (34, 0, 36)] S) none (ovp 33 τ) := by
    have h9 := sq_cTw_clear (E := E) (n := 53) (T := 33) (by decide) (by decide) hc
    rwa [ovp_self (σ := (yUp [(33, 13, 51), (50, 1, 53), (50, 0, 52), (33, 12, 50), (33, 11, 49), (33, 10, 48), (33, 9, 47), (33, 8, 46), (33, 7, 45), (33, 6, 44), (33, 5, 43), (33, 4, 42), (33, 3, 41), (33, 2, 39), (38, 0, 40), (33, 1, 37), (36, 0, 38), (33, 0, 35), (34, 0, 36)] S)) (T := 33) (yUp_tw (l := [(33, 13, 51), (50, 1, 53), (50, 0, 52), (33, 12, 50), (33, 11, 49), (33, 10, 48), (33, 9, 47), (33, 8, 46), (33, 7, 45), (33, 6, 44), (33, 5, 43), (33, 4, 42), (33, 3, 41), (33, 2, 39), (38, 0, 40), (33, 1, 37), (36, 0, 38), (33, 0, 35), (34, 0, 36)]) (by decide +kernel))] at h9
  refine y_callV (np := 0) (st := []) (as := []) 33 9 hcl q1_183 q1_180 q1_181 q1_182 q1_5 (by decide) rfl (by decide) rfl (by decide) (by decide +kernel) (by decide) rfl (by decide) (show decode cX9_init 130 = .ok (.invokevirtual 65, 3) by decide +kernel) rfl ?_
  show Y E MX9_init (yRm 2 19 587) _ 133 [(0, .inr (.inr 34))] [] (yUp [] (ovp 33 τ)) 53 19 587
  exact y_vret (show decode cX9_init 133 = .ok (.return_, 1) by decide +kernel) rfl
