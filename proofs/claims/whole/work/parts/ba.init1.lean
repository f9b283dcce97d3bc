abbrev MX8_init : yM := (yX8_init, cX8_init, 1, none)
set_option maxHeartbeats 4000000 in
set_option maxRecDepth 10000 in
theorem in_Tape_1 {E : yE} {S : ySt} (hz : Fr0 2 S) : Con E MX8_init 1 1 1600 [.inr (.inr 2)] 2 S none (yUp [(1, 7, -1), (1, 0, 3)] S) := by
  refine Con.ofY (by decide +kernel) (by decide) (fun hok _ => ?_)
  show Y E MX8_init (yRm 1 1 1600) (yQf E (2 + 1) 1 1600 none (yUp [(1, 7, -1), (1, 0, 3)] S)) 0 [(0, .inr (.inr 2))] [] (yUp [] S) 2 0 0
  refine y_aload_n (show decode cX8_init 0 = .ok (.aload_n 0, 1) by decide +kernel) 0 rfl ?_
  refine y_objI q1_35 q1_28 q1_29 ⟨by decide, by decide⟩ (by decide) (show decode cX8_init 1 = .ok (.invokespecial 3, 3) by decide +kernel) ?_
  refine y_aload_n (show decode cX8_init 4 = .ok (.aload_n 0, 1) by decide +kernel) 0 rfl ?_
  refine y_sipush (show decode cX8_init 5 = .ok (.sipush 1600, 3) by decide +kernel) rfl rfl ?_
  refine y_newB 1600 rfl ((Fr0.yUp (l := []) (n := 2) (hz.up (by decide)) rfl) 2 (Nat.le_refl _)) q1_73 rfl (by decide) (show decode cX8_init 8 = .ok (.newarray .byte, 2) by decide +kernel) ?_
  show Y E MX8_init (yRm 1 1 1600) _ 10 [(0, .inr (.inr 2))] [.inr (.inr 3), .inr (.inr 2)] (yUp [] S) 3 1 1600
  refine yi_putF 1 8 0 9 2 (z := 3) (by decide) rfl (by decide) (by decide) q1_36 rfl rfl rfl (show decode cX8_init 10 = .ok (.putfield 9, 3) by decide +kernel) rfl rfl (fun _ => ⟨rfl, rfl⟩) ?_
  refine y_aload_n (show decode cX8_init 13 = .ok (.aload_n 0, 1) by decide +kernel) 0 rfl ?_
  refine y_iconst (show decode cX8_init 14 = .ok (.iconst (-1), 1) by decide +kernel) rfl ?_
  refine yo_putI 1 8 7 15 (by decide) rfl (by decide) (by decide) q1_51 rfl (show decode cX8_init 15 = .ok (.putfield 15, 3) by decide +kernel) rfl rfl rfl ?_
  exact y_vret (show decode cX8_init 18 = .ok (.return_, 1) by decide +kernel) rfl

abbrev MX1_init : yM := (yX1_init, cX1_init, 1, none)
set_option maxHeartbeats 4000000 in
set_option maxRecDepth 10000 in
theorem in_Counts_3 {E : yE} {S : ySt} (hz : Fr0 4 S) : Con E MX1_init 1 5 200 [.inr (.inr 4)] 4 S none (yUp [(3, 4, 9), (3, 3, 8), (3, 2, 7), (3, 1, 6), (3, 0, 5)] S) := by
  refine Con.ofY (by decide +kernel) (by decide) (fun hok _ => ?_)
  show Y E MX1_init (yRm 1 5 200) (yQf E (4 + 5) 5 200 none (yUp [(3, 4, 9), (3, 3, 8), (3, 2, 7), (3, 1, 6), (3, 0, 5)] S)) 0 [(0, .inr (.inr 4))] [] (yUp [] S) 4 0 0
  refine y_aload_n (show decode cX1_init 0 = .ok (.aload_n 0, 1) by decide +kernel) 0 rfl ?_
  refine y_objI q1_79 q1_28 q1_29 ⟨by decide, by decide⟩ (by decide) (show decode cX1_init 1 = .ok (.invokespecial 3, 3) by decide +kernel) ?_
  refine y_aload_n (show decode cX1_init 4 = .ok (.aload_n 0, 1) by decide +kernel) 0 rfl ?_
  refine y_bipush (show decode cX1_init 5 = .ok (.bipush 40, 2) by decide +kernel) rfl rfl ?_
  refine y_newI 40 rfl ((Fr0.yUp (l := []) (n := 4) (hz.up (by decide)) rfl) 4 (Nat.le_refl _)) q1_104 rfl (by decide) (show decode cX1_init 7 = .ok (.newarray .int, 2) by decide +kernel) ?_
  show Y E MX1_init (yRm 1 5 200) _ 9 [(0, .inr (.inr 4))] [.inr (.inr 5), .inr (.inr 4)] (yUp [] S) 5 1 40
  refine yi_putF 3 1 0 9 4 (z := 5) (by decide) rfl (by decide) (by decide) q1_80 rfl rfl rfl (show decode cX1_init 9 = .ok (.putfield 9, 3) by decide +kernel) rfl rfl (fun _ => ⟨rfl, rfl⟩) ?_
  refine y_aload_n (show decode cX1_init 12 = .ok (.aload_n 0, 1) by decide +kernel) 0 rfl ?_
  refine y_bipush (show decode cX1_init 13 = .ok (.bipush 40, 2) by decide +kernel) rfl rfl ?_
  refine y_newI 40 rfl ((Fr0.yUp (l := [(3, 0, 5)]) (n := 5) (hz.up (by decide)) rfl) 5 (Nat.le_refl _)) q1_104 rfl (by decide) (show decode cX1_init 15 = .ok (.newarray .int, 2) by decide +kernel) ?_
  show Y E MX1_init (yRm 1 5 200) _ 17 [(0, .inr (.inr 4))] [.inr (.inr 6), .inr (.inr 4)] (yUp [(3, 0, 5)] S) 6 2 80
  refine yi_putF 3 1 1 15 5 (z := 6) (by decide) rfl (by decide) (by decide) q1_81 rfl rfl rfl (show decode cX1_init 17 = .ok (.putfield 15, 3) by decide +kernel) rfl rfl (fun _ => ⟨rfl, rfl⟩) ?_
  refine y_aload_n (show decode cX1_init 20 = .ok (.aload_n 0, 1) by decide +kernel) 0 rfl ?_
  refine y_bipush (show decode cX1_init 21 = .ok (.bipush 40, 2) by decide +kernel) rfl rfl ?_
  refine y_newI 40 rfl ((Fr0.yUp (l := [(3, 1, 6), (3, 0, 5)]) (n := 6) (hz.up (by decide)) rfl) 6 (Nat.le_refl _)) q1_104 rfl (by decide) (show decode cX1_init 23 = .ok (.newarray .int, 2) by decide +kernel) ?_
  show Y E MX1_init (yRm 1 5 200) _ 25 [(0, .inr (.inr 4))] [.inr (.inr 7), .inr (.inr 4)] (yUp [(3, 1, 6), (3, 0, 5)] S) 7 3 120
  refine yi_putF 3 1 2 18 6 (z := 7) (by decide) rfl (by decide) (by decide) q1_82 rfl rfl rfl (show decode cX1_init 25 = .ok (.putfield 18, 3) by decide +kernel) rfl rfl (fun _ => ⟨rfl, rfl⟩) ?_
  refine y_aload_n (show decode cX1_init 28 = .ok (.aload_n 0, 1) by decide +kernel) 0 rfl ?_
  refine y_bipush (show decode cX1_init 29 = .ok (.bipush 40, 2) by decide +kernel) rfl rfl ?_
  refine y_newI 40 rfl ((Fr0.yUp (l := [(3, 2, 7), (3, 1, 6), (3, 0, 5)]) (n := 7) (hz.up (by decide)) rfl) 7 (Nat.le_refl _)) q1_104 rfl (by decide) (show decode cX1_init 31 = .ok (.newarray .int, 2) by decide +kernel) ?_
  show Y E MX1_init (yRm 1 5 200) _ 33 [(0, .inr (.inr 4))] [.inr (.inr 8), .inr (.inr 4)] (yUp [(3, 2, 7), (3, 1, 6), (3, 0, 5)] S) 8 4 160
  refine yi_putF 3 1 3 21 7 (z := 8) (by decide) rfl (by decide) (by decide) q1_83 rfl rfl rfl (show decode cX1_init 33 = .ok (.putfield 21, 3) by decide +kernel) rfl rfl (fun _ => ⟨rfl, rfl⟩) ?_
  refine y_aload_n (show decode cX1_init 36 = .ok (.aload_n 0, 1) by decide +kernel) 0 rfl ?_
  refine y_bipush (show decode cX1_init 37 = .ok (.bipush 40, 2) by decide +kernel) rfl rfl ?_
  refine y_newI 40 rfl ((Fr0.yUp (l := [(3, 3, 8), (3, 2, 7), (3, 1, 6), (3, 0, 5)]) (n := 8) (hz.up (by decide)) rfl) 8 (Nat.le_refl _)) q1_104 rfl (by decide) (show decode cX1_init 39 = .ok (.newarray .int, 2) by decide +kernel) ?_
  show Y E MX1_init (yRm 1 5 200) _ 41 [(0, .inr (.inr 4))] [.inr (.inr 9), .inr (.inr 4)] (yUp [(3, 3, 8), (3, 2, 7), (3, 1, 6), (3, 0, 5)] S) 9 5 200
  refine yi_putF 3 1 4 24 8 (z := 9) (by decide) rfl (by decide) (by decide) q1_84 rfl rfl rfl (show decode cX1_init 41 = .ok (.putfield 24, 3) by decide +kernel) rfl rfl (fun _ => ⟨rfl, rfl⟩) ?_
  exact y_vret (show decode cX1_init 44 = .ok (.return_, 1) by decide +kernel) rfl

abbrev MX4_init : yM := (yX4_init, cX4_init, 1, none)
set_option maxHeartbeats 4000000 in
set_option maxRecDepth 10000 in
theorem in_Earnest_9 {E : yE} {S : ySt} (hz : Fr0 10 S) : Con E MX4_init 1 2 10 [.inr (.inr 10)] 10 S none (yUp [(9, 1, 12), (9, 0, 11)] S) := by
  refine Con.ofY (by decide +kernel) (by decide) (fun hok _ => ?_)
  show Y E MX4_init (yRm 1 2 10) (yQf E (10 + 2) 2 10 none (yUp [(9, 1, 12), (9, 0, 11)] S)) 0 [(0, .inr (.inr 10))] [] (yUp [] S) 10 0 0
  refine y_aload_n (show decode cX4_init 0 = .ok (.aload_n 0, 1) by decide +kernel) 0 rfl ?_
  refine y_objI q1_110 q1_28 q1_29 ⟨by decide, by decide⟩ (by decide) (show decode cX4_init 1 = .ok (.invokespecial 3, 3) by decide +kernel) ?_
  refine y_aload_n (show decode cX4_init 4 = .ok (.aload_n 0, 1) by decide +kernel) 0 rfl ?_
  refine y_iconst (show decode cX4_init 5 = .ok (.iconst 5, 1) by decide +kernel) rfl ?_
  refine y_newI 5 rfl ((Fr0.yUp (l := []) (n := 10) (hz.up (by decide)) rfl) 10 (Nat.le_refl _)) q1_104 rfl (by decide) (show decode cX4_init 6 = .ok (.newarray .int, 2) by decide +kernel) ?_
  show Y E MX4_init (yRm 1 2 10) _ 8 [(0, .inr (.inr 10))] [.inr (.inr 11), .inr (.inr 10)] (yUp [] S) 11 1 5
  refine yi_putF 9 4 0 9 10 (z := 11) (by decide) rfl (by decide) (by decide) q1_111 rfl rfl rfl (show decode cX4_init 8 = .ok (.putfield 9, 3) by decide +kernel) rfl rfl (fun _ => ⟨rfl, rfl⟩) ?_
  refine y_aload_n (show decode cX4_init 11 = .ok (.aload_n 0, 1) by decide +kernel) 0 rfl ?_
  refine y_iconst (show decode cX4_init 12 = .ok (.iconst 5, 1) by decide +kernel) rfl ?_
  refine y_newI 5 rfl ((Fr0.yUp (l := [(9, 0, 11)]) (n := 11) (hz.up (by decide)) rfl) 11 (Nat.le_refl _)) q1_104 rfl (by decide) (show decode cX4_init 13 = .ok (.newarray .int, 2) by decide +kernel) ?_
  show Y E MX4_init (yRm 1 2 10) _ 15 [(0, .inr (.inr 10))] [.inr (.inr 12), .inr (.inr 10)] (yUp [(9, 0, 11)] S) 12 2 10
  refine yi_putF 9 4 1 15 11 (z := 12) (by decide) rfl (by decide) (by decide) q1_113 rfl rfl rfl (show decode cX4_init 15 = .ok (.putfield 15, 3) by decide +kernel) rfl rfl (fun _ => ⟨rfl, rfl⟩) ?_
  exact y_vret (show decode cX4_init 18 = .ok (.return_, 1) by decide +kernel) rfl

abbrev MX10_init : yM := (yX10_init, cX10_init, 3, none)
set_option maxHeartbeats 4000000 in
set_option maxRecDepth 10000 in
theorem in_TownReader_53 {E : yE} {S : ySt} (hz : Fr0 54 S) : Con E MX10_init 1 0 0 [.inr (.inr 54), .inr (.inr 2), .inr (.inr 34)] 54 S none (yUp [(53, 1, 34), (53, 0, 2)] S) := by
  refine Con.ofY (by decide +kernel) (by decide) (fun hok _ => ?_)
  show Y E MX10_init (yRm 1 0 0) (yQf E (54 + 0) 0 0 none (yUp [(53, 1, 34), (53, 0, 2)] S)) 0 [(0, .inr (.inr 54)), (1, .inr (.inr 2)), (2, .inr (.inr 34))] [] (yUp [] S) 54 0 0
  refine y_aload_n (show decode cX10_init 0 = .ok (.aload_n 0, 1) by decide +kernel) 0 rfl ?_
  refine y_objI q2_67 q1_28 q1_29 ⟨by decide, by decide⟩ (by decide) (show decode cX10_init 1 = .ok (.invokespecial 3, 3) by decide +kernel) ?_
  refine y_aload_n (show decode cX10_init 4 = .ok (.aload_n 0, 1) by decide +kernel) 0 rfl ?_
  refine y_aload_n (show decode cX10_init 5 = .ok (.aload_n 1, 1) by decide +kernel) 1 rfl ?_
  refine yi_putF 53 10 0 9 1 (z := 2) (by decide) rfl (by decide) (by decide) q2_68 rfl rfl rfl (show decode cX10_init 6 = .ok (.putfield 9, 3) by decide +kernel) rfl rfl (fun _ => ⟨rfl, rfl⟩) ?_
  refine y_aload_n (show decode cX10_init 9 = .ok (.aload_n 0, 1) by decide +kernel) 0 rfl ?_
  refine y_aload_n (show decode cX10_init 10 = .ok (.aload_n 2, 1) by decide +kernel) 2 rfl ?_
  refine yi_putR 53 10 1 15 33 (z := 34) (by decide) rfl (by decide) (by decide) q2_69 rfl (show decode cX10_init 11 = .ok (.putfield 15, 3) by decide +kernel) rfl rfl (fun _ => ⟨rfl, rfl⟩) ?_
  exact y_vret (show decode cX10_init 14 = .ok (.return_, 1) by decide +kernel) rfl

abbrev MX6_init : yM := (yX6_init, cX6_init, 1, none)
set_option maxHeartbeats 4000000 in
set_option maxRecDepth 10000 in
theorem in_Plan_54 {E : yE} {S : ySt} (hz : Fr0 55 S) : Con E MX6_init 1 1 45 [.inr (.inr 55)] 55 S none (yUp [(54, 0, 56)] S) := by
  refine Con.ofY (by decide +kernel) (by decide) (fun hok _ => ?_)
  show Y E MX6_init (yRm 1 1 45) (yQf E (55 + 1) 1 45 none (yUp [(54, 0, 56)] S)) 0 [(0, .inr (.inr 55))] [] (yUp [] S) 55 0 0
  refine y_aload_n (show decode cX6_init 0 = .ok (.aload_n 0, 1) by decide +kernel) 0 rfl ?_
  refine y_objI q2_89 q1_28 q1_29 ⟨by decide, by decide⟩ (by decide) (show decode cX6_init 1 = .ok (.invokespecial 3, 3) by decide +kernel) ?_
  refine y_aload_n (show decode cX6_init 4 = .ok (.aload_n 0, 1) by decide +kernel) 0 rfl ?_
  refine y_bipush (show decode cX6_init 5 = .ok (.bipush 45, 2) by decide +kernel) rfl rfl ?_
  refine y_newI 45 rfl ((Fr0.yUp (l := []) (n := 55) (hz.up (by decide)) rfl) 55 (Nat.le_refl _)) q1_104 rfl (by decide) (show decode cX6_init 7 = .ok (.newarray .int, 2) by decide +kernel) ?_
  show Y E MX6_init (yRm 1 1 45) _ 9 [(0, .inr (.inr 55))] [.inr (.inr 56), .inr (.inr 55)] (yUp [] S) 56 1 45
  refine yi_putF 54 6 0 9 55 (z := 56) (by decide) rfl (by decide) (by decide) q2_90 rfl rfl rfl (show decode cX6_init 9 = .ok (.putfield 9, 3) by decide +kernel) rfl rfl (fun _ => ⟨rfl, rfl⟩) ?_
  exact y_vret (show decode cX6_init 12 = .ok (.return_, 1) by decide +kernel) rfl

set_option maxHeartbeats 4000000 in
set_option maxRecDepth 10000 in
theorem in_Plan_56 {E : yE} {S : ySt} (hz : Fr0 57 S) : Con E MX6_init 1 1 45 [.inr (.inr 57)] 57 S none (yUp [(56, 0, 58)] S) := by
  refine Con.ofY (by decide +kernel) (by decide) (fun hok _ => ?_)
  show Y E MX6_init (yRm 1 1 45) (yQf E (57 + 1) 1 45 none (yUp [(56, 0, 58)] S)) 0 [(0, .inr (.inr 57))] [] (yUp [] S) 57 0 0
  refine y_aload_n (show decode cX6_init 0 = .ok (.aload_n 0, 1) by decide +kernel) 0 rfl ?_
  refine y_objI q2_89 q1_28 q1_29 ⟨by decide, by decide⟩ (by decide) (show decode cX6_init 1 = .ok (.invokespecial 3, 3) by decide +kernel) ?_
  refine y_aload_n (show decode cX6_init 4 = .ok (.aload_n 0, 1) by decide +kernel) 0 rfl ?_
  refine y_bipush (show decode cX6_init 5 = .ok (.bipush 45, 2) by decide +kernel) rfl rfl ?_
  refine y_newI 45 rfl ((Fr0.yUp (l := []) (n := 57) (hz.up (by decide)) rfl) 57 (Nat.le_refl _)) q1_104 rfl (by decide) (show decode cX6_init 7 = .ok (.newarray .int, 2) by decide +kernel) ?_
  show Y E MX6_init (yRm 1 1 45) _ 9 [(0, .inr (.inr 57))] [.inr (.inr 58), .inr (.inr 57)] (yUp [] S) 58 1 45
  refine yi_putF 56 6 0 9 57 (z := 58) (by decide) rfl (by decide) (by decide) q2_90 rfl rfl rfl (show decode cX6_init 9 = .ok (.putfield 9, 3) by decide +kernel) rfl rfl (fun _ => ⟨rfl, rfl⟩) ?_
  exact y_vret (show decode cX6_init 12 = .ok (.return_, 1) by decide +kernel) rfl

abbrev MX3_init : yM := (yX3_init, cX3_init, 1, none)
set_option maxHeartbeats 4000000 in
set_option maxRecDepth 10000 in
theorem in_Days_59 {E : yE} {S : ySt} (hz : Fr0 60 S) : Con E MX3_init 1 5 15599 [.inr (.inr 60)] 60 S none (yUp [(59, 4, 65), (59, 3, 64), (59, 2, 63), (59, 1, 62), (59, 0, 61)] S) := by
  refine Con.ofY (by decide +kernel) (by decide) (fun hok _ => ?_)
  show Y E MX3_init (yRm 1 5 15599) (yQf E (60 + 5) 5 15599 none (yUp [(59, 4, 65), (59, 3, 64), (59, 2, 63), (59, 1, 62), (59, 0, 61)] S)) 0 [(0, .inr (.inr 60))] [] (yUp [] S) 60 0 0
  refine y_aload_n (show decode cX3_init 0 = .ok (.aload_n 0, 1) by decide +kernel) 0 rfl ?_
  refine y_objI q2_149 q1_28 q1_29 ⟨by decide, by decide⟩ (by decide) (show decode cX3_init 1 = .ok (.invokespecial 3, 3) by decide +kernel) ?_
  refine y_aload_n (show decode cX3_init 4 = .ok (.aload_n 0, 1) by decide +kernel) 0 rfl ?_
  refine y_sipush (show decode cX3_init 5 = .ok (.sipush 7776, 3) by decide +kernel) rfl rfl ?_
  refine y_newI 7776 rfl ((Fr0.yUp (l := []) (n := 60) (hz.up (by decide)) rfl) 60 (Nat.le_refl _)) q1_104 rfl (by decide) (show decode cX3_init 8 = .ok (.newarray .int, 2) by decide +kernel) ?_
  show Y E MX3_init (yRm 1 5 15599) _ 10 [(0, .inr (.inr 60))] [.inr (.inr 61), .inr (.inr 60)] (yUp [] S) 61 1 7776
  refine yi_putF 59 3 0 9 60 (z := 61) (by decide) rfl (by decide) (by decide) q2_150 rfl rfl rfl (show decode cX3_init 10 = .ok (.putfield 9, 3) by decide +kernel) rfl rfl (fun _ => ⟨rfl, rfl⟩) ?_
  refine y_aload_n (show decode cX3_init 13 = .ok (.aload_n 0, 1) by decide +kernel) 0 rfl ?_
  refine y_sipush (show decode cX3_init 14 = .ok (.sipush 7776, 3) by decide +kernel) rfl rfl ?_
  refine y_newI 7776 rfl ((Fr0.yUp (l := [(59, 0, 61)]) (n := 61) (hz.up (by decide)) rfl) 61 (Nat.le_refl _)) q1_104 rfl (by decide) (show decode cX3_init 17 = .ok (.newarray .int, 2) by decide +kernel) ?_
  show Y E MX3_init (yRm 1 5 15599) _ 19 [(0, .inr (.inr 60))] [.inr (.inr 62), .inr (.inr 60)] (yUp [(59, 0, 61)] S) 62 2 15552
  refine yi_putF 59 3 1 15 61 (z := 62) (by decide) rfl (by decide) (by decide) q2_151 rfl rfl rfl (show decode cX3_init 19 = .ok (.putfield 15, 3) by decide +kernel) rfl rfl (fun _ => ⟨rfl, rfl⟩) ?_
  refine y_aload_n (show decode cX3_init 22 = .ok (.aload_n 0, 1) by decide +kernel) 0 rfl ?_
  refine y_bipush (show decode cX3_init 23 = .ok (.bipush 36, 2) by decide +kernel) rfl rfl ?_
  refine y_newI 36 rfl ((Fr0.yUp (l := [(59, 1, 62), (59, 0, 61)]) (n := 62) (hz.up (by decide)) rfl) 62 (Nat.le_refl _)) q1_104 rfl (by decide) (show decode cX3_init 25 = .ok (.newarray .int, 2) by decide +kernel) ?_
  show Y E MX3_init (yRm 1 5 15599) _ 27 [(0, .inr (.inr 60))] [.inr (.inr 63), .inr (.inr 60)] (yUp [(59, 1, 62), (59, 0, 61)] S) 63 3 15588
  refine yi_putF 59 3 2 18 62 (z := 63) (by decide) rfl (by decide) (by decide) q2_152 rfl rfl rfl (show decode cX3_init 27 = .ok (.putfield 18, 3) by decide +kernel) rfl rfl (fun _ => ⟨rfl, rfl⟩) ?_
  refine y_aload_n (show decode cX3_init 30 = .ok (.aload_n 0, 1) by decide +kernel) 0 rfl ?_
  refine y_bipush (show decode cX3_init 31 = .ok (.bipush 6, 2) by decide +kernel) rfl rfl ?_
  refine y_newI 6 rfl ((Fr0.yUp (l := [(59, 2, 63), (59, 1, 62), (59, 0, 61)]) (n := 63) (hz.up (by decide)) rfl) 63 (Nat.le_refl _)) q1_104 rfl (by decide) (show decode cX3_init 33 = .ok (.newarray .int, 2) by decide +kernel) ?_
  show Y E MX3_init (yRm 1 5 15599) _ 35 [(0, .inr (.inr 60))] [.inr (.inr 64), .inr (.inr 60)] (yUp [(59, 2, 63), (59, 1, 62), (59, 0, 61)] S) 64 4 15594
  refine yi_putF 59 3 3 21 63 (z := 64) (by decide) rfl (by decide) (by decide) q2_153 rfl rfl rfl (show decode cX3_init 35 = .ok (.putfield 21, 3) by decide +kernel) rfl rfl (fun _ => ⟨rfl, rfl⟩) ?_
  refine y_aload_n (show decode cX3_init 38 = .ok (.aload_n 0, 1) by decide +kernel) 0 rfl ?_
  refine y_iconst (show decode cX3_init 39 = .ok (.iconst 5, 1) by decide +kernel) rfl ?_
  refine y_newI 5 rfl ((Fr0.yUp (l := [(59, 3, 64), (59, 2, 63), (59, 1, 62), (59, 0, 61)]) (n := 64) (hz.up (by decide)) rfl) 64 (Nat.le_refl _)) q1_104 rfl (by decide) (show decode cX3_init 40 = .ok (.newarray .int, 2) by decide +kernel) ?_
  show Y E MX3_init (yRm 1 5 15599) _ 42 [(0, .inr (.inr 60))] [.inr (.inr 65), .inr (.inr 60)] (yUp [(59, 3, 64), (59, 2, 63), (59, 1, 62), (59, 0, 61)] S) 65 5 15599
  refine yi_putF 59 3 4 24 64 (z := 65) (by decide) rfl (by decide) (by decide) q2_154 rfl rfl rfl (show decode cX3_init 42 = .ok (.putfield 24, 3) by decide +kernel) rfl rfl (fun _ => ⟨rfl, rfl⟩) ?_
  exact y_vret (show decode cX3_init 45 = .ok (.return_, 1) by decide +kernel) rfl

abbrev MX2_init : yM := (yX2_init, cX2_init, 2, none)
set_option maxHeartbeats 4000000 in
set_option maxRecDepth 10000 in
theorem in_Day_78 {E : yE} {S : ySt} (hz : Fr0 79 S) : Con E MX2_init 1 4 347 [.inr (.inr 79), .inr (.inr 14)] 79 S none (yUp [(78, 0, 14), (78, 7, 83), (78, 6, 82), (78, 5, 81), (78, 4, 80)] S) := by
  refine Con.ofY (by decide +kernel) (by decide) (fun hok _ => ?_)
  show Y E MX2_init (yRm 1 4 347) (yQf E (79 + 4) 4 347 none (yUp [(78, 0, 14), (78, 7, 83), (78, 6, 82), (78, 5, 81), (78, 4, 80)] S)) 0 [(0, .inr (.inr 79)), (1, .inr (.inr 14))] [] (yUp [] S) 79 0 0
  refine y_aload_n (show decode cX2_init 0 = .ok (.aload_n 0, 1) by decide +kernel) 0 rfl ?_
  refine y_objI q2_173 q1_28 q1_29 ⟨by decide, by decide⟩ (by decide) (show decode cX2_init 1 = .ok (.invokespecial 3, 3) by decide +kernel) ?_
  refine y_aload_n (show decode cX2_init 4 = .ok (.aload_n 0, 1) by decide +kernel) 0 rfl ?_
  refine y_iconst (show decode cX2_init 5 = .ok (.iconst 5, 1) by decide +kernel) rfl ?_
  refine y_newI 5 rfl ((Fr0.yUp (l := []) (n := 79) (hz.up (by decide)) rfl) 79 (Nat.le_refl _)) q1_104 rfl (by decide) (show decode cX2_init 6 = .ok (.newarray .int, 2) by decide +kernel) ?_
  show Y E MX2_init (yRm 1 4 347) _ 8 [(0, .inr (.inr 79)), (1, .inr (.inr 14))] [.inr (.inr 80), .inr (.inr 79)] (yUp [] S) 80 1 5
  refine yi_putF 78 2 4 9 79 (z := 80) (by decide) rfl (by decide) (by decide) q2_186 rfl rfl rfl (show decode cX2_init 8 = .ok (.putfield 9, 3) by decide +kernel) rfl rfl (fun _ => ⟨rfl, rfl⟩) ?_
  refine y_aload_n (show decode cX2_init 11 = .ok (.aload_n 0, 1) by decide +kernel) 0 rfl ?_
  refine y_bipush (show decode cX2_init 12 = .ok (.bipush 36, 2) by decide +kernel) rfl rfl ?_
  refine y_newI 36 rfl ((Fr0.yUp (l := [(78, 4, 80)]) (n := 80) (hz.up (by decide)) rfl) 80 (Nat.le_refl _)) q1_104 rfl (by decide) (show decode cX2_init 14 = .ok (.newarray .int, 2) by decide +kernel) ?_
  show Y E MX2_init (yRm 1 4 347) _ 16 [(0, .inr (.inr 79)), (1, .inr (.inr 14))] [.inr (.inr 81), .inr (.inr 79)] (yUp [(78, 4, 80)] S) 81 2 41
  refine yi_putF 78 2 5 15 80 (z := 81) (by decide) rfl (by decide) (by decide) q2_188 rfl rfl rfl (show decode cX2_init 16 = .ok (.putfield 15, 3) by decide +kernel) rfl rfl (fun _ => ⟨rfl, rfl⟩) ?_
  refine y_aload_n (show decode cX2_init 19 = .ok (.aload_n 0, 1) by decide +kernel) 0 rfl ?_
  refine y_sipush (show decode cX2_init 20 = .ok (.sipush 270, 3) by decide +kernel) rfl rfl ?_
  refine y_newI 270 rfl ((Fr0.yUp (l := [(78, 5, 81), (78, 4, 80)]) (n := 81) (hz.up (by decide)) rfl) 81 (Nat.le_refl _)) q1_104 rfl (by decide) (show decode cX2_init 23 = .ok (.newarray .int, 2) by decide +kernel) ?_
  show Y E MX2_init (yRm 1 4 347) _ 25 [(0, .inr (.inr 79)), (1, .inr (.inr 14))] [.inr (.inr 82), .inr (.inr 79)] (yUp [(78, 5, 81), (78, 4, 80)] S) 82 3 311
  refine yi_putF 78 2 6 18 81 (z := 82) (by decide) rfl (by decide) (by decide) q2_190 rfl rfl rfl (show decode cX2_init 25 = .ok (.putfield 18, 3) by decide +kernel) rfl rfl (fun _ => ⟨rfl, rfl⟩) ?_
  refine y_aload_n (show decode cX2_init 28 = .ok (.aload_n 0, 1) by decide +kernel) 0 rfl ?_
  refine y_bipush (show decode cX2_init 29 = .ok (.bipush 36, 2) by decide +kernel) rfl rfl ?_
  refine y_newI 36 rfl ((Fr0.yUp (l := [(78, 6, 82), (78, 5, 81), (78, 4, 80)]) (n := 82) (hz.up (by decide)) rfl) 82 (Nat.le_refl _)) q1_104 rfl (by decide) (show decode cX2_init 31 = .ok (.newarray .int, 2) by decide +kernel) ?_
  show Y E MX2_init (yRm 1 4 347) _ 33 [(0, .inr (.inr 79)), (1, .inr (.inr 14))] [.inr (.inr 83), .inr (.inr 79)] (yUp [(78, 6, 82), (78, 5, 81), (78, 4, 80)] S) 83 4 347
  refine yi_putF 78 2 7 21 82 (z := 83) (by decide) rfl (by decide) (by decide) q2_191 rfl rfl rfl (show decode cX2_init 33 = .ok (.putfield 21, 3) by decide +kernel) rfl rfl (fun _ => ⟨rfl, rfl⟩) ?_
  refine y_aload_n (show decode cX2_init 36 = .ok (.aload_n 0, 1) by decide +kernel) 0 rfl ?_
  refine y_aload_n (show decode cX2_init 37 = .ok (.aload_n 1, 1) by decide +kernel) 1 rfl ?_
  refine yi_putR 78 2 0 24 13 (z := 14) (by decide) rfl (by decide) (by decide) q2_174 rfl (show decode cX2_init 38 = .ok (.putfield 24, 3) by decide +kernel) rfl rfl (fun _ => ⟨rfl, rfl⟩) ?_
  exact y_vret (show decode cX2_init 41 = .ok (.return_, 1) by decide +kernel) rfl

abbrev MX0_init : yM := (yX0_init, cX0_init, 2, none)
set_option maxHeartbeats 4000000 in
set_option maxRecDepth 10000 in
theorem in_Answers_58 {E : yE} {S : ySt} (hz : Fr0 59 S) : Con E MX0_init 2 24 23899 [.inr (.inr 59), .inr (.inr 14)] 59 S none (yUp [(58, 1, 79), (78, 0, 14), (78, 7, 83), (78, 6, 82), (78, 5, 81), (78, 4, 80), (58, 0, 14), (58, 12, 78), (58, 11, 77), (58, 10, 76), (58, 9, 75), (58, 8, 74), (58, 7, 73), (58, 6, 72), (58, 5, 68), (67, 2, 71), (67, 1, 70), (67, 0, 69), (58, 4, 67), (58, 3, 66), (58, 2, 60), (59, 4, 65), (59, 3, 64), (59, 2, 63), (59, 1, 62), (59, 0, 61)] S) := by
  refine Con.ofY (by decide +kernel) (by decide) (fun hok _ => ?_)
  show Y E MX0_init (yRm 2 24 23899) (yQf E (59 + 24) 24 23899 none (yUp [(58, 1, 79), (78, 0, 14), (78, 7, 83), (78, 6, 82), (78, 5, 81), (78, 4, 80), (58, 0, 14), (58, 12, 78), (58, 11, 77), (58, 10, 76), (58, 9, 75), (58, 8, 74), (58, 7, 73), (58, 6, 72), (58, 5, 68), (67, 2, 71), (67, 1, 70), (67, 0, 69), (58, 4, 67), (58, 3, 66), (58, 2, 60), (59, 4, 65), (59, 3, 64), (59, 2, 63), (59, 1, 62), (59, 0, 61)] S)) 0 [(0, .inr (.inr 59)), (1, .inr (.inr 14))] [] (yUp [] S) 59 0 0
  refine y_aload_n (show decode cX0_init 0 = .ok (.aload_n 0, 1) by decide +kernel) 0 rfl ?_
  refine y_objI q2_143 q1_28 q1_29 ⟨by decide, by decide⟩ (by decide) (show decode cX0_init 1 = .ok (.invokespecial 3, 3) by decide +kernel) ?_
  refine y_aload_n (show decode cX0_init 4 = .ok (.aload_n 0, 1) by decide +kernel) 0 rfl ?_
  refine y_new 3 9 rfl (by decide) ((Fr0.yUp (l := []) (n := 59) (hz.up (by decide)) rfl) 59 (Nat.le_refl _)) q2_144 q2_145 q1_13 (by decide) (show decode cX0_init 5 = .ok (.new 9, 3) by decide +kernel) ?_
  show Y E MX0_init (yRm 2 24 23899) _ 8 [(0, .inr (.inr 59)), (1, .inr (.inr 14))] [.inr (.inr 60), .inr (.inr 59)] (yUp [] S) 60 1 5
  refine y_dup (show decode cX0_init 8 = .ok (.dup, 1) by decide +kernel) rfl ?_
  refine y_callIN (np := 0) (st := [.inr (.inr 60), .inr (.inr 59)]) (as := []) 59 (in_Days_59 (Fr0.yUp (l := []) (n := 60) (hz.up (by decide)) rfl)) q2_148 rfl rfl (List.mem_of_getElem? (i := 5) rfl) q2_147 q1_13 (by decide) (by decide +kernel) (by decide) rfl (by decide) (show decode cX0_init 9 = .ok (.invokespecial 11, 3) by decide +kernel) rfl ?_
  show Y E MX0_init (yRm 2 24 23899) _ 12 [(0, .inr (.inr 59)), (1, .inr (.inr 14))] [.inr (.inr 60), .inr (.inr 59)] (yUp [(59, 4, 65), (59, 3, 64), (59, 2, 63), (59, 1, 62), (59, 0, 61)] S) 65 6 15604
  refine yi_putF 58 0 2 12 59 (z := 60) (by decide) rfl (by decide) (by decide) q2_219 rfl rfl rfl (show decode cX0_init 12 = .ok (.putfield 12, 3) by decide +kernel) rfl rfl (fun _ => ⟨rfl, rfl⟩) ?_
  refine y_aload_n (show decode cX0_init 15 = .ok (.aload_n 0, 1) by decide +kernel) 0 rfl ?_
  refine y_iconst (show decode cX0_init 16 = .ok (.iconst 3, 1) by decide +kernel) rfl ?_
  refine y_newZ 3 rfl ((Fr0.yUp (l := [(58, 2, 60), (59, 4, 65), (59, 3, 64), (59, 2, 63), (59, 1, 62), (59, 0, 61)]) (n := 65) (hz.up (by decide)) rfl) 65 (Nat.le_refl _)) q1_179 rfl (by decide) (show decode cX0_init 17 = .ok (.newarray .boolean, 2) by decide +kernel) ?_
  show Y E MX0_init (yRm 2 24 23899) _ 19 [(0, .inr (.inr 59)), (1, .inr (.inr 14))] [.inr (.inr 66), .inr (.inr 59)] (yUp [(58, 2, 60), (59, 4, 65), (59, 3, 64), (59, 2, 63), (59, 1, 62), (59, 0, 61)] S) 66 7 15607
  refine yi_putF 58 0 3 18 65 (z := 66) (by decide) rfl (by decide) (by decide) q2_220 rfl rfl rfl (show decode cX0_init 19 = .ok (.putfield 18, 3) by decide +kernel) rfl rfl (fun _ => ⟨rfl, rfl⟩) ?_
  refine y_aload_n (show decode cX0_init 22 = .ok (.aload_n 0, 1) by decide +kernel) 0 rfl ?_
  refine y_iconst (show decode cX0_init 23 = .ok (.iconst 3, 1) by decide +kernel) rfl ?_
  refine y_newI 3 rfl ((Fr0.yUp (l := [(58, 3, 66), (58, 2, 60), (59, 4, 65), (59, 3, 64), (59, 2, 63), (59, 1, 62), (59, 0, 61)]) (n := 66) (hz.up (by decide)) rfl) 66 (Nat.le_refl _)) q1_104 rfl (by decide) (show decode cX0_init 24 = .ok (.newarray .int, 2) by decide +kernel) ?_
  show Y E MX0_init (yRm 2 24 23899) _ 26 [(0, .inr (.inr 59)), (1, .inr (.inr 14))] [.inr (.inr 67), .inr (.inr 59)] (yUp [(58, 3, 66), (58, 2, 60), (59, 4, 65), (59, 3, 64), (59, 2, 63), (59, 1, 62), (59, 0, 61)] S) 67 8 15610
  refine yi_putF 58 0 4 22 66 (z := 67) (by decide) rfl (by decide) (by decide) q2_221 rfl rfl rfl (show decode cX0_init 26 = .ok (.putfield 22, 3) by decide +kernel) rfl rfl (fun _ => ⟨rfl, rfl⟩) ?_
  refine y_aload_n (show decode cX0_init 29 = .ok (.aload_n 0, 1) by decide +kernel) 0 rfl ?_
  refine y_iconst (show decode cX0_init 30 = .ok (.iconst 3, 1) by decide +kernel) rfl ?_
  refine y_bipush (show decode cX0_init 31 = .ok (.bipush 45, 2) by decide +kernel) rfl rfl ?_
  refine y_mna2 26 rfl (by decide) (Fr0.yUp (l := [(58, 4, 67), (58, 3, 66), (58, 2, 60), (59, 4, 65), (59, 3, 64), (59, 2, 63), (59, 1, 62), (59, 0, 61)]) (n := 67) (hz.up (by decide)) rfl) q2_166 q1_104 (by decide) (by decide) (show decode cX0_init 33 = .ok (.multianewarray 26 2, 4) by decide +kernel) ?_
  show Y E MX0_init (yRm 2 24 23899) _ 37 [(0, .inr (.inr 59)), (1, .inr (.inr 14))] [.inr (.inr 68), .inr (.inr 59)] (yUp [(67, 2, 71), (67, 1, 70), (67, 0, 69), (58, 4, 67), (58, 3, 66), (58, 2, 60), (59, 4, 65), (59, 3, 64), (59, 2, 63), (59, 1, 62), (59, 0, 61)] S) 71 12 15748
  refine yi_putF 58 0 5 28 67 (z := 68) (by decide) rfl (by decide) (by decide) q2_222 rfl rfl rfl (show decode cX0_init 37 = .ok (.putfield 28, 3) by decide +kernel) rfl rfl (fun _ => ⟨rfl, rfl⟩) ?_
  refine y_aload_n (show decode cX0_init 40 = .ok (.aload_n 0, 1) by decide +kernel) 0 rfl ?_
  refine y_iconst (show decode cX0_init 41 = .ok (.iconst 3, 1) by decide +kernel) rfl ?_
  refine y_newZ 3 rfl ((Fr0.yUp (l := [(58, 5, 68), (67, 2, 71), (67, 1, 70), (67, 0, 69), (58, 4, 67), (58, 3, 66), (58, 2, 60), (59, 4, 65), (59, 3, 64), (59, 2, 63), (59, 1, 62), (59, 0, 61)]) (n := 71) (hz.up (by decide)) rfl) 71 (Nat.le_refl _)) q1_179 rfl (by decide) (show decode cX0_init 42 = .ok (.newarray .boolean, 2) by decide +kernel) ?_
  show Y E MX0_init (yRm 2 24 23899) _ 44 [(0, .inr (.inr 59)), (1, .inr (.inr 14))] [.inr (.inr 72), .inr (.inr 59)] (yUp [(58, 5, 68), (67, 2, 71), (67, 1, 70), (67, 0, 69), (58, 4, 67), (58, 3, 66), (58, 2, 60), (59, 4, 65), (59, 3, 64), (59, 2, 63), (59, 1, 62), (59, 0, 61)] S) 72 13 15751
  refine yi_putF 58 0 6 31 71 (z := 72) (by decide) rfl (by decide) (by decide) q2_223 rfl rfl rfl (show decode cX0_init 44 = .ok (.putfield 31, 3) by decide +kernel) rfl rfl (fun _ => ⟨rfl, rfl⟩) ?_
  refine y_aload_n (show decode cX0_init 47 = .ok (.aload_n 0, 1) by decide +kernel) 0 rfl ?_
  refine y_iconst (show decode cX0_init 48 = .ok (.iconst 3, 1) by decide +kernel) rfl ?_
  refine y_newI 3 rfl ((Fr0.yUp (l := [(58, 6, 72), (58, 5, 68), (67, 2, 71), (67, 1, 70), (67, 0, 69), (58, 4, 67), (58, 3, 66), (58, 2, 60), (59, 4, 65), (59, 3, 64), (59, 2, 63), (59, 1, 62), (59, 0, 61)]) (n := 72) (hz.up (by decide)) rfl) 72 (Nat.le_refl _)) q1_104 rfl (by decide) (show decode cX0_init 49 = .ok (.newarray .int, 2) by decide +kernel) ?_
  show Y E MX0_init (yRm 2 24 23899) _ 51 [(0, .inr (.inr 59)), (1, .inr (.inr 14))] [.inr (.inr 73), .inr (.inr 59)] (yUp [(58, 6, 72), (58, 5, 68), (67, 2, 71), (67, 1, 70), (67, 0, 69), (58, 4, 67), (58, 3, 66), (58, 2, 60), (59, 4, 65), (59, 3, 64), (59, 2, 63), (59, 1, 62), (59, 0, 61)] S) 73 14 15754
  refine yi_putF 58 0 7 34 72 (z := 73) (by decide) rfl (by decide) (by decide) q2_224 rfl rfl rfl (show decode cX0_init 51 = .ok (.putfield 34, 3) by decide +kernel) rfl rfl (fun _ => ⟨rfl, rfl⟩) ?_
  refine y_aload_n (show decode cX0_init 54 = .ok (.aload_n 0, 1) by decide +kernel) 0 rfl ?_
  refine y_iconst (show decode cX0_init 55 = .ok (.iconst 3, 1) by decide +kernel) rfl ?_
  refine y_newI 3 rfl ((Fr0.yUp (l := [(58, 7, 73), (58, 6, 72), (58, 5, 68), (67, 2, 71), (67, 1, 70), (67, 0, 69), (58, 4, 67), (58, 3, 66), (58, 2, 60), (59, 4, 65), (59, 3, 64), (59, 2, 63), (59, 1, 62), (59, 0, 61)]) (n := 73) (hz.up (by decide)) rfl) 73 (Nat.le_refl _)) q1_104 rfl (by decide) (show decode cX0_init 56 = .ok (.newarray .int, 2) by decide +kernel) ?_
  show Y E MX0_init (yRm 2 24 23899) _ 58 [(0, .inr (.inr 59)), (1, .inr (.inr 14))] [.inr (.inr 74), .inr (.inr 59)] (yUp [(58, 7, 73), (58, 6, 72), (58, 5, 68), (67, 2, 71), (67, 1, 70), (67, 0, 69), (58, 4, 67), (58, 3, 66), (58, 2, 60), (59, 4, 65), (59, 3, 64), (59, 2, 63), (59, 1, 62), (59, 0, 61)] S) 74 15 15757
  refine yi_putF 58 0 8 37 73 (z := 74) (by decide) rfl (by decide) (by decide) q2_226 rfl rfl rfl (show decode cX0_init 58 = .ok (.putfield 37, 3) by decide +kernel) rfl rfl (fun _ => ⟨rfl, rfl⟩) ?_
  refine y_aload_n (show decode cX0_init 61 = .ok (.aload_n 0, 1) by decide +kernel) 0 rfl ?_
  refine y_iconst (show decode cX0_init 62 = .ok (.iconst 3, 1) by decide +kernel) rfl ?_
  refine y_newI 3 rfl ((Fr0.yUp (l := [(58, 8, 74), (58, 7, 73), (58, 6, 72), (58, 5, 68), (67, 2, 71), (67, 1, 70), (67, 0, 69), (58, 4, 67), (58, 3, 66), (58, 2, 60), (59, 4, 65), (59, 3, 64), (59, 2, 63), (59, 1, 62), (59, 0, 61)]) (n := 74) (hz.up (by decide)) rfl) 74 (Nat.le_refl _)) q1_104 rfl (by decide) (show decode cX0_init 63 = .ok (.newarray .int, 2) by decide +kernel) ?_
  show Y E MX0_init (yRm 2 24 23899) _ 65 [(0, .inr (.inr 59)), (1, .inr (.inr 14))] [.inr (.inr 75), .inr (.inr 59)] (yUp [(58, 8, 74), (58, 7, 73), (58, 6, 72), (58, 5, 68), (67, 2, 71), (67, 1, 70), (67, 0, 69), (58, 4, 67), (58, 3, 66), (58, 2, 60), (59, 4, 65), (59, 3, 64), (59, 2, 63), (59, 1, 62), (59, 0, 61)] S) 75 16 15760
  refine yi_putF 58 0 9 40 74 (z := 75) (by decide) rfl (by decide) (by decide) q2_228 rfl rfl rfl (show decode cX0_init 65 = .ok (.putfield 40, 3) by decide +kernel) rfl rfl (fun _ => ⟨rfl, rfl⟩) ?_
  refine y_aload_n (show decode cX0_init 68 = .ok (.aload_n 0, 1) by decide +kernel) 0 rfl ?_
  refine y_iconst (show decode cX0_init 69 = .ok (.iconst 3, 1) by decide +kernel) rfl ?_
  refine y_newI 3 rfl ((Fr0.yUp (l := [(58, 9, 75), (58, 8, 74), (58, 7, 73), (58, 6, 72), (58, 5, 68), (67, 2, 71), (67, 1, 70), (67, 0, 69), (58, 4, 67), (58, 3, 66), (58, 2, 60), (59, 4, 65), (59, 3, 64), (59, 2, 63), (59, 1, 62), (59, 0, 61)]) (n := 75) (hz.up (by decide)) rfl) 75 (Nat.le_refl _)) q1_104 rfl (by decide) (show decode cX0_init 70 = .ok (.newarray .int, 2) by decide +kernel) ?_
  show Y E MX0_init (yRm 2 24 23899) _ 72 [(0, .inr (.inr 59)), (1, .inr (.inr 14))] [.inr (.inr 76), .inr (.inr 59)] (yUp [(58, 9, 75), (58, 8, 74), (58, 7, 73), (58, 6, 72), (58, 5, 68), (67, 2, 71), (67, 1, 70), (67, 0, 69), (58, 4, 67), (58, 3, 66), (58, 2, 60), (59, 4, 65), (59, 3, 64), (59, 2, 63), (59, 1, 62), (59, 0, 61)] S) 76 17 15763
  refine yi_putF 58 0 10 43 75 (z := 76) (by decide) rfl (by decide) (by decide) q2_229 rfl rfl rfl (show decode cX0_init 72 = .ok (.putfield 43, 3) by decide +kernel) rfl rfl (fun _ => ⟨rfl, rfl⟩) ?_
  refine y_aload_n (show decode cX0_init 75 = .ok (.aload_n 0, 1) by decide +kernel) 0 rfl ?_
  refine y_iconst (show decode cX0_init 76 = .ok (.iconst 3, 1) by decide +kernel) rfl ?_
  refine y_newI 3 rfl ((Fr0.yUp (l := [(58, 10, 76), (58, 9, 75), (58, 8, 74), (58, 7, 73), (58, 6, 72), (58, 5, 68), (67, 2, 71), (67, 1, 70), (67, 0, 69), (58, 4, 67), (58, 3, 66), (58, 2, 60), (59, 4, 65), (59, 3, 64), (59, 2, 63), (59, 1, 62), (59, 0, 61)]) (n := 76) (hz.up (by decide)) rfl) 76 (Nat.le_refl _)) q1_104 rfl (by decide) (show decode cX0_init 77 = .ok (.newarray .int, 2) by decide +kernel) ?_
  show Y E MX0_init (yRm 2 24 23899) _ 79 [(0, .inr (.inr 59)), (1, .inr (.inr 14))] [.inr (.inr 77), .inr (.inr 59)] (yUp [(58, 10, 76), (58, 9, 75), (58, 8, 74), (58, 7, 73), (58, 6, 72), (58, 5, 68), (67, 2, 71), (67, 1, 70), (67, 0, 69), (58, 4, 67), (58, 3, 66), (58, 2, 60), (59, 4, 65), (59, 3, 64), (59, 2, 63), (59, 1, 62), (59, 0, 61)] S) 77 18 15766
  refine yi_putF 58 0 11 46 76 (z := 77) (by decide) rfl (by decide) (by decide) q2_231 rfl rfl rfl (show decode cX0_init 79 = .ok (.putfield 46, 3) by decide +kernel) rfl rfl (fun _ => ⟨rfl, rfl⟩) ?_
  refine y_aload_n (show decode cX0_init 82 = .ok (.aload_n 0, 1) by decide +kernel) 0 rfl ?_
  refine y_sipush (show decode cX0_init 83 = .ok (.sipush 7776, 3) by decide +kernel) rfl rfl ?_
  refine y_newI 7776 rfl ((Fr0.yUp (l := [(58, 11, 77), (58, 10, 76), (58, 9, 75), (58, 8, 74), (58, 7, 73), (58, 6, 72), (58, 5, 68), (67, 2, 71), (67, 1, 70), (67, 0, 69), (58, 4, 67), (58, 3, 66), (58, 2, 60), (59, 4, 65), (59, 3, 64), (59, 2, 63), (59, 1, 62), (59, 0, 61)]) (n := 77) (hz.up (by decide)) rfl) 77 (Nat.le_refl _)) q1_104 rfl (by decide) (show decode cX0_init 86 = .ok (.newarray .int, 2) by decide +kernel) ?_
  show Y E MX0_init (yRm 2 24 23899) _ 88 [(0, .inr (.inr 59)), (1, .inr (.inr 14))] [.inr (.inr 78), .inr (.inr 59)] (yUp [(58, 11, 77), (58, 10, 76), (58, 9, 75), (58, 8, 74), (58, 7, 73), (58, 6, 72), (58, 5, 68), (67, 2, 71), (67, 1, 70), (67, 0, 69), (58, 4, 67), (58, 3, 66), (58, 2, 60), (59, 4, 65), (59, 3, 64), (59, 2, 63), (59, 1, 62), (59, 0, 61)] S) 78 19 23542
  refine yi_putF 58 0 12 49 77 (z := 78) (by decide) rfl (by decide) (by decide) q2_233 rfl rfl rfl (show decode cX0_init 88 = .ok (.putfield 49, 3) by decide +kernel) rfl rfl (fun _ => ⟨rfl, rfl⟩) ?_
  refine y_aload_n (show decode cX0_init 91 = .ok (.aload_n 0, 1) by decide +kernel) 0 rfl ?_
  refine y_aload_n (show decode cX0_init 92 = .ok (.aload_n 1, 1) by decide +kernel) 1 rfl ?_
  refine yi_putR 58 0 0 52 13 (z := 14) (by decide) rfl (by decide) (by decide) q2_217 rfl (show decode cX0_init 93 = .ok (.putfield 52, 3) by decide +kernel) rfl rfl (fun _ => ⟨rfl, rfl⟩) ?_
  refine y_aload_n (show decode cX0_init 96 = .ok (.aload_n 0, 1) by decide +kernel) 0 rfl ?_
  refine y_new 2 56 rfl (by decide) ((Fr0.yUp (l := [(58, 0, 14), (58, 12, 78), (58, 11, 77), (58, 10, 76), (58, 9, 75), (58, 8, 74), (58, 7, 73), (58, 6, 72), (58, 5, 68), (67, 2, 71), (67, 1, 70), (67, 0, 69), (58, 4, 67), (58, 3, 66), (58, 2, 60), (59, 4, 65), (59, 3, 64), (59, 2, 63), (59, 1, 62), (59, 0, 61)]) (n := 78) (hz.up (by decide)) rfl) 78 (Nat.le_refl _)) q2_168 q2_169 q1_14 (by decide) (show decode cX0_init 97 = .ok (.new 56, 3) by decide +kernel) ?_
  show Y E MX0_init (yRm 2 24 23899) _ 100 [(0, .inr (.inr 59)), (1, .inr (.inr 14))] [.inr (.inr 79), .inr (.inr 59)] (yUp [(58, 0, 14), (58, 12, 78), (58, 11, 77), (58, 10, 76), (58, 9, 75), (58, 8, 74), (58, 7, 73), (58, 6, 72), (58, 5, 68), (67, 2, 71), (67, 1, 70), (67, 0, 69), (58, 4, 67), (58, 3, 66), (58, 2, 60), (59, 4, 65), (59, 3, 64), (59, 2, 63), (59, 1, 62), (59, 0, 61)] S) 79 20 23552
  refine y_dup (show decode cX0_init 100 = .ok (.dup, 1) by decide +kernel) rfl ?_
  refine y_aload_n (show decode cX0_init 101 = .ok (.aload_n 1, 1) by decide +kernel) 1 rfl ?_
  refine y_callI (np := 1) (st := [.inr (.inr 79), .inr (.inr 59)]) (as := [.inr (.inr 14)]) 78 (in_Day_78 (Fr0.yUp (l := [(58, 0, 14), (58, 12, 78), (58, 11, 77), (58, 10, 76), (58, 9, 75), (58, 8, 74), (58, 7, 73), (58, 6, 72), (58, 5, 68), (67, 2, 71), (67, 1, 70), (67, 0, 69), (58, 4, 67), (58, 3, 66), (58, 2, 60), (59, 4, 65), (59, 3, 64), (59, 2, 63), (59, 1, 62), (59, 0, 61)]) (n := 79) (hz.up (by decide)) rfl)) q2_172 rfl rfl q2_170 q2_171 q1_14 (by decide) (by decide +kernel) (by decide) rfl (by decide) (show decode cX0_init 102 = .ok (.invokespecial 58, 3) by decide +kernel) rfl ?_
  show Y E MX0_init (yRm 2 24 23899) _ 105 [(0, .inr (.inr 59)), (1, .inr (.inr 14))] [.inr (.inr 79), .inr (.inr 59)] (yUp [(78, 0, 14), (78, 7, 83), (78, 6, 82), (78, 5, 81), (78, 4, 80), (58, 0, 14), (58, 12, 78), (58, 11, 77), (58, 10, 76), (58, 9, 75), (58, 8, 74), (58, 7, 73), (58, 6, 72), (58, 5, 68), (67, 2, 71), (67, 1, 70), (67, 0, 69), (58, 4, 67), (58, 3, 66), (58, 2, 60), (59, 4, 65), (59, 3, 64), (59, 2, 63), (59, 1, 62), (59, 0, 61)] S) 83 24 23899
  refine yi_putF 58 0 1 61 78 (z := 79) (by decide) rfl (by decide) (by decide) q2_218 rfl rfl rfl (show decode cX0_init 105 = .ok (.putfield 61, 3) by decide +kernel) rfl rfl (fun _ => ⟨rfl, rfl⟩) ?_
  exact y_vret (show decode cX0_init 108 = .ok (.return_, 1) by decide +kernel) rfl

set_option maxHeartbeats 4000000 in
set_option maxRecDepth 10000 in
theorem in_Earnest_83 {E : yE} {S : ySt} (hz : Fr0 84 S) : Con E MX4_init 1 2 10 [.inr (.inr 84)] 84 S none (yUp [(83, 1, 86), (83, 0, 85)] S) := by
  refine Con.ofY (by decide +kernel) (by decide) (fun hok _ => ?_)
  show Y E MX4_init (yRm 1 2 10) (yQf E (84 + 2) 2 10 none (yUp [(83, 1, 86), (83, 0, 85)] S)) 0 [(0, .inr (.inr 84))] [] (yUp [] S) 84 0 0
  refine y_aload_n (show decode cX4_init 0 = .ok (.aload_n 0, 1) by decide +kernel) 0 rfl ?_
  refine y_objI q1_110 q1_28 q1_29 ⟨by decide, by decide⟩ (by decide) (show decode cX4_init 1 = .ok (.invokespecial 3, 3) by decide +kernel) ?_
  refine y_aload_n (show decode cX4_init 4 = .ok (.aload_n 0, 1) by decide +kernel) 0 rfl ?_
  refine y_iconst (show decode cX4_init 5 = .ok (.iconst 5, 1) by decide +kernel) rfl ?_
  refine y_newI 5 rfl ((Fr0.yUp (l := []) (n := 84) (hz.up (by decide)) rfl) 84 (Nat.le_refl _)) q1_104 rfl (by decide) (show decode cX4_init 6 = .ok (.newarray .int, 2) by decide +kernel) ?_
  show Y E MX4_init (yRm 1 2 10) _ 8 [(0, .inr (.inr 84))] [.inr (.inr 85), .inr (.inr 84)] (yUp [] S) 85 1 5
  refine yi_putF 83 4 0 9 84 (z := 85) (by decide) rfl (by decide) (by decide) q1_111 rfl rfl rfl (show decode cX4_init 8 = .ok (.putfield 9, 3) by decide +kernel) rfl rfl (fun _ => ⟨rfl, rfl⟩) ?_
  refine y_aload_n (show decode cX4_init 11 = .ok (.aload_n 0, 1) by decide +kernel) 0 rfl ?_
  refine y_iconst (show decode cX4_init 12 = .ok (.iconst 5, 1) by decide +kernel) rfl ?_
  refine y_newI 5 rfl ((Fr0.yUp (l := [(83, 0, 85)]) (n := 85) (hz.up (by decide)) rfl) 85 (Nat.le_refl _)) q1_104 rfl (by decide) (show decode cX4_init 13 = .ok (.newarray .int, 2) by decide +kernel) ?_
  show Y E MX4_init (yRm 1 2 10) _ 15 [(0, .inr (.inr 84))] [.inr (.inr 86), .inr (.inr 84)] (yUp [(83, 0, 85)] S) 86 2 10
  refine yi_putF 83 4 1 15 85 (z := 86) (by decide) rfl (by decide) (by decide) q1_113 rfl rfl rfl (show decode cX4_init 15 = .ok (.putfield 15, 3) by decide +kernel) rfl rfl (fun _ => ⟨rfl, rfl⟩) ?_
  exact y_vret (show decode cX4_init 18 = .ok (.return_, 1) by decide +kernel) rfl

set_option maxHeartbeats 4000000 in
set_option maxRecDepth 10000 in
theorem in_Earnest_86 {E : yE} {S : ySt} (hz : Fr0 87 S) : Con E MX4_init 1 2 10 [.inr (.inr 87)] 87 S none (yUp [(86, 1, 89), (86, 0, 88)] S) := by
  refine Con.ofY (by decide +kernel) (by decide) (fun hok _ => ?_)
  show Y E MX4_init (yRm 1 2 10) (yQf E (87 + 2) 2 10 none (yUp [(86, 1, 89), (86, 0, 88)] S)) 0 [(0, .inr (.inr 87))] [] (yUp [] S) 87 0 0
  refine y_aload_n (show decode cX4_init 0 = .ok (.aload_n 0, 1) by decide +kernel) 0 rfl ?_
  refine y_objI q1_110 q1_28 q1_29 ⟨by decide, by decide⟩ (by decide) (show decode cX4_init 1 = .ok (.invokespecial 3, 3) by decide +kernel) ?_
  refine y_aload_n (show decode cX4_init 4 = .ok (.aload_n 0, 1) by decide +kernel) 0 rfl ?_
  refine y_iconst (show decode cX4_init 5 = .ok (.iconst 5, 1) by decide +kernel) rfl ?_
  refine y_newI 5 rfl ((Fr0.yUp (l := []) (n := 87) (hz.up (by decide)) rfl) 87 (Nat.le_refl _)) q1_104 rfl (by decide) (show decode cX4_init 6 = .ok (.newarray .int, 2) by decide +kernel) ?_
  show Y E MX4_init (yRm 1 2 10) _ 8 [(0, .inr (.inr 87))] [.inr (.inr 88), .inr (.inr 87)] (yUp [] S) 88 1 5
  refine yi_putF 86 4 0 9 87 (z := 88) (by decide) rfl (by decide) (by decide) q1_111 rfl rfl rfl (show decode cX4_init 8 = .ok (.putfield 9, 3) by decide +kernel) rfl rfl (fun _ => ⟨rfl, rfl⟩) ?_
  refine y_aload_n (show decode cX4_init 11 = .ok (.aload_n 0, 1) by decide +kernel) 0 rfl ?_
  refine y_iconst (show decode cX4_init 12 = .ok (.iconst 5, 1) by decide +kernel) rfl ?_
  refine y_newI 5 rfl ((Fr0.yUp (l := [(86, 0, 88)]) (n := 88) (hz.up (by decide)) rfl) 88 (Nat.le_refl _)) q1_104 rfl (by decide) (show decode cX4_init 13 = .ok (.newarray .int, 2) by decide +kernel) ?_
  show Y E MX4_init (yRm 1 2 10) _ 15 [(0, .inr (.inr 87))] [.inr (.inr 89), .inr (.inr 87)] (yUp [(86, 0, 88)] S) 89 2 10
  refine yi_putF 86 4 1 15 88 (z := 89) (by decide) rfl (by decide) (by decide) q1_113 rfl rfl rfl (show decode cX4_init 15 = .ok (.putfield 15, 3) by decide +kernel) rfl rfl (fun _ => ⟨rfl, rfl⟩) ?_
  exact y_vret (show decode cX4_init 18 = .ok (.return_, 1) by decide +kernel) rfl

set_option maxHeartbeats 4000000 in
set_option maxRecDepth 10000 in
theorem in_Earnest_89 {E : yE} {S : ySt} (hz : Fr0 90 S) : Con E MX4_init 1 2 10 [.inr (.inr 90)] 90 S none (yUp [(89, 1, 92), (89, 0, 91)] S) := by
  refine Con.ofY (by decide +kernel) (by decide) (fun hok _ => ?_)
  show Y E MX4_init (yRm 1 2 10) (yQf E (90 + 2) 2 10 none (yUp [(89, 1, 92), (89, 0, 91)] S)) 0 [(0, .inr (.inr 90))] [] (yUp [] S) 90 0 0
  refine y_aload_n (show decode cX4_init 0 = .ok (.aload_n 0, 1) by decide +kernel) 0 rfl ?_
  refine y_objI q1_110 q1_28 q1_29 ⟨by decide, by decide⟩ (by decide) (show decode cX4_init 1 = .ok (.invokespecial 3, 3) by decide +kernel) ?_
  refine y_aload_n (show decode cX4_init 4 = .ok (.aload_n 0, 1) by decide +kernel) 0 rfl ?_
  refine y_iconst (show decode cX4_init 5 = .ok (.iconst 5, 1) by decide +kernel) rfl ?_
  refine y_newI 5 rfl ((Fr0.yUp (l := []) (n := 90) (hz.up (by decide)) rfl) 90 (Nat.le_refl _)) q1_104 rfl (by decide) (show decode cX4_init 6 = .ok (.newarray .int, 2) by decide +kernel) ?_
  show Y E MX4_init (yRm 1 2 10) _ 8 [(0, .inr (.inr 90))] [.inr (.inr 91), .inr (.inr 90)] (yUp [] S) 91 1 5
  refine yi_putF 89 4 0 9 90 (z := 91) (by decide) rfl (by decide) (by decide) q1_111 rfl rfl rfl (show decode cX4_init 8 = .ok (.putfield 9, 3) by decide +kernel) rfl rfl (fun _ => ⟨rfl, rfl⟩) ?_
  refine y_aload_n (show decode cX4_init 11 = .ok (.aload_n 0, 1) by decide +kernel) 0 rfl ?_
  refine y_iconst (show decode cX4_init 12 = .ok (.iconst 5, 1) by decide +kernel) rfl ?_
  refine y_newI 5 rfl ((Fr0.yUp (l := [(89, 0, 91)]) (n := 91) (hz.up (by decide)) rfl) 91 (Nat.le_refl _)) q1_104 rfl (by decide) (show decode cX4_init 13 = .ok (.newarray .int, 2) by decide +kernel) ?_
  show Y E MX4_init (yRm 1 2 10) _ 15 [(0, .inr (.inr 90))] [.inr (.inr 92), .inr (.inr 90)] (yUp [(89, 0, 91)] S) 92 2 10
  refine yi_putF 89 4 1 15 91 (z := 92) (by decide) rfl (by decide) (by decide) q1_113 rfl rfl rfl (show decode cX4_init 15 = .ok (.putfield 15, 3) by decide +kernel) rfl rfl (fun _ => ⟨rfl, rfl⟩) ?_
  exact y_vret (show decode cX4_init 18 = .ok (.return_, 1) by decide +kernel) rfl
