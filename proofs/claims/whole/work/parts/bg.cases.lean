section LAW2
variable {p : Program} {l : Launch} {e : Env} {s : State} {m : MethodId} {below : List Frame} {meth : Method} {c : Code} {b Lx : Nat} {xs : Nat → Int32} {E : yE} {i : Nat}
set_option maxHeartbeats 4000000 in
set_option maxRecDepth 10000 in
theorem lc_feed (C : LC p s m meth c b Lx xs E) (hi : i + 6 ≤ Lx) {ρ : ySt} (h0 : INV ρ ρ) (h : ∀ ρ2, INV ρ2 ρ2 → LJ p l e s m below meth c b E i 994 [] (ov ρ2)) : LJ p l e s m below meth c b E i 160 [] (ov ρ) := by
  have hN : 100000 ≤ 100000 := Nat.le_refl _
  obtain ⟨r, ρ1, ρ2, e1, e2, hI⟩ := join2 h0 (fun τ hτ => A_feed hN hτ (arg xs i 1) (arg xs i 2) (arg xs i 3) (arg xs i 4) (arg xs i 5))
  refine lg_aload C 2 (show decode code 160 = .ok (.aload_n 1, 1) by decide +kernel) rfl ?_
  refine lj_arg C 1 (by decide) hi ⟨by decide +kernel, by decide +kernel, by decide +kernel, by decide +kernel, by decide +kernel⟩ ?_
  refine lj_arg C 2 (by decide) hi ⟨by decide +kernel, by decide +kernel, by decide +kernel, by decide +kernel, by decide +kernel⟩ ?_
  refine lj_arg C 3 (by decide) hi ⟨by decide +kernel, by decide +kernel, by decide +kernel, by decide +kernel, by decide +kernel⟩ ?_
  refine lj_arg C 4 (by decide) hi ⟨by decide +kernel, by decide +kernel, by decide +kernel, by decide +kernel, by decide +kernel⟩ ?_
  refine lj_arg C 5 (by decide) hi ⟨by decide +kernel, by decide +kernel, by decide +kernel, by decide +kernel, by decide +kernel⟩ ?_
  refine lg_call C (np := 5) (st := []) (as := [.inl (arg xs i 1), .inl (arg xs i 2), .inl (arg xs i 3), .inl (arg xs i 4), .inl (arg xs i 5)]) 0 11 (sh_cE_feed e1) q3_61 q3_58 q3_59 q3_60 q1_1 (by decide) rfl (by decide) rfl (by decide) (by decide +kernel) (by decide) rfl (by exact Nat.zero_le _) (show decode code 186 = .ok (.invokevirtual 13, 3) by decide +kernel) (List.forall_mem_cons.mpr ⟨arg_ok _ _ _, (List.forall_mem_cons.mpr ⟨arg_ok _ _ _, (List.forall_mem_cons.mpr ⟨arg_ok _ _ _, (List.forall_mem_cons.mpr ⟨arg_ok _ _ _, (List.forall_mem_cons.mpr ⟨arg_ok _ _ _, (fun v hv => absurd hv List.not_mem_nil)⟩)⟩)⟩)⟩)⟩) rfl ?_
  refine lg_aload C 1 (show decode code 189 = .ok (.aload_n 2, 1) by decide +kernel) rfl ?_
  refine lj_arg C 1 (by decide) hi ⟨by decide +kernel, by decide +kernel, by decide +kernel, by decide +kernel, by decide +kernel⟩ ?_
  refine lj_arg C 2 (by decide) hi ⟨by decide +kernel, by decide +kernel, by decide +kernel, by decide +kernel, by decide +kernel⟩ ?_
  refine lj_arg C 3 (by decide) hi ⟨by decide +kernel, by decide +kernel, by decide +kernel, by decide +kernel, by decide +kernel⟩ ?_
  refine lj_arg C 4 (by decide) hi ⟨by decide +kernel, by decide +kernel, by decide +kernel, by decide +kernel, by decide +kernel⟩ ?_
  refine lj_arg C 5 (by decide) hi ⟨by decide +kernel, by decide +kernel, by decide +kernel, by decide +kernel, by decide +kernel⟩ ?_
  refine lg_call C (np := 5) (st := [.int (Int32.ofInt r)]) (as := [.inl (arg xs i 1), .inl (arg xs i 2), .inl (arg xs i 3), .inl (arg xs i 4), .inl (arg xs i 5)]) 92 12 (sh_mo_feed e2) q8_238 q8_235 q8_236 q8_237 q1_15 (by decide) rfl (by decide) rfl (by decide) (by decide +kernel) (by decide) rfl (by show 1 ≤ 8; decide) (show decode code 215 = .ok (.invokevirtual 17, 3) by decide +kernel) (List.forall_mem_cons.mpr ⟨arg_ok _ _ _, (List.forall_mem_cons.mpr ⟨arg_ok _ _ _, (List.forall_mem_cons.mpr ⟨arg_ok _ _ _, (List.forall_mem_cons.mpr ⟨arg_ok _ _ _, (List.forall_mem_cons.mpr ⟨arg_ok _ _ _, (fun v hv => absurd hv List.not_mem_nil)⟩)⟩)⟩)⟩)⟩) rfl ?_
  exact lj_eq C (show decode code 218 = .ok (.if_icmp .eq 776, 3) by decide +kernel) rfl (h _ hI)
set_option maxHeartbeats 4000000 in
set_option maxRecDepth 10000 in
theorem lc_end (C : LC p s m meth c b Lx xs E) (hi : i + 6 ≤ Lx) {ρ : ySt} (h0 : INV ρ ρ) (h : ∀ ρ2, INV ρ2 ρ2 → LJ p l e s m below meth c b E i 994 [] (ov ρ2)) : LJ p l e s m below meth c b E i 223 [] (ov ρ) := by
  have hN : 100000 ≤ 100000 := Nat.le_refl _
  obtain ⟨r, ρ1, ρ2, e1, e2, hI⟩ := join2 h0 (fun τ hτ => A_end (N := 100000) hτ (arg xs i 1))
  refine lg_aload C 2 (show decode code 223 = .ok (.aload_n 1, 1) by decide +kernel) rfl ?_
  refine lj_arg C 1 (by decide) hi ⟨by decide +kernel, by decide +kernel, by decide +kernel, by decide +kernel, by decide +kernel⟩ ?_
  refine lg_call C (np := 1) (st := []) (as := [.inl (arg xs i 1)]) 0 11 (sh_cE_end e1) q3_73 q3_70 q3_71 q3_72 q1_1 (by decide) rfl (by decide) rfl (by decide) (by decide +kernel) (by decide) rfl (by exact Nat.zero_le _) (show decode code 229 = .ok (.invokevirtual 18, 3) by decide +kernel) (List.forall_mem_cons.mpr ⟨arg_ok _ _ _, (fun v hv => absurd hv List.not_mem_nil)⟩) rfl ?_
  refine lg_aload C 1 (show decode code 232 = .ok (.aload_n 2, 1) by decide +kernel) rfl ?_
  refine lj_arg C 1 (by decide) hi ⟨by decide +kernel, by decide +kernel, by decide +kernel, by decide +kernel, by decide +kernel⟩ ?_
  refine lg_call C (np := 1) (st := [.int (Int32.ofInt r)]) (as := [.inl (arg xs i 1)]) 92 12 (sh_mo_end e2) q9_2 q8_239 q9_0 q9_1 q1_15 (by decide) rfl (by decide) rfl (by decide) (by decide +kernel) (by decide) rfl (by show 1 ≤ 8; decide) (show decode code 238 = .ok (.invokevirtual 22, 3) by decide +kernel) (List.forall_mem_cons.mpr ⟨arg_ok _ _ _, (fun v hv => absurd hv List.not_mem_nil)⟩) rfl ?_
  exact lj_eq C (show decode code 241 = .ok (.if_icmp .eq 753, 3) by decide +kernel) rfl (h _ hI)
set_option maxHeartbeats 4000000 in
set_option maxRecDepth 10000 in
theorem lc_town (C : LC p s m meth c b Lx xs E) (hi : i + 6 ≤ Lx) {ρ : ySt} (h0 : INV ρ ρ) (h : ∀ ρ2, INV ρ2 ρ2 → LJ p l e s m below meth c b E i 994 [] (ov ρ2)) : LJ p l e s m below meth c b E i 246 [] (ov ρ) := by
  have hN : 100000 ≤ 100000 := Nat.le_refl _
  obtain ⟨r, ρ1, ρ2, e1, e2, hI⟩ := join2 h0 (fun τ hτ => A_town hN hτ )
  refine lg_aload C 2 (show decode code 246 = .ok (.aload_n 1, 1) by decide +kernel) rfl ?_
  refine lg_call C (np := 0) (st := []) (as := []) 0 11 (sh_cE_town e1) q3_77 q3_74 q3_75 q3_76 q1_1 (by decide) rfl (by decide) rfl (by decide) (by decide +kernel) (by decide) rfl (by exact Nat.zero_le _) (show decode code 247 = .ok (.invokevirtual 23, 3) by decide +kernel) (fun v hv => absurd hv List.not_mem_nil) rfl ?_
  refine lg_aload C 1 (show decode code 250 = .ok (.aload_n 2, 1) by decide +kernel) rfl ?_
  refine lg_call C (np := 0) (st := [.int (Int32.ofInt r)]) (as := []) 92 12 (sh_mo_town e2) q7_72 q7_69 q7_70 q7_71 q1_15 (by decide) rfl (by decide) rfl (by decide) (by decide +kernel) (by decide) rfl (by show 1 ≤ 8; decide) (show decode code 251 = .ok (.invokevirtual 27, 3) by decide +kernel) (fun v hv => absurd hv List.not_mem_nil) rfl ?_
  exact lj_eq C (show decode code 254 = .ok (.if_icmp .eq 740, 3) by decide +kernel) rfl (h _ hI)
set_option maxHeartbeats 4000000 in
set_option maxRecDepth 10000 in
theorem lc_plan (C : LC p s m meth c b Lx xs E) (hi : i + 6 ≤ Lx) {ρ : ySt} (h0 : INV ρ ρ) (h : ∀ ρ2, INV ρ2 ρ2 → LJ p l e s m below meth c b E i 994 [] (ov ρ2)) : LJ p l e s m below meth c b E i 259 [] (ov ρ) := by
  have hN : 100000 ≤ 100000 := Nat.le_refl _
  obtain ⟨r, ρ1, ρ2, e1, e2, hI⟩ := join2 h0 (fun τ hτ => A_plan hN hτ )
  refine lg_aload C 2 (show decode code 259 = .ok (.aload_n 1, 1) by decide +kernel) rfl ?_
  refine lg_call C (np := 0) (st := []) (as := []) 0 11 (sh_cE_plan e1) q4_129 q4_126 q4_127 q4_128 q1_1 (by decide) rfl (by decide) rfl (by decide) (by decide +kernel) (by decide) rfl (by exact Nat.zero_le _) (show decode code 260 = .ok (.invokevirtual 28, 3) by decide +kernel) (fun v hv => absurd hv List.not_mem_nil) rfl ?_
  refine lg_aload C 1 (show decode code 263 = .ok (.aload_n 2, 1) by decide +kernel) rfl ?_
  refine lg_call C (np := 0) (st := [.int (Int32.ofInt r)]) (as := []) 92 12 (sh_mo_plan e2) q8_165 q8_162 q8_163 q8_164 q1_15 (by decide) rfl (by decide) rfl (by decide) (by decide +kernel) (by decide) rfl (by show 1 ≤ 8; decide) (show decode code 264 = .ok (.invokevirtual 31, 3) by decide +kernel) (fun v hv => absurd hv List.not_mem_nil) rfl ?_
  exact lj_eq C (show decode code 267 = .ok (.if_icmp .eq 727, 3) by decide +kernel) rfl (h _ hI)
set_option maxHeartbeats 4000000 in
set_option maxRecDepth 10000 in
theorem lc_fault (C : LC p s m meth c b Lx xs E) (hi : i + 6 ≤ Lx) {ρ : ySt} (h0 : INV ρ ρ) (h : ∀ ρ2, INV ρ2 ρ2 → LJ p l e s m below meth c b E i 994 [] (ov ρ2)) : LJ p l e s m below meth c b E i 272 [] (ov ρ) := by
  have hN : 100000 ≤ 100000 := Nat.le_refl _
  obtain ⟨r, e1, e2⟩ := A_fault h0 (arg xs i 1)
  have hI := h0
  refine lg_aload C 2 (show decode code 272 = .ok (.aload_n 1, 1) by decide +kernel) rfl ?_
  refine lj_arg C 1 (by decide) hi ⟨by decide +kernel, by decide +kernel, by decide +kernel, by decide +kernel, by decide +kernel⟩ ?_
  refine lg_call C (np := 1) (st := []) (as := [.inl (arg xs i 1)]) 0 11 (sh_cE_fault e1) q4_148 q4_145 q4_146 q4_147 q1_1 (by decide) rfl (by decide) rfl (by decide) (by decide +kernel) (by decide) rfl (by exact Nat.zero_le _) (show decode code 278 = .ok (.invokevirtual 32, 3) by decide +kernel) (List.forall_mem_cons.mpr ⟨arg_ok _ _ _, (fun v hv => absurd hv List.not_mem_nil)⟩) rfl ?_
  refine lg_aload C 1 (show decode code 281 = .ok (.aload_n 2, 1) by decide +kernel) rfl ?_
  refine lj_arg C 1 (by decide) hi ⟨by decide +kernel, by decide +kernel, by decide +kernel, by decide +kernel, by decide +kernel⟩ ?_
  refine lg_call C (np := 1) (st := [.int (Int32.ofInt r)]) (as := [.inl (arg xs i 1)]) 92 12 (sh_mo_fault e2) q8_3 q8_0 q8_1 q8_2 q1_15 (by decide) rfl (by decide) rfl (by decide) (by decide +kernel) (by decide) rfl (by show 1 ≤ 8; decide) (show decode code 287 = .ok (.invokevirtual 35, 3) by decide +kernel) (List.forall_mem_cons.mpr ⟨arg_ok _ _ _, (fun v hv => absurd hv List.not_mem_nil)⟩) rfl ?_
  exact lj_eq C (show decode code 290 = .ok (.if_icmp .eq 704, 3) by decide +kernel) rfl (h _ hI)
set_option maxHeartbeats 4000000 in
set_option maxRecDepth 10000 in
theorem lc_minutes (C : LC p s m meth c b Lx xs E) (hi : i + 6 ≤ Lx) {ρ : ySt} (h0 : INV ρ ρ) (h : ∀ ρ2, INV ρ2 ρ2 → LJ p l e s m below meth c b E i 994 [] (ov ρ2)) : LJ p l e s m below meth c b E i 295 [] (ov ρ) := by
  have hN : 100000 ≤ 100000 := Nat.le_refl _
  obtain ⟨r, ρ2, e1, e2, hI⟩ := join1 h0 (A_minutes hN h0 (arg xs i 1) (arg xs i 2))
  refine lg_aload C 2 (show decode code 295 = .ok (.aload_n 1, 1) by decide +kernel) rfl ?_
  refine lj_arg C 1 (by decide) hi ⟨by decide +kernel, by decide +kernel, by decide +kernel, by decide +kernel, by decide +kernel⟩ ?_
  refine lj_arg C 2 (by decide) hi ⟨by decide +kernel, by decide +kernel, by decide +kernel, by decide +kernel, by decide +kernel⟩ ?_
  refine lg_call C (np := 2) (st := []) (as := [.inl (arg xs i 1), .inl (arg xs i 2)]) 0 11 (sh_cE_minutes e1) q4_152 q4_149 q4_150 q4_151 q1_1 (by decide) rfl (by decide) rfl (by decide) (by decide +kernel) (by decide) rfl (by exact Nat.zero_le _) (show decode code 306 = .ok (.invokevirtual 36, 3) by decide +kernel) (List.forall_mem_cons.mpr ⟨arg_ok _ _ _, (List.forall_mem_cons.mpr ⟨arg_ok _ _ _, (fun v hv => absurd hv List.not_mem_nil)⟩)⟩) rfl ?_
  refine lg_aload C 1 (show decode code 309 = .ok (.aload_n 2, 1) by decide +kernel) rfl ?_
  refine lj_arg C 1 (by decide) hi ⟨by decide +kernel, by decide +kernel, by decide +kernel, by decide +kernel, by decide +kernel⟩ ?_
  refine lj_arg C 2 (by decide) hi ⟨by decide +kernel, by decide +kernel, by decide +kernel, by decide +kernel, by decide +kernel⟩ ?_
  refine lg_call C (np := 2) (st := [.int (Int32.ofInt r)]) (as := [.inl (arg xs i 1), .inl (arg xs i 2)]) 92 12 (sh_mo_minutes e2) q8_7 q8_4 q8_5 q8_6 q1_15 (by decide) rfl (by decide) rfl (by decide) (by decide +kernel) (by decide) rfl (by show 1 ≤ 8; decide) (show decode code 320 = .ok (.invokevirtual 40, 3) by decide +kernel) (List.forall_mem_cons.mpr ⟨arg_ok _ _ _, (List.forall_mem_cons.mpr ⟨arg_ok _ _ _, (fun v hv => absurd hv List.not_mem_nil)⟩)⟩) rfl ?_
  exact lj_eq C (show decode code 323 = .ok (.if_icmp .eq 671, 3) by decide +kernel) rfl (h _ hI)
set_option maxHeartbeats 4000000 in
set_option maxRecDepth 10000 in
theorem lc_right (C : LC p s m meth c b Lx xs E) (hi : i + 6 ≤ Lx) {ρ : ySt} (h0 : INV ρ ρ) (h : ∀ ρ2, INV ρ2 ρ2 → LJ p l e s m below meth c b E i 994 [] (ov ρ2)) : LJ p l e s m below meth c b E i 328 [] (ov ρ) := by
  have hN : 100000 ≤ 100000 := Nat.le_refl _
  obtain ⟨r, ρ2, e1, e2, hI⟩ := join1 h0 (A_right hN h0 (arg xs i 1) (arg xs i 2) (arg xs i 3))
  refine lg_aload C 2 (show decode code 328 = .ok (.aload_n 1, 1) by decide +kernel) rfl ?_
  refine lj_arg C 1 (by decide) hi ⟨by decide +kernel, by decide +kernel, by decide +kernel, by decide +kernel, by decide +kernel⟩ ?_
  refine lj_arg C 2 (by decide) hi ⟨by decide +kernel, by decide +kernel, by decide +kernel, by decide +kernel, by decide +kernel⟩ ?_
  refine lj_arg C 3 (by decide) hi ⟨by decide +kernel, by decide +kernel, by decide +kernel, by decide +kernel, by decide +kernel⟩ ?_
  refine lg_call C (np := 3) (st := []) (as := [.inl (arg xs i 1), .inl (arg xs i 2), .inl (arg xs i 3)]) 0 11 (sh_cE_right e1) q4_161 q4_158 q4_159 q4_160 q1_1 (by decide) rfl (by decide) rfl (by decide) (by decide +kernel) (by decide) rfl (by exact Nat.zero_le _) (show decode code 344 = .ok (.invokevirtual 41, 3) by decide +kernel) (List.forall_mem_cons.mpr ⟨arg_ok _ _ _, (List.forall_mem_cons.mpr ⟨arg_ok _ _ _, (List.forall_mem_cons.mpr ⟨arg_ok _ _ _, (fun v hv => absurd hv List.not_mem_nil)⟩)⟩)⟩) rfl ?_
  refine lg_aload C 1 (show decode code 347 = .ok (.aload_n 2, 1) by decide +kernel) rfl ?_
  refine lj_arg C 1 (by decide) hi ⟨by decide +kernel, by decide +kernel, by decide +kernel, by decide +kernel, by decide +kernel⟩ ?_
  refine lj_arg C 2 (by decide) hi ⟨by decide +kernel, by decide +kernel, by decide +kernel, by decide +kernel, by decide +kernel⟩ ?_
  refine lj_arg C 3 (by decide) hi ⟨by decide +kernel, by decide +kernel, by decide +kernel, by decide +kernel, by decide +kernel⟩ ?_
  refine lg_call C (np := 3) (st := [.int (Int32.ofInt r)]) (as := [.inl (arg xs i 1), .inl (arg xs i 2), .inl (arg xs i 3)]) 92 12 (sh_mo_right e2) q8_41 q8_38 q8_39 q8_40 q1_15 (by decide) rfl (by decide) rfl (by decide) (by decide +kernel) (by decide) rfl (by show 1 ≤ 8; decide) (show decode code 363 = .ok (.invokevirtual 45, 3) by decide +kernel) (List.forall_mem_cons.mpr ⟨arg_ok _ _ _, (List.forall_mem_cons.mpr ⟨arg_ok _ _ _, (List.forall_mem_cons.mpr ⟨arg_ok _ _ _, (fun v hv => absurd hv List.not_mem_nil)⟩)⟩)⟩) rfl ?_
  exact lj_eq C (show decode code 366 = .ok (.if_icmp .eq 628, 3) by decide +kernel) rfl (h _ hI)
set_option maxHeartbeats 4000000 in
set_option maxRecDepth 10000 in
theorem lc_judge (C : LC p s m meth c b Lx xs E) (hi : i + 6 ≤ Lx) {ρ : ySt} (h0 : INV ρ ρ) (h : ∀ ρ2, INV ρ2 ρ2 → LJ p l e s m below meth c b E i 994 [] (ov ρ2)) : LJ p l e s m below meth c b E i 371 [] (ov ρ) := by
  have hN : 100000 ≤ 100000 := Nat.le_refl _
  obtain ⟨r, ρ1, ρ2, e1, e2, hI⟩ := join2 h0 (fun τ hτ => A_judge hN hτ (arg xs i 1))
  refine lg_aload C 2 (show decode code 371 = .ok (.aload_n 1, 1) by decide +kernel) rfl ?_
  refine lj_arg C 1 (by decide) hi ⟨by decide +kernel, by decide +kernel, by decide +kernel, by decide +kernel, by decide +kernel⟩ ?_
  refine lg_call C (np := 1) (st := []) (as := [.inl (arg xs i 1)]) 0 11 (sh_cE_judge e1) q4_172 q4_169 q4_170 q4_171 q1_1 (by decide) rfl (by decide) rfl (by decide) (by decide +kernel) (by decide) rfl (by exact Nat.zero_le _) (show decode code 377 = .ok (.invokevirtual 46, 3) by decide +kernel) (List.forall_mem_cons.mpr ⟨arg_ok _ _ _, (fun v hv => absurd hv List.not_mem_nil)⟩) rfl ?_
  refine lg_aload C 1 (show decode code 380 = .ok (.aload_n 2, 1) by decide +kernel) rfl ?_
  refine lj_arg C 1 (by decide) hi ⟨by decide +kernel, by decide +kernel, by decide +kernel, by decide +kernel, by decide +kernel⟩ ?_
  refine lg_call C (np := 1) (st := [.int (Int32.ofInt r)]) (as := [.inl (arg xs i 1)]) 92 12 (sh_mo_judge e2) q8_173 q8_170 q8_171 q8_172 q1_15 (by decide) rfl (by decide) rfl (by decide) (by decide +kernel) (by decide) rfl (by show 1 ≤ 8; decide) (show decode code 386 = .ok (.invokevirtual 49, 3) by decide +kernel) (List.forall_mem_cons.mpr ⟨arg_ok _ _ _, (fun v hv => absurd hv List.not_mem_nil)⟩) rfl ?_
  exact lj_eq C (show decode code 389 = .ok (.if_icmp .eq 605, 3) by decide +kernel) rfl (h _ hI)
set_option maxHeartbeats 4000000 in
set_option maxRecDepth 10000 in
theorem lc_value (C : LC p s m meth c b Lx xs E) (hi : i + 6 ≤ Lx) {ρ : ySt} (h0 : INV ρ ρ) (h : ∀ ρ2, INV ρ2 ρ2 → LJ p l e s m below meth c b E i 994 [] (ov ρ2)) : LJ p l e s m below meth c b E i 394 [] (ov ρ) := by
  have hN : 100000 ≤ 100000 := Nat.le_refl _
  obtain ⟨r, ρ1, ρ2, e1, e2, hI⟩ := join2 h0 (fun τ hτ => A_value hN hτ (arg xs i 1))
  refine lg_aload C 2 (show decode code 394 = .ok (.aload_n 1, 1) by decide +kernel) rfl ?_
  refine lj_arg C 1 (by decide) hi ⟨by decide +kernel, by decide +kernel, by decide +kernel, by decide +kernel, by decide +kernel⟩ ?_
  refine lg_call C (np := 1) (st := []) (as := [.inl (arg xs i 1)]) 0 11 (sh_cE_value e1) q4_209 q4_206 q4_207 q4_208 q1_1 (by decide) rfl (by decide) rfl (by decide) (by decide +kernel) (by decide) rfl (by exact Nat.zero_le _) (show decode code 400 = .ok (.invokevirtual 50, 3) by decide +kernel) (List.forall_mem_cons.mpr ⟨arg_ok _ _ _, (fun v hv => absurd hv List.not_mem_nil)⟩) rfl ?_
  refine lg_aload C 1 (show decode code 403 = .ok (.aload_n 2, 1) by decide +kernel) rfl ?_
  refine lj_arg C 1 (by decide) hi ⟨by decide +kernel, by decide +kernel, by decide +kernel, by decide +kernel, by decide +kernel⟩ ?_
  refine lg_call C (np := 1) (st := [.int (Int32.ofInt r)]) (as := [.inl (arg xs i 1)]) 92 12 (sh_mo_value e2) q8_189 q8_186 q8_187 q8_188 q1_15 (by decide) rfl (by decide) rfl (by decide) (by decide +kernel) (by decide) rfl (by show 1 ≤ 8; decide) (show decode code 409 = .ok (.invokevirtual 53, 3) by decide +kernel) (List.forall_mem_cons.mpr ⟨arg_ok _ _ _, (fun v hv => absurd hv List.not_mem_nil)⟩) rfl ?_
  exact lj_eq C (show decode code 412 = .ok (.if_icmp .eq 582, 3) by decide +kernel) rfl (h _ hI)
set_option maxHeartbeats 4000000 in
set_option maxRecDepth 10000 in
theorem lc_best (C : LC p s m meth c b Lx xs E) (hi : i + 6 ≤ Lx) {ρ : ySt} (h0 : INV ρ ρ) (h : ∀ ρ2, INV ρ2 ρ2 → LJ p l e s m below meth c b E i 994 [] (ov ρ2)) : LJ p l e s m below meth c b E i 417 [] (ov ρ) := by
  have hN : 100000 ≤ 100000 := Nat.le_refl _
  obtain ⟨r, ρ1, ρ2, e1, e2, hI⟩ := join2 h0 (fun τ hτ => A_best hN hτ (arg xs i 1))
  refine lg_aload C 2 (show decode code 417 = .ok (.aload_n 1, 1) by decide +kernel) rfl ?_
  refine lj_arg C 1 (by decide) hi ⟨by decide +kernel, by decide +kernel, by decide +kernel, by decide +kernel, by decide +kernel⟩ ?_
  refine lg_call C (np := 1) (st := []) (as := [.inl (arg xs i 1)]) 0 11 (sh_cE_best e1) q5_17 q5_14 q5_15 q5_16 q1_1 (by decide) rfl (by decide) rfl (by decide) (by decide +kernel) (by decide) rfl (by exact Nat.zero_le _) (show decode code 423 = .ok (.invokevirtual 54, 3) by decide +kernel) (List.forall_mem_cons.mpr ⟨arg_ok _ _ _, (fun v hv => absurd hv List.not_mem_nil)⟩) rfl ?_
  refine lg_aload C 1 (show decode code 426 = .ok (.aload_n 2, 1) by decide +kernel) rfl ?_
  refine lj_arg C 1 (by decide) hi ⟨by decide +kernel, by decide +kernel, by decide +kernel, by decide +kernel, by decide +kernel⟩ ?_
  refine lg_call C (np := 1) (st := [.int (Int32.ofInt r)]) (as := [.inl (arg xs i 1)]) 92 12 (sh_mo_best e2) q8_45 q8_42 q8_43 q8_44 q1_15 (by decide) rfl (by decide) rfl (by decide) (by decide +kernel) (by decide) rfl (by show 1 ≤ 8; decide) (show decode code 432 = .ok (.invokevirtual 57, 3) by decide +kernel) (List.forall_mem_cons.mpr ⟨arg_ok _ _ _, (fun v hv => absurd hv List.not_mem_nil)⟩) rfl ?_
  exact lj_eq C (show decode code 435 = .ok (.if_icmp .eq 559, 3) by decide +kernel) rfl (h _ hI)
set_option maxHeartbeats 4000000 in
set_option maxRecDepth 10000 in
theorem lc_bestAt (C : LC p s m meth c b Lx xs E) (hi : i + 6 ≤ Lx) {ρ : ySt} (h0 : INV ρ ρ) (h : ∀ ρ2, INV ρ2 ρ2 → LJ p l e s m below meth c b E i 994 [] (ov ρ2)) : LJ p l e s m below meth c b E i 440 [] (ov ρ) := by
  have hN : 100000 ≤ 100000 := Nat.le_refl _
  obtain ⟨r, ρ1, ρ2, e1, e2, hI⟩ := join2 h0 (fun τ hτ => A_bestAt hN hτ (arg xs i 1) (arg xs i 2) (arg xs i 3))
  refine lg_aload C 2 (show decode code 440 = .ok (.aload_n 1, 1) by decide +kernel) rfl ?_
  refine lj_arg C 1 (by decide) hi ⟨by decide +kernel, by decide +kernel, by decide +kernel, by decide +kernel, by decide +kernel⟩ ?_
  refine lj_arg C 2 (by decide) hi ⟨by decide +kernel, by decide +kernel, by decide +kernel, by decide +kernel, by decide +kernel⟩ ?_
  refine lj_arg C 3 (by decide) hi ⟨by decide +kernel, by decide +kernel, by decide +kernel, by decide +kernel, by decide +kernel⟩ ?_
  refine lg_call C (np := 3) (st := []) (as := [.inl (arg xs i 1), .inl (arg xs i 2), .inl (arg xs i 3)]) 0 11 (sh_cE_bestAt e1) q5_89 q5_86 q5_87 q5_88 q1_1 (by decide) rfl (by decide) rfl (by decide) (by decide +kernel) (by decide) rfl (by exact Nat.zero_le _) (show decode code 456 = .ok (.invokevirtual 58, 3) by decide +kernel) (List.forall_mem_cons.mpr ⟨arg_ok _ _ _, (List.forall_mem_cons.mpr ⟨arg_ok _ _ _, (List.forall_mem_cons.mpr ⟨arg_ok _ _ _, (fun v hv => absurd hv List.not_mem_nil)⟩)⟩)⟩) rfl ?_
  refine lg_aload C 1 (show decode code 459 = .ok (.aload_n 2, 1) by decide +kernel) rfl ?_
  refine lj_arg C 1 (by decide) hi ⟨by decide +kernel, by decide +kernel, by decide +kernel, by decide +kernel, by decide +kernel⟩ ?_
  refine lj_arg C 2 (by decide) hi ⟨by decide +kernel, by decide +kernel, by decide +kernel, by decide +kernel, by decide +kernel⟩ ?_
  refine lj_arg C 3 (by decide) hi ⟨by decide +kernel, by decide +kernel, by decide +kernel, by decide +kernel, by decide +kernel⟩ ?_
  refine lg_call C (np := 3) (st := [.int (Int32.ofInt r)]) (as := [.inl (arg xs i 1), .inl (arg xs i 2), .inl (arg xs i 3)]) 92 12 (sh_mo_bestAt e2) q8_101 q8_98 q8_99 q8_100 q1_15 (by decide) rfl (by decide) rfl (by decide) (by decide +kernel) (by decide) rfl (by show 1 ≤ 8; decide) (show decode code 475 = .ok (.invokevirtual 61, 3) by decide +kernel) (List.forall_mem_cons.mpr ⟨arg_ok _ _ _, (List.forall_mem_cons.mpr ⟨arg_ok _ _ _, (List.forall_mem_cons.mpr ⟨arg_ok _ _ _, (fun v hv => absurd hv List.not_mem_nil)⟩)⟩)⟩) rfl ?_
  exact lj_eq C (show decode code 478 = .ok (.if_icmp .eq 516, 3) by decide +kernel) rfl (h _ hI)
set_option maxHeartbeats 4000000 in
set_option maxRecDepth 10000 in
theorem lc_breaks (C : LC p s m meth c b Lx xs E) (hi : i + 6 ≤ Lx) {ρ : ySt} (h0 : INV ρ ρ) (h : ∀ ρ2, INV ρ2 ρ2 → LJ p l e s m below meth c b E i 994 [] (ov ρ2)) : LJ p l e s m below meth c b E i 483 [] (ov ρ) := by
  have hN : 100000 ≤ 100000 := Nat.le_refl _
  obtain ⟨r, ρ1, ρ2, e1, e2, hI⟩ := join2 h0 (fun τ hτ => A_breaks hN hτ (arg xs i 1) (arg xs i 2))
  refine lg_aload C 2 (show decode code 483 = .ok (.aload_n 1, 1) by decide +kernel) rfl ?_
  refine lj_arg C 1 (by decide) hi ⟨by decide +kernel, by decide +kernel, by decide +kernel, by decide +kernel, by decide +kernel⟩ ?_
  refine lj_arg C 2 (by decide) hi ⟨by decide +kernel, by decide +kernel, by decide +kernel, by decide +kernel, by decide +kernel⟩ ?_
  refine lg_call C (np := 2) (st := []) (as := [.inl (arg xs i 1), .inl (arg xs i 2)]) 0 11 (sh_cE_breaks e1) q5_102 q5_99 q5_100 q5_101 q1_1 (by decide) rfl (by decide) rfl (by decide) (by decide +kernel) (by decide) rfl (by exact Nat.zero_le _) (show decode code 494 = .ok (.invokevirtual 62, 3) by decide +kernel) (List.forall_mem_cons.mpr ⟨arg_ok _ _ _, (List.forall_mem_cons.mpr ⟨arg_ok _ _ _, (fun v hv => absurd hv List.not_mem_nil)⟩)⟩) rfl ?_
  refine lg_aload C 1 (show decode code 497 = .ok (.aload_n 2, 1) by decide +kernel) rfl ?_
  refine lj_arg C 1 (by decide) hi ⟨by decide +kernel, by decide +kernel, by decide +kernel, by decide +kernel, by decide +kernel⟩ ?_
  refine lj_arg C 2 (by decide) hi ⟨by decide +kernel, by decide +kernel, by decide +kernel, by decide +kernel, by decide +kernel⟩ ?_
  refine lg_call C (np := 2) (st := [.int (Int32.ofInt r)]) (as := [.inl (arg xs i 1), .inl (arg xs i 2)]) 92 12 (sh_mo_breaks e2) q8_117 q8_114 q8_115 q8_116 q1_15 (by decide) rfl (by decide) rfl (by decide) (by decide +kernel) (by decide) rfl (by show 1 ≤ 8; decide) (show decode code 508 = .ok (.invokevirtual 65, 3) by decide +kernel) (List.forall_mem_cons.mpr ⟨arg_ok _ _ _, (List.forall_mem_cons.mpr ⟨arg_ok _ _ _, (fun v hv => absurd hv List.not_mem_nil)⟩)⟩) rfl ?_
  exact lj_eq C (show decode code 511 = .ok (.if_icmp .eq 483, 3) by decide +kernel) rfl (h _ hI)
set_option maxHeartbeats 4000000 in
set_option maxRecDepth 10000 in
theorem lc_spare (C : LC p s m meth c b Lx xs E) (hi : i + 6 ≤ Lx) {ρ : ySt} (h0 : INV ρ ρ) (h : ∀ ρ2, INV ρ2 ρ2 → LJ p l e s m below meth c b E i 994 [] (ov ρ2)) : LJ p l e s m below meth c b E i 516 [] (ov ρ) := by
  have hN : 100000 ≤ 100000 := Nat.le_refl _
  obtain ⟨r, ρ1, ρ2, e1, e2, hI⟩ := join2 h0 (fun τ hτ => A_spare hN hτ (arg xs i 1) (arg xs i 2))
  refine lg_aload C 2 (show decode code 516 = .ok (.aload_n 1, 1) by decide +kernel) rfl ?_
  refine lj_arg C 1 (by decide) hi ⟨by decide +kernel, by decide +kernel, by decide +kernel, by decide +kernel, by decide +kernel⟩ ?_
  refine lj_arg C 2 (by decide) hi ⟨by decide +kernel, by decide +kernel, by decide +kernel, by decide +kernel, by decide +kernel⟩ ?_
  refine lg_call C (np := 2) (st := []) (as := [.inl (arg xs i 1), .inl (arg xs i 2)]) 0 11 (sh_cE_spare e1) q5_114 q5_111 q5_112 q5_113 q1_1 (by decide) rfl (by decide) rfl (by decide) (by decide +kernel) (by decide) rfl (by exact Nat.zero_le _) (show decode code 527 = .ok (.invokevirtual 66, 3) by decide +kernel) (List.forall_mem_cons.mpr ⟨arg_ok _ _ _, (List.forall_mem_cons.mpr ⟨arg_ok _ _ _, (fun v hv => absurd hv List.not_mem_nil)⟩)⟩) rfl ?_
  refine lg_aload C 1 (show decode code 530 = .ok (.aload_n 2, 1) by decide +kernel) rfl ?_
  refine lj_arg C 1 (by decide) hi ⟨by decide +kernel, by decide +kernel, by decide +kernel, by decide +kernel, by decide +kernel⟩ ?_
  refine lj_arg C 2 (by decide) hi ⟨by decide +kernel, by decide +kernel, by decide +kernel, by decide +kernel, by decide +kernel⟩ ?_
  refine lg_call C (np := 2) (st := [.int (Int32.ofInt r)]) (as := [.inl (arg xs i 1), .inl (arg xs i 2)]) 92 12 (sh_mo_spare e2) q8_121 q8_118 q8_119 q8_120 q1_15 (by decide) rfl (by decide) rfl (by decide) (by decide +kernel) (by decide) rfl (by show 1 ≤ 8; decide) (show decode code 541 = .ok (.invokevirtual 69, 3) by decide +kernel) (List.forall_mem_cons.mpr ⟨arg_ok _ _ _, (List.forall_mem_cons.mpr ⟨arg_ok _ _ _, (fun v hv => absurd hv List.not_mem_nil)⟩)⟩) rfl ?_
  exact lj_eq C (show decode code 544 = .ok (.if_icmp .eq 450, 3) by decide +kernel) rfl (h _ hI)
set_option maxHeartbeats 4000000 in
set_option maxRecDepth 10000 in
theorem lc_often (C : LC p s m meth c b Lx xs E) (hi : i + 6 ≤ Lx) {ρ : ySt} (h0 : INV ρ ρ) (h : ∀ ρ2, INV ρ2 ρ2 → LJ p l e s m below meth c b E i 994 [] (ov ρ2)) : LJ p l e s m below meth c b E i 549 [] (ov ρ) := by
  have hN : 100000 ≤ 100000 := Nat.le_refl _
  obtain ⟨r, ρ1, ρ2, e1, e2, hI⟩ := join2 h0 (fun τ hτ => A_often hN hτ (arg xs i 1) (arg xs i 2))
  refine lg_aload C 2 (show decode code 549 = .ok (.aload_n 1, 1) by decide +kernel) rfl ?_
  refine lj_arg C 1 (by decide) hi ⟨by decide +kernel, by decide +kernel, by decide +kernel, by decide +kernel, by decide +kernel⟩ ?_
  refine lj_arg C 2 (by decide) hi ⟨by decide +kernel, by decide +kernel, by decide +kernel, by decide +kernel, by decide +kernel⟩ ?_
  refine lg_call C (np := 2) (st := []) (as := [.inl (arg xs i 1), .inl (arg xs i 2)]) 0 11 (sh_cE_often e1) q5_126 q5_123 q5_124 q5_125 q1_1 (by decide) rfl (by decide) rfl (by decide) (by decide +kernel) (by decide) rfl (by exact Nat.zero_le _) (show decode code 560 = .ok (.invokevirtual 70, 3) by decide +kernel) (List.forall_mem_cons.mpr ⟨arg_ok _ _ _, (List.forall_mem_cons.mpr ⟨arg_ok _ _ _, (fun v hv => absurd hv List.not_mem_nil)⟩)⟩) rfl ?_
  refine lg_aload C 1 (show decode code 563 = .ok (.aload_n 2, 1) by decide +kernel) rfl ?_
  refine lj_arg C 1 (by decide) hi ⟨by decide +kernel, by decide +kernel, by decide +kernel, by decide +kernel, by decide +kernel⟩ ?_
  refine lj_arg C 2 (by decide) hi ⟨by decide +kernel, by decide +kernel, by decide +kernel, by decide +kernel, by decide +kernel⟩ ?_
  refine lg_call C (np := 2) (st := [.int (Int32.ofInt r)]) (as := [.inl (arg xs i 1), .inl (arg xs i 2)]) 92 12 (sh_mo_often e2) q8_125 q8_122 q8_123 q8_124 q1_15 (by decide) rfl (by decide) rfl (by decide) (by decide +kernel) (by decide) rfl (by show 1 ≤ 8; decide) (show decode code 574 = .ok (.invokevirtual 73, 3) by decide +kernel) (List.forall_mem_cons.mpr ⟨arg_ok _ _ _, (List.forall_mem_cons.mpr ⟨arg_ok _ _ _, (fun v hv => absurd hv List.not_mem_nil)⟩)⟩) rfl ?_
  exact lj_eq C (show decode code 577 = .ok (.if_icmp .eq 417, 3) by decide +kernel) rfl (h _ hI)
set_option maxHeartbeats 4000000 in
set_option maxRecDepth 10000 in
theorem lc_built (C : LC p s m meth c b Lx xs E) (hi : i + 6 ≤ Lx) {ρ : ySt} (h0 : INV ρ ρ) (h : ∀ ρ2, INV ρ2 ρ2 → LJ p l e s m below meth c b E i 994 [] (ov ρ2)) : LJ p l e s m below meth c b E i 582 [] (ov ρ) := by
  have hN : 100000 ≤ 100000 := Nat.le_refl _
  obtain ⟨r, ρ1, ρ2, e1, e2, hI⟩ := join2 h0 (fun τ hτ => A_built hN hτ (arg xs i 1) (arg xs i 2) (arg xs i 3))
  refine lg_aload C 2 (show decode code 582 = .ok (.aload_n 1, 1) by decide +kernel) rfl ?_
  refine lj_arg C 1 (by decide) hi ⟨by decide +kernel, by decide +kernel, by decide +kernel, by decide +kernel, by decide +kernel⟩ ?_
  refine lj_arg C 2 (by decide) hi ⟨by decide +kernel, by decide +kernel, by decide +kernel, by decide +kernel, by decide +kernel⟩ ?_
  refine lj_arg C 3 (by decide) hi ⟨by decide +kernel, by decide +kernel, by decide +kernel, by decide +kernel, by decide +kernel⟩ ?_
  refine lg_call C (np := 3) (st := []) (as := [.inl (arg xs i 1), .inl (arg xs i 2), .inl (arg xs i 3)]) 0 11 (sh_cE_built e1) q5_134 q5_131 q5_132 q5_133 q1_1 (by decide) rfl (by decide) rfl (by decide) (by decide +kernel) (by decide) rfl (by exact Nat.zero_le _) (show decode code 598 = .ok (.invokevirtual 74, 3) by decide +kernel) (List.forall_mem_cons.mpr ⟨arg_ok _ _ _, (List.forall_mem_cons.mpr ⟨arg_ok _ _ _, (List.forall_mem_cons.mpr ⟨arg_ok _ _ _, (fun v hv => absurd hv List.not_mem_nil)⟩)⟩)⟩) rfl ?_
  refine lg_aload C 1 (show decode code 601 = .ok (.aload_n 2, 1) by decide +kernel) rfl ?_
  refine lj_arg C 1 (by decide) hi ⟨by decide +kernel, by decide +kernel, by decide +kernel, by decide +kernel, by decide +kernel⟩ ?_
  refine lj_arg C 2 (by decide) hi ⟨by decide +kernel, by decide +kernel, by decide +kernel, by decide +kernel, by decide +kernel⟩ ?_
  refine lj_arg C 3 (by decide) hi ⟨by decide +kernel, by decide +kernel, by decide +kernel, by decide +kernel, by decide +kernel⟩ ?_
  refine lg_call C (np := 3) (st := [.int (Int32.ofInt r)]) (as := [.inl (arg xs i 1), .inl (arg xs i 2), .inl (arg xs i 3)]) 92 12 (sh_mo_built e2) q8_129 q8_126 q8_127 q8_128 q1_15 (by decide) rfl (by decide) rfl (by decide) (by decide +kernel) (by decide) rfl (by show 1 ≤ 8; decide) (show decode code 617 = .ok (.invokevirtual 77, 3) by decide +kernel) (List.forall_mem_cons.mpr ⟨arg_ok _ _ _, (List.forall_mem_cons.mpr ⟨arg_ok _ _ _, (List.forall_mem_cons.mpr ⟨arg_ok _ _ _, (fun v hv => absurd hv List.not_mem_nil)⟩)⟩)⟩) rfl ?_
  exact lj_eq C (show decode code 620 = .ok (.if_icmp .eq 374, 3) by decide +kernel) rfl (h _ hI)
set_option maxHeartbeats 4000000 in
set_option maxRecDepth 10000 in
theorem lc_meet (C : LC p s m meth c b Lx xs E) (hi : i + 6 ≤ Lx) {ρ : ySt} (h0 : INV ρ ρ) (h : ∀ ρ2, INV ρ2 ρ2 → LJ p l e s m below meth c b E i 994 [] (ov ρ2)) : LJ p l e s m below meth c b E i 625 [] (ov ρ) := by
  have hN : 100000 ≤ 100000 := Nat.le_refl _
  obtain ⟨r, ρ1, ρ2, e1, e2, hI⟩ := join2 h0 (fun τ hτ => A_meet hN hτ (arg xs i 1) (arg xs i 2) (arg xs i 3))
  refine lg_aload C 2 (show decode code 625 = .ok (.aload_n 1, 1) by decide +kernel) rfl ?_
  refine lj_arg C 1 (by decide) hi ⟨by decide +kernel, by decide +kernel, by decide +kernel, by decide +kernel, by decide +kernel⟩ ?_
  refine lj_arg C 2 (by decide) hi ⟨by decide +kernel, by decide +kernel, by decide +kernel, by decide +kernel, by decide +kernel⟩ ?_
  refine lj_arg C 3 (by decide) hi ⟨by decide +kernel, by decide +kernel, by decide +kernel, by decide +kernel, by decide +kernel⟩ ?_
  refine lg_call C (np := 3) (st := []) (as := [.inl (arg xs i 1), .inl (arg xs i 2), .inl (arg xs i 3)]) 0 11 (sh_cE_meet e1) q5_147 q5_144 q5_145 q5_146 q1_1 (by decide) rfl (by decide) rfl (by decide) (by decide +kernel) (by decide) rfl (by exact Nat.zero_le _) (show decode code 641 = .ok (.invokevirtual 78, 3) by decide +kernel) (List.forall_mem_cons.mpr ⟨arg_ok _ _ _, (List.forall_mem_cons.mpr ⟨arg_ok _ _ _, (List.forall_mem_cons.mpr ⟨arg_ok _ _ _, (fun v hv => absurd hv List.not_mem_nil)⟩)⟩)⟩) rfl ?_
  refine lg_aload C 1 (show decode code 644 = .ok (.aload_n 2, 1) by decide +kernel) rfl ?_
  refine lj_arg C 1 (by decide) hi ⟨by decide +kernel, by decide +kernel, by decide +kernel, by decide +kernel, by decide +kernel⟩ ?_
  refine lj_arg C 2 (by decide) hi ⟨by decide +kernel, by decide +kernel, by decide +kernel, by decide +kernel, by decide +kernel⟩ ?_
  refine lj_arg C 3 (by decide) hi ⟨by decide +kernel, by decide +kernel, by decide +kernel, by decide +kernel, by decide +kernel⟩ ?_
  refine lg_call C (np := 3) (st := [.int (Int32.ofInt r)]) (as := [.inl (arg xs i 1), .inl (arg xs i 2), .inl (arg xs i 3)]) 92 12 (sh_mo_meet e2) q8_133 q8_130 q8_131 q8_132 q1_15 (by decide) rfl (by decide) rfl (by decide) (by decide +kernel) (by decide) rfl (by show 1 ≤ 8; decide) (show decode code 660 = .ok (.invokevirtual 81, 3) by decide +kernel) (List.forall_mem_cons.mpr ⟨arg_ok _ _ _, (List.forall_mem_cons.mpr ⟨arg_ok _ _ _, (List.forall_mem_cons.mpr ⟨arg_ok _ _ _, (fun v hv => absurd hv List.not_mem_nil)⟩)⟩)⟩) rfl ?_
  exact lj_eq C (show decode code 663 = .ok (.if_icmp .eq 331, 3) by decide +kernel) rfl (h _ hI)
set_option maxHeartbeats 4000000 in
set_option maxRecDepth 10000 in
theorem lc_mend (C : LC p s m meth c b Lx xs E) (hi : i + 6 ≤ Lx) {ρ : ySt} (h0 : INV ρ ρ) (h : ∀ ρ2, INV ρ2 ρ2 → LJ p l e s m below meth c b E i 994 [] (ov ρ2)) : LJ p l e s m below meth c b E i 668 [] (ov ρ) := by
  have hN : 100000 ≤ 100000 := Nat.le_refl _
  obtain ⟨r, ρ2, e1, e2, hI⟩ := join1 h0 (A_mend hN h0 )
  refine lg_aload C 2 (show decode code 668 = .ok (.aload_n 1, 1) by decide +kernel) rfl ?_
  refine lg_call C (np := 0) (st := []) (as := []) 0 11 (sh_cE_mend e1) q5_177 q5_174 q5_175 q5_176 q1_1 (by decide) rfl (by decide) rfl (by decide) (by decide +kernel) (by decide) rfl (by exact Nat.zero_le _) (show decode code 669 = .ok (.invokevirtual 82, 3) by decide +kernel) (fun v hv => absurd hv List.not_mem_nil) rfl ?_
  refine lg_aload C 1 (show decode code 672 = .ok (.aload_n 2, 1) by decide +kernel) rfl ?_
  refine lg_call C (np := 0) (st := [.int (Int32.ofInt r)]) (as := []) 92 12 (sh_mo_mend e2) q8_209 q8_206 q8_207 q8_208 q1_15 (by decide) rfl (by decide) rfl (by decide) (by decide +kernel) (by decide) rfl (by show 1 ≤ 8; decide) (show decode code 673 = .ok (.invokevirtual 85, 3) by decide +kernel) (fun v hv => absurd hv List.not_mem_nil) rfl ?_
  exact lj_eq C (show decode code 676 = .ok (.if_icmp .eq 318, 3) by decide +kernel) rfl (h _ hI)
set_option maxHeartbeats 4000000 in
set_option maxRecDepth 10000 in
theorem lc_where (C : LC p s m meth c b Lx xs E) (hi : i + 6 ≤ Lx) {ρ : ySt} (h0 : INV ρ ρ) (h : ∀ ρ2, INV ρ2 ρ2 → LJ p l e s m below meth c b E i 994 [] (ov ρ2)) : LJ p l e s m below meth c b E i 681 [] (ov ρ) := by
  have hN : 100000 ≤ 100000 := Nat.le_refl _
  obtain ⟨r, e1, e2⟩ := A_where h0 (arg xs i 1)
  have hI := h0
  refine lg_aload C 2 (show decode code 681 = .ok (.aload_n 1, 1) by decide +kernel) rfl ?_
  refine lj_arg C 1 (by decide) hi ⟨by decide +kernel, by decide +kernel, by decide +kernel, by decide +kernel, by decide +kernel⟩ ?_
  refine lg_call C (np := 1) (st := []) (as := [.inl (arg xs i 1)]) 0 11 (sh_cE_where e1) q5_191 q5_188 q5_189 q5_190 q1_1 (by decide) rfl (by decide) rfl (by decide) (by decide +kernel) (by decide) rfl (by exact Nat.zero_le _) (show decode code 687 = .ok (.invokevirtual 86, 3) by decide +kernel) (List.forall_mem_cons.mpr ⟨arg_ok _ _ _, (fun v hv => absurd hv List.not_mem_nil)⟩) rfl ?_
  refine lg_aload C 1 (show decode code 690 = .ok (.aload_n 2, 1) by decide +kernel) rfl ?_
  refine lj_arg C 1 (by decide) hi ⟨by decide +kernel, by decide +kernel, by decide +kernel, by decide +kernel, by decide +kernel⟩ ?_
  refine lg_call C (np := 1) (st := [.int (Int32.ofInt r)]) (as := [.inl (arg xs i 1)]) 92 12 (sh_mo_where e2) q8_193 q8_190 q8_191 q8_192 q1_15 (by decide) rfl (by decide) rfl (by decide) (by decide +kernel) (by decide) rfl (by show 1 ≤ 8; decide) (show decode code 696 = .ok (.invokevirtual 89, 3) by decide +kernel) (List.forall_mem_cons.mpr ⟨arg_ok _ _ _, (fun v hv => absurd hv List.not_mem_nil)⟩) rfl ?_
  exact lj_eq C (show decode code 699 = .ok (.if_icmp .eq 295, 3) by decide +kernel) rfl (h _ hI)
set_option maxHeartbeats 4000000 in
set_option maxRecDepth 10000 in
theorem lc_send (C : LC p s m meth c b Lx xs E) (hi : i + 6 ≤ Lx) {ρ : ySt} (h0 : INV ρ ρ) (h : ∀ ρ2, INV ρ2 ρ2 → LJ p l e s m below meth c b E i 994 [] (ov ρ2)) : LJ p l e s m below meth c b E i 704 [] (ov ρ) := by
  have hN : 100000 ≤ 100000 := Nat.le_refl _
  obtain ⟨r, ρ1, ρ2, e1, e2, hI⟩ := join2 h0 (fun τ hτ => A_send hN hτ (arg xs i 1) (arg xs i 2))
  refine lg_aload C 2 (show decode code 704 = .ok (.aload_n 1, 1) by decide +kernel) rfl ?_
  refine lj_arg C 1 (by decide) hi ⟨by decide +kernel, by decide +kernel, by decide +kernel, by decide +kernel, by decide +kernel⟩ ?_
  refine lj_arg C 2 (by decide) hi ⟨by decide +kernel, by decide +kernel, by decide +kernel, by decide +kernel, by decide +kernel⟩ ?_
  refine lg_call C (np := 2) (st := []) (as := [.inl (arg xs i 1), .inl (arg xs i 2)]) 0 11 (sh_cE_send e1) q5_195 q5_192 q5_193 q5_194 q1_1 (by decide) rfl (by decide) rfl (by decide) (by decide +kernel) (by decide) rfl (by exact Nat.zero_le _) (show decode code 715 = .ok (.invokevirtual 90, 3) by decide +kernel) (List.forall_mem_cons.mpr ⟨arg_ok _ _ _, (List.forall_mem_cons.mpr ⟨arg_ok _ _ _, (fun v hv => absurd hv List.not_mem_nil)⟩)⟩) rfl ?_
  refine lg_aload C 1 (show decode code 718 = .ok (.aload_n 2, 1) by decide +kernel) rfl ?_
  refine lj_arg C 1 (by decide) hi ⟨by decide +kernel, by decide +kernel, by decide +kernel, by decide +kernel, by decide +kernel⟩ ?_
  refine lj_arg C 2 (by decide) hi ⟨by decide +kernel, by decide +kernel, by decide +kernel, by decide +kernel, by decide +kernel⟩ ?_
  refine lg_call C (np := 2) (st := [.int (Int32.ofInt r)]) (as := [.inl (arg xs i 1), .inl (arg xs i 2)]) 92 12 (sh_mo_send e2) q8_197 q8_194 q8_195 q8_196 q1_15 (by decide) rfl (by decide) rfl (by decide) (by decide +kernel) (by decide) rfl (by show 1 ≤ 8; decide) (show decode code 729 = .ok (.invokevirtual 94, 3) by decide +kernel) (List.forall_mem_cons.mpr ⟨arg_ok _ _ _, (List.forall_mem_cons.mpr ⟨arg_ok _ _ _, (fun v hv => absurd hv List.not_mem_nil)⟩)⟩) rfl ?_
  exact lj_eq C (show decode code 732 = .ok (.if_icmp .eq 262, 3) by decide +kernel) rfl (h _ hI)
set_option maxHeartbeats 4000000 in
set_option maxRecDepth 10000 in
theorem lc_strike (C : LC p s m meth c b Lx xs E) (hi : i + 6 ≤ Lx) {ρ : ySt} (h0 : INV ρ ρ) (h : ∀ ρ2, INV ρ2 ρ2 → LJ p l e s m below meth c b E i 994 [] (ov ρ2)) : LJ p l e s m below meth c b E i 737 [] (ov ρ) := by
  have hN : 100000 ≤ 100000 := Nat.le_refl _
  obtain ⟨r, ρ1, ρ2, e1, e2, hI⟩ := join2 h0 (fun τ hτ => A_strike hN hτ )
  refine lg_aload C 2 (show decode code 737 = .ok (.aload_n 1, 1) by decide +kernel) rfl ?_
  refine lg_call C (np := 0) (st := []) (as := []) 0 11 (sh_cE_strike e1) q5_200 q5_197 q5_198 q5_199 q1_1 (by decide) rfl (by decide) rfl (by decide) (by decide +kernel) (by decide) rfl (by exact Nat.zero_le _) (show decode code 738 = .ok (.invokevirtual 95, 3) by decide +kernel) (fun v hv => absurd hv List.not_mem_nil) rfl ?_
  refine lg_aload C 1 (show decode code 741 = .ok (.aload_n 2, 1) by decide +kernel) rfl ?_
  refine lg_call C (np := 0) (st := [.int (Int32.ofInt r)]) (as := []) 92 12 (sh_mo_strike e2) q8_201 q8_198 q8_199 q8_200 q1_15 (by decide) rfl (by decide) rfl (by decide) (by decide +kernel) (by decide) rfl (by show 1 ≤ 8; decide) (show decode code 742 = .ok (.invokevirtual 98, 3) by decide +kernel) (fun v hv => absurd hv List.not_mem_nil) rfl ?_
  exact lj_eq C (show decode code 745 = .ok (.if_icmp .eq 249, 3) by decide +kernel) rfl (h _ hI)
set_option maxHeartbeats 4000000 in
set_option maxRecDepth 10000 in
theorem lc_count (C : LC p s m meth c b Lx xs E) (hi : i + 6 ≤ Lx) {ρ : ySt} (h0 : INV ρ ρ) (h : ∀ ρ2, INV ρ2 ρ2 → LJ p l e s m below meth c b E i 994 [] (ov ρ2)) : LJ p l e s m below meth c b E i 750 [] (ov ρ) := by
  have hN : 100000 ≤ 100000 := Nat.le_refl _
  obtain ⟨r, ρ1, ρ2, e1, e2, hI⟩ := join2 h0 (fun τ hτ => A_count hτ (arg xs i 1) (arg xs i 2) (arg xs i 3))
  refine lg_aload C 2 (show decode code 750 = .ok (.aload_n 1, 1) by decide +kernel) rfl ?_
  refine lj_arg C 1 (by decide) hi ⟨by decide +kernel, by decide +kernel, by decide +kernel, by decide +kernel, by decide +kernel⟩ ?_
  refine lj_arg C 2 (by decide) hi ⟨by decide +kernel, by decide +kernel, by decide +kernel, by decide +kernel, by decide +kernel⟩ ?_
  refine lj_arg C 3 (by decide) hi ⟨by decide +kernel, by decide +kernel, by decide +kernel, by decide +kernel, by decide +kernel⟩ ?_
  refine lg_call C (np := 3) (st := []) (as := [.inl (arg xs i 1), .inl (arg xs i 2), .inl (arg xs i 3)]) 0 11 (sh_cE_count e1) q5_209 q5_206 q5_207 q5_208 q1_1 (by decide) rfl (by decide) rfl (by decide) (by decide +kernel) (by decide) rfl (by exact Nat.zero_le _) (show decode code 766 = .ok (.invokevirtual 99, 3) by decide +kernel) (List.forall_mem_cons.mpr ⟨arg_ok _ _ _, (List.forall_mem_cons.mpr ⟨arg_ok _ _ _, (List.forall_mem_cons.mpr ⟨arg_ok _ _ _, (fun v hv => absurd hv List.not_mem_nil)⟩)⟩)⟩) rfl ?_
  refine lg_aload C 1 (show decode code 769 = .ok (.aload_n 2, 1) by decide +kernel) rfl ?_
  refine lj_arg C 1 (by decide) hi ⟨by decide +kernel, by decide +kernel, by decide +kernel, by decide +kernel, by decide +kernel⟩ ?_
  refine lj_arg C 2 (by decide) hi ⟨by decide +kernel, by decide +kernel, by decide +kernel, by decide +kernel, by decide +kernel⟩ ?_
  refine lj_arg C 3 (by decide) hi ⟨by decide +kernel, by decide +kernel, by decide +kernel, by decide +kernel, by decide +kernel⟩ ?_
  refine lg_call C (np := 3) (st := [.int (Int32.ofInt r)]) (as := [.inl (arg xs i 1), .inl (arg xs i 2), .inl (arg xs i 3)]) 92 12 (sh_mo_count e2) q8_213 q8_210 q8_211 q8_212 q1_15 (by decide) rfl (by decide) rfl (by decide) (by decide +kernel) (by decide) rfl (by show 1 ≤ 8; decide) (show decode code 785 = .ok (.invokevirtual 102, 3) by decide +kernel) (List.forall_mem_cons.mpr ⟨arg_ok _ _ _, (List.forall_mem_cons.mpr ⟨arg_ok _ _ _, (List.forall_mem_cons.mpr ⟨arg_ok _ _ _, (fun v hv => absurd hv List.not_mem_nil)⟩)⟩)⟩) rfl ?_
  exact lj_eq C (show decode code 788 = .ok (.if_icmp .eq 206, 3) by decide +kernel) rfl (h _ hI)
set_option maxHeartbeats 4000000 in
set_option maxRecDepth 10000 in
theorem lc_untell (C : LC p s m meth c b Lx xs E) (hi : i + 6 ≤ Lx) {ρ : ySt} (h0 : INV ρ ρ) (h : ∀ ρ2, INV ρ2 ρ2 → LJ p l e s m below meth c b E i 994 [] (ov ρ2)) : LJ p l e s m below meth c b E i 793 [] (ov ρ) := by
  have hN : 100000 ≤ 100000 := Nat.le_refl _
  obtain ⟨r, ρ1, ρ2, e1, e2, hI⟩ := join2 h0 (fun τ hτ => A_untell (N := 100000) hτ (arg xs i 1))
  refine lg_aload C 2 (show decode code 793 = .ok (.aload_n 1, 1) by decide +kernel) rfl ?_
  refine lj_arg C 1 (by decide) hi ⟨by decide +kernel, by decide +kernel, by decide +kernel, by decide +kernel, by decide +kernel⟩ ?_
  refine lg_call C (np := 1) (st := []) (as := [.inl (arg xs i 1)]) 0 11 (sh_cE_untell e1) q5_217 q5_214 q5_215 q5_216 q1_1 (by decide) rfl (by decide) rfl (by decide) (by decide +kernel) (by decide) rfl (by exact Nat.zero_le _) (show decode code 799 = .ok (.invokevirtual 103, 3) by decide +kernel) (List.forall_mem_cons.mpr ⟨arg_ok _ _ _, (fun v hv => absurd hv List.not_mem_nil)⟩) rfl ?_
  refine lg_aload C 1 (show decode code 802 = .ok (.aload_n 2, 1) by decide +kernel) rfl ?_
  refine lj_arg C 1 (by decide) hi ⟨by decide +kernel, by decide +kernel, by decide +kernel, by decide +kernel, by decide +kernel⟩ ?_
  refine lg_call C (np := 1) (st := [.int (Int32.ofInt r)]) (as := [.inl (arg xs i 1)]) 92 12 (sh_mo_untell e2) q8_217 q8_214 q8_215 q8_216 q1_15 (by decide) rfl (by decide) rfl (by decide) (by decide +kernel) (by decide) rfl (by show 1 ≤ 8; decide) (show decode code 808 = .ok (.invokevirtual 107, 3) by decide +kernel) (List.forall_mem_cons.mpr ⟨arg_ok _ _ _, (fun v hv => absurd hv List.not_mem_nil)⟩) rfl ?_
  exact lj_eq C (show decode code 811 = .ok (.if_icmp .eq 183, 3) by decide +kernel) rfl (h _ hI)
set_option maxHeartbeats 4000000 in
set_option maxRecDepth 10000 in
theorem lc_later (C : LC p s m meth c b Lx xs E) (hi : i + 6 ≤ Lx) {ρ : ySt} (h0 : INV ρ ρ) (h : ∀ ρ2, INV ρ2 ρ2 → LJ p l e s m below meth c b E i 994 [] (ov ρ2)) : LJ p l e s m below meth c b E i 816 [] (ov ρ) := by
  have hN : 100000 ≤ 100000 := Nat.le_refl _
  obtain ⟨r, ρ1, ρ2, e1, e2, hI⟩ := join2 h0 (fun τ hτ => A_later (N := 100000) hτ (arg xs i 1))
  refine lg_aload C 2 (show decode code 816 = .ok (.aload_n 1, 1) by decide +kernel) rfl ?_
  refine lj_arg C 1 (by decide) hi ⟨by decide +kernel, by decide +kernel, by decide +kernel, by decide +kernel, by decide +kernel⟩ ?_
  refine lg_call C (np := 1) (st := []) (as := [.inl (arg xs i 1)]) 0 11 (sh_cE_later e1) q5_225 q5_222 q5_223 q5_224 q1_1 (by decide) rfl (by decide) rfl (by decide) (by decide +kernel) (by decide) rfl (by exact Nat.zero_le _) (show decode code 822 = .ok (.invokevirtual 108, 3) by decide +kernel) (List.forall_mem_cons.mpr ⟨arg_ok _ _ _, (fun v hv => absurd hv List.not_mem_nil)⟩) rfl ?_
  refine lg_aload C 1 (show decode code 825 = .ok (.aload_n 2, 1) by decide +kernel) rfl ?_
  refine lj_arg C 1 (by decide) hi ⟨by decide +kernel, by decide +kernel, by decide +kernel, by decide +kernel, by decide +kernel⟩ ?_
  refine lg_call C (np := 1) (st := [.int (Int32.ofInt r)]) (as := [.inl (arg xs i 1)]) 92 12 (sh_mo_later e2) q8_221 q8_218 q8_219 q8_220 q1_15 (by decide) rfl (by decide) rfl (by decide) (by decide +kernel) (by decide) rfl (by show 1 ≤ 8; decide) (show decode code 831 = .ok (.invokevirtual 111, 3) by decide +kernel) (List.forall_mem_cons.mpr ⟨arg_ok _ _ _, (fun v hv => absurd hv List.not_mem_nil)⟩) rfl ?_
  exact lj_eq C (show decode code 834 = .ok (.if_icmp .eq 160, 3) by decide +kernel) rfl (h _ hI)
set_option maxHeartbeats 4000000 in
set_option maxRecDepth 10000 in
theorem lc_states (C : LC p s m meth c b Lx xs E) (hi : i + 6 ≤ Lx) {ρ : ySt} (h0 : INV ρ ρ) (h : ∀ ρ2, INV ρ2 ρ2 → LJ p l e s m below meth c b E i 994 [] (ov ρ2)) : LJ p l e s m below meth c b E i 839 [] (ov ρ) := by
  have hN : 100000 ≤ 100000 := Nat.le_refl _
  obtain ⟨r, ρ1, ρ2, e1, e2, hI⟩ := join2 h0 (fun τ hτ => A_states hN hτ (arg xs i 1) (arg xs i 2))
  refine lg_aload C 2 (show decode code 839 = .ok (.aload_n 1, 1) by decide +kernel) rfl ?_
  refine lj_arg C 1 (by decide) hi ⟨by decide +kernel, by decide +kernel, by decide +kernel, by decide +kernel, by decide +kernel⟩ ?_
  refine lj_arg C 2 (by decide) hi ⟨by decide +kernel, by decide +kernel, by decide +kernel, by decide +kernel, by decide +kernel⟩ ?_
  refine lg_call C (np := 2) (st := []) (as := [.inl (arg xs i 1), .inl (arg xs i 2)]) 0 11 (sh_cE_states e1) q5_230 q5_227 q5_228 q5_229 q1_1 (by decide) rfl (by decide) rfl (by decide) (by decide +kernel) (by decide) rfl (by exact Nat.zero_le _) (show decode code 850 = .ok (.invokevirtual 112, 3) by decide +kernel) (List.forall_mem_cons.mpr ⟨arg_ok _ _ _, (List.forall_mem_cons.mpr ⟨arg_ok _ _ _, (fun v hv => absurd hv List.not_mem_nil)⟩)⟩) rfl ?_
  refine lg_aload C 1 (show decode code 853 = .ok (.aload_n 2, 1) by decide +kernel) rfl ?_
  refine lj_arg C 1 (by decide) hi ⟨by decide +kernel, by decide +kernel, by decide +kernel, by decide +kernel, by decide +kernel⟩ ?_
  refine lj_arg C 2 (by decide) hi ⟨by decide +kernel, by decide +kernel, by decide +kernel, by decide +kernel, by decide +kernel⟩ ?_
  refine lg_call C (np := 2) (st := [.int (Int32.ofInt r)]) (as := [.inl (arg xs i 1), .inl (arg xs i 2)]) 92 12 (sh_mo_states e2) q8_157 q8_154 q8_155 q8_156 q1_15 (by decide) rfl (by decide) rfl (by decide) (by decide +kernel) (by decide) rfl (by show 1 ≤ 8; decide) (show decode code 864 = .ok (.invokevirtual 115, 3) by decide +kernel) (List.forall_mem_cons.mpr ⟨arg_ok _ _ _, (List.forall_mem_cons.mpr ⟨arg_ok _ _ _, (fun v hv => absurd hv List.not_mem_nil)⟩)⟩) rfl ?_
  exact lj_eq C (show decode code 867 = .ok (.if_icmp .eq 127, 3) by decide +kernel) rfl (h _ hI)
set_option maxHeartbeats 4000000 in
set_option maxRecDepth 10000 in
theorem lc_sure (C : LC p s m meth c b Lx xs E) (hi : i + 6 ≤ Lx) {ρ : ySt} (h0 : INV ρ ρ) (h : ∀ ρ2, INV ρ2 ρ2 → LJ p l e s m below meth c b E i 994 [] (ov ρ2)) : LJ p l e s m below meth c b E i 872 [] (ov ρ) := by
  have hN : 100000 ≤ 100000 := Nat.le_refl _
  obtain ⟨r, ρ1, ρ2, e1, e2, hI⟩ := join2 h0 (fun τ hτ => A_sure hN hτ (arg xs i 1) (arg xs i 2) (arg xs i 3) (arg xs i 4))
  refine lg_aload C 2 (show decode code 872 = .ok (.aload_n 1, 1) by decide +kernel) rfl ?_
  refine lj_arg C 1 (by decide) hi ⟨by decide +kernel, by decide +kernel, by decide +kernel, by decide +kernel, by decide +kernel⟩ ?_
  refine lj_arg C 2 (by decide) hi ⟨by decide +kernel, by decide +kernel, by decide +kernel, by decide +kernel, by decide +kernel⟩ ?_
  refine lj_arg C 3 (by decide) hi ⟨by decide +kernel, by decide +kernel, by decide +kernel, by decide +kernel, by decide +kernel⟩ ?_
  refine lj_arg C 4 (by decide) hi ⟨by decide +kernel, by decide +kernel, by decide +kernel, by decide +kernel, by decide +kernel⟩ ?_
  refine lg_call C (np := 4) (st := []) (as := [.inl (arg xs i 1), .inl (arg xs i 2), .inl (arg xs i 3), .inl (arg xs i 4)]) 0 11 (sh_cE_sure e1) q6_2 q5_239 q6_0 q6_1 q1_1 (by decide) rfl (by decide) rfl (by decide) (by decide +kernel) (by decide) rfl (by exact Nat.zero_le _) (show decode code 893 = .ok (.invokevirtual 116, 3) by decide +kernel) (List.forall_mem_cons.mpr ⟨arg_ok _ _ _, (List.forall_mem_cons.mpr ⟨arg_ok _ _ _, (List.forall_mem_cons.mpr ⟨arg_ok _ _ _, (List.forall_mem_cons.mpr ⟨arg_ok _ _ _, (fun v hv => absurd hv List.not_mem_nil)⟩)⟩)⟩)⟩) rfl ?_
  refine lg_aload C 1 (show decode code 896 = .ok (.aload_n 2, 1) by decide +kernel) rfl ?_
  refine lj_arg C 1 (by decide) hi ⟨by decide +kernel, by decide +kernel, by decide +kernel, by decide +kernel, by decide +kernel⟩ ?_
  refine lj_arg C 2 (by decide) hi ⟨by decide +kernel, by decide +kernel, by decide +kernel, by decide +kernel, by decide +kernel⟩ ?_
  refine lj_arg C 3 (by decide) hi ⟨by decide +kernel, by decide +kernel, by decide +kernel, by decide +kernel, by decide +kernel⟩ ?_
  refine lj_arg C 4 (by decide) hi ⟨by decide +kernel, by decide +kernel, by decide +kernel, by decide +kernel, by decide +kernel⟩ ?_
  refine lg_call C (np := 4) (st := [.int (Int32.ofInt r)]) (as := [.inl (arg xs i 1), .inl (arg xs i 2), .inl (arg xs i 3), .inl (arg xs i 4)]) 92 12 (sh_mo_sure e2) q8_161 q8_158 q8_159 q8_160 q1_15 (by decide) rfl (by decide) rfl (by decide) (by decide +kernel) (by decide) rfl (by show 1 ≤ 8; decide) (show decode code 917 = .ok (.invokevirtual 120, 3) by decide +kernel) (List.forall_mem_cons.mpr ⟨arg_ok _ _ _, (List.forall_mem_cons.mpr ⟨arg_ok _ _ _, (List.forall_mem_cons.mpr ⟨arg_ok _ _ _, (List.forall_mem_cons.mpr ⟨arg_ok _ _ _, (fun v hv => absurd hv List.not_mem_nil)⟩)⟩)⟩)⟩) rfl ?_
  exact lj_eq C (show decode code 920 = .ok (.if_icmp .eq 74, 3) by decide +kernel) rfl (h _ hI)
set_option maxHeartbeats 4000000 in
set_option maxRecDepth 10000 in
theorem lc_image (C : LC p s m meth c b Lx xs E) (hi : i + 6 ≤ Lx) {ρ : ySt} (h0 : INV ρ ρ) (h : ∀ ρ2, INV ρ2 ρ2 → LJ p l e s m below meth c b E i 994 [] (ov ρ2)) : LJ p l e s m below meth c b E i 925 [] (ov ρ) := by
  have hN : 100000 ≤ 100000 := Nat.le_refl _
  obtain ⟨r, ρ1, ρ2, e1, e2, hI⟩ := join2 h0 (fun τ hτ => A_image hN hτ (arg xs i 1))
  refine lg_aload C 2 (show decode code 925 = .ok (.aload_n 1, 1) by decide +kernel) rfl ?_
  refine lj_arg C 1 (by decide) hi ⟨by decide +kernel, by decide +kernel, by decide +kernel, by decide +kernel, by decide +kernel⟩ ?_
  refine lg_call C (np := 1) (st := []) (as := [.inl (arg xs i 1)]) 0 11 (sh_cE_image e1) q6_10 q6_7 q6_8 q6_9 q1_1 (by decide) rfl (by decide) rfl (by decide) (by decide +kernel) (by decide) rfl (by exact Nat.zero_le _) (show decode code 931 = .ok (.invokevirtual 121, 3) by decide +kernel) (List.forall_mem_cons.mpr ⟨arg_ok _ _ _, (fun v hv => absurd hv List.not_mem_nil)⟩) rfl ?_
  refine lg_aload C 1 (show decode code 934 = .ok (.aload_n 2, 1) by decide +kernel) rfl ?_
  refine lj_arg C 1 (by decide) hi ⟨by decide +kernel, by decide +kernel, by decide +kernel, by decide +kernel, by decide +kernel⟩ ?_
  refine lg_call C (np := 1) (st := [.int (Int32.ofInt r)]) (as := [.inl (arg xs i 1)]) 92 12 (sh_mo_image e2) q8_226 q8_223 q8_224 q8_225 q1_15 (by decide) rfl (by decide) rfl (by decide) (by decide +kernel) (by decide) rfl (by show 1 ≤ 8; decide) (show decode code 940 = .ok (.invokevirtual 124, 3) by decide +kernel) (List.forall_mem_cons.mpr ⟨arg_ok _ _ _, (fun v hv => absurd hv List.not_mem_nil)⟩) rfl ?_
  exact lj_eq C (show decode code 943 = .ok (.if_icmp .eq 51, 3) by decide +kernel) rfl (h _ hI)
set_option maxHeartbeats 4000000 in
set_option maxRecDepth 10000 in
theorem lc_back (C : LC p s m meth c b Lx xs E) (hi : i + 6 ≤ Lx) {ρ : ySt} (h0 : INV ρ ρ) (h : ∀ ρ2, INV ρ2 ρ2 → LJ p l e s m below meth c b E i 994 [] (ov ρ2)) : LJ p l e s m below meth c b E i 948 [] (ov ρ) := by
  have hN : 100000 ≤ 100000 := Nat.le_refl _
  obtain ⟨r, ρ1, ρ2, e1, e2, hI⟩ := join2 h0 (fun τ hτ => A_back hN hτ (arg xs i 1))
  refine lg_aload C 2 (show decode code 948 = .ok (.aload_n 1, 1) by decide +kernel) rfl ?_
  refine lj_arg C 1 (by decide) hi ⟨by decide +kernel, by decide +kernel, by decide +kernel, by decide +kernel, by decide +kernel⟩ ?_
  refine lg_call C (np := 1) (st := []) (as := [.inl (arg xs i 1)]) 0 11 (sh_cE_back e1) q6_18 q6_15 q6_16 q6_17 q1_1 (by decide) rfl (by decide) rfl (by decide) (by decide +kernel) (by decide) rfl (by exact Nat.zero_le _) (show decode code 954 = .ok (.invokevirtual 125, 3) by decide +kernel) (List.forall_mem_cons.mpr ⟨arg_ok _ _ _, (fun v hv => absurd hv List.not_mem_nil)⟩) rfl ?_
  refine lg_aload C 1 (show decode code 957 = .ok (.aload_n 2, 1) by decide +kernel) rfl ?_
  refine lj_arg C 1 (by decide) hi ⟨by decide +kernel, by decide +kernel, by decide +kernel, by decide +kernel, by decide +kernel⟩ ?_
  refine lg_call C (np := 1) (st := [.int (Int32.ofInt r)]) (as := [.inl (arg xs i 1)]) 92 12 (sh_mo_back e2) q8_230 q8_227 q8_228 q8_229 q1_15 (by decide) rfl (by decide) rfl (by decide) (by decide +kernel) (by decide) rfl (by show 1 ≤ 8; decide) (show decode code 963 = .ok (.invokevirtual 128, 3) by decide +kernel) (List.forall_mem_cons.mpr ⟨arg_ok _ _ _, (fun v hv => absurd hv List.not_mem_nil)⟩) rfl ?_
  exact lj_eq C (show decode code 966 = .ok (.if_icmp .eq 28, 3) by decide +kernel) rfl (h _ hI)
set_option maxHeartbeats 4000000 in
set_option maxRecDepth 10000 in
theorem lc_about (C : LC p s m meth c b Lx xs E) (hi : i + 6 ≤ Lx) {ρ : ySt} (h0 : INV ρ ρ) (h : ∀ ρ2, INV ρ2 ρ2 → LJ p l e s m below meth c b E i 994 [] (ov ρ2)) : LJ p l e s m below meth c b E i 971 [] (ov ρ) := by
  have hN : 100000 ≤ 100000 := Nat.le_refl _
  obtain ⟨r, e1, e2⟩ := A_about h0 (arg xs i 1)
  have hI := h0
  refine lg_aload C 2 (show decode code 971 = .ok (.aload_n 1, 1) by decide +kernel) rfl ?_
  refine lj_arg C 1 (by decide) hi ⟨by decide +kernel, by decide +kernel, by decide +kernel, by decide +kernel, by decide +kernel⟩ ?_
  refine lg_call C (np := 1) (st := []) (as := [.inl (arg xs i 1)]) 0 11 (sh_cE_about e1) q6_22 q6_19 q6_20 q6_21 q1_1 (by decide) rfl (by decide) rfl (by decide) (by decide +kernel) (by decide) rfl (by exact Nat.zero_le _) (show decode code 977 = .ok (.invokevirtual 129, 3) by decide +kernel) (List.forall_mem_cons.mpr ⟨arg_ok _ _ _, (fun v hv => absurd hv List.not_mem_nil)⟩) rfl ?_
  refine lg_aload C 1 (show decode code 980 = .ok (.aload_n 2, 1) by decide +kernel) rfl ?_
  refine lj_arg C 1 (by decide) hi ⟨by decide +kernel, by decide +kernel, by decide +kernel, by decide +kernel, by decide +kernel⟩ ?_
  refine lg_call C (np := 1) (st := [.int (Int32.ofInt r)]) (as := [.inl (arg xs i 1)]) 92 12 (sh_mo_about e2) q8_234 q8_231 q8_232 q8_233 q1_15 (by decide) rfl (by decide) rfl (by decide) (by decide +kernel) (by decide) rfl (by show 1 ≤ 8; decide) (show decode code 986 = .ok (.invokevirtual 132, 3) by decide +kernel) (List.forall_mem_cons.mpr ⟨arg_ok _ _ _, (fun v hv => absurd hv List.not_mem_nil)⟩) rfl ?_
  exact lj_eq C (show decode code 989 = .ok (.if_icmp .eq 5, 3) by decide +kernel) rfl (h _ hI)
end LAW2
