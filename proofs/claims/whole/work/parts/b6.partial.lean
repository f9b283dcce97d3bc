/-- a town's own references laid over a store in which not all cells stand yet -/
def ovp (T : Nat) (σ : ySt) : ySt := fun i k => if T ≤ i ∧ i < T + 20 then ov σ i k else σ i k
theorem ovp_set {T : Nat} {σ : ySt} {i k : Nat} {z : Int} (h : yCr i k = 0) : yset (ovp T σ) i k z = ovp T (yset σ i k z) := by
  funext a j
  have h1 := congrFun (congrFun (ov_set (σ := σ) (z := z) h) a) j
  unfold ovp
  by_cases e : T ≤ a ∧ a < T + 20
  · rw [if_pos e, ← h1]
    unfold yset
    by_cases e2 : a = i ∧ j = k
    · rw [if_pos e2, if_pos e2]
    · rw [if_neg e2, if_neg e2]
      exact if_pos e
  · rw [if_neg e]
    unfold yset
    by_cases e2 : a = i ∧ j = k
    · rw [if_pos e2, if_pos e2]
    · rw [if_neg e2, if_neg e2]
      exact if_neg e
theorem ovp_set1 {T : Nat} {σ σ1 : ySt} {i k : Nat} {z : Int} (e : σ1 = yset σ i k z) (h : yCr i k = 0) : yset (ovp T σ) i k z = ovp T σ1 := by rw [e]; exact ovp_set h
theorem ovp_at {T : Nat} {σ : ySt} {i k : Nat} (h : yCr i k = 0) : ovp T σ i k = σ i k := by
  unfold ovp
  by_cases e : T ≤ i ∧ i < T + 20
  · rw [if_pos e]; exact ov_at h
  · exact if_neg e
set_option maxHeartbeats 4000000 in
set_option maxRecDepth 10000 in
theorem sq_cRu_clear {E : yE} {n T : Nat} {o : Nat} {σ : ySt} {τ : ySt} (hn : T + 20 ≤ n) (hT : (o = 30 ∧ T = 13) ∨ (o = 50 ∧ T = 33)) (h : cRu_clear o σ = some τ) : Con E MX7_clear 0 0 0 [.inr (.inr (o + 1))] n (ovp T σ) none (ovp T τ) := by
  unfold cRu_clear at h
  refine Con.ofY (by decide +kernel) (by simp [yWords, yCat]) (fun hok _ => ?_)
  show Y E MX7_clear (yRm 0 0 0) (yQf E (n + 0) 0 0 none (ovp T τ)) 0 [(0, .inr (.inr (o + 1)))] [] (ovp T σ) n 0 0
  obtain ⟨c1, h⟩ := chk_some h
  refine y_aload_n (show decode cX7_clear 0 = .ok (.aload_n 0, 1) by decide +kernel) 0 rfl ?_
  refine y_iconst (show decode cX7_clear 1 = .ok (.iconst 0, 1) by decide +kernel) rfl ?_
  obtain ⟨σ2, e3, h⟩ := bnd_i h
  refine yo_putI o 7 2 18 (by omega) (by rcases hT with ⟨rfl, rfl⟩ | ⟨rfl, rfl⟩ <;> rfl) (by decide) (by decide) q1_167 rfl (show decode cX7_clear 2 = .ok (.putfield 18, 3) by decide +kernel) rfl rfl (ovp_set1 e3 (by rcases hT with ⟨rfl, rfl⟩ | ⟨rfl, rfl⟩ <;> rfl)) ?_
  refine y_aload_n (show decode cX7_clear 5 = .ok (.aload_n 0, 1) by decide +kernel) 0 rfl ?_
  refine y_iconst (show decode cX7_clear 6 = .ok (.iconst 0, 1) by decide +kernel) rfl ?_
  obtain ⟨σ4, e5, h⟩ := bnd_i h
  refine yo_putI o 7 3 22 (by omega) (by rcases hT with ⟨rfl, rfl⟩ | ⟨rfl, rfl⟩ <;> rfl) (by decide) (by decide) q1_168 rfl (show decode cX7_clear 7 = .ok (.putfield 22, 3) by decide +kernel) rfl rfl (ovp_set1 e5 (by rcases hT with ⟨rfl, rfl⟩ | ⟨rfl, rfl⟩ <;> rfl)) ?_
  cases h
  exact y_vret (show decode cX7_clear 10 = .ok (.return_, 1) by decide +kernel) rfl
set_option maxHeartbeats 4000000 in
set_option maxRecDepth 10000 in
theorem sq_jA_fill_53178 {E : yE} {n T : Nat} {N : Nat} {a : Nat} {b : Int} {σ : ySt} {τ : ySt} (ha : a < n) (h : jA_fill_53178 N a b σ = some τ) : Con E MJ7_fill_53178 0 0 0 [.inr (.inr (a + 1)), .inl b] n (ovp T σ) none (ovp T τ) := by
  unfold jA_fill_53178 at h
  refine Con.ofY (by decide +kernel) (by simp [yWords, yCat]) (fun hok _ => ?_)
  show Y E MJ7_fill_53178 (yRm 0 0 0) (yQf E (n + 0) 0 0 none (ovp T τ)) 0 [(0, .inr (.inr (a + 1))), (1, .inl b)] [] (ovp T σ) n 0 0
  obtain ⟨c1, h⟩ := chk_some h
  refine y_iconst (show decode cJ7_fill_53178 0 = .ok (.iconst 0, 1) by decide +kernel) rfl ?_
  refine y_istore_n (show decode cJ7_fill_53178 1 = .ok (.istore_n 2, 1) by decide +kernel) rfl (L1 := [(2, .inl 0), (0, .inr (.inr (a + 1))), (1, .inl b)]) rfl ?_
  refine y_aload_n (show decode cJ7_fill_53178 2 = .ok (.aload_n 0, 1) by decide +kernel) 1 rfl ?_
  refine y_alen a 20 (yKd a).2 ha (yArr_kd c1) (by decide) (by decide) (yLen_ok c1.2) (show decode cJ7_fill_53178 3 = .ok (.arraylength, 1) by decide +kernel) ?_
  refine y_istore_n (show decode cJ7_fill_53178 4 = .ok (.istore_n 3, 1) by decide +kernel) rfl (L1 := [(3, .inl ((yKd a).2 : Int)), (2, .inl 0), (0, .inr (.inr (a + 1))), (1, .inl b)]) rfl ?_
  refine y_pick [2, 3, 1, 0] rfl ?_
  refine loopS1_ind (P := fun x2 σ3 => Y E MJ7_fill_53178 (yRm 0 0 0) (yQf E (n + 0) 0 0 none (ovp T τ)) 5 [(0, .inr (.inr (a + 1))), (1, .inl b), (2, .inl x2), (3, .inl ((yKd a).2 : Int))] [] (ovp T σ3) n 0 0) (fun k4 hk4 x2 σ3 h => ?_) _ _ _  h
  refine y_iload_n (show decode cJ7_fill_53178 5 = .ok (.iload_n 2, 1) by decide +kernel) 2 rfl ?_
  refine y_iload_n (show decode cJ7_fill_53178 6 = .ok (.iload_n 3, 1) by decide +kernel) 3 rfl ?_
  by_cases c5 : x2 ≥ ((yKd a).2 : Int)
  · rw [if_pos c5] at h
    refine y_icmp_ge_t (tgt := 20) (show decode cJ7_fill_53178 7 = .ok (.if_icmp .ge 13, 3) by decide +kernel) rfl c5 ?_
    cases h
    exact y_vret (show decode cJ7_fill_53178 20 = .ok (.return_, 1) by decide +kernel) rfl
  · rw [if_neg c5] at h
    refine y_icmp_ge_f (show decode cJ7_fill_53178 7 = .ok (.if_icmp .ge 13, 3) by decide +kernel) c5 (by decide) ?_
    refine y_aload_n (show decode cJ7_fill_53178 10 = .ok (.aload_n 0, 1) by decide +kernel) 0 rfl ?_
    refine y_iload_n (show decode cJ7_fill_53178 11 = .ok (.iload_n 2, 1) by decide +kernel) 2 rfl ?_
    refine y_iload_n (show decode cJ7_fill_53178 12 = .ok (.iload_n 1, 1) by decide +kernel) 1 rfl ?_
    obtain ⟨c6, h⟩ := chkA_some h
    obtain ⟨σ7, e8, h⟩ := bnd_i h
    refine yo_iast a (yKd a).2 ha (yArr_kd c1) c6 (ovp_set1 e8 (yArr_cr (by rw [c1.1]; decide) c1.2 _)) (show decode cJ7_fill_53178 13 = .ok (.iastore, 1) by decide +kernel) ?_
    obtain ⟨c9, h⟩ := chkI_some h
    refine y_iinc (show decode cJ7_fill_53178 14 = .ok (.iinc 2 1, 3) by decide +kernel) 2 rfl c9 rfl (L1 := [(2, .inl (x2 + 1)), (0, .inr (.inr (a + 1))), (1, .inl b), (3, .inl ((yKd a).2 : Int))]) rfl ?_
    refine y_goto (tgt := 5) (show decode cJ7_fill_53178 17 = .ok (.goto (-12), 3) by decide +kernel) rfl ?_
    refine y_pick [1, 2, 0, 3] rfl ?_
    exact hk4 _ _ h
set_option maxHeartbeats 4000000 in
set_option maxRecDepth 10000 in
theorem sq_cTw_clear {E : yE} {n T : Nat} {N : Nat} {o : Nat} {σ : ySt} {τ : ySt} (hn : T + 20 ≤ n) (hT : (o = 13 ∧ T = 13) ∨ (o = 33 ∧ T = 33)) (h : cTw_clear N o σ = some τ) : Con E MX9_clear 1 0 0 [.inr (.inr (o + 1))] n (ovp T σ) none (ovp T τ) := by
  unfold cTw_clear at h
  refine Con.ofY (by decide +kernel) (by simp [yWords, yCat]) (fun hok _ => ?_)
  show Y E MX9_clear (yRm 1 0 0) (yQf E (n + 0) 0 0 none (ovp T τ)) 0 [(0, .inr (.inr (o + 1)))] [] (ovp T σ) n 0 0
  obtain ⟨c1, h⟩ := chk_some h
  refine y_aload_n (show decode cX9_clear 0 = .ok (.aload_n 0, 1) by decide +kernel) 0 rfl ?_
  refine y_getf o 9 0 14 (by omega) (by rcases hT with ⟨rfl, rfl⟩ | ⟨rfl, rfl⟩ <;> rfl) (by decide) (by decide) q1_192 (show decode cX9_clear 1 = .ok (.getfield 14, 3) by decide +kernel) (v := .inr (.inr ((o + 1) + 1))) (by rcases hT with ⟨rfl, rfl⟩ | ⟨rfl, rfl⟩ <;> rfl) ?_
  refine y_iconst (show decode cX9_clear 4 = .ok (.iconst 0, 1) by decide +kernel) rfl ?_
  obtain ⟨σ2, e3, h⟩ := bnd_i h
  refine yo_putI (o + 1) 5 1 68 (by omega) (by rcases hT with ⟨rfl, rfl⟩ | ⟨rfl, rfl⟩ <;> rfl) (by decide) (by decide) q1_146 rfl (show decode cX9_clear 5 = .ok (.putfield 68, 3) by decide +kernel) rfl rfl (ovp_set1 e3 (by rcases hT with ⟨rfl, rfl⟩ | ⟨rfl, rfl⟩ <;> rfl)) ?_
  refine y_aload_n (show decode cX9_clear 8 = .ok (.aload_n 0, 1) by decide +kernel) 0 rfl ?_
  refine y_getf o 9 1 20 (by omega) (by rcases hT with ⟨rfl, rfl⟩ | ⟨rfl, rfl⟩ <;> rfl) (by decide) (by decide) q1_200 (show decode cX9_clear 9 = .ok (.getfield 20, 3) by decide +kernel) (v := .inr (.inr ((o + 3) + 1))) (by rcases hT with ⟨rfl, rfl⟩ | ⟨rfl, rfl⟩ <;> rfl) ?_
  refine y_iconst (show decode cX9_clear 12 = .ok (.iconst 0, 1) by decide +kernel) rfl ?_
  obtain ⟨σ4, e5, h⟩ := bnd_i h
  refine yo_putI (o + 3) 5 1 68 (by omega) (by rcases hT with ⟨rfl, rfl⟩ | ⟨rfl, rfl⟩ <;> rfl) (by decide) (by decide) q1_146 rfl (show decode cX9_clear 13 = .ok (.putfield 68, 3) by decide +kernel) rfl rfl (ovp_set1 e5 (by rcases hT with ⟨rfl, rfl⟩ | ⟨rfl, rfl⟩ <;> rfl)) ?_
  refine y_aload_n (show decode cX9_clear 16 = .ok (.aload_n 0, 1) by decide +kernel) 0 rfl ?_
  refine y_getf o 9 2 23 (by omega) (by rcases hT with ⟨rfl, rfl⟩ | ⟨rfl, rfl⟩ <;> rfl) (by decide) (by decide) q1_206 (show decode cX9_clear 17 = .ok (.getfield 23, 3) by decide +kernel) (v := .inr (.inr ((o + 5) + 1))) (by rcases hT with ⟨rfl, rfl⟩ | ⟨rfl, rfl⟩ <;> rfl) ?_
  refine y_iconst (show decode cX9_clear 20 = .ok (.iconst 0, 1) by decide +kernel) rfl ?_
  obtain ⟨σ6, e7, h⟩ := bnd_i h
  refine yo_putI (o + 5) 5 1 68 (by omega) (by rcases hT with ⟨rfl, rfl⟩ | ⟨rfl, rfl⟩ <;> rfl) (by decide) (by decide) q1_146 rfl (show decode cX9_clear 21 = .ok (.putfield 68, 3) by decide +kernel) rfl rfl (ovp_set1 e7 (by rcases hT with ⟨rfl, rfl⟩ | ⟨rfl, rfl⟩ <;> rfl)) ?_
  refine y_aload_n (show decode cX9_clear 24 = .ok (.aload_n 0, 1) by decide +kernel) 0 rfl ?_
  refine y_iconst (show decode cX9_clear 25 = .ok (.iconst 0, 1) by decide +kernel) rfl ?_
  obtain ⟨σ8, e9, h⟩ := bnd_i h
  refine yo_putI o 9 14 72 (by omega) (by rcases hT with ⟨rfl, rfl⟩ | ⟨rfl, rfl⟩ <;> rfl) (by decide) (by decide) q2_7 rfl (show decode cX9_clear 26 = .ok (.putfield 72, 3) by decide +kernel) rfl rfl (ovp_set1 e9 (by rcases hT with ⟨rfl, rfl⟩ | ⟨rfl, rfl⟩ <;> rfl)) ?_
  refine y_aload_n (show decode cX9_clear 29 = .ok (.aload_n 0, 1) by decide +kernel) 0 rfl ?_
  refine y_iconst (show decode cX9_clear 30 = .ok (.iconst 0, 1) by decide +kernel) rfl ?_
  obtain ⟨σ10, e11, h⟩ := bnd_i h
  refine yo_putI o 9 15 75 (by omega) (by rcases hT with ⟨rfl, rfl⟩ | ⟨rfl, rfl⟩ <;> rfl) (by decide) (by decide) q2_12 rfl (show decode cX9_clear 31 = .ok (.putfield 75, 3) by decide +kernel) rfl rfl (ovp_set1 e11 (by rcases hT with ⟨rfl, rfl⟩ | ⟨rfl, rfl⟩ <;> rfl)) ?_
  refine y_aload_n (show decode cX9_clear 34 = .ok (.aload_n 0, 1) by decide +kernel) 0 rfl ?_
  refine y_bipush (show decode cX9_clear 35 = .ok (.bipush 60, 2) by decide +kernel) rfl rfl ?_
  obtain ⟨σ12, e13, h⟩ := bnd_i h
  refine yo_putI o 9 16 78 (by omega) (by rcases hT with ⟨rfl, rfl⟩ | ⟨rfl, rfl⟩ <;> rfl) (by decide) (by decide) q2_16 rfl (show decode cX9_clear 37 = .ok (.putfield 78, 3) by decide +kernel) rfl rfl (ovp_set1 e13 (by rcases hT with ⟨rfl, rfl⟩ | ⟨rfl, rfl⟩ <;> rfl)) ?_
  refine y_aload_n (show decode cX9_clear 40 = .ok (.aload_n 0, 1) by decide +kernel) 0 rfl ?_
  refine y_iconst (show decode cX9_clear 41 = .ok (.iconst 3, 1) by decide +kernel) rfl ?_
  obtain ⟨σ14, e15, h⟩ := bnd_i h
  refine yo_putI o 9 17 81 (by omega) (by rcases hT with ⟨rfl, rfl⟩ | ⟨rfl, rfl⟩ <;> rfl) (by decide) (by decide) q2_20 rfl (show decode cX9_clear 42 = .ok (.putfield 81, 3) by decide +kernel) rfl rfl (ovp_set1 e15 (by rcases hT with ⟨rfl, rfl⟩ | ⟨rfl, rfl⟩ <;> rfl)) ?_
  refine y_aload_n (show decode cX9_clear 45 = .ok (.aload_n 0, 1) by decide +kernel) 0 rfl ?_
  refine y_getf o 9 13 61 (by omega) (by rcases hT with ⟨rfl, rfl⟩ | ⟨rfl, rfl⟩ <;> rfl) (by decide) (by decide) q2_4 (show decode cX9_clear 46 = .ok (.getfield 61, 3) by decide +kernel) (v := .inr (.inr ((o + 17) + 1))) (by rcases hT with ⟨rfl, rfl⟩ | ⟨rfl, rfl⟩ <;> rfl) ?_
  obtain ⟨σ17, e16, h⟩ := bndO_some h
  refine y_callV (np := 0) (st := []) (as := []) (o + 17) 7 (sq_cRu_clear hn (by omega) e16) q1_187 q1_184 q1_185 q1_186 q1_7 (by omega) (by rcases hT with ⟨rfl, rfl⟩ | ⟨rfl, rfl⟩ <;> rfl) (by decide) rfl (by decide) (by decide +kernel) (by decide) rfl (Nat.le_of_ble_eq_true rfl) (show decode cX9_clear 49 = .ok (.invokevirtual 84, 3) by decide +kernel) rfl ?_
  refine y_aload_n (show decode cX9_clear 52 = .ok (.aload_n 0, 1) by decide +kernel) 0 rfl ?_
  refine y_getf o 9 11 52 (by omega) (by rcases hT with ⟨rfl, rfl⟩ | ⟨rfl, rfl⟩ <;> rfl) (by decide) (by decide) q1_237 (show decode cX9_clear 53 = .ok (.getfield 52, 3) by decide +kernel) (v := .inr (.inr ((o + 15) + 1))) (by rcases hT with ⟨rfl, rfl⟩ | ⟨rfl, rfl⟩ <;> rfl) ?_
  refine y_ldc (k := 1000000) (show decode cX9_clear 56 = .ok (.ldc 85, 2) by decide +kernel) q1_188 rfl rfl ?_
  obtain ⟨σ19, e18, h⟩ := bndO_some h
  refine y_callS (np := 2) (st := []) (as := [.inr (.inr ((o + 15) + 1)), .inl 1000000]) (sq_jA_fill_53178 (by omega) e18) q1_191 q1_189 q1_190 q1_8 (by decide) (by decide +kernel) (by decide) rfl (Nat.le_of_ble_eq_true rfl) (show decode cX9_clear 58 = .ok (.invokestatic 86, 3) by decide +kernel) rfl ?_
  refine y_iconst (show decode cX9_clear 61 = .ok (.iconst 0, 1) by decide +kernel) rfl ?_
  refine y_istore_n (show decode cX9_clear 62 = .ok (.istore_n 1, 1) by decide +kernel) rfl (L1 := [(1, .inl 0), (0, .inr (.inr (o + 1)))]) rfl ?_
  refine y_pick [1, 0] rfl ?_
  refine loopS1_ind (P := fun x20 σ21 => Y E MX9_clear (yRm 1 0 0) (yQf E (n + 0) 0 0 none (ovp T τ)) 63 [(0, .inr (.inr (o + 1))), (1, .inl x20)] [] (ovp T σ21) n 0 0) (fun k22 hk22 x20 σ21 h => ?_) _ _ _  h
  refine y_iload_n (show decode cX9_clear 63 = .ok (.iload_n 1, 1) by decide +kernel) 1 rfl ?_
  refine y_bipush (show decode cX9_clear 64 = .ok (.bipush 6, 2) by decide +kernel) rfl rfl ?_
  by_cases c23 : x20 ≥ 6
  · rw [if_pos c23] at h
    refine y_icmp_ge_t (tgt := 87) (show decode cX9_clear 66 = .ok (.if_icmp .ge 21, 3) by decide +kernel) rfl c23 ?_
    cases h
    exact y_vret (show decode cX9_clear 87 = .ok (.return_, 1) by decide +kernel) rfl
  · rw [if_neg c23] at h
    refine y_icmp_ge_f (show decode cX9_clear 66 = .ok (.if_icmp .ge 21, 3) by decide +kernel) c23 (by decide) ?_
    refine y_aload_n (show decode cX9_clear 69 = .ok (.aload_n 0, 1) by decide +kernel) 0 rfl ?_
    refine y_getf o 9 11 52 (by omega) (by rcases hT with ⟨rfl, rfl⟩ | ⟨rfl, rfl⟩ <;> rfl) (by decide) (by decide) q1_237 (show decode cX9_clear 70 = .ok (.getfield 52, 3) by decide +kernel) (v := .inr (.inr ((o + 15) + 1))) (by rcases hT with ⟨rfl, rfl⟩ | ⟨rfl, rfl⟩ <;> rfl) ?_
    refine y_iload_n (show decode cX9_clear 73 = .ok (.iload_n 1, 1) by decide +kernel) 1 rfl ?_
    refine y_bipush (show decode cX9_clear 74 = .ok (.bipush 6, 2) by decide +kernel) rfl rfl ?_
    obtain ⟨c24, h⟩ := chkI_some h
    refine y_imul (show decode cX9_clear 76 = .ok (.imul, 1) by decide +kernel) c24 ?_
    refine y_iload_n (show decode cX9_clear 77 = .ok (.iload_n 1, 1) by decide +kernel) 1 rfl ?_
    obtain ⟨c25, h⟩ := chkI_some h
    refine y_iadd (show decode cX9_clear 78 = .ok (.iadd, 1) by decide +kernel) c25 ?_
    refine y_iconst (show decode cX9_clear 79 = .ok (.iconst 0, 1) by decide +kernel) rfl ?_
    obtain ⟨c26, h⟩ := chkA_some h
    obtain ⟨σ27, e28, h⟩ := bnd_i h
    refine yo_iast (o + 15) 36 (by omega) (by rcases hT with ⟨rfl, rfl⟩ | ⟨rfl, rfl⟩ <;> rfl) c26 (ovp_set1 e28 (by rcases hT with ⟨rfl, rfl⟩ | ⟨rfl, rfl⟩ <;> rfl)) (show decode cX9_clear 80 = .ok (.iastore, 1) by decide +kernel) ?_
    obtain ⟨c29, h⟩ := chkI_some h
    refine y_iinc (show decode cX9_clear 81 = .ok (.iinc 1 1, 3) by decide +kernel) 1 rfl c29 rfl (L1 := [(1, .inl (x20 + 1)), (0, .inr (.inr (o + 1)))]) rfl ?_
    refine y_goto (tgt := 63) (show decode cX9_clear 84 = .ok (.goto (-21), 3) by decide +kernel) rfl ?_
    refine y_pick [1, 0] rfl ?_
    exact hk22 _ _ h
set_option maxHeartbeats 4000000 in
set_option maxRecDepth 10000 in
theorem sq_jM_min_7cf53 {E : yE} {n T : Nat} {a : Int} {b : Int} {σ : ySt} {ρ : Int} (h : jM_min_7cf53 a b σ = some ρ) : Con E MJ9_min_7cf53 0 0 0 [.inl a, .inl b] n (ovp T σ) (some (.inl ρ)) (ovp T σ) := by
  unfold jM_min_7cf53 at h
  refine Con.ofY (by decide +kernel) (by simp [yWords, yCat]) (fun hok _ => ?_)
  show Y E MJ9_min_7cf53 (yRm 0 0 0) (yQf E (n + 0) 0 0 (some (.inl ρ)) (ovp T σ)) 0 [(0, .inl a), (1, .inl b)] [] (ovp T σ) n 0 0
  refine y_iload_n (show decode cJ9_min_7cf53 0 = .ok (.iload_n 0, 1) by decide +kernel) 0 rfl ?_
  refine y_iload_n (show decode cJ9_min_7cf53 1 = .ok (.iload_n 1, 1) by decide +kernel) 1 rfl ?_
  by_cases c1 : a > b
  · rw [if_pos c1] at h
    refine y_icmp_gt_t (tgt := 9) (show decode cJ9_min_7cf53 2 = .ok (.if_icmp .gt 7, 3) by decide +kernel) rfl c1 ?_
    refine y_iload_n (show decode cJ9_min_7cf53 9 = .ok (.iload_n 1, 1) by decide +kernel) 1 rfl ?_
    cases h
    exact y_iret (show decode cJ9_min_7cf53 10 = .ok (.ireturn, 1) by decide +kernel) rfl
  · rw [if_neg c1] at h
    refine y_icmp_gt_f (show decode cJ9_min_7cf53 2 = .ok (.if_icmp .gt 7, 3) by decide +kernel) c1 (by decide) ?_
    refine y_iload_n (show decode cJ9_min_7cf53 5 = .ok (.iload_n 0, 1) by decide +kernel) 0 rfl ?_
    refine y_goto (tgt := 10) (show decode cJ9_min_7cf53 6 = .ok (.goto 4, 3) by decide +kernel) rfl ?_
    cases h
    exact y_iret (show decode cJ9_min_7cf53 10 = .ok (.ireturn, 1) by decide +kernel) rfl
set_option maxHeartbeats 4000000 in
set_option maxRecDepth 10000 in
theorem sq_cTw_layLeast {E : yE} {n T : Nat} {N : Nat} {o : Nat} {σ : ySt} {τ : ySt} (hn : T + 20 ≤ n) (hT : (o = 13 ∧ T = 13) ∨ (o = 33 ∧ T = 33)) (h : cTw_layLeast N o σ = some τ) : Con E MX9_layLeast 1 0 0 [.inr (.inr (o + 1))] n (ovp T σ) none (ovp T τ) := by
  unfold cTw_layLeast at h
  refine Con.ofY (by decide +kernel) (by simp [yWords, yCat]) (fun hok _ => ?_)
  show Y E MX9_layLeast (yRm 1 0 0) (yQf E (n + 0) 0 0 none (ovp T τ)) 0 [(0, .inr (.inr (o + 1)))] [] (ovp T σ) n 0 0
  obtain ⟨c1, h⟩ := chk_some h
  refine y_aload_n (show decode cX9_layLeast 0 = .ok (.aload_n 0, 1) by decide +kernel) 0 rfl ?_
  refine y_getf o 9 0 14 (by omega) (by rcases hT with ⟨rfl, rfl⟩ | ⟨rfl, rfl⟩ <;> rfl) (by decide) (by decide) q1_192 (show decode cX9_layLeast 1 = .ok (.getfield 14, 3) by decide +kernel) (v := .inr (.inr ((o + 1) + 1))) (by rcases hT with ⟨rfl, rfl⟩ | ⟨rfl, rfl⟩ <;> rfl) ?_
  refine y_getf (o + 1) 5 1 68 (by omega) (by rcases hT with ⟨rfl, rfl⟩ | ⟨rfl, rfl⟩ <;> rfl) (by decide) (by decide) q1_146 (show decode cX9_layLeast 4 = .ok (.getfield 68, 3) by decide +kernel) (v := .inl (σ (o + 1) 1)) (by rcases hT with ⟨rfl, rfl⟩ | ⟨rfl, rfl⟩ <;> rfl) ?_
  refine y_istore_n (show decode cX9_layLeast 7 = .ok (.istore_n 1, 1) by decide +kernel) rfl (L1 := [(1, .inl (σ (o + 1) 1)), (0, .inr (.inr (o + 1)))]) rfl ?_
  refine y_iconst (show decode cX9_layLeast 8 = .ok (.iconst 0, 1) by decide +kernel) rfl ?_
  refine y_istore_n (show decode cX9_layLeast 9 = .ok (.istore_n 2, 1) by decide +kernel) rfl (L1 := [(2, .inl 0), (1, .inl (σ (o + 1) 1)), (0, .inr (.inr (o + 1)))]) rfl ?_
  refine y_pick [2, 1, 0] rfl ?_
  refine loopS1_ind (P := fun x2 σ3 => Y E MX9_layLeast (yRm 1 0 0) (yQf E (n + 0) 0 0 none (ovp T τ)) 10 [(0, .inr (.inr (o + 1))), (1, .inl (σ (o + 1) 1)), (2, .inl x2)] [] (ovp T σ3) n 0 0) (fun k4 hk4 x2 σ3 h => ?_) _ _ _  h
  refine y_iload_n (show decode cX9_layLeast 10 = .ok (.iload_n 2, 1) by decide +kernel) 2 rfl ?_
  refine y_iload_n (show decode cX9_layLeast 11 = .ok (.iload_n 1, 1) by decide +kernel) 1 rfl ?_
  by_cases c5 : x2 ≥ (σ (o + 1) 1)
  · rw [if_pos c5] at h
    refine y_icmp_ge_t (tgt := 104) (show decode cX9_layLeast 12 = .ok (.if_icmp .ge 92, 3) by decide +kernel) rfl c5 ?_
    cases h
    exact y_vret (show decode cX9_layLeast 104 = .ok (.return_, 1) by decide +kernel) rfl
  · rw [if_neg c5] at h
    refine y_icmp_ge_f (show decode cX9_layLeast 12 = .ok (.if_icmp .ge 92, 3) by decide +kernel) c5 (by decide) ?_
    refine y_iconst (show decode cX9_layLeast 15 = .ok (.iconst 0, 1) by decide +kernel) rfl ?_
    refine y_istore_n (show decode cX9_layLeast 16 = .ok (.istore_n 3, 1) by decide +kernel) rfl (L1 := [(3, .inl 0), (0, .inr (.inr (o + 1))), (1, .inl (σ (o + 1) 1)), (2, .inl x2)]) rfl ?_
    refine y_pick [1, 2, 3, 0] rfl ?_
    refine loopS2_ind (P := fun x6 x7 σ8 => Y E MX9_layLeast (yRm 1 0 0) (yQf E (n + 0) 0 0 none (ovp T τ)) 17 [(0, .inr (.inr (o + 1))), (1, .inl (σ (o + 1) 1)), (2, .inl x6), (3, .inl x7)] [] (ovp T σ8) n 0 0) (fun k9 hk9 x6 x7 σ8 h => ?_) _ _ _ _  h
    refine y_iload_n (show decode cX9_layLeast 17 = .ok (.iload_n 3, 1) by decide +kernel) 3 rfl ?_
    refine y_iload_n (show decode cX9_layLeast 18 = .ok (.iload_n 1, 1) by decide +kernel) 1 rfl ?_
    by_cases c10 : x7 ≥ (σ (o + 1) 1)
    · rw [if_pos c10] at h
      refine y_icmp_ge_t (tgt := 98) (show decode cX9_layLeast 19 = .ok (.if_icmp .ge 79, 3) by decide +kernel) rfl c10 ?_
      obtain ⟨c11, h⟩ := chkI_some h
      refine y_iinc (show decode cX9_layLeast 98 = .ok (.iinc 2 1, 3) by decide +kernel) 2 rfl c11 rfl (L1 := [(2, .inl (x6 + 1)), (0, .inr (.inr (o + 1))), (1, .inl (σ (o + 1) 1)), (3, .inl x7)]) rfl ?_
      refine y_goto (tgt := 10) (show decode cX9_layLeast 101 = .ok (.goto (-91), 3) by decide +kernel) rfl ?_
      refine y_pick [1, 2, 0] rfl ?_
      exact hk4 _ _ h
    · rw [if_neg c10] at h
      refine y_icmp_ge_f (show decode cX9_layLeast 19 = .ok (.if_icmp .ge 79, 3) by decide +kernel) c10 (by decide) ?_
      refine y_iconst (show decode cX9_layLeast 22 = .ok (.iconst 0, 1) by decide +kernel) rfl ?_
      refine y_istore (show decode cX9_layLeast 23 = .ok (.istore 4, 2) by decide +kernel) rfl (L1 := [(4, .inl 0), (0, .inr (.inr (o + 1))), (1, .inl (σ (o + 1) 1)), (2, .inl x6), (3, .inl x7)]) rfl ?_
      refine y_pick [1, 2, 3, 4, 0] rfl ?_
      refine loopS3_ind (P := fun x12 x13 x14 σ15 => Y E MX9_layLeast (yRm 1 0 0) (yQf E (n + 0) 0 0 none (ovp T τ)) 25 [(0, .inr (.inr (o + 1))), (1, .inl (σ (o + 1) 1)), (2, .inl x12), (3, .inl x13), (4, .inl x14)] [] (ovp T σ15) n 0 0) (fun k16 hk16 x12 x13 x14 σ15 h => ?_) _ _ _ _ _  h
      refine y_iload (show decode cX9_layLeast 25 = .ok (.iload 4, 2) by decide +kernel) 4 rfl ?_
      refine y_iload_n (show decode cX9_layLeast 27 = .ok (.iload_n 1, 1) by decide +kernel) 1 rfl ?_
      by_cases c17 : x14 ≥ (σ (o + 1) 1)
      · rw [if_pos c17] at h
        refine y_icmp_ge_t (tgt := 92) (show decode cX9_layLeast 28 = .ok (.if_icmp .ge 64, 3) by decide +kernel) rfl c17 ?_
        obtain ⟨c18, h⟩ := chkI_some h
        refine y_iinc (show decode cX9_layLeast 92 = .ok (.iinc 3 1, 3) by decide +kernel) 3 rfl c18 rfl (L1 := [(3, .inl (x13 + 1)), (0, .inr (.inr (o + 1))), (1, .inl (σ (o + 1) 1)), (2, .inl x12), (4, .inl x14)]) rfl ?_
        refine y_goto (tgt := 17) (show decode cX9_layLeast 95 = .ok (.goto (-78), 3) by decide +kernel) rfl ?_
        refine y_pick [1, 2, 3, 0] rfl ?_
        exact hk9 _ _ _ h
      · rw [if_neg c17] at h
        refine y_icmp_ge_f (show decode cX9_layLeast 28 = .ok (.if_icmp .ge 64, 3) by decide +kernel) c17 (by decide) ?_
        refine y_aload_n (show decode cX9_layLeast 31 = .ok (.aload_n 0, 1) by decide +kernel) 0 rfl ?_
        refine y_getf o 9 11 52 (by omega) (by rcases hT with ⟨rfl, rfl⟩ | ⟨rfl, rfl⟩ <;> rfl) (by decide) (by decide) q1_237 (show decode cX9_layLeast 32 = .ok (.getfield 52, 3) by decide +kernel) (v := .inr (.inr ((o + 15) + 1))) (by rcases hT with ⟨rfl, rfl⟩ | ⟨rfl, rfl⟩ <;> rfl) ?_
        refine y_iload_n (show decode cX9_layLeast 35 = .ok (.iload_n 3, 1) by decide +kernel) 3 rfl ?_
        refine y_bipush (show decode cX9_layLeast 36 = .ok (.bipush 6, 2) by decide +kernel) rfl rfl ?_
        obtain ⟨c19, h⟩ := chkI_some h
        refine y_imul (show decode cX9_layLeast 38 = .ok (.imul, 1) by decide +kernel) c19 ?_
        refine y_iload_n (show decode cX9_layLeast 39 = .ok (.iload_n 2, 1) by decide +kernel) 2 rfl ?_
        obtain ⟨c20, h⟩ := chkI_some h
        refine y_iadd (show decode cX9_layLeast 40 = .ok (.iadd, 1) by decide +kernel) c20 ?_
        obtain ⟨c21, h⟩ := chkA_some h
        refine yo_iald (o + 15) 36 (by omega) (by rcases hT with ⟨rfl, rfl⟩ | ⟨rfl, rfl⟩ <;> rfl) c21 (ovp_at (by rcases hT with ⟨rfl, rfl⟩ | ⟨rfl, rfl⟩ <;> rfl)) (show decode cX9_layLeast 41 = .ok (.iaload, 1) by decide +kernel) ?_
        refine y_aload_n (show decode cX9_layLeast 42 = .ok (.aload_n 0, 1) by decide +kernel) 0 rfl ?_
        refine y_getf o 9 11 52 (by omega) (by rcases hT with ⟨rfl, rfl⟩ | ⟨rfl, rfl⟩ <;> rfl) (by decide) (by decide) q1_237 (show decode cX9_layLeast 43 = .ok (.getfield 52, 3) by decide +kernel) (v := .inr (.inr ((o + 15) + 1))) (by rcases hT with ⟨rfl, rfl⟩ | ⟨rfl, rfl⟩ <;> rfl) ?_
        refine y_iload_n (show decode cX9_layLeast 46 = .ok (.iload_n 2, 1) by decide +kernel) 2 rfl ?_
        refine y_bipush (show decode cX9_layLeast 47 = .ok (.bipush 6, 2) by decide +kernel) rfl rfl ?_
        obtain ⟨c22, h⟩ := chkI_some h
        refine y_imul (show decode cX9_layLeast 49 = .ok (.imul, 1) by decide +kernel) c22 ?_
        refine y_iload (show decode cX9_layLeast 50 = .ok (.iload 4, 2) by decide +kernel) 4 rfl ?_
        obtain ⟨c23, h⟩ := chkI_some h
        refine y_iadd (show decode cX9_layLeast 52 = .ok (.iadd, 1) by decide +kernel) c23 ?_
        obtain ⟨c24, h⟩ := chkA_some h
        refine yo_iald (o + 15) 36 (by omega) (by rcases hT with ⟨rfl, rfl⟩ | ⟨rfl, rfl⟩ <;> rfl) c24 (ovp_at (by rcases hT with ⟨rfl, rfl⟩ | ⟨rfl, rfl⟩ <;> rfl)) (show decode cX9_layLeast 53 = .ok (.iaload, 1) by decide +kernel) ?_
        obtain ⟨c25, h⟩ := chkI_some h
        refine y_iadd (show decode cX9_layLeast 54 = .ok (.iadd, 1) by decide +kernel) c25 ?_
        refine y_istore (show decode cX9_layLeast 55 = .ok (.istore 5, 2) by decide +kernel) rfl (L1 := [(5, .inl ((σ15 (o + 15) (((x13 * 6) + x12)).toNat) + (σ15 (o + 15) (((x12 * 6) + x14)).toNat))), (0, .inr (.inr (o + 1))), (1, .inl (σ (o + 1) 1)), (2, .inl x12), (3, .inl x13), (4, .inl x14)]) rfl ?_
        refine y_aload_n (show decode cX9_layLeast 57 = .ok (.aload_n 0, 1) by decide +kernel) 1 rfl ?_
        refine y_getf o 9 11 52 (by omega) (by rcases hT with ⟨rfl, rfl⟩ | ⟨rfl, rfl⟩ <;> rfl) (by decide) (by decide) q1_237 (show decode cX9_layLeast 58 = .ok (.getfield 52, 3) by decide +kernel) (v := .inr (.inr ((o + 15) + 1))) (by rcases hT with ⟨rfl, rfl⟩ | ⟨rfl, rfl⟩ <;> rfl) ?_
        refine y_iload_n (show decode cX9_layLeast 61 = .ok (.iload_n 3, 1) by decide +kernel) 4 rfl ?_
        refine y_bipush (show decode cX9_layLeast 62 = .ok (.bipush 6, 2) by decide +kernel) rfl rfl ?_
        obtain ⟨c26, h⟩ := chkI_some h
        refine y_imul (show decode cX9_layLeast 64 = .ok (.imul, 1) by decide +kernel) c26 ?_
        refine y_iload (show decode cX9_layLeast 65 = .ok (.iload 4, 2) by decide +kernel) 5 rfl ?_
        obtain ⟨c27, h⟩ := chkI_some h
        refine y_iadd (show decode cX9_layLeast 67 = .ok (.iadd, 1) by decide +kernel) c27 ?_
        refine y_aload_n (show decode cX9_layLeast 68 = .ok (.aload_n 0, 1) by decide +kernel) 1 rfl ?_
        refine y_getf o 9 11 52 (by omega) (by rcases hT with ⟨rfl, rfl⟩ | ⟨rfl, rfl⟩ <;> rfl) (by decide) (by decide) q1_237 (show decode cX9_layLeast 69 = .ok (.getfield 52, 3) by decide +kernel) (v := .inr (.inr ((o + 15) + 1))) (by rcases hT with ⟨rfl, rfl⟩ | ⟨rfl, rfl⟩ <;> rfl) ?_
        refine y_iload_n (show decode cX9_layLeast 72 = .ok (.iload_n 3, 1) by decide +kernel) 4 rfl ?_
        refine y_bipush (show decode cX9_layLeast 73 = .ok (.bipush 6, 2) by decide +kernel) rfl rfl ?_
        obtain ⟨c28, h⟩ := chkI_some h
        refine y_imul (show decode cX9_layLeast 75 = .ok (.imul, 1) by decide +kernel) c28 ?_
        refine y_iload (show decode cX9_layLeast 76 = .ok (.iload 4, 2) by decide +kernel) 5 rfl ?_
        obtain ⟨c29, h⟩ := chkI_some h
        refine y_iadd (show decode cX9_layLeast 78 = .ok (.iadd, 1) by decide +kernel) c29 ?_
        obtain ⟨c30, h⟩ := chkA_some h
        refine yo_iald (o + 15) 36 (by omega) (by rcases hT with ⟨rfl, rfl⟩ | ⟨rfl, rfl⟩ <;> rfl) c30 (ovp_at (by rcases hT with ⟨rfl, rfl⟩ | ⟨rfl, rfl⟩ <;> rfl)) (show decode cX9_layLeast 79 = .ok (.iaload, 1) by decide +kernel) ?_
        refine y_iload (show decode cX9_layLeast 80 = .ok (.iload 5, 2) by decide +kernel) 0 rfl ?_
        obtain ⟨r32, e31, h⟩ := bndO_some h
        refine y_callS (np := 2) (st := [.inl ((x13 * 6) + x14), .inr (.inr ((o + 15) + 1))]) (as := [.inl (σ15 (o + 15) (((x13 * 6) + x14)).toNat), .inl ((σ15 (o + 15) (((x13 * 6) + x12)).toNat) + (σ15 (o + 15) (((x12 * 6) + x14)).toNat))]) (sq_jM_min_7cf53 e31) q2_116 q2_114 q2_115 q1_11 (by decide) (by decide +kernel) (by decide) rfl (Nat.le_of_ble_eq_true rfl) (show decode cX9_layLeast 82 = .ok (.invokestatic 99, 3) by decide +kernel) rfl ?_
        obtain ⟨c33, h⟩ := chkA_some h
        obtain ⟨σ34, e35, h⟩ := bnd_i h
        refine yo_iast (o + 15) 36 (by omega) (by rcases hT with ⟨rfl, rfl⟩ | ⟨rfl, rfl⟩ <;> rfl) c33 (ovp_set1 e35 (by rcases hT with ⟨rfl, rfl⟩ | ⟨rfl, rfl⟩ <;> rfl)) (show decode cX9_layLeast 85 = .ok (.iastore, 1) by decide +kernel) ?_
        obtain ⟨c36, h⟩ := chkI_some h
        refine y_iinc (show decode cX9_layLeast 86 = .ok (.iinc 4 1, 3) by decide +kernel) 5 rfl c36 rfl (L1 := [(4, .inl (x14 + 1)), (5, .inl ((σ15 (o + 15) (((x13 * 6) + x12)).toNat) + (σ15 (o + 15) (((x12 * 6) + x14)).toNat))), (0, .inr (.inr (o + 1))), (1, .inl (σ (o + 1) 1)), (2, .inl x12), (3, .inl x13)]) rfl ?_
        refine y_goto (tgt := 25) (show decode cX9_layLeast 89 = .ok (.goto (-64), 3) by decide +kernel) rfl ?_
        refine y_pick [2, 3, 4, 5, 0] rfl ?_
        exact hk16 _ _ _ _ h
set_option maxHeartbeats 4000000 in
set_option maxRecDepth 10000 in
theorem sq_cTw_dogsAt {E : yE} {n T : Nat} {N : Nat} {o : Nat} {a : Int} {σ : ySt} {ρ : Int} (hn : T + 20 ≤ n) (hT : (o = 13 ∧ T = 13) ∨ (o = 33 ∧ T = 33)) (h : cTw_dogsAt N o a σ = some ρ) : Con E MX9_dogsAt 0 0 0 [.inr (.inr (o + 1)), .inl a] n (ovp T σ) (some (.inl ρ)) (ovp T σ) := by
  unfold cTw_dogsAt at h
  refine Con.ofY (by decide +kernel) (by simp [yWords, yCat]) (fun hok _ => ?_)
  show Y E MX9_dogsAt (yRm 0 0 0) (yQf E (n + 0) 0 0 (some (.inl ρ)) (ovp T σ)) 0 [(0, .inr (.inr (o + 1))), (1, .inl a)] [] (ovp T σ) n 0 0
  obtain ⟨c1, h⟩ := chk_some h
  refine y_iconst (show decode cX9_dogsAt 0 = .ok (.iconst 0, 1) by decide +kernel) rfl ?_
  refine y_istore_n (show decode cX9_dogsAt 1 = .ok (.istore_n 2, 1) by decide +kernel) rfl (L1 := [(2, .inl 0), (0, .inr (.inr (o + 1))), (1, .inl a)]) rfl ?_
  refine y_iconst (show decode cX9_dogsAt 2 = .ok (.iconst 0, 1) by decide +kernel) rfl ?_
  refine y_istore_n (show decode cX9_dogsAt 3 = .ok (.istore_n 3, 1) by decide +kernel) rfl (L1 := [(3, .inl 0), (2, .inl 0), (0, .inr (.inr (o + 1))), (1, .inl a)]) rfl ?_
  refine y_pick [2, 3, 1, 0] rfl ?_
  refine loop2_ind (P := fun x2 x3 => Y E MX9_dogsAt (yRm 0 0 0) (yQf E (n + 0) 0 0 (some (.inl ρ)) (ovp T σ)) 4 [(0, .inr (.inr (o + 1))), (1, .inl a), (2, .inl x2), (3, .inl x3)] [] (ovp T σ) n 0 0) (fun k4 hk4 x2 x3 h => ?_) _ _ _  h
  refine y_iload_n (show decode cX9_dogsAt 4 = .ok (.iload_n 3, 1) by decide +kernel) 3 rfl ?_
  refine y_aload_n (show decode cX9_dogsAt 5 = .ok (.aload_n 0, 1) by decide +kernel) 0 rfl ?_
  refine y_getf o 9 2 23 (by omega) (by rcases hT with ⟨rfl, rfl⟩ | ⟨rfl, rfl⟩ <;> rfl) (by decide) (by decide) q1_206 (show decode cX9_dogsAt 6 = .ok (.getfield 23, 3) by decide +kernel) (v := .inr (.inr ((o + 5) + 1))) (by rcases hT with ⟨rfl, rfl⟩ | ⟨rfl, rfl⟩ <;> rfl) ?_
  refine y_getf (o + 5) 5 1 68 (by omega) (by rcases hT with ⟨rfl, rfl⟩ | ⟨rfl, rfl⟩ <;> rfl) (by decide) (by decide) q1_146 (show decode cX9_dogsAt 9 = .ok (.getfield 68, 3) by decide +kernel) (v := .inl (σ (o + 5) 1)) (by rcases hT with ⟨rfl, rfl⟩ | ⟨rfl, rfl⟩ <;> rfl) ?_
  by_cases c5 : x3 ≥ (σ (o + 5) 1)
  · rw [if_pos c5] at h
    refine y_icmp_ge_t (tgt := 39) (show decode cX9_dogsAt 12 = .ok (.if_icmp .ge 27, 3) by decide +kernel) rfl c5 ?_
    refine y_iload_n (show decode cX9_dogsAt 39 = .ok (.iload_n 2, 1) by decide +kernel) 2 rfl ?_
    cases h
    exact y_iret (show decode cX9_dogsAt 40 = .ok (.ireturn, 1) by decide +kernel) rfl
  · rw [if_neg c5] at h
    refine y_icmp_ge_f (show decode cX9_dogsAt 12 = .ok (.if_icmp .ge 27, 3) by decide +kernel) c5 (by decide) ?_
    refine y_iload_n (show decode cX9_dogsAt 15 = .ok (.iload_n 2, 1) by decide +kernel) 2 rfl ?_
    refine y_aload_n (show decode cX9_dogsAt 16 = .ok (.aload_n 0, 1) by decide +kernel) 0 rfl ?_
    refine y_getf o 9 6 37 (by omega) (by rcases hT with ⟨rfl, rfl⟩ | ⟨rfl, rfl⟩ <;> rfl) (by decide) (by decide) q1_220 (show decode cX9_dogsAt 17 = .ok (.getfield 37, 3) by decide +kernel) (v := .inr (.inr ((o + 10) + 1))) (by rcases hT with ⟨rfl, rfl⟩ | ⟨rfl, rfl⟩ <;> rfl) ?_
    refine y_iload_n (show decode cX9_dogsAt 20 = .ok (.iload_n 3, 1) by decide +kernel) 3 rfl ?_
    obtain ⟨c6, h⟩ := chkA_some h
    refine yo_iald (o + 10) 3 (by omega) (by rcases hT with ⟨rfl, rfl⟩ | ⟨rfl, rfl⟩ <;> rfl) c6 (ovp_at (by rcases hT with ⟨rfl, rfl⟩ | ⟨rfl, rfl⟩ <;> rfl)) (show decode cX9_dogsAt 21 = .ok (.iaload, 1) by decide +kernel) ?_
    refine y_iload_n (show decode cX9_dogsAt 22 = .ok (.iload_n 1, 1) by decide +kernel) 1 rfl ?_
    refine bnd_j (Q := fun j8 => ∀ (y7 : Int), j8 y7 = some ρ → Y E MX9_dogsAt (yRm 0 0 0) (yQf E (n + 0) 0 0 (some (.inl ρ)) (ovp T σ)) 31 [(0, .inr (.inr (o + 1))), (1, .inl a), (3, .inl x3)] [.inl y7, .inl x2] (ovp T σ) n 0 0) (fun y7 h => ?_) (fun j8 hj8 h => ?_) h
    · dsimp only at h
      obtain ⟨c9, h⟩ := chkI_some h
      refine y_iadd (show decode cX9_dogsAt 31 = .ok (.iadd, 1) by decide +kernel) c9 ?_
      refine y_istore_n (show decode cX9_dogsAt 32 = .ok (.istore_n 2, 1) by decide +kernel) rfl (L1 := [(2, .inl (x2 + y7)), (0, .inr (.inr (o + 1))), (1, .inl a), (3, .inl x3)]) rfl ?_
      obtain ⟨c10, h⟩ := chkI_some h
      refine y_iinc (show decode cX9_dogsAt 33 = .ok (.iinc 3 1, 3) by decide +kernel) 3 rfl c10 rfl (L1 := [(3, .inl (x3 + 1)), (2, .inl (x2 + y7)), (0, .inr (.inr (o + 1))), (1, .inl a)]) rfl ?_
      refine y_goto (tgt := 4) (show decode cX9_dogsAt 36 = .ok (.goto (-32), 3) by decide +kernel) rfl ?_
      refine y_pick [2, 3, 1, 0] rfl ?_
      exact hk4 _ _ h
    by_cases c11 : ¬ (σ (o + 10) (x3).toNat) = a
    · rw [if_pos c11] at h
      refine y_icmp_ne_t (tgt := 30) (show decode cX9_dogsAt 23 = .ok (.if_icmp .ne 7, 3) by decide +kernel) rfl c11 ?_
      refine y_iconst (show decode cX9_dogsAt 30 = .ok (.iconst 0, 1) by decide +kernel) rfl ?_
      refine y_pick [0, 1, 3] rfl ?_
      exact hj8 _ h
    · rw [if_neg c11] at h
      refine y_icmp_ne_f (show decode cX9_dogsAt 23 = .ok (.if_icmp .ne 7, 3) by decide +kernel) c11 (by decide) ?_
      refine y_iconst (show decode cX9_dogsAt 26 = .ok (.iconst 1, 1) by decide +kernel) rfl ?_
      refine y_goto (tgt := 31) (show decode cX9_dogsAt 27 = .ok (.goto 4, 3) by decide +kernel) rfl ?_
      refine y_pick [0, 1, 3] rfl ?_
      exact hj8 _ h
set_option maxHeartbeats 4000000 in
set_option maxRecDepth 10000 in
theorem sq_cRu_named {E : yE} {n T : Nat} {a : Int} {b : Int} {c : Int} {d : Int} {e : Int} {σ : ySt} {ρ : Int} (h : cRu_named a b c d e σ = some ρ) : Con E MX7_named 0 0 0 [.inl a, .inl b, .inl c, .inl d, .inl e] n (ovp T σ) (some (.inl ρ)) (ovp T σ) := by
  unfold cRu_named at h
  refine Con.ofY (by decide +kernel) (by simp [yWords, yCat]) (fun hok _ => ?_)
  show Y E MX7_named (yRm 0 0 0) (yQf E (n + 0) 0 0 (some (.inl ρ)) (ovp T σ)) 0 [(0, .inl a), (1, .inl b), (2, .inl c), (3, .inl d), (4, .inl e)] [] (ovp T σ) n 0 0
  refine y_iload_n (show decode cX7_named 0 = .ok (.iload_n 0, 1) by decide +kernel) 0 rfl ?_
  by_cases c1 : a = 100
  · rw [if_pos c1] at h
    refine y_lookup (off := 39) (tgt := 40) (show decode cX7_named 1 = .ok (.lookupswitch 41 #[(100, 39), (109, 37), (117, 35)], 35) by decide +kernel) (by decide) (by rw [c1]; rfl) rfl ?_
    refine y_iload_n (show decode cX7_named 40 = .ok (.iload_n 3, 1) by decide +kernel) 3 rfl ?_
    cases h
    exact y_iret (show decode cX7_named 41 = .ok (.ireturn, 1) by decide +kernel) rfl
  rw [if_neg c1] at h
  by_cases c2 : a = 109
  · rw [if_pos c2] at h
    refine y_lookup (off := 37) (tgt := 38) (show decode cX7_named 1 = .ok (.lookupswitch 41 #[(100, 39), (109, 37), (117, 35)], 35) by decide +kernel) (by decide) (by rw [c2]; rfl) rfl ?_
    refine y_iload_n (show decode cX7_named 38 = .ok (.iload_n 2, 1) by decide +kernel) 2 rfl ?_
    cases h
    exact y_iret (show decode cX7_named 39 = .ok (.ireturn, 1) by decide +kernel) rfl
  rw [if_neg c2] at h
  by_cases c3 : a = 117
  · rw [if_pos c3] at h
    refine y_lookup (off := 35) (tgt := 36) (show decode cX7_named 1 = .ok (.lookupswitch 41 #[(100, 39), (109, 37), (117, 35)], 35) by decide +kernel) (by decide) (by rw [c3]; rfl) rfl ?_
    refine y_iload_n (show decode cX7_named 36 = .ok (.iload_n 1, 1) by decide +kernel) 1 rfl ?_
    cases h
    exact y_iret (show decode cX7_named 37 = .ok (.ireturn, 1) by decide +kernel) rfl
  rw [if_neg c3] at h
  refine y_lookup (off := 41) (tgt := 42) (show decode cX7_named 1 = .ok (.lookupswitch 41 #[(100, 39), (109, 37), (117, 35)], 35) by decide +kernel) (by decide) (by simp only [List.toList_toArray]; rw [Op.lookupswitch.offset_cons, if_neg (fun q => c1 q.symm), Op.lookupswitch.offset_cons, if_neg (fun q => c2 q.symm), Op.lookupswitch.offset_cons, if_neg (fun q => c3 q.symm)]; rfl) rfl ?_
  refine y_iload (show decode cX7_named 42 = .ok (.iload 4, 2) by decide +kernel) 4 rfl ?_
  cases h
  exact y_iret (show decode cX7_named 44 = .ok (.ireturn, 1) by decide +kernel) rfl
set_option maxHeartbeats 4000000 in
set_option maxRecDepth 10000 in
theorem sq_cRu_isName {E : yE} {n T : Nat} {a : Int} {σ : ySt} {ρ : Int} (h : cRu_isName a σ = some ρ) : Con E MX7_isName 0 0 0 [.inl a] n (ovp T σ) (some (.inl ρ)) (ovp T σ) := by
  unfold cRu_isName at h
  refine Con.ofY (by decide +kernel) (by simp [yWords, yCat]) (fun hok _ => ?_)
  show Y E MX7_isName (yRm 0 0 0) (yQf E (n + 0) 0 0 (some (.inl ρ)) (ovp T σ)) 0 [(0, .inl a)] [] (ovp T σ) n 0 0
  refine y_iload_n (show decode cX7_isName 0 = .ok (.iload_n 0, 1) by decide +kernel) 0 rfl ?_
  refine y_bipush (show decode cX7_isName 1 = .ok (.bipush 117, 2) by decide +kernel) rfl rfl ?_
  by_cases c1 : a = 117
  · rw [if_pos c1] at h
    refine y_icmp_eq_t (tgt := 24) (show decode cX7_isName 3 = .ok (.if_icmp .eq 21, 3) by decide +kernel) rfl c1 ?_
    refine y_iconst (show decode cX7_isName 24 = .ok (.iconst 1, 1) by decide +kernel) rfl ?_
    refine y_goto (tgt := 29) (show decode cX7_isName 25 = .ok (.goto 4, 3) by decide +kernel) rfl ?_
    cases h
    exact y_zret (show decode cX7_isName 29 = .ok (.ireturn, 1) by decide +kernel) rfl (Or.inr rfl)
  · rw [if_neg c1] at h
    refine y_icmp_eq_f (show decode cX7_isName 3 = .ok (.if_icmp .eq 21, 3) by decide +kernel) c1 (by decide) ?_
    refine y_iload_n (show decode cX7_isName 6 = .ok (.iload_n 0, 1) by decide +kernel) 0 rfl ?_
    refine y_bipush (show decode cX7_isName 7 = .ok (.bipush 109, 2) by decide +kernel) rfl rfl ?_
    by_cases c2 : a = 109
    · rw [if_pos c2] at h
      refine y_icmp_eq_t (tgt := 24) (show decode cX7_isName 9 = .ok (.if_icmp .eq 15, 3) by decide +kernel) rfl c2 ?_
      refine y_iconst (show decode cX7_isName 24 = .ok (.iconst 1, 1) by decide +kernel) rfl ?_
      refine y_goto (tgt := 29) (show decode cX7_isName 25 = .ok (.goto 4, 3) by decide +kernel) rfl ?_
      cases h
      exact y_zret (show decode cX7_isName 29 = .ok (.ireturn, 1) by decide +kernel) rfl (Or.inr rfl)
    · rw [if_neg c2] at h
      refine y_icmp_eq_f (show decode cX7_isName 9 = .ok (.if_icmp .eq 15, 3) by decide +kernel) c2 (by decide) ?_
      refine y_iload_n (show decode cX7_isName 12 = .ok (.iload_n 0, 1) by decide +kernel) 0 rfl ?_
      refine y_bipush (show decode cX7_isName 13 = .ok (.bipush 100, 2) by decide +kernel) rfl rfl ?_
      by_cases c3 : a = 100
      · rw [if_pos c3] at h
        refine y_icmp_eq_t (tgt := 24) (show decode cX7_isName 15 = .ok (.if_icmp .eq 9, 3) by decide +kernel) rfl c3 ?_
        refine y_iconst (show decode cX7_isName 24 = .ok (.iconst 1, 1) by decide +kernel) rfl ?_
        refine y_goto (tgt := 29) (show decode cX7_isName 25 = .ok (.goto 4, 3) by decide +kernel) rfl ?_
        cases h
        exact y_zret (show decode cX7_isName 29 = .ok (.ireturn, 1) by decide +kernel) rfl (Or.inr rfl)
      · rw [if_neg c3] at h
        refine y_icmp_eq_f (show decode cX7_isName 15 = .ok (.if_icmp .eq 9, 3) by decide +kernel) c3 (by decide) ?_
        refine y_iload_n (show decode cX7_isName 18 = .ok (.iload_n 0, 1) by decide +kernel) 0 rfl ?_
        refine y_bipush (show decode cX7_isName 19 = .ok (.bipush 118, 2) by decide +kernel) rfl rfl ?_
        by_cases c4 : ¬ a = 118
        · rw [if_pos c4] at h
          refine y_icmp_ne_t (tgt := 28) (show decode cX7_isName 21 = .ok (.if_icmp .ne 7, 3) by decide +kernel) rfl c4 ?_
          refine y_iconst (show decode cX7_isName 28 = .ok (.iconst 0, 1) by decide +kernel) rfl ?_
          cases h
          exact y_zret (show decode cX7_isName 29 = .ok (.ireturn, 1) by decide +kernel) rfl (Or.inl rfl)
        · rw [if_neg c4] at h
          refine y_icmp_ne_f (show decode cX7_isName 21 = .ok (.if_icmp .ne 7, 3) by decide +kernel) c4 (by decide) ?_
          refine y_iconst (show decode cX7_isName 24 = .ok (.iconst 1, 1) by decide +kernel) rfl ?_
          refine y_goto (tgt := 29) (show decode cX7_isName 25 = .ok (.goto 4, 3) by decide +kernel) rfl ?_
          cases h
          exact y_zret (show decode cX7_isName 29 = .ok (.ireturn, 1) by decide +kernel) rfl (Or.inr rfl)
set_option maxHeartbeats 4000000 in
set_option maxRecDepth 10000 in
theorem sq_cRu_joined {E : yE} {n T : Nat} {a : Int} {b : Int} {c : Int} {σ : ySt} {ρ : Int} (h : cRu_joined a b c σ = some ρ) : Con E MX7_joined 0 0 0 [.inl a, .inl b, .inl c] n (ovp T σ) (some (.inl ρ)) (ovp T σ) := by
  unfold cRu_joined at h
  refine Con.ofY (by decide +kernel) (by simp [yWords, yCat]) (fun hok _ => ?_)
  show Y E MX7_joined (yRm 0 0 0) (yQf E (n + 0) 0 0 (some (.inl ρ)) (ovp T σ)) 0 [(0, .inl a), (1, .inl b), (2, .inl c)] [] (ovp T σ) n 0 0
  refine y_iload_n (show decode cX7_joined 0 = .ok (.iload_n 0, 1) by decide +kernel) 0 rfl ?_
  by_cases c1 : a = 42
  · rw [if_pos c1] at h
    refine y_lookup (off := 91) (tgt := 92) (show decode cX7_joined 1 = .ok (.lookupswitch 168 #[(42, 91), (43, 83), (45, 87), (47, 95), (60, 107), (61, 129), (62, 118), (114, 154), (115, 140)], 83) by decide +kernel) (by decide) (by rw [c1]; rfl) rfl ?_
    refine y_iload_n (show decode cX7_joined 92 = .ok (.iload_n 1, 1) by decide +kernel) 1 rfl ?_
    refine y_iload_n (show decode cX7_joined 93 = .ok (.iload_n 2, 1) by decide +kernel) 2 rfl ?_
    refine y_imulW (show decode cX7_joined 94 = .ok (.imul, 1) by decide +kernel) ?_
    cases h
    exact y_iret (show decode cX7_joined 95 = .ok (.ireturn, 1) by decide +kernel) rfl
  rw [if_neg c1] at h
  by_cases c2 : a = 43
  · rw [if_pos c2] at h
    refine y_lookup (off := 83) (tgt := 84) (show decode cX7_joined 1 = .ok (.lookupswitch 168 #[(42, 91), (43, 83), (45, 87), (47, 95), (60, 107), (61, 129), (62, 118), (114, 154), (115, 140)], 83) by decide +kernel) (by decide) (by rw [c2]; rfl) rfl ?_
    refine y_iload_n (show decode cX7_joined 84 = .ok (.iload_n 1, 1) by decide +kernel) 1 rfl ?_
    refine y_iload_n (show decode cX7_joined 85 = .ok (.iload_n 2, 1) by decide +kernel) 2 rfl ?_
    refine y_iaddW (show decode cX7_joined 86 = .ok (.iadd, 1) by decide +kernel) ?_
    cases h
    exact y_iret (show decode cX7_joined 87 = .ok (.ireturn, 1) by decide +kernel) rfl
  rw [if_neg c2] at h
  by_cases c3 : a = 45
  · rw [if_pos c3] at h
    refine y_lookup (off := 87) (tgt := 88) (show decode cX7_joined 1 = .ok (.lookupswitch 168 #[(42, 91), (43, 83), (45, 87), (47, 95), (60, 107), (61, 129), (62, 118), (114, 154), (115, 140)], 83) by decide +kernel) (by decide) (by rw [c3]; rfl) rfl ?_
    refine y_iload_n (show decode cX7_joined 88 = .ok (.iload_n 1, 1) by decide +kernel) 1 rfl ?_
    refine y_iload_n (show decode cX7_joined 89 = .ok (.iload_n 2, 1) by decide +kernel) 2 rfl ?_
    refine y_isubW (show decode cX7_joined 90 = .ok (.isub, 1) by decide +kernel) ?_
    cases h
    exact y_iret (show decode cX7_joined 91 = .ok (.ireturn, 1) by decide +kernel) rfl
  rw [if_neg c3] at h
  by_cases c4 : a = 47
  · rw [if_pos c4] at h
    refine y_lookup (off := 95) (tgt := 96) (show decode cX7_joined 1 = .ok (.lookupswitch 168 #[(42, 91), (43, 83), (45, 87), (47, 95), (60, 107), (61, 129), (62, 118), (114, 154), (115, 140)], 83) by decide +kernel) (by decide) (by rw [c4]; rfl) rfl ?_
    refine y_iload_n (show decode cX7_joined 96 = .ok (.iload_n 2, 1) by decide +kernel) 2 rfl ?_
    by_cases c5 : ¬ c = 0
    · rw [if_pos c5] at h
      refine y_if_ne_t (tgt := 104) (show decode cX7_joined 97 = .ok (.ifCond .ne 7, 3) by decide +kernel) rfl c5 ?_
      refine y_iload_n (show decode cX7_joined 104 = .ok (.iload_n 1, 1) by decide +kernel) 1 rfl ?_
      refine y_iload_n (show decode cX7_joined 105 = .ok (.iload_n 2, 1) by decide +kernel) 2 rfl ?_
      obtain ⟨c6, h⟩ := chk_some h
      refine y_idivW (show decode cX7_joined 106 = .ok (.idiv, 1) by decide +kernel) c6 ?_
      cases h
      exact y_iret (show decode cX7_joined 107 = .ok (.ireturn, 1) by decide +kernel) rfl
    · rw [if_neg c5] at h
      refine y_if_ne_f (show decode cX7_joined 97 = .ok (.ifCond .ne 7, 3) by decide +kernel) c5 (by decide) ?_
      refine y_iconst (show decode cX7_joined 100 = .ok (.iconst 0, 1) by decide +kernel) rfl ?_
      refine y_goto (tgt := 107) (show decode cX7_joined 101 = .ok (.goto 6, 3) by decide +kernel) rfl ?_
      cases h
      exact y_iret (show decode cX7_joined 107 = .ok (.ireturn, 1) by decide +kernel) rfl
  rw [if_neg c4] at h
  by_cases c7 : a = 60
  · rw [if_pos c7] at h
    refine y_lookup (off := 107) (tgt := 108) (show decode cX7_joined 1 = .ok (.lookupswitch 168 #[(42, 91), (43, 83), (45, 87), (47, 95), (60, 107), (61, 129), (62, 118), (114, 154), (115, 140)], 83) by decide +kernel) (by decide) (by rw [c7]; rfl) rfl ?_
    refine y_iload_n (show decode cX7_joined 108 = .ok (.iload_n 1, 1) by decide +kernel) 1 rfl ?_
    refine y_iload_n (show decode cX7_joined 109 = .ok (.iload_n 2, 1) by decide +kernel) 2 rfl ?_
    by_cases c8 : b ≥ c
    · rw [if_pos c8] at h
      refine y_icmp_ge_t (tgt := 117) (show decode cX7_joined 110 = .ok (.if_icmp .ge 7, 3) by decide +kernel) rfl c8 ?_
      refine y_iconst (show decode cX7_joined 117 = .ok (.iconst 0, 1) by decide +kernel) rfl ?_
      cases h
      exact y_iret (show decode cX7_joined 118 = .ok (.ireturn, 1) by decide +kernel) rfl
    · rw [if_neg c8] at h
      refine y_icmp_ge_f (show decode cX7_joined 110 = .ok (.if_icmp .ge 7, 3) by decide +kernel) c8 (by decide) ?_
      refine y_iconst (show decode cX7_joined 113 = .ok (.iconst 1, 1) by decide +kernel) rfl ?_
      refine y_goto (tgt := 118) (show decode cX7_joined 114 = .ok (.goto 4, 3) by decide +kernel) rfl ?_
      cases h
      exact y_iret (show decode cX7_joined 118 = .ok (.ireturn, 1) by decide +kernel) rfl
  rw [if_neg c7] at h
  by_cases c9 : a = 61
  · rw [if_pos c9] at h
    refine y_lookup (off := 129) (tgt := 130) (show decode cX7_joined 1 = .ok (.lookupswitch 168 #[(42, 91), (43, 83), (45, 87), (47, 95), (60, 107), (61, 129), (62, 118), (114, 154), (115, 140)], 83) by decide +kernel) (by decide) (by rw [c9]; rfl) rfl ?_
    refine y_iload_n (show decode cX7_joined 130 = .ok (.iload_n 1, 1) by decide +kernel) 1 rfl ?_
    refine y_iload_n (show decode cX7_joined 131 = .ok (.iload_n 2, 1) by decide +kernel) 2 rfl ?_
    by_cases c10 : ¬ b = c
    · rw [if_pos c10] at h
      refine y_icmp_ne_t (tgt := 139) (show decode cX7_joined 132 = .ok (.if_icmp .ne 7, 3) by decide +kernel) rfl c10 ?_
      refine y_iconst (show decode cX7_joined 139 = .ok (.iconst 0, 1) by decide +kernel) rfl ?_
      cases h
      exact y_iret (show decode cX7_joined 140 = .ok (.ireturn, 1) by decide +kernel) rfl
    · rw [if_neg c10] at h
      refine y_icmp_ne_f (show decode cX7_joined 132 = .ok (.if_icmp .ne 7, 3) by decide +kernel) c10 (by decide) ?_
      refine y_iconst (show decode cX7_joined 135 = .ok (.iconst 1, 1) by decide +kernel) rfl ?_
      refine y_goto (tgt := 140) (show decode cX7_joined 136 = .ok (.goto 4, 3) by decide +kernel) rfl ?_
      cases h
      exact y_iret (show decode cX7_joined 140 = .ok (.ireturn, 1) by decide +kernel) rfl
  rw [if_neg c9] at h
  by_cases c11 : a = 62
  · rw [if_pos c11] at h
    refine y_lookup (off := 118) (tgt := 119) (show decode cX7_joined 1 = .ok (.lookupswitch 168 #[(42, 91), (43, 83), (45, 87), (47, 95), (60, 107), (61, 129), (62, 118), (114, 154), (115, 140)], 83) by decide +kernel) (by decide) (by rw [c11]; rfl) rfl ?_
    refine y_iload_n (show decode cX7_joined 119 = .ok (.iload_n 1, 1) by decide +kernel) 1 rfl ?_
    refine y_iload_n (show decode cX7_joined 120 = .ok (.iload_n 2, 1) by decide +kernel) 2 rfl ?_
    by_cases c12 : b ≤ c
    · rw [if_pos c12] at h
      refine y_icmp_le_t (tgt := 128) (show decode cX7_joined 121 = .ok (.if_icmp .le 7, 3) by decide +kernel) rfl c12 ?_
      refine y_iconst (show decode cX7_joined 128 = .ok (.iconst 0, 1) by decide +kernel) rfl ?_
      cases h
      exact y_iret (show decode cX7_joined 129 = .ok (.ireturn, 1) by decide +kernel) rfl
    · rw [if_neg c12] at h
      refine y_icmp_le_f (show decode cX7_joined 121 = .ok (.if_icmp .le 7, 3) by decide +kernel) c12 (by decide) ?_
      refine y_iconst (show decode cX7_joined 124 = .ok (.iconst 1, 1) by decide +kernel) rfl ?_
      refine y_goto (tgt := 129) (show decode cX7_joined 125 = .ok (.goto 4, 3) by decide +kernel) rfl ?_
      cases h
      exact y_iret (show decode cX7_joined 129 = .ok (.ireturn, 1) by decide +kernel) rfl
  rw [if_neg c11] at h
  by_cases c13 : a = 114
  · rw [if_pos c13] at h
    refine y_lookup (off := 154) (tgt := 155) (show decode cX7_joined 1 = .ok (.lookupswitch 168 #[(42, 91), (43, 83), (45, 87), (47, 95), (60, 107), (61, 129), (62, 118), (114, 154), (115, 140)], 83) by decide +kernel) (by decide) (by rw [c13]; rfl) rfl ?_
    refine y_iload_n (show decode cX7_joined 155 = .ok (.iload_n 1, 1) by decide +kernel) 1 rfl ?_
    by_cases c14 : ¬ b = 0
    · rw [if_pos c14] at h
      refine y_if_ne_t (tgt := 163) (show decode cX7_joined 156 = .ok (.ifCond .ne 7, 3) by decide +kernel) rfl c14 ?_
      refine y_iconst (show decode cX7_joined 163 = .ok (.iconst 1, 1) by decide +kernel) rfl ?_
      refine y_goto (tgt := 168) (show decode cX7_joined 164 = .ok (.goto 4, 3) by decide +kernel) rfl ?_
      cases h
      exact y_iret (show decode cX7_joined 168 = .ok (.ireturn, 1) by decide +kernel) rfl
    · rw [if_neg c14] at h
      refine y_if_ne_f (show decode cX7_joined 156 = .ok (.ifCond .ne 7, 3) by decide +kernel) c14 (by decide) ?_
      refine y_iload_n (show decode cX7_joined 159 = .ok (.iload_n 2, 1) by decide +kernel) 2 rfl ?_
      by_cases c15 : c = 0
      · rw [if_pos c15] at h
        refine y_if_eq_t (tgt := 167) (show decode cX7_joined 160 = .ok (.ifCond .eq 7, 3) by decide +kernel) rfl c15 ?_
        refine y_iconst (show decode cX7_joined 167 = .ok (.iconst 0, 1) by decide +kernel) rfl ?_
        cases h
        exact y_iret (show decode cX7_joined 168 = .ok (.ireturn, 1) by decide +kernel) rfl
      · rw [if_neg c15] at h
        refine y_if_eq_f (show decode cX7_joined 160 = .ok (.ifCond .eq 7, 3) by decide +kernel) c15 (by decide) ?_
        refine y_iconst (show decode cX7_joined 163 = .ok (.iconst 1, 1) by decide +kernel) rfl ?_
        refine y_goto (tgt := 168) (show decode cX7_joined 164 = .ok (.goto 4, 3) by decide +kernel) rfl ?_
        cases h
        exact y_iret (show decode cX7_joined 168 = .ok (.ireturn, 1) by decide +kernel) rfl
  rw [if_neg c13] at h
  by_cases c16 : a = 115
  · rw [if_pos c16] at h
    refine y_lookup (off := 140) (tgt := 141) (show decode cX7_joined 1 = .ok (.lookupswitch 168 #[(42, 91), (43, 83), (45, 87), (47, 95), (60, 107), (61, 129), (62, 118), (114, 154), (115, 140)], 83) by decide +kernel) (by decide) (by rw [c16]; rfl) rfl ?_
    refine y_iload_n (show decode cX7_joined 141 = .ok (.iload_n 1, 1) by decide +kernel) 1 rfl ?_
    by_cases c17 : b = 0
    · rw [if_pos c17] at h
      refine y_if_eq_t (tgt := 153) (show decode cX7_joined 142 = .ok (.ifCond .eq 11, 3) by decide +kernel) rfl c17 ?_
      refine y_iconst (show decode cX7_joined 153 = .ok (.iconst 0, 1) by decide +kernel) rfl ?_
      cases h
      exact y_iret (show decode cX7_joined 154 = .ok (.ireturn, 1) by decide +kernel) rfl
    · rw [if_neg c17] at h
      refine y_if_eq_f (show decode cX7_joined 142 = .ok (.ifCond .eq 11, 3) by decide +kernel) c17 (by decide) ?_
      refine y_iload_n (show decode cX7_joined 145 = .ok (.iload_n 2, 1) by decide +kernel) 2 rfl ?_
      by_cases c18 : c = 0
      · rw [if_pos c18] at h
        refine y_if_eq_t (tgt := 153) (show decode cX7_joined 146 = .ok (.ifCond .eq 7, 3) by decide +kernel) rfl c18 ?_
        refine y_iconst (show decode cX7_joined 153 = .ok (.iconst 0, 1) by decide +kernel) rfl ?_
        cases h
        exact y_iret (show decode cX7_joined 154 = .ok (.ireturn, 1) by decide +kernel) rfl
      · rw [if_neg c18] at h
        refine y_if_eq_f (show decode cX7_joined 146 = .ok (.ifCond .eq 7, 3) by decide +kernel) c18 (by decide) ?_
        refine y_iconst (show decode cX7_joined 149 = .ok (.iconst 1, 1) by decide +kernel) rfl ?_
        refine y_goto (tgt := 154) (show decode cX7_joined 150 = .ok (.goto 4, 3) by decide +kernel) rfl ?_
        cases h
        exact y_iret (show decode cX7_joined 154 = .ok (.ireturn, 1) by decide +kernel) rfl
  rw [if_neg c16] at h
  refine y_lookup (off := 168) (tgt := 169) (show decode cX7_joined 1 = .ok (.lookupswitch 168 #[(42, 91), (43, 83), (45, 87), (47, 95), (60, 107), (61, 129), (62, 118), (114, 154), (115, 140)], 83) by decide +kernel) (by decide) (by simp only [List.toList_toArray]; rw [Op.lookupswitch.offset_cons, if_neg (fun q => c1 q.symm), Op.lookupswitch.offset_cons, if_neg (fun q => c2 q.symm), Op.lookupswitch.offset_cons, if_neg (fun q => c3 q.symm), Op.lookupswitch.offset_cons, if_neg (fun q => c4 q.symm), Op.lookupswitch.offset_cons, if_neg (fun q => c7 q.symm), Op.lookupswitch.offset_cons, if_neg (fun q => c9 q.symm), Op.lookupswitch.offset_cons, if_neg (fun q => c11 q.symm), Op.lookupswitch.offset_cons, if_neg (fun q => c13 q.symm), Op.lookupswitch.offset_cons, if_neg (fun q => c16 q.symm)]; rfl) rfl ?_
  refine y_iconst (show decode cX7_joined 169 = .ok (.iconst 0, 1) by decide +kernel) rfl ?_
  cases h
  exact y_iret (show decode cX7_joined 170 = .ok (.ireturn, 1) by decide +kernel) rfl
set_option maxHeartbeats 4000000 in
set_option maxRecDepth 10000 in
theorem sq_cRu_holds {E : yE} {n T : Nat} {N : Nat} {o : Nat} {a : Int} {b : Int} {c : Int} {d : Int} {σ : ySt} {ρ : Int} {τ : ySt} (hn : T + 20 ≤ n) (hT : (o = 30 ∧ T = 13) ∨ (o = 50 ∧ T = 33)) (h : cRu_holds N o a b c d σ = some (ρ, τ)) : Con E MX7_holds 1 0 0 [.inr (.inr (o + 1)), .inl a, .inl b, .inl c, .inl d] n (ovp T σ) (some (.inl ρ)) (ovp T τ) := by
  unfold cRu_holds at h
  refine Con.ofY (by decide +kernel) (by simp [yWords, yCat]) (fun hok _ => ?_)
  show Y E MX7_holds (yRm 1 0 0) (yQf E (n + 0) 0 0 (some (.inl ρ)) (ovp T τ)) 0 [(0, .inr (.inr (o + 1))), (1, .inl a), (2, .inl b), (3, .inl c), (4, .inl d)] [] (ovp T σ) n 0 0
  obtain ⟨c1, h⟩ := chk_some h
  refine y_aload_n (show decode cX7_holds 0 = .ok (.aload_n 0, 1) by decide +kernel) 0 rfl ?_
  refine y_getf o 7 2 18 (by omega) (by rcases hT with ⟨rfl, rfl⟩ | ⟨rfl, rfl⟩ <;> rfl) (by decide) (by decide) q1_167 (show decode cX7_holds 1 = .ok (.getfield 18, 3) by decide +kernel) (v := .inl (σ o 2)) (by rcases hT with ⟨rfl, rfl⟩ | ⟨rfl, rfl⟩ <;> rfl) ?_
  by_cases c2 : ¬ (σ o 2) = 0
  · rw [if_pos c2] at h
    refine y_if_ne_t (tgt := 19) (show decode cX7_holds 4 = .ok (.ifCond .ne 15, 3) by decide +kernel) rfl c2 ?_
    refine y_iconst (show decode cX7_holds 19 = .ok (.iconst 0, 1) by decide +kernel) rfl ?_
    refine y_istore (show decode cX7_holds 20 = .ok (.istore 5, 2) by decide +kernel) rfl (L1 := [(5, .inl 0), (0, .inr (.inr (o + 1))), (1, .inl a), (2, .inl b), (3, .inl c), (4, .inl d)]) rfl ?_
    refine y_iconst (show decode cX7_holds 22 = .ok (.iconst 0, 1) by decide +kernel) rfl ?_
    refine y_istore (show decode cX7_holds 23 = .ok (.istore 6, 2) by decide +kernel) rfl (L1 := [(6, .inl 0), (5, .inl 0), (0, .inr (.inr (o + 1))), (1, .inl a), (2, .inl b), (3, .inl c), (4, .inl d)]) rfl ?_
    refine y_pick [2, 3, 4, 5, 6, 1, 0] rfl ?_
    refine loopS2_ind (P := fun x3 x4 σ5 => Y E MX7_holds (yRm 1 0 0) (yQf E (n + 0) 0 0 (some (.inl ρ)) (ovp T τ)) 25 [(0, .inr (.inr (o + 1))), (1, .inl a), (2, .inl b), (3, .inl c), (4, .inl d), (5, .inl x3), (6, .inl x4)] [] (ovp T σ5) n 0 0) (fun k6 hk6 x3 x4 σ5 h => ?_) _ _ _ _  h
    refine y_iload (show decode cX7_holds 25 = .ok (.iload 6, 2) by decide +kernel) 6 rfl ?_
    refine y_aload_n (show decode cX7_holds 27 = .ok (.aload_n 0, 1) by decide +kernel) 0 rfl ?_
    refine y_getf o 7 2 18 (by omega) (by rcases hT with ⟨rfl, rfl⟩ | ⟨rfl, rfl⟩ <;> rfl) (by decide) (by decide) q1_167 (show decode cX7_holds 28 = .ok (.getfield 18, 3) by decide +kernel) (v := .inl (σ5 o 2)) (by rcases hT with ⟨rfl, rfl⟩ | ⟨rfl, rfl⟩ <;> rfl) ?_
    by_cases c7 : x4 ≥ (σ5 o 2)
    · rw [if_pos c7] at h
      refine y_icmp_ge_t (tgt := 185) (show decode cX7_holds 31 = .ok (.if_icmp .ge 154, 3) by decide +kernel) rfl c7 ?_
      refine y_aload_n (show decode cX7_holds 185 = .ok (.aload_n 0, 1) by decide +kernel) 0 rfl ?_
      refine y_getf o 7 1 15 (by omega) (by rcases hT with ⟨rfl, rfl⟩ | ⟨rfl, rfl⟩ <;> rfl) (by decide) (by decide) q1_166 (show decode cX7_holds 186 = .ok (.getfield 15, 3) by decide +kernel) (v := .inr (.inr ((o + 2) + 1))) (by rcases hT with ⟨rfl, rfl⟩ | ⟨rfl, rfl⟩ <;> rfl) ?_
      refine y_iconst (show decode cX7_holds 189 = .ok (.iconst 0, 1) by decide +kernel) rfl ?_
      obtain ⟨c8, h⟩ := chkA_some h
      refine yo_iald (o + 2) 40 (by omega) (by rcases hT with ⟨rfl, rfl⟩ | ⟨rfl, rfl⟩ <;> rfl) c8 (ovp_at (by rcases hT with ⟨rfl, rfl⟩ | ⟨rfl, rfl⟩ <;> rfl)) (show decode cX7_holds 190 = .ok (.iaload, 1) by decide +kernel) ?_
      by_cases c9 : (σ5 (o + 2) ((0 : Int).toNat)) = 0
      · rw [if_pos c9] at h
        refine y_if_eq_t (tgt := 198) (show decode cX7_holds 191 = .ok (.ifCond .eq 7, 3) by decide +kernel) rfl c9 ?_
        refine y_iconst (show decode cX7_holds 198 = .ok (.iconst 0, 1) by decide +kernel) rfl ?_
        cases h
        exact y_zret (show decode cX7_holds 199 = .ok (.ireturn, 1) by decide +kernel) rfl (Or.inl rfl)
      · rw [if_neg c9] at h
        refine y_if_eq_f (show decode cX7_holds 191 = .ok (.ifCond .eq 7, 3) by decide +kernel) c9 (by decide) ?_
        refine y_iconst (show decode cX7_holds 194 = .ok (.iconst 1, 1) by decide +kernel) rfl ?_
        refine y_goto (tgt := 199) (show decode cX7_holds 195 = .ok (.goto 4, 3) by decide +kernel) rfl ?_
        cases h
        exact y_zret (show decode cX7_holds 199 = .ok (.ireturn, 1) by decide +kernel) rfl (Or.inr rfl)
    · rw [if_neg c7] at h
      refine y_icmp_ge_f (show decode cX7_holds 31 = .ok (.if_icmp .ge 154, 3) by decide +kernel) c7 (by decide) ?_
      refine y_aload_n (show decode cX7_holds 34 = .ok (.aload_n 0, 1) by decide +kernel) 0 rfl ?_
      refine y_getf o 7 0 9 (by omega) (by rcases hT with ⟨rfl, rfl⟩ | ⟨rfl, rfl⟩ <;> rfl) (by decide) (by decide) q1_165 (show decode cX7_holds 35 = .ok (.getfield 9, 3) by decide +kernel) (v := .inr (.inr ((o + 1) + 1))) (by rcases hT with ⟨rfl, rfl⟩ | ⟨rfl, rfl⟩ <;> rfl) ?_
      refine y_iload (show decode cX7_holds 38 = .ok (.iload 6, 2) by decide +kernel) 6 rfl ?_
      obtain ⟨c10, h⟩ := chkA_some h
      refine yo_iald (o + 1) 400 (by omega) (by rcases hT with ⟨rfl, rfl⟩ | ⟨rfl, rfl⟩ <;> rfl) c10 (ovp_at (by rcases hT with ⟨rfl, rfl⟩ | ⟨rfl, rfl⟩ <;> rfl)) (show decode cX7_holds 40 = .ok (.iaload, 1) by decide +kernel) ?_
      refine y_istore (show decode cX7_holds 41 = .ok (.istore 7, 2) by decide +kernel) rfl (L1 := [(7, .inl (σ5 (o + 1) (x4).toNat)), (0, .inr (.inr (o + 1))), (1, .inl a), (2, .inl b), (3, .inl c), (4, .inl d), (5, .inl x3), (6, .inl x4)]) rfl ?_
      refine y_iload (show decode cX7_holds 43 = .ok (.iload 7, 2) by decide +kernel) 0 rfl ?_
      refine bnd_j (Q := fun j13 => ∀ (y11 : Int) (σ12 : ySt), j13 y11 σ12 = some (ρ, τ) → Y E MX7_holds (yRm 1 0 0) (yQf E (n + 0) 0 0 (some (.inl ρ)) (ovp T τ)) 179 [(0, .inr (.inr (o + 1))), (1, .inl a), (2, .inl b), (3, .inl c), (4, .inl d), (5, .inl y11), (6, .inl x4)] [] (ovp T σ12) n 0 0) (fun y11 σ12 h => ?_) (fun j13 hj13 h => ?_) h
      · dsimp only at h
        obtain ⟨c14, h⟩ := chkI_some h
        refine y_iinc (show decode cX7_holds 179 = .ok (.iinc 6 1, 3) by decide +kernel) 6 rfl c14 rfl (L1 := [(6, .inl (x4 + 1)), (0, .inr (.inr (o + 1))), (1, .inl a), (2, .inl b), (3, .inl c), (4, .inl d), (5, .inl y11)]) rfl ?_
        refine y_goto (tgt := 25) (show decode cX7_holds 182 = .ok (.goto (-157), 3) by decide +kernel) rfl ?_
        refine y_pick [1, 2, 3, 4, 5, 6, 0] rfl ?_
        exact hk6 _ _ _ h
      refine bnd_j (Q := fun j15 => j15 = some (ρ, τ) → Y E MX7_holds (yRm 1 0 0) (yQf E (n + 0) 0 0 (some (.inl ρ)) (ovp T τ)) 57 [(0, .inr (.inr (o + 1))), (1, .inl a), (2, .inl b), (3, .inl c), (4, .inl d), (5, .inl x3), (6, .inl x4), (7, .inl (σ5 (o + 1) (x4).toNat))] [] (ovp T σ5) n 0 0) (fun h => ?_) (fun j15 hj15 h => ?_) h
      · refine y_iload (show decode cX7_holds 57 = .ok (.iload 5, 2) by decide +kernel) 5 rfl ?_
        refine y_bipush (show decode cX7_holds 59 = .ok (.bipush 40, 2) by decide +kernel) rfl rfl ?_
        by_cases c16 : x3 ≥ 40
        · rw [if_pos c16] at h
          refine y_icmp_ge_t (tgt := 179) (show decode cX7_holds 61 = .ok (.if_icmp .ge 118, 3) by decide +kernel) rfl c16 ?_
          refine y_pick [0, 1, 2, 3, 4, 5, 6] rfl ?_
          exact hj13 _ _ h
        · rw [if_neg c16] at h
          refine y_icmp_ge_f (show decode cX7_holds 61 = .ok (.if_icmp .ge 118, 3) by decide +kernel) c16 (by decide) ?_
          refine y_aload_n (show decode cX7_holds 64 = .ok (.aload_n 0, 1) by decide +kernel) 0 rfl ?_
          refine y_getf o 7 1 15 (by omega) (by rcases hT with ⟨rfl, rfl⟩ | ⟨rfl, rfl⟩ <;> rfl) (by decide) (by decide) q1_166 (show decode cX7_holds 65 = .ok (.getfield 15, 3) by decide +kernel) (v := .inr (.inr ((o + 2) + 1))) (by rcases hT with ⟨rfl, rfl⟩ | ⟨rfl, rfl⟩ <;> rfl) ?_
          refine y_iload (show decode cX7_holds 68 = .ok (.iload 5, 2) by decide +kernel) 5 rfl ?_
          refine y_iload (show decode cX7_holds 70 = .ok (.iload 7, 2) by decide +kernel) 7 rfl ?_
          refine bnd_j (Q := fun j18 => ∀ (y17 : Int), j18 y17 = some (ρ, τ) → Y E MX7_holds (yRm 1 0 0) (yQf E (n + 0) 0 0 (some (.inl ρ)) (ovp T τ)) 91 [(0, .inr (.inr (o + 1))), (1, .inl a), (2, .inl b), (3, .inl c), (4, .inl d), (5, .inl x3), (6, .inl x4)] [.inl y17, .inl x3, .inr (.inr ((o + 2) + 1))] (ovp T σ5) n 0 0) (fun y17 h => ?_) (fun j18 hj18 h => ?_) h
          · dsimp only at h
            obtain ⟨c19, h⟩ := chkA_some h
            obtain ⟨σ20, e21, h⟩ := bnd_i h
            refine yo_iast (o + 2) 40 (by omega) (by rcases hT with ⟨rfl, rfl⟩ | ⟨rfl, rfl⟩ <;> rfl) c19 (ovp_set1 e21 (by rcases hT with ⟨rfl, rfl⟩ | ⟨rfl, rfl⟩ <;> rfl)) (show decode cX7_holds 91 = .ok (.iastore, 1) by decide +kernel) ?_
            obtain ⟨c22, h⟩ := chkI_some h
            refine y_iinc (show decode cX7_holds 92 = .ok (.iinc 5 1, 3) by decide +kernel) 5 rfl c22 rfl (L1 := [(5, .inl (x3 + 1)), (0, .inr (.inr (o + 1))), (1, .inl a), (2, .inl b), (3, .inl c), (4, .inl d), (6, .inl x4)]) rfl ?_
            refine y_goto (tgt := 179) (show decode cX7_holds 95 = .ok (.goto 84, 3) by decide +kernel) rfl ?_
            refine y_pick [1, 2, 3, 4, 5, 0, 6] rfl ?_
            exact hj13 _ _ h
          by_cases c23 : (σ5 (o + 1) (x4).toNat) < 0
          · rw [if_pos c23] at h
            refine y_if_lt_t (tgt := 80) (show decode cX7_holds 72 = .ok (.ifCond .lt 8, 3) by decide +kernel) rfl c23 ?_
            refine y_iload (show decode cX7_holds 80 = .ok (.iload 7, 2) by decide +kernel) 7 rfl ?_
            obtain ⟨c24, h⟩ := chkI_some h
            refine y_ineg (show decode cX7_holds 82 = .ok (.ineg, 1) by decide +kernel) c24 ?_
            refine y_iload_n (show decode cX7_holds 83 = .ok (.iload_n 1, 1) by decide +kernel) 1 rfl ?_
            refine y_iload_n (show decode cX7_holds 84 = .ok (.iload_n 2, 1) by decide +kernel) 2 rfl ?_
            refine y_iload_n (show decode cX7_holds 85 = .ok (.iload_n 3, 1) by decide +kernel) 3 rfl ?_
            refine y_iload (show decode cX7_holds 86 = .ok (.iload 4, 2) by decide +kernel) 4 rfl ?_
            obtain ⟨r26, e25, h⟩ := bndO_some h
            refine y_callS (np := 5) (st := [.inl x3, .inr (.inr ((o + 2) + 1))]) (as := [.inl (-(σ5 (o + 1) (x4).toNat)), .inl a, .inl b, .inl c, .inl d]) (sq_cRu_named e25) q2_134 q2_132 q2_133 q1_7 (by decide) (by decide +kernel) (by decide) rfl (Nat.le_of_ble_eq_true rfl) (show decode cX7_holds 88 = .ok (.invokestatic 78, 3) by decide +kernel) rfl ?_
            refine y_pick [0, 1, 2, 3, 4, 5, 6] rfl ?_
            exact hj18 _ h
          · rw [if_neg c23] at h
            refine y_if_lt_f (show decode cX7_holds 72 = .ok (.ifCond .lt 8, 3) by decide +kernel) c23 (by decide) ?_
            refine y_iload (show decode cX7_holds 75 = .ok (.iload 7, 2) by decide +kernel) 7 rfl ?_
            refine y_goto (tgt := 91) (show decode cX7_holds 77 = .ok (.goto 14, 3) by decide +kernel) rfl ?_
            refine y_pick [0, 1, 2, 3, 4, 5, 6] rfl ?_
            exact hj18 _ h
      by_cases c27 : (σ5 (o + 1) (x4).toNat) ≥ 0
      · rw [if_pos c27] at h
        refine y_if_ge_t (tgt := 57) (show decode cX7_holds 45 = .ok (.ifCond .ge 12, 3) by decide +kernel) rfl c27 ?_
        refine y_pick [1, 2, 3, 4, 5, 6, 7, 0] rfl ?_
        exact hj15 h
      · rw [if_neg c27] at h
        refine y_if_ge_f (show decode cX7_holds 45 = .ok (.ifCond .ge 12, 3) by decide +kernel) c27 (by decide) ?_
        refine y_iload (show decode cX7_holds 48 = .ok (.iload 7, 2) by decide +kernel) 0 rfl ?_
        obtain ⟨c28, h⟩ := chkI_some h
        refine y_ineg (show decode cX7_holds 50 = .ok (.ineg, 1) by decide +kernel) c28 ?_
        obtain ⟨r30, e29, h⟩ := bndO_some h
        refine y_callS (np := 1) (st := []) (as := [.inl (-(σ5 (o + 1) (x4).toNat))]) (sq_cRu_isName e29) q2_131 q2_129 q2_130 q1_7 (by decide) (by decide +kernel) (by decide) rfl (Nat.le_of_ble_eq_true rfl) (show decode cX7_holds 51 = .ok (.invokestatic 75, 3) by decide +kernel) rfl ?_
        by_cases c31 : r30 = 0
        · rw [if_pos c31] at h
          refine y_if_eq_t (tgt := 98) (show decode cX7_holds 54 = .ok (.ifCond .eq 44, 3) by decide +kernel) rfl c31 ?_
          refine y_iload (show decode cX7_holds 98 = .ok (.iload 7, 2) by decide +kernel) 0 rfl ?_
          refine y_bipush (show decode cX7_holds 100 = .ok (.bipush (-116), 2) by decide +kernel) rfl rfl ?_
          by_cases c32 : ¬ (σ5 (o + 1) (x4).toNat) = (-116)
          · rw [if_pos c32] at h
            refine y_icmp_ne_t (tgt := 139) (show decode cX7_holds 102 = .ok (.if_icmp .ne 37, 3) by decide +kernel) rfl c32 ?_
            refine y_iload (show decode cX7_holds 139 = .ok (.iload 5, 2) by decide +kernel) 6 rfl ?_
            refine y_iconst (show decode cX7_holds 141 = .ok (.iconst 1, 1) by decide +kernel) rfl ?_
            by_cases c33 : x3 ≤ 1
            · rw [if_pos c33] at h
              refine y_icmp_le_t (tgt := 179) (show decode cX7_holds 142 = .ok (.if_icmp .le 37, 3) by decide +kernel) rfl c33 ?_
              refine y_pick [1, 2, 3, 4, 5, 6, 7] rfl ?_
              exact hj13 _ _ h
            · rw [if_neg c33] at h
              refine y_icmp_le_f (show decode cX7_holds 142 = .ok (.if_icmp .le 37, 3) by decide +kernel) c33 (by decide) ?_
              obtain ⟨c34, h⟩ := chkI_some h
              refine y_iinc (show decode cX7_holds 145 = .ok (.iinc 5 (-1), 3) by decide +kernel) 6 rfl c34 rfl (L1 := [(5, .inl (x3 + (-1))), (7, .inl (σ5 (o + 1) (x4).toNat)), (0, .inr (.inr (o + 1))), (1, .inl a), (2, .inl b), (3, .inl c), (4, .inl d), (6, .inl x4)]) rfl ?_
              refine y_aload_n (show decode cX7_holds 148 = .ok (.aload_n 0, 1) by decide +kernel) 2 rfl ?_
              refine y_getf o 7 1 15 (by omega) (by rcases hT with ⟨rfl, rfl⟩ | ⟨rfl, rfl⟩ <;> rfl) (by decide) (by decide) q1_166 (show decode cX7_holds 149 = .ok (.getfield 15, 3) by decide +kernel) (v := .inr (.inr ((o + 2) + 1))) (by rcases hT with ⟨rfl, rfl⟩ | ⟨rfl, rfl⟩ <;> rfl) ?_
              refine y_iload (show decode cX7_holds 152 = .ok (.iload 5, 2) by decide +kernel) 0 rfl ?_
              refine y_iconst (show decode cX7_holds 154 = .ok (.iconst 1, 1) by decide +kernel) rfl ?_
              obtain ⟨c35, h⟩ := chkI_some h
              refine y_isub (show decode cX7_holds 155 = .ok (.isub, 1) by decide +kernel) c35 ?_
              refine y_iload (show decode cX7_holds 156 = .ok (.iload 7, 2) by decide +kernel) 1 rfl ?_
              obtain ⟨c36, h⟩ := chkI_some h
              refine y_ineg (show decode cX7_holds 158 = .ok (.ineg, 1) by decide +kernel) c36 ?_
              refine y_aload_n (show decode cX7_holds 159 = .ok (.aload_n 0, 1) by decide +kernel) 2 rfl ?_
              refine y_getf o 7 1 15 (by omega) (by rcases hT with ⟨rfl, rfl⟩ | ⟨rfl, rfl⟩ <;> rfl) (by decide) (by decide) q1_166 (show decode cX7_holds 160 = .ok (.getfield 15, 3) by decide +kernel) (v := .inr (.inr ((o + 2) + 1))) (by rcases hT with ⟨rfl, rfl⟩ | ⟨rfl, rfl⟩ <;> rfl) ?_
              refine y_iload (show decode cX7_holds 163 = .ok (.iload 5, 2) by decide +kernel) 0 rfl ?_
              refine y_iconst (show decode cX7_holds 165 = .ok (.iconst 1, 1) by decide +kernel) rfl ?_
              obtain ⟨c37, h⟩ := chkI_some h
              refine y_isub (show decode cX7_holds 166 = .ok (.isub, 1) by decide +kernel) c37 ?_
              obtain ⟨c38, h⟩ := chkA_some h
              refine yo_iald (o + 2) 40 (by omega) (by rcases hT with ⟨rfl, rfl⟩ | ⟨rfl, rfl⟩ <;> rfl) c38 (ovp_at (by rcases hT with ⟨rfl, rfl⟩ | ⟨rfl, rfl⟩ <;> rfl)) (show decode cX7_holds 167 = .ok (.iaload, 1) by decide +kernel) ?_
              refine y_aload_n (show decode cX7_holds 168 = .ok (.aload_n 0, 1) by decide +kernel) 2 rfl ?_
              refine y_getf o 7 1 15 (by omega) (by rcases hT with ⟨rfl, rfl⟩ | ⟨rfl, rfl⟩ <;> rfl) (by decide) (by decide) q1_166 (show decode cX7_holds 169 = .ok (.getfield 15, 3) by decide +kernel) (v := .inr (.inr ((o + 2) + 1))) (by rcases hT with ⟨rfl, rfl⟩ | ⟨rfl, rfl⟩ <;> rfl) ?_
              refine y_iload (show decode cX7_holds 172 = .ok (.iload 5, 2) by decide +kernel) 0 rfl ?_
              obtain ⟨c39, h⟩ := chkA_some h
              refine yo_iald (o + 2) 40 (by omega) (by rcases hT with ⟨rfl, rfl⟩ | ⟨rfl, rfl⟩ <;> rfl) c39 (ovp_at (by rcases hT with ⟨rfl, rfl⟩ | ⟨rfl, rfl⟩ <;> rfl)) (show decode cX7_holds 174 = .ok (.iaload, 1) by decide +kernel) ?_
              obtain ⟨r41, e40, h⟩ := bndO_some h
              refine y_callS (np := 3) (st := [.inl ((x3 + (-1)) - 1), .inr (.inr ((o + 2) + 1))]) (as := [.inl (-(σ5 (o + 1) (x4).toNat)), .inl (σ5 (o + 2) (((x3 + (-1)) - 1)).toNat), .inl (σ5 (o + 2) ((x3 + (-1))).toNat)]) (sq_cRu_joined e40) q2_137 q2_135 q2_136 q1_7 (by decide) (by decide +kernel) (by decide) rfl (Nat.le_of_ble_eq_true rfl) (show decode cX7_holds 175 = .ok (.invokestatic 82, 3) by decide +kernel) rfl ?_
              obtain ⟨c42, h⟩ := chkA_some h
              obtain ⟨σ43, e44, h⟩ := bnd_i h
              refine yo_iast (o + 2) 40 (by omega) (by rcases hT with ⟨rfl, rfl⟩ | ⟨rfl, rfl⟩ <;> rfl) c42 (ovp_set1 e44 (by rcases hT with ⟨rfl, rfl⟩ | ⟨rfl, rfl⟩ <;> rfl)) (show decode cX7_holds 178 = .ok (.iastore, 1) by decide +kernel) ?_
              refine y_pick [2, 3, 4, 5, 6, 0, 7] rfl ?_
              exact hj13 _ _ h
          · rw [if_neg c32] at h
            refine y_icmp_ne_f (show decode cX7_holds 102 = .ok (.if_icmp .ne 37, 3) by decide +kernel) c32 (by decide) ?_
            refine y_iload (show decode cX7_holds 105 = .ok (.iload 5, 2) by decide +kernel) 6 rfl ?_
            by_cases c45 : x3 ≤ 0
            · rw [if_pos c45] at h
              refine y_if_le_t (tgt := 179) (show decode cX7_holds 107 = .ok (.ifCond .le 72, 3) by decide +kernel) rfl c45 ?_
              refine y_pick [1, 2, 3, 4, 5, 6, 7] rfl ?_
              exact hj13 _ _ h
            · rw [if_neg c45] at h
              refine y_if_le_f (show decode cX7_holds 107 = .ok (.ifCond .le 72, 3) by decide +kernel) c45 (by decide) ?_
              refine y_aload_n (show decode cX7_holds 110 = .ok (.aload_n 0, 1) by decide +kernel) 1 rfl ?_
              refine y_getf o 7 1 15 (by omega) (by rcases hT with ⟨rfl, rfl⟩ | ⟨rfl, rfl⟩ <;> rfl) (by decide) (by decide) q1_166 (show decode cX7_holds 111 = .ok (.getfield 15, 3) by decide +kernel) (v := .inr (.inr ((o + 2) + 1))) (by rcases hT with ⟨rfl, rfl⟩ | ⟨rfl, rfl⟩ <;> rfl) ?_
              refine y_iload (show decode cX7_holds 114 = .ok (.iload 5, 2) by decide +kernel) 6 rfl ?_
              refine y_iconst (show decode cX7_holds 116 = .ok (.iconst 1, 1) by decide +kernel) rfl ?_
              obtain ⟨c46, h⟩ := chkI_some h
              refine y_isub (show decode cX7_holds 117 = .ok (.isub, 1) by decide +kernel) c46 ?_
              refine y_aload_n (show decode cX7_holds 118 = .ok (.aload_n 0, 1) by decide +kernel) 1 rfl ?_
              refine y_getf o 7 1 15 (by omega) (by rcases hT with ⟨rfl, rfl⟩ | ⟨rfl, rfl⟩ <;> rfl) (by decide) (by decide) q1_166 (show decode cX7_holds 119 = .ok (.getfield 15, 3) by decide +kernel) (v := .inr (.inr ((o + 2) + 1))) (by rcases hT with ⟨rfl, rfl⟩ | ⟨rfl, rfl⟩ <;> rfl) ?_
              refine y_iload (show decode cX7_holds 122 = .ok (.iload 5, 2) by decide +kernel) 6 rfl ?_
              refine y_iconst (show decode cX7_holds 124 = .ok (.iconst 1, 1) by decide +kernel) rfl ?_
              obtain ⟨c47, h⟩ := chkI_some h
              refine y_isub (show decode cX7_holds 125 = .ok (.isub, 1) by decide +kernel) c47 ?_
              obtain ⟨c48, h⟩ := chkA_some h
              refine yo_iald (o + 2) 40 (by omega) (by rcases hT with ⟨rfl, rfl⟩ | ⟨rfl, rfl⟩ <;> rfl) c48 (ovp_at (by rcases hT with ⟨rfl, rfl⟩ | ⟨rfl, rfl⟩ <;> rfl)) (show decode cX7_holds 126 = .ok (.iaload, 1) by decide +kernel) ?_
              refine bnd_j (Q := fun j50 => ∀ (y49 : Int), j50 y49 = some (ρ, τ) → Y E MX7_holds (yRm 1 0 0) (yQf E (n + 0) 0 0 (some (.inl ρ)) (ovp T τ)) 135 [(0, .inr (.inr (o + 1))), (1, .inl a), (2, .inl b), (3, .inl c), (4, .inl d), (5, .inl x3), (6, .inl x4)] [.inl y49, .inl (x3 - 1), .inr (.inr ((o + 2) + 1))] (ovp T σ5) n 0 0) (fun y49 h => ?_) (fun j50 hj50 h => ?_) h
              · dsimp only at h
                obtain ⟨c51, h⟩ := chkA_some h
                obtain ⟨σ52, e53, h⟩ := bnd_i h
                refine yo_iast (o + 2) 40 (by omega) (by rcases hT with ⟨rfl, rfl⟩ | ⟨rfl, rfl⟩ <;> rfl) c51 (ovp_set1 e53 (by rcases hT with ⟨rfl, rfl⟩ | ⟨rfl, rfl⟩ <;> rfl)) (show decode cX7_holds 135 = .ok (.iastore, 1) by decide +kernel) ?_
                refine y_goto (tgt := 179) (show decode cX7_holds 136 = .ok (.goto 43, 3) by decide +kernel) rfl ?_
                refine y_pick [0, 1, 2, 3, 4, 5, 6] rfl ?_
                exact hj13 _ _ h
              by_cases c54 : ¬ (σ5 (o + 2) ((x3 - 1)).toNat) = 0
              · rw [if_pos c54] at h
                refine y_if_ne_t (tgt := 134) (show decode cX7_holds 127 = .ok (.ifCond .ne 7, 3) by decide +kernel) rfl c54 ?_
                refine y_iconst (show decode cX7_holds 134 = .ok (.iconst 0, 1) by decide +kernel) rfl ?_
                refine y_pick [1, 2, 3, 4, 5, 6, 7] rfl ?_
                exact hj50 _ h
              · rw [if_neg c54] at h
                refine y_if_ne_f (show decode cX7_holds 127 = .ok (.ifCond .ne 7, 3) by decide +kernel) c54 (by decide) ?_
                refine y_iconst (show decode cX7_holds 130 = .ok (.iconst 1, 1) by decide +kernel) rfl ?_
                refine y_goto (tgt := 135) (show decode cX7_holds 131 = .ok (.goto 4, 3) by decide +kernel) rfl ?_
                refine y_pick [1, 2, 3, 4, 5, 6, 7] rfl ?_
                exact hj50 _ h
        · rw [if_neg c31] at h
          refine y_if_eq_f (show decode cX7_holds 54 = .ok (.ifCond .eq 44, 3) by decide +kernel) c31 (by decide) ?_
          refine y_pick [1, 2, 3, 4, 5, 6, 7, 0] rfl ?_
          exact hj15 h
  · rw [if_neg c2] at h
    refine y_if_ne_f (show decode cX7_holds 4 = .ok (.ifCond .ne 15, 3) by decide +kernel) c2 (by decide) ?_
    refine y_iload_n (show decode cX7_holds 7 = .ok (.iload_n 1, 1) by decide +kernel) 1 rfl ?_
    refine y_iconst (show decode cX7_holds 8 = .ok (.iconst 2, 1) by decide +kernel) rfl ?_
    obtain ⟨c55, h⟩ := chk_some h
    obtain ⟨c56, h⟩ := chkI_some h
    refine y_irem (show decode cX7_holds 9 = .ok (.irem, 1) by decide +kernel) c55 c56 ?_
    by_cases c57 : ¬ ((a : Int).tmod 2) = 0
    · rw [if_pos c57] at h
      refine y_if_ne_t (tgt := 17) (show decode cX7_holds 10 = .ok (.ifCond .ne 7, 3) by decide +kernel) rfl c57 ?_
      refine y_iconst (show decode cX7_holds 17 = .ok (.iconst 0, 1) by decide +kernel) rfl ?_
      cases h
      exact y_zret (show decode cX7_holds 18 = .ok (.ireturn, 1) by decide +kernel) rfl (Or.inl rfl)
    · rw [if_neg c57] at h
      refine y_if_ne_f (show decode cX7_holds 10 = .ok (.ifCond .ne 7, 3) by decide +kernel) c57 (by decide) ?_
      refine y_iconst (show decode cX7_holds 13 = .ok (.iconst 1, 1) by decide +kernel) rfl ?_
      refine y_goto (tgt := 18) (show decode cX7_holds 14 = .ok (.goto 4, 3) by decide +kernel) rfl ?_
      cases h
      exact y_zret (show decode cX7_holds 18 = .ok (.ireturn, 1) by decide +kernel) rfl (Or.inr rfl)
set_option maxHeartbeats 4000000 in
set_option maxRecDepth 10000 in
theorem sq_cTw_strokesRight {E : yE} {n T : Nat} {N : Nat} {o : Nat} {a : Int} {b : Int} {σ : ySt} {ρ : Int} {τ : ySt} (hn : T + 20 ≤ n) (hT : (o = 13 ∧ T = 13) ∨ (o = 33 ∧ T = 33)) (h : cTw_strokesRight N o a b σ = some (ρ, τ)) : Con E MX9_strokesRight 2 0 0 [.inr (.inr (o + 1)), .inl a, .inl b] n (ovp T σ) (some (.inl ρ)) (ovp T τ) := by
  unfold cTw_strokesRight at h
  refine Con.ofY (by decide +kernel) (by simp [yWords, yCat]) (fun hok _ => ?_)
  show Y E MX9_strokesRight (yRm 2 0 0) (yQf E (n + 0) 0 0 (some (.inl ρ)) (ovp T τ)) 0 [(0, .inr (.inr (o + 1))), (1, .inl a), (2, .inl b)] [] (ovp T σ) n 0 0
  obtain ⟨c1, h⟩ := chk_some h
  refine y_aload_n (show decode cX9_strokesRight 0 = .ok (.aload_n 0, 1) by decide +kernel) 0 rfl ?_
  refine y_getf o 9 3 26 (by omega) (by rcases hT with ⟨rfl, rfl⟩ | ⟨rfl, rfl⟩ <;> rfl) (by decide) (by decide) q1_209 (show decode cX9_strokesRight 1 = .ok (.getfield 26, 3) by decide +kernel) (v := .inr (.inr ((o + 7) + 1))) (by rcases hT with ⟨rfl, rfl⟩ | ⟨rfl, rfl⟩ <;> rfl) ?_
  refine y_iload_n (show decode cX9_strokesRight 4 = .ok (.iload_n 1, 1) by decide +kernel) 1 rfl ?_
  obtain ⟨c2, h⟩ := chkA_some h
  refine yo_zald (o + 7) 6 (by omega) (by rcases hT with ⟨rfl, rfl⟩ | ⟨rfl, rfl⟩ <;> rfl) c2 (ovp_at (by rcases hT with ⟨rfl, rfl⟩ | ⟨rfl, rfl⟩ <;> rfl)) (show decode cX9_strokesRight 5 = .ok (.baload, 1) by decide +kernel) ?_
  refine bnd_j (Q := fun j3 => j3 = some (ρ, τ) → Y E MX9_strokesRight (yRm 2 0 0) (yQf E (n + 0) 0 0 (some (.inl ρ)) (ovp T τ)) 15 [(0, .inr (.inr (o + 1))), (1, .inl a), (2, .inl b)] [] (ovp T σ) n 0 0) (fun h => ?_) (fun j3 hj3 h => ?_) h
  · refine y_iconst (show decode cX9_strokesRight 15 = .ok (.iconst 0, 1) by decide +kernel) rfl ?_
    refine y_istore_n (show decode cX9_strokesRight 16 = .ok (.istore_n 3, 1) by decide +kernel) rfl (L1 := [(3, .inl 0), (0, .inr (.inr (o + 1))), (1, .inl a), (2, .inl b)]) rfl ?_
    refine y_iconst (show decode cX9_strokesRight 17 = .ok (.iconst 1, 1) by decide +kernel) rfl ?_
    refine y_istore (show decode cX9_strokesRight 18 = .ok (.istore 4, 2) by decide +kernel) rfl (L1 := [(4, .inl 1), (3, .inl 0), (0, .inr (.inr (o + 1))), (1, .inl a), (2, .inl b)]) rfl ?_
    refine y_pick [2, 3, 4, 1, 0] rfl ?_
    refine loopS2_ind (P := fun x4 x5 σ6 => Y E MX9_strokesRight (yRm 2 0 0) (yQf E (n + 0) 0 0 (some (.inl ρ)) (ovp T τ)) 20 [(0, .inr (.inr (o + 1))), (1, .inl a), (2, .inl b), (3, .inl x4), (4, .inl x5)] [] (ovp T σ6) n 0 0) (fun k7 hk7 x4 x5 σ6 h => ?_) _ _ _ _  h
    refine y_iload (show decode cX9_strokesRight 20 = .ok (.iload 4, 2) by decide +kernel) 4 rfl ?_
    refine y_bipush (show decode cX9_strokesRight 22 = .ok (.bipush 8, 2) by decide +kernel) rfl rfl ?_
    by_cases c8 : x5 > 8
    · rw [if_pos c8] at h
      refine y_icmp_gt_t (tgt := 59) (show decode cX9_strokesRight 24 = .ok (.if_icmp .gt 35, 3) by decide +kernel) rfl c8 ?_
      refine y_iload_n (show decode cX9_strokesRight 59 = .ok (.iload_n 3, 1) by decide +kernel) 3 rfl ?_
      cases h
      exact y_iret (show decode cX9_strokesRight 60 = .ok (.ireturn, 1) by decide +kernel) rfl
    · rw [if_neg c8] at h
      refine y_icmp_gt_f (show decode cX9_strokesRight 24 = .ok (.if_icmp .gt 35, 3) by decide +kernel) c8 (by decide) ?_
      refine y_aload_n (show decode cX9_strokesRight 27 = .ok (.aload_n 0, 1) by decide +kernel) 0 rfl ?_
      refine y_getf o 9 13 61 (by omega) (by rcases hT with ⟨rfl, rfl⟩ | ⟨rfl, rfl⟩ <;> rfl) (by decide) (by decide) q2_4 (show decode cX9_strokesRight 28 = .ok (.getfield 61, 3) by decide +kernel) (v := .inr (.inr ((o + 17) + 1))) (by rcases hT with ⟨rfl, rfl⟩ | ⟨rfl, rfl⟩ <;> rfl) ?_
      refine y_iload_n (show decode cX9_strokesRight 31 = .ok (.iload_n 2, 1) by decide +kernel) 2 rfl ?_
      refine y_iload (show decode cX9_strokesRight 32 = .ok (.iload 4, 2) by decide +kernel) 4 rfl ?_
      refine y_iload_n (show decode cX9_strokesRight 34 = .ok (.iload_n 1, 1) by decide +kernel) 1 rfl ?_
      refine y_aload_n (show decode cX9_strokesRight 35 = .ok (.aload_n 0, 1) by decide +kernel) 0 rfl ?_
      refine y_iload_n (show decode cX9_strokesRight 36 = .ok (.iload_n 1, 1) by decide +kernel) 1 rfl ?_
      obtain ⟨r10, e9, h⟩ := bndO_some h
      refine y_callV (np := 1) (st := [.inl a, .inl x5, .inl b, .inr (.inr ((o + 17) + 1))]) (as := [.inl a]) o 9 (sq_cTw_dogsAt hn (by omega) e9) q2_124 q2_121 q2_123 qs1_2 q1_5 (by omega) (by rcases hT with ⟨rfl, rfl⟩ | ⟨rfl, rfl⟩ <;> rfl) (by decide) rfl (by decide) (by decide +kernel) (by decide) rfl (Nat.le_of_ble_eq_true rfl) (show decode cX9_strokesRight 37 = .ok (.invokevirtual 104, 3) by decide +kernel) rfl ?_
      obtain ⟨r12, σ13, e11, h⟩ := bndR_some h
      refine y_callV (np := 4) (st := []) (as := [.inl b, .inl x5, .inl a, .inl r10]) (o + 17) 7 (sq_cRu_holds hn (by omega) e11) q2_128 q2_125 q2_126 q2_127 q1_7 (by omega) (by rcases hT with ⟨rfl, rfl⟩ | ⟨rfl, rfl⟩ <;> rfl) (by decide) rfl (by decide) (by decide +kernel) (by decide) rfl (Nat.le_of_ble_eq_true rfl) (show decode cX9_strokesRight 40 = .ok (.invokevirtual 108, 3) by decide +kernel) rfl ?_
      refine bnd_j (Q := fun j15 => ∀ (y14 : Int), j15 y14 = some (ρ, τ) → Y E MX9_strokesRight (yRm 2 0 0) (yQf E (n + 0) 0 0 (some (.inl ρ)) (ovp T τ)) 53 [(0, .inr (.inr (o + 1))), (1, .inl a), (2, .inl b), (3, .inl y14), (4, .inl x5)] [] (ovp T σ13) n 0 0) (fun y14 h => ?_) (fun j15 hj15 h => ?_) h
      · dsimp only at h
        obtain ⟨c16, h⟩ := chkI_some h
        refine y_iinc (show decode cX9_strokesRight 53 = .ok (.iinc 4 1, 3) by decide +kernel) 4 rfl c16 rfl (L1 := [(4, .inl (x5 + 1)), (0, .inr (.inr (o + 1))), (1, .inl a), (2, .inl b), (3, .inl y14)]) rfl ?_
        refine y_goto (tgt := 20) (show decode cX9_strokesRight 56 = .ok (.goto (-36), 3) by decide +kernel) rfl ?_
        refine y_pick [1, 2, 3, 4, 0] rfl ?_
        exact hk7 _ _ _ h
      by_cases c17 : r12 = 0
      · rw [if_pos c17] at h
        refine y_if_eq_t (tgt := 53) (show decode cX9_strokesRight 43 = .ok (.ifCond .eq 10, 3) by decide +kernel) rfl c17 ?_
        refine y_pick [0, 1, 2, 3, 4] rfl ?_
        exact hj15 _ h
      · rw [if_neg c17] at h
        refine y_if_eq_f (show decode cX9_strokesRight 43 = .ok (.ifCond .eq 10, 3) by decide +kernel) c17 (by decide) ?_
        refine y_iload_n (show decode cX9_strokesRight 46 = .ok (.iload_n 3, 1) by decide +kernel) 3 rfl ?_
        refine y_iconst (show decode cX9_strokesRight 47 = .ok (.iconst 1, 1) by decide +kernel) rfl ?_
        refine y_iload (show decode cX9_strokesRight 48 = .ok (.iload 4, 2) by decide +kernel) 4 rfl ?_
        refine y_ishl (show decode cX9_strokesRight 50 = .ok (.ishl, 1) by decide +kernel) ?_
        refine y_ior (show decode cX9_strokesRight 51 = .ok (.ior, 1) by decide +kernel) ?_
        refine y_istore_n (show decode cX9_strokesRight 52 = .ok (.istore_n 3, 1) by decide +kernel) rfl (L1 := [(3, .inl (b32or x4 (b32shl 1 x5))), (0, .inr (.inr (o + 1))), (1, .inl a), (2, .inl b), (4, .inl x5)]) rfl ?_
        refine y_pick [1, 2, 3, 0, 4] rfl ?_
        exact hj15 _ h
  by_cases c18 : (σ (o + 7) (a).toNat) = 0
  · rw [if_pos c18] at h
    refine y_if_eq_t (tgt := 15) (show decode cX9_strokesRight 6 = .ok (.ifCond .eq 9, 3) by decide +kernel) rfl c18 ?_
    refine y_pick [0, 1, 2] rfl ?_
    exact hj3 h
  · rw [if_neg c18] at h
    refine y_if_eq_f (show decode cX9_strokesRight 6 = .ok (.ifCond .eq 9, 3) by decide +kernel) c18 (by decide) ?_
    refine y_iload_n (show decode cX9_strokesRight 9 = .ok (.iload_n 2, 1) by decide +kernel) 2 rfl ?_
    by_cases c19 : b ≤ 0
    · rw [if_pos c19] at h
      refine y_if_le_t (tgt := 15) (show decode cX9_strokesRight 10 = .ok (.ifCond .le 5, 3) by decide +kernel) rfl c19 ?_
      refine y_pick [0, 1, 2] rfl ?_
      exact hj3 h
    · rw [if_neg c19] at h
      refine y_if_le_f (show decode cX9_strokesRight 10 = .ok (.ifCond .le 5, 3) by decide +kernel) c19 (by decide) ?_
      refine y_iconst (show decode cX9_strokesRight 13 = .ok (.iconst 0, 1) by decide +kernel) rfl ?_
      cases h
      exact y_iret (show decode cX9_strokesRight 14 = .ok (.ireturn, 1) by decide +kernel) rfl
set_option maxHeartbeats 4000000 in
set_option maxRecDepth 10000 in
theorem sq_cTw_finish {E : yE} {n T : Nat} {N : Nat} {o : Nat} {σ : ySt} {τ : ySt} (hn : T + 20 ≤ n) (hT : (o = 13 ∧ T = 13) ∨ (o = 33 ∧ T = 33)) (h : cTw_finish N o σ = some τ) : Con E MX9_finish 3 0 0 [.inr (.inr (o + 1))] n (ovp T σ) none (ovp T τ) := by
  unfold cTw_finish at h
  refine Con.ofY (by decide +kernel) (by simp [yWords, yCat]) (fun hok _ => ?_)
  show Y E MX9_finish (yRm 3 0 0) (yQf E (n + 0) 0 0 none (ovp T τ)) 0 [(0, .inr (.inr (o + 1)))] [] (ovp T σ) n 0 0
  obtain ⟨c1, h⟩ := chk_some h
  refine y_aload_n (show decode cX9_finish 0 = .ok (.aload_n 0, 1) by decide +kernel) 0 rfl ?_
  obtain ⟨σ3, e2, h⟩ := bndO_some h
  refine y_callV (np := 0) (st := []) (as := []) o 9 (sq_cTw_layLeast hn (by omega) e2) q2_113 q2_110 q2_112 qs1_0 q1_5 (by omega) (by rcases hT with ⟨rfl, rfl⟩ | ⟨rfl, rfl⟩ <;> rfl) (by decide) rfl (by decide) (by decide +kernel) (by decide) rfl (Nat.le_of_ble_eq_true rfl) (show decode cX9_finish 1 = .ok (.invokevirtual 92, 3) by decide +kernel) rfl ?_
  refine y_iconst (show decode cX9_finish 4 = .ok (.iconst 0, 1) by decide +kernel) rfl ?_
  refine y_istore_n (show decode cX9_finish 5 = .ok (.istore_n 1, 1) by decide +kernel) rfl (L1 := [(1, .inl 0), (0, .inr (.inr (o + 1)))]) rfl ?_
  refine y_pick [1, 0] rfl ?_
  refine loopS1_ind (P := fun x4 σ5 => Y E MX9_finish (yRm 3 0 0) (yQf E (n + 0) 0 0 none (ovp T τ)) 6 [(0, .inr (.inr (o + 1))), (1, .inl x4)] [] (ovp T σ5) n 0 0) (fun k6 hk6 x4 σ5 h => ?_) _ _ _  h
  refine y_iload_n (show decode cX9_finish 6 = .ok (.iload_n 1, 1) by decide +kernel) 1 rfl ?_
  refine y_aload_n (show decode cX9_finish 7 = .ok (.aload_n 0, 1) by decide +kernel) 0 rfl ?_
  refine y_getf o 9 0 14 (by omega) (by rcases hT with ⟨rfl, rfl⟩ | ⟨rfl, rfl⟩ <;> rfl) (by decide) (by decide) q1_192 (show decode cX9_finish 8 = .ok (.getfield 14, 3) by decide +kernel) (v := .inr (.inr ((o + 1) + 1))) (by rcases hT with ⟨rfl, rfl⟩ | ⟨rfl, rfl⟩ <;> rfl) ?_
  refine y_getf (o + 1) 5 1 68 (by omega) (by rcases hT with ⟨rfl, rfl⟩ | ⟨rfl, rfl⟩ <;> rfl) (by decide) (by decide) q1_146 (show decode cX9_finish 11 = .ok (.getfield 68, 3) by decide +kernel) (v := .inl (σ5 (o + 1) 1)) (by rcases hT with ⟨rfl, rfl⟩ | ⟨rfl, rfl⟩ <;> rfl) ?_
  by_cases c7 : x4 ≥ (σ5 (o + 1) 1)
  · rw [if_pos c7] at h
    refine y_icmp_ge_t (tgt := 54) (show decode cX9_finish 14 = .ok (.if_icmp .ge 40, 3) by decide +kernel) rfl c7 ?_
    cases h
    exact y_vret (show decode cX9_finish 54 = .ok (.return_, 1) by decide +kernel) rfl
  · rw [if_neg c7] at h
    refine y_icmp_ge_f (show decode cX9_finish 14 = .ok (.if_icmp .ge 40, 3) by decide +kernel) c7 (by decide) ?_
    refine y_iconst (show decode cX9_finish 17 = .ok (.iconst 0, 1) by decide +kernel) rfl ?_
    refine y_istore_n (show decode cX9_finish 18 = .ok (.istore_n 2, 1) by decide +kernel) rfl (L1 := [(2, .inl 0), (0, .inr (.inr (o + 1))), (1, .inl x4)]) rfl ?_
    refine y_pick [1, 2, 0] rfl ?_
    refine loopS2_ind (P := fun x8 x9 σ10 => Y E MX9_finish (yRm 3 0 0) (yQf E (n + 0) 0 0 none (ovp T τ)) 19 [(0, .inr (.inr (o + 1))), (1, .inl x8), (2, .inl x9)] [] (ovp T σ10) n 0 0) (fun k11 hk11 x8 x9 σ10 h => ?_) _ _ _ _  h
    refine y_iload_n (show decode cX9_finish 19 = .ok (.iload_n 2, 1) by decide +kernel) 2 rfl ?_
    refine y_bipush (show decode cX9_finish 20 = .ok (.bipush 6, 2) by decide +kernel) rfl rfl ?_
    by_cases c12 : x9 ≥ 6
    · rw [if_pos c12] at h
      refine y_icmp_ge_t (tgt := 48) (show decode cX9_finish 22 = .ok (.if_icmp .ge 26, 3) by decide +kernel) rfl c12 ?_
      obtain ⟨c13, h⟩ := chkI_some h
      refine y_iinc (show decode cX9_finish 48 = .ok (.iinc 1 1, 3) by decide +kernel) 1 rfl c13 rfl (L1 := [(1, .inl (x8 + 1)), (0, .inr (.inr (o + 1))), (2, .inl x9)]) rfl ?_
      refine y_goto (tgt := 6) (show decode cX9_finish 51 = .ok (.goto (-45), 3) by decide +kernel) rfl ?_
      refine y_pick [1, 0] rfl ?_
      exact hk6 _ _ h
    · rw [if_neg c12] at h
      refine y_icmp_ge_f (show decode cX9_finish 22 = .ok (.if_icmp .ge 26, 3) by decide +kernel) c12 (by decide) ?_
      refine y_aload_n (show decode cX9_finish 25 = .ok (.aload_n 0, 1) by decide +kernel) 0 rfl ?_
      refine y_getf o 9 12 55 (by omega) (by rcases hT with ⟨rfl, rfl⟩ | ⟨rfl, rfl⟩ <;> rfl) (by decide) (by decide) q2_2 (show decode cX9_finish 26 = .ok (.getfield 55, 3) by decide +kernel) (v := .inr (.inr ((o + 16) + 1))) (by rcases hT with ⟨rfl, rfl⟩ | ⟨rfl, rfl⟩ <;> rfl) ?_
      refine y_iload_n (show decode cX9_finish 29 = .ok (.iload_n 1, 1) by decide +kernel) 1 rfl ?_
      refine y_bipush (show decode cX9_finish 30 = .ok (.bipush 6, 2) by decide +kernel) rfl rfl ?_
      obtain ⟨c14, h⟩ := chkI_some h
      refine y_imul (show decode cX9_finish 32 = .ok (.imul, 1) by decide +kernel) c14 ?_
      refine y_iload_n (show decode cX9_finish 33 = .ok (.iload_n 2, 1) by decide +kernel) 2 rfl ?_
      obtain ⟨c15, h⟩ := chkI_some h
      refine y_iadd (show decode cX9_finish 34 = .ok (.iadd, 1) by decide +kernel) c15 ?_
      refine y_aload_n (show decode cX9_finish 35 = .ok (.aload_n 0, 1) by decide +kernel) 0 rfl ?_
      refine y_iload_n (show decode cX9_finish 36 = .ok (.iload_n 1, 1) by decide +kernel) 1 rfl ?_
      refine y_iload_n (show decode cX9_finish 37 = .ok (.iload_n 2, 1) by decide +kernel) 2 rfl ?_
      obtain ⟨r17, σ18, e16, h⟩ := bndR_some h
      refine y_callV (np := 2) (st := [.inl ((x8 * 6) + x9), .inr (.inr ((o + 16) + 1))]) (as := [.inl x8, .inl x9]) o 9 (sq_cTw_strokesRight hn (by omega) e16) q2_120 q2_117 q2_119 qs1_1 q1_5 (by omega) (by rcases hT with ⟨rfl, rfl⟩ | ⟨rfl, rfl⟩ <;> rfl) (by decide) rfl (by decide) (by decide +kernel) (by decide) rfl (Nat.le_of_ble_eq_true rfl) (show decode cX9_finish 38 = .ok (.invokevirtual 95, 3) by decide +kernel) rfl ?_
      obtain ⟨c19, h⟩ := chkA_some h
      obtain ⟨σ20, e21, h⟩ := bnd_i h
      refine yo_iast (o + 16) 36 (by omega) (by rcases hT with ⟨rfl, rfl⟩ | ⟨rfl, rfl⟩ <;> rfl) c19 (ovp_set1 e21 (by rcases hT with ⟨rfl, rfl⟩ | ⟨rfl, rfl⟩ <;> rfl)) (show decode cX9_finish 41 = .ok (.iastore, 1) by decide +kernel) ?_
      obtain ⟨c22, h⟩ := chkI_some h
      refine y_iinc (show decode cX9_finish 42 = .ok (.iinc 2 1, 3) by decide +kernel) 2 rfl c22 rfl (L1 := [(2, .inl (x9 + 1)), (0, .inr (.inr (o + 1))), (1, .inl x8)]) rfl ?_
      refine y_goto (tgt := 19) (show decode cX9_finish 45 = .ok (.goto (-26), 3) by decide +kernel) rfl ?_
      refine y_pick [1, 2, 0] rfl ?_
      exact hk11 _ _ _ h
