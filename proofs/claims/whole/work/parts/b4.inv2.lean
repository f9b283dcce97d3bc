/-! calls that change what is held -/
theorem sub_all {σ σ' τ τ' : ySt} {T b P Q mp mq md mw me L S hr nc n nc' n' : Nat} {W : Nat → Int} (h : IV σ τ T b P Q mp mq md mw me L S hr nc n W) (e : ∀ i, 12 < i → i < 92 → i ≠ 84 → i ≠ 85 → i ≠ 87 → i ≠ 88 → i ≠ 90 → i ≠ 91 → i ≠ 83 → i ≠ 86 → i ≠ 89 → σ' i = σ i) (e0 : σ' 0 = σ 0) (f : ∀ i, 95 ≤ i → i < 123 → τ' i = τ i) (f40 : τ' 92 40 = τ 92 40) (f136 : τ' 136 = τ 136)
    (ea : EAr σ' 9 (τ' 138) (τ' 139) (τ' 92 73) (τ' 92 74) mp mq) (bx : ∀ k, k < 3 → BX σ' τ' k mp mq) (ct : CTr σ' τ' nc' mp) (fd : FD σ' τ' n') (hf : σ' 1 6 = τ' 92 4 ∧ σ' 1 7 = τ' 92 5) : IV σ' τ' T b P Q mp mq md mw me L S hr nc' n' W := by
  obtain ⟨hT, hb, hP, hQ, _, _⟩ := IV_T h
  obtain ⟨⟨td0, tw0, h58, hS0, hH0, hca⟩, hck, hcl, ⟨pl, p2, h09⟩, h06, _, _, _, _, _⟩ := h
  have e' : ∀ i, 12 < i → i < 83 → σ' i = σ i := fun i h1 h2 => e i h1 (by omega) (by omega) (by omega) (by omega) (by omega) (by omega) (by omega) (by omega) (by omega) (by omega)
  have eT : ∀ i, T ≤ i → i ≤ T + 19 → σ' i = σ i := fun i a1 a2 => e' i (by omega) (by omega)
  have td1 : TD σ τ' T b mp mq md mw me L W := TD_bank td0 f40 (fun i j a1 a2 _ _ => by rw [f i a1 (by omega)])
  have td2 : TD σ' τ' T b mp mq md mw me L W := by
    obtain ⟨hT, h05, h40, hb, g1, g2, g3, w, ⟨n1, n2, n3⟩, ft, g5, g6, g7, g8, g9, ru, hr, hu⟩ := td1
    have eT' : ∀ k, k ≤ 19 → σ' (T + k) = σ (T + k) := fun k hk => eT (T + k) (by omega) (by omega)
    have e0' : σ' T = σ T := eT' 0 (by omega)
    exact ⟨hT, by rw [e0]; exact h05, h40, hb, G1_of g1 (eT' 1 (by omega)) (eT' 2 (by omega)) rfl rfl, G1_of g2 (eT' 3 (by omega)) (eT' 4 (by omega)) rfl rfl, G1_of g3 (eT' 5 (by omega)) (eT' 6 (by omega)) rfl rfl, w, ⟨by rw [e0']; exact n1, n2, n3⟩, FT_of ft eT, G5_of g5 (by rw [e0']) (eT' 11 (by omega)) (eT' 12 (by omega)) (eT' 13 (by omega)) (eT' 14 (by omega)) rfl rfl rfl rfl rfl (Nat.le_refl _) (Nat.le_refl _), G6_of g6 (by rw [e0']) (by rw [e0']) rfl rfl, G7_of g7 (eT' 7 (by omega)) rfl, G8_of g8 (eT' 8 (by omega)) (eT' 9 (by omega)) rfl rfl (Nat.le_refl _), G9_of g9 (eT' 10 (by omega)) rfl (Nat.le_refl _), RU_of ru (by rw [eT' 17 (by omega)]) (eT' 18 (by omega)) rfl rfl rfl, hr, by rw [eT' 17 (by omega)]; exact hu⟩
  exact ⟨⟨td2, TW_of tw0 (fun i a1 a2 => eT i a1 (by omega)), by rw [e' 58 (by decide) (by decide)]; exact h58, by rw [eT T (by omega) (by omega)]; exact hS0, by rw [eT T (by omega) (by omega)]; exact hH0, CA_2 hca eT (fun i hi => e' i (by omega) (by omega))⟩, CK_2 hck eT (fun i hi => e' i (by omega) (by omega)), CL_2 hcl eT (fun i hi => e' i (by omega) (by omega)), ⟨⟨PC_of pl.1 (e' _ (by omega) (by omega)), by rw [e0]; exact pl.2.1, fun m hm => by rw [e' (P + 1) (by omega) (by omega), eT (T + 8) (by omega) (by omega)]; exact pl.2.2.1 m hm, by rw [e' (P + 1) (by omega) (by omega), f136]; exact pl.2.2.2⟩, p2, by rw [e0]; exact h09⟩, by rw [e0]; exact h06, ea, bx, ct, fd, hf⟩
theorem AL_e {σ σ' : ySt} {T L md mp mq S hr nc : Nat} (hT : T = 13 ∨ T = 33) (h : AL σ T L md mp mq S hr nc) (e : ∀ i, 12 < i → i < 83 → σ' i = σ i) (e4 : ∀ c, c < nc → σ' 4 c = σ 4 c ∧ σ' 5 c = σ 5 c ∧ σ' 6 c = σ 6 c) : AL σ' T L md mp mq S hr nc := AL_of h (fun i a1 a2 => e i (by omega) (by omega)) (by rw [e 58 (by decide) (by decide)]; exact ⟨rfl, rfl⟩) (e 77 (by decide) (by decide)) e4
theorem BX_e {σ σ' τ τ' : ySt} {k mp mq : Nat} (hk : k < 3) (h : BX σ τ k mp mq) (e : ∀ i, 83 ≤ i → i < 92 → σ' i = σ i) (f : ∀ i, 146 ≤ i → i ≤ 149 → τ' i = τ i) : BX σ' τ' k mp mq := by
  unfold BX at h ⊢
  rw [e (83 + 3 * k) (by omega) (by omega), f 146 (by decide) (by decide), f 147 (by decide) (by decide), f 148 (by decide) (by decide), f 149 (by decide) (by decide)]
  exact ⟨h.1, fun w => EAr_of (h.2 w) (by rw [e (83 + 3 * k) (by omega) (by omega)]) (by rw [e (83 + 3 * k) (by omega) (by omega)]) (fun n _ => by rw [e (83 + 3 * k + 1) (by omega) (by omega), e (83 + 3 * k + 2) (by omega) (by omega)]; exact ⟨rfl, rfl⟩) (fun _ _ => ⟨rfl, rfl⟩)⟩
theorem EA_e {σ σ' τ τ' : ySt} {mp mq : Nat} (h : EAr σ 9 (τ 138) (τ 139) (τ 92 73) (τ 92 74) mp mq) (e : ∀ i, i = 9 ∨ i = 10 ∨ i = 11 → σ' i = σ i) (f : ∀ i, i = 138 ∨ i = 139 → τ' i = τ i) (f73 : τ' 92 73 = τ 92 73) (f74 : τ' 92 74 = τ 92 74) : EAr σ' 9 (τ' 138) (τ' 139) (τ' 92 73) (τ' 92 74) mp mq := by
  rw [f 138 (by omega), f 139 (by omega), f73, f74]
  exact EAr_of h (by rw [e 9 (by omega)]) (by rw [e 9 (by omega)]) (fun n _ => by rw [e 10 (by omega), e 11 (by omega)]; exact ⟨rfl, rfl⟩) (fun _ _ => ⟨rfl, rfl⟩)
theorem FD_e {σ σ' τ τ' : ySt} {n : Nat} (h : FD σ τ n) (e1 : σ' 1 1 = σ 1 1) (e2 : σ' 2 = σ 2) (f2 : τ' 92 2 = τ 92 2) (f93 : τ' 93 = τ 93) (f94 : τ' 94 = τ 94) : FD σ' τ' n := by
  unfold FD at h ⊢
  rw [e1, e2, f2, f93, f94]
  exact h
theorem A_send {N : Nat} {σ τ : ySt} (hN : 100000 ≤ N) (h : INV σ τ) (a c : Int) : Ok (cE_send a c σ) (fun r => Ok (mo_send N a c τ) (fun r' => BO σ τ r r')) := by
  obtain ⟨T, b, P, Q, mp, mq, md, mw, me, L, S, hr, nc, n, W, iv, al⟩ := h
  obtain ⟨hT, hb, hP, hQ, _, _⟩ := IV_T iv
  obtain ⟨⟨td0, _⟩, _, _, _, _, ea, bx, ct, fd, hf⟩ := id iv
  refine (C_send hN td0 ea a c).mono ?_
  rintro r hr'
  refine hr'.mono ?_
  rintro r' ⟨e1, e2, ⟨τ1, f1, f2⟩, e3⟩
  have fr : ∀ i, i ≠ 92 → i ≠ 139 → (i < 123 ∨ (135 < i ∧ i ≠ 140)) → r'.2 i = τ i := fun i x1 x2 x3 => (f2 i x2).trans (f1.1 i x1 x3)
  have f92 : ∀ k, (k < 47 ∨ (55 < k ∧ (k < 68 ∨ 70 < k))) → r'.2 92 k = τ 92 k := fun k hk => by rw [f2 92 (by decide)]; exact f1.2 k hk
  refine ⟨e1, ⟨T, b, P, Q, mp, mq, md, mw, me, L, S, hr, nc, n, W, sub_all iv (fun i x1 x2 _ _ _ _ _ _ _ _ _ => e2 i (by omega)) (e2 0 (by decide)) (fun i x1 x2 => fr i (by omega) (by omega) (by omega)) (f92 40 (by omega)) (fr 136 (by decide) (by decide) (by omega)) e3 (fun k hk => BX_e hk (bx k hk) (fun i x1 x2 => e2 i (by omega)) (fun i x1 x2 => fr i (by omega) (by omega) (by omega))) (CTr_of ct (fun i x1 x2 => e2 i (by omega)) (fun i x1 x2 => fr i (by omega) (by omega) (by omega)) (f92 81 (by omega)) (f92 82 (by omega))) (FD_e fd (by rw [e2 1 (by decide)]) (e2 2 (by decide)) (f92 2 (by omega)) (fr 93 (by decide) (by decide) (by omega)) (fr 94 (by decide) (by decide) (by omega))) (by rw [e2 1 (by decide), f92 4 (by omega), f92 5 (by omega)]; exact hf), AL_e hT al (fun i x1 x2 => e2 i (by omega)) (fun _ _ => by rw [e2 4 (by decide), e2 5 (by decide), e2 6 (by decide)]; exact ⟨rfl, rfl, rfl⟩)⟩, fun i hi => e2 i (by omega), fun i hi => fr i (by omega) (by omega) (by omega)⟩
theorem A_strike {N : Nat} {σ τ : ySt} (hN : 100000 ≤ N) (h : INV σ τ) : Ok (cE_strike N σ) (fun r => Ok (mo_strike N τ) (fun r' => BO σ τ r r')) := by
  obtain ⟨T, b, P, Q, mp, mq, md, mw, me, L, S, hr, nc, n, W, iv, al⟩ := h
  obtain ⟨hT, hb, hP, hQ, _, _⟩ := IV_T iv
  obtain ⟨⟨td0, _⟩, _, _, _, _, ea, bx, ct, fd, hf⟩ := id iv
  refine (C_strike hN td0 ea).mono ?_
  rintro r hr'
  refine hr'.mono ?_
  rintro r' ⟨e1, e2, _, ⟨f1, f2⟩, e3⟩
  refine ⟨e1, ⟨T, b, P, Q, mp, mq, md, mw, me, L, S, hr, nc, n, W, sub_all iv (fun i x1 x2 _ _ _ _ _ _ _ _ _ => e2 i (by omega) (by omega)) (e2 0 (by decide) (by decide)) (fun i x1 x2 => f1 i (by omega) (by omega) (by omega) (by omega) (by omega)) (f2 40 (by decide) (by decide)) (f1 136 (by decide) (by decide) (by decide) (by decide) (by decide)) e3 (fun k hk => BX_e hk (bx k hk) (fun i x1 x2 => e2 i (by omega) (by omega)) (fun i x1 x2 => f1 i (by omega) (by omega) (by omega) (by omega) (by omega))) (CTr_of ct (fun i x1 x2 => e2 i (by omega) (by omega)) (fun i x1 x2 => f1 i (by omega) (by omega) (by omega) (by omega) (by omega)) (f2 81 (by decide) (by decide)) (f2 82 (by decide) (by decide))) (FD_e fd (by rw [e2 1 (by decide) (by decide)]) (e2 2 (by decide) (by decide)) (f2 2 (by decide) (by decide)) (f1 93 (by decide) (by decide) (by decide) (by decide) (by decide)) (f1 94 (by decide) (by decide) (by decide) (by decide) (by decide))) (by rw [e2 1 (by decide) (by decide), f2 4 (by decide) (by decide), f2 5 (by decide) (by decide)]; exact hf), AL_e hT al (fun i x1 x2 => e2 i (by omega) (by omega)) (fun _ _ => by rw [e2 4 (by decide) (by decide), e2 5 (by decide) (by decide), e2 6 (by decide) (by decide)]; exact ⟨rfl, rfl, rfl⟩)⟩, fun i hi => e2 i (by omega) (by omega), fun i hi => f1 i (by omega) (by omega) (by omega) (by omega) (by omega)⟩
theorem A_image {N : Nat} {σ τ : ySt} (hN : 100000 ≤ N) (h : INV σ τ) (a : Int) : Ok (cE_image a σ) (fun r => Ok (mo_image N a τ) (fun r' => BO σ τ r r')) := by
  obtain ⟨T, b, P, Q, mp, mq, md, mw, me, L, S, hr, nc, n, W, iv, al⟩ := h
  obtain ⟨hT, hb, hP, hQ, _, hmq⟩ := IV_T iv
  obtain ⟨⟨td0, _⟩, _, _, _, _, ea, bx, ct, fd, hf⟩ := id iv
  refine (C_image hN hmq ea bx a).mono ?_
  rintro r hr'
  refine hr'.mono ?_
  rintro r' ⟨e1, e2, f1, e3⟩
  refine ⟨e1, ⟨T, b, P, Q, mp, mq, md, mw, me, L, S, hr, nc, n, W, sub_all iv (fun i x1 x2 _ _ _ _ _ _ _ _ _ => e2 i (by omega)) (e2 0 (by omega)) (fun i x1 x2 => f1 i (by omega)) (by rw [f1 92 (by omega)]) (f1 136 (by omega)) (EA_e ea (fun i hi => e2 i (by omega)) (fun i hi => f1 i (by omega)) (by rw [f1 92 (by omega)]) (by rw [f1 92 (by omega)])) e3 (CTr_of ct (fun i x1 x2 => e2 i (by omega)) (fun i x1 x2 => f1 i (by omega)) (by rw [f1 92 (by omega)]) (by rw [f1 92 (by omega)])) (FD_e fd (by rw [e2 1 (by omega)]) (e2 2 (by omega)) (by rw [f1 92 (by omega)]) (f1 93 (by omega)) (f1 94 (by omega))) (by rw [e2 1 (by omega), f1 92 (by omega)]; exact hf), AL_e hT al (fun i x1 x2 => e2 i (by omega)) (fun _ _ => by rw [e2 4 (by omega), e2 5 (by omega), e2 6 (by omega)]; exact ⟨rfl, rfl, rfl⟩)⟩, fun i hi => e2 i (by omega), fun i hi => f1 i (by omega)⟩
theorem A_back {N : Nat} {σ τ : ySt} (hN : 100000 ≤ N) (h : INV σ τ) (a : Int) : Ok (cE_back a σ) (fun r => Ok (mo_back N a τ) (fun r' => BO σ τ r r')) := by
  obtain ⟨T, b, P, Q, mp, mq, md, mw, me, L, S, hr, nc, n, W, iv, al⟩ := h
  obtain ⟨hT, hb, hP, hQ, _, hmq⟩ := IV_T iv
  obtain ⟨⟨td0, _⟩, _, _, _, _, ea, bx, ct, fd, hf⟩ := id iv
  refine (C_back hN hmq ea bx a).mono ?_
  rintro r hr'
  refine hr'.mono ?_
  rintro r' ⟨e1, e2, _, ⟨f1, f2⟩, e3⟩
  refine ⟨e1, ⟨T, b, P, Q, mp, mq, md, mw, me, L, S, hr, nc, n, W, sub_all iv (fun i x1 x2 _ _ _ _ _ _ _ _ _ => e2 i (by omega) (by omega) (by omega)) (e2 0 (by decide) (by decide) (by decide)) (fun i x1 x2 => f1 i (by omega) (by omega) (by omega)) (f2 40 (by decide) (by decide)) (f1 136 (by decide) (by decide) (by decide)) e3 (fun k hk => BX_e hk (bx k hk) (fun i x1 x2 => e2 i (by omega) (by omega) (by omega)) (fun i x1 x2 => f1 i (by omega) (by omega) (by omega))) (CTr_of ct (fun i x1 x2 => e2 i (by omega) (by omega) (by omega)) (fun i x1 x2 => f1 i (by omega) (by omega) (by omega)) (f2 81 (by decide) (by decide)) (f2 82 (by decide) (by decide))) (FD_e fd (by rw [e2 1 (by decide) (by decide) (by decide)]) (e2 2 (by decide) (by decide) (by decide)) (f2 2 (by decide) (by decide)) (f1 93 (by decide) (by decide) (by decide)) (f1 94 (by decide) (by decide) (by decide))) (by rw [e2 1 (by decide) (by decide) (by decide), f2 4 (by decide) (by decide), f2 5 (by decide) (by decide)]; exact hf), AL_e hT al (fun i x1 x2 => e2 i (by omega) (by omega) (by omega)) (fun _ _ => by rw [e2 4 (by decide) (by decide) (by decide), e2 5 (by decide) (by decide) (by decide), e2 6 (by decide) (by decide) (by decide)]; exact ⟨rfl, rfl, rfl⟩)⟩, fun i hi => e2 i (by omega) (by omega) (by omega), fun i hi => f1 i (by omega) (by omega) (by omega)⟩
theorem A_untell {N : Nat} {σ τ : ySt} (h : INV σ τ) (a : Int) : Ok (cE_untell a σ) (fun r => Ok (mo_untell a τ) (fun r' => BO σ τ r r')) := by
  obtain ⟨T, b, P, Q, mp, mq, md, mw, me, L, S, hr, nc, n, W, iv, al⟩ := h
  obtain ⟨hT, hb, hP, hQ, _, hmq⟩ := IV_T iv
  obtain ⟨⟨td0, _⟩, _, _, _, _, ea, bx, ct, fd, hf⟩ := id iv
  refine (C_untell ct a).mono ?_
  rintro r hr'
  refine hr'.mono ?_
  rintro r' ⟨e1, e2, f1, e3⟩
  refine ⟨e1, ⟨T, b, P, Q, mp, mq, md, mw, me, L, S, hr, nc, n, W, sub_all iv (fun i x1 x2 _ _ _ _ _ _ _ _ _ => e2 i (by omega)) (e2 0 (by omega)) (fun i x1 x2 => f1 i (by omega)) (by rw [f1 92 (by omega)]) (f1 136 (by omega)) (EA_e ea (fun i hi => e2 i (by omega)) (fun i hi => f1 i (by omega)) (by rw [f1 92 (by omega)]) (by rw [f1 92 (by omega)])) (fun k hk => BX_e hk (bx k hk) (fun i x1 x2 => e2 i (by omega)) (fun i x1 x2 => f1 i (by omega))) e3 (FD_e fd (by rw [e2 1 (by omega)]) (e2 2 (by omega)) (by rw [f1 92 (by omega)]) (f1 93 (by omega)) (f1 94 (by omega))) (by rw [e2 1 (by omega), f1 92 (by omega)]; exact hf), AL_e hT al (fun i x1 x2 => e2 i (by omega)) (fun _ _ => by rw [e2 4 (by omega), e2 5 (by omega), e2 6 (by omega)]; exact ⟨rfl, rfl, rfl⟩)⟩, fun i hi => e2 i (by omega), fun i hi => f1 i (by omega)⟩
theorem A_later {N : Nat} {σ τ : ySt} (h : INV σ τ) (a : Int) : Ok (cE_later a σ) (fun r => Ok (mo_later a τ) (fun r' => BO σ τ r r')) := by
  obtain ⟨T, b, P, Q, mp, mq, md, mw, me, L, S, hr, nc, n, W, iv, al⟩ := h
  obtain ⟨hT, hb, hP, hQ, _, hmq⟩ := IV_T iv
  obtain ⟨⟨td0, _⟩, _, _, _, _, ea, bx, ct, fd, hf⟩ := id iv
  refine (C_later ct a).mono ?_
  rintro r hr'
  refine hr'.mono ?_
  rintro r' ⟨e1, ⟨e2, _⟩, ⟨f1, f2⟩, e3⟩
  refine ⟨e1, ⟨T, b, P, Q, mp, mq, md, mw, me, L, S, hr, nc, n, W, sub_all iv (fun i x1 x2 _ _ _ _ _ _ _ _ _ => e2 i (by omega)) (e2 0 (by omega)) (fun i x1 x2 => f1 i (by omega)) (f2 40 (by decide)) (f1 136 (by omega)) (EA_e ea (fun i hi => e2 i (by omega)) (fun i hi => f1 i (by omega)) (f2 73 (by decide)) (f2 74 (by decide))) (fun k hk => BX_e hk (bx k hk) (fun i x1 x2 => e2 i (by omega)) (fun i x1 x2 => f1 i (by omega))) e3 (FD_e fd (by rw [e2 1 (by omega)]) (e2 2 (by omega)) (f2 2 (by decide)) (f1 93 (by omega)) (f1 94 (by omega))) (by rw [e2 1 (by omega), f2 4 (by decide), f2 5 (by decide)]; exact hf), AL_e hT al (fun i x1 x2 => e2 i (by omega)) (fun _ _ => by rw [e2 4 (by omega), e2 5 (by omega), e2 6 (by omega)]; exact ⟨rfl, rfl, rfl⟩)⟩, fun i hi => e2 i (by omega), fun i hi => f1 i (by omega)⟩
theorem A_end {N : Nat} {σ τ : ySt} (h : INV σ τ) (a : Int) : Ok (cE_end a σ) (fun r => Ok (mo_end a τ) (fun r' => BO σ τ r r')) := by
  obtain ⟨T, b, P, Q, mp, mq, md, mw, me, L, S, hr, nc, n, W, iv, al⟩ := h
  obtain ⟨hT, hb, hP, hQ, _, hmq⟩ := IV_T iv
  obtain ⟨⟨td0, _⟩, _, _, _, _, ea, bx, ct, fd, hf⟩ := id iv
  refine (C_end fd a).mono ?_
  rintro r hr'
  refine hr'.mono ?_
  rintro r' ⟨e1, ⟨e2, e4⟩, ⟨f1, f2⟩, n', e3⟩
  refine ⟨e1, ⟨T, b, P, Q, mp, mq, md, mw, me, L, S, hr, nc, n', W, sub_all iv (fun i x1 x2 _ _ _ _ _ _ _ _ _ => e2 i (by omega)) (e2 0 (by omega)) (fun i x1 x2 => f1 i (by omega)) (f2 40 (by decide)) (f1 136 (by omega)) (EA_e ea (fun i hi => e2 i (by omega)) (fun i hi => f1 i (by omega)) (f2 73 (by decide)) (f2 74 (by decide))) (fun k hk => BX_e hk (bx k hk) (fun i x1 x2 => e2 i (by omega)) (fun i x1 x2 => f1 i (by omega))) (CTr_of ct (fun i x1 x2 => e2 i (by omega)) (fun i x1 x2 => f1 i (by omega)) (f2 81 (by decide)) (f2 82 (by decide))) e3 (by rw [e4 6 (by decide), e4 7 (by decide), f2 4 (by decide), f2 5 (by decide)]; exact hf), AL_e hT al (fun i x1 x2 => e2 i (by omega)) (fun _ _ => by rw [e2 4 (by omega), e2 5 (by omega), e2 6 (by omega)]; exact ⟨rfl, rfl, rfl⟩)⟩, fun i hi => e2 i (by omega), fun i hi => f1 i (by omega)⟩
theorem A_feed {N : Nat} {σ τ : ySt} (hN : 100000 ≤ N) (h : INV σ τ) (a b' c d e : Int) : Ok (cE_feed N a b' c d e σ) (fun r => Ok (mo_feed N a b' c d e τ) (fun r' => BO σ τ r r')) := by
  obtain ⟨T, b, P, Q, mp, mq, md, mw, me, L, S, hr, nc, n, W, iv, al⟩ := h
  obtain ⟨hT, hb, hP, hQ, _, hmq⟩ := IV_T iv
  obtain ⟨⟨td0, _⟩, _, _, _, _, ea, bx, ct, fd, hf⟩ := id iv
  refine (C_feed hN fd a b' c d e).mono ?_
  rintro r hr'
  refine hr'.mono ?_
  rintro r' ⟨e1, ⟨e2, e4⟩, ⟨f1, f2⟩, n', e3⟩
  refine ⟨e1, ⟨T, b, P, Q, mp, mq, md, mw, me, L, S, hr, nc, n', W, sub_all iv (fun i x1 x2 _ _ _ _ _ _ _ _ _ => e2 i (by omega) (by omega)) (e2 0 (by omega) (by omega)) (fun i x1 x2 => f1 i (by omega) (by omega)) (f2 40 (by decide)) (f1 136 (by omega) (by omega)) (EA_e ea (fun i hi => e2 i (by omega) (by omega)) (fun i hi => f1 i (by omega) (by omega)) (f2 73 (by decide)) (f2 74 (by decide))) (fun k hk => BX_e hk (bx k hk) (fun i x1 x2 => e2 i (by omega) (by omega)) (fun i x1 x2 => f1 i (by omega) (by omega))) (CTr_of ct (fun i x1 x2 => e2 i (by omega) (by omega)) (fun i x1 x2 => f1 i (by omega) (by omega)) (f2 81 (by decide)) (f2 82 (by decide))) e3 (by rw [e4 6 (by decide), e4 7 (by decide), f2 4 (by decide), f2 5 (by decide)]; exact hf), AL_e hT al (fun i x1 x2 => e2 i (by omega) (by omega)) (fun _ _ => by rw [e2 4 (by omega) (by omega), e2 5 (by omega) (by omega), e2 6 (by omega) (by omega)]; exact ⟨rfl, rfl, rfl⟩)⟩, fun i hi => e2 i (by omega) (by omega), fun i hi => f1 i (by omega) (by omega)⟩
theorem A_plan {N : Nat} {σ τ : ySt} (hN : 100000 ≤ N) (h : INV σ τ) : Ok (cE_plan N σ) (fun r => Ok (mo_plan N τ) (fun r' => BO σ τ r r')) := by
  obtain ⟨T, b, P, Q, mp, mq, md, mw, me, L, S, hr, nc, n, W, iv, al⟩ := h
  obtain ⟨hT, hb, hP, hQ, _, hmq⟩ := IV_T iv
  obtain ⟨⟨td0, tw0, h58, hS0, hH0, hca⟩, hck, hcl, ⟨pl, p2, h09⟩, h06, ea, bx, ct, fd, hf⟩ := id iv
  refine (C_plan hN td0 fd pl p2 h09 hf).mono ?_
  rintro r hr'
  refine hr'.mono ?_
  rintro r' ⟨e1, e2, e0, f1, f2, ⟨n', fd'⟩, hf', P', Q', p2', pl', h09'⟩
  have e' : ∀ i, i ≠ 0 → i ≠ 1 → i ≠ 55 → i ≠ 57 → r.2 i = σ i := fun i x1 x2 x3 x4 => e2 i x1 x2 (by omega)
  have eT : ∀ i, T ≤ i → i ≤ T + 19 → r.2 i = σ i := fun i a1 a2 => e' i (by omega) (by omega) (by omega) (by omega)
  have td1 : TD σ r'.2 T b mp mq md mw me L W := TD_bank td0 (f2 40 (by omega) (by decide)) (fun i j a1 a2 _ _ => by rw [f1 i (by omega) (by omega) (by omega) (by omega)])
  have td2 : TD r.2 r'.2 T b mp mq md mw me L W := by
    obtain ⟨hT, h05, h40, hb, g1, g2, g3, w, ⟨n1, n2, n3⟩, ft, g5, g6, g7, g8, g9, ru, hr, hu⟩ := td1
    have eT' : ∀ k, k ≤ 19 → r.2 (T + k) = σ (T + k) := fun k hk => eT (T + k) (by omega) (by omega)
    have e0' : r.2 T = σ T := eT' 0 (by omega)
    exact ⟨hT, by rw [e0 5 (by decide) (by decide)]; exact h05, h40, hb, G1_of g1 (eT' 1 (by omega)) (eT' 2 (by omega)) rfl rfl, G1_of g2 (eT' 3 (by omega)) (eT' 4 (by omega)) rfl rfl, G1_of g3 (eT' 5 (by omega)) (eT' 6 (by omega)) rfl rfl, w, ⟨by rw [e0']; exact n1, n2, n3⟩, FT_of ft eT, G5_of g5 (by rw [e0']) (eT' 11 (by omega)) (eT' 12 (by omega)) (eT' 13 (by omega)) (eT' 14 (by omega)) rfl rfl rfl rfl rfl (Nat.le_refl _) (Nat.le_refl _), G6_of g6 (by rw [e0']) (by rw [e0']) rfl rfl, G7_of g7 (eT' 7 (by omega)) rfl, G8_of g8 (eT' 8 (by omega)) (eT' 9 (by omega)) rfl rfl (Nat.le_refl _), G9_of g9 (eT' 10 (by omega)) rfl (Nat.le_refl _), RU_of ru (by rw [eT' 17 (by omega)]) (eT' 18 (by omega)) rfl rfl rfl, hr, by rw [eT' 17 (by omega)]; exact hu⟩
  have e58 : ∀ i, 57 < i → r.2 i = σ i := fun i hi => e' i (by omega) (by omega) (by omega) (by omega)
  have iv' : IV r.2 r'.2 T b P' Q' mp mq md mw me L S hr nc n' W := ⟨⟨td2, TW_of tw0 (fun i a1 a2 => eT i a1 (by omega)), by rw [e58 58 (by decide)]; exact h58, by rw [eT T (by omega) (by omega)]; exact hS0, by rw [eT T (by omega) (by omega)]; exact hH0, CA_2 hca eT (fun i hi => e58 i (by omega))⟩, CK_2 hck eT (fun i hi => e58 i (by omega)), CL_2 hcl eT (fun i hi => e58 i (by omega)), ⟨pl', p2', h09'⟩, by rw [e0 6 (by decide) (by decide)]; exact h06, EA_e ea (fun i hi => e' i (by omega) (by omega) (by omega) (by omega)) (fun i hi => f1 i (by omega) (by omega) (by omega) (by omega)) (f2 73 (by omega) (by decide)) (f2 74 (by omega) (by decide)), fun k hk => BX_e hk (bx k hk) (fun i x1 x2 => e58 i (by omega)) (fun i x1 x2 => f1 i (by omega) (by omega) (by omega) (by omega)), CTr_of ct (fun i x1 x2 => e' i (by omega) (by omega) (by omega) (by omega)) (fun i x1 x2 => f1 i (by omega) (by omega) (by omega) (by omega)) (f2 81 (by omega) (by decide)) (f2 82 (by omega) (by decide)), fd', hf'⟩
  exact ⟨e1, ⟨T, b, P', Q', mp, mq, md, mw, me, L, S, hr, nc, n', W, iv', AL_of al eT (by rw [e58 58 (by decide)]; exact ⟨rfl, rfl⟩) (e58 77 (by decide)) (fun _ _ => by rw [e' 4 (by omega) (by omega) (by omega) (by omega), e' 5 (by omega) (by omega) (by omega) (by omega), e' 6 (by omega) (by omega) (by omega) (by omega)]; exact ⟨rfl, rfl, rfl⟩)⟩, fun i hi => e58 i (by omega), fun i hi => f1 i (by omega) (by omega) (by omega) (by omega)⟩
theorem A_town {N : Nat} {σ τ : ySt} (hN : 100000 ≤ N) (h : INV σ τ) : Ok (cE_town N σ) (fun r => Ok (mo_town N τ) (fun r' => BO σ τ r r')) := by
  obtain ⟨T, b, P, Q, mp, mq, md, mw, me, L, S, hr, nc, n, W, iv, al⟩ := h
  obtain ⟨hT, hb, hP, hQ, _, hmq⟩ := IV_T iv
  refine (C_town hN iv).mono ?_
  rintro r hr'
  refine hr'.mono ?_
  rintro r' ⟨e1, e2, e3, e4⟩
  refine ⟨e1, ?_, e2, e3⟩
  rcases e4 with ⟨z, T', b', mp', mq', md', mw', me', L', S', hr'', W', iv'⟩ | ⟨iv', U, hTU, e5⟩
  · exact ⟨T', b', P, Q, mp', mq', md', mw', me', L', S', hr'', 0, 0, W', iv', fun w => absurd z w⟩
  · refine ⟨T, b, P, Q, mp, mq, md, mw, me, L, S, hr, nc, 0, W, iv', AL_of al (fun i a1 a2 => e5 i (by omega) (by omega) (by rcases hTU with ⟨u1, u2⟩ | ⟨u1, u2⟩ <;> omega)) ?_ ?_ (fun _ _ => ?_)⟩
    · rw [e5 58 (by omega) (by omega) (by rcases hTU with ⟨u1, u2⟩ | ⟨u1, u2⟩ <;> omega)]
      exact ⟨rfl, rfl⟩
    · exact e5 77 (by omega) (by omega) (by rcases hTU with ⟨u1, u2⟩ | ⟨u1, u2⟩ <;> omega)
    · rw [e5 4 (by omega) (by omega) (by rcases hTU with ⟨u1, u2⟩ | ⟨u1, u2⟩ <;> omega), e5 5 (by omega) (by omega) (by rcases hTU with ⟨u1, u2⟩ | ⟨u1, u2⟩ <;> omega), e5 6 (by omega) (by omega) (by rcases hTU with ⟨u1, u2⟩ | ⟨u1, u2⟩ <;> omega)]
      exact ⟨rfl, rfl, rfl⟩
