/-! what is held between two calls: what keeps it -/
theorem CA_2 {σ σ' : ySt} {T mp mq me md L S hr : Nat} (h : CA σ T mp mq me md L S hr) (eT : ∀ i, T ≤ i → i ≤ T + 19 → σ' i = σ i) (e : ∀ i, i = 65 ∨ i = 66 ∨ i = 68 ∨ i = 69 ∨ i = 70 → σ' i = σ i) : CA σ' T mp mq me md L S hr := by
  intro a ha w
  rw [bZ_of eT]
  rw [e 65 (by omega)] at w
  obtain ⟨x1, x2⟩ := h a ha w
  rw [e 66 (by omega)]
  refine ⟨x1, fun y => ?_⟩
  obtain ⟨pth, y1, y2⟩ := x2 y
  refine ⟨pth, (PT_of eT).mpr y1, ?_⟩
  rw [e (68 + a) (by omega)]
  exact y2
theorem CK_2 {σ σ' : ySt} {T mp mq me md L S hr : Nat} (h : CK σ T mp mq me md L S hr) (eT : ∀ i, T ≤ i → i ≤ T + 19 → σ' i = σ i) (e : ∀ i, i = 71 ∨ i = 72 ∨ i = 73 → σ' i = σ i) : CK σ' T mp mq me md L S hr := by
  intro a ha w
  have eb : bK σ' T mp mq me md L S hr a = bK σ T mp mq me md L S hr a := funext fun s => bK_of eT
  rw [e 71 (by omega)] at w
  rw [eb, e 72 (by omega), e 73 (by omega)]
  exact h a ha w
theorem CL_2 {σ σ' : ySt} {T mp mq me md L S hr : Nat} (h : CL σ T mp mq me md L S hr) (eT : ∀ i, T ≤ i → i ≤ T + 19 → σ' i = σ i) (e : ∀ i, i = 74 ∨ i = 75 ∨ i = 76 → σ' i = σ i) : CL σ' T mp mq me md L S hr := by
  intro k hk M m1 m2 w
  have eb : (fun x y => dZ σ' T mp mq me md L S hr k x y M) = fun x y => dZ σ T mp mq me md L S hr k x y M := funext fun x => funext fun y => dZ_of eT
  rw [e 74 (by omega)] at w
  rw [eb, e 75 (by omega), e 76 (by omega)]
  exact h k hk M m1 m2 w
def FrR (τ' τ : ySt) : Prop := (∀ i, 93 ≤ i → (i < 123 ∨ (135 < i ∧ i ≠ 140)) → τ' i = τ i) ∧ ∀ k, (k < 47 ∨ (55 < k ∧ (k < 68 ∨ 70 < k))) → τ' 92 k = τ 92 k
theorem FrR_Q {τ' τ : ySt} (h : FrQ τ' τ) : FrR τ' τ := ⟨fun i a c => h.1 i (by omega) c, h.2⟩
theorem FrR_rfl (τ : ySt) : FrR τ τ := ⟨fun _ _ _ => rfl, fun _ _ => rfl⟩
theorem FrR_hi {τ' τ : ySt} (h : ∀ i, 92 ≤ i → τ' i = τ i) : FrR τ' τ := ⟨fun i a _ => h i (by omega), fun k _ => by rw [h 92 (by decide)]⟩
theorem IV_q {σ σ' τ τ' : ySt} {T b P Q mp mq md mw me L S hr nc n : Nat} {W : Nat → Int} (h : IV σ τ T b P Q mp mq md mw me L S hr nc n W) (f : FrR τ' τ) (e : ∀ i, i < 58 → i ≠ P → σ' i = σ i) (e58 : σ' 58 0 = σ 58 0) (e83 : ∀ i, 83 ≤ i → i < 92 → σ' i = σ i) (hca : CA σ' T mp mq me md L S hr) (hck : CK σ' T mp mq me md L S hr) (hcl : CL σ' T mp mq me md L S hr) : IV σ' τ' T b P Q mp mq md mw me L S hr nc n W := by
  obtain ⟨hT, hb, hP, hQ, _, _⟩ := IV_T h
  obtain ⟨⟨td0, tw0, h58, hS0, hH0, _⟩, _, _, ⟨pl, p2, h09⟩, h06, ea, bx, ct, fd, hf⟩ := h
  have lo : ∀ i, i < 53 → σ' i = σ i := fun i hi => e i (by omega) (by omega)
  have td1 : TD σ τ' T b mp mq md mw me L W := TD_bank td0 (f.2 40 (by omega)) (fun i j a1 a2 _ _ => by rw [f.1 i (by omega) (by omega)])
  refine ⟨⟨TD_C td1 lo, TW_of tw0 (fun i a1 a2 => lo i (by omega)), e58.trans h58, by rw [lo T (by omega)]; exact hS0, by rw [lo T (by omega)]; exact hH0, hca⟩, hck, hcl, ⟨⟨PC_of pl.1 (e (P + 1) (by omega) (by omega)), by rw [lo 0 (by decide)]; exact pl.2.1, fun m hm => by rw [e (P + 1) (by omega) (by omega), lo (T + 8) (by omega)]; exact pl.2.2.1 m hm, by rw [e (P + 1) (by omega) (by omega), f.1 136 (by decide) (by omega)]; exact pl.2.2.2⟩, p2, by rw [lo 0 (by decide)]; exact h09⟩, by rw [lo 0 (by decide)]; exact h06, ?_, fun k hk => ?_, ?_, ⟨by rw [lo 1 (by decide)]; exact fd.1, by rw [f.2 2 (by omega)]; exact fd.2.1, fd.2.2.1, by rw [lo 2 (by decide)]; exact fd.2.2.2.1, by rw [f.1 94 (by decide) (by omega)]; exact fd.2.2.2.2.1, fun j hj => by rw [f.1 93 (by decide) (by omega), lo 2 (by decide)]; exact fd.2.2.2.2.2 j hj⟩, by rw [lo 1 (by decide), f.2 4 (by omega), f.2 5 (by omega)]; exact hf⟩
  · rw [f.2 73 (by omega), f.2 74 (by omega), f.1 138 (by decide) (by omega), f.1 139 (by decide) (by omega)]
    exact EAr_of ea (by rw [lo 9 (by decide)]) (by rw [lo 9 (by decide)]) (fun n _ => by rw [lo 10 (by decide), lo 11 (by decide)]; exact ⟨rfl, rfl⟩) (fun _ _ => ⟨rfl, rfl⟩)
  · have b1 := bx k hk
    unfold BX at b1 ⊢
    rw [e83 (83 + 3 * k) (by omega) (by omega), f.1 146 (by decide) (by omega), f.1 147 (by decide) (by omega), f.1 148 (by decide) (by omega), f.1 149 (by decide) (by omega)]
    exact ⟨b1.1, fun w => EAr_of (b1.2 w) (by rw [e83 (83 + 3 * k) (by omega) (by omega)]) (by rw [e83 (83 + 3 * k) (by omega) (by omega)]) (fun n _ => by rw [e83 (83 + 3 * k + 1) (by omega) (by omega), e83 (83 + 3 * k + 2) (by omega) (by omega)]; exact ⟨rfl, rfl⟩) (fun _ _ => ⟨rfl, rfl⟩)⟩
  · exact CTr_of ct (fun i a1 a2 => lo i (by omega)) (fun i a1 a2 => f.1 i (by omega) (by omega)) (f.2 81 (by omega)) (f.2 82 (by omega))
def INV (σ τ : ySt) : Prop := ∃ (T b P Q mp mq md mw me L S hr nc n : Nat) (W : Nat → Int), IV σ τ T b P Q mp mq md mw me L S hr nc n W ∧ AL σ T L md mp mq S hr nc
/-- a question that leaves the town, the plans, the tape and all in earnest alone -/
theorem IV_all {σ σ' τ τ' : ySt} {T b P Q mp mq md mw me L S hr nc n : Nat} {W : Nat → Int} (h : IV σ τ T b P Q mp mq md mw me L S hr nc n W) (hal : AL σ T L md mp mq S hr nc) (f : FrR τ' τ) (e : ∀ i, i < 92 → i ≠ P → (i < 60 ∨ 64 < i) → (i < 78 ∨ 82 < i) → σ' i = σ i) : IV σ' τ' T b P Q mp mq md mw me L S hr nc n W ∧ AL σ' T L md mp mq S hr nc := by
  obtain ⟨hT, hb, hP, hQ, _, _⟩ := IV_T h
  obtain ⟨⟨_, _, _, _, _, hca⟩, hck, hcl, _⟩ := id h
  have eT : ∀ i, T ≤ i → i ≤ T + 19 → σ' i = σ i := fun i a1 a2 => e i (by omega) (by omega) (by omega) (by omega)
  refine ⟨IV_q h f (fun i a1 a2 => e i (by omega) a2 (by omega) (by omega)) (by rw [e 58 (by decide) (by omega) (by omega) (by omega)]) (fun i a1 a2 => e i a2 (by omega) (by omega) (by omega)) (CA_2 hca eT (fun i hi => e i (by omega) (by omega) (by omega) (by omega))) (CK_2 hck eT (fun i hi => e i (by omega) (by omega) (by omega) (by omega))) (CL_2 hcl eT (fun i hi => e i (by omega) (by omega) (by omega) (by omega))), AL_of hal eT (by rw [e 58 (by decide) (by omega) (by omega) (by omega)]; exact ⟨rfl, rfl⟩) (e 77 (by decide) (by omega) (by omega) (by omega)) (fun c _ => by rw [e 4 (by decide) (by omega) (by omega) (by omega), e 5 (by decide) (by omega) (by omega) (by omega), e 6 (by decide) (by omega) (by omega) (by omega)]; exact ⟨rfl, rfl, rfl⟩)⟩
theorem INV_l {σ σ' τ : ySt} (h : INV σ τ) (e : ∀ i, i < 92 → σ' i = σ i) : INV σ' τ := by
  obtain ⟨T, b, P, Q, mp, mq, md, mw, me, L, S, hr, nc, n, W, iv, al⟩ := h
  exact ⟨T, b, P, Q, mp, mq, md, mw, me, L, S, hr, nc, n, W, IV_all iv al (FrR_rfl τ) (fun i a1 _ _ _ => e i a1)⟩
theorem INV_r {σ τ τ' : ySt} (h : INV σ τ) (e : ∀ i, 92 ≤ i → τ' i = τ i) : INV σ τ' := by
  obtain ⟨T, b, P, Q, mp, mq, md, mw, me, L, S, hr, nc, n, W, iv, al⟩ := h
  exact ⟨T, b, P, Q, mp, mq, md, mw, me, L, S, hr, nc, n, W, IV_all iv al (FrR_hi e) (fun _ _ _ _ _ => rfl)⟩
/-- what a call of both comes to -/
def BO (σ τ : ySt) (r r' : Int × ySt) : Prop := r'.1 = r.1 ∧ INV r.2 r'.2 ∧ (∀ i, 92 ≤ i → r.2 i = σ i) ∧ ∀ i, i < 92 → r'.2 i = τ i
theorem FrQ_lo {τ' τ : ySt} (h : FrQ τ' τ) : ∀ i, i < 92 → τ' i = τ i := fun i hi => h.1 i (by omega) (by omega)
theorem A_minutes {N : Nat} {σ τ : ySt} (hN : 100000 ≤ N) (h : INV σ τ) (a c : Int) : Ok (cE_minutes a c σ) (fun r => Ok (mo_minutes N a c τ) (fun r' => BO σ τ (r, σ) r')) := by
  obtain ⟨T, b, P, Q, mp, mq, md, mw, me, L, S, hr, nc, n, W, iv, al⟩ := h
  refine (C_minutes hN iv.1.1 a c).mono ?_
  rintro r hr'
  refine hr'.mono ?_
  rintro r' ⟨e1, e2⟩
  exact ⟨e1, ⟨T, b, P, Q, mp, mq, md, mw, me, L, S, hr, nc, n, W, IV_all iv al (FrR_Q e2) (fun _ _ _ _ _ => rfl)⟩, fun _ _ => rfl, FrQ_lo e2⟩
theorem A_right {N : Nat} {σ τ : ySt} (hN : 100000 ≤ N) (h : INV σ τ) (a m c : Int) : Ok (cE_right a m c σ) (fun r => Ok (mo_right N a m c τ) (fun r' => BO σ τ (r, σ) r')) := by
  obtain ⟨T, b, P, Q, mp, mq, md, mw, me, L, S, hr, nc, n, W, iv, al⟩ := h
  refine (C_right hN iv.1.1 a m c).mono ?_
  rintro r hr'
  refine hr'.mono ?_
  rintro r' ⟨e1, e2⟩
  exact ⟨e1, ⟨T, b, P, Q, mp, mq, md, mw, me, L, S, hr, nc, n, W, IV_all iv al (FrR_Q e2) (fun _ _ _ _ _ => rfl)⟩, fun _ _ => rfl, FrQ_lo e2⟩
theorem A_mend {N : Nat} {σ τ : ySt} (hN : 100000 ≤ N) (h : INV σ τ) : Ok (cE_mend N σ) (fun r => Ok (mo_mend N τ) (fun r' => BO σ τ (r, σ) r')) := by
  obtain ⟨T, b, P, Q, mp, mq, md, mw, me, L, S, hr, nc, n, W, iv, al⟩ := h
  refine (C_mend hN iv.1.1 iv.1.2.1 iv.2.2.2.2.2.1).mono ?_
  rintro r hr'
  refine hr'.mono ?_
  rintro r' ⟨e1, e2, _⟩
  exact ⟨e1, ⟨T, b, P, Q, mp, mq, md, mw, me, L, S, hr, nc, n, W, IV_all iv al (FrR_Q e2) (fun _ _ _ _ _ => rfl)⟩, fun _ _ => rfl, FrQ_lo e2⟩
theorem A_where {σ τ : ySt} (h : INV σ τ) (a : Int) : ∃ v, cE_where a σ = some v ∧ mo_where a τ = some v := by
  obtain ⟨T, b, P, Q, mp, mq, md, mw, me, L, S, hr, nc, n, W, iv, al⟩ := h
  exact C_where iv.1.1 iv.2.2.2.2.2.1 a
theorem A_fault {σ τ : ySt} (h : INV σ τ) (a : Int) : ∃ v, cE_fault a σ = some v ∧ mo_fault a τ = some v := by
  obtain ⟨T, b, P, Q, mp, mq, md, mw, me, L, S, hr, nc, n, W, iv, al⟩ := h
  obtain ⟨e1, e2⟩ := iv.2.2.2.2.2.2.2.2.2
  exact C_fault e1 e2 a
theorem A_about {σ τ : ySt} (h : INV σ τ) (a : Int) : ∃ v, cE_about a σ = some v ∧ mo_about a τ = some v := by
  obtain ⟨T, b, P, Q, mp, mq, md, mw, me, L, S, hr, nc, n, W, iv, al⟩ := h
  obtain ⟨_, _, _, _, _, ea, _, ct, fd, _⟩ := id iv
  exact C_about (k := 0) (od := 0) iv.1.1 ct (fd.1.trans fd.2.1.symm) ea.1 ea.2.2.2.1 a
theorem A_judge {N : Nat} {σ τ : ySt} (hN : 100000 ≤ N) (h : INV σ τ) (a : Int) : Ok (cE_judge N a σ) (fun r => Ok (mo_judge N a τ) (fun r' => BO σ τ r r')) := by
  obtain ⟨T, b, P, Q, mp, mq, md, mw, me, L, S, hr, nc, n, W, iv, al⟩ := h
  obtain ⟨hT, hb, hP, _⟩ := IV_T iv
  refine (C_judge hN iv.1.1 iv.1.2.1 iv.2.2.2.1.1 a).mono ?_
  rintro r hr'
  refine hr'.mono ?_
  rintro r' ⟨e1, e2, _, e4⟩
  exact ⟨e1, ⟨T, b, P, Q, mp, mq, md, mw, me, L, S, hr, nc, n, W, IV_all iv al (FrR_Q e2) (fun i _ x _ _ => e4 i x)⟩, fun i hi => e4 i (by omega), FrQ_lo e2⟩
theorem A_value {N : Nat} {σ τ : ySt} (hN : 100000 ≤ N) (h : INV σ τ) (a : Int) : Ok (cE_value N a σ) (fun r => Ok (mo_value N a τ) (fun r' => BO σ τ r r')) := by
  obtain ⟨T, b, P, Q, mp, mq, md, mw, me, L, S, hr, nc, n, W, iv, al⟩ := h
  obtain ⟨hT, hb, hP, _⟩ := IV_T iv
  refine (C_value hN iv.1 iv.2.2.2.1.1 a).mono ?_
  rintro r hr'
  refine hr'.mono ?_
  rintro r' ⟨e1, e2, e4⟩
  exact ⟨e1, ⟨T, b, P, Q, mp, mq, md, mw, me, L, S, hr, nc, n, W, IV_all iv al (FrR_Q e2) (fun i _ x _ y => e4 i x y)⟩, fun i hi => e4 i (by omega) (by omega), FrQ_lo e2⟩
theorem A_often {N : Nat} {σ τ : ySt} (hN : 100000 ≤ N) (h : INV σ τ) (a c : Int) : Ok (cE_often N a c σ) (fun r => Ok (mo_often N a c τ) (fun r' => BO σ τ r r')) := by
  obtain ⟨T, b, P, Q, mp, mq, md, mw, me, L, S, hr, nc, n, W, iv, al⟩ := h
  refine (C_often hN iv.1 a c).mono ?_
  rintro r hr'
  refine hr'.mono ?_
  rintro r' ⟨e1, e2, e4⟩
  exact ⟨e1, ⟨T, b, P, Q, mp, mq, md, mw, me, L, S, hr, nc, n, W, IV_all iv al (FrR_Q e2) (fun i _ _ x y => e4 i (by omega))⟩, fun i hi => e4 i (by omega), FrQ_lo e2⟩
theorem A_spare {N : Nat} {σ τ : ySt} (hN : 100000 ≤ N) (h : INV σ τ) (a c : Int) : Ok (cE_spare N a c σ) (fun r => Ok (mo_spare N a c τ) (fun r' => BO σ τ r r')) := by
  obtain ⟨T, b, P, Q, mp, mq, md, mw, me, L, S, hr, nc, n, W, iv, al⟩ := h
  refine (C_spare hN iv.1 a c).mono ?_
  rintro r hr'
  refine hr'.mono ?_
  rintro r' ⟨e1, e2, e4⟩
  exact ⟨e1, ⟨T, b, P, Q, mp, mq, md, mw, me, L, S, hr, nc, n, W, IV_all iv al (FrR_Q e2) (fun i _ _ x y => e4 i (by omega))⟩, fun i hi => e4 i (by omega), FrQ_lo e2⟩
/-- a question that changes what is kept of the best -/
theorem IV_best {σ σ' τ τ' : ySt} {T b P Q mp mq md mw me L S hr nc n : Nat} {W : Nat → Int} (h : IV σ τ T b P Q mp mq md mw me L S hr nc n W) (hal : AL σ T L md mp mq S hr nc) (f : FrR τ' τ) (e : ∀ i, i < 92 → (i < 60 ∨ 82 < i ∨ i = 77) → σ' i = σ i) (hca : CA σ' T mp mq me md L S hr) (hck : CK σ' T mp mq me md L S hr) (hcl : CL σ' T mp mq me md L S hr) : IV σ' τ' T b P Q mp mq md mw me L S hr nc n W ∧ AL σ' T L md mp mq S hr nc := by
  obtain ⟨hT, hb, hP, hQ, _, _⟩ := IV_T h
  have eT : ∀ i, T ≤ i → i ≤ T + 19 → σ' i = σ i := fun i a1 a2 => e i (by omega) (by omega)
  exact ⟨IV_q h f (fun i a1 a2 => e i (by omega) (by omega)) (by rw [e 58 (by decide) (by omega)]) (fun i a1 a2 => e i a2 (by omega)) hca hck hcl, AL_of hal eT (by rw [e 58 (by decide) (by omega)]; exact ⟨rfl, rfl⟩) (e 77 (by decide) (by omega)) (fun c _ => by rw [e 4 (by decide) (by omega), e 5 (by decide) (by omega), e 6 (by decide) (by omega)]; exact ⟨rfl, rfl, rfl⟩)⟩
theorem A_best {N : Nat} {σ τ : ySt} (hN : 100000 ≤ N) (h : INV σ τ) (a : Int) : Ok (cE_best N a σ) (fun r => Ok (mo_best N a τ) (fun r' => BO σ τ r r')) := by
  obtain ⟨T, b, P, Q, mp, mq, md, mw, me, L, S, hr, nc, n, W, iv, al⟩ := h
  obtain ⟨hT, _⟩ := IV_T iv
  refine (C_best hN iv.1 a).mono ?_
  rintro r hr'
  refine hr'.mono ?_
  rintro r' ⟨e1, e2, e4, e5⟩
  exact ⟨e1, ⟨T, b, P, Q, mp, mq, md, mw, me, L, S, hr, nc, n, W, IV_best iv al (FrR_Q e2) (fun i _ x => e4 i (by omega)) e5 (CK_2 iv.2.1 (fun i x y => e4 i (by omega)) (fun i hi => e4 i (by omega))) (CL_2 iv.2.2.1 (fun i x y => e4 i (by omega)) (fun i hi => e4 i (by omega)))⟩, fun i hi => e4 i (by omega), FrQ_lo e2⟩
theorem A_bestAt {N : Nat} {σ τ : ySt} (hN : 100000 ≤ N) (h : INV σ τ) (a s c : Int) : Ok (cE_bestAt N a s c σ) (fun r => Ok (mo_bestAt N a s c τ) (fun r' => BO σ τ r r')) := by
  obtain ⟨T, b, P, Q, mp, mq, md, mw, me, L, S, hr, nc, n, W, iv, al⟩ := h
  obtain ⟨hT, _⟩ := IV_T iv
  refine (C_bestAt hN iv.1 a s c).mono ?_
  rintro r hr'
  refine hr'.mono ?_
  rintro r' ⟨e1, e2, e4, e5⟩
  exact ⟨e1, ⟨T, b, P, Q, mp, mq, md, mw, me, L, S, hr, nc, n, W, IV_best iv al (FrR_Q e2) (fun i _ x => e4 i (by omega)) e5 (CK_2 iv.2.1 (fun i x y => e4 i (by omega)) (fun i hi => e4 i (by omega))) (CL_2 iv.2.2.1 (fun i x y => e4 i (by omega)) (fun i hi => e4 i (by omega)))⟩, fun i hi => e4 i (by omega), FrQ_lo e2⟩
theorem A_breaks {N : Nat} {σ τ : ySt} (hN : 100000 ≤ N) (h : INV σ τ) (a c : Int) : Ok (cE_breaks N a c σ) (fun r => Ok (mo_breaks N a c τ) (fun r' => BO σ τ r r')) := by
  obtain ⟨T, b, P, Q, mp, mq, md, mw, me, L, S, hr, nc, n, W, iv, al⟩ := h
  obtain ⟨hT, _⟩ := IV_T iv
  refine (C_breaks hN iv.1 iv.2.1 a c).mono ?_
  rintro r hr'
  refine hr'.mono ?_
  rintro r' ⟨e1, e2, e4, e5⟩
  exact ⟨e1, ⟨T, b, P, Q, mp, mq, md, mw, me, L, S, hr, nc, n, W, IV_best iv al (FrR_Q e2) (fun i _ x => e4 i (by omega)) (CA_2 iv.1.2.2.2.2.2 (fun i x y => e4 i (by omega)) (fun i hi => e4 i (by omega))) e5 (CL_2 iv.2.2.1 (fun i x y => e4 i (by omega)) (fun i hi => e4 i (by omega)))⟩, fun i hi => e4 i (by omega), FrQ_lo e2⟩
theorem A_built {N : Nat} {σ τ : ySt} (hN : 100000 ≤ N) (h : INV σ τ) (m a c : Int) : Ok (cE_built N m a c σ) (fun r => Ok (mo_built N m a c τ) (fun r' => BO σ τ r r')) := by
  obtain ⟨T, b, P, Q, mp, mq, md, mw, me, L, S, hr, nc, n, W, iv, al⟩ := h
  obtain ⟨hT, _⟩ := IV_T iv
  refine (C_built hN iv.1 iv.2.2.1 m a c).mono ?_
  rintro r hr'
  refine hr'.mono ?_
  rintro r' ⟨e1, e2, e4, e5, e6⟩
  exact ⟨e1, ⟨T, b, P, Q, mp, mq, md, mw, me, L, S, hr, nc, n, W, IV_best iv al (FrR_Q e2) (fun i _ x => e4 i (by omega)) e5 (CK_2 iv.2.1 (fun i x y => e4 i (by omega)) (fun i hi => e4 i (by omega))) e6⟩, fun i hi => e4 i (by omega), FrQ_lo e2⟩
/-- a question of states -/
theorem IV_A {σ σ' τ τ' : ySt} {T b P Q mp mq md mw me L S hr nc n : Nat} {W : Nat → Int} (h : IV σ τ T b P Q mp mq md mw me L S hr nc n W) (f : FrR τ' τ) (e : FrA σ' σ) : IV σ' τ' T b P Q mp mq md mw me L S hr nc n W := by
  obtain ⟨hT, hb, hP, hQ, _, _⟩ := IV_T h
  obtain ⟨⟨_, _, _, _, _, hca⟩, hck, hcl, _⟩ := id h
  have e1 : ∀ i, i ≠ 58 → (i < 60 ∨ 63 < i) → i ≠ 77 → (i < 78 ∨ 82 < i) → σ' i = σ i := fun i x1 x2 x3 x4 => e.1 i x1 (by omega) (by omega) (by omega) (by omega) x3 x4
  have eT : ∀ i, T ≤ i → i ≤ T + 19 → σ' i = σ i := fun i a1 a2 => e1 i (by omega) (by omega) (by omega) (by omega)
  exact IV_q h f (fun i a1 a2 => e1 i (by omega) (by omega) (by omega) (by omega)) (e.2 0 (by decide) (by decide)) (fun i a1 a2 => e1 i (by omega) (by omega) (by omega) (by omega)) (CA_2 hca eT (fun i hi => e1 i (by omega) (by omega) (by omega) (by omega))) (CK_2 hck eT (fun i hi => e1 i (by omega) (by omega) (by omega) (by omega))) (CL_2 hcl eT (fun i hi => e1 i (by omega) (by omega) (by omega) (by omega)))
theorem FrA_hi {σ' σ : ySt} (e : FrA σ' σ) : ∀ i, 92 ≤ i → σ' i = σ i := fun i hi => e.1 i (by omega) (by omega) (by omega) (by omega) (by omega) (by omega) (by omega)
theorem A_states {N : Nat} {σ τ : ySt} (hN : 100000 ≤ N) (h : INV σ τ) (a k : Int) : Ok (cE_states N a k σ) (fun r => Ok (mo_states N a k τ) (fun r' => BO σ τ r r')) := by
  obtain ⟨T, b, P, Q, mp, mq, md, mw, me, L, S, hr, nc, n, W, iv, al⟩ := h
  refine (C_states hN iv.1 iv.2.2.2.2.2.2.2.1 al a k).mono ?_
  rintro r hr'
  refine hr'.mono ?_
  rintro r' ⟨e1, e2, _, e4, e5⟩
  exact ⟨e1, ⟨T, b, P, Q, mp, mq, md, mw, me, L, S, hr, nc, n, W, IV_A iv (FrR_Q e2) e4, e5⟩, FrA_hi e4, FrQ_lo e2⟩
theorem A_sure {N : Nat} {σ τ : ySt} (hN : 100000 ≤ N) (h : INV σ τ) (p q a k : Int) : Ok (cE_sure N p q a k σ) (fun r => Ok (mo_sure N p q a k τ) (fun r' => BO σ τ r r')) := by
  obtain ⟨T, b, P, Q, mp, mq, md, mw, me, L, S, hr, nc, n, W, iv, al⟩ := h
  refine (C_sure hN iv.1 iv.2.2.2.2.2.2.2.1 al p q a k).mono ?_
  rintro r hr'
  refine hr'.mono ?_
  rintro r' ⟨e1, e2, _, e4, e5⟩
  exact ⟨e1, ⟨T, b, P, Q, mp, mq, md, mw, me, L, S, hr, nc, n, W, IV_A iv (FrR_Q e2) e4, e5⟩, FrA_hi e4, FrQ_lo e2⟩
theorem A_meet {N : Nat} {σ τ : ySt} (hN : 100000 ≤ N) (h : INV σ τ) (p q c : Int) : Ok (cE_meet N p q c σ) (fun r => Ok (mo_meet N p q c τ) (fun r' => BO σ τ r r')) := by
  obtain ⟨T, b, P, Q, mp, mq, md, mw, me, L, S, hr, nc, n, W, iv, al⟩ := h
  refine (C_meet hN iv.1 iv.2.2.2.2.2.2.2.1 al p q c).mono ?_
  rintro r hr'
  refine hr'.mono ?_
  rintro r' ⟨e1, e2, _, e4, e5⟩
  exact ⟨e1, ⟨T, b, P, Q, mp, mq, md, mw, me, L, S, hr, nc, n, W, IV_A iv (FrR_Q e2) e4, e5⟩, FrA_hi e4, FrQ_lo e2⟩
