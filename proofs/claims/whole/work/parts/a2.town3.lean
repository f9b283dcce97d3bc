/-! town(): what is held before is held behind it -/
theorem IV_T {σ τ : ySt} {T b P Q mp mq md mw me L S hr nc n : Nat} {W : Nat → Int} (h : IV σ τ T b P Q mp mq md mw me L S hr nc n W) : (T = 13 ∨ T = 33) ∧ b < 2 ∧ (P = 54 ∨ P = 56) ∧ (Q = 54 ∨ Q = 56) ∧ mp ≤ 6 ∧ mq ≤ 5 := by
  obtain ⟨⟨td, tw, _⟩, _, _, ⟨pl, p2, _⟩, _⟩ := h
  refine ⟨td.1, td.2.2.2.1, pl.1.1, ?_, tw.2.2.1, tw.2.2.2.2.1⟩
  rcases p2 with ⟨_, e⟩ | ⟨_, e⟩ <;> omega
theorem town_held {T U b c P Q nc n mp mq md mw me L f1 f2 f3 : Nat} {W : Nat → Int} {σ τ σ1 τ1 σ2 σ3 τ3 : ySt} {mp0 mq0 md0 mw0 me0 L0 S0 hr0 : Nat}
    (h : IV σ τ T b P Q mp0 mq0 md0 mw0 me0 L0 S0 hr0 nc n W) (hTU : T2 T U) (hc : c < 2)
    (s1 : ∀ i, i ≠ 1 → i ≠ 53 → (i < U ∨ U + 18 < i) → σ1 i = σ i) (lt : LT σ1 τ1 U c mp mq md mw me L f1 f2 f3) (fg : FLG τ1 c f1 f2 f3) (good : σ1 1 6 = 0 ∧ σ1 1 7 = -1 ∧ τ1 92 4 = 0 ∧ τ1 92 5 = -1) (by94 : ∀ j, -128 ≤ τ1 94 j ∧ τ1 94 j < 128)
    (r1 : ∀ i, i ≠ 92 → i ≠ 94 → (i < 95 ∨ 122 < i) → τ1 i = τ i) (r2 : ∀ k, (k < 2 ∨ 10 < k) → k ≠ 41 → k ≠ 42 → k ≠ 43 → k ≠ 44 → τ1 92 k = τ 92 k) (r3 : τ1 92 2 = 0)
    (s2 : ∀ i, i ≠ U + 15 → i ≠ U + 16 → i ≠ U + 19 → σ2 i = σ1 i) (ft : FT σ2 U mp md L (σ1 (U + 15))) (tw : TW σ2 U mp mq me)
    (z1 : ∀ i, i ≠ 0 → i ≠ 3 → i ≠ 9 → i ≠ 10 → i ≠ 11 → i ≠ 58 → i ≠ 65 → i ≠ 71 → i ≠ 74 → i ≠ 83 → i ≠ 86 → i ≠ 89 → i ≠ P + 1 → σ3 i = yset σ2 1 1 0 i) (z2 : ∀ k, k ≠ 5 → k ≠ 6 → σ3 0 k = σ2 0 k) (z3 : σ3 0 5 = (U : Int) + 1) (z4 : σ3 0 6 = (T : Int) + 1) (z5 : ∀ k, k ≠ 5 → σ3 3 k = σ2 3 k) (z6 : σ3 3 5 = 0) (z7 : σ3 9 2 = 0) (z8 : σ3 9 3 = 0) (z9 : ∀ n, n < 5 → σ3 10 n = σ2 (U + 8) n ∧ σ3 11 n = σ2 (U + 8) n) (z10 : σ3 58 0 = (U : Int) + 1) (z11 : ∀ j, j < 3 → σ3 65 j = 0 ∧ σ3 71 j = 0 ∧ σ3 74 j = 0) (z12 : ∀ j, j < 3 → σ3 (83 + 3 * j) 4 = 0) (z13 : ∀ s n, s ≤ 8 → n < mq → σ3 (P + 1) (5 * s + n) = σ2 (U + 8) n)
    (y1 : ∀ i, i ≠ 92 → i ≠ 136 → i ≠ 138 → i ≠ 139 → i ≠ 146 → τ3 i = τ1 i) (y2 : ∀ k, k ≠ 40 → k ≠ 73 → k ≠ 74 → k ≠ 81 → τ3 92 k = τ1 92 k) (y3 : τ3 92 40 = c) (y4 : τ3 92 73 = 0) (y5 : τ3 92 74 = 0) (y6 : τ3 92 81 = 0) (y7 : ∀ k, k < 3 → τ3 146 k = -1) (y8 : ∀ n, n < 5 → τ3 138 n = (if n < mq then τ1 111 (5 * c + n) else 0) ∧ τ3 139 n = -1) (y9 : ∀ n s, n < 5 → s < 8 → τ3 136 (8 * n + s) = if n < mq then τ1 111 (5 * c + n) else 0) :
    ∃ S hr : Nat, IV σ3 τ3 U c P Q mp mq md mw me L S hr 0 0 (σ1 (U + 15)) := by
  obtain ⟨hT, hb, hP, hQ, _, _⟩ := IV_T h
  obtain ⟨⟨td0, tw0, h58, hS0, hH0, hca⟩, hck, hcl, ⟨pl, p2, h09⟩, h06, ea, bx, ct, fd, hf⟩ := id h
  have hU : U = 13 ∨ U = 33 := by rcases hTU with ⟨_, e⟩ | ⟨_, e⟩ <;> omega
  obtain ⟨tb, l53, l41, lfl, lf1, lf0, lfp, l17⟩ := id lt
  obtain ⟨g1, g2, g3, g4, g5, g6, g7, g8, g9, ru⟩ := id tb
  obtain ⟨wr, n1, n2, n3, d0, d1⟩ := id g4
  -- the class's cells of the new town
  have ez : ∀ i, U ≤ i → i ≤ U + 19 → σ3 i = σ2 i := fun i a1 a2 => by rw [z1 i (by omega) (by omega) (by omega) (by omega) (by omega) (by omega) (by omega) (by omega) (by omega) (by omega) (by omega) (by omega) (by omega), yset_off i (by omega)]
  have eU : ∀ k, k ≤ 14 → σ3 (U + k) = σ1 (U + k) := fun k hk => (ez _ (by omega) (by omega)).trans (s2 _ (by omega) (by omega) (by omega))
  have eU17 : σ3 (U + 17) = σ1 (U + 17) := (ez _ (by omega) (by omega)).trans (s2 _ (by omega) (by omega) (by omega))
  have eU18 : σ3 (U + 18) = σ1 (U + 18) := (ez _ (by omega) (by omega)).trans (s2 _ (by omega) (by omega) (by omega))
  have e0 : σ3 U = σ1 U := eU 0 (by omega)
  have eb : ∀ i, 95 ≤ i → i ≤ 122 → τ3 i = τ1 i := fun i a1 a2 => y1 i (by omega) (by omega) (by omega) (by omega) (by omega)
  have dg : ∀ u, u < 6 → σ1 (U + 15) (6 * u + u) = 0 := fun u hu => by
    rw [show 6 * u + u = 7 * u by omega]
    exact d0 u hu
  have tw3 : TW σ3 U mp mq me := TW_of tw (fun i a1 a2 => ez i a1 (by omega))
  have ft3 : FT σ3 U mp md L (σ1 (U + 15)) := FT_of ft ez
  have td3 : TD σ3 τ3 U c mp mq md mw me L (σ1 (U + 15)) := by
    refine ⟨hU, z3, y3, hc, G1_of g1 (eU 1 (by omega)) (eU 2 (by omega)) (eb 107 (by decide) (by decide)) (by rw [eb 95 (by decide) (by decide)]), G1_of g2 (eU 3 (by omega)) (eU 4 (by omega)) (eb 108 (by decide) (by decide)) (by rw [eb 97 (by decide) (by decide)]), G1_of g3 (eU 5 (by omega)) (eU 6 (by omega)) (eb 109 (by decide) (by decide)) (by rw [eb 98 (by decide) (by decide)]), ⟨fun u v hu hv => ?_, dg, fun u v hu hv huv => d1 u v hu hv huv⟩, ⟨by rw [e0]; exact n1, by rw [eb 96 (by decide) (by decide)]; exact n3, n2⟩, ft3, G5_of g5 (by rw [e0]) (eU 11 (by omega)) (eU 12 (by omega)) (eU 13 (by omega)) (eU 14 (by omega)) (by rw [eb 99 (by decide) (by decide)]) (eb 114 (by decide) (by decide)) (eb 115 (by decide) (by decide)) (eb 116 (by decide) (by decide)) (eb 117 (by decide) (by decide)) (Nat.le_refl _) (Nat.le_refl _), G6_of g6 (by rw [e0]) (by rw [e0]) (by rw [eb 100 (by decide) (by decide)]) (by rw [eb 101 (by decide) (by decide)]), G7_of g7 (eU 7 (by omega)) (eb 106 (by decide) (by decide)), G8_of g8 (eU 8 (by omega)) (eU 9 (by omega)) (eb 111 (by decide) (by decide)) (eb 112 (by decide) (by decide)) (Nat.le_refl _), G9_of g9 (eU 10 (by omega)) (eb 113 (by decide) (by decide)) (Nat.le_refl _), RU_of ru (by rw [eU17]) eU18 (by rw [eb 118 (by decide) (by decide)]) (eb 119 (by decide) (by decide)) (eb 120 (by decide) (by decide)), ?_, by rw [eU17, eb 102 (by decide) (by decide)]; exact l17⟩
    · unfold bs
      rw [eb 110 (by decide) (by decide)]
      by_cases e : u = v
      · rw [if_pos e, e]
        exact (dg v hv).symm
      · rw [if_neg e, ← wr u v hu hv e]
    · rw [eb 105 (by decide) (by decide), fg.2.2]
      by_cases e : f3 = 0
      · rw [e, (lf0 e).1]
        rfl
      · have hf1 : f3 = 1 := by omega
        have := lfp hf1
        rw [hf1, if_neg (by omega)]
        rfl
  obtain ⟨S, hS⟩ : ∃ S : Nat, σ3 U 17 = S := ⟨(σ3 U 17).toNat, by rw [e0]; have := g6.2; omega⟩
  obtain ⟨hr, hH⟩ : ∃ hr : Nat, σ3 U 16 = hr := ⟨(σ3 U 16).toNat, by rw [e0]; have := g6.1; omega⟩
  have h8 : ∀ m, m < mq → τ1 111 (5 * c + m) = σ2 (U + 8) m ∧ 0 ≤ σ2 (U + 8) m ∧ σ2 (U + 8) m < mp := fun m hm => by
    rw [s2 (U + 8) (by omega) (by omega) (by omega)]
    exact ⟨(g8 m hm).1.1.symm, (g8 m hm).1.2⟩
  have hmq := g2.2.1
  refine ⟨S, hr, ⟨td3, tw3, z10, hS, hH, fun a ha w => absurd (z11 a ha).1 w⟩, fun a ha w => absurd (z11 a ha).2.1 w, fun m hm M m1 m2 w => by rw [(z11 m hm).2.2] at w; omega, ⟨⟨⟨hP, fun s m hs hm => ?_⟩, ?_, fun m hm => ?_, fun s m s1' s2' hm => ?_⟩, p2, ?_⟩, ?_, ⟨z7.trans y4.symm, by omega, by omega, z8.trans y5.symm, by omega, by omega, fun m hm => ?_⟩, fun k hk => ⟨⟨fun w => absurd (z12 k hk) w, fun w => by rw [y7 k hk] at w; omega⟩, fun w => by rw [y7 k hk] at w; omega⟩, ⟨z6, y6, by omega, ?_, fun m hm => absurd hm (Nat.not_lt_zero m)⟩, ⟨?_, ?_, by omega, ?_, ?_, fun j hj => absurd hj (Nat.not_lt_zero j)⟩, ?_, ?_⟩
  · unfold pv
    rw [z13 s m hs hm]
    have := h8 m hm
    omega
  · rw [z2 8 (by decide) (by decide), s2 0 (by omega) (by omega) (by omega), s1 0 (by omega) (by omega) (by omega)]
    exact pl.2.1
  · have := z13 0 m (by omega) hm
    rw [show 5 * 0 + m = m by omega] at this
    rw [this, ez (U + 8) (by omega) (by omega)]
  · rw [y9 m (s - 1) (by omega) (by omega), if_pos hm, z13 s m s2' hm, (h8 m hm).1]
  · rw [z2 9 (by decide) (by decide), s2 0 (by omega) (by omega) (by omega), s1 0 (by omega) (by omega) (by omega)]
    exact h09
  · rw [z4]
    rcases hTU with ⟨e1, e2⟩ | ⟨e1, e2⟩ <;> subst e1 <;> subst e2 <;> rfl
  · have := h8 m hm
    obtain ⟨x1, x2⟩ := y8 m (by omega)
    obtain ⟨x3, x4⟩ := z9 m (by omega)
    rw [if_pos hm, this.1] at x1
    rw [x1, x2, x3, x4, if_pos (by decide)]
    exact ⟨rfl, this.2, Or.inl (by decide), rfl⟩
  · have := ct.2.2.2.1
    rw [z5 6 (by decide), s2 3 (by omega) (by omega) (by omega), s1 3 (by omega) (by omega) (by omega), y2 82 (by decide) (by decide) (by decide) (by decide), r2 82 (by omega) (by decide) (by decide) (by decide) (by decide)]
    exact this
  · rw [z1 1 (by decide) (by decide) (by decide) (by decide) (by decide) (by decide) (by decide) (by decide) (by decide) (by decide) (by decide) (by decide) (by omega), yset_at]
    rfl
  · rw [y2 2 (by decide) (by decide) (by decide) (by decide)]
    exact r3
  · rw [z1 2 (by decide) (by decide) (by decide) (by decide) (by decide) (by decide) (by decide) (by decide) (by decide) (by decide) (by decide) (by decide) (by omega), yset_off 2 (by decide), s2 2 (by omega) (by omega) (by omega), s1 2 (by omega) (by omega) (by omega)]
    exact fd.2.2.2.1
  · rw [y1 94 (by decide) (by decide) (by decide) (by decide) (by decide)]
    exact by94
  · rw [z1 1 (by decide) (by decide) (by decide) (by decide) (by decide) (by decide) (by decide) (by decide) (by decide) (by decide) (by decide) (by decide) (by omega), yset_ne (by omega), s2 1 (by omega) (by omega) (by omega), y2 4 (by decide) (by decide) (by decide) (by decide), good.1, good.2.2.1]
  · rw [z1 1 (by decide) (by decide) (by decide) (by decide) (by decide) (by decide) (by decide) (by decide) (by decide) (by decide) (by decide) (by decide) (by omega), yset_ne (by omega), s2 1 (by omega) (by omega) (by omega), y2 5 (by decide) (by decide) (by decide) (by decide), good.2.1, good.2.2.2]
theorem town_stays {T U b c P Q nc n : Nat} {W : Nat → Int} {σ τ σ1 τ1 : ySt} {mp mq md mw me L S hr : Nat} {t : Nat → Int} {m : Nat}
    (h : IV σ τ T b P Q mp mq md mw me L S hr nc n W) (hTU : T2 T U) (hbc : b + c = 1)
    (s1 : ∀ i, i ≠ 1 → i ≠ 53 → (i < U ∨ U + 18 < i) → σ1 i = σ i) (rb : RB σ1 τ1 t m)
    (r1 : ∀ i, i ≠ 92 → i ≠ 94 → (i < 95 ∨ 122 < i) → τ1 i = τ i) (r4 : ∀ i j, 95 ≤ i → i ≤ 120 → (j < st i * c ∨ st i * c + st i ≤ j) → τ1 i j = τ i j) (r2 : ∀ k, (k < 2 ∨ 10 < k) → k ≠ 41 → k ≠ 42 → k ≠ 43 → k ≠ 44 → τ1 92 k = τ 92 k) (r3 : τ1 92 2 = 0) :
    IV (yset σ1 1 1 0) τ1 T b P Q mp mq md mw me L S hr nc 0 W ∧ (∀ i, i ≠ 1 → i ≠ 53 → (i < U ∨ U + 18 < i) → yset σ1 1 1 0 i = σ i) := by
  obtain ⟨hT, hb, hP, hQ, _, _⟩ := IV_T h
  obtain ⟨⟨td0, tw0, h58, hS0, hH0, hca⟩, hck, hcl, ⟨pl, p2, h09⟩, h06, ea, bx, ct, fd, hf⟩ := id h
  have hU : U = 13 ∨ U = 33 := by rcases hTU with ⟨_, e⟩ | ⟨_, e⟩ <;> omega
  have e : ∀ i, i ≠ 1 → i ≠ 53 → (i < U ∨ U + 18 < i) → yset σ1 1 1 0 i = σ i := fun i a1 a2 a3 => by rw [yset_off i a1]; exact s1 i a1 a2 a3
  have eT : ∀ i, T ≤ i → i ≤ T + 19 → yset σ1 1 1 0 i = σ i := fun i a1 a2 => e i (by omega) (by omega) (by rcases hTU with ⟨e1, e2⟩ | ⟨e1, e2⟩ <;> omega)
  have e58 : ∀ i, 54 ≤ i → yset σ1 1 1 0 i = σ i := fun i a1 => e i (by omega) (by omega) (by omega)
  have e12 : ∀ i, i ≠ 1 → i < 13 → yset σ1 1 1 0 i = σ i := fun i a1 a2 => e i a1 (by omega) (by omega)
  have td1 : TD σ τ1 T b mp mq md mw me L W := TD_bank td0 (r2 40 (by omega) (by decide) (by decide) (by decide) (by decide)) (fun i j a1 a2 a3 a4 => r4 i j a1 a2 (by
    rcases Nat.lt_or_ge b 1 with hb0 | hb1
    · have b0 : b = 0 := by omega
      have c1 : c = 1 := by omega
      rw [b0] at a4
      rw [c1]
      omega
    · have b1 : b = 1 := by omega
      have c0 : c = 0 := by omega
      rw [b1] at a3
      rw [c0]
      omega))
  have td2 : TD (yset σ1 1 1 0) τ1 T b mp mq md mw me L W := by
    obtain ⟨hT, h05, h40, hb, g1, g2, g3, w, ⟨n1, n2, n3⟩, ft, g5, g6, g7, g8, g9, ru, hr, hu⟩ := td1
    have eT' : ∀ k, k ≤ 19 → yset σ1 1 1 0 (T + k) = σ (T + k) := fun k hk => eT (T + k) (by omega) (by omega)
    have e0 : yset σ1 1 1 0 T = σ T := eT' 0 (by omega)
    exact ⟨hT, by rw [e12 0 (by decide) (by decide)]; exact h05, h40, hb, G1_of g1 (eT' 1 (by omega)) (eT' 2 (by omega)) rfl rfl, G1_of g2 (eT' 3 (by omega)) (eT' 4 (by omega)) rfl rfl, G1_of g3 (eT' 5 (by omega)) (eT' 6 (by omega)) rfl rfl, w, ⟨by rw [e0]; exact n1, n2, n3⟩, FT_of ft eT, G5_of g5 (by rw [e0]) (eT' 11 (by omega)) (eT' 12 (by omega)) (eT' 13 (by omega)) (eT' 14 (by omega)) rfl rfl rfl rfl rfl (Nat.le_refl _) (Nat.le_refl _), G6_of g6 (by rw [e0]) (by rw [e0]) rfl rfl, G7_of g7 (eT' 7 (by omega)) rfl, G8_of g8 (eT' 8 (by omega)) (eT' 9 (by omega)) rfl rfl (Nat.le_refl _), G9_of g9 (eT' 10 (by omega)) rfl (Nat.le_refl _), RU_of ru (by rw [eT' 17 (by omega)]) (eT' 18 (by omega)) rfl rfl rfl, hr, by rw [eT' 17 (by omega)]; exact hu⟩
  obtain ⟨⟨p, tm⟩, q1, q2, q3⟩ := rb
  refine ⟨⟨⟨td2, TW_of tw0 (fun i a1 a2 => eT i a1 (by omega)), by rw [e58 58 (by decide)]; exact h58, by rw [eT T (by omega) (by omega)]; exact hS0, by rw [eT T (by omega) (by omega)]; exact hH0, ?_⟩, ?_, ?_, ⟨⟨PC_of pl.1 (e58 _ (by omega)), by rw [e12 0 (by decide) (by decide)]; exact pl.2.1, fun m hm => by rw [e58 (P + 1) (by omega), eT (T + 8) (by omega) (by omega)]; exact pl.2.2.1 m hm, by rw [e58 (P + 1) (by omega), r1 136 (by decide) (by decide) (by omega)]; exact pl.2.2.2⟩, p2, by rw [e12 0 (by decide) (by decide)]; exact h09⟩, by rw [e12 0 (by decide) (by decide)]; exact h06, ?_, fun k hk => ?_, ?_, ⟨yset_at, r3, by omega, by rw [e12 2 (by decide) (by decide)]; exact fd.2.2.2.1, tm.2.2.2.1, fun j hj => absurd hj (Nat.not_lt_zero j)⟩, by rw [yset_ne (by omega)]; exact q1, by rw [yset_ne (by omega)]; exact q2⟩, e⟩
  · intro a ha w
    rw [bZ_of eT]
    rw [e58 65 (by decide)] at w
    obtain ⟨x1, x2⟩ := hca a ha w
    rw [e58 66 (by decide)]
    refine ⟨x1, fun y => ?_⟩
    obtain ⟨pth, y1, y2⟩ := x2 y
    refine ⟨pth, (PT_of eT).mpr y1, ?_⟩
    rw [e58 (68 + a) (by omega)]
    exact y2
  · intro a ha w
    have eb : bK (yset σ1 1 1 0) T mp mq me md L S hr a = bK σ T mp mq me md L S hr a := funext fun s => bK_of eT
    rw [e58 71 (by decide)] at w
    rw [eb, e58 72 (by decide), e58 73 (by decide)]
    exact hck a ha w
  · intro k hk M m1 m2 w
    have eb : (fun x y => dZ (yset σ1 1 1 0) T mp mq me md L S hr k x y M) = fun x y => dZ σ T mp mq me md L S hr k x y M := funext fun x => funext fun y => dZ_of eT
    rw [e58 74 (by decide)] at w
    rw [eb, e58 75 (by decide), e58 76 (by decide)]
    exact hcl k hk M m1 m2 w
  · rw [r2 73 (by omega) (by decide) (by decide) (by decide) (by decide), r2 74 (by omega) (by decide) (by decide) (by decide) (by decide), r1 138 (by decide) (by decide) (by omega), r1 139 (by decide) (by decide) (by omega)]
    exact EAr_of ea (by rw [e12 9 (by decide) (by decide)]) (by rw [e12 9 (by decide) (by decide)]) (fun n _ => by rw [e12 10 (by decide) (by decide), e12 11 (by decide) (by decide)]; exact ⟨rfl, rfl⟩) (fun _ _ => ⟨rfl, rfl⟩)
  · have b1 := bx k hk
    unfold BX at b1 ⊢
    rw [e58 (83 + 3 * k) (by omega), r1 146 (by decide) (by decide) (by omega), r1 147 (by decide) (by decide) (by omega), r1 148 (by decide) (by decide) (by omega), r1 149 (by decide) (by decide) (by omega)]
    refine ⟨b1.1, fun w => EAr_of (b1.2 w) (by rw [e58 (83 + 3 * k) (by omega)]) (by rw [e58 (83 + 3 * k) (by omega)]) (fun n _ => by rw [e58 (83 + 3 * k + 1) (by omega), e58 (83 + 3 * k + 2) (by omega)]; exact ⟨rfl, rfl⟩) (fun _ _ => ⟨rfl, rfl⟩)⟩
  · exact CTr_of ct (fun i a1 a2 => e12 i (by omega) (by omega)) (fun i a1 a2 => r1 i (by omega) (by omega) (by omega)) (r2 81 (by omega) (by decide) (by decide) (by decide) (by decide)) (r2 82 (by omega) (by decide) (by decide) (by decide) (by decide))
theorem C_town {N T b P Q mp mq md mw me L S hr nc n : Nat} {W : Nat → Int} {σ τ : ySt} (hN : 100000 ≤ N) (h : IV σ τ T b P Q mp mq md mw me L S hr nc n W) :
    Ok (cE_town N σ) (fun r => Ok (mo_town N τ) (fun r' => r'.1 = r.1 ∧ (∀ i, 92 ≤ i → r.2 i = σ i) ∧ (∀ i, i < 92 → r'.2 i = τ i) ∧ ((r.2 58 13 = 0 ∧ ∃ (T' b' mp' mq' md' mw' me' L' S' hr' : Nat) (W' : Nat → Int), IV r.2 r'.2 T' b' P Q mp' mq' md' mw' me' L' S' hr' 0 0 W') ∨ (IV r.2 r'.2 T b P Q mp mq md mw me L S hr nc 0 W ∧ ∃ U, T2 T U ∧ ∀ i, i ≠ 1 → i ≠ 53 → (i < U ∨ U + 18 < i) → r.2 i = σ i)))) := by
  obtain ⟨hT, hb, hP, hQ, _, _⟩ := IV_T h
  obtain ⟨⟨td0, tw0, h58, hS0, hH0, hca⟩, hck, hcl, ⟨pl, p2, h09⟩, h06, ea, bx, ct, fd, hf⟩ := id h
  obtain ⟨U, hTU⟩ : ∃ U, T2 T U := by
    rcases hT with e | e
    · exact ⟨33, Or.inl ⟨e, rfl⟩⟩
    · exact ⟨13, Or.inr ⟨e, rfl⟩⟩
  have hU : U = 13 ∨ U = 33 := by rcases hTU with ⟨_, e⟩ | ⟨_, e⟩ <;> omega
  have h06' : σ 0 6 = (U : Int) + 1 := by
    rw [h06]
    rcases hTU with ⟨e1, e2⟩ | ⟨e1, e2⟩ <;> subst e1 <;> subst e2 <;> rfl
  obtain ⟨c, hbc⟩ : ∃ c, b + c = 1 := ⟨1 - b, by omega⟩
  have hc : c < 2 := by omega
  obtain ⟨f1, f2, f3, f4, f5, f6⟩ := id fd
  obtain ⟨z, σ1, τ1, x1, x2, x3, x4, x5, x6, x7, x8, x9, x10⟩ := read_both (T := U) (b := c) hN hU hc f3 f1 f2 f4 f5 f6 (by rw [td0.2.2.1]; omega)
  rw [cE_town_eq, chkT_pos hU h06', x1, x2]
  rcases x10 with ⟨rfl, q, mp', mq', md', mw', me', L', g1, g2, g3, rt, k0, lt, fg⟩ | ⟨rfl, rb⟩
  · unfold rlE
    rw [if_neg (by decide), chkT_pos hU x4, Ok_bndR, Ok_bndO]
    refine (finish_read hN hU lt).mono ?_
    rintro σ2 ⟨s2, ft, tw⟩
    rw [Ok_chk, Ok_some]
    refine ⟨Or.inr rfl, ?_⟩
    rw [Ok_bnd, if_pos (show ¬ (1 : Int) = 0 by decide)]
    have e0 : yset σ2 1 1 0 0 = σ 0 := by rw [yset_off 0 (by decide), s2 0 (by omega) (by omega) (by omega), x3 0 (by omega) (by omega) (by omega)]
    have hmq' := lt.1.2.1.2.1
    refine (twC_ok (U := U) (T := T) (P := P) (mq := mq') (σ := yset σ2 1 1 0) hN hTU hP (by rw [e0]; exact td0.2.1) (by rw [e0]; exact h06') (by rw [e0]; exact pl.2.1) (by rw [yset_off _ (by omega), s2 (U + 3) (by omega) (by omega) (by omega)]; exact lt.1.2.1.1.1) hmq').mono ?_
    rintro ⟨r, σ3⟩ ⟨z0, z1, z2, z3, z4, z5, z6, z7, z8, z9, z10, z14, z11, z12, z13⟩
    refine (town_ref hN rt.2.2.2.1 x9 hc lt.1.2.1.2.2 hmq').mono ?_
    rintro ⟨r', τ3⟩ ⟨y0, y1, y2, y3, y4, y5, y6, y7, y8, y9⟩
    dsimp only at z0 z1 z2 z3 z4 z5 z6 z7 z8 z9 z10 z11 z12 z13 z14 y0 y1 y2 y3 y4 y5 y6 y7 y8 y9 ⊢
    rw [yset_off 0 (by decide)] at z2
    rw [yset_off 3 (by decide)] at z5
    rw [yset_off (U + 8) (by omega)] at z9 z13
    obtain ⟨S', hr', iv⟩ := town_held h hTU hc x3 lt fg ⟨rt.2.2.1.1, rt.2.2.1.2, rt.2.2.2.1, rt.2.2.2.2⟩ rt.2.1.2.2.2.1 x5 x7 x8 s2 ft tw z1 z2 z3 z4 z5 z6 z7 z8 z9 z10 z11 z12 z13 y1 y2 y3 y4 y5 y6 y7 y8 y9
    refine ⟨by rw [y0, z0], fun i hi => ?_, fun i hi => ?_, Or.inl ⟨z14, U, c, mp', mq', md', mw', me', L', S', hr', _, iv⟩⟩
    · rw [z1 i (by omega) (by omega) (by omega) (by omega) (by omega) (by omega) (by omega) (by omega) (by omega) (by omega) (by omega) (by omega) (by omega), yset_off i (by omega), s2 i (by omega) (by omega) (by omega), x3 i (by omega) (by omega) (by omega)]
    · rw [y1 i (by omega) (by omega) (by omega) (by omega) (by omega), x5 i (by omega) (by omega) (by omega)]
  · unfold rlE
    rw [if_pos rfl, Ok_bndR, Ok_chk, Ok_some]
    refine ⟨Or.inl rfl, ?_⟩
    rw [Ok_bnd, if_neg (fun w => w rfl), Ok_some]
    unfold twE
    rw [mo_isGood_eq, bndO_s, if_neg rb.2.2.2, if_neg (fun w => w rfl), Ok_some]
    obtain ⟨iv, e⟩ := town_stays h hTU hbc x3 rb x5 x6 x7 x8
    exact ⟨rfl, fun i hi => e i (by omega) (by omega) (by omega), fun i hi => x5 i (by omega) (by omega) (by omega), Or.inr ⟨iv, U, hTU, e⟩⟩
