/-! from the bytes fed to the end of the town's text -/
theorem mo_takeTape_ok {N n : Nat} {τ : ySt} (hN : 100000 ≤ N) (hn : n ≤ 1600) (e2 : τ 92 2 = n) (hby : ∀ j, -128 ≤ τ 94 j ∧ τ 94 j < 128) :
    Ok (mo_takeTape N τ) (fun τ' => (∀ i, i ≠ 92 → i ≠ 94 → τ' i = τ i) ∧ (∀ j, j < n → τ' 94 j = b32i2b (τ 93 j)) ∧ (∀ j, -128 ≤ τ' 94 j ∧ τ' 94 j < 128) ∧ τ' 92 2 = 0 ∧ τ' 92 3 = n ∧ τ' 92 4 = 0 ∧ τ' 92 5 = -1 ∧ τ' 92 7 = 0 ∧ (∀ k, k ≠ 2 → k ≠ 3 → k ≠ 4 → k ≠ 5 → k ≠ 7 → τ' 92 k = τ 92 k)) := by
  unfold mo_takeTape
  rw [Ok_bnd, Ok_bnd, Ok_bnd]
  have y2 : yset (yset τ 92 4 0) 92 5 (-1) 92 2 = n := by rw [yset_ne (by omega), yset_ne (by omega)]; exact e2
  rw [y2]
  generalize hρ : yset (yset (yset τ 92 4 0) 92 5 (-1)) 92 3 (n : Int) = ρ
  have r3 : ρ 92 3 = n := by rw [← hρ, yset_at]
  have r4 : ρ 92 4 = 0 := by rw [← hρ, yset_ne (by omega), yset_ne (by omega), yset_at]
  have r5 : ρ 92 5 = -1 := by rw [← hρ, yset_ne (by omega), yset_at]
  have ro : ∀ i, i ≠ 92 → ρ i = τ i := fun i hi => by rw [← hρ, yset_off i hi, yset_off i hi, yset_off i hi]
  have r92 : ∀ k, k ≠ 3 → k ≠ 4 → k ≠ 5 → ρ 92 k = τ 92 k := fun k h1 h2 h3 => by rw [← hρ, yset_ne (by omega), yset_ne (by omega), yset_ne (by omega)]
  refine Ok_loopS1 (fun x σ' => ∃ k : Nat, x = k ∧ k ≤ n ∧ (∀ i, i ≠ 94 → σ' i = ρ i) ∧ (∀ j, j < k → σ' 94 j = b32i2b (τ 93 j)) ∧ (∀ j, -128 ≤ σ' 94 j ∧ σ' 94 j < 128)) (fun x _ => (n - x.toNat : Nat)) ?_ N _ _ ⟨0, rfl, by omega, fun _ _ => rfl, fun j hj => absurd hj (Nat.not_lt_zero j), by rw [ro 94 (by decide)]; exact hby⟩ (by omega)
  rintro k x σ' ⟨m, rfl, hm, i1, i2, i3⟩ rec
  have s3 : σ' 92 3 = n := by rw [i1 92 (by decide)]; exact r3
  rw [s3, Ok_ite]
  refine ⟨fun q => ?_, fun q => ?_⟩
  · rw [Ok_bnd, Ok_bnd, Ok_some]
    refine ⟨fun i h1 h2 => by rw [yset_off i h1, yset_off i h1, i1 i h2]; exact ro i h1, fun j hj => by rw [yset_off 94 (by decide), yset_off 94 (by decide)]; exact i2 j (by omega), by rw [yset_off 94 (by decide), yset_off 94 (by decide)]; exact i3, by rw [yset_ne (by omega), yset_at], by rw [yset_ne (by omega), yset_ne (by omega)]; exact s3, by rw [yset_ne (by omega), yset_ne (by omega), i1 92 (by decide)]; exact r4, by rw [yset_ne (by omega), yset_ne (by omega), i1 92 (by decide)]; exact r5, yset_at, fun k h2 h3 h4 h5 h7 => by rw [yset_ne (by omega), yset_ne (by omega), i1 92 (by decide)]; exact r92 k h3 h4 h5⟩
  · rw [Ok_chkA, Ok_chkA, Ok_bnd, Ok_chkI, Int.toNat_natCast]
    refine ⟨by omega, by omega, by omega, rec _ _ ⟨m + 1, by omega, by omega, fun i h1 => by rw [yset_off i h1]; exact i1 i h1, fun j hj => ?_, fun j => ?_⟩ (by omega)⟩
    · by_cases c : j = m
      · rw [c, yset_at, i1 93 (by decide), ro 93 (by decide)]
      · rw [yset_ne (by omega)]
        exact i2 j (by omega)
    · by_cases c : j = m
      · rw [c, yset_at]
        exact b32i2b_rg _
      · rw [yset_ne (by omega)]
        exact i3 j
theorem bndO_bndO {α β γ : Type} {x : Option α} {f : α → Option β} {g : β → Option γ} : bndO (bndO x f) g = bndO x (fun a => bndO (f a) g) := by
  cases x <;> rfl
theorem TB_em {σ τ : ySt} {T b : Nat} (h1 : EmC σ T) (h2 : EmM τ b) : TB σ τ T b 0 0 0 0 0 0 := by
  obtain ⟨a1, a2, a3, a4, a5, a6, a7, a8, a9, a10⟩ := h1
  obtain ⟨b1, b2, b3, b4, b5, b6, b7, b8, b9, b10, b11, b12, b13, b14, b15⟩ := h2
  refine ⟨⟨⟨a1, fun k hk => absurd hk (Nat.not_lt_zero k)⟩, by omega, b1⟩, ⟨⟨a2, fun k hk => absurd hk (Nat.not_lt_zero k)⟩, by omega, b3⟩, ⟨⟨a3, fun k hk => absurd hk (Nat.not_lt_zero k)⟩, by omega, b4⟩, ⟨fun i j hi hj hij => ?_, a5, by omega, b2, fun i hi => ?_, fun i j hi hj hij => ?_⟩, ⟨a4, by omega, b5, fun k hk => absurd hk (Nat.not_lt_zero k)⟩, ⟨⟨by rw [a6, b6], by rw [a6]; decide, by rw [a6]; decide⟩, by rw [a7, b7], by rw [a7]; decide, by rw [a7]; decide⟩, fun k hk => absurd hk (Nat.not_lt_zero k), fun k hk => absurd hk (Nat.not_lt_zero k), ⟨fun k hk => absurd hk (Nat.not_lt_zero k), fun p hp => by rw [b15 p hp]; rfl⟩, a8, b12, by omega, fun i hi => absurd hi (Nat.not_lt_zero i), fun i hi => absurd hi (Nat.not_lt_zero i), rfl⟩
  · rw [a10 i j hi hj, if_neg hij, show 36 * b + 6 * i + j = 36 * b + (6 * i + j) from by omega, b14 _ (by omega)]
  · rw [show 7 * i = 6 * i + i from by omega, a10 i i hi hi, if_pos rfl]
  · rw [a10 i j hi hj, a10 j i hj hi, if_neg hij, if_neg (fun e => hij e.symm)]
    exact ⟨rfl, Or.inl rfl⟩
theorem read_both {N n T b : Nat} {σ τ : ySt} (hN : 100000 ≤ N) (hT : T = 13 ∨ T = 33) (hb : b < 2) (hn : n ≤ 1600) (e1 : σ 1 1 = n) (e2 : τ 92 2 = n) (hby : ∀ j, -128 ≤ σ 2 j ∧ σ 2 j < 128) (hby2 : ∀ j, -128 ≤ τ 94 j ∧ τ 94 j < 128) (h93 : ∀ j, j < n → b32i2b (τ 93 j) = σ 2 j) (h40 : τ 92 40 = 1 - (b : Int)) :
    ∃ z σ1 τ1, cRd_readInto N T σ = rlE N z σ1 ∧ mo_town N τ = twE N τ1 ∧ (∀ i, i ≠ 1 → i ≠ 53 → (i < T ∨ T + 18 < i) → σ1 i = σ i) ∧ σ1 53 1 = (T : Int) + 1 ∧
      (∀ i, i ≠ 92 → i ≠ 94 → (i < 95 ∨ 122 < i) → τ1 i = τ i) ∧ (∀ i j, 95 ≤ i → i ≤ 120 → (j < st i * b ∨ st i * b + st i ≤ j) → τ1 i j = τ i j) ∧ (∀ k, (k < 2 ∨ 10 < k) → k ≠ 41 → k ≠ 42 → k ≠ 43 → k ≠ 44 → τ1 92 k = τ 92 k) ∧ τ1 92 2 = 0 ∧ τ1 92 41 = b ∧
      ((z = 1 ∧ ∃ q mp mq md mw me L f1 f2 f3 : Nat, RT σ1 τ1 (σ 2) n q ∧ tkK (σ 2) n q = 0 ∧ LT σ1 τ1 T b mp mq md mw me L f1 f2 f3 ∧ FLG τ1 b f1 f2 f3) ∨ (z = 0 ∧ RB σ1 τ1 (σ 2) n)) := by
  -- the class
  have hc : Ok (bnd (yset σ 53 1 ((T : Nat) + 1 : Int)) fun σ2 => chkT (σ2 53 1) fun T4 => bndO (cTw_clear N T4 σ2) fun σ8 => bnd (yset σ8 53 2 0) fun σ9 => bnd (yset σ9 53 3 0) fun σ11 => bnd (yset σ11 53 4 0) fun σ13 => bndO (cTp_begin N σ13) fun σ16 => some σ16) (fun σ16 => TC σ16 (σ 2) n 0 ∧ FC σ16 0 (-1) ∧ (∀ i, i ≠ 1 → i ≠ 53 → (i < T ∨ T + 18 < i) → σ16 i = σ i) ∧ σ16 53 1 = (T : Int) + 1 ∧ σ16 53 2 = 0 ∧ σ16 53 3 = 0 ∧ σ16 53 4 = 0 ∧ EmC σ16 T) := by
    rw [Ok_bnd, Ok_chkT_eq (T := T) hT yset_at, Ok_bndO]
    refine (cTw_clear_ok hN hT).mono ?_
    rintro σ8 ⟨c1, c2⟩
    rw [Ok_bnd, Ok_bnd, Ok_bnd]
    generalize hρ : yset (yset (yset σ8 53 2 0) 53 3 0) 53 4 0 = ρ
    have ro : ∀ i, i ≠ 53 → ρ i = σ8 i := fun i hi => by rw [← hρ, yset_off i hi, yset_off i hi, yset_off i hi]
    have p2 : ρ 53 2 = 0 := by rw [← hρ, yset_ne (by omega), yset_ne (by omega), yset_at]
    have p3 : ρ 53 3 = 0 := by rw [← hρ, yset_ne (by omega), yset_at]
    have p4 : ρ 53 4 = 0 := by rw [← hρ, yset_at]
    have p1 : ρ 53 1 = (T : Int) + 1 := by rw [← hρ, yset_ne (by omega), yset_ne (by omega), yset_ne (by omega), c1 53 (by omega), yset_at]
    rw [Ok_bndO]
    unfold cTp_begin
    rw [Ok_bnd, Ok_bnd, Ok_bnd, Ok_bndO]
    have t1 : yset (yset (yset ρ 1 6 0) 1 7 (-1)) 1 8 0 2 = σ 2 := by rw [yset_off 2 (by omega), yset_off 2 (by omega), yset_off 2 (by omega), ro 2 (by omega), c1 2 (by omega), yset_off 2 (by omega)]
    have t2 : yset (yset (yset ρ 1 6 0) 1 7 (-1)) 1 8 0 1 1 = n := by rw [yset_ne (by omega), yset_ne (by omega), yset_ne (by omega), ro 1 (by omega), c1 1 (by omega), yset_ne (by omega)]; exact e1
    have t3 : yset (yset (yset ρ 1 6 0) 1 7 (-1)) 1 8 0 1 8 = ((0 : Nat) : Int) := yset_at
    refine (TC_first hN hn (Nat.zero_le n) hby t1 t2 t3).mono ?_
    rintro σ16 ⟨s, k, w, v, e, rfl, tc⟩
    rw [Ok_some, Ok_some]
    have so : ∀ i, i ≠ 1 → tkS (yset (yset (yset ρ 1 6 0) 1 7 (-1)) 1 8 0) s k w v e i = ρ i := fun i hi => by rw [tkS_ne hi, yset_off i hi, yset_off i hi, yset_off i hi]
    refine ⟨tc, ⟨by rw [tkS_6, yset_ne (by omega), yset_ne (by omega), yset_at], by rw [tkS_7, yset_ne (by omega), yset_at]⟩, fun i h1 h2 h3 => by rw [so i h1, ro i h2, c1 i h3, yset_off i h2], by rw [so 53 (by omega)]; exact p1, by rw [so 53 (by omega)]; exact p2, by rw [so 53 (by omega)]; exact p3, by rw [so 53 (by omega)]; exact p4, ?_⟩
    obtain ⟨a1, a2, a3, a4, a5, a6, a7, a8, a9, a10⟩ := c2
    have sT : ∀ i, T ≤ i → i ≤ T + 18 → tkS (yset (yset (yset ρ 1 6 0) 1 7 (-1)) 1 8 0) s k w v e i = σ8 i := fun i h1 h2 => by rw [so i (by omega), ro i (by omega)]
    refine ⟨?_, ?_, ?_, ?_, ?_, ?_, ?_, ?_, ?_, fun i j hi hj => ?_⟩
    · rw [sT _ (by omega) (by omega)]; exact a1
    · rw [sT _ (by omega) (by omega)]; exact a2
    · rw [sT _ (by omega) (by omega)]; exact a3
    · rw [sT _ (by omega) (by omega)]; exact a4
    · rw [sT _ (by omega) (by omega)]; exact a5
    · rw [sT _ (by omega) (by omega)]; exact a6
    · rw [sT _ (by omega) (by omega)]; exact a7
    · rw [sT _ (by omega) (by omega)]; exact a8
    · rw [sT _ (by omega) (by omega)]; exact a9
    · rw [sT _ (by omega) (by omega)]; exact a10 i j hi hj
  -- the reference
  have hm : Ok (bndO (mo_takeTape N τ) fun σ2 => chkI (1 - (σ2 92 40)) <| bnd (yset σ2 92 41 (1 - (σ2 92 40))) fun σ4 => bndO (mo_clearBank N σ4) fun σ7 => bndO (mo_goOn N σ7) fun σ9 => some σ9) (fun τ9 => TM τ9 (σ 2) n 0 ∧ FM τ9 0 (-1) ∧ (∀ i, i ≠ 92 → i ≠ 94 → (i < 95 ∨ 122 < i) → τ9 i = τ i) ∧ (∀ i j, 95 ≤ i → i ≤ 120 → (j < st i * b ∨ st i * b + st i ≤ j) → τ9 i j = τ i j) ∧ (∀ k, (k < 2 ∨ 10 < k) → k ≠ 41 → k ≠ 42 → τ9 92 k = τ 92 k) ∧ τ9 92 2 = 0 ∧ τ9 92 41 = b ∧ EmM τ9 b) := by
    rw [Ok_bndO]
    refine (mo_takeTape_ok hN hn e2 hby2).mono ?_
    rintro τ2 ⟨a1, a2, a3, a4, a5, a6, a7, a8, a9⟩
    have b40 : (1 : Int) - τ2 92 40 = b := by rw [a9 40 (by omega) (by omega) (by omega) (by omega) (by omega), h40]; omega
    rw [b40, Ok_chkI, Ok_bnd, Ok_bndO]
    refine ⟨by omega, (mo_clearBank_ok hN hb yset_at).mono ?_⟩
    rintro τ7 ⟨d1, d2, d3⟩
    have z : ∀ k, k ≠ 41 → k ≠ 42 → τ7 92 k = τ2 92 k := fun k h1 h2 => by rw [d2 k h2, yset_ne (by omega)]
    have t94 : τ7 94 = τ2 94 := by rw [d1.1 94 (by decide) (by omega), yset_off 94 (by decide)]
    rw [Ok_bndO]
    refine (TM_first (p := 0) (t := σ 2) hN hn (Nat.zero_le n) hby (by rw [t94]; exact a3) (fun j hj => by rw [t94, a2 j hj, h93 j hj]) (by rw [z 3 (by omega) (by omega)]; exact a5) (by rw [z 7 (by omega) (by omega)]; exact a8)).mono ?_
    rintro τ9 ⟨s, e, k, v, w, rfl, tm⟩
    rw [Ok_some]
    have om := @offM_tk τ7 s e k v w
    refine ⟨tm, ⟨by rw [tmS_4, z 4 (by omega) (by omega)]; exact a6, by rw [tmS_5, z 5 (by omega) (by omega)]; exact a7⟩, fun i h1 h2 h3 => by rw [om.1 i h1, d1.1 i h1 h3, yset_off i h1, a1 i h1 h2], fun i j h1 h2 h3 => by rw [om.1 i (by omega), d1.2.1 i j h1 h2 h3, yset_off i (by omega), a1 i (by omega) (by omega)], fun k h1 h2 h3 => ?_, ?_, ?_, ?_⟩
    · rw [om.2 k (by omega), z k h2 h3, a9 k (by omega) (by omega) (by omega) (by omega) (by omega)]
    · rw [om.2 2 (by omega), z 2 (by omega) (by omega)]; exact a4
    · rw [om.2 41 (by omega), d2 41 (by omega), yset_at]
    · unfold EmM at d3 ⊢
      rw [om.1 95 (by decide), om.1 96 (by decide), om.1 97 (by decide), om.1 98 (by decide), om.1 99 (by decide), om.1 100 (by decide), om.1 101 (by decide), om.1 102 (by decide), om.1 103 (by decide), om.1 104 (by decide), om.1 105 (by decide), om.1 118 (by decide), om.2 42 (by omega), om.1 110 (by decide), om.1 113 (by decide)]
      exact d3
  obtain ⟨σ16, hcq, k1, k2, k3, k4, k5, k6, k7, k8⟩ := hc
  obtain ⟨τ9, hmq, l1, l2, l3, l4, l5, l6, l7, l8⟩ := hm
  have lt : LT σ16 τ9 T b 0 0 0 0 0 0 0 0 0 := ⟨TB_em k8 l8, k4, l7, ⟨k5, k6, k7⟩, ⟨by omega, by omega, by omega⟩, fun _ => ⟨rfl, k8.2.2.2.2.2.2.2.2.1, l8.2.2.2.2.2.2.2.1, l8.2.2.2.2.2.2.2.2.2.2.2.2.1⟩, fun z => by omega, by rw [k8.2.2.2.2.2.2.2.2.1, l8.2.2.2.2.2.2.2.1]⟩
  have fg : FLG τ9 b 0 0 0 := ⟨l8.2.2.2.2.2.2.2.2.1, l8.2.2.2.2.2.2.2.2.2.1, l8.2.2.2.2.2.2.2.2.2.2.1⟩
  obtain ⟨z, σ1, τ1, g1, g2, g3, g4, g5⟩ := rl_lock hN hT hb 60 N N 0 0 0 0 0 0 0 0 0 0 σ16 τ9 rfl (by omega) (by omega) ⟨k1, l1, k2, l2⟩ lt fg
  refine ⟨z, σ1, τ1, ?_, ?_, fun i h1 h2 h3 => (g3.1 i h1 h2 h3).trans (k3 i h1 h2 h3), (g3.2 1 (by omega) (by omega) (by omega)).trans k4, fun i h1 h2 h3 => (g4.1 i h1 h3).trans (l3 i h1 h2 h3), fun i j h1 h2 h3 => (g4.2.1 i j h1 h2 h3).trans (l4 i j h1 h2 h3), fun k h1 h2 h3 h4 h5 => (g4.2.2 k (by omega) h3 h4 h5).trans (l5 k h1 h2 h3), (g4.2.2 2 (by omega) (by omega) (by omega) (by omega)).trans l6, (g4.2.2 41 (by omega) (by omega) (by omega) (by omega)).trans l7, g5⟩
  · rw [cRd_readInto_eq, chk_pos hT]
    have : ∀ (x : Option ySt) (f : ySt → Option (Int × ySt)), x = some σ16 → bndO x f = f σ16 := fun x f e => by rw [e, bndO_s]
    have key := this _ (fun σ => loopS2 (rlF N) N 1 0 σ) hcq
    rw [← g1]
    refine Eq.trans ?_ key
    simp only [bnd]
    unfold chkT
    split
    · dsimp only
      simp only [bndO_bndO, bndO_s]
    · rfl
  · rw [mo_town_eq]
    have : ∀ (x : Option ySt) (f : ySt → Option (Int × ySt)), x = some τ9 → bndO x f = f τ9 := fun x f e => by rw [e, bndO_s]
    have key := this _ (fun σ => loopS0 (twF N) N σ) hmq
    rw [← g2]
    refine Eq.trans ?_ key
    cases mo_takeTape N τ with
    | none => rfl
    | some a =>
      simp only [bndO_s, bnd]
      unfold chkI
      split
      · cases mo_clearBank N (yset a 92 41 (1 - a 92 40)) with
        | none => rfl
        | some d =>
          simp only [bndO_s]
          cases mo_goOn N d <;> rfl
      · rfl
