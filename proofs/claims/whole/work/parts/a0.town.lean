/-! a town's text: what is held when both begin with it, and what stays when it has a fault -/
theorem NR_bank {σ τ τ' : ySt} {o a s b m : Nat} (h : NR σ o τ a (s * b) m) (hm : m ≤ s) (e : ∀ k, k < s → τ' a (s * b + k) = τ a (s * b + k)) : NR σ o τ' a (s * b) m := ⟨h.1, fun k hk => by
  obtain ⟨w, w1, w2, w3⟩ := h.2 k hk
  exact ⟨w, w1, w2, by rw [e k (by omega)]; exact w3⟩⟩
theorem TD_bank {σ τ τ' : ySt} {T b mp mq md mw me L : Nat} {W : Nat → Int} (h : TD σ τ T b mp mq md mw me L W) (h40 : τ' 92 40 = τ 92 40) (e : ∀ i j, 95 ≤ i → i ≤ 120 → st i * b ≤ j → j < st i * b + st i → τ' i j = τ i j) : TD σ τ' T b mp mq md mw me L W := by
  obtain ⟨hT, h05, x40, hb, g1, g2, g3, ⟨w1, w2, w3⟩, ⟨n1, n2, n3⟩, ft, g5, g6, g7, g8, g9, ru, hru, hu⟩ := h
  have E : ∀ i s k, st i = s → 95 ≤ i → i ≤ 120 → k < s → τ' i (s * b + k) = τ i (s * b + k) := fun i s k hs h1 h2 hk => e i _ h1 h2 (by rw [hs]; omega) (by rw [hs]; omega)
  have E1 : ∀ i, st i = 1 → 95 ≤ i → i ≤ 120 → τ' i b = τ i b := fun i hs h1 h2 => by
    have := E i 1 0 hs h1 h2 (by omega)
    rw [Nat.one_mul, Nat.add_zero] at this
    exact this
  have eb : ∀ u v, u < 6 → v < 6 → bs τ' b u v = bs τ b u v := fun u v hu hv => by
    unfold bs
    rw [show 36 * b + 6 * u + v = 36 * b + (6 * u + v) by omega, E 110 36 (6 * u + v) rfl (by decide) (by decide) (by omega)]
  refine ⟨hT, h05, by rw [h40]; exact x40, hb, ⟨NR_bank g1.1 g1.2.1 (fun k hk => E 107 6 k rfl (by decide) (by decide) hk), g1.2.1, by rw [E1 95 rfl (by decide) (by decide)]; exact g1.2.2⟩, ⟨NR_bank g2.1 g2.2.1 (fun k hk => E 108 5 k rfl (by decide) (by decide) hk), g2.2.1, by rw [E1 97 rfl (by decide) (by decide)]; exact g2.2.2⟩, ⟨NR_bank g3.1 g3.2.1 (fun k hk => E 109 3 k rfl (by decide) (by decide) hk), g3.2.1, by rw [E1 98 rfl (by decide) (by decide)]; exact g3.2.2⟩, ⟨fun u v hu hv => by rw [eb u v hu hv]; exact w1 u v hu hv, w2, w3⟩, ⟨n1, by rw [E1 96 rfl (by decide) (by decide)]; exact n2, n3⟩, ft, ⟨g5.1, g5.2.1, by rw [E1 99 rfl (by decide) (by decide)]; exact g5.2.2.1, fun k hk => ?_⟩, ?_, fun k hk => ?_, fun k hk => ?_, ⟨g9.1, fun p hp => ?_⟩, ⟨ru.1, by rw [E1 118 rfl (by decide) (by decide)]; exact ru.2.1, ru.2.2.1, fun i hi => ?_, ru.2.2.2.2⟩, by rw [E1 105 rfl (by decide) (by decide)]; exact hru, by rw [E1 102 rfl (by decide) (by decide)]; exact hu⟩
  · have hk8 : k < 8 := by
      have := g5.2.1
      omega
    rw [E 114 8 k rfl (by decide) (by decide) hk8, E 115 8 k rfl (by decide) (by decide) hk8, E 116 8 k rfl (by decide) (by decide) hk8, E 117 8 k rfl (by decide) (by decide) hk8]
    exact g5.2.2.2 k hk
  · unfold G6 at g6 ⊢
    rw [E1 100 rfl (by decide) (by decide), E1 101 rfl (by decide) (by decide)]
    exact g6
  · have hk6 : k < 6 := by
      have := g1.2.1
      omega
    rw [E 106 6 k rfl (by decide) (by decide) hk6]
    exact g7 k hk
  · have hk5 : k < 5 := by
      have := g2.2.1
      omega
    rw [E 111 5 k rfl (by decide) (by decide) hk5, E 112 5 k rfl (by decide) (by decide) hk5]
    exact g8 k hk
  · rw [E 113 6 p rfl (by decide) (by decide) hp]
    exact g9.2 p hp
  · have hi4 : i < 400 := by
      have := ru.2.2.1
      omega
    rw [E 119 400 i rfl (by decide) (by decide) hi4, E 120 400 i rfl (by decide) (by decide) hi4]
    exact ru.2.2.2.1 i hi
/-- all that is held between two calls, but what is known of states -/
def IV (σ τ : ySt) (T b P Q mp mq md mw me L S hr nc n : Nat) (W : Nat → Int) : Prop :=
  QI σ τ T b mp mq md mw me L S hr W ∧ CK σ T mp mq me md L S hr ∧ CL σ T mp mq me md L S hr ∧ (PL σ τ T P mp mq ∧ P2 P Q ∧ σ 0 9 = (Q : Int) + 1) ∧ σ 0 6 = ((46 - T : Nat) : Int) + 1 ∧ EAr σ 9 (τ 138) (τ 139) (τ 92 73) (τ 92 74) mp mq ∧ (∀ k, k < 3 → BX σ τ k mp mq) ∧ CTr σ τ nc mp ∧ FD σ τ n ∧ (σ 1 6 = τ 92 4 ∧ σ 1 7 = τ 92 5)
theorem turnTo_ok {N T : Nat} {σ : ySt} (hN : 100000 ≤ N) (hT : T = 13 ∨ T = 33) :
    Ok (cAn_turnTo N T σ) (fun σ' => (∀ i, i ≠ 58 → i ≠ 65 → i ≠ 71 → i ≠ 74 → σ' i = σ i) ∧ σ' 58 0 = (T : Int) + 1 ∧ σ' 58 13 = 0 ∧ ∀ j, j < 3 → σ' 65 j = 0 ∧ σ' 71 j = 0 ∧ σ' 74 j = 0) := by
  unfold cAn_turnTo
  rw [Ok_chk, Ok_bnd, Ok_bnd]
  refine ⟨hT, Ok_loopS1 (fun y ν => ∃ k : Nat, y = k ∧ k ≤ 3 ∧ (∀ i, i ≠ 58 → i ≠ 65 → i ≠ 71 → i ≠ 74 → ν i = σ i) ∧ ν 58 0 = (T : Int) + 1 ∧ ν 58 13 = 0 ∧ ∀ j, j < k → ν 65 j = 0 ∧ ν 71 j = 0 ∧ ν 74 j = 0) (fun y _ => (3 - y.toNat : Nat)) ?_ N _ _ ⟨0, rfl, by omega, fun i h1 _ _ _ => by rw [yset_off i h1, yset_off i h1], by rw [yset_ne (by omega), yset_at], by rw [yset_at], fun j hj => absurd hj (Nat.not_lt_zero j)⟩ (by omega)⟩
  rintro g y ν ⟨k, rfl, hk, i1, i2, i3, i4⟩ rec
  rw [Ok_ite, Ok_some]
  refine ⟨fun q => ⟨i1, i2, i3, fun j hj => i4 j (by omega)⟩, fun q => ?_⟩
  rw [Ok_chkA, Int.toNat_natCast, Ok_bnd, Ok_chkA, Ok_bnd, Ok_chkA, Ok_bnd, Ok_chkI]
  refine ⟨by omega, by omega, by omega, by omega, rec _ _ ⟨k + 1, by omega, by omega, fun i h1 h2 h3 h4 => by rw [yset_off i h4, yset_off i h3, yset_off i h2]; exact i1 i h1 h2 h3 h4, by rw [yset_off 58 (by decide), yset_off 58 (by decide), yset_off 58 (by decide)]; exact i2, by rw [yset_off 58 (by decide), yset_off 58 (by decide), yset_off 58 (by decide)]; exact i3, fun j hj => ?_⟩ (by omega)⟩
  rw [yset_off 65 (by decide), yset_off 65 (by decide), yset_off 71 (by decide)]
  by_cases c : j = k
  · rw [c, yset_at, yset_at, yset_at]
    exact ⟨rfl, rfl, rfl⟩
  · rw [yset_ne (by omega), yset_ne (by omega), yset_off 71 (by decide), yset_ne (by omega), yset_off 74 (by decide), yset_off 74 (by decide)]
    exact i4 j (by omega)
theorem mo_begin_ok {N b mq : Nat} {τ : ySt} (hN : 100000 ≤ N) (h40 : τ 92 40 = b) (hb : b < 2) (h97 : τ 97 b = mq) (hmq : mq ≤ 5) :
    Ok (mo_begin N τ) (fun τ' => (∀ i, i ≠ 92 → i ≠ 136 → i ≠ 138 → i ≠ 139 → τ' i = τ i) ∧ (∀ k, k ≠ 73 → k ≠ 74 → τ' 92 k = τ 92 k) ∧ τ' 92 73 = 0 ∧ τ' 92 74 = 0 ∧ (∀ n, n < 5 → τ' 138 n = (if n < mq then τ 111 (5 * b + n) else 0) ∧ τ' 139 n = -1) ∧ ∀ n s, n < 5 → s < 8 → τ' 136 (8 * n + s) = if n < mq then τ 111 (5 * b + n) else 0) := by
  unfold mo_begin
  refine Ok_loopS1 (fun y ν => ∃ k : Nat, y = k ∧ k ≤ 5 ∧ (∀ i, i ≠ 138 → i ≠ 139 → ν i = τ i) ∧ ∀ n, n < k → ν 138 n = (if n < mq then τ 111 (5 * b + n) else 0) ∧ ν 139 n = -1) (fun y _ => (5 - y.toNat : Nat)) ?_ N _ _ ⟨0, rfl, by omega, fun _ _ _ => rfl, fun n hn => absurd hn (Nat.not_lt_zero n)⟩ (by omega)
  rintro g y ν ⟨k, rfl, hk, i1, i2⟩ rec
  have e40 : ν 92 40 = b := by rw [i1 92 (by decide) (by decide)]; exact h40
  rw [Ok_ite]
  refine ⟨fun q => ?_, fun q => ?_⟩
  · rw [Ok_bnd, Ok_bnd, Ok_bndO]
    have key := mo_stayHome_ok (N := N) (a := 0) (b := b) (mq := mq) (τ := yset (yset ν 92 73 0) 92 74 0) hN (Or.inl rfl) (by rw [yset_ne (by omega), yset_ne (by omega)]; exact e40) hb (by rw [yset_off 97 (by decide), yset_off 97 (by decide), i1 97 (by decide) (by decide)]; exact h97) hmq
    rw [show ((0 : Nat) : Int) = 0 from rfl] at key
    refine key.mono ?_
    rintro τ' ⟨a1, a2, a3⟩
    rw [Ok_some]
    refine ⟨fun i h1 h2 h3 h4 => by rw [a1 i h2, yset_off i h1, yset_off i h1]; exact i1 i h3 h4, fun k' h1 h2 => by rw [a1 92 (by decide), yset_ne (by omega), yset_ne (by omega), i1 92 (by decide) (by decide)], by rw [a1 92 (by decide), yset_ne (by omega), yset_at], by rw [a1 92 (by decide), yset_at], fun n hn => by rw [a1 138 (by decide), a1 139 (by decide), yset_off 138 (by decide), yset_off 138 (by decide), yset_off 139 (by decide), yset_off 139 (by decide)]; exact i2 n (by omega), fun n s hn hs => ?_⟩
    have := a2 n s hn hs
    rw [Nat.zero_add, yset_off 111 (by decide), yset_off 111 (by decide), i1 111 (by decide) (by decide)] at this
    exact this
  · rw [mo_personMany_ok e40 hb (show ν 97 b = (mq : Int) by rw [i1 97 (by decide) (by decide)]; exact h97), bndO_s]
    refine Ok_jq1 (fun y => y = if k < mq then τ 111 (5 * b + k) else 0) (fun y hy => ?_) (fun kk hkk => ?_)
    · rw [Ok_chkA, Int.toNat_natCast, Ok_bnd, Ok_chkA, Ok_bnd, Ok_chkI]
      refine ⟨by omega, by omega, by omega, rec _ _ ⟨k + 1, by omega, by omega, fun i h1 h2 => by rw [yset_off i h2, yset_off i h1]; exact i1 i h1 h2, fun n hn => ?_⟩ (by omega)⟩
      rw [yset_off 138 (by decide)]
      by_cases c : n = k
      · rw [c, yset_at, yset_at]
        exact ⟨hy, rfl⟩
      · rw [yset_ne (by omega), yset_ne (by omega), yset_off 139 (by decide)]
        exact i2 n (by omega)
    · rw [Ok_ite]
      refine ⟨fun c => hkk _ (by rw [if_neg (by omega)]), fun c => ?_⟩
      have ix2 : (5 * (b : Int) + (k : Int)).toNat = 5 * b + k := by omega
      rw [e40, Ok_chkI, Ok_chkI, Ok_chkA, ix2, i1 111 (by decide) (by decide)]
      exact ⟨by omega, by omega, by omega, hkk _ (by rw [if_pos (by omega)])⟩
/-- the class's town, finished behind a reading -/
theorem finish_read {N T b mp mq md mw me L f1 f2 f3 : Nat} {σ τ : ySt} (hN : 100000 ≤ N) (hT : T = 13 ∨ T = 33) (lt : LT σ τ T b mp mq md mw me L f1 f2 f3) :
    Ok (cTw_finish N T σ) (fun σ' => (∀ i, i ≠ T + 15 → i ≠ T + 16 → i ≠ T + 19 → σ' i = σ i) ∧ FT σ' T mp md L (σ (T + 15)) ∧ TW σ' T mp mq me) := by
  obtain ⟨⟨g1, g2, g3, g4, g5, g6, g7, g8, g9, ru⟩, _⟩ := lt
  obtain ⟨q1, q2, q3, q4, q5, q6⟩ := id g4
  have dg : ∀ a, a < 6 → σ (T + 15) (6 * a + a) = 0 := fun a ha => by
    rw [show 6 * a + a = 7 * a by omega]
    exact q5 a ha
  have rg : ∀ a b, a < 6 → b < 6 → 0 ≤ σ (T + 15) (6 * a + b) ∧ σ (T + 15) (6 * a + b) ≤ 1000000 := fun a b ha hb => by
    by_cases c : a = b
    · subst c
      rw [dg a ha]
      omega
    · have := (q6 a b ha hb c).2
      omega
  have hmp := g1.2.1
  refine (cTw_finish_ok hN hT g1.1.1 hmp ru.1 ru.2.2.1 ru.2.2.2.2.1 ru.2.2.2.2.2 (fun i hi => CE_rg (ru.2.2.2.1 i hi)) g3.1.1 g3.2.1 rg (fun a ha => dg a (by omega))).mono ?_
  rintro σ' ⟨a1, a2, a3⟩
  have eT : ∀ i, i ≤ 14 → σ' (T + i) = σ (T + i) := fun i hi => a1 _ (by omega) (by omega) (by omega)
  have e0 : σ' T = σ T := eT 0 (by omega)
  refine ⟨a1, a2, hT, by rw [eT 1 (by omega)]; exact g1.1.1, hmp, by rw [eT 3 (by omega)]; exact g2.1.1, g2.2.1, fun q => ?_, by rw [e0]; exact g5.1, g5.2.1, fun k hk => ?_, fun n hn => ?_, by rw [e0]; exact g6.1.2, by rw [e0]; exact g6.2.2, fun j hj => ?_⟩
  · have := (g8 0 q).1
    omega
  · rw [eT 11 (by omega), eT 12 (by omega), eT 13 (by omega), eT 14 (by omega)]
    obtain ⟨x1, x2, x3, x4⟩ := g5.2.2.2 k hk
    exact ⟨x1.2, x2.2, x3.2, x4.2⟩
  · rw [eT 8 (by omega), eT 9 (by omega)]
    exact ⟨(g8 n hn).1.2, (g8 n hn).2.2⟩
  · by_cases c : j / 6 < mp ∧ j % 6 < mp
    · have e : j = 6 * (j / 6) + j % 6 := (Nat.div_add_mod j 6).symm
      rw [e]
      have := a2.1.1 (j / 6) (j % 6) c.1 c.2
      have h2 := rg (j / 6) (j % 6) (by omega) (by omega)
      have h3 := MT_pos a2.1 (fun a b ha hb => (rg a b (by omega) (by omega)).1) c.1 c.2
      dsimp only at this h3
      omega
    · rw [a3 j (fun a b ha hb e => c (by omega))]
      have e : j = 6 * (j / 6) + j % 6 := (Nat.div_add_mod j 6).symm
      rw [e]
      exact rg (j / 6) (j % 6) (by omega) (by omega)
