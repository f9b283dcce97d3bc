abbrev iA : List (Nat × Nat × Int) := [(0, 4, 13), (0, 3, 10), (9, 1, 12), (9, 0, 11), (0, 1, 4), (3, 4, 9), (3, 3, 8), (3, 2, 7), (3, 1, 6), (3, 0, 5), (0, 0, 2), (1, 7, -1), (1, 0, 3)]
abbrev i1 : List (Nat × Nat × Int) := [(13, 13, 31), (30, 1, 33), (30, 0, 32), (13, 12, 30), (13, 11, 29), (13, 10, 28), (13, 9, 27), (13, 8, 26), (13, 7, 25), (13, 6, 24), (13, 5, 23), (13, 4, 22), (13, 3, 21), (13, 2, 19), (18, 0, 20), (13, 1, 17), (16, 0, 18), (13, 0, 15), (14, 0, 16)]
abbrev i2 : List (Nat × Nat × Int) := [(33, 13, 51), (50, 1, 53), (50, 0, 52), (33, 12, 50), (33, 11, 49), (33, 10, 48), (33, 9, 47), (33, 8, 46), (33, 7, 45), (33, 6, 44), (33, 5, 43), (33, 4, 42), (33, 3, 41), (33, 2, 39), (38, 0, 40), (33, 1, 37), (36, 0, 38), (33, 0, 35), (34, 0, 36)]
abbrev i3 : List (Nat × Nat × Int) := [(0, 9, 57), (56, 0, 58), (0, 8, 55), (54, 0, 56), (0, 7, 54), (53, 1, 34), (53, 0, 2), (0, 6, 34)]
abbrev i4 : List (Nat × Nat × Int) := [(12, 2, 90), (89, 1, 92), (89, 0, 91), (12, 1, 87), (86, 1, 89), (86, 0, 88), (12, 0, 84), (83, 1, 86), (83, 0, 85), (0, 2, 59), (58, 1, 79), (78, 0, 14), (78, 7, 83), (78, 6, 82), (78, 5, 81), (78, 4, 80), (58, 0, 14), (58, 12, 78), (58, 11, 77), (58, 10, 76), (58, 9, 75), (58, 8, 74), (58, 7, 73), (58, 6, 72), (58, 5, 68), (67, 2, 71), (67, 1, 70), (67, 0, 69), (58, 4, 67), (58, 3, 66), (58, 2, 60), (59, 4, 65), (59, 3, 64), (59, 2, 63), (59, 1, 62), (59, 0, 61)]
abbrev i5 : List (Nat × Nat × Int) := [(92, 86, 150), (92, 85, 149), (92, 84, 148), (92, 83, 147), (92, 80, 146), (92, 79, 145), (92, 78, 144), (92, 77, 143), (92, 76, 142), (92, 75, 141), (92, 72, 140), (92, 71, 139), (92, 67, 138), (92, 66, 137), (92, 65, 136), (92, 64, 135), (92, 63, 134), (92, 62, 133), (92, 61, 132), (92, 60, 131), (92, 59, 130), (92, 58, 129), (92, 57, 128), (92, 56, 127), (92, 46, 126), (92, 45, 125), (92, 39, 124), (92, 38, 123), (92, 37, 122), (92, 36, 121), (92, 35, 120), (92, 34, 119), (92, 33, 118), (92, 32, 117), (92, 31, 116), (92, 30, 115), (92, 29, 114), (92, 28, 113), (92, 27, 112), (92, 26, 111), (92, 25, 110), (92, 24, 109), (92, 23, 108), (92, 22, 107), (92, 21, 106), (92, 20, 105), (92, 19, 104), (92, 18, 103), (92, 17, 102), (92, 16, 101), (92, 15, 100), (92, 14, 99), (92, 13, 98), (92, 12, 97), (92, 11, 96), (92, 5, -1), (92, 1, 95), (92, 0, 94)]
abbrev iX : List (Nat × Nat × Int) := [(0, 5, 14)]
abbrev iF : List (Nat × Nat × Int) := i5 ++ (i4 ++ (i3 ++ (iX ++ iA)))
abbrev iM : List (Nat × Nat × Int) := [(146, 2, -1), (146, 1, -1), (146, 0, -1)]
theorem yUp_out {lo hi i : Nat} {S : ySt} (hi2 : i < lo ∨ hi ≤ i) : ∀ {l : List (Nat × Nat × Int)}, l.all (fun q => Nat.ble lo q.1 && Nat.blt q.1 hi) = true → yUp l S i = S i
  | [], _ => rfl
  | q :: l, h => by
    simp only [List.all_cons, Bool.and_eq_true] at h
    have h1 := Nat.le_of_ble_eq_true h.1.1
    have h2 := Nat.blt_eq.mp h.1.2
    show yset (yUp l S) q.1 q.2.1 q.2.2 i = S i
    rw [yset_off i (by omega)]
    exact yUp_out hi2 h.2
theorem yUp_skip {lo hi i : Nat} {S : ySt} (h1 : lo ≤ i) (h2 : i < hi) : ∀ {l : List (Nat × Nat × Int)}, l.all (fun q => Nat.blt q.1 lo || Nat.ble hi q.1) = true → yUp l S i = S i
  | [], _ => rfl
  | q :: l, h => by
    simp only [List.all_cons, Bool.and_eq_true, Bool.or_eq_true] at h
    show yset (yUp l S) q.1 q.2.1 q.2.2 i = S i
    rw [yset_off i (by
      rcases h.1 with w | w
      · have := Nat.blt_eq.mp w; omega
      · have := Nat.le_of_ble_eq_true w; omega)]
    exact yUp_skip h1 h2 h.2
theorem yUp_congr {i : Nat} {S S' : ySt} (h : S i = S' i) : ∀ {l : List (Nat × Nat × Int)}, yUp l S i = yUp l S' i
  | [] => h
  | q :: l => by
    show yset (yUp l S) q.1 q.2.1 q.2.2 i = yset (yUp l S') q.1 q.2.1 q.2.2 i
    funext k
    unfold yset
    rw [yUp_congr h (l := l)]
theorem ovp_in {T i : Nat} {σ : ySt} (h1 : T ≤ i) (h2 : i < T + 20) : ovp T σ i = ov σ i := by
  funext k
  exact if_pos ⟨h1, h2⟩
theorem ovp_no {T i : Nat} {σ : ySt} (h : i < T ∨ T + 20 ≤ i) : ovp T σ i = σ i := by
  funext k
  exact if_neg (fun w => by omega)
theorem ov_ref {σ : ySt} {i : Nat} (hi : i < 150) {q : Nat × Int} (hq : q ∈ yCrT.getD i []) : ov σ i q.1 = q.2 := by
  have key : ∀ i : Fin 150, (yCrT.getD i []).all (fun q => yCr i q.1 == q.2 && q.2 != 0) = true := by decide +kernel
  have h := List.all_eq_true.mp (key ⟨i, hi⟩) q hq
  simp only [Bool.and_eq_true, beq_iff_eq, bne_iff_ne, ne_eq] at h
  unfold ov
  rw [if_neg (fun w => h.2 (h.1.symm.trans w))]
  exact h.1
theorem ov_self {σ : ySt} (h : ∀ i, i < 150 → ∀ q ∈ yCrT.getD i [], σ i q.1 = q.2) : ov σ = σ := by
  funext i k
  unfold ov
  by_cases e2 : yCr i k = 0
  · rw [if_pos e2]
  · rw [if_neg e2]
    have hm := yLk_mem e2
    by_cases hi : i < 150
    · exact (h i hi _ hm).symm
    · have : yCrT.getD i [] = [] := by
        rw [List.getD_eq_getElem?_getD, List.getElem?_eq_none (by
          have : yCrT.length ≤ 150 := by decide +kernel
          omega)]
        rfl
      rw [this] at hm
      cases hm
theorem iF_ok {i : Nat} (hi : i < 150) (h : i < 13 ∨ 53 ≤ i) {q : Nat × Int} (hq : q ∈ yCrT.getD i []) : yUp iF (fun _ _ => 0) i q.1 = q.2 := by
  have key : ∀ i : Fin 150, ((i : Nat) < 13 ∨ 53 ≤ (i : Nat)) → (yCrT.getD i []).all (fun q => lkL i q.1 iF == some q.2) = true := by decide +kernel
  exact lkL_some (beq_iff_eq.mp (List.all_eq_true.mp (key ⟨i, hi⟩ h) q hq))
set_option maxHeartbeats 4000000 in
set_option maxRecDepth 10000 in
theorem born {N : Nat} (hN : 100000 ≤ N) : ∃ (σ1 ρ : ySt), Fr0 92 σ1 ∧ (∀ E : yE, Con E MX11_init 4 91 27106 [.inr (.inr 1)] 1 (fun _ _ => 0) none σ1) ∧ (∀ E : yE, Con E MX12_init 3 57 247285 [.inr (.inr 93)] 93 σ1 none (ov ρ)) ∧ INV ρ ρ := by
  have z0 : ∀ n, Fr0 n (fun _ _ => 0 : ySt) := fun _ _ _ _ => rfl
  obtain ⟨τ1, h1, f1, e1⟩ := cTw_clear_ok (σ := yUp i1 (yUp iA (fun _ _ => 0))) hN (Or.inl rfl)
  have hB1 : ∀ i, (i < 13 ∨ 33 ≤ i) → ovp 13 τ1 i = yUp iA (fun _ _ => 0) i := fun i hi => by
    rw [ovp_no (by omega), f1 i (by omega)]
    exact yUp_out (lo := 13) (hi := 33) hi rfl
  have hf1 : Fr0 33 (ovp 13 τ1) := fun a ha k => by
    rw [hB1 a (by omega)]
    exact Fr0.yUp (n := 33) (z0 33) rfl a ha k
  obtain ⟨τ2, h2, f2, e2⟩ := cTw_clear_ok (σ := yUp i2 (yUp iX (ovp 13 τ1))) hN (Or.inr rfl)
  have hB2 : ∀ i, (i < 33 ∨ 53 ≤ i) → ovp 33 τ2 i = yUp iX (ovp 13 τ1) i := fun i hi => by
    rw [ovp_no (by omega), f2 i (by omega)]
    exact yUp_out (lo := 33) (hi := 53) hi rfl
  have hf2 : Fr0 53 (ovp 33 τ2) := fun a ha k => by
    rw [hB2 a (by omega)]
    exact Fr0.yUp (n := 53) (hf1.up (by decide)) rfl a ha k
  have hX0 : ∀ k, k ≠ 5 → yUp iX (ovp 13 τ1) 0 k = ovp 13 τ1 0 k := fun k hk => yset_ne (Or.inr hk)
  have r0 : (ovp 33 τ2) 0 0 = 2 := by
    rw [hB2 0 (by omega), hX0 0 (by decide), hB1 0 (by omega)]
    rfl
  have r1 : (ovp 33 τ2) 0 5 = 14 := by
    rw [hB2 0 (by omega)]
    rfl
  have hD : ∀ i, 13 ≤ i → i < 33 → yUp i3 (ovp 33 τ2) i = ovp 13 τ1 i := fun i a b => by
    rw [yUp_skip (lo := 13) (hi := 33) a b (l := i3) rfl, hB2 i (by omega)]
    exact yUp_skip (lo := 13) (hi := 33) a b rfl
  have ho : ∀ i, 13 ≤ i → i < 33 → ∀ q ∈ yCrT.getD i [], (yUp i3 (ovp 33 τ2)) i q.1 = q.2 := fun i a b q hq => by
    rw [hD i a b, ovp_in a b]
    exact ov_ref (by omega) hq
  obtain ⟨g1, g2, g3, g4, g5, g6, g7, g8, g9, g10⟩ := e1
  have hv : ∀ i k, 13 ≤ i → i < 33 → yCr i k = 0 → yUp i3 (ovp 33 τ2) i k = τ1 i k := fun i k a b c => by
    rw [hD i a b]
    exact ovp_at c
  have hw : ∀ a b, a < 6 → b < 6 → yUp i3 (ovp 33 τ2) 28 (6 * a + b) = if a = b then 0 else 1000000 := fun a b ha hb => by
    rw [hv 28 _ (by decide) (by decide) (yArr_cr (by decide) (by decide) _)]
    exact g10 a b ha hb
  obtain ⟨τ3, h3, f3, e3, k3⟩ := cTw_finish_ok (N := N) (T := 13) (L := 0) (mp := 0) (md := 0) (σ := yUp i3 (ovp 33 τ2)) hN (Or.inl rfl) (by rw [hv 14 1 (by decide) (by decide) rfl]; exact g1) (by decide) (by rw [hv 30 2 (by decide) (by decide) rfl]; exact g8) (by decide) (fun i hi => absurd hi (Nat.not_lt_zero _)) rfl (fun i hi => absurd hi (Nat.not_lt_zero _)) (by rw [hv 18 1 (by decide) (by decide) rfl]; exact g3) (by decide) (fun a b ha hb => by
    rw [hw a b ha hb]
    split <;> omega) (fun a ha => absurd ha (Nat.not_lt_zero _))
  have hB3 : ∀ i, (i < 13 ∨ 33 ≤ i) → ovp 13 τ3 i = yUp i3 (ovp 33 τ2) i := fun i hi => by
    rw [ovp_no (by omega), f3 i (by omega) (by omega) (by omega)]
  have hf3 : Fr0 58 (ovp 13 τ3) := fun a ha k => by
    rw [hB3 a (by omega)]
    exact Fr0.yUp (n := 58) (hf2.up (by decide)) rfl a ha k
  have r2 : (ovp 13 τ3) 0 5 = 14 := by
    rw [hB3 0 (by omega)]
    show yUp i3 (ovp 33 τ2) 0 5 = 14
    rw [lkL_none (l := i3) rfl]
    exact r1
  have r3 : (ovp 13 τ3) 0 4 = 13 := by
    rw [hB3 0 (by omega), lkL_none (l := i3) rfl, hB2 0 (by omega), hX0 4 (by decide), hB1 0 (by omega)]
    rfl
  have hf4 : Fr0 92 (yUp i4 (ovp 13 τ3)) := Fr0.yUp (hf3.up (by decide)) rfl
  have c1 : ∀ E : yE, Con E MX11_init 4 91 27106 [.inr (.inr 1)] 1 (fun _ _ => 0) none (yUp i4 (ovp 13 τ3)) := fun E => in_EvenTown_0 h1 hf1 h2 hf2 r0 r1 h3 ho hf3 r2 r3 (z0 1)
  have hSo : ∀ i, (i < 13 ∨ 53 ≤ i) → yUp i5 (yUp i4 (ovp 13 τ3)) i = yUp iF (fun _ _ => 0) i := fun i hi => by
    rw [yUp_app, yUp_app, yUp_app, yUp_app]
    refine yUp_congr (yUp_congr ?_)
    rw [hB3 i (by omega)]
    refine yUp_congr ?_
    rw [hB2 i (by omega)]
    exact yUp_congr (hB1 i (by omega))
  have hSa : ∀ i, 13 ≤ i → i < 33 → yUp i5 (yUp i4 (ovp 13 τ3)) i = ovp 13 τ3 i := fun i a b => by
    rw [yUp_skip (lo := 13) (hi := 33) a b (l := i5) rfl, yUp_skip (lo := 13) (hi := 33) a b (l := i4) rfl]
  have hSb : ∀ i, 33 ≤ i → i < 53 → yUp i5 (yUp i4 (ovp 13 τ3)) i = ovp 33 τ2 i := fun i a b => by
    rw [yUp_skip (lo := 33) (hi := 53) a b (l := i5) rfl, yUp_skip (lo := 33) (hi := 53) a b (l := i4) rfl, hB3 i (by omega), yUp_skip (lo := 33) (hi := 53) a b (l := i3) rfl]
  have hS1 : ov (yUp i5 (yUp i4 (ovp 13 τ3))) = yUp i5 (yUp i4 (ovp 13 τ3)) := ov_self fun i hi q hq => by
    by_cases w1 : 13 ≤ i ∧ i < 33
    · rw [hSa i w1.1 w1.2, ovp_in w1.1 w1.2]
      exact ov_ref hi hq
    · by_cases w2 : 33 ≤ i ∧ i < 53
      · rw [hSb i w2.1 w2.2, ovp_in w2.1 w2.2]
        exact ov_ref hi hq
      · rw [hSo i (by omega)]
        exact iF_ok hi (by omega) hq
  have hS92 : ∀ k, yUp i5 (yUp i4 (ovp 13 τ3)) 92 k = yUp iF (fun _ _ => 0) 92 k := fun k => by rw [hSo 92 (by omega)]
  obtain ⟨τ4, h4, fr, f4, em⟩ := mo_clearBank_ok (N := N) (b := 0) (τ := yUp i5 (yUp i4 (ovp 13 τ3))) hN (by decide) ((hS92 41).trans (lkL_none (l := iF) rfl))
  obtain ⟨m1, m2, m3, m4, m5, m6, m7, m8, m9, m10, m11, m12, m13, m14, m15⟩ := em
  obtain ⟨τ5, h5, b1, b2, b3, b4, b5, b6⟩ := mo_begin_ok (N := N) (b := 0) (mq := 0) (τ := τ4) hN ((f4 40 (by decide)).trans ((hS92 40).trans (lkL_none (l := iF) rfl))) (by decide) m3 (by decide)
  have eM : yUp iM (ov τ5) = ov (yUp iM τ5) := by
    show yset (yset (yset (ov τ5) 146 0 (-1)) 146 1 (-1)) 146 2 (-1) = ov (yset (yset (yset τ5 146 0 (-1)) 146 1 (-1)) 146 2 (-1))
    rw [ov_set rfl, ov_set rfl, ov_set rfl]
  have c2 : ∀ E : yE, Con E MX12_init 3 57 247285 [.inr (.inr 93)] 93 (yUp i4 (ovp 13 τ3)) none (ov (yUp iM τ5)) := fun E => by
    rw [← eM]
    exact in_Model_92 hS1 h4 h5 (hf4.up (by decide))
  refine ⟨_, yUp iM τ5, hf4, c1, c2, ?_⟩
  have hρ : ∀ i, i ≠ 146 → yUp iM τ5 i = τ5 i := fun i hi => yUp_out (lo := 146) (hi := 147) (by omega) rfl
  generalize hR : yUp iM τ5 = ρ at hρ
  have p146 : ∀ k, k < 3 → ρ 146 k = -1 := fun k hk => by
    rw [← hR]
    rcases (show k = 0 ∨ k = 1 ∨ k = 2 by omega) with rfl | rfl | rfl <;> rfl
  have hlo : ∀ i, i < 95 → i ≠ 92 → ρ i = yUp i5 (yUp i4 (ovp 13 τ3)) i := fun i hi h92 => by
    rw [hρ i (by omega), b1 i h92 (by omega) (by omega) (by omega), fr.1 i h92 (by omega)]
  have hL : ∀ i k, i < 95 → i ≠ 92 → (i < 13 ∨ 53 ≤ i) → ρ i k = yUp iF (fun _ _ => 0) i k := fun i k a b c => by rw [hlo i a b, hSo i c]
  have h92 : ∀ k, k ≠ 73 → k ≠ 74 → k ≠ 42 → ρ 92 k = yUp iF (fun _ _ => 0) 92 k := fun k a b c => by rw [hρ 92 (by decide), b2 k a b, f4 k c, hS92 k]
  have hT3 : ∀ i k, 13 ≤ i → i < 33 → i ≠ 28 → i ≠ 29 → i ≠ 32 → yCr i k = 0 → ρ i k = τ1 i k := fun i k a b c d e w => by
    rw [hlo i (by omega) (by omega), hSa i a b, ovp_at w, f3 i c d e, hv i k a b w]
  have h28 : ∀ a b, a < 6 → b < 6 → ρ 28 (6 * a + b) = if a = b then 0 else 1000000 := fun a b ha hb => by
    rw [hlo 28 (by decide) (by decide), hSa 28 (by decide) (by decide), ovp_at (yArr_cr (by decide) (by decide) _), k3 _ (fun a' b' q _ => absurd q (Nat.not_lt_zero _))]
    exact hw a b ha hb
  have hhi : ∀ i, 95 ≤ i → i ≠ 136 → i ≠ 138 → i ≠ 139 → i ≠ 146 → ρ i = τ4 i := fun i a b c d e => by
    rw [hρ i e, b1 i (by omega) b c d]
  have z : ∀ i, i < 95 → i ≠ 92 → (i < 13 ∨ 53 ≤ i) → iF.all (fun q => !Nat.beq q.1 i) = true → ∀ k, ρ i k = 0 := fun i a b c d k => by
    rw [hL i k a b c, yUp_cell d]
  have q14 : ρ 14 1 = 0 := (hT3 14 1 (by decide) (by decide) (by decide) (by decide) (by decide) rfl).trans g1
  have q16 : ρ 16 1 = 0 := (hT3 16 1 (by decide) (by decide) (by decide) (by decide) (by decide) rfl).trans g2
  have q18 : ρ 18 1 = 0 := (hT3 18 1 (by decide) (by decide) (by decide) (by decide) (by decide) rfl).trans g3
  have q1314 : ρ 13 14 = 0 := (hT3 13 14 (by decide) (by decide) (by decide) (by decide) (by decide) rfl).trans g4
  have q1315 : ρ 13 15 = 0 := (hT3 13 15 (by decide) (by decide) (by decide) (by decide) (by decide) rfl).trans g5
  have q1316 : ρ 13 16 = 60 := (hT3 13 16 (by decide) (by decide) (by decide) (by decide) (by decide) rfl).trans g6
  have q1317 : ρ 13 17 = 3 := (hT3 13 17 (by decide) (by decide) (by decide) (by decide) (by decide) rfl).trans g7
  have q302 : ρ 30 2 = 0 := (hT3 30 2 (by decide) (by decide) (by decide) (by decide) (by decide) rfl).trans g8
  have q303 : ρ 30 3 = 0 := (hT3 30 3 (by decide) (by decide) (by decide) (by decide) (by decide) rfl).trans g9
  have hi0 : ∀ i k, 95 ≤ i → i ≠ 136 → i ≠ 138 → i ≠ 139 → i ≠ 146 → ρ i k = τ4 i k := fun i k a b c d e => by rw [hhi i a b c d e]
  have no : ∀ k : Nat, ¬ k < 0 := Nat.not_lt_zero
  have cell0 : ∀ k v, (lkL 0 k iF = some v) → ρ 0 k = v := fun k v h => (hL 0 k (by decide) (by decide) (by decide)).trans (lkL_some h)
  have g28 : ∀ j, j < 36 → 0 ≤ ρ 28 j ∧ ρ 28 j ≤ 1000000 := fun j hj => by
    have e := h28 (j / 6) (j % 6) (by omega) (by omega)
    rw [show 6 * (j / 6) + j % 6 = j by omega] at e
    rw [e]
    split <;> omega
  have z65 := z 65 (by decide) (by decide) (by decide) (by decide +kernel)
  have z71 := z 71 (by decide) (by decide) (by decide) (by decide +kernel)
  have z74 := z 74 (by decide) (by decide) (by decide) (by decide +kernel)
  have z2 := z 2 (by decide) (by decide) (by decide) (by decide +kernel)
  have z94 := z 94 (by decide) (by decide) (by decide) (by decide +kernel)
  have zc : ∀ i k, i < 95 → i ≠ 92 → (i < 13 ∨ 53 ≤ i) → lkL i k iF = none → ρ i k = 0 := fun i k a b c d => (hL i k a b c).trans (lkL_none d)
  have z92 : ∀ k, k ≠ 73 → k ≠ 74 → k ≠ 42 → lkL 92 k iF = none → ρ 92 k = 0 := fun k a b c d => (h92 k a b c).trans (lkL_none d)
  have p73 : ρ 92 73 = 0 := by rw [hρ 92 (by decide)]; exact b3
  have p74 : ρ 92 74 = 0 := by rw [hρ 92 (by decide)]; exact b4
  have w95 : ρ 95 0 = 0 := (hi0 95 0 (by decide) (by decide) (by decide) (by decide) (by decide)).trans m1
  have w96 : ρ 96 0 = 0 := (hi0 96 0 (by decide) (by decide) (by decide) (by decide) (by decide)).trans m2
  have w97 : ρ 97 0 = 0 := (hi0 97 0 (by decide) (by decide) (by decide) (by decide) (by decide)).trans m3
  have w98 : ρ 98 0 = 0 := (hi0 98 0 (by decide) (by decide) (by decide) (by decide) (by decide)).trans m4
  have w99 : ρ 99 0 = 0 := (hi0 99 0 (by decide) (by decide) (by decide) (by decide) (by decide)).trans m5
  have w100 : ρ 100 0 = 60 := (hi0 100 0 (by decide) (by decide) (by decide) (by decide) (by decide)).trans m6
  have w101 : ρ 101 0 = 3 := (hi0 101 0 (by decide) (by decide) (by decide) (by decide) (by decide)).trans m7
  have w102 : ρ 102 0 = 0 := (hi0 102 0 (by decide) (by decide) (by decide) (by decide) (by decide)).trans m8
  have w105 : ρ 105 0 = 0 := (hi0 105 0 (by decide) (by decide) (by decide) (by decide) (by decide)).trans m11
  have w118 : ρ 118 0 = 0 := (hi0 118 0 (by decide) (by decide) (by decide) (by decide) (by decide)).trans m12
  have w110 : ∀ j, j < 36 → ρ 110 j = 1000000 := fun j hj => by
    have := m14 j hj
    rw [show 36 * 0 + j = j by omega] at this
    exact (hi0 110 j (by decide) (by decide) (by decide) (by decide) (by decide)).trans this
  have w113 : ∀ j, j < 6 → ρ 113 j = 0 := fun j hj => by
    have := m15 j hj
    rw [show 6 * 0 + j = j by omega] at this
    exact (hi0 113 j (by decide) (by decide) (by decide) (by decide) (by decide)).trans this
  have td : TD ρ ρ 13 0 0 0 0 0 0 0 (fun j => if j / 6 = j % 6 then 0 else 1000000) := by
    refine ⟨Or.inl rfl, cell0 5 14 rfl, z92 40 (by decide) (by decide) (by decide) rfl, by decide, ⟨⟨q14, fun k hk => absurd hk (no k)⟩, by decide, w95⟩, ⟨⟨q16, fun k hk => absurd hk (no k)⟩, by decide, w97⟩, ⟨⟨q18, fun k hk => absurd hk (no k)⟩, by decide, w98⟩, ⟨fun u v hu hv => ?_, fun u hu => ?_, fun u v hu hv ne => ?_⟩, ⟨q1315, w96, by decide⟩, ⟨⟨fun a b ha => absurd ha (no a), fun a b c ha => absurd ha (no a), fun E _ _ a b ha => absurd ha (no a)⟩, fun p h hp => absurd hp (no p)⟩, ⟨q1314, by decide, w99, fun k hk => absurd hk (no k)⟩, ⟨⟨q1316.trans w100.symm, by rw [q1316]; decide, by rw [q1316]; decide⟩, ⟨q1317.trans w101.symm, by rw [q1317]; decide, by rw [q1317]; decide⟩⟩, fun k hk => absurd hk (no k), fun k hk => absurd hk (no k), ⟨fun k hk => absurd hk (no k), fun p hp => ?_⟩, ⟨q302, w118, by decide, fun i hi => absurd hi (no i), fun i hi => absurd hi (no i), rfl⟩, w105, q303.trans w102.symm⟩
    · unfold bs
      dsimp only
      rw [show (6 * u + v) / 6 = u by omega, show (6 * u + v) % 6 = v by omega]
      by_cases e : u = v
      · rw [if_pos e, if_pos e]
      · rw [if_neg e, if_neg e, show 36 * 0 + 6 * u + v = 6 * u + v by omega]
        exact w110 _ (by omega)
    · dsimp only
      rw [show (6 * u + u) / 6 = u by omega, show (6 * u + u) % 6 = u by omega]
      exact if_pos rfl
    · dsimp only
      rw [show (6 * u + v) / 6 = u by omega, show (6 * u + v) % 6 = v by omega, show (6 * v + u) / 6 = v by omega, show (6 * v + u) % 6 = u by omega, if_neg ne, if_neg (fun w => ne w.symm)]
      exact ⟨rfl, Or.inl rfl⟩
    · have := w113 p hp
      rw [show 6 * 0 + p = p by omega]
      exact this
  have tw : TW ρ 13 0 0 0 := ⟨Or.inl rfl, q14, by decide, q16, by decide, fun h => absurd h (no 0), q1314, by decide, fun k hk => absurd hk (no k), fun n hn => absurd hn (no n), ⟨by rw [q1316]; decide, by rw [q1316]; decide⟩, ⟨by rw [q1317]; decide, by rw [q1317]; decide⟩, g28⟩
  refine ⟨13, 0, 54, 56, 0, 0, 0, 0, 0, 0, 3, 60, 0, 0, fun j => if j / 6 = j % 6 then 0 else 1000000, ⟨⟨td, tw, (hL 58 0 (by decide) (by decide) (by decide)).trans (lkL_some (z := 14) rfl), q1317, q1316, fun a _ h => absurd (z65 a) h⟩, fun a _ h => absurd (z71 a) h, fun n hn M h1 h2 h3 => absurd (h3.symm.trans (z74 n)) (by omega), ⟨⟨⟨Or.inl rfl, fun s n _ hn => absurd hn (no n)⟩, cell0 8 55 rfl, fun n hn => absurd hn (no n), fun s n _ _ hn => absurd hn (no n)⟩, Or.inl ⟨rfl, rfl⟩, cell0 9 57 rfl⟩, cell0 6 34 rfl, ⟨(zc 9 2 (by decide) (by decide) (by decide) rfl).trans p73.symm, by rw [p73]; decide, by rw [p73]; decide, (zc 9 3 (by decide) (by decide) (by decide) rfl).trans p74.symm, by rw [p74]; decide, by rw [p73, p74]; decide, fun n hn => absurd hn (no n)⟩, fun k hk => ⟨⟨fun h => absurd ?_ h, fun h => ?_⟩, fun h => ?_⟩, ⟨zc 3 5 (by decide) (by decide) (by decide) rfl, z92 81 (by decide) (by decide) (by decide) rfl, by decide, ⟨(zc 3 6 (by decide) (by decide) (by decide) rfl).trans (z92 82 (by decide) (by decide) (by decide) rfl).symm, ?_, ?_⟩, fun c hc => absurd hc (no c)⟩, ⟨zc 1 1 (by decide) (by decide) (by decide) rfl, z92 2 (by decide) (by decide) (by decide) rfl, by decide, fun j => ?_, fun j => ?_, fun j hj => absurd hj (no j)⟩, ⟨(zc 1 6 (by decide) (by decide) (by decide) rfl).trans (z92 4 (by decide) (by decide) (by decide) rfl).symm, ((hL 1 7 (by decide) (by decide) (by decide)).trans (lkL_some (z := -1) rfl)).trans ((h92 5 (by decide) (by decide) (by decide)).trans (lkL_some (z := -1) rfl)).symm⟩⟩, fun h => absurd (zc 58 13 (by decide) (by decide) (by decide) rfl) h⟩
  · exact zc (83 + 3 * k) 4 (by omega) (by omega) (by omega) (by rcases (show k = 0 ∨ k = 1 ∨ k = 2 by omega) with rfl | rfl | rfl <;> rfl)
  · rw [p146 k hk] at h; omega
  · rw [p146 k hk] at h; omega
  · rw [zc 3 6 (by decide) (by decide) (by decide) rfl]; decide
  · rw [zc 3 6 (by decide) (by decide) (by decide) rfl]; decide
  · rw [z2 j]; decide
  · rw [z94 j]; decide
