/-! least minutes and what is right: the answers -/
def bs (τ : ySt) (b u v : Nat) : Int := if u = v then 0 else τ 110 (36 * b + 6 * u + v)
def Vq (τ : ySt) (b u v : Nat) : Int := if ¬ τ 92 53 < 0 ∧ τ 92 55 < bs τ b (τ 92 53).toNat (τ 92 54).toNat ∧ (((u : Int) = τ 92 53 ∧ (v : Int) = τ 92 54) ∨ ((u : Int) = τ 92 54 ∧ (v : Int) = τ 92 53)) then τ 92 55 else bs τ b u v
theorem mo_layTown_ok {N T b mp md L : Nat} {σ τ : ySt} (hN : 100000 ≤ N) (h : RB9 σ τ T b mp md L) (hw : ∀ u v, u < 6 → v < 6 → 0 ≤ bs τ b u v ∧ bs τ b u v ≤ 1000000) (hA : τ 92 53 < 0 ∨ ∃ A B M : Nat, τ 92 53 = A ∧ τ 92 54 = B ∧ τ 92 55 = M ∧ A < 6 ∧ B < 6 ∧ A ≠ B ∧ M ≤ 1000000) :
    Ok (mo_layTown N τ) (fun τ' => (∀ i, i ≠ 123 → i ≠ 124 → i ≠ 125 → τ' i = τ i) ∧ MT 6 (Vq τ b) (fun u v => τ' 124 (6 * u + v)) ∧ ∀ s p h : Nat, 1 ≤ s → s ≤ 8 → p < mp → h ≤ 5 → τ' 125 (48 * (s - 1) + 8 * p + h) = opn σ T L md (τ 92 51) (τ 92 52) s p h) := by
  have h40 := h.1
  have hb := h.2.1
  rw [mo_layTown_eq]
  refine Ok_loopS1 (fun x ρ => ∃ m : Nat, x = m ∧ m ≤ 36 ∧ (∀ i, i ≠ 124 → ρ i = τ i) ∧ ∀ u v, u < 6 → v < 6 → 6 * u + v < m → ρ 124 (6 * u + v) = bs τ b u v) (fun x _ => (36 - x.toNat : Nat)) ?_ N _ _ ⟨0, rfl, by omega, fun _ _ => rfl, fun u v _ _ q => absurd q (Nat.not_lt_zero _)⟩ (by omega)
  rintro k x ρ ⟨m, rfl, hm, i1, i2⟩ rec
  rw [Ok_ite]
  refine ⟨fun q => ?_, fun q => ?_⟩
  · have e92 : ρ 92 = τ 92 := i1 92 (by decide)
    have fin : ∀ ρ' : ySt, (∀ i, i ≠ 124 → ρ' i = τ i) → (∀ u v, u < 6 → v < 6 → ρ' 124 (6 * u + v) = Vq τ b u v) → Ok (lyF N ρ') (fun τ' => (∀ i, i ≠ 123 → i ≠ 124 → i ≠ 125 → τ' i = τ i) ∧ MT 6 (Vq τ b) (fun u v => τ' 124 (6 * u + v)) ∧ ∀ s p h : Nat, 1 ≤ s → s ≤ 8 → p < mp → h ≤ 5 → τ' 125 (48 * (s - 1) + 8 * p + h) = opn σ T L md (τ 92 51) (τ 92 52) s p h) := by
      intro ρ' j1 j2
      have vr : ∀ u v, u < 6 → v < 6 → 0 ≤ Vq τ b u v ∧ Vq τ b u v ≤ 1000000 := by
        intro u v hu hv
        unfold Vq
        split
        · rcases hA with w | ⟨A, B, M, a1, a2, a3, a4, a5, a6, a7⟩
          · omega
          · omega
        · exact hw u v hu hv
      refine (lyF_ok hN (RB9_of h (fun i _ a _ => j1 i a)) (fun u v hu hv => by rw [j2 u v hu hv]; exact vr u v hu hv) (fun u hu => ?_)).mono ?_
      · rw [j2 u u hu hu]
        unfold Vq
        rw [if_neg]
        · unfold bs
          rw [if_pos rfl]
        · rintro ⟨w1, _, w3⟩
          rcases hA with w | ⟨A, B, M, a1, a2, a3, a4, a5, a6, a7⟩
          · exact w1 w
          · omega
      · rintro τ' ⟨a1, a2, a3⟩
        refine ⟨fun i b1 b2 b3 => by rw [a1 i b1 b2 b3]; exact j1 i b2, MT_congr a2 (fun u v hu hv => (j2 u v hu hv).symm) (fun _ _ _ _ => rfl), ?_⟩
        rw [j1 92 (by decide)] at a3
        exact a3
    have i2' : ∀ u v, u < 6 → v < 6 → ρ 124 (6 * u + v) = bs τ b u v := fun u v hu hv => i2 u v hu hv (by omega)
    unfold lyN
    refine Ok_jq1 (fun (ρ' : ySt) => (∀ i, i ≠ 124 → ρ' i = τ i) ∧ ∀ u v, u < 6 → v < 6 → ρ' 124 (6 * u + v) = Vq τ b u v) (fun ρ' hρ => fin ρ' hρ.1 hρ.2) (fun j hj => ?_)
    rw [e92, Ok_ite]
    refine ⟨fun q2 => hj _ ⟨i1, fun u v hu hv => ?_⟩, fun q2 => ?_⟩
    · rw [i2' u v hu hv]
      unfold Vq
      rw [if_neg (fun w => w.1 q2)]
    · rcases hA with w | ⟨A, B, M, a1, a2, a3, a4, a5, a6, a7⟩
      · exact absurd w q2
      have ix : (6 * (A : Int) + (B : Int)).toNat = 6 * A + B := by omega
      have ix2 : (6 * (B : Int) + (A : Int)).toNat = 6 * B + A := by omega
      have ta : (τ 92 53).toNat = A := by omega
      have tb : (τ 92 54).toNat = B := by omega
      rw [Ok_chkI, Ok_chkI, Ok_chkA, a1, a2, a3, ix, i2' A B a4 a5, Ok_ite]
      refine ⟨by omega, by omega, by omega, fun q3 => hj _ ⟨i1, fun u v hu hv => ?_⟩, fun q3 => ?_⟩
      · rw [i2' u v hu hv]
        unfold Vq
        rw [ta, tb, if_neg (fun w => by omega)]
      · have y92 : ∀ z i k, i ≠ 92 → yset ρ i k z 92 = τ 92 := fun z i k hi => by rw [yset_off 92 (by omega)]; exact e92
        rw [Ok_chkI, Ok_chkI, Ok_chkA, Ok_bnd, y92 _ _ _ (by decide), a1, a2, a3, Ok_chkI, Ok_chkI, Ok_chkA, ix2, Ok_bnd]
        refine ⟨by omega, by omega, by omega, by omega, by omega, by omega, hj _ ⟨fun i hi => by rw [yset_off i hi, yset_off i hi]; exact i1 i hi, fun u v hu hv => ?_⟩⟩
        unfold Vq
        rw [ta, tb, a1, a2, a3]
        by_cases c1 : u = B ∧ v = A
        · rw [c1.1, c1.2, yset_at, if_pos ⟨by omega, by omega, Or.inr ⟨rfl, rfl⟩⟩]
        · rw [yset_ne (by omega)]
          by_cases c2 : u = A ∧ v = B
          · rw [c2.1, c2.2, yset_at, if_pos ⟨by omega, by omega, Or.inl ⟨rfl, rfl⟩⟩]
          · rw [yset_ne (by omega), i2' u v hu hv, if_neg (by omega)]
  · obtain ⟨a, b', ha, hb', hab⟩ : ∃ a b' : Nat, a < 6 ∧ b' < 6 ∧ m = 6 * a + b' := ⟨m / 6, m % 6, by omega, by omega, by omega⟩
    have td : ((m : Int)).tdiv 6 = a := by
      rw [Int.tdiv_eq_ediv_of_nonneg (by omega)]
      omega
    have tm : ((m : Int)).tmod 6 = b' := by
      rw [Int.tmod_eq_emod_of_nonneg (by omega)]
      omega
    rw [td, tm, Ok_chk, Ok_chkI, Ok_chk, Ok_chkI]
    refine ⟨by decide, by omega, by decide, by omega, ?_⟩
    refine Ok_jq1 (fun (y : Int) => y = bs τ b a b') (fun y hy => ?_) (fun j hj => ?_)
    · rw [Ok_chkA, Ok_bnd, Ok_chkI, Int.toNat_natCast]
      refine ⟨by omega, by omega, rec _ _ ⟨m + 1, by omega, by omega, fun i hi => by rw [yset_off i hi]; exact i1 i hi, fun u v hu hv q3 => ?_⟩ (by omega)⟩
      by_cases c : 6 * u + v = m
      · have hu' : u = a ∧ v = b' := by omega
        rw [c, yset_at, hy, hu'.1, hu'.2]
      · rw [yset_ne (by omega)]
        exact i2 u v hu hv (by omega)
    · have ix : (36 * (b : Int) + (m : Int)).toNat = 36 * b + 6 * a + b' := by omega
      rw [i1 92 (by decide), h40, ix, i1 110 (by decide), Ok_ite]
      refine ⟨fun q2 => ?_, fun q2 => ?_⟩
      · rw [Ok_chkI, Ok_chkI, Ok_chkA]
        refine ⟨by omega, by omega, by omega, hj _ ?_⟩
        unfold bs
        rw [if_neg (by omega)]
      · refine hj _ ?_
        unfold bs
        rw [if_pos (by omega)]
/-- the town that stands, in both -/
def TD (σ τ : ySt) (T b mp mq md mw me L : Nat) (W : Nat → Int) : Prop :=
  (T = 13 ∨ T = 33) ∧ σ 0 5 = (T : Int) + 1 ∧ τ 92 40 = b ∧ b < 2 ∧ G1 σ τ (T + 1) 107 95 6 b mp 6 ∧ G1 σ τ (T + 3) 108 97 5 b mq 5 ∧ G1 σ τ (T + 5) 109 98 3 b md 3 ∧ ((∀ u v, u < 6 → v < 6 → bs τ b u v = W (6 * u + v)) ∧ (∀ u, u < 6 → W (6 * u + u) = 0) ∧ (∀ u v, u < 6 → v < 6 → u ≠ v → W (6 * u + v) = W (6 * v + u) ∧ (W (6 * u + v) = 1000000 ∨ (1 ≤ W (6 * u + v) ∧ W (6 * u + v) ≤ 999 ∧ u < mp ∧ v < mp)))) ∧ (σ T 15 = mw ∧ τ 96 b = mw ∧ mw ≤ 15) ∧ FT σ T mp md L W ∧ G5 σ τ T b mp mq me ∧ G6 σ τ T b ∧ G7 σ τ T b mp ∧ G8 σ τ T b mp mq ∧ G9 σ τ T b mp md ∧ RU σ τ T b L ∧ τ 105 b = (if L = 0 then 0 else 1) ∧ σ (T + 17) 3 = τ 102 b
theorem TD_RB9 {σ τ : ySt} {T b mp mq md mw me L : Nat} {W : Nat → Int} (h : TD σ τ T b mp mq md mw me L W) : RB9 σ τ T b mp md L := by
  obtain ⟨hT, h05, h40, hb, g1, g2, g3, w, wn, ft, g5, g6, g7, g8, g9, ru, hr, hu⟩ := h
  exact ⟨h40, hb, g1.2.2, g1.2.1, g7, g9, ru, hr⟩
theorem W_rg {mp : Nat} {W : Nat → Int} (h1 : ∀ u, u < 6 → W (6 * u + u) = 0) (h2 : ∀ u v, u < 6 → v < 6 → u ≠ v → W (6 * u + v) = W (6 * v + u) ∧ (W (6 * u + v) = 1000000 ∨ (1 ≤ W (6 * u + v) ∧ W (6 * u + v) ≤ 999 ∧ u < mp ∧ v < mp))) {u v : Nat} (hu : u < 6) (hv : v < 6) : 0 ≤ W (6 * u + v) ∧ W (6 * u + v) ≤ 1000000 := by
  by_cases c : u = v
  · subst c
    have := h1 u hu
    omega
  · have := (h2 u v hu hv c).2
    omega
/-- the reference's least minutes are the class's -/
theorem D_eq {σ τ : ySt} {T b mp mq md mw me L : Nat} {W : Nat → Int} (h : TD σ τ T b mp mq md mw me L W) {D : Nat → Nat → Int} (hD : MT 6 (bs τ b) D) {u v : Nat} (hu : u < mp) (hv : v < mp) : D u v = σ (T + 15) (6 * u + v) := by
  obtain ⟨hT, h05, h40, hb, g1, g2, g3, ⟨w1, w2, w3⟩, wn, ft, _⟩ := h
  have hmp : mp ≤ 6 := g1.2.1
  refine MT_ext (n := mp) (m := 6) (W := fun a b => W (6 * a + b)) (D := fun a b => σ (T + 15) (6 * a + b)) (K := 1000000) hmp (by decide) (fun a b ha hb => W_rg w2 w3 (by omega) (by omega)) (fun a b ha hb => ?_) ft.1 hD hu hv
  rw [w1 a b ha hb]
  by_cases c : a < mp ∧ b < mp
  · rw [if_pos c]
  · rw [if_neg c]
    by_cases c2 : a = b
    · rw [if_pos c2, c2]
      exact w2 b hb
    · rw [if_neg c2]
      have := (w3 a b ha hb c2).2
      omega
/-- what a question leaves alone -/
def FrQ (τ' τ : ySt) : Prop := (∀ i, i ≠ 92 → (i < 123 ∨ (135 < i ∧ i ≠ 140)) → τ' i = τ i) ∧ (∀ k, (k < 47 ∨ (55 < k ∧ (k < 68 ∨ 70 < k))) → τ' 92 k = τ 92 k)
theorem FrQ_rfl (τ : ySt) : FrQ τ τ := ⟨fun _ _ _ => rfl, fun _ _ => rfl⟩
theorem FrQ_tr {τ τ' τ'' : ySt} (h : FrQ τ' τ) (g : FrQ τ'' τ') : FrQ τ'' τ := ⟨fun i a c => (g.1 i a c).trans (h.1 i a c), fun k a => (g.2 k a).trans (h.2 k a)⟩
theorem FrQ_set {τ : ySt} {i j : Nat} {z : Int} (h : (i = 92 ∧ ((47 ≤ j ∧ j ≤ 55) ∨ (68 ≤ j ∧ j ≤ 70))) ∨ (123 ≤ i ∧ i ≤ 135) ∨ i = 140) : FrQ (yset τ i j z) τ := ⟨fun k a c => yset_off k (by omega), fun k a => yset_ne (by omega)⟩
theorem FrQ_off {τ τ' : ySt} (h : ∀ i, i ≠ 123 → i ≠ 124 → i ≠ 125 → τ' i = τ i) : FrQ τ' τ := ⟨fun i a c => h i (by omega) (by omega) (by omega), fun k a => by rw [h 92 (by decide) (by decide) (by decide)]⟩
theorem TD_FrQ {σ τ τ' : ySt} {T b mp mq md mw me L : Nat} {W : Nat → Int} (h : TD σ τ T b mp mq md mw me L W) (f : FrQ τ' τ) : TD σ τ' T b mp mq md mw me L W := by
  have e : ∀ i, 95 ≤ i → i ≤ 122 → τ' i = τ i := fun i h1 h2 => f.1 i (by omega) (by omega)
  obtain ⟨hT, h05, h40, hb, g1, g2, g3, ⟨w1, w2, w3⟩, ⟨n1, n2, n3⟩, ft, g5, g6, g7, g8, g9, ru, hr, hu⟩ := h
  refine ⟨hT, h05, by rw [f.2 40 (by omega)]; exact h40, hb, G1_of g1 rfl rfl (e 107 (by decide) (by decide)) (by rw [e 95 (by decide) (by decide)]), G1_of g2 rfl rfl (e 108 (by decide) (by decide)) (by rw [e 97 (by decide) (by decide)]), G1_of g3 rfl rfl (e 109 (by decide) (by decide)) (by rw [e 98 (by decide) (by decide)]), ⟨fun u v hu hv => by rw [← w1 u v hu hv]; unfold bs; rw [e 110 (by decide) (by decide)], w2, w3⟩, ⟨n1, by rw [e 96 (by decide) (by decide)]; exact n2, n3⟩, ft, G5_of g5 rfl rfl rfl rfl rfl (by rw [e 99 (by decide) (by decide)]) (e 114 (by decide) (by decide)) (e 115 (by decide) (by decide)) (e 116 (by decide) (by decide)) (e 117 (by decide) (by decide)) (Nat.le_refl _) (Nat.le_refl _), G6_of g6 rfl rfl (by rw [e 100 (by decide) (by decide)]) (by rw [e 101 (by decide) (by decide)]), G7_of g7 rfl (e 106 (by decide) (by decide)), G8_of g8 rfl rfl (e 111 (by decide) (by decide)) (e 112 (by decide) (by decide)) (Nat.le_refl _), G9_of g9 rfl (e 113 (by decide) (by decide)) (Nat.le_refl _), RU_of ru rfl rfl (by rw [e 118 (by decide) (by decide)]) (e 119 (by decide) (by decide)) (e 120 (by decide) (by decide)), by rw [e 105 (by decide) (by decide)]; exact hr, by rw [e 102 (by decide) (by decide)]; exact hu⟩
/-- a plain question -/
def QP (τ : ySt) (b : Nat) : Prop := τ 92 47 = τ 100 b ∧ τ 92 48 = τ 101 b ∧ τ 92 49 = 1 ∧ τ 92 51 = -1 ∧ τ 92 52 = -1 ∧ τ 92 53 = -1
theorem mo_plain_ok {b : Nat} {τ : ySt} (h40 : τ 92 40 = b) (hb : b < 2) : Ok (mo_plain τ) (fun τ' => FrQ τ' τ ∧ QP τ' b ∧ ∀ k, (k < 47 ∨ k = 50 ∨ 53 < k) → τ' 92 k = τ 92 k) := by
  unfold mo_plain
  have y40 : ∀ z, yset τ 92 47 z 92 40 = b := fun z => by rw [yset_ne (by omega)]; exact h40
  have y101 : ∀ z, yset τ 92 47 z 101 = τ 101 := fun z => yset_off 101 (by decide)
  rw [Ok_chkA, h40, Int.toNat_natCast, Ok_bnd, Ok_chkA, y40, Int.toNat_natCast, y101, Ok_bnd, Ok_bnd, Ok_bnd, Ok_bnd, Ok_bnd, Ok_some]
  refine ⟨by omega, by omega, ?_, ⟨?_, ?_, ?_, ?_, ?_, ?_⟩, ?_⟩
  · exact FrQ_tr (FrQ_tr (FrQ_tr (FrQ_tr (FrQ_tr (FrQ_set (by omega)) (FrQ_set (by omega))) (FrQ_set (by omega))) (FrQ_set (by omega))) (FrQ_set (by omega))) (FrQ_set (by omega))
  · rw [yset_ne (by omega), yset_ne (by omega), yset_ne (by omega), yset_ne (by omega), yset_ne (by omega), yset_at, yset_ne (by omega), yset_ne (by omega), yset_ne (by omega), yset_ne (by omega), yset_ne (by omega), yset_ne (by omega)]
  · rw [yset_ne (by omega), yset_ne (by omega), yset_ne (by omega), yset_ne (by omega), yset_at, yset_ne (by omega), yset_ne (by omega), yset_ne (by omega), yset_ne (by omega), yset_ne (by omega), yset_ne (by omega)]
  · rw [yset_ne (by omega), yset_ne (by omega), yset_ne (by omega), yset_at]
  · rw [yset_ne (by omega), yset_ne (by omega), yset_at]
  · rw [yset_ne (by omega), yset_at]
  · rw [yset_at]
  · intro k hk
    rw [yset_ne (by omega), yset_ne (by omega), yset_ne (by omega), yset_ne (by omega), yset_ne (by omega), yset_ne (by omega)]
