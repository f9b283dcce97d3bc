/-! a town in the class (T) and in the reference (b): what agrees -/
/-- how many numbers of a bank an array holds -/
def st (i : Nat) : Nat := if i = 106 ∨ i = 107 ∨ i = 113 then 6 else if i = 108 ∨ i = 111 ∨ i = 112 then 5 else if i = 109 then 3 else if i = 110 then 36 else if i = 114 ∨ i = 115 ∨ i = 116 ∨ i = 117 then 8 else if i = 119 ∨ i = 120 then 400 else 1
/-- what reading into bank b leaves alone -/
def FrB (b : Nat) (τ' τ : ySt) : Prop := (∀ i, i ≠ 92 → (i < 95 ∨ 122 < i) → τ' i = τ i) ∧ (∀ i j, 95 ≤ i → i ≤ 120 → (j < st i * b ∨ st i * b + st i ≤ j) → τ' i j = τ i j) ∧ (∀ k, (k < 4 ∨ 10 < k) → k ≠ 42 → k ≠ 43 → k ≠ 44 → τ' 92 k = τ 92 k)
theorem FrB_rfl (b : Nat) (τ : ySt) : FrB b τ τ := ⟨fun _ _ _ => rfl, fun _ _ _ _ _ => rfl, fun _ _ _ _ _ => rfl⟩
theorem FrB_tr {b : Nat} {τ τ' τ'' : ySt} (h : FrB b τ' τ) (g : FrB b τ'' τ') : FrB b τ'' τ := ⟨fun i a c => (g.1 i a c).trans (h.1 i a c), fun i j a c d => (g.2.1 i j a c d).trans (h.2.1 i j a c d), fun k a c d e => (g.2.2 k a c d e).trans (h.2.2 k a c d e)⟩
theorem FrB_eqM {b : Nat} {τ τ' : ySt} (h : eqM τ' τ) : FrB b τ' τ := ⟨fun i a _ => h.1 i a, fun i j a c d => by rw [h.1 i (by omega)], fun k a _ _ _ => h.2 k a⟩
theorem FrB_set {b : Nat} {τ : ySt} {i j : Nat} {z : Int} (h1 : 95 ≤ i) (h2 : i ≤ 120) (h3 : st i * b ≤ j) (h4 : j < st i * b + st i) : FrB b (yset τ i j z) τ := by
  refine ⟨fun k a c => yset_off k (by omega), fun k l a c d => ?_, fun k _ _ _ _ => yset_ne (by omega)⟩
  by_cases e : k = i
  · rw [e] at d
    exact yset_ne (by omega)
  · exact yset_ne (Or.inl e)
theorem FrB_FrM {b : Nat} {τ τ' : ySt} (h : FrM b τ' τ) : FrB b τ' τ := by
  refine ⟨fun i a c => h.1 i a (by omega) (by omega) (by omega) (by omega) (by omega), fun i j a c d => ?_, fun k a c d e => h.2.2.2 k a c d e⟩
  by_cases e2 : i = 102
  · subst e2
    refine h.2.1 j ?_
    have : st 102 = 1 := rfl
    rw [this] at d
    omega
  · by_cases e3 : i = 119
    · subst e3
      have : st 119 = 400 := rfl
      rw [this] at d
      exact (h.2.2.1 j (by omega)).1
    · by_cases e4 : i = 120
      · subst e4
        have : st 120 = 400 := rfl
        rw [this] at d
        exact (h.2.2.1 j (by omega)).2
      · rw [h.1 i (by omega) e2 e3 e4 (by omega) (by omega)]
/-- what reading into town T leaves alone -/
def FrT (T : Nat) (σ' σ : ySt) : Prop := (∀ i, i ≠ 1 → i ≠ 53 → (i < T ∨ T + 18 < i) → σ' i = σ i) ∧ (∀ k, k ≠ 2 → k ≠ 3 → k ≠ 4 → σ' 53 k = σ 53 k)
theorem FrT_rfl (T : Nat) (σ : ySt) : FrT T σ σ := ⟨fun _ _ _ _ => rfl, fun _ _ _ _ => rfl⟩
theorem FrT_tr {T : Nat} {σ σ' σ'' : ySt} (h : FrT T σ' σ) (g : FrT T σ'' σ') : FrT T σ'' σ := ⟨fun i a c d => (g.1 i a c d).trans (h.1 i a c d), fun k a c d => (g.2 k a c d).trans (h.2 k a c d)⟩
theorem FrT_eqC {T : Nat} {σ σ' : ySt} (h : eqC σ' σ) : FrT T σ' σ := ⟨fun i a _ _ => h i a, fun k _ _ _ => by rw [h 53 (by decide)]⟩
theorem FrT_set {T : Nat} {σ : ySt} {i j : Nat} {z : Int} (hT : T = 13 ∨ T = 33) (h1 : T ≤ i) (h2 : i ≤ T + 18) : FrT T (yset σ i j z) σ := ⟨fun k a c d => yset_off k (by omega), fun k a c d => yset_ne (by omega)⟩
theorem FrT_53 {T : Nat} {σ : ySt} {j : Nat} {z : Int} (h : j = 2 ∨ j = 3 ∨ j = 4) : FrT T (yset σ 53 j z) σ := ⟨fun k a c d => yset_off k c, fun k a c d => yset_ne (by omega)⟩
theorem FrT_FrC {T : Nat} {σ σ' : ySt} (hT : T = 13 ∨ T = 33) (h : FrC (T + 17) σ' σ) : FrT T σ' σ := ⟨fun i a c d => h i a (by omega) (by omega), fun k _ _ _ => by rw [h 53 (by decide) (by omega) (by omega)]⟩
/-- how many of the first m stand at p -/
def cnt (f : Nat → Int) : Nat → Int → Int
  | 0, _ => 0
  | m + 1, p => cnt f m p + (if f m = p then 1 else 0)
theorem cnt_congr {f g : Nat → Int} : ∀ (m : Nat) (p : Int), (∀ k, k < m → f k = g k) → cnt f m p = cnt g m p
  | 0, _, _ => rfl
  | m + 1, p, h => by
    unfold cnt
    rw [cnt_congr m p (fun k hk => h k (by omega)), h m (by omega)]
theorem cnt_rg (f : Nat → Int) : ∀ (m : Nat) (p : Int), 0 ≤ cnt f m p ∧ cnt f m p ≤ m
  | 0, _ => ⟨Int.le_refl 0, Int.le_refl 0⟩
  | m + 1, p => by
    have := cnt_rg f m p
    unfold cnt
    split <;> omega
def G4 (σ τ : ySt) (T b mp mw : Nat) : Prop := WR σ T τ b ∧ σ T 15 = mw ∧ mw ≤ 15 ∧ τ 96 b = mw ∧ (∀ i, i < 6 → σ (T + 15) (7 * i) = 0) ∧ (∀ i j, i < 6 → j < 6 → i ≠ j → σ (T + 15) (6 * i + j) = σ (T + 15) (6 * j + i) ∧ (σ (T + 15) (6 * i + j) = 1000000 ∨ (1 ≤ σ (T + 15) (6 * i + j) ∧ σ (T + 15) (6 * i + j) ≤ 999 ∧ i < mp ∧ j < mp)))
def G5 (σ τ : ySt) (T b mp mq me : Nat) : Prop := σ T 14 = me ∧ me ≤ 8 ∧ τ 99 b = me ∧ ∀ k, k < me → (σ (T + 11) k = τ 114 (8 * b + k) ∧ 0 ≤ σ (T + 11) k ∧ σ (T + 11) k < mq) ∧ (σ (T + 12) k = τ 115 (8 * b + k) ∧ 0 ≤ σ (T + 12) k ∧ σ (T + 12) k < mp) ∧ (σ (T + 13) k = τ 116 (8 * b + k) ∧ 1 ≤ σ (T + 13) k ∧ σ (T + 13) k ≤ 8) ∧ (σ (T + 14) k = τ 117 (8 * b + k) ∧ 0 ≤ σ (T + 14) k ∧ σ (T + 14) k ≤ 999)
def G6 (σ τ : ySt) (T b : Nat) : Prop := (σ T 16 = τ 100 b ∧ 1 ≤ σ T 16 ∧ σ T 16 ≤ 999) ∧ (σ T 17 = τ 101 b ∧ 1 ≤ σ T 17 ∧ σ T 17 ≤ 8)
def G7 (σ τ : ySt) (T b mp : Nat) : Prop := ∀ k, k < mp → σ (T + 7) k = τ 106 (6 * b + k) ∧ (σ (T + 7) k = 0 ∨ σ (T + 7) k = 1)
def G8 (σ τ : ySt) (T b mp mq : Nat) : Prop := ∀ k, k < mq → (σ (T + 8) k = τ 111 (5 * b + k) ∧ 0 ≤ σ (T + 8) k ∧ σ (T + 8) k < mp) ∧ (σ (T + 9) k = τ 112 (5 * b + k) ∧ 0 ≤ σ (T + 9) k ∧ σ (T + 9) k ≤ 99)
def G9 (σ τ : ySt) (T b mp md : Nat) : Prop := (∀ k, k < md → ∃ w : Nat, w < mp ∧ σ (T + 10) k = w) ∧ (∀ p : Nat, p < 6 → τ 113 (6 * b + p) = cnt (σ (T + 10)) md p)
def G1 (σ τ : ySt) (o a c s b m mx : Nat) : Prop := NR σ o τ a (s * b) m ∧ m ≤ mx ∧ τ c b = m
def TB (σ τ : ySt) (T b mp mq md mw me L : Nat) : Prop :=
  G1 σ τ (T + 1) 107 95 6 b mp 6 ∧ G1 σ τ (T + 3) 108 97 5 b mq 5 ∧ G1 σ τ (T + 5) 109 98 3 b md 3 ∧ G4 σ τ T b mp mw ∧ G5 σ τ T b mp mq me ∧ G6 σ τ T b ∧ G7 σ τ T b mp ∧ G8 σ τ T b mp mq ∧ G9 σ τ T b mp md ∧ RU σ τ T b L
theorem G1_of {σ τ σ' τ' : ySt} {o a c s b m mx : Nat} (h : G1 σ τ o a c s b m mx) (e1 : σ' o = σ o) (e2 : σ' (o + 1) = σ (o + 1)) (e3 : τ' a = τ a) (e4 : τ' c b = τ c b) : G1 σ' τ' o a c s b m mx := by
  unfold G1 NR at h ⊢
  rw [e1, e2, e3, e4]
  exact h
theorem G4_of {σ τ σ' τ' : ySt} {T b mp mp' mw : Nat} (h : G4 σ τ T b mp mw) (e1 : σ' (T + 15) = σ (T + 15)) (e2 : σ' T 15 = σ T 15) (e3 : τ' 110 = τ 110) (e4 : τ' 96 b = τ 96 b) (hm : mp ≤ mp') : G4 σ' τ' T b mp' mw := by
  obtain ⟨a1, a2, a3, a4, a5, a6⟩ := h
  unfold G4 WR at *
  rw [e1, e2, e3, e4]
  refine ⟨a1, a2, a3, a4, a5, fun i j hi hj hij => ⟨(a6 i j hi hj hij).1, ?_⟩⟩
  have := (a6 i j hi hj hij).2
  omega
theorem G5_of {σ τ σ' τ' : ySt} {T b mp mp' mq mq' me : Nat} (h : G5 σ τ T b mp mq me) (e0 : σ' T 14 = σ T 14) (e1 : σ' (T + 11) = σ (T + 11)) (e2 : σ' (T + 12) = σ (T + 12)) (e3 : σ' (T + 13) = σ (T + 13)) (e4 : σ' (T + 14) = σ (T + 14)) (f0 : τ' 99 b = τ 99 b) (f1 : τ' 114 = τ 114) (f2 : τ' 115 = τ 115) (f3 : τ' 116 = τ 116) (f4 : τ' 117 = τ 117) (hm : mp ≤ mp') (hq : mq ≤ mq') : G5 σ' τ' T b mp' mq' me := by
  unfold G5 at h ⊢
  rw [e0, e1, e2, e3, e4, f0, f1, f2, f3, f4]
  refine ⟨h.1, h.2.1, h.2.2.1, fun k hk => ?_⟩
  obtain ⟨⟨a1, a2, a3⟩, ⟨b1, b2, b3⟩, c, d⟩ := h.2.2.2 k hk
  exact ⟨⟨a1, a2, by omega⟩, ⟨b1, b2, by omega⟩, c, d⟩
theorem G6_of {σ τ σ' τ' : ySt} {T b : Nat} (h : G6 σ τ T b) (e1 : σ' T 16 = σ T 16) (e2 : σ' T 17 = σ T 17) (e3 : τ' 100 b = τ 100 b) (e4 : τ' 101 b = τ 101 b) : G6 σ' τ' T b := by
  unfold G6 at h ⊢
  rw [e1, e2, e3, e4]
  exact h
theorem G7_of {σ τ σ' τ' : ySt} {T b mp : Nat} (h : G7 σ τ T b mp) (e1 : σ' (T + 7) = σ (T + 7)) (e2 : τ' 106 = τ 106) : G7 σ' τ' T b mp := by
  unfold G7 at h ⊢
  rw [e1, e2]
  exact h
theorem G8_of {σ τ σ' τ' : ySt} {T b mp mp' mq : Nat} (h : G8 σ τ T b mp mq) (e1 : σ' (T + 8) = σ (T + 8)) (e2 : σ' (T + 9) = σ (T + 9)) (f1 : τ' 111 = τ 111) (f2 : τ' 112 = τ 112) (hm : mp ≤ mp') : G8 σ' τ' T b mp' mq := by
  unfold G8 at h ⊢
  rw [e1, e2, f1, f2]
  intro k hk
  obtain ⟨⟨a1, a2, a3⟩, c⟩ := h k hk
  exact ⟨⟨a1, a2, by omega⟩, c⟩
theorem G9_of {σ τ σ' τ' : ySt} {T b mp mp' md : Nat} (h : G9 σ τ T b mp md) (e1 : σ' (T + 10) = σ (T + 10)) (e2 : τ' 113 = τ 113) (hm : mp ≤ mp') : G9 σ' τ' T b mp' md := by
  unfold G9 at h ⊢
  rw [e1, e2]
  refine ⟨fun k hk => ?_, h.2⟩
  obtain ⟨w, h1, h2⟩ := h.1 k hk
  exact ⟨w, by omega, h2⟩
theorem RU_of {σ τ σ' τ' : ySt} {T b L : Nat} (h : RU σ τ T b L) (e1 : σ' (T + 17) 2 = σ (T + 17) 2) (e2 : σ' (T + 18) = σ (T + 18)) (f1 : τ' 118 b = τ 118 b) (f2 : τ' 119 = τ 119) (f3 : τ' 120 = τ 120) : RU σ' τ' T b L := by
  unfold RU at h ⊢
  rw [e1, e2, f1, f2, f3]
  exact h
/-- a town that nothing reaches -/
theorem TB_of {σ τ σ' τ' : ySt} {T b mp mq md mw me L : Nat} (h : TB σ τ T b mp mq md mw me L) (e : ∀ i, T ≤ i → i ≤ T + 18 → σ' i = σ i) (f : ∀ i, 95 ≤ i → i ≤ 120 → i ≠ 102 → i ≠ 103 → i ≠ 104 → i ≠ 105 → τ' i = τ i) : TB σ' τ' T b mp mq md mw me L := by
  obtain ⟨g1, g2, g3, g4, g5, g6, g7, g8, g9, g0⟩ := h
  have f' : ∀ i, 95 ≤ i → i ≤ 120 → i ≠ 102 → i ≠ 103 → i ≠ 104 → i ≠ 105 → τ' i b = τ i b := fun i a1 a2 a3 a4 a5 a6 => by rw [f i a1 a2 a3 a4 a5 a6]
  have e' : ∀ k, σ' T k = σ T k := fun k => by rw [e T (by omega) (by omega)]
  refine ⟨G1_of g1 (e _ (by omega) (by omega)) (e _ (by omega) (by omega)) (f _ (by omega) (by omega) (by omega) (by omega) (by omega) (by omega)) (f' _ (by omega) (by omega) (by omega) (by omega) (by omega) (by omega)), G1_of g2 (e _ (by omega) (by omega)) (e _ (by omega) (by omega)) (f _ (by omega) (by omega) (by omega) (by omega) (by omega) (by omega)) (f' _ (by omega) (by omega) (by omega) (by omega) (by omega) (by omega)), G1_of g3 (e _ (by omega) (by omega)) (e _ (by omega) (by omega)) (f _ (by omega) (by omega) (by omega) (by omega) (by omega) (by omega)) (f' _ (by omega) (by omega) (by omega) (by omega) (by omega) (by omega)), ?_, ?_, ?_, ?_, ?_, ?_, ?_⟩
  · exact G4_of g4 (e _ (by omega) (by omega)) (e' _) (f _ (by omega) (by omega) (by omega) (by omega) (by omega) (by omega)) (f' _ (by omega) (by omega) (by omega) (by omega) (by omega) (by omega)) (Nat.le_refl mp)
  · exact G5_of g5 (e' _) (e _ (by omega) (by omega)) (e _ (by omega) (by omega)) (e _ (by omega) (by omega)) (e _ (by omega) (by omega)) (f' _ (by omega) (by omega) (by omega) (by omega) (by omega) (by omega)) (f _ (by omega) (by omega) (by omega) (by omega) (by omega) (by omega)) (f _ (by omega) (by omega) (by omega) (by omega) (by omega) (by omega)) (f _ (by omega) (by omega) (by omega) (by omega) (by omega) (by omega)) (f _ (by omega) (by omega) (by omega) (by omega) (by omega) (by omega)) (Nat.le_refl mp) (Nat.le_refl mq)
  · exact G6_of g6 (e' _) (e' _) (f' _ (by omega) (by omega) (by omega) (by omega) (by omega) (by omega)) (f' _ (by omega) (by omega) (by omega) (by omega) (by omega) (by omega))
  · exact G7_of g7 (e _ (by omega) (by omega)) (f _ (by omega) (by omega) (by omega) (by omega) (by omega) (by omega))
  · exact G8_of g8 (e _ (by omega) (by omega)) (e _ (by omega) (by omega)) (f _ (by omega) (by omega) (by omega) (by omega) (by omega) (by omega)) (f _ (by omega) (by omega) (by omega) (by omega) (by omega) (by omega)) (Nat.le_refl mp)
  · exact G9_of g9 (e _ (by omega) (by omega)) (f _ (by omega) (by omega) (by omega) (by omega) (by omega) (by omega)) (Nat.le_refl mp)
  · exact RU_of g0 (by rw [e (T + 17) (by omega) (by omega)]) (e _ (by omega) (by omega)) (f' _ (by omega) (by omega) (by omega) (by omega) (by omega) (by omega)) (f _ (by omega) (by omega) (by omega) (by omega) (by omega) (by omega)) (f _ (by omega) (by omega) (by omega) (by omega) (by omega) (by omega))
