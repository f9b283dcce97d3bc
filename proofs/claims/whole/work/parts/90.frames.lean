/-! what is held for questions stays, where the class's town stays -/
theorem TD_C {σ σ' τ : ySt} {T b mp mq md mw me L : Nat} {W : Nat → Int} (h : TD σ τ T b mp mq md mw me L W) (e : ∀ i, i < 53 → σ' i = σ i) : TD σ' τ T b mp mq md mw me L W := by
  obtain ⟨hT, h05, h40, hb, g1, g2, g3, w, ⟨n1, n2, n3⟩, ft, g5, g6, g7, g8, g9, ru, hr, hu⟩ := h
  have eT : ∀ k, k ≤ 19 → σ' (T + k) = σ (T + k) := fun k hk => e (T + k) (by omega)
  have e0 : σ' T = σ T := eT 0 (by omega)
  refine ⟨hT, by rw [e 0 (by decide)]; exact h05, h40, hb, G1_of g1 (eT 1 (by omega)) (eT 2 (by omega)) rfl rfl, G1_of g2 (eT 3 (by omega)) (eT 4 (by omega)) rfl rfl, G1_of g3 (eT 5 (by omega)) (eT 6 (by omega)) rfl rfl, w, ⟨by rw [e0]; exact n1, n2, n3⟩, ?_, G5_of g5 (by rw [e0]) (eT 11 (by omega)) (eT 12 (by omega)) (eT 13 (by omega)) (eT 14 (by omega)) rfl rfl rfl rfl rfl (Nat.le_refl _) (Nat.le_refl _), G6_of g6 (by rw [e0]) (by rw [e0]) rfl rfl, G7_of g7 (eT 7 (by omega)) rfl, G8_of g8 (eT 8 (by omega)) (eT 9 (by omega)) rfl rfl (Nat.le_refl _), G9_of g9 (eT 10 (by omega)) rfl (Nat.le_refl _), RU_of ru (by rw [eT 17 (by omega)]) (eT 18 (by omega)) rfl rfl rfl, hr, by rw [eT 17 (by omega)]; exact hu⟩
  unfold FT rgt at ft ⊢
  rw [eT 15 (by omega), eT 16 (by omega), eT 7 (by omega), eT 18 (by omega), eT 10 (by omega)]
  exact ft
theorem QI_of {σ σ' τ τ' : ySt} {T b mp mq md mw me L S hr : Nat} {W : Nat → Int} (h : QI σ τ T b mp mq md mw me L S hr W) (f : FrQ τ' τ) (e : ∀ i, i < 59 → σ' i = σ i) (hca : CA σ' T mp mq me md L S hr) : QI σ' τ' T b mp mq md mw me L S hr W := by
  obtain ⟨hTD, hTW, h58, hS, hH, _⟩ := h
  have hT := hTD.1
  exact ⟨TD_C (TD_FrQ hTD f) (fun i hi => e i (by omega)), TW_of hTW (fun i x y => e i (by omega)), by rw [e 58 (by decide)]; exact h58, by rw [e T (by omega)]; exact hS, by rw [e T (by omega)]; exact hH, hca⟩
theorem CK_of {σ σ' : ySt} {T mp mq me md L S hr : Nat} (hT : T = 13 ∨ T = 33) (h : CK σ T mp mq me md L S hr) (e : ∀ i, (i < 60 ∨ (70 < i ∧ i < 74)) → σ' i = σ i) : CK σ' T mp mq me md L S hr := by
  have eT : ∀ i, T ≤ i → i ≤ T + 19 → σ' i = σ i := fun i x y => e i (by omega)
  intro a ha h71
  have eb : bK σ' T mp mq me md L S hr a = bK σ T mp mq me md L S hr a := funext fun s => bK_of eT
  rw [e 71 (by omega)] at h71
  rw [eb, e 72 (by omega), e 73 (by omega)]
  exact h a ha h71
