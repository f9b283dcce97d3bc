/-! a line "way" -/
/-- the ways, in the class and in the model -/
def WR (σ : ySt) (T : Nat) (τ : ySt) (b : Nat) : Prop := ∀ i j : Nat, i < 6 → j < 6 → i ≠ j → σ (T + 15) (6 * i + j) = τ 110 (36 * b + 6 * i + j)
theorem L_second {N n p T b m a : Nat} {σ τ : ySt} {t : Nat → Int} (hN : 100000 ≤ N) (hT : T = 13 ∨ T = 33) (h : RT σ τ t n p) (h53 : σ 53 1 = T + 1) (hr : NR σ (T + 1) τ 107 (6 * b) m) (hm : m ≤ 6) (ha : a < m) (hw : WR σ T τ b) :
    Ok (cRd_isToldSecond N a σ) (fun r => (r = (0, σ) ∧ (nf (fun k => decide (τ 92 8 = 2) && decide (τ 107 (6 * b + k) = τ 92 10)) m = -1 ∨ (nf (fun k => decide (τ 92 8 = 2) && decide (τ 107 (6 * b + k) = τ 92 10)) m ≠ a ∧ 1000000 ≤ τ 110 (36 * b + 6 * a + (nf (fun k => decide (τ 92 8 = 2) && decide (τ 107 (6 * b + k) = τ 92 10)) m).toNat)))) ∨
      (r.1 = 1 ∧ eqC r.2 σ ∧ FC r.2 3 (tkA t n p) ∧ tkK t n p = 3 ∧ 0 ≤ nf (fun k => decide (τ 92 8 = 2) && decide (τ 107 (6 * b + k) = τ 92 10)) m ∧ (nf (fun k => decide (τ 92 8 = 2) && decide (τ 107 (6 * b + k) = τ 92 10)) m = a ∨ τ 110 (36 * b + 6 * a + (nf (fun k => decide (τ 92 8 = 2) && decide (τ 107 (6 * b + k) = τ 92 10)) m).toNat) < 1000000))) := by
  obtain ⟨tc, tm, fc, fm⟩ := h
  have hkd := yKd_nm T hT
  have h10 : tkK t n p = 3 ∨ 100 ≤ tkK t n p → τ 92 10 = enc8 (tkW t n p) := tm.2.2.2.2.2.2.2.2.2.1
  have same : tkK t n p = 3 → nf (fun k => decide (σ (T + 1 + 1) k = enc5 (tkW t n p))) m = nf (fun k => decide (τ 92 8 = 2) && decide (τ 107 (6 * b + k) = τ 92 10)) m := fun q => NR_find hr (tkW_wd (Or.inl q)).1 ((TM_tok tm).2.2.1.mpr q) (h10 (Or.inl q))
  have none : tkK t n p ≠ 3 → nf (fun k => decide (τ 92 8 = 2) && decide (τ 107 (6 * b + k) = τ 92 10)) m = -1 := fun q => here_none (fun e => q ((TM_tok tm).2.2.1.mp e))
  have hrg := nf_rg (fun k => decide (τ 92 8 = 2) && decide (τ 107 (6 * b + k) = τ 92 10)) m
  have hk : σ 1 3 = tkK t n p := tc.2.2.2.2.2.2.1
  have hwd : tkK t n p = 3 → σ 1 4 = enc5 (tkW t n p) := tc.2.2.2.2.2.2.2.2.1
  unfold cRd_isToldSecond
  generalize nf (fun k => decide (τ 92 8 = 2) && decide (τ 107 (6 * b + k) = τ 92 10)) m = F at same none hrg ⊢
  refine Ok_jq1 (fun y => y = F ∧ (tkK t n p ≠ 3 → F = -1)) (fun y hy => ?_) (fun x hx => ?_)
  · obtain ⟨rfl, hy2⟩ := hy
    rw [Ok_ite, Ok_some]
    refine ⟨fun q => Or.inl ⟨rfl, Or.inl q⟩, fun q => ?_⟩
    have k3 : tkK t n p = 3 := Classical.byContradiction (fun q2 => q (hy2 q2))
    obtain ⟨f, rfl⟩ : ∃ f : Nat, y = f := ⟨y.toNat, by omega⟩
    refine Ok_jq ((f : Int) = a ∨ τ 110 (36 * b + 6 * a + f) < 1000000) (fun q2 => ?_) (fun x hx => ?_)
    · rw [Ok_bndR]
      refine (cTp_blame_ok ⟨tc.1, tc.2⟩ 3).mono ?_
      rintro ⟨r, σ'⟩ ⟨g1, g2, g3⟩
      dsimp only at g1 g2 g3 ⊢
      rw [Ok_some]
      exact Or.inr ⟨rfl, g2.1, g3, k3, by omega, by rw [Int.toNat_natCast]; exact q2⟩
    · rw [Ok_ite]
      refine ⟨fun q2 => hx (Or.inl q2), fun q2 => ?_⟩
      have hix : ((a : Int) * 6 + (f : Int)).toNat = 6 * a + f := by omega
      have hcell := hw a f (by omega) (by omega) (by omega)
      rw [Ok_chkT_eq hT h53, Ok_chkI, Ok_chkI, Ok_chkA, hix, hcell, Ok_ite, Ok_some]
      refine ⟨by omega, by omega, by omega, fun q3 => hx (Or.inr q3), fun q3 => Or.inl ⟨rfl, Or.inr ⟨q2, by rw [Int.toNat_natCast]; omega⟩⟩⟩
  · rw [Ok_ite, hk]
    refine ⟨fun q => hx _ ⟨(none q).symm, fun _ => none q⟩, fun q => ?_⟩
    have k3 := Classical.not_not.mp q
    rw [Ok_chkT_eq hT h53, hwd k3, cNm_find_ok hN (by omega) hr.1 (by omega) (by omega), bndO_s, same k3]
    exact hx _ ⟨rfl, fun q2 => absurd k3 q2⟩
