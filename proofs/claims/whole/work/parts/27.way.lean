/-! a line "way" -/
/-- the ways, in the class and in the model -/
def WR (σ : ySt) (T : Nat) (τ : ySt) (b : Nat) : Prop := ∀ i j : Nat, i < 6 → j < 6 → i ≠ j → σ (T + 15) (6 * i + j) = τ 110 (36 * b + 6 * i + j)
theorem L_second {N n p T b m a : Nat} {σ τ : ySt} {t : Nat → Int} (hN : 100000 ≤ N) (hT : T = 13 ∨ T = 33) (h : RT σ τ t n p) (h53 : σ 53 1 = T + 1) (hr : NR σ (T + 1) τ 107 (6 * b) m) (hm : m ≤ 6) (ha : a < m) (hw : WR σ T τ b) :
    Ok (cRd_isToldSecond N a σ) (fun r => (r = (0, σ) ∧ (nf (fun k => decide (τ 92 8 = 2) && decide (τ 107 (6 * b + k) = τ 92 10)) m = -1 ∨ (nf (fun k => decide (τ 92 8 = 2) && decide (τ 107 (6 * b + k) = τ 92 10)) m ≠ a ∧ 1000000 ≤ τ 110 (36 * b + 6 * a + (nf (fun k => decide (τ 92 8 = 2) && decide (τ 107 (6 * b + k) = τ 92 10)) m).toNat)))) ∨
      (r.1 = 1 ∧ eqC r.2 σ ∧ FC r.2 3 (tkA t n p) ∧ tkK t n p = 3 ∧ 0 ≤ nf (fun k => decide (τ 92 8 = 2) && decide (τ 107 (6 * b + k) = τ 92 10)) m ∧ (nf (fun k => decide (τ 92 8 = 2) && decide (τ 107 (6 * b + k) = τ 92 10)) m = a ∨ τ 110 (36 * b + 6 * a + (nf (fun k => decide (τ 92 8 = 2) && decide (τ 107 (6 * b + k) = τ 92 10)) m).toNat) < 1000000))) := by
  obtain ⟨tc, tm, fc, fm⟩ := h
  have hkd := yKd_nm T hT
  have h10 : tkK t n p = 3 ∨ 100 ≤ tkK t n p → τ 92 10 = enc8 (tkW t n p) := tm.2.2.2.2.2.2.2.2.2.1
  have same : tkK t n p = 3 → nf (fun k => decide (σ (T + 1 + 1) k = enc5 (tkW t n p))) m = nf (fun k => decide (τ 92 8 = 2) && decide (τ 107 (6 * b + k) = τ 92 10)) m := fun q => NR_find hr (tkW_wd (Or.inl q)).1 ((TM_tok tm).2.2.1.mpr q) (h10 (Or.inl q))
  have none : tkK t n p ≠ 3 → nf (fun k => decide (τ 92 8 = 2) && decide (τ 107 (6 * b + k) = τ 92 10)) m = -1 := fun q => here_none (fun e => q ((TM_tok tm).2.2.1.mp e))
  have hrg := nf_rg (fun k => decide (τ 92 8 = 2) && decide (τ 107 (6 * b + k) = τ 92 10)) m
  have hk : σ 1 3 = tkK t n p := tc.2.2.2.2.2.2.1
  have hwd : tkK t n p = 3 → σ 1 4 = enc5 (tkW t n p) := tc.2.2.2.2.2.2.2.2.1
  unfold cRd_isToldSecond
  generalize nf (fun k => decide (τ 92 8 = 2) && decide (τ 107 (6 * b + k) = τ 92 10)) m = F at same none hrg ⊢
  refine Ok_jq1 (fun y => y = F ∧ (tkK t n p ≠ 3 → F = -1)) (fun y hy => ?_) (fun x hx => ?_)
  · obtain ⟨rfl, hy2⟩ := hy
    rw [Ok_ite, Ok_some]
    refine ⟨fun q => Or.inl ⟨rfl, Or.inl q⟩, fun q => ?_⟩
    have k3 : tkK t n p = 3 := Classical.byContradiction (fun q2 => q (hy2 q2))
    obtain ⟨f, rfl⟩ : ∃ f : Nat, y = f := ⟨y.toNat, by omega⟩
    refine Ok_jq ((f : Int) = a ∨ τ 110 (36 * b + 6 * a + f) < 1000000) (fun q2 => ?_) (fun x hx => ?_)
    · rw [Ok_bndR]
      refine (cTp_blame_ok ⟨tc.1, tc.2⟩ 3).mono ?_
      rintro ⟨r, σ'⟩ ⟨g1, g2, g3⟩
      dsimp only at g1 g2 g3 ⊢
      rw [Ok_some]
      exact Or.inr ⟨rfl, g2.1, g3, k3, by omega, by rw [Int.toNat_natCast]; exact q2⟩
    · rw [Ok_ite]
      refine ⟨fun q2 => hx (Or.inl q2), fun q2 => ?_⟩
      have hix : ((a : Int) * 6 + (f : Int)).toNat = 6 * a + f := by omega
      have hcell := hw a f (by omega) (by omega) (by omega)
      rw [Ok_chkT_eq hT h53, Ok_chkI, Ok_chkI, Ok_chkA, hix, hcell, Ok_ite, Ok_some]
      refine ⟨by omega, by omega, by omega, fun q3 => hx (Or.inr q3), fun q3 => Or.inl ⟨rfl, Or.inr ⟨q2, by rw [Int.toNat_natCast]; omega⟩⟩⟩
  · rw [Ok_ite, hk]
    refine ⟨fun q => hx _ ⟨(none q).symm, fun _ => none q⟩, fun q => ?_⟩
    have k3 := Classical.not_not.mp q
    rw [Ok_chkT_eq hT h53, hwd k3, cNm_find_ok hN (by omega) hr.1 (by omega) (by omega), bndO_s, same k3]
    exact hx _ ⟨rfl, fun q2 => absurd k3 q2⟩
def wyW (r4 r13 r16 : Int) (σ17 : ySt) : Option ySt :=
  chkI (36 * (σ17 92 41)) <|
  chkI (6 * r4) <|
  chkI ((36 * (σ17 92 41)) + (6 * r4)) <|
  chkI (((36 * (σ17 92 41)) + (6 * r4)) + r13) <|
  chkA 72 (((36 * (σ17 92 41)) + (6 * r4)) + r13) <|
  bnd (yset σ17 110 ((((36 * (σ17 92 41)) + (6 * r4)) + r13)).toNat r16) fun σ23 =>
  chkI (36 * (σ23 92 41)) <|
  chkI (6 * r13) <|
  chkI ((36 * (σ23 92 41)) + (6 * r13)) <|
  chkI (((36 * (σ23 92 41)) + (6 * r13)) + r4) <|
  chkA 72 (((36 * (σ23 92 41)) + (6 * r13)) + r4) <|
  bnd (yset σ23 110 ((((36 * (σ23 92 41)) + (6 * r13)) + r4)).toNat r16) fun σ30 =>
  chkA 2 (σ30 92 41) <|
  chkI ((σ30 96 ((σ30 92 41)).toNat) + 1) <|
  chkA 2 (σ30 92 41) <|
  bnd (yset σ30 96 ((σ30 92 41)).toNat ((σ30 96 ((σ30 92 41)).toNat) + 1)) fun σ35 =>
  some σ35
def wyT (N : Nat) (r4 r7 : Int) (σ10 : ySt) : Option ySt := bndR (mo_told N r7 σ10) fun r13 σ14 => bndR (mo_after N 30796695599342963 1 999 σ14) fun r16 σ17 => wyW r4 r13 r16 σ17
theorem mo_readWay_eq (N : Nat) (σ : ySt) : mo_readWay N σ = (bndO (mo_placeHere N σ) fun r2 => bndR (mo_told N r2 σ) fun r4 σ5 => bndO (mo_placeHere N σ5) fun r7 => bndO (mo_isGood σ5) fun r9 => bnd (fun (σ10 : ySt) => wyT N r4 r7 σ10) fun j11 => if r9 = 0 then j11 σ5 else if ¬ (σ5 92 8) = 2 then j11 σ5 else if r7 < 0 then j11 σ5 else bnd (bndO (mo_fails 3 (σ5 92 6) σ5) fun σ42 => j11 σ42) fun j40 => if r4 = r7 then j40 else chkI (36 * (σ5 92 41)) <| chkI (6 * r4) <| chkI ((36 * (σ5 92 41)) + (6 * r4)) <| chkI (((36 * (σ5 92 41)) + (6 * r4)) + r7) <| chkA 72 (((36 * (σ5 92 41)) + (6 * r4)) + r7) <| if (σ5 110 ((((36 * (σ5 92 41)) + (6 * r4)) + r7)).toNat) ≥ 1000000 then j11 σ5 else j40) := rfl
theorem wyW_eq {b a c m : Nat} {A C v : Int} {ρ : ySt} (hb : b < 2) (hA : A = a) (hC : C = c) (ha : a < 6) (hc : c < 6) (hm : m < 20) (e41 : ρ 92 41 = b) (e96 : ρ 96 b = m) :
    wyW A C v ρ = some (yset (yset (yset ρ 110 (36 * b + 6 * a + c) v) 110 (36 * b + 6 * c + a) v) 96 b ((m : Int) + 1)) := by
  apply Ok_eq
  have h1 : ((36 : Int) * (b : Int) + 6 * (a : Int) + (c : Int)).toNat = 36 * b + 6 * a + c := by omega
  have h2 : ((36 : Int) * (b : Int) + 6 * (c : Int) + (a : Int)).toNat = 36 * b + 6 * c + a := by omega
  have f41 : ∀ (k : Nat) (z : Int) (ρ' : ySt), ρ' 92 41 = b → yset ρ' 110 k z 92 41 = b := by
    intro k z ρ' h
    rw [yset_ne (by omega)]
    exact h
  have f96 : ∀ (k : Nat) (z : Int) (ρ' : ySt), ρ' 96 b = m → yset ρ' 110 k z 96 b = m := by
    intro k z ρ' h
    rw [yset_ne (by omega)]
    exact h
  unfold wyW
  rw [hA, hC, e41, h1, Ok_chkI, Ok_chkI, Ok_chkI, Ok_chkI, Ok_chkA, Ok_bnd, f41 _ _ _ e41, h2, Ok_chkI, Ok_chkI, Ok_chkI, Ok_chkI, Ok_chkA, Ok_bnd, f41 _ _ _ (f41 _ _ _ e41), Int.toNat_natCast b, f96 _ _ _ (f96 _ _ _ e96), Ok_chkA, Ok_chkI, Ok_chkA, Ok_bnd, Ok_some]
  exact ⟨by omega, by omega, by omega, by omega, by omega, by omega, by omega, by omega, by omega, by omega, by omega, by omega, by omega, rfl⟩
theorem mo_told_failed {N : Nat} {σ : ySt} (g : σ 92 4 ≠ 0) (a : Int) : mo_told N a σ = some (0, σ) := mo_told_quiet g a
theorem wyT_bad {N b a m : Nat} {A r7 : Int} {ρ : ySt} (hb : b < 2) (hA : A = a) (ha : a < 6) (hm : m < 20) (e41 : ρ 92 41 = b) (e96 : ρ 96 b = m) (g : ρ 92 4 ≠ 0) :
    wyT N A r7 ρ = some (yset (yset (yset ρ 110 (36 * b + 6 * a + 0) 1) 110 (36 * b + 6 * 0 + a) 1) 96 b ((m : Int) + 1)) := by
  unfold wyT
  rw [mo_told_quiet g, bndR_s, mo_after_quiet g, bndR_s, wyW_eq (c := 0) (C := 0) hb hA rfl ha (by omega) hm e41 e96]
def updWay (σ : ySt) (T a c m : Nat) (v : Int) : ySt := yset (yset (yset σ (T + 15) (6 * a + c) v) (T + 15) (6 * c + a) v) T 15 ((m : Int) + 1)
def updWayM (τ : ySt) (b a c m : Nat) (v : Int) : ySt := yset (yset (yset τ 110 (36 * b + 6 * a + c) v) 110 (36 * b + 6 * c + a) v) 96 b ((m : Int) + 1)
theorem updWay_eqC {σ ρ : ySt} (h : eqC σ ρ) {T a c m : Nat} {v : Int} : eqC (updWay σ T a c m v) (updWay ρ T a c m v) := by
  unfold updWay
  exact eqC_set (eqC_set (eqC_set h))
theorem updWayM_eqM {σ ρ : ySt} (h : eqM σ ρ) {b a c m : Nat} {v : Int} : eqM (updWayM σ b a c m v) (updWayM ρ b a c m v) := by
  unfold updWayM
  exact eqM_set (eqM_set (eqM_set h (by decide)) (by decide)) (by decide)
theorem cTw_addWay_ok {T a c m : Nat} {A C v : Int} {σ : ySt} (hT : T = 13 ∨ T = 33) (hA : A = a) (hC : C = c) (ha : a < 6) (hc : c < 6) (h15 : σ T 15 = m) (hm : m < 20) :
    cTw_addWay T A C v σ = some (updWay σ T a c m v) := by
  apply Ok_eq
  have h1 : ((a : Int) * 6 + (c : Int)).toNat = 6 * a + c := by omega
  have h2 : ((c : Int) * 6 + (a : Int)).toNat = 6 * c + a := by omega
  have e15 : yset (yset σ (T + 15) (6 * a + c) v) (T + 15) (6 * c + a) v T 15 = m := by
    rw [yset_ne (by omega), yset_ne (by omega)]
    exact h15
  unfold cTw_addWay
  rw [hA, hC, Ok_chk, Ok_chkI, Ok_chkI, Ok_chkA, Ok_bnd, h1, Ok_chkI, Ok_chkI, Ok_chkA, Ok_bnd, h2, e15, Ok_chkI, Ok_bnd, Ok_some]
  exact ⟨hT, by omega, by omega, by omega, by omega, by omega, by omega, by omega, rfl⟩
