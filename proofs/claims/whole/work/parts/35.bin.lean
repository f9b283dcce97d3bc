/-! the rule: what each level of the class's reading comes to -/
def cc : Nat → Nat → Nat
  | 0, b => b
  | 1, b => b
  | 2, b => b
  | _, _ => 7
def mm : Nat → Nat → Nat
  | 0, b => 2 + b
  | 1, b => 2 + b
  | 2, b => 2 + b
  | _, _ => 9
def ee : Nat → Nat → Nat
  | 0, b => b
  | 1, b => b
  | 2, b => b
  | _, _ => 6
def ff : Nat → Nat → Nat
  | 0, b => 8 - b
  | 1, b => 8 - b
  | 2, b => 8 - b
  | _, _ => 1
def sz : Nat → Nat
  | 0 => 0
  | 1 => 1
  | 2 => 2
  | 3 => 2
  | 4 => 3
  | 5 => 4
  | _ => 5
def lx : Nat → Nat
  | 0 => 1
  | 1 => 2
  | 2 => 4
  | 3 => 4
  | 4 => 5
  | 5 => 6
  | _ => 100
theorem lvl_facts {g b : Nat} (hg : g = 0 ∨ g = 1 ∨ g = 3 ∨ g = 4 ∨ g = 5) (hb : b ≤ 7) : 2 ≤ mm (g + 1) b ∧ ee g b ≤ ee (g + 1) b ∧ 1 + ff (g + 1) b ≤ ff g b + mm g b ∧ sz g + 1 ≤ sz (g + 1) ∧ g + 1 < lx (g + 1) ∧ sz g ≤ 5 ∧ lx g = g + 1 := by
  rcases hg with rfl | rfl | rfl | rfl | rfl
  all_goals
    simp only [mm, ee, ff, sz, lx, Nat.reduceAdd]
    exact ⟨by omega, by omega, by omega, by omega, by omega, by omega, trivial⟩
def TK (N q : Nat) (τ : ySt) (r : Int) : Prop := r < q ∨ (q ≤ 4 ∧ r = 4 ∧ mo_isCompared N τ = some 1)
def TP (g : Nat) (top k : Int) : Prop := (top < lx g ∨ 6 < top) ∧ (3 ≤ g → k = 116 → 4 ≤ top ∧ top ≤ 6)
/-- before -/
def PR (g b : Nat) (σ τ : ySt) (t : Nat → Int) (n p o bk s U L : Nat) : Prop :=
  RT σ τ t n p ∧ PS σ τ o bk s (g + 1) b U L L 0 ∧ 1 ≤ s ∧ s ≤ 1 + 6 * b + sz g ∧ b ≤ 7 ∧ U ≤ 40 ∧ L ≤ 9 * U ∧ 0 ≤ dp (σ (o + 1)) L ∧ dp (σ (o + 1)) L ≤ U ∧ TP g (τ 121 (s - 1)) (tkK t n p) ∧ (o = 30 ∨ o = 50)
/-- read -/
def RS (N g b lv : Nat) (σ τ : ySt) (t : Nat → Int) (n o bk s U L q U' : Nat) (σ' : ySt) : Prop :=
  ∃ (τ' : ySt) (p' L' M' e' m : Nat), RE N m 1 τ 0 τ' ∧ RT σ' τ' t n p' ∧ PS σ' τ' o bk s lv b U' L' M' e' ∧ U < U' ∧ U' ≤ 40 ∧ L' + 1 + cc g b + 9 * U ≤ L + 9 * U' ∧ dp (σ' (o + 1)) L' = dp (σ (o + 1)) L + 1 ∧ m + mm g b + 12 * U ≤ 12 * U' ∧ e' + ee g b + g ≤ 12 ∧ FrP s τ' τ ∧ FrC o σ' σ ∧ FrM bk τ' τ ∧ TK N q τ' (rk (tkK t n p'))
/-- a fault -/
def RF (N g b : Nat) (σ τ : ySt) (t : Nat → Int) (n o bk U : Nat) (σ' : ySt) : Prop :=
  ∃ (τ' : ySt) (x : Int) (m U' : Nat), RE N m 1 τ x τ' ∧ RB σ' τ' t n ∧ U ≤ U' ∧ U' ≤ 40 ∧ m + 12 * U ≤ 12 * U' + ff g b ∧ FrC o σ' σ ∧ FrM bk τ' τ
def PO (N g b : Nat) (σ τ : ySt) (t : Nat → Int) (n o bk s U L : Nat) (r : Int × ySt) : Prop :=
  (r.1 = 1 ∧ ∃ U', RS N g b (g + 1) σ τ t n o bk s U L (g + 1) U' r.2) ∨ (r.1 = 0 ∧ RF N g b σ τ t n o bk U r.2)
def RD (N : Nat) (rec : Nat → Nat → Int → ySt → Option (Int × ySt)) (g b : Nat) : Prop :=
  ∀ (σ τ : ySt) (t : Nat → Int) (n p o bk s U L : Nat), PR g b σ τ t n p o bk s U L → Ok (rec g o b σ) (PO N g b σ τ t n o bk s U L)
theorem PS_C {σ σ' τ : ySt} {o bk s lv b U L M e : Nat} (h : PS σ τ o bk s lv b U L M e) (h1 : σ' o = σ o) (h2 : σ' (o + 1) = σ (o + 1)) : PS σ' τ o bk s lv b U L M e := by
  unfold PS at h ⊢
  rw [h1, h2]
  exact h
theorem PS_lv {σ τ : ySt} {o bk s lv lv' b U L M e : Nat} (h : PS σ τ o bk s lv b U L M e) (hl : lv' ≤ lv) : PS σ τ o bk s lv' b U L M e := by
  obtain ⟨a1, a2, a3, a4, a5, a6, a7, a8, a9, a10, a11, a12, a13⟩ := h
  exact ⟨a1, a2, a3, a4, a5, a6, a7, a8, a9, a10, a11, fun j hj => ⟨by have := (a12 j hj).1; omega, (a12 j hj).2⟩, a13⟩
theorem PS_put {σ τ : ySt} {o bk s lv lv' b b' U L M e : Nat} {x : Int} (h : PS σ τ o bk (s + 1) lv' b' U L M e) (hlv : lv ≤ lv') (hr : (lv : Int) ≤ τ 121 s ∧ τ 121 s ≤ 6) (hb : b' = b + (if τ 121 s = 3 then 1 else 0)) (hx : OE x (τ 122 s)) (h1 : dl x = 1 → dp (σ (o + 1)) L ≤ 39) (h0 : dl x = 0 → 1 ≤ dp (σ (o + 1)) L) (h2 : dl x = -1 → 2 ≤ dp (σ (o + 1)) L) :
    PS (yset (yset σ (o + 1) L x) o 2 (L + 1)) τ o bk s lv b U (L + 1) M (e + 1) ∧ dp (yset (yset σ (o + 1) L x) o 2 (L + 1) (o + 1)) (L + 1) = dp (σ (o + 1)) L + dl x := by
  obtain ⟨a1, a2, a3, a4, a5, a6, a7, a8, a9, a10, a11, a12, a13⟩ := h
  have c1 : ∀ i, i < L → yset (yset σ (o + 1) L x) o 2 (L + 1) (o + 1) i = σ (o + 1) i := fun i hi => by rw [yset_ne (by omega), yset_ne (by omega)]
  have c2 : yset (yset σ (o + 1) L x) o 2 (L + 1) (o + 1) L = x := by rw [yset_ne (by omega), yset_at]
  refine ⟨⟨a1, a2, by rw [yset_at]; omega, by rw [yset_ne (by omega), yset_ne (by omega)]; exact a4, a5, a6, by rw [a7]; omega, by rw [a8, nt_first, hb]; omega, by omega, fun i hi => by rw [c1 i (by omega)]; exact a10 i hi, fun j hj => ?_, fun j hj => ?_, WF_put a13 c1 c2 h1 h0 h2⟩, dp_put c1 c2⟩
  · by_cases c : j < e
    · rw [c1 _ (by omega), show s + (e + 1) - 1 - j = s + 1 + e - 1 - j from by omega]
      exact a11 j c
    · rw [show M + j = L from by omega, c2, show s + (e + 1) - 1 - j = s from by omega]
      exact hx
  · by_cases c : j = 0
    · rw [c]
      exact hr
    · have := a12 (j - 1) (by omega)
      rw [show s + 1 + (j - 1) = s + j from by omega] at this
      exact ⟨by omega, this.2⟩
theorem dl_op {k : Int} (h : rk k ≠ 0) : dl (-k) = -1 := by
  unfold rk at h
  repeat' split at h
  all_goals first
    | exact absurd rfl h
    | (subst_vars; decide)
theorem RT_put {σ τ : ySt} {t : Nat → Int} {n p o L : Nat} {x y : Int} (h : RT σ τ t n p) (ho : o = 30 ∨ o = 50) : RT (yset (yset σ (o + 1) L x) o 2 y) τ t n p := RT_setC (RT_setC h (by omega) (by omega)) (by omega) (by omega)
/-- from an operator on to where it is put -/
theorem bin_sub {N g b lv : Nat} {rec : Nat → Nat → Int → ySt → Option (Int × ySt)} {σ0 τ0 σ : ySt} {t : Nat → Int} {n p0 o bk s U0 L0 q U q' : Nat} {β : Type} {C : Int → ySt → Option β} {Q : β → Prop} (hN : 100000 ≤ N) (hg : g = 0 ∨ g = 1 ∨ g = 3 ∨ g = 4 ∨ g = 5) (HR : RD N rec (g + 1) b) (pr : PR g b σ0 τ0 t n p0 o bk s U0 L0) (hd : RS N g b lv σ0 τ0 t n o bk s U0 L0 q U σ) (hlv : g + 1 ≤ lv) (hlv4 : g = 3 → lv = 5) (hk : rk (σ 1 3) = ((g + 1 : Nat) : Int)) (hq : q' = g + 2 ∨ (g = 3 ∧ q' = 4))
    (hC : ∀ r σ', (r = 1 ∧ ∃ U' σ'', cRu_put o (-(σ 1 3)) σ' = some (1, σ'') ∧ U < U' ∧ RS N g b (g + 1) σ0 τ0 t n o bk s U0 L0 q' U' σ'') ∨ (r = 0 ∧ RF N g b σ0 τ0 t n o bk U0 σ') → Ok (C r σ') Q) :
    Ok (bndO (cTp_step N σ) fun σ15 => bndR (rec (g + 1) o b σ15) fun r17 σ18 => C r17 σ18) Q := by
  obtain ⟨_, _, hs1, hs2, hb, hU0, hL0, hdp0, hdpU, htp, ho⟩ := pr
  obtain ⟨τ, p, L, M, e, m, re, ⟨tc, tm, fcc, fmm⟩, ps, u1, u2, l1, d1, m1, e1, fp, fc, fm, tk⟩ := hd
  obtain ⟨z1, z2, z3, z4, z5, z6, z7⟩ := lvl_facts hg hb
  have hk3 : σ 1 3 = tkK t n p := tc.2.2.2.2.2.2.1
  rw [hk3] at hk
  have hbase : τ 121 (s - 1) = τ0 121 (s - 1) := (fp (s - 1) (by omega)).1
  have hL : L < 400 := by omega
  have hLM : L = M + e := ps.2.2.2.2.2.2.2.2.1
  have hcmp : ((g + 1 : Nat) : Int) = 4 → mo_isCompared N τ = some 0 := by
    intro h4
    have hg3 : g = 3 := by omega
    have hl5 := hlv4 hg3
    have h12 := ps.2.2.2.2.2.2.2.2.2.2.2.1
    have hlt := htp.1
    rw [z7, ← hbase] at hlt
    rw [mo_isCompared_ok (s := s) hN e (by rw [ps.2.2.2.2.2.2.1]; omega) hs1 (by omega) (fun j h1 h2 => by have := h12 (j - s) (by omega); rw [show s + (j - s) = j from by omega] at this; omega) (by omega) (by omega), if_neg (by omega)]
  have hlt := htp.1
  rw [z7, ← hbase] at hlt
  obtain ⟨τ1, re1, tm1, fm1, ps1, r121, r122, frm1, frp1⟩ := beh_op hN tm fmm ps hs1 (by omega) hL hb hk (by omega) (by omega) hlt hcmp (g + 1 + 1)
  rw [Ok_bndO]
  refine (TC_go hN tc).mono ?_
  rintro σ15 ⟨o1, tc1, f6, f7⟩
  have c0 : σ15 o = σ o := o1.1 o (by omega)
  have c1 : σ15 (o + 1) = σ (o + 1) := o1.1 (o + 1) (by omega)
  rw [Ok_bndR]
  have pre : PR (g + 1) b σ15 τ1 t n (tkE t n p) o bk (s + 1) U L := by
    refine ⟨⟨tc1, tm1, FC_of fcc f6 f7, fm1⟩, PS_C ps1 c0 c1, by omega, by omega, hb, u2, by omega, by rw [c1]; omega, by rw [c1]; omega, ⟨?_, ?_⟩, ho⟩
    · rw [Nat.add_sub_cancel, r121]
      omega
    · rw [Nat.add_sub_cancel, r121]
      omega
  refine (HR σ15 τ1 t n (tkE t n p) o bk (s + 1) U L pre).mono ?_
  rintro ⟨r, σ18⟩ hpo
  refine hC r σ18 ?_
  rcases hpo with ⟨hr, U', hrs⟩ | ⟨hr, hrf⟩
  · dsimp only at hr hrs
    refine Or.inl ⟨hr, U', ?_⟩
    obtain ⟨τ2, p2, L2, M2, e2, m2, re2, rt2, ps2, u3, u4, l2, d2, mm2, ee2, fp2, fc2, fm2, tk2⟩ := hrs
    rw [c1] at d2
    have hL2 : L2 < 400 := by omega
    have t121 : τ2 121 s = ((g + 1 : Nat) : Int) := by rw [(fp2 s (by omega)).1]; exact r121
    have t122 : τ2 122 s = opc (tkK t n p) := by rw [(fp2 s (by omega)).2]; exact r122
    have hop : rk (tkK t n p) ≠ 0 := by omega
    have hdl := dl_op hop
    obtain ⟨ps3, d3⟩ := PS_put (x := -(tkK t n p)) (lv := g + 1) (b := b) ps2 (by omega) (by rw [t121]; omega) (by rw [t121, if_neg (by omega)]; rfl) (by rw [t122]; exact OE_opc hop) (fun q => by omega) (fun q => by omega) (fun _ => by omega)
    refine ⟨_, by rw [hk3]; exact cRu_put_eq ho ps2.2.2.1 hL2 _, u3, τ2, p2, L2 + 1, M2, e2 + 1, m + (1 + m2), RE_tr re (RE_tr re1 re2), RT_put rt2 ho, ps3, by omega, u4, by omega, by rw [d3, d2, d1, hdl]; omega, by omega, by omega, ?_, ?_, FrM_tr (FrM_tr fm frm1) fm2, ?_⟩
    · exact FrP_tr (FrP_tr fp frp1 (Nat.le_refl s)) fp2 (by omega)
    · exact FrC_tr (FrC_tr (FrC_tr fc (FrC_eqC (eqC_of o1))) fc2) FrC_put
    · rcases hq with rfl | ⟨g3, rfl⟩
      · exact tk2
      · have rr : rk (tkK t n p2) < 5 := by
          rcases tk2 with w | ⟨w, _⟩
          · omega
          · omega
        by_cases c4 : rk (tkK t n p2) = 4
        · refine Or.inr ⟨Nat.le_refl 4, c4, ?_⟩
          have h12 := ps2.2.2.2.2.2.2.2.2.2.2.2.1
          rw [mo_isCompared_ok (s := s + 1) hN e2 (by rw [ps2.2.2.2.2.2.2.1]; omega) (by omega) (by omega) (fun j h1 h2 => by have := h12 (j - (s + 1)) (by omega); rw [show s + 1 + (j - (s + 1)) = j from by omega] at this; omega) (by rw [Nat.add_sub_cancel]; omega) (by rw [Nat.add_sub_cancel]; omega), Nat.add_sub_cancel, if_pos (by omega)]
        · exact Or.inl (by omega)
  · dsimp only at hr hrf
    refine Or.inr ⟨hr, ?_⟩
    obtain ⟨τ2, x, m2, U', re2, rb, u3, u4, mm2, fc2, fm2⟩ := hrf
    exact ⟨τ2, x, m + (1 + m2), U', RE_tr re (RE_tr re1 re2), rb, by omega, u4, by omega, FrC_tr (FrC_tr fc (FrC_eqC (eqC_of o1))) fc2, FrM_tr (FrM_tr fm frm1) fm2⟩
