/-! the rule: relation, not, unit -/
theorem cRu_readRelation_ok {N b : Nat} {rec : Nat → Nat → Int → ySt → Option (Int × ySt)} (hN : 100000 ≤ N) (HR : RD N rec 4 b) : ∀ (σ τ : ySt) (t : Nat → Int) (n p o bk s U L : Nat), PR 3 b σ τ t n p o bk s U L → Ok (cRu_readRelation_b rec N o b σ) (PO N 3 b σ τ t n o bk s U L) := by
  intro σ τ t n p o bk s U L pr
  have hb : b ≤ 7 := pr.2.2.2.2.1
  unfold cRu_readRelation_b
  rw [Ok_chk, Ok_bndR]
  refine ⟨pr.2.2.2.2.2.2.2.2.2.2, (HR σ τ t n p o bk s U L (PR_up (g := 3) (by omega) pr (by omega))).mono ?_⟩
  rintro ⟨r3, σ4⟩ h3
  dsimp only
  rw [Ok_ite]
  rcases h3 with ⟨r1, U', hrs⟩ | ⟨r0, hrf⟩
  · dsimp only at r1 hrs
    refine ⟨fun _ => ?_, fun q => absurd r1 (by omega)⟩
    have hK := RS_k hrs
    have hrk := @rk_4 (σ4 1 3)
    refine Ok_jq (rk (σ4 1 3) = 4) (fun q2 => ?_) (fun j hj => ?_)
    · refine bin_sub (g := 3) (q' := 4) hN (by omega) HR pr (RS_dn (g := 3) (lv' := 5) (by omega) hb hrs (by omega)) (by omega) (fun _ => rfl) (by omega) (Or.inr ⟨rfl, rfl⟩) (fun r18 σ19 hmid => ?_)
      rw [Ok_ite]
      rcases hmid with ⟨r1, U'', σ'', hput, hu2, hrs2⟩ | ⟨r0, hrf⟩
      · refine ⟨fun q => by omega, fun _ => ?_⟩
        rw [Ok_chkI]
        refine ⟨by omega, ?_⟩
        rw [hput, Ok_bndR, Ok_some, Ok_ite]
        refine ⟨fun q => by omega, fun _ => ?_⟩
        rw [Ok_some]
        exact Or.inl ⟨rfl, U'', hrs2⟩
      · refine ⟨fun _ => ?_, fun q => absurd r0 q⟩
        rw [Ok_some]
        exact Or.inr ⟨rfl, hrf⟩
    · rw [Ok_ite]
      refine ⟨fun q => hj (by omega), fun q => ?_⟩
      rw [Ok_ite]
      refine ⟨fun q => hj (by omega), fun q => ?_⟩
      rw [Ok_ite]
      refine ⟨fun q => hj (by omega), fun q => ?_⟩
      rw [Ok_some]
      exact Or.inl ⟨rfl, U', RS_q (q := 4) (RS_dn (g := 3) (by omega) hb hrs (by omega)) (by dsimp only; omega)⟩
  · dsimp only at r0 hrf
    refine ⟨fun q => absurd r0 q, fun _ => ?_⟩
    rw [Ok_some]
    exact Or.inr ⟨rfl, RF_dn (g := 3) (by omega) hb hrf⟩
/-- a push that opens: not or a parenthesis -/
theorem PS_open {σ σ' ρ τ' : ySt} {o bk s lv b U U' L : Nat} {r c z : Int} (h : PS σ ρ o bk s lv b U L L 0) (he : eqM τ' (yset (yset (yset (yset (yset ρ 102 bk z) 121 s r) 122 s c) 92 44 (s + 1)) 92 43 (b + 1))) (hz : z = U') (h2 : σ' o 2 = σ o 2) (h3 : σ' o 3 = U') (hc : σ' (o + 1) = σ (o + 1)) (lv' : Nat) : PS σ' τ' o bk (s + 1) lv' (b + 1) U' L L 0 ∧ τ' 121 s = r ∧ τ' 122 s = c ∧ FrM bk τ' ρ ∧ FrP s τ' ρ := by
  obtain ⟨a1, a2, a3, a4, a5, a6, a7, a8, a9, a10, a11, a12, a13⟩ := h
  have e119 : τ' 119 = ρ 119 := by rw [he.1 119 (by decide), yset_off 119 (by decide), yset_off 119 (by decide), yset_off 119 (by decide), yset_off 119 (by decide), yset_off 119 (by decide)]
  have e120 : τ' 120 = ρ 120 := by rw [he.1 120 (by decide), yset_off 120 (by decide), yset_off 120 (by decide), yset_off 120 (by decide), yset_off 120 (by decide), yset_off 120 (by decide)]
  refine ⟨⟨a1, ?_, h2.trans a3, h3, ?_, ?_, ?_, ?_, rfl, fun i hi => by rw [e119, e120, hc]; exact a10 i hi, fun j hj => absurd hj (Nat.not_lt_zero j), fun j hj => absurd hj (Nat.not_lt_zero j), by rw [hc]; exact a13⟩, ?_, ?_, ?_, ?_⟩
  · rw [he.2 41 (by omega), yset_ne (by omega), yset_ne (by omega), yset_ne (by omega), yset_ne (by omega), yset_ne (by omega)]; exact a2
  · rw [he.1 102 (by decide), yset_ne (by omega), yset_ne (by omega), yset_ne (by omega), yset_ne (by omega), yset_at]; exact hz
  · rw [he.2 42 (by omega), yset_ne (by omega), yset_ne (by omega), yset_ne (by omega), yset_ne (by omega), yset_ne (by omega)]; exact a6
  · rw [he.2 44 (by omega), yset_ne (by omega), yset_at]; omega
  · rw [he.2 43 (by omega), yset_at]
    show (b : Int) + 1 = ((b + 1 + 0 : Nat) : Int)
    omega
  · rw [he.1 121 (by decide), yset_ne (by omega), yset_ne (by omega), yset_ne (by omega), yset_at]
  · rw [he.1 122 (by decide), yset_ne (by omega), yset_ne (by omega), yset_at]
  · exact FrM_tr (FrM_tr (FrM_tr (FrM_tr (FrM_tr FrM_u (FrM_p (Or.inl rfl))) (FrM_p (Or.inr rfl))) (FrM_92 (by omega))) (FrM_92 (by omega))) (FrM_eqM he)
  · intro j hj
    rw [he.1 121 (by decide), he.1 122 (by decide), yset_ne (by omega), yset_ne (by omega), yset_ne (by omega), yset_ne (by omega), yset_ne (by omega), yset_ne (by omega), yset_ne (by omega), yset_ne (by omega), yset_ne (by omega), yset_ne (by omega)]
    exact ⟨rfl, rfl⟩
theorem PS_leaf {σ σ' ρ τ' : ySt} {o bk s lv b U L : Nat} {x c z : Int} (h : PS σ ρ o bk s lv b U L L 0) (he : eqM τ' (yset (yset (yset (yset ρ 102 bk (U + 1)) 119 (400 * bk + L) c) 120 (400 * bk + L) z) 92 42 ((400 * bk + L : Nat) + 1))) (h2 : σ' o 2 = L) (h3 : σ' o 3 = (U : Int) + 1) (hc : σ' (o + 1) = σ (o + 1)) (hx : CE x c z) (h1 : dl x = 1) (hd : dp (σ (o + 1)) L ≤ 39) (hL : L < 400) (lv' s' : Nat) :
    PS (yset (yset σ' (o + 1) L x) o 2 (L + 1)) τ' o bk s lv' b (U + 1) (L + 1) (L + 1) 0 ∧ dp (yset (yset σ' (o + 1) L x) o 2 (L + 1) (o + 1)) (L + 1) = dp (σ (o + 1)) L + 1 ∧ FrM bk τ' ρ ∧ FrP s' τ' ρ := by
  obtain ⟨a1, a2, a3, a4, a5, a6, a7, a8, a9, a10, a11, a12, a13⟩ := h
  have c1 : ∀ i, i < L → yset (yset σ' (o + 1) L x) o 2 (L + 1) (o + 1) i = σ (o + 1) i := fun i hi => by rw [yset_ne (by omega), yset_ne (by omega), hc]
  have c2 : yset (yset σ' (o + 1) L x) o 2 (L + 1) (o + 1) L = x := by rw [yset_ne (by omega), yset_at]
  have e121 : τ' 121 = ρ 121 := by rw [he.1 121 (by decide), yset_off 121 (by decide), yset_off 121 (by decide), yset_off 121 (by decide), yset_off 121 (by decide)]
  have e122 : τ' 122 = ρ 122 := by rw [he.1 122 (by decide), yset_off 122 (by decide), yset_off 122 (by decide), yset_off 122 (by decide), yset_off 122 (by decide)]
  refine ⟨⟨a1, ?_, by rw [yset_at]; omega, by rw [yset_ne (by omega), yset_ne (by omega), h3]; omega, ?_, ?_, ?_, ?_, rfl, fun i hi => ?_, fun j hj => absurd hj (Nat.not_lt_zero j), fun j hj => absurd hj (Nat.not_lt_zero j), WF_put a13 c1 c2 (fun _ => hd) (fun q => by omega) (fun q => by omega)⟩, by rw [dp_put c1 c2, h1], ?_, ?_⟩
  · rw [he.2 41 (by omega), yset_ne (by omega), yset_ne (by omega), yset_ne (by omega), yset_ne (by omega)]; exact a2
  · rw [he.1 102 (by decide), yset_ne (by omega), yset_ne (by omega), yset_ne (by omega), yset_at]; omega
  · rw [he.2 42 (by omega), yset_at]; omega
  · rw [he.2 44 (by omega), yset_ne (by omega), yset_ne (by omega), yset_ne (by omega), yset_ne (by omega)]; exact a7
  · rw [he.2 43 (by omega), yset_ne (by omega), yset_ne (by omega), yset_ne (by omega), yset_ne (by omega)]; exact a8
  · rw [he.1 119 (by decide), he.1 120 (by decide)]
    by_cases q : i < L
    · rw [c1 i q, yset_ne (by omega), yset_ne (by omega), yset_ne (by omega), yset_ne (by omega), yset_ne (by omega), yset_ne (by omega), yset_ne (by omega), yset_ne (by omega)]
      exact a10 i q
    · have : i = L := by omega
      subst this
      rw [c2, yset_ne (by omega), yset_ne (by omega), yset_at, yset_ne (by omega), yset_at]
      exact hx
  · exact FrM_tr (FrM_tr (FrM_tr (FrM_tr FrM_u (FrM_c (Or.inl rfl) (by omega))) (FrM_c (Or.inr rfl) (by omega))) (FrM_92 (by omega))) (FrM_eqM he)
  · intro j hj
    rw [e121, e122]
    exact ⟨rfl, rfl⟩
theorem beh_close {N n p o bk s lv b U L M e : Nat} {σ τ : ySt} {t : Nat → Int} (hN : 100000 ≤ N) (h : TM τ t n p) (g : FM τ 0 (-1)) (hp : PS σ τ o bk (s + 1) lv (b + 1) U L M e) (hse : s + 1 + e < 90) (hL : L < 400) (hb : b + 1 ≤ 7) (htop : τ 121 s = 7) (hr : rk (tkK t n p) = 0) (lv' : Nat) :
    ∃ τ', RE N 1 0 τ 0 τ' ∧ ((tkK t n p = 41 ∧ TM τ' t n (tkE t n p) ∧ FM τ' 0 (-1) ∧ PS σ τ' o bk s lv' b U L L 0) ∨ (tkK t n p ≠ 41 ∧ TM τ' t n p ∧ FM τ' (bdK t n p) (tkA t n p))) ∧ FrM bk τ' τ ∧ FrP s τ' τ := by
  have hbk := hp.1
  have hLM : L = M + e := hp.2.2.2.2.2.2.2.2.1
  obtain ⟨⟨x, τ'⟩, hx, ρ, hρ, q1, hq⟩ := beh_pop (P := fun q => ∃ ρ, PP ρ τ (s + 1) e (b + 1) (400 * bk + M) ∧ q.1 = 0 ∧ ((ρ 121 (s + 1 - 1) ≠ 7 ∧ q.2 = yset ρ 92 44 ((s + 1 - 1 : Nat) : Int)) ∨ (ρ 121 (s + 1 - 1) = 7 ∧ eqM q.2 (yset (yset ρ 92 44 ((s + 1 - 1 : Nat) : Int)) 92 43 (((b + 1 : Nat) : Int) - 1)) ∧ ((tkK t n p = 41 ∧ TM q.2 t n (tkE t n p) ∧ FM q.2 0 (-1)) ∨ (tkK t n p ≠ 41 ∧ TM q.2 t n p ∧ FM q.2 (bdK t n p) (tkA t n p)))))) hN h hp (by omega) hse hL hb hr (by omega) (by rw [Nat.add_sub_cancel]; omega) (by omega) (fun ρ hρ => (bhE_end hN (PP_TM hρ h) (PP_FM hρ g) hρ.1 (by omega) (by omega) hρ.2.1 (by omega)).mono (fun q hq => ⟨ρ, hρ, hq⟩))
  dsimp only at q1 hq
  subst q1
  have hrr : ρ 121 (s + 1 - 1) = 7 := by
    rw [Nat.add_sub_cancel, hρ.2.2.2.1 121 (by decide) (by decide) (by decide)]
    exact htop
  rcases hq with ⟨w, _⟩ | ⟨_, he, hq⟩
  · exact absurd hrr w
  rw [Nat.add_sub_cancel] at he
  obtain ⟨a1, a2, a3, a4, a5, a6, a7, a8, a9, a10, a11, a12, a13⟩ := PP_PS hρ hp lv'
  have f2 : FrP s τ' τ := by
    intro j hj
    rw [he.1 121 (by decide), he.1 122 (by decide), yset_off 121 (by decide), yset_off 121 (by decide), yset_off 122 (by decide), yset_off 122 (by decide)]
    exact PP_FrP hρ s j hj
  refine ⟨τ', RE_beh g.1 (PS_pos hp (by omega)) hx, ?_, FrM_tr (PP_Fr hρ (by omega) (by omega)) (FrM_tr (FrM_tr (FrM_92 (by omega)) (FrM_92 (by omega))) (FrM_eqM he)), f2⟩
  rcases hq with ⟨k, tm, fm⟩ | ⟨k, tm, fm⟩
  · refine Or.inl ⟨k, tm, fm, a1, ?_, a3, a4, ?_, ?_, ?_, ?_, rfl, fun i hi => ?_, fun j hj => absurd hj (Nat.not_lt_zero j), fun j hj => absurd hj (Nat.not_lt_zero j), a13⟩
    · rw [he.2 41 (by omega), yset_ne (by omega), yset_ne (by omega)]; exact a2
    · rw [he.1 102 (by decide), yset_ne (by omega), yset_ne (by omega)]; exact a5
    · rw [he.2 42 (by omega), yset_ne (by omega), yset_ne (by omega)]; exact a6
    · rw [he.2 44 (by omega), yset_ne (by omega), yset_at]; rfl
    · rw [he.2 43 (by omega), yset_at]
      show ((b + 1 : Nat) : Int) - 1 = ((b + 0 : Nat) : Int)
      omega
    · rw [he.1 119 (by decide), he.1 120 (by decide), yset_off 119 (by decide), yset_off 119 (by decide), yset_off 120 (by decide), yset_off 120 (by decide)]
      exact a10 i hi
  · exact Or.inr ⟨k, tm, fm⟩
theorem beh_cmp {N n p : Nat} {τ : ySt} {t : Nat → Int} (h : TM τ t n p) (g : FM τ 0 (-1)) (h44 : 0 < τ 92 44) (hr : rk (tkK t n p) = 4) (hc : mo_isCompared N τ = some 1) (bk : Nat) :
    ∃ τ', RE N 1 0 τ 1 τ' ∧ TM τ' t n p ∧ FM τ' (bdK t n p) (tkA t n p) ∧ FrM bk τ' τ := by
  have e : mo_behindUnit N τ = some (1, yset (yset τ 92 4 (bdK t n p)) 92 5 (tkA t n p)) := by
    rw [mo_behindUnit_eq, mo_rankHere_ok h, bndO_s, hr, if_neg (by decide), hc, bndO_s, if_neg (by decide), mo_misplaced_ok h g.1, bndO_s]
  exact ⟨_, RE_beh g.1 h44 e, TM_F h, ⟨by rw [yset_ne (by omega), yset_at], yset_at⟩, FrM_eqM (eqM_of offM_F)⟩
