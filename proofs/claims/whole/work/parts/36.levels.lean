/-! the rule: the levels that join two -/
theorem PS_e0 {σ τ : ySt} {o bk s lv b U L : Nat} (h : PS σ τ o bk s lv b U L L 0) (lv' : Nat) : PS σ τ o bk s lv' b U L L 0 := by
  obtain ⟨a1, a2, a3, a4, a5, a6, a7, a8, a9, a10, a11, a12, a13⟩ := h
  exact ⟨a1, a2, a3, a4, a5, a6, a7, a8, a9, a10, a11, fun j hj => absurd hj (Nat.not_lt_zero j), a13⟩
theorem up_facts {g b : Nat} (hg : g = 0 ∨ g = 1 ∨ g = 2 ∨ g = 3 ∨ g = 4 ∨ g = 5) (hb : b ≤ 7) : sz g ≤ sz (g + 1) ∧ lx g ≤ lx (g + 1) ∧ cc g b ≤ cc (g + 1) b ∧ mm g b ≤ mm (g + 1) b ∧ ee g b ≤ ee (g + 1) b + 1 ∧ ff (g + 1) b ≤ ff g b := by
  rcases hg with rfl | rfl | rfl | rfl | rfl | rfl
  all_goals
    simp only [mm, ee, ff, sz, lx, cc, Nat.reduceAdd]
    exact ⟨by omega, by omega, by omega, by omega, by omega, by omega⟩
theorem PR_up {g b : Nat} {σ τ : ySt} {t : Nat → Int} {n p o bk s U L : Nat} (hg : g = 0 ∨ g = 1 ∨ g = 2 ∨ g = 3 ∨ g = 4 ∨ g = 5) (h : PR g b σ τ t n p o bk s U L) (hk : g = 2 → tkK t n p ≠ 116) : PR (g + 1) b σ τ t n p o bk s U L := by
  obtain ⟨rt, ps, hs1, hs2, hb, hU0, hL0, hdp0, hdpU, htp, ho⟩ := h
  obtain ⟨z1, z2, _⟩ := up_facts hg hb
  refine ⟨rt, PS_e0 ps _, hs1, by omega, hb, hU0, hL0, hdp0, hdpU, ⟨?_, fun q k => ?_⟩, ho⟩
  · have := htp.1
    omega
  · by_cases c : g = 2
    · exact absurd k (hk c)
    · exact htp.2 (by omega) k
theorem RS_dn {N g b lv lv' : Nat} {σ τ : ySt} {t : Nat → Int} {n o bk s U L q U' : Nat} {σ' : ySt} (hg : g = 0 ∨ g = 1 ∨ g = 2 ∨ g = 3 ∨ g = 4 ∨ g = 5) (hb : b ≤ 7) (h : RS N (g + 1) b lv σ τ t n o bk s U L q U' σ') (hl : lv' ≤ lv) : RS N g b lv' σ τ t n o bk s U L q U' σ' := by
  obtain ⟨τ', p', L', M', e', m, a1, a2, a3, a4, a5, a6, a7, a8, a9, a10, a11, a12, a13⟩ := h
  obtain ⟨z1, z2, z3, z4, z5, z6⟩ := up_facts hg hb
  exact ⟨τ', p', L', M', e', m, a1, a2, PS_lv a3 hl, a4, a5, by omega, a7, by omega, by omega, a10, a11, a12, a13⟩
theorem RF_dn {N g b : Nat} {σ τ : ySt} {t : Nat → Int} {n o bk U : Nat} {σ' : ySt} (hg : g = 0 ∨ g = 1 ∨ g = 2 ∨ g = 3 ∨ g = 4 ∨ g = 5) (hb : b ≤ 7) (h : RF N (g + 1) b σ τ t n o bk U σ') : RF N g b σ τ t n o bk U σ' := by
  obtain ⟨τ', x, m, U', a1, a2, a3, a4, a5, a6, a7⟩ := h
  obtain ⟨z1, z2, z3, z4, z5, z6⟩ := up_facts hg hb
  exact ⟨τ', x, m, U', a1, a2, a3, a4, by omega, a6, a7⟩
/-- no operator of this rank -/
theorem RS_q {N g b lv : Nat} {σ τ : ySt} {t : Nat → Int} {n o bk s U L q U' : Nat} {σ' : ySt} (h : RS N g b lv σ τ t n o bk s U L (q + 1) U' σ') (hk : rk (σ' 1 3) ≠ q) : RS N g b lv σ τ t n o bk s U L q U' σ' := by
  obtain ⟨τ', p', L', M', e', m, a1, a2, a3, a4, a5, a6, a7, a8, a9, a10, a11, a12, a13⟩ := h
  have hk3 : σ' 1 3 = tkK t n p' := a2.1.2.2.2.2.2.2.1
  rw [hk3] at hk
  refine ⟨τ', p', L', M', e', m, a1, a2, a3, a4, a5, a6, a7, a8, a9, a10, a11, a12, ?_⟩
  rcases a13 with w | ⟨w1, w2, w3⟩
  · exact Or.inl (by omega)
  · exact Or.inr ⟨by omega, w2, w3⟩
theorem RS_k {N g b lv : Nat} {σ τ : ySt} {t : Nat → Int} {n o bk s U L q U' : Nat} {σ' : ySt} (h : RS N g b lv σ τ t n o bk s U L q U' σ') : 0 ≤ σ' 1 3 ∧ σ' 1 3 < 119 ∧ U < U' ∧ U' ≤ 40 := by
  obtain ⟨τ', p', L', M', e', m, a1, a2, a3, a4, a5, a6, a7, a8, a9, a10, a11, a12, a13⟩ := h
  have hk3 : σ' 1 3 = tkK t n p' := a2.1.2.2.2.2.2.2.1
  rw [hk3]
  have := tkK_rg t n p'
  exact ⟨this.1, this.2, a4, a5⟩
theorem cRu_readEither_ok {N b : Nat} {rec : Nat → Nat → Int → ySt → Option (Int × ySt)} (hN : 100000 ≤ N) (HR : RD N rec 1 b) : ∀ (σ τ : ySt) (t : Nat → Int) (n p o bk s U L : Nat), PR 0 b σ τ t n p o bk s U L → Ok (cRu_readEither_b rec N o b σ) (PO N 0 b σ τ t n o bk s U L) := by
  intro σ τ t n p o bk s U L pr
  have hb : b ≤ 7 := pr.2.2.2.2.1
  have hU : U ≤ 40 := pr.2.2.2.2.2.1
  unfold cRu_readEither_b
  rw [Ok_chk, Ok_bndR]
  refine ⟨pr.2.2.2.2.2.2.2.2.2.2, (HR σ τ t n p o bk s U L (PR_up (g := 0) (by omega) pr (by omega))).mono ?_⟩
  rintro ⟨r3, σ4⟩ h3
  dsimp only
  refine Ok_loopS2 (fun x5 x6 σ7 => (x5 = 1 ∧ 0 ≤ x6 ∧ ∃ U' : Nat, x6 + (U : Int) + 1 ≤ (U' : Int) ∧ RS N 0 b 1 σ τ t n o bk s U L 2 U' σ7) ∨ (x5 = 0 ∧ 0 ≤ x6 ∧ x6 ≤ 40 ∧ RF N 0 b σ τ t n o bk U σ7)) (fun _ x6 _ => (41 - x6).toNat) ?_ N _ _ _ ?_ (by omega)
  · intro k x5 x6 σ7 hI rec'
    have hx : 0 ≤ x6 ∧ x6 ≤ 40 := by
      rcases hI with ⟨_, h0, U', hu, hrs⟩ | ⟨_, h0, h1, _⟩
      · have := RS_k hrs
        omega
      · exact ⟨h0, h1⟩
    rw [Ok_ite]
    refine ⟨fun q => by omega, fun _ => ?_⟩
    rw [Ok_ite]
    refine ⟨fun q => ?_, fun q => ?_⟩
    · rcases hI with ⟨x1, _⟩ | ⟨_, _, _, hrf⟩
      · omega
      · rw [Ok_chk, Ok_some]
        exact ⟨Or.inl q, Or.inr ⟨q, hrf⟩⟩
    rcases hI with ⟨x1, h0, U', hu, hrs⟩ | ⟨x0, _⟩
    · have hK := RS_k hrs
      have hrk := @rk_1 (σ7 1 3)
      have exit : ¬ (rk (σ7 1 3) = 1) → Ok (chk (x5 = 0 ∨ x5 = 1) <| some (x5, σ7)) (PO N 0 b σ τ t n o bk s U L) := by
        intro q2
        rw [Ok_chk, Ok_some]
        exact ⟨Or.inr x1, Or.inl ⟨x1, U', RS_q hrs q2⟩⟩
      rw [Ok_ite]
      refine ⟨fun q2 => exit (by omega), fun q2 => ?_⟩
      refine bin_sub (g := 0) (q' := 2) hN (by omega) HR pr hrs (by omega) (by omega) (by omega) (Or.inl rfl) (fun r18 σ19 hmid => ?_)
      refine Ok_jq2 (fun y σ' => (y = 1 ∧ ∃ U'' : Nat, U' < U'' ∧ RS N 0 b 1 σ τ t n o bk s U L 2 U'' σ') ∨ (y = 0 ∧ RF N 0 b σ τ t n o bk U σ')) (fun y20 σ21 hy => ?_) (fun j hj => ?_)
      · rw [Ok_chkI]
        refine ⟨by omega, rec' _ _ _ ?_ (by omega)⟩
        rcases hy with ⟨y1, U'', hu2, hrs2⟩ | ⟨y0, hrf⟩
        · exact Or.inl ⟨y1, by omega, U'', by omega, hrs2⟩
        · exact Or.inr ⟨y0, by omega, by omega, hrf⟩
      · rw [Ok_ite]
        rcases hmid with ⟨r1, U'', σ'', hput, hu2, hrs2⟩ | ⟨r0, hrf⟩
        · refine ⟨fun q => by omega, fun _ => ?_⟩
          have e : σ7 1 3 = 114 := Classical.not_not.mp q2
          rw [e] at hput
          rw [hput, Ok_bndR, Ok_some, Ok_ite]
          exact ⟨fun q => by omega, fun _ => hj 1 _ (Or.inl ⟨rfl, U'', hu2, hrs2⟩)⟩
        · exact ⟨fun _ => hj 0 _ (Or.inr ⟨rfl, hrf⟩), fun q => absurd r0 q⟩
    · exact absurd x0 q
  · rcases h3 with ⟨r1, U', hrs⟩ | ⟨r0, hrf⟩
    · dsimp only at r1 hrs
      have := RS_k hrs
      exact Or.inl ⟨r1, by omega, U', by omega, RS_dn (g := 0) (by omega) hb hrs (by omega)⟩
    · exact Or.inr ⟨r0, by omega, by omega, RF_dn (g := 0) (by omega) hb hrf⟩
theorem cRu_readBoth_ok {N b : Nat} {rec : Nat → Nat → Int → ySt → Option (Int × ySt)} (hN : 100000 ≤ N) (HR : RD N rec 2 b) : ∀ (σ τ : ySt) (t : Nat → Int) (n p o bk s U L : Nat), PR 1 b σ τ t n p o bk s U L → Ok (cRu_readBoth_b rec N o b σ) (PO N 1 b σ τ t n o bk s U L) := by
  intro σ τ t n p o bk s U L pr
  have hb : b ≤ 7 := pr.2.2.2.2.1
  have hU : U ≤ 40 := pr.2.2.2.2.2.1
  unfold cRu_readBoth_b
  rw [Ok_chk, Ok_bndR]
  refine ⟨pr.2.2.2.2.2.2.2.2.2.2, (HR σ τ t n p o bk s U L (PR_up (g := 1) (by omega) pr (by omega))).mono ?_⟩
  rintro ⟨r3, σ4⟩ h3
  dsimp only
  refine Ok_loopS2 (fun x5 x6 σ7 => (x5 = 1 ∧ 0 ≤ x6 ∧ ∃ U' : Nat, x6 + (U : Int) + 1 ≤ (U' : Int) ∧ RS N 1 b 2 σ τ t n o bk s U L 3 U' σ7) ∨ (x5 = 0 ∧ 0 ≤ x6 ∧ x6 ≤ 40 ∧ RF N 1 b σ τ t n o bk U σ7)) (fun _ x6 _ => (41 - x6).toNat) ?_ N _ _ _ ?_ (by omega)
  · intro k x5 x6 σ7 hI rec'
    have hx : 0 ≤ x6 ∧ x6 ≤ 40 := by
      rcases hI with ⟨_, h0, U', hu, hrs⟩ | ⟨_, h0, h1, _⟩
      · have := RS_k hrs
        omega
      · exact ⟨h0, h1⟩
    rw [Ok_ite]
    refine ⟨fun q => by omega, fun _ => ?_⟩
    rw [Ok_ite]
    refine ⟨fun q => ?_, fun q => ?_⟩
    · rcases hI with ⟨x1, _⟩ | ⟨_, _, _, hrf⟩
      · omega
      · rw [Ok_chk, Ok_some]
        exact ⟨Or.inl q, Or.inr ⟨q, hrf⟩⟩
    rcases hI with ⟨x1, h0, U', hu, hrs⟩ | ⟨x0, _⟩
    · have hK := RS_k hrs
      have hrk := @rk_2 (σ7 1 3)
      have exit : ¬ (rk (σ7 1 3) = 2) → Ok (chk (x5 = 0 ∨ x5 = 1) <| some (x5, σ7)) (PO N 1 b σ τ t n o bk s U L) := by
        intro q2
        rw [Ok_chk, Ok_some]
        exact ⟨Or.inr x1, Or.inl ⟨x1, U', RS_q hrs q2⟩⟩
      rw [Ok_ite]
      refine ⟨fun q2 => exit (by omega), fun q2 => ?_⟩
      refine bin_sub (g := 1) (q' := 3) hN (by omega) HR pr hrs (by omega) (by omega) (by omega) (Or.inl rfl) (fun r18 σ19 hmid => ?_)
      refine Ok_jq2 (fun y σ' => (y = 1 ∧ ∃ U'' : Nat, U' < U'' ∧ RS N 1 b 2 σ τ t n o bk s U L 3 U'' σ') ∨ (y = 0 ∧ RF N 1 b σ τ t n o bk U σ')) (fun y20 σ21 hy => ?_) (fun j hj => ?_)
      · rw [Ok_chkI]
        refine ⟨by omega, rec' _ _ _ ?_ (by omega)⟩
        rcases hy with ⟨y1, U'', hu2, hrs2⟩ | ⟨y0, hrf⟩
        · exact Or.inl ⟨y1, by omega, U'', by omega, hrs2⟩
        · exact Or.inr ⟨y0, by omega, by omega, hrf⟩
      · rw [Ok_ite]
        rcases hmid with ⟨r1, U'', σ'', hput, hu2, hrs2⟩ | ⟨r0, hrf⟩
        · refine ⟨fun q => by omega, fun _ => ?_⟩
          have e : σ7 1 3 = 115 := Classical.not_not.mp q2
          rw [e] at hput
          rw [hput, Ok_bndR, Ok_some, Ok_ite]
          exact ⟨fun q => by omega, fun _ => hj 1 _ (Or.inl ⟨rfl, U'', hu2, hrs2⟩)⟩
        · exact ⟨fun _ => hj 0 _ (Or.inr ⟨rfl, hrf⟩), fun q => absurd r0 q⟩
    · exact absurd x0 q
  · rcases h3 with ⟨r1, U', hrs⟩ | ⟨r0, hrf⟩
    · dsimp only at r1 hrs
      have := RS_k hrs
      exact Or.inl ⟨r1, by omega, U', by omega, RS_dn (g := 1) (by omega) hb hrs (by omega)⟩
    · exact Or.inr ⟨r0, by omega, by omega, RF_dn (g := 1) (by omega) hb hrf⟩
theorem cRu_readSum_ok {N b : Nat} {rec : Nat → Nat → Int → ySt → Option (Int × ySt)} (hN : 100000 ≤ N) (HR : RD N rec 5 b) : ∀ (σ τ : ySt) (t : Nat → Int) (n p o bk s U L : Nat), PR 4 b σ τ t n p o bk s U L → Ok (cRu_readSum_b rec N o b σ) (PO N 4 b σ τ t n o bk s U L) := by
  intro σ τ t n p o bk s U L pr
  have hb : b ≤ 7 := pr.2.2.2.2.1
  have hU : U ≤ 40 := pr.2.2.2.2.2.1
  unfold cRu_readSum_b
  rw [Ok_chk, Ok_bndR]
  refine ⟨pr.2.2.2.2.2.2.2.2.2.2, (HR σ τ t n p o bk s U L (PR_up (g := 4) (by omega) pr (by omega))).mono ?_⟩
  rintro ⟨r3, σ4⟩ h3
  dsimp only
  refine Ok_loopS2 (fun x5 x6 σ7 => (x5 = 1 ∧ 0 ≤ x6 ∧ ∃ U' : Nat, x6 + (U : Int) + 1 ≤ (U' : Int) ∧ RS N 4 b 5 σ τ t n o bk s U L 6 U' σ7) ∨ (x5 = 0 ∧ 0 ≤ x6 ∧ x6 ≤ 40 ∧ RF N 4 b σ τ t n o bk U σ7)) (fun _ x6 _ => (41 - x6).toNat) ?_ N _ _ _ ?_ (by omega)
  · intro k x5 x6 σ7 hI rec'
    have hx : 0 ≤ x6 ∧ x6 ≤ 40 := by
      rcases hI with ⟨_, h0, U', hu, hrs⟩ | ⟨_, h0, h1, _⟩
      · have := RS_k hrs
        omega
      · exact ⟨h0, h1⟩
    rw [Ok_ite]
    refine ⟨fun q => by omega, fun _ => ?_⟩
    rw [Ok_ite]
    refine ⟨fun q => ?_, fun q => ?_⟩
    · rcases hI with ⟨x1, _⟩ | ⟨_, _, _, hrf⟩
      · omega
      · rw [Ok_chk, Ok_some]
        exact ⟨Or.inl q, Or.inr ⟨q, hrf⟩⟩
    rcases hI with ⟨x1, h0, U', hu, hrs⟩ | ⟨x0, _⟩
    · have hK := RS_k hrs
      have hrk := @rk_5 (σ7 1 3)
      have exit : ¬ (rk (σ7 1 3) = 5) → Ok (chk (x5 = 0 ∨ x5 = 1) <| some (x5, σ7)) (PO N 4 b σ τ t n o bk s U L) := by
        intro q2
        rw [Ok_chk, Ok_some]
        exact ⟨Or.inr x1, Or.inl ⟨x1, U', RS_q hrs q2⟩⟩
      refine Ok_jq (rk (σ7 1 3) = 5) (fun q2 => ?_) (fun j hj => ?_)
      · refine bin_sub (g := 4) (q' := 6) hN (by omega) HR pr hrs (by omega) (by omega) (by omega) (Or.inl rfl) (fun r18 σ19 hmid => ?_)
        refine Ok_jq2 (fun y σ' => (y = 1 ∧ ∃ U'' : Nat, U' < U'' ∧ RS N 4 b 5 σ τ t n o bk s U L 6 U'' σ') ∨ (y = 0 ∧ RF N 4 b σ τ t n o bk U σ')) (fun y20 σ21 hy => ?_) (fun j hj => ?_)
        · rw [Ok_chkI]
          refine ⟨by omega, rec' _ _ _ ?_ (by omega)⟩
          rcases hy with ⟨y1, U'', hu2, hrs2⟩ | ⟨y0, hrf⟩
          · exact Or.inl ⟨y1, by omega, U'', by omega, hrs2⟩
          · exact Or.inr ⟨y0, by omega, by omega, hrf⟩
        · rw [Ok_ite]
          rcases hmid with ⟨r1, U'', σ'', hput, hu2, hrs2⟩ | ⟨r0, hrf⟩
          · refine ⟨fun q => by omega, fun _ => ?_⟩
            rw [Ok_chkI]
            refine ⟨by omega, ?_⟩
            rw [hput, Ok_bndR, Ok_some, Ok_ite]
            exact ⟨fun q => by omega, fun _ => hj 1 _ (Or.inl ⟨rfl, U'', hu2, hrs2⟩)⟩
          · exact ⟨fun _ => hj 0 _ (Or.inr ⟨rfl, hrf⟩), fun q => absurd r0 q⟩
      · rw [Ok_ite]
        refine ⟨fun q2 => hj (by omega), fun q2 => ?_⟩
        rw [Ok_ite]
        exact ⟨fun q3 => exit (by omega), fun q3 => hj (by omega)⟩
    · exact absurd x0 q
  · rcases h3 with ⟨r1, U', hrs⟩ | ⟨r0, hrf⟩
    · dsimp only at r1 hrs
      have := RS_k hrs
      exact Or.inl ⟨r1, by omega, U', by omega, RS_dn (g := 4) (by omega) hb hrs (by omega)⟩
    · exact Or.inr ⟨r0, by omega, by omega, RF_dn (g := 4) (by omega) hb hrf⟩
theorem cRu_readTerm_ok {N b : Nat} {rec : Nat → Nat → Int → ySt → Option (Int × ySt)} (hN : 100000 ≤ N) (HR : RD N rec 6 b) : ∀ (σ τ : ySt) (t : Nat → Int) (n p o bk s U L : Nat), PR 5 b σ τ t n p o bk s U L → Ok (cRu_readTerm_b rec N o b σ) (PO N 5 b σ τ t n o bk s U L) := by
  intro σ τ t n p o bk s U L pr
  have hb : b ≤ 7 := pr.2.2.2.2.1
  have hU : U ≤ 40 := pr.2.2.2.2.2.1
  unfold cRu_readTerm_b
  rw [Ok_chk, Ok_bndR]
  refine ⟨pr.2.2.2.2.2.2.2.2.2.2, (HR σ τ t n p o bk s U L (PR_up (g := 5) (by omega) pr (by omega))).mono ?_⟩
  rintro ⟨r3, σ4⟩ h3
  dsimp only
  refine Ok_loopS2 (fun x5 x6 σ7 => (x5 = 1 ∧ 0 ≤ x6 ∧ ∃ U' : Nat, x6 + (U : Int) + 1 ≤ (U' : Int) ∧ RS N 5 b 6 σ τ t n o bk s U L 7 U' σ7) ∨ (x5 = 0 ∧ 0 ≤ x6 ∧ x6 ≤ 40 ∧ RF N 5 b σ τ t n o bk U σ7)) (fun _ x6 _ => (41 - x6).toNat) ?_ N _ _ _ ?_ (by omega)
  · intro k x5 x6 σ7 hI rec'
    have hx : 0 ≤ x6 ∧ x6 ≤ 40 := by
      rcases hI with ⟨_, h0, U', hu, hrs⟩ | ⟨_, h0, h1, _⟩
      · have := RS_k hrs
        omega
      · exact ⟨h0, h1⟩
    rw [Ok_ite]
    refine ⟨fun q => by omega, fun _ => ?_⟩
    rw [Ok_ite]
    refine ⟨fun q => ?_, fun q => ?_⟩
    · rcases hI with ⟨x1, _⟩ | ⟨_, _, _, hrf⟩
      · omega
      · rw [Ok_chk, Ok_some]
        exact ⟨Or.inl q, Or.inr ⟨q, hrf⟩⟩
    rcases hI with ⟨x1, h0, U', hu, hrs⟩ | ⟨x0, _⟩
    · have hK := RS_k hrs
      have hrk := @rk_6 (σ7 1 3)
      have exit : ¬ (rk (σ7 1 3) = 6) → Ok (chk (x5 = 0 ∨ x5 = 1) <| some (x5, σ7)) (PO N 5 b σ τ t n o bk s U L) := by
        intro q2
        rw [Ok_chk, Ok_some]
        exact ⟨Or.inr x1, Or.inl ⟨x1, U', RS_q hrs q2⟩⟩
      refine Ok_jq (rk (σ7 1 3) = 6) (fun q2 => ?_) (fun j hj => ?_)
      · refine bin_sub (g := 5) (q' := 7) hN (by omega) HR pr hrs (by omega) (by omega) (by omega) (Or.inl rfl) (fun r18 σ19 hmid => ?_)
        refine Ok_jq2 (fun y σ' => (y = 1 ∧ ∃ U'' : Nat, U' < U'' ∧ RS N 5 b 6 σ τ t n o bk s U L 7 U'' σ') ∨ (y = 0 ∧ RF N 5 b σ τ t n o bk U σ')) (fun y20 σ21 hy => ?_) (fun j hj => ?_)
        · rw [Ok_chkI]
          refine ⟨by omega, rec' _ _ _ ?_ (by omega)⟩
          rcases hy with ⟨y1, U'', hu2, hrs2⟩ | ⟨y0, hrf⟩
          · exact Or.inl ⟨y1, by omega, U'', by omega, hrs2⟩
          · exact Or.inr ⟨y0, by omega, by omega, hrf⟩
        · rw [Ok_ite]
          rcases hmid with ⟨r1, U'', σ'', hput, hu2, hrs2⟩ | ⟨r0, hrf⟩
          · refine ⟨fun q => by omega, fun _ => ?_⟩
            rw [Ok_chkI]
            refine ⟨by omega, ?_⟩
            rw [hput, Ok_bndR, Ok_some, Ok_ite]
            exact ⟨fun q => by omega, fun _ => hj 1 _ (Or.inl ⟨rfl, U'', hu2, hrs2⟩)⟩
          · exact ⟨fun _ => hj 0 _ (Or.inr ⟨rfl, hrf⟩), fun q => absurd r0 q⟩
      · rw [Ok_ite]
        refine ⟨fun q2 => hj (by omega), fun q2 => ?_⟩
        rw [Ok_ite]
        exact ⟨fun q3 => exit (by omega), fun q3 => hj (by omega)⟩
    · exact absurd x0 q
  · rcases h3 with ⟨r1, U', hrs⟩ | ⟨r0, hrf⟩
    · dsimp only at r1 hrs
      have := RS_k hrs
      exact Or.inl ⟨r1, by omega, U', by omega, RS_dn (g := 5) (by omega) hb hrs (by omega)⟩
    · exact Or.inr ⟨r0, by omega, by omega, RF_dn (g := 5) (by omega) hb hrf⟩
