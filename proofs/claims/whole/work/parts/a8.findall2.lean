/-! states that can be: found by both -/
def lawA (σ : ySt) (T L md mp mq nc A : Nat) (s x : Nat) : Bool := lawB σ T L md mp mq (-1) (-1) s x && agB σ mp mq nc A s x
def gtC (σ : ySt) (T hr : Nat) (u v : Nat) : Bool := decide (σ (T + 15) (6 * u + v) ≤ (hr : Int))
theorem forth_ok {N T b mp mq md L S nc h : Nat} {hr k a : Int} {Mn : Nat → Nat → Int} {σ τ : ySt} {ag : Nat → Nat → Bool} (hN : 100000 ≤ N) (hq : FQ τ b mp mq S hr Mn) (ho : ∀ s p h : Nat, 1 ≤ s → s ≤ 8 → p < mp → h ≤ 5 → τ 125 (48 * (s - 1) + 8 * p + h) = opn σ T L md (-1) (-1) s p h) (ct : CTr σ τ nc mp) (hag : (a = 0 ∧ ∀ s x, ag s x = true) ∨ (a ≠ 0 ∧ ∀ s x, ag s x = agK σ mp mq nc k s x)) (h0 : AH τ mp mq (fun u v => decide (Mn u v ≤ hr)) (fun s x => lawB σ T L md mp mq (-1) (-1) s x && ag s x) h 0) (hb : BH τ mp mq S (fun u v => decide (Mn u v ≤ hr)) (fun s x => lawB σ T L md mp mq (-1) (-1) s x && ag s x) h S) :
    Ok (loopS1 (faX N a k ((mp ^ mq : Nat) : Int)) N 1 τ) (fun τ' => KR τ' τ ∧ ∀ s, s ≤ S → AH τ' mp mq (fun u v => decide (Mn u v ≤ hr)) (fun s x => lawB σ T L md mp mq (-1) (-1) s x && ag s x) h s ∧ BH τ' mp mq S (fun u v => decide (Mn u v ≤ hr)) (fun s x => lawB σ T L md mp mq (-1) (-1) s x && ag s x) h s) := by
  have hM := FQ_le hq
  have hS8 := hq.2.2.2.2
  obtain ⟨law, hlaw⟩ : ∃ law : Nat → Nat → Bool, law = fun s x => lawB σ T L md mp mq (-1) (-1) s x && ag s x := ⟨_, rfl⟩
  rw [← hlaw] at h0 hb ⊢
  refine Ok_loopS1 (fun y ν => ∃ s : Nat, y = (s : Int) + 1 ∧ s ≤ S ∧ KR ν τ ∧ (∀ j, j ≤ s → AH ν mp mq (fun u v => decide (Mn u v ≤ hr)) law h j) ∧ ν 133 = τ 133) (fun y _ => (S + 1 - y.toNat : Nat)) ?_ N _ _ ⟨0, rfl, by omega, KR_rfl τ, fun j hj => by rw [show j = 0 by omega]; exact h0, rfl⟩ (by omega)
  rintro g y ν ⟨s, rfl, hs, i1, i2, i3⟩ rec
  have hν := FQ_of hq i1
  unfold faX
  rw [hν.2.2.1, Ok_ite]
  refine ⟨fun q => ?_, fun q => ?_⟩
  · have hsS : s = S := by omega
    subst hsS
    refine (back_ok (law := law) (h := h) hN hν i2 (by unfold BH; rw [i3]; exact hb)).mono ?_
    rintro τ' ⟨a1, a2, a3⟩
    refine ⟨KR_tr i1 a1, fun j hj => ⟨?_, a3 j hj⟩⟩
    have := i2 j hj
    unfold AH at this ⊢
    rw [a2]
    exact this
  · have hsS : s + 1 ≤ S := by omega
    have as := i2 s (Nat.le_refl s)
    rw [show (s : Int) + 1 = ((s + 1 : Nat) : Int) from rfl]
    refine Ok_loopS2 (fun y z κ => y = ((s + 1 : Nat) : Int) ∧ ∃ x : Nat, z = x ∧ x ≤ mp ^ mq ∧ (∀ i, i ≠ 134 → κ i = ν i) ∧ ∀ u, u < x → κ 134 u = b01 (ahd mp mq (fun u v => decide (Mn u v ≤ hr)) law h s u)) (fun _ z _ => (mp ^ mq - z.toNat : Nat)) ?_ N _ _ _ ⟨rfl, 0, rfl, by omega, fun _ _ => rfl, fun u hu => absurd hu (Nat.not_lt_zero u)⟩ (by omega)
    rintro g2 y z κ ⟨rfl, x, rfl, hx, j1, j2⟩ rec2
    rw [Ok_ite]
    refine ⟨fun q2 => ?_, fun q2 => ?_⟩
    · have hκ : FQ κ b mp mq S hr Mn := FQ_of hν (fun i _ _ _ _ e _ => j1 i e)
      unfold faY
      refine fa_steps hN hκ (fun u hu => j2 u (by omega)) (fun μ m1 m2 => ?_)
      have hμ : FQ μ b mp mq S hr Mn := FQ_of hκ (fun i _ _ _ _ e f => m1 i e f)
      have kμ : KR μ τ := KR_tr i1 (fun i a b c d e f => (m1 i e f).trans (j1 i e))
      refine faZ_ok (σ := σ) (T := T) (md := md) (L := L) (nc := nc) (ag := ag) (h := h) hN hμ (by omega) (by rw [kμ 125 (by decide) (by decide) (by decide) (by decide) (by decide) (by decide)]; exact ho) (CTr_of ct (fun _ _ _ => rfl) (fun i h1 h2 => kμ i (by omega) (by omega) (by omega) (by omega) (by omega) (by omega)) (by rw [kμ 92 (by decide) (by decide) (by decide) (by decide) (by decide) (by decide)]) (by rw [kμ 92 (by decide) (by decide) (by decide) (by decide) (by decide) (by decide)])) hag m2 (fun μ' n1 n2 n3 => ?_)
      have k1 : KR μ' τ := KR_tr kμ (fun i a b c d e f => n1 i a b c)
      have k133 : μ' 133 = τ 133 := (n1 133 (by decide) (by decide) (by decide)).trans ((m1 133 (by decide) (by decide)).trans ((j1 133 (by decide)).trans i3))
      have k132 : ∀ j, (j < 7776 * (s + 1) ∨ 7776 * (s + 1 + 1) ≤ j) → μ' 132 j = ν 132 j := fun j hj => by rw [n2 j hj, m1 132 (by decide) (by decide), j1 132 (by decide)]
      refine rec _ _ ⟨s + 1, rfl, hsS, k1, fun j hj => ?_, k133⟩ (by omega)
      by_cases c : j = s + 1
      · intro u hu
        rw [c, n3 u hu]
        show _ = b01 (stBs mp mq (fun u v => decide (Mn u v ≤ hr)) (ahd mp mq (fun u v => decide (Mn u v ≤ hr)) law h s) mq u && law (s + 1) u)
        rw [hlaw]
      · intro u hu
        rw [k132 _ (by omega)]
        exact i2 j (by omega) u hu
    · have hxm : x < mp ^ mq := by omega
      have ix : (7776 * (((s + 1 : Nat) : Int) - 1) + (x : Int)).toNat = 7776 * s + x := by omega
      have ax := as x hxm
      rw [← j1 132 (by decide)] at ax
      have hb2 := b01_rg (ahd mp mq (fun u v => decide (Mn u v ≤ hr)) law h s x)
      rw [Ok_chkI, Ok_chkI, Ok_chkI, Ok_chkA, ix, ax, Ok_chk, Ok_chkA, Int.toNat_natCast, Ok_bnd, Ok_chkI]
      refine ⟨by omega, by omega, by omega, by omega, hb2, by omega, by omega, rec2 _ _ _ ⟨rfl, x + 1, by omega, by omega, fun i hi => by rw [yset_off i hi]; exact j1 i hi, fun u hu => ?_⟩ (by omega)⟩
      by_cases c : u = x
      · rw [c, yset_at]
      · rw [yset_ne (by omega)]
        exact j2 u (by omega)
theorem mo_findAll_ok {N T b mp mq md mw me L S hr nc : Nat} {W : Nat → Int} {k a : Int} {σ τ : ySt} {ag : Nat → Nat → Bool} (hN : 100000 ≤ N) (h : TD σ τ T b mp mq md mw me L W) (hTW : TW σ T mp mq me) (hS : σ T 17 = S) (hH : σ T 16 = hr) (ct : CTr σ τ nc mp) (hag : (a = 0 ∧ ∀ s x, ag s x = true) ∨ (a ≠ 0 ∧ ∀ s x, ag s x = agK σ mp mq nc k s x)) :
    Ok (mo_findAll N a k τ) (fun τ' => FrQ τ' τ ∧ τ' 92 50 = τ 92 50 ∧ FQ τ' b mp mq S (hr : Int) (fun u v => σ (T + 15) (6 * u + v)) ∧ ∀ s, s ≤ S → AH τ' mp mq (gtC σ T hr) (fun s x => lawB σ T L md mp mq (-1) (-1) s x && ag s x) (enc mp (homeV σ T) mq) s ∧ BH τ' mp mq S (gtC σ T hr) (fun s x => lawB σ T L md mp mq (-1) (-1) s x && ag s x) (enc mp (homeV σ T) mq) s) := by
  obtain ⟨hT, h1, hm6, h3, hq5, hm, h14, hme, he, hh, h16, h17, h15⟩ := id hTW
  obtain ⟨_, h05, h40, hb, g1, g2, g3, w, wn, ft, g5, g6, g7, g8, g9, ru, hru, huu⟩ := id h
  have hM := pow_le hm6 hq5
  have hv : ∀ n, n < mq → homeV σ T n < mp ∧ σ (T + 8) n = ((homeV σ T n : Nat) : Int) := fun n hn => by
    have := (hh n hn).1
    unfold homeV
    omega
  rw [mo_findAll_eq, bndO_2, Ok_bndO]
  refine (plain_lay hN h).mono ?_
  rintro τ1 ⟨f1, ly, k1⟩
  have td := TD_FrQ h f1
  obtain ⟨_, _, u40, _, u1, u2, _, _, _, _, _, u6, _, u8, _⟩ := id td
  obtain ⟨⟨q47, q48, q49, q51, q52, q53⟩, l2, l3⟩ := id ly
  have fq : FQ τ1 b mp mq S (hr : Int) (fun u v => σ (T + 15) (6 * u + v)) := ⟨⟨u40, hb, u1.2.2, hm6, u2.2.2, hq5, by rw [q47, ← u6.1.1]; exact hH, l2⟩, hm, by rw [q48, ← u6.2.1]; exact hS, by omega, by omega⟩
  have ho : ∀ s p h : Nat, 1 ≤ s → s ≤ 8 → p < mp → h ≤ 5 → τ1 125 (48 * (s - 1) + 8 * p + h) = opn σ T L md (-1) (-1) s p h := fun s p m s1 s2 hp hm' => by
    rw [l3 s p m s1 s2 hp hm']
    unfold opn
    rw [if_neg (show ¬ ((s : Int) = -1 ∨ (p : Int) = -1) by omega)]
  have ct1 : CTr σ τ1 nc mp := CTr_of ct (fun _ _ _ => rfl) (fun i a1 a2 => f1.1 i (by omega) (by omega)) (f1.2 81 (by omega)) (f1.2 82 (by omega))
  rw [FQ_n hN fq, bndO_s]
  obtain ⟨hx, hhx⟩ : ∃ hx, hx = enc mp (homeV σ T) mq := ⟨_, rfl⟩
  have hx0 : hx < mp ^ mq := by rw [hhx]; exact enc_lt mq (fun n hn => (hv n hn).1)
  have hS8 := fq.2.2.2.2
  rw [← hhx]
  refine Ok_loopS1 (fun y ν => ∃ x : Nat, y = x ∧ x ≤ mp ^ mq ∧ (∀ i, i ≠ 132 → i ≠ 133 → ν i = τ1 i) ∧ (∀ u, u < x → ν 132 u = b01 (decide (u = hx))) ∧ ∀ u, u < x → ν 133 (7776 * S + u) = 1) (fun y _ => (mp ^ mq - y.toNat : Nat)) ?_ N _ _ ⟨0, rfl, by omega, fun _ _ _ => rfl, fun u hu => absurd hu (Nat.not_lt_zero u), fun u hu => absurd hu (Nat.not_lt_zero u)⟩ (by omega)
  rintro g y ν ⟨x, rfl, hxx, i1, i2, i3⟩ rec
  have kν : KR ν τ1 := fun i _ _ c d _ _ => i1 i c d
  have hν := FQ_of fq kν
  unfold faI
  rw [Ok_ite]
  refine ⟨fun q => ?_, fun q => ?_⟩
  · refine (forth_ok (σ := σ) (T := T) (md := md) (L := L) (nc := nc) (h := hx) (a := a) (k := k) (ag := ag) hN hν (by rw [i1 125 (by decide) (by decide)]; exact ho) (CTr_of ct1 (fun _ _ _ => rfl) (fun i a1 a2 => i1 i (by omega) (by omega)) (by rw [i1 92 (by decide) (by decide)]) (by rw [i1 92 (by decide) (by decide)])) hag (fun u hu => by rw [Nat.mul_zero, Nat.zero_add]; exact i2 u (by omega)) (fun u hu => by rw [Nat.sub_self]; exact i3 u (by omega))).mono ?_
    rintro τ' ⟨a1, a2⟩
    have k2 : KR τ' τ1 := KR_tr kν a1
    refine ⟨FrQ_tr f1 ⟨fun i c d => k2 i (by omega) (by omega) (by omega) (by omega) (by omega) (by omega), fun k' _ => by rw [k2 92 (by decide) (by decide) (by decide) (by decide) (by decide) (by decide)]⟩, by rw [k2 92 (by decide) (by decide) (by decide) (by decide) (by decide) (by decide)]; exact k1 50 (by omega), FQ_of fq k2, a2⟩
  · rw [mo_homeState_ok (v := homeV σ T) hN hν.1.1 hb hν.1.2.2.1 hm6 hν.1.2.2.2.2.1 hq5 (fun n hn => ⟨(hv n hn).1, by
      rw [i1 111 (by decide) (by decide), ← (u8 n hn).1.1]
      exact (hv n hn).2⟩), bndO_s, ← hhx]
    refine Ok_jq1 (fun (y : Int) => y = b01 (decide (x = hx))) (fun y hy => ?_) (fun kk hkk => ?_)
    · have hb2 := b01_rg (decide (x = hx))
      have ix : (7776 * (S : Int) + (x : Int)).toNat = 7776 * S + x := by omega
      have e48 : yset ν 132 x y 92 48 = (S : Int) := by rw [yset_off 92 (by decide)]; exact hν.2.2.1
      rw [Ok_chk, Ok_chkA, Int.toNat_natCast, Ok_bnd, e48, Ok_chkI, Ok_chkI, Ok_chkA, ix, Ok_bnd, Ok_chkI]
      refine ⟨by rw [hy]; exact hb2, by omega, by omega, by omega, by omega, by omega, rec _ _ ⟨x + 1, by omega, by omega, fun i c d => by rw [yset_off i d, yset_off i c]; exact i1 i c d, fun u hu => ?_, fun u hu => ?_⟩ (by omega)⟩
      · rw [yset_off 132 (by decide)]
        by_cases c : u = x
        · rw [c, yset_at, hy]
        · rw [yset_ne (by omega)]
          exact i2 u (by omega)
      · by_cases c : u = x
        · rw [c, yset_at]
        · rw [yset_ne (by omega), yset_off 133 (by decide)]
          exact i3 u (by omega)
    · rw [Ok_ite]
      exact ⟨fun c => hkk _ (by rw [decide_eq_false (show ¬ x = hx by omega)]; rfl), fun c => hkk _ (by rw [decide_eq_true (show x = hx by omega)]; rfl)⟩
/-- what the class knows of states that can be -/
def VA (σ : ySt) (T L md mp mq S hr nc A : Nat) : Prop := ∀ x, x < mp ^ mq → ∃ B : Nat, σ 77 x = B ∧ B < 512 ∧ ∀ s, 1 ≤ s → s ≤ S → Nat.testBit B s = cbe mp mq S (gtC σ T hr) (lawA σ T L md mp mq nc A) (enc mp (homeV σ T) mq) s x
def AL (σ : ySt) (T L md mp mq S hr nc : Nat) : Prop := σ 58 13 ≠ 0 → ∃ A : Nat, σ 58 14 = A ∧ A < 2 ^ nc ∧ VA σ T L md mp mq S hr nc A
theorem VA_eq {σ σ' : ySt} {T L md mp mq hr nc A : Nat} (eT : ∀ i, T ≤ i → i ≤ T + 19 → σ' i = σ i) (e4 : ∀ c, c < nc → σ' 4 c = σ 4 c ∧ σ' 5 c = σ 5 c ∧ σ' 6 c = σ 6 c) : gtC σ' T hr = gtC σ T hr ∧ homeV σ' T = homeV σ T ∧ lawA σ' T L md mp mq nc A = lawA σ T L md mp mq nc A := by
  refine ⟨?_, ?_, ?_⟩
  · unfold gtC
    rw [eT (T + 15) (by omega) (by omega)]
  · funext n
    unfold homeV
    rw [eT (T + 8) (by omega) (by omega)]
  · funext s x
    unfold lawA agB lawB opn rgt
    rw [eT (T + 7) (by omega) (by omega), eT (T + 10) (by omega) (by omega), eT (T + 18) (by omega) (by omega), bany_congr nc (fun c hc => by rw [(e4 c hc).1, (e4 c hc).2.1, (e4 c hc).2.2])]
theorem VA_of {σ σ' : ySt} {T L md mp mq S hr nc A : Nat} (h : VA σ T L md mp mq S hr nc A) (eT : ∀ i, T ≤ i → i ≤ T + 19 → σ' i = σ i) (e77 : σ' 77 = σ 77) (e4 : ∀ c, c < nc → σ' 4 c = σ 4 c ∧ σ' 5 c = σ 5 c ∧ σ' 6 c = σ 6 c) : VA σ' T L md mp mq S hr nc A := by
  obtain ⟨e1, e2, e3⟩ := VA_eq (L := L) (md := md) (mp := mp) (mq := mq) (hr := hr) (A := A) eT e4
  unfold VA at h ⊢
  rw [e1, e2, e3, e77]
  exact h
theorem AL_of {σ σ' : ySt} {T L md mp mq S hr nc : Nat} (h : AL σ T L md mp mq S hr nc) (eT : ∀ i, T ≤ i → i ≤ T + 19 → σ' i = σ i) (e58 : σ' 58 13 = σ 58 13 ∧ σ' 58 14 = σ 58 14) (e77 : σ' 77 = σ 77) (e4 : ∀ c, c < nc → σ' 4 c = σ 4 c ∧ σ' 5 c = σ 5 c ∧ σ' 6 c = σ 6 c) : AL σ' T L md mp mq S hr nc := by
  intro w
  rw [e58.1] at w
  obtain ⟨A, a1, a2, a3⟩ := h w
  exact ⟨A, by rw [e58.2]; exact a1, a2, VA_of a3 eT e77 e4⟩
theorem findAlive_ok {N T mp mq md me L S hr nc A : Nat} {W : Nat → Int} {σ : ySt} (hN : 100000 ≤ N) (hTW : TW σ T mp mq me) (ft : FT σ T mp md L W) (h58 : σ 58 0 = (T : Int) + 1) (hS : σ T 17 = S) (hH : σ T 16 = hr) (h5 : σ 3 5 = nc) (hn : nc ≤ 40) (hc : ∀ c, c < nc → (1 ≤ σ 4 c ∧ σ 4 c ≤ 8) ∧ (0 ≤ σ 5 c ∧ σ 5 c < mp) ∧ (0 ≤ σ 6 c ∧ σ 6 c ≤ 5)) (hA : A < 2 ^ nc) (hal : AL σ T L md mp mq S hr nc) :
    Ok (cAn_findAlive N A σ) (fun σ' => (∀ i, i ≠ 58 → i ≠ 60 → i ≠ 61 → i ≠ 62 → i ≠ 63 → i ≠ 77 → (i < 78 ∨ 82 < i) → σ' i = σ i) ∧ (∀ k, k ≠ 13 → k ≠ 14 → σ' 58 k = σ 58 k) ∧ DS σ' T mp mq ∧ AL σ' T L md mp mq S hr nc ∧ VA σ' T L md mp mq S hr nc A) := by
  obtain ⟨hT, h1, hm6, h3, hq5, hm, h14, hme, he, hh, h16, h17, h15⟩ := id hTW
  have hS8 : S * 1 = S := Nat.mul_one S
  have hH1 : hr / 1 = hr := Nat.div_one hr
  unfold cAn_findAlive
  rw [chkT_pos hT h58, Ok_bndO]
  refine (lay_ok (what := 0) (t := 1) (op := fun s p h => decide (opn σ T L md (-1) (-1) s p h ≠ 0)) hN hTW (by omega) hS hH (by omega) (bits_pl ft)).mono ?_
  rintro σ5 ⟨fr, _, hd, _⟩
  rw [hS8, hH1] at hd
  obtain ⟨d1, d2, d3, d4⟩ := hd (by omega)
  have f5 : ∀ i, (i < 78 ∨ 82 < i) → σ5 i = σ i := fun i hi => fr i (by omega) (by omega) (by omega) (by omega) (by omega)
  have eT5 : ∀ i, T ≤ i → i ≤ T + 19 → σ5 i = σ i := fun i x y => f5 i (by omega)
  rw [f5 58 (by omega)]
  refine Ok_jq True (fun _ => ?_) (fun jj hjj => ?_)
  · rw [Ok_bndO]
    refine (narrow_ok hN (by rw [f5 3 (by omega)]; exact h5) hn hA hm6 (by rw [f5 4 (by omega), f5 5 (by omega), f5 6 (by omega)]; exact hc) d3).mono ?_
    rintro σ8 ⟨a1, a2⟩
    rw [Ok_bndO]
    refine (layAlive_ok (S := S) (gt := gtC σ T hr) (v := homeV σ T) hN (DS_of d1 (fun i hi => a1 i (by omega))) (DG_of d2 (fun i hi => a1 i (by omega))) (fun u v hu hv => ?_) a2 (fun n hn => ?_)).mono ?_
    · unfold wkM gtC
      by_cases c : σ (T + 15) (6 * u + v) ≤ (hr : Int)
      · rw [if_pos c, decide_eq_true c]
        rfl
      · rw [if_neg c, decide_eq_false c]
        rfl
    · rw [a1 (T + 8) (by omega), eT5 (T + 8) (by omega) (by omega)]
      have := (hh n hn).1
      unfold homeV
      omega
    rintro σ10 ⟨b1, b2⟩
    rw [Ok_bnd, Ok_bnd, Ok_some]
    generalize hσ' : yset (yset σ10 58 13 1) 58 14 (A : Int) = σ'
    have e1 : ∀ i, i ≠ 58 → σ' i = σ10 i := fun i hi => by rw [← hσ', yset_off i hi, yset_off i hi]
    have fr' : ∀ i, i ≠ 58 → i ≠ 60 → i ≠ 61 → i ≠ 62 → i ≠ 63 → i ≠ 77 → (i < 78 ∨ 82 < i) → σ' i = σ i := fun i x1 x2 x3 x4 x5 x6 x7 => by rw [e1 i x1, b1 i x2 x3 x4 x5 x6, a1 i (by omega), f5 i x7]
    have elaw : lawC mp mq (fun s p h => decide (opn σ T L md (-1) (-1) s p h ≠ 0) && !(bany (agP σ5 A s p h) nc)) = lawA σ T L md mp mq nc A := by
      funext s x
      rw [lawC_narrow (by rw [f5 5 (by omega)]; exact fun c hcn => (hc c hcn).2.1), law_eq]
      unfold lawA agB
      rw [f5 4 (by omega), f5 5 (by omega), f5 6 (by omega)]
    rw [elaw] at b2
    have va : VA σ' T L md mp mq S hr nc A := by
      obtain ⟨e1', e2', e3'⟩ := VA_eq (σ := σ) (σ' := σ') (L := L) (md := md) (mp := mp) (mq := mq) (hr := hr) (nc := nc) (A := A) (T := T) (fun i x y => fr' i (by omega) (by omega) (by omega) (by omega) (by omega) (by omega) (by omega)) (fun c' _ => by rw [fr' 4 (by decide) (by decide) (by decide) (by decide) (by decide) (by decide) (by omega), fr' 5 (by decide) (by decide) (by decide) (by decide) (by decide) (by decide) (by omega), fr' 6 (by decide) (by decide) (by decide) (by decide) (by decide) (by decide) (by omega)]; exact ⟨rfl, rfl, rfl⟩)
      unfold VA
      rw [e1', e2', e3', e1 77 (by decide)]
      exact b2
    refine ⟨fr', fun k x1 x2 => by rw [← hσ', yset_ne (by omega), yset_ne (by omega), b1 58 (by decide) (by decide) (by decide) (by decide) (by decide), a1 58 (by decide), f5 58 (by omega)], DS_of d1 (fun i hi => by rw [e1 i (by omega), b1 i (by omega) (by omega) (by omega) (by omega) (by omega), a1 i (by omega)]), fun _ => ⟨A, by rw [← hσ', yset_at], hA, va⟩, va⟩
  · rw [Ok_ite]
    refine ⟨fun c => hjj trivial, fun c => ?_⟩
    rw [Ok_ite, Ok_some]
    refine ⟨fun c2 => hjj trivial, fun c2 => ?_⟩
    obtain ⟨A', x1, x2, x3⟩ := hal c
    have e : A' = A := by
      have := blcmp_0.mp (Classical.byContradiction c2)
      omega
    rw [e] at x1 x3
    have va : VA σ5 T L md mp mq S hr nc A := VA_of x3 eT5 (f5 77 (by omega)) (fun c' _ => by rw [f5 4 (by omega), f5 5 (by omega), f5 6 (by omega)]; exact ⟨rfl, rfl, rfl⟩)
    exact ⟨fun i _ _ _ _ _ _ x7 => f5 i x7, fun k _ _ => by rw [f5 58 (by omega)], d1, fun _ => ⟨A, by rw [f5 58 (by omega)]; exact x1, hA, va⟩, va⟩
