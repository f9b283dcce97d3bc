/-! a told plan read: all at home, a line, the whole text -/
theorem cPl_stayHome_ok {N P T mq : Nat} {σ : ySt} (hN : 100000 ≤ N) (hP : P = 54 ∨ P = 56) (hT : T = 13 ∨ T = 33) (h3 : σ (T + 3) 1 = mq) (hq5 : mq ≤ 5) :
    Ok (cPl_stayHome N P T σ) (fun σ' => (∀ i, i ≠ P + 1 → σ' i = σ i) ∧ ∀ s n, s ≤ 8 → n < mq → σ' (P + 1) (5 * s + n) = σ (T + 8) n) := by
  unfold cPl_stayHome
  rw [Ok_chk, Ok_chk]
  refine ⟨hP, hT, Ok_loopS1 (fun y ν => ∃ k : Nat, y = k ∧ k ≤ mq ∧ (∀ i, i ≠ P + 1 → ν i = σ i) ∧ ∀ s n, s ≤ 8 → n < k → ν (P + 1) (5 * s + n) = σ (T + 8) n) (fun y _ => (mq - y.toNat : Nat)) ?_ N _ _ ⟨0, rfl, by omega, fun _ _ => rfl, fun s n _ hn => absurd hn (Nat.not_lt_zero n)⟩ (by omega)⟩
  rintro g y ν ⟨k, rfl, hk, i1, i2⟩ rec
  rw [i1 (T + 3) (by omega), h3, Ok_ite, Ok_some]
  refine ⟨fun q => ⟨i1, fun s n hs hn => i2 s n hs (by omega)⟩, fun q => ?_⟩
  have key := stayFrom_ok (a := 0) (b := k) (c := σ (T + 8) k) (σ := ν) hN hP (by omega) (by omega)
  rw [show ((0 : Nat) : Int) = 0 from rfl] at key
  rw [Ok_chkA, Int.toNat_natCast, i1 (T + 8) (by omega), Ok_bndO]
  refine ⟨by omega, key.mono ?_⟩
  rintro σ' ⟨u1, u2⟩
  rw [Ok_chkI]
  refine ⟨by omega, rec _ _ ⟨k + 1, by omega, by omega, fun i hi => (u1 i hi).trans (i1 i hi), fun s n hs hn => ?_⟩ (by omega)⟩
  rw [u2 s n hs (by omega)]
  by_cases c : n = k
  · rw [if_pos ⟨c, Nat.zero_le s⟩, c]
  · rw [if_neg (fun w => c w.1)]
    exact i2 s n hs (by omega)
theorem mo_stayHome_ok {N a b mq : Nat} {τ : ySt} (hN : 100000 ≤ N) (ha : a = 0 ∨ a = 40) (h40 : τ 92 40 = b) (hb : b < 2) (h97 : τ 97 b = mq) (hmq : mq ≤ 5) :
    Ok (mo_stayHome N a τ) (fun τ' => (∀ i, i ≠ 136 → τ' i = τ i) ∧ (∀ n s, n < 5 → s < 8 → τ' 136 (a + 8 * n + s) = if n < mq then τ 111 (5 * b + n) else 0) ∧ ∀ j, (j < a ∨ a + 40 ≤ j) → τ' 136 j = τ 136 j) := by
  unfold mo_stayHome
  refine Ok_loopS1 (fun y ν => ∃ k : Nat, y = k ∧ k ≤ 5 ∧ (∀ i, i ≠ 136 → ν i = τ i) ∧ (∀ n s, n < k → s < 8 → ν 136 (a + 8 * n + s) = if n < mq then τ 111 (5 * b + n) else 0) ∧ ∀ j, (j < a ∨ a + 40 ≤ j) → ν 136 j = τ 136 j) (fun y _ => (5 - y.toNat : Nat)) ?_ N _ _ ⟨0, rfl, by omega, fun _ _ => rfl, fun n s hn => absurd hn (Nat.not_lt_zero n), fun _ _ => rfl⟩ (by omega)
  rintro g y ν ⟨k, rfl, hk, i1, i2, i3⟩ rec
  rw [Ok_ite, Ok_some]
  refine ⟨fun q => ⟨i1, fun n s hn hs => i2 n s (by omega) hs, i3⟩, fun q => ?_⟩
  refine Ok_loopS2 (fun y z μ => y = (k : Int) ∧ ∃ j : Nat, z = j ∧ j ≤ 8 ∧ (∀ i, i ≠ 136 → μ i = τ i) ∧ (∀ n s, (n < k ∨ (n = k ∧ s < j)) → s < 8 → μ 136 (a + 8 * n + s) = if n < mq then τ 111 (5 * b + n) else 0) ∧ ∀ j, (j < a ∨ a + 40 ≤ j) → μ 136 j = τ 136 j) (fun _ z _ => (8 - z.toNat : Nat)) ?_ N _ _ _ ⟨rfl, 0, rfl, by omega, i1, fun n s hn hs => i2 n s (by omega) hs, i3⟩ (by omega)
  rintro g2 y z μ ⟨rfl, j, rfl, hj, j1, j2, j3⟩ rec2
  rw [Ok_ite]
  refine ⟨fun q2 => ?_, fun q2 => ?_⟩
  · rw [Ok_chkI]
    exact ⟨by omega, rec _ _ ⟨k + 1, by omega, by omega, j1, fun n s hn hs => j2 n s (by omega) hs, j3⟩ (by omega)⟩
  · have e40 : μ 92 40 = b := by rw [j1 92 (by decide)]; exact h40
    have ix : ((a : Int) + 8 * (k : Int) + (j : Int)).toNat = a + 8 * k + j := by omega
    rw [Ok_chkI, Ok_chkI, Ok_chkI, mo_personMany_ok e40 hb (show μ 97 b = (mq : Int) by rw [j1 97 (by decide)]; exact h97), bndO_s]
    refine ⟨by omega, by omega, by omega, Ok_jq1 (fun y => y = if k < mq then τ 111 (5 * b + k) else 0) (fun y hy => ?_) (fun kk hkk => ?_)⟩
    · rw [Ok_chkA, ix, Ok_bnd, Ok_chkI]
      refine ⟨by omega, by omega, rec2 _ _ _ ⟨rfl, j + 1, by omega, by omega, fun i hi => by rw [yset_off i hi]; exact j1 i hi, fun n s hn hs => ?_, fun x hx => by rw [yset_ne (by omega)]; exact j3 x hx⟩ (by omega)⟩
      by_cases c : n = k ∧ s = j
      · rw [c.1, c.2, yset_at]
        exact hy
      · rw [yset_ne (by omega)]
        exact j2 n s (by omega) hs
    · rw [Ok_ite]
      refine ⟨fun c => hkk _ (by rw [if_neg (by omega)]), fun c => ?_⟩
      have ix2 : (5 * (b : Int) + (k : Int)).toNat = 5 * b + k := by omega
      rw [e40, Ok_chkI, Ok_chkI, Ok_chkA, ix2, j1 111 (by decide)]
      exact ⟨by omega, by omega, by omega, hkk _ (by rw [if_pos (by omega)])⟩
def clJ (N P T : Nat) (k10 : Int → Int → ySt → Option (Int × ySt)) (x7 x8 : Int) (σ9 : ySt) : Option (Int × ySt) :=
  bndR (cTp_passKnown N (T + 3) σ9) fun r17 σ18 =>
  if r17 = (-1) then
    some ((-1), σ18)
  else
    bndR (cPl_readPlaces N P T r17 σ18) fun r21 σ22 =>
    if r21 = 0 then
      some ((-1), σ22)
    else
      bndR (cTp_pass N 59 σ22) fun r25 σ26 =>
      if ¬ r25 = 0 then
        chkI (x8 + 1) <|
        k10 (b32or x7 (b32shl 1 r17)) (x8 + 1) σ26
      else
        some ((-1), σ26)
def clF (N P T : Nat) (k10 : Int → Int → ySt → Option (Int × ySt)) (x7 x8 : Int) (σ9 : ySt) : Option (Int × ySt) :=
  if x8 ≥ 400 then
    some (x8, σ9)
  else
    if (σ9 1 3) = 0 then
      some (x8, σ9)
    else
      bnd (fun (y13 : Int) =>
        bnd (clJ N P T k10 x7 x8 σ9) fun j15 =>
        if y13 = (-1) then
          j15
        else
          if ¬ (b32and (b32shr x7 y13) 1) = 1 then
            j15
          else
            bndR (cTp_blame 3 σ9) fun r32 σ33 =>
            some ((-1), σ33)) fun j14 =>
      if ¬ (σ9 1 3) = 3 then
        j14 (-1)
      else
        bndO (cNm_find N (T + 3) (σ9 1 4) σ9) fun r36 =>
        j14 r36
theorem cPl_readFrom_eq (N P T : Nat) (σ : ySt) : cPl_readFrom N P T σ =
  chk (P = 54 ∨ P = 56) (
  chk (T = 13 ∨ T = 33) (
  bndO (cPl_stayHome N P T σ) fun σ4 =>
  bndO (cTp_begin N σ4) fun σ6 =>
  loopS2 (clF N P T) N 0 0 σ6)) := rfl
def mlR (N : Nat) (k16 : Int → ySt → Option (Int × ySt)) (x14 : Int) (σ37 : ySt) : Option (Int × ySt) :=
  bndO (mo_is 59 σ37) fun r39 =>
  bndO (mo_must N r39 σ37) fun σ41 =>
  chkI (x14 + 1) <|
  k16 (x14 + 1) σ41
def mlE (N : Nat) (x14 : Int) (σ15 : ySt) : Option (Int × ySt) :=
  bndO (mo_isGood σ15) fun r21 =>
  if ¬ r21 = 0 then
    loopS2 (fun k26 x23 x24 σ25 =>
      if x24 ≥ 40 then
        some (x23, σ25)
      else
        chkI (40 + x24) <|
        chkA 80 (40 + x24) <|
        chkA 80 x24 <|
        bnd (yset σ25 136 (x24).toNat (σ25 136 ((40 + x24)).toNat)) fun σ31 =>
        chkI (x24 + 1) <|
        k26 x23 (x24 + 1) σ31) N x14 0 σ15
  else
    some ((-1), σ15)
def mlG (N : Nat) (k16 : Int → ySt → Option (Int × ySt)) (x14 : Int) (σ15 : ySt) : Option (Int × ySt) :=
  bndO (mo_isGood σ15) fun r18 =>
  bnd (mlE N x14 σ15) fun j19 =>
  if r18 = 0 then
    j19
  else
    if (σ15 92 8) = 0 then
      j19
    else
      bndO (mo_readPlan N σ15) fun σ37 =>
      mlR N k16 x14 σ37
theorem mo_plan_eq (N : Nat) (σ : ySt) : mo_plan N σ =
  if (σ 92 2) ≤ 400 then
    bndO (mo_takeTape N σ) fun σ3 =>
    bnd (yset σ3 92 41 (σ3 92 40)) fun σ4 =>
    bndO (mo_stayHome N 40 σ4) fun σ7 =>
    loopS1 (fun k10 x8 σ9 =>
      if x8 ≥ 5 then
        bndO (mo_goOn N σ9) fun σ13 =>
        loopS1 (mlG N) N 0 σ13
      else
        chkA 5 x8 <|
        bnd (yset σ9 137 (x8).toNat 0) fun σ44 =>
        chkI (x8 + 1) <|
        k10 (x8 + 1) σ44) N 0 σ7
  else
    some ((-2), σ) := rfl
theorem shl_0 (s : Nat) (h2 : s < 5) : b32shl 1 (s : Int) = ((2 ^ s : Nat) : Int) ∧ 2 ^ s < 32 := by
  have key : ∀ s : Fin 5, b32shl 1 ((s.val : Nat) : Int) = ((2 ^ s.val : Nat) : Int) ∧ 2 ^ s.val < 32 := by decide +kernel
  exact key ⟨s, h2⟩
theorem bndO_bndR {β γ : Type} {x : Option (Int × ySt)} {f : Int → ySt → Option β} {g : β → Option γ} : bndO (bndR x f) g = bndR x (fun a σ => bndO (f a σ) g) := by
  cases x <;> rfl
theorem mlR_bad {N : Nat} {k16 : Int → ySt → Option (Int × ySt)} {x : Nat} {σ τ : ySt} {t : Nat → Int} {n : Nat} (rb : RB σ τ t n) (hx : x < 1000) : mlR N k16 x τ = k16 ((x : Int) + 1) τ := by
  obtain ⟨⟨p, tm⟩, _, _, g⟩ := rb
  unfold mlR
  rw [TM_is tm (by decide), bndO_s, mo_must_quiet g, bndO_s, chkI_pos (by omega)]
/-- the store of both while a plan is read -/
def SP (σ τ : ySt) (T P b mp mq S B : Nat) (hm : Nat → Int) : Prop := NR σ (T + 1) τ 107 (6 * b) mp ∧ NR σ (T + 3) τ 108 (5 * b) mq ∧ τ 95 b = mp ∧ τ 97 b = mq ∧ τ 92 40 = b ∧ τ 92 41 = b ∧ σ T 17 = S ∧ τ 101 b = S ∧ PN σ τ P mp mq hm ∧ B < 32 ∧ ∀ c, c < mq → (τ 137 c = 0 ∧ Nat.testBit B c = false) ∨ (τ 137 c = 1 ∧ Nat.testBit B c = true)
theorem L_pline {N n p T P b mp mq S B x : Nat} {σ τ : ySt} {t hm : Nat → Int} {k10 : Int → Int → ySt → Option (Int × ySt)} {k16 : Int → ySt → Option (Int × ySt)} {R : Int × ySt → Int × ySt → Prop} (hN : 100000 ≤ N) (hT : T = 13 ∨ T = 33) (hP : P = 54 ∨ P = 56) (hb : b < 2) (hmp : mp ≤ 6) (hmq : mq ≤ 5) (hS : 1 ≤ S ∧ S ≤ 8) (hx : x < 100) (rt : RT σ τ t n p) (sp : SP σ τ T P b mp mq S B hm) (h0 : tkK t n p ≠ 0)
    (hgood : ∀ (c : Nat) (σ' τ' : ySt) (q : Nat), c < mq → τ 137 c = 0 → RT σ' τ' t n q → eqP P σ' σ → eqN τ' τ → PN σ' τ' P mp mq hm → (∀ j, τ' 137 j = if j = c then 1 else τ 137 j) → Ok (k10 ((B ||| 2 ^ c : Nat) : Int) ((x : Int) + 1) σ') (fun A => Ok (k16 ((x : Int) + 1) τ') (fun D => R A D)))
    (hbad : ∀ σ' τ' : ySt, RB σ' τ' t n → eqP P σ' σ → eqN τ' τ → Ok (k16 ((x : Int) + 1) τ') (fun D => R (-1, σ') D)) :
    Ok (clF N P T k10 B x σ) (fun A => Ok (bndO (mo_readPlan N τ) fun σ37 => mlR N k16 x σ37) (fun D => R A D)) := by
  obtain ⟨nrp, nrq, c95, c97, h40, h41, hS1, hS2, pn, hB, hbits⟩ := id sp
  obtain ⟨tc, tm, fc, fm⟩ := id rt
  have hkd := yKd_nm T hT
  have hk3 : σ 1 3 = tkK t n p := tc.2.2.2.2.2.2.1
  have h8 := (TM_tok tm).2.2.1
  have gg : τ 92 4 = 0 := fm.1
  have h10 : tkK t n p = 3 ∨ 100 ≤ tkK t n p → τ 92 10 = enc8 (tkW t n p) := tm.2.2.2.2.2.2.2.2.2.1
  have hwd : tkK t n p = 3 → σ 1 4 = enc5 (tkW t n p) := tc.2.2.2.2.2.2.2.2.1
  have same : tkK t n p = 3 → nf (fun k => decide (σ (T + 3 + 1) k = enc5 (tkW t n p))) mq = nf (fun k => decide (τ 92 8 = 2) && decide (τ 108 (5 * b + k) = τ 92 10)) mq := fun q => NR_find nrq (tkW_wd (Or.inl q)).1 (h8.mpr q) (h10 (Or.inl q))
  have none : tkK t n p ≠ 3 → nf (fun k => decide (τ 92 8 = 2) && decide (τ 108 (5 * b + k) = τ 92 10)) mq = -1 := fun q => here_none (fun e => q (h8.mp e))
  obtain ⟨F, hF⟩ : ∃ F, F = nf (fun k => decide (τ 92 8 = 2) && decide (τ 108 (5 * b + k) = τ 92 10)) mq := ⟨_, rfl⟩
  have hrg := nf_rg (fun k => decide (τ 92 8 = 2) && decide (τ 108 (5 * b + k) = τ 92 10)) mq
  rw [← hF] at hrg none same
  rw [mo_readPlan_eq, mo_personHere_ok hN hb h41 c97 hmq, bndO_s, ← hF]
  unfold clF
  rw [if_neg (by omega), if_neg (by rw [hk3]; exact h0)]
  have ho1 : T + 3 = 14 ∨ T + 3 = 16 ∨ T + 3 = 18 ∨ T + 3 = 34 ∨ T + 3 = 36 ∨ T + 3 = 38 := by omega
  have ho2 : mq ≤ (yKd (T + 3 + 1)).2 := by omega
  have ho3 : (yKd (T + 3 + 1)).2 ≤ 1000 := by omega
  -- no person told twice: the line is read
  have go : (F = -1 ∨ ∃ c : Nat, F = c ∧ c < mq ∧ τ 137 c = 0) → Ok (clJ N P T k10 B x σ) (fun A => Ok (bndO (mrJ N F τ) fun σ37 => mlR N k16 x σ37) (fun D => R A D)) := by
    intro hFc
    unfold clJ mrJ
    rw [hF, bndO_bndR]
    refine L_RR _ (L_known2 hN rt nrq ho1 ho2 ho3) ?_
    rintro c σ1 c' τ1 ⟨c1, m1, d1⟩
    dsimp only at c1 m1 d1 ⊢
    rcases d1 with ⟨a0, a1, rfl, a2, rt1⟩ | ⟨a0, a1, a2, rb⟩
    · rw [← hF] at a2
      have g1 : τ1 92 4 = 0 := rt1.2.2.2.1
      obtain ⟨d, rfl⟩ : ∃ d : Nat, c' = d := ⟨c'.toNat, by omega⟩
      have hd : d < mq := by omega
      have t0 : τ 137 d = 0 := by
        rcases hFc with w | ⟨d', w1, w2, w3⟩
        · omega
        · have : d' = d := by omega
          rw [← this]
          exact w3
      rw [if_neg (by omega), mo_isGood_eq, bndO_s, if_pos g1, if_pos (by decide), chkA_pos (by omega), Int.toNat_natCast, bnd]
      have rt2 : RT σ1 (yset τ1 137 d 1) t n (tkE t n p) := RT_set rt1 (by decide) (by decide)
      have pn2 : PN σ1 (yset τ1 137 d 1) P mp mq hm := PN_of (τ := τ) pn (c1 _ (by omega)) (by rw [yset_off 136 (by decide), m1.1 136 (by decide)])
      have u95 : yset τ1 137 d 1 95 b = mp := by rw [yset_off 95 (by decide), m1.1 95 (by decide)]; exact c95
      have u40 : yset τ1 137 d 1 92 40 = b := by rw [yset_off 92 (by decide), m1.2 40 (by omega)]; exact h40
      have u41 : yset τ1 137 d 1 92 41 = b := by rw [yset_off 92 (by decide), m1.2 41 (by omega)]; exact h41
      have u101 : yset τ1 137 d 1 101 b = S := by rw [yset_off 101 (by decide), m1.1 101 (by decide)]; exact hS2
      have nr2 : NR σ1 (T + 1) (yset τ1 137 d 1) 107 (6 * b) mp := NR_eq nrp (c1 _ (by omega)) (c1 _ (by omega)) (by rw [yset_off 107 (by decide), m1.1 107 (by decide)])
      have eN2 : eqN (yset τ1 137 d 1) τ := eqN_tr (eqN_M m1) ⟨fun i _ _ x3 => yset_off i x3, fun j _ => by rw [yset_off 136 (by decide)], fun k _ => by rw [yset_off 92 (by decide)]⟩
      have e137 : ∀ j, yset τ1 137 d 1 137 j = if j = d then 1 else τ 137 j := fun j => by
        by_cases cj : j = d
        · rw [cj, yset_at, if_pos rfl]
        · rw [yset_ne (by omega), if_neg cj, m1.1 137 (by decide)]
      generalize yset τ1 137 d 1 = τ2 at rt2 pn2 u95 u40 u41 u101 nr2 eN2 e137 ⊢
      have s17 : σ1 T 17 = S := by rw [c1 T (by omega)]; exact hS1
      have rd : Ok (cPl_readPlaces N P T d σ1) (fun r => Ok (loopS1 (mpF N d) N 0 τ2) (fun τ' => PLP σ1 τ2 r.2 τ' t n P mp mq hm r.1)) := by
        rw [cPl_readPlaces_eq, chk_pos hP, chk_pos hT, show σ1 1 3 = tkK t n (tkE t n p) from rt2.1.2.2.2.2.2.2.1]
        by_cases k3 : tkK t n (tkE t n p) = 3
        · rw [if_pos k3]
          exact pl_places hN hT hP hb hmp hmq hd hS 9 0 N N (tkE t n p) σ1 τ2 rfl (by omega) (by omega) (by omega) (fun _ => k3) rt2 pn2 nr2 u95 u40 u41 s17 u101
        · rw [if_neg k3, Ok_bndR]
          refine (cTp_refuse_ok rt2.1).mono ?_
          rintro ⟨r, σ3⟩ ⟨b1, b2, b3⟩
          dsimp only at b1 b2 b3 ⊢
          rw [chk_pos (Or.inl b1), Ok_some]
          obtain ⟨M, hM⟩ : ∃ M, N = M + 2 := ⟨N - 2, by omega⟩
          have e0 : loopS1 (mpF N d) N 0 τ2 = mpQ N d (loopS1 (mpF N d) (M + 1)) ((0 : Nat) : Int) τ2 := by
            have := mpF_go (N := N) (r6 := (d : Int)) (k16 := loopS1 (mpF N d) (M + 1)) (s := 0) rt2.2.2.2.1 u40 hb (Or.inl rfl)
            rw [u101, if_pos (show ¬ ((0 : Nat) : Int) = (S : Int) by omega)] at this
            rw [← this, hM]
            rfl
          rw [e0]
          unfold mpQ
          rw [mo_placeHere_ok hN hb u41 u95 hmp, bndO_s, Ok_bndR]
          refine (mo_told_ok hN rt2.2.1 rt2.2.2.2.1 _).mono ?_
          rintro ⟨r', τ3⟩ ⟨o1, o2, o3⟩
          dsimp only at o1 o2 o3 ⊢
          rcases o3 with ⟨w, _⟩ | ⟨w, _⟩ | ⟨_, w1, w2⟩
          · exact absurd w k3
          · exact absurd w k3
          · have g3 : τ3 92 4 ≠ 0 := by rw [w2.1]; exact bdK_0 t n _
            have e : loopS2 (mpI d (loopS1 (mpF N d) (M + 1)) r') N ((0 : Nat) : Int) ((0 : Nat) : Int) τ3 = some τ3 := by
              rw [hM]
              show mpI d (loopS1 (mpF (M + 2) d) (M + 1)) r' (loopS2 (mpI d (loopS1 (mpF (M + 2) d) (M + 1)) r') (M + 1)) ((0 : Nat) : Int) ((0 : Nat) : Int) τ3 = _
              unfold mpI
              rw [bnd, if_neg (by omega), mo_isGood_eq, bndO_s, if_neg g3, if_pos rfl, chkI_pos (by omega)]
              show mpF (M + 2) d (loopS1 (mpF (M + 2) d) M) (((0 : Nat) : Int) + 1) τ3 = _
              rw [mpF_bad g3]
            rw [e, Ok_some]
            exact ⟨eqP_C (eqC_of b2), eqN_M o1, o1.1 137 (by decide), Or.inr ⟨b1, RB_of w1 b3 w2 (bdK_0 t n _)⟩⟩
      refine L_RO _ rd ?_
      rintro r σ3 τ3 ⟨p1, p2, p3, p4⟩
      dsimp only at p1 p2 p3 p4 ⊢
      have fP : eqP P σ3 σ := eqP_tr (eqP_C c1) p1
      have fN : eqN τ3 τ := eqN_tr eN2 p2
      rcases p4 with ⟨r1, pn3, p5⟩ | ⟨r0, rb⟩
      · rw [if_neg (by omega)]
        rcases p5 with ⟨q, rt3⟩ | ⟨q, tc3, tm3, k3, fm3⟩
        · unfold mlR
          rw [TM_is rt3.2.1 (by decide), bndO_s]
          refine L_RO _ (L_pass hN rt3 59) ?_
          rintro r5 σ4 τ4 ⟨c4, m4, d4⟩
          dsimp only at c4 m4 d4 ⊢
          rcases d4 with ⟨r1, rt4⟩ | ⟨r0, rb⟩
          · have hsh := shl_0 d (by omega)
            rw [if_pos (by omega), chkI_pos (by omega), chkI_pos (by omega), hsh.1, b32or_nat (by omega) (by omega)]
            exact hgood d σ4 τ4 _ hd t0 rt4 (eqP_tr fP (eqP_C c4)) (eqN_tr fN (eqN_M m4)) (PN_of pn3 (c4 _ (by omega)) (m4.1 136 (by decide))) (fun j => by rw [m4.1 137 (by decide), p3]; exact e137 j)
          · rw [if_neg (fun w => w r0), Ok_some, chkI_pos (by omega)]
            exact hbad σ4 τ4 rb (eqP_tr fP (eqP_C c4)) (eqN_tr fN (eqN_M m4))
        · rw [Ok_bndR]
          refine (cTp_pass_ok hN tc3 59).mono ?_
          rintro ⟨r5, σ4⟩ ⟨o1, o2⟩
          dsimp only at o1 o2 ⊢
          rcases o2 with ⟨w, _⟩ | ⟨_, w1, w2⟩
          · omega
          · have e2 : bdK t n q = 2 := by
              unfold bdK
              rw [if_neg (by omega)]
            rw [e2] at w2
            have rb : RB σ4 τ3 t n := RB_of tm3 w2 fm3 (by decide)
            rw [if_neg (fun w => w w1), Ok_some, mlR_bad rb (by omega)]
            exact hbad σ4 τ3 rb (eqP_tr fP (eqP_C (eqC_of o1))) fN
      · rw [if_pos r0, Ok_some, mlR_bad rb (by omega)]
        exact hbad σ3 τ3 rb fP fN
    · rw [if_pos a0, Ok_some, mo_isGood_eq, bndO_s, if_neg rb.2.2.2, if_neg (fun w => w rfl), bndO_s, mlR_bad rb (by omega)]
      exact hbad σ1 τ1 rb (eqP_C c1) (eqN_M m1)
  by_cases k3 : tkK t n p = 3
  · rw [bnd, if_neg (by rw [hk3]; exact fun w => w k3), hwd k3, cNm_find_ok hN ho1 nrq.1 ho2 ho3, bndO_s, same k3]
    show Ok (if F = -1 then clJ N P T k10 B x σ else if ¬ (b32and (b32shr (B : Int) F) 1) = 1 then clJ N P T k10 B x σ else bndR (cTp_blame 3 σ) fun r32 σ33 => some ((-1), σ33)) _
    rw [bnd, if_neg (show ¬ ¬ τ 92 8 = 2 from fun w => w (h8.mpr k3))]
    by_cases cF : F = -1
    · rw [if_pos cF, if_pos (by omega)]
      exact go (Or.inl cF)
    · obtain ⟨c, hc⟩ : ∃ c : Nat, F = c := ⟨F.toNat, by omega⟩
      have hcm : c < mq := by omega
      rw [if_neg cF, if_neg (show ¬ F < 0 by omega), chkA_pos (by omega)]
      have hbt := hbits c hcm
      have e1 : b32and (b32shr (B : Int) F) 1 = if Nat.testBit B c then 1 else 0 := by rw [hc]; exact bit_at B c (by omega) (by omega)
      have ec : F.toNat = c := by omega
      rw [e1, ec]
      rcases hbt with ⟨z1, z2⟩ | ⟨z1, z2⟩
      · rw [z2, if_pos (show ¬ (if false = true then (1 : Int) else 0) = 1 by decide), if_pos z1]
        exact go (Or.inr ⟨c, hc, hcm, z1⟩)
      · rw [z2, if_neg (show ¬ ¬ (if true = true then (1 : Int) else 0) = 1 by decide), if_neg (show ¬ τ 137 c = 0 by omega), mo_fails_ok _ _ gg, bndO_s, Ok_bndR]
        refine (cTp_blame_ok tc 3).mono ?_
        rintro ⟨r, σ1⟩ ⟨b1, b2, b3⟩
        dsimp only at b1 b2 b3 ⊢
        generalize hτ2 : yset (yset τ 92 4 3) 92 5 (τ 92 6) = τ2
        have e6 : τ 92 6 = tkA t n p := tm.2.2.2.2.2.2.1
        have fm2 : FM τ2 3 (tkA t n p) := by rw [← hτ2]; exact ⟨by rw [yset_ne (by omega), yset_at], by rw [yset_at, e6]⟩
        have tm2 : TM τ2 t n p := by rw [← hτ2]; exact TM_F tm
        have m2 : eqM τ2 τ := by rw [← hτ2]; exact offM_F
        have rb : RB σ1 τ2 t n := RB_of tm2 b3 fm2 (by decide)
        have g2 : τ2 92 4 ≠ 0 := by rw [fm2.1]; decide
        have ej : mrJ N F τ2 = some τ2 := by
          unfold mrJ
          rw [mo_told_quiet g2, bndR_s, mo_isGood_eq, bndO_s, if_neg g2, if_neg (fun w => w rfl)]
        rw [Ok_some, ej, bndO_s, mlR_bad rb (by omega)]
        exact hbad σ1 τ2 rb (eqP_C (eqC_of b2)) (eqN_M m2)
  · rw [bnd, if_pos (by rw [hk3]; exact k3)]
    show Ok (clJ N P T k10 B x σ) _
    rw [bnd, if_pos (show ¬ τ 92 8 = 2 from fun w => k3 (h8.mp w))]
    exact go (Or.inl (none k3))
