/-! a told plan read: places of one line -/
def eqP (P : Nat) (σ' σ : ySt) : Prop := ∀ i, i ≠ 1 → i ≠ P + 1 → σ' i = σ i
def eqN (τ' τ : ySt) : Prop := (∀ i, i ≠ 92 → i ≠ 136 → i ≠ 137 → τ' i = τ i) ∧ (∀ j, j < 40 → τ' 136 j = τ 136 j) ∧ ∀ k, (k < 4 ∨ 10 < k) → τ' 92 k = τ 92 k
theorem eqP_rfl (P : Nat) (σ : ySt) : eqP P σ σ := fun _ _ _ => rfl
theorem eqP_tr {P : Nat} {σ σ' σ'' : ySt} (h : eqP P σ' σ) (g : eqP P σ'' σ') : eqP P σ'' σ := fun i a b => (g i a b).trans (h i a b)
theorem eqP_C {P : Nat} {σ' σ : ySt} (h : eqC σ' σ) : eqP P σ' σ := fun i a _ => h i a
theorem eqN_rfl (τ : ySt) : eqN τ τ := ⟨fun _ _ _ _ => rfl, fun _ _ => rfl, fun _ _ => rfl⟩
theorem eqN_tr {τ τ' τ'' : ySt} (h : eqN τ' τ) (g : eqN τ'' τ') : eqN τ'' τ := ⟨fun i a b c => (g.1 i a b c).trans (h.1 i a b c), fun j a => (g.2.1 j a).trans (h.2.1 j a), fun k a => (g.2.2 k a).trans (h.2.2 k a)⟩
theorem eqN_M {τ' τ : ySt} (h : eqM τ' τ) : eqN τ' τ := ⟨fun i a _ _ => h.1 i a, fun j _ => by rw [h.1 136 (by decide)], h.2⟩
/-- the plan that is being read, in both -/
def PN (σ τ : ySt) (P mp mq : Nat) (h : Nat → Int) : Prop := (∀ n, n < mq → σ (P + 1) n = h n) ∧ ∀ n s, n < mq → 1 ≤ s → s ≤ 8 → σ (P + 1) (5 * s + n) = τ 136 (40 + 8 * n + (s - 1)) ∧ 0 ≤ σ (P + 1) (5 * s + n) ∧ σ (P + 1) (5 * s + n) < mp
theorem PN_of {σ σ' τ τ' : ySt} {P mp mq : Nat} {hm : Nat → Int} (h : PN σ τ P mp mq hm) (e : σ' (P + 1) = σ (P + 1)) (f : τ' 136 = τ 136) : PN σ' τ' P mp mq hm := by
  unfold PN at h ⊢
  rw [e, f]
  exact h
theorem stayFrom_ok {N P a b : Nat} {c : Int} {σ : ySt} (hN : 100000 ≤ N) (hP : P = 54 ∨ P = 56) (ha : a ≤ 9) (hb : b < 5) :
    Ok (cPl_stayFrom N P a b c σ) (fun σ' => (∀ i, i ≠ P + 1 → σ' i = σ i) ∧ ∀ s n, s ≤ 8 → n < 5 → σ' (P + 1) (5 * s + n) = if n = b ∧ a ≤ s then c else σ (P + 1) (5 * s + n)) := by
  unfold cPl_stayFrom
  rw [Ok_chk]
  refine ⟨hP, Ok_loopS1 (fun y ν => ∃ k : Nat, y = k ∧ a ≤ k ∧ k ≤ 9 ∧ (∀ i, i ≠ P + 1 → ν i = σ i) ∧ ∀ s n, s ≤ 8 → n < 5 → ν (P + 1) (5 * s + n) = if n = b ∧ a ≤ s ∧ s < k then c else σ (P + 1) (5 * s + n)) (fun y _ => (9 - y.toNat : Nat)) ?_ N _ _ ⟨a, rfl, Nat.le_refl a, ha, fun _ _ => rfl, fun s n _ _ => by rw [if_neg (by omega)]⟩ (by omega)⟩
  rintro g y ν ⟨k, rfl, hk1, hk2, i1, i2⟩ rec
  rw [Ok_ite, Ok_some]
  refine ⟨fun q => ⟨i1, fun s n hs hn => ?_⟩, fun q => ?_⟩
  · rw [i2 s n hs hn]
    by_cases c1 : n = b ∧ a ≤ s
    · rw [if_pos c1, if_pos ⟨c1.1, c1.2, by omega⟩]
    · rw [if_neg c1, if_neg (fun w => c1 ⟨w.1, w.2.1⟩)]
  · have ix : ((k : Int) * 5 + (b : Int)).toNat = 5 * k + b := by omega
    rw [Ok_chkI, Ok_chkI, Ok_chkA, ix, Ok_bnd, Ok_chkI]
    refine ⟨by omega, by omega, by omega, by omega, rec _ _ ⟨k + 1, by omega, by omega, by omega, fun i hi => by rw [yset_off i hi]; exact i1 i hi, fun s n hs hn => ?_⟩ (by omega)⟩
    by_cases c1 : n = b ∧ s = k
    · rw [c1.1, c1.2, yset_at, if_pos ⟨rfl, hk1, by omega⟩]
    · rw [yset_ne (by omega), i2 s n hs hn]
      by_cases c2 : n = b ∧ a ≤ s ∧ s < k
      · rw [if_pos c2, if_pos ⟨c2.1, c2.2.1, by omega⟩]
      · rw [if_neg c2, if_neg (by omega)]
def cpF (N P T : Nat) (c : Int) (k6 : Int → ySt → Option (Int × ySt)) (x4 : Int) (σ5 : ySt) : Option (Int × ySt) :=
  if x4 > (σ5 T 17) then
    some (1, σ5)
  else
    if ¬ (σ5 1 3) = 3 then
      some (1, σ5)
    else
      bndR (cTp_passKnown N (T + 1) σ5) fun r10 σ11 =>
      if ¬ r10 = (-1) then
        bndO (cPl_stayFrom N P x4 c r10 σ11) fun σ14 =>
        chkI (x4 + 1) <|
        k6 (x4 + 1) σ14
      else
        some (0, σ11)
theorem cPl_readPlaces_eq (N P T : Nat) (c : Int) (σ : ySt) : cPl_readPlaces N P T c σ =
  chk (P = 54 ∨ P = 56) (
  chk (T = 13 ∨ T = 33) (
  if (σ 1 3) = 3 then
    loopS1 (cpF N P T c) N 1 σ
  else
    bndR (cTp_refuse σ) fun r17 σ18 =>
    chk (r17 = 0 ∨ r17 = 1) <|
    some (r17, σ18))) := rfl
def mpI (r6 : Int) (k16 : Int → ySt → Option ySt) (r27 : Int) (k32 : Int → Int → ySt → Option ySt) (x29 x30 : Int) (σ31 : ySt) : Option ySt :=
  bnd (chkI (x29 + 1) <|
    k16 (x29 + 1) σ31) fun j33 =>
  if x30 ≥ 8 then
    j33
  else
    bndO (mo_isGood σ31) fun r37 =>
    if r37 = 0 then
      j33
    else
      chkI (8 * r6) <|
      chkI (40 + (8 * r6)) <|
      chkI ((40 + (8 * r6)) + x30) <|
      chkA 80 ((40 + (8 * r6)) + x30) <|
      bnd (yset σ31 136 (((40 + (8 * r6)) + x30)).toNat r27) fun σ43 =>
      chkI (x30 + 1) <|
      k32 x29 (x30 + 1) σ43
def mpQ (N : Nat) (r6 : Int) (k16 : Int → ySt → Option ySt) (x14 : Int) (σ22 : ySt) : Option ySt :=
  bndO (mo_placeHere N σ22) fun r25 =>
  bndR (mo_told N r25 σ22) fun r27 σ28 =>
  loopS2 (mpI r6 k16 r27) N x14 x14 σ28
def mpF (N : Nat) (r6 : Int) (k16 : Int → ySt → Option ySt) (x14 : Int) (σ15 : ySt) : Option ySt :=
  bndO (mo_isGood σ15) fun r18 =>
  if r18 = 0 then
    some σ15
  else
    bnd (chkA 2 (σ15 92 40) <|
      bnd (mpQ N r6 k16 x14) fun j23 =>
      if ¬ x14 = (σ15 101 ((σ15 92 40)).toNat) then
        j23 σ15
      else
        bndO (mo_misplaced σ15) fun σ48 =>
        j23 σ48) fun j20 =>
    if x14 = 0 then
      j20
    else
      if ¬ (σ15 92 8) = 2 then
        some σ15
      else
        j20
def mrJ (N : Nat) (r2 : Int) (σ3 : ySt) : Option ySt :=
  bndR (mo_told N r2 σ3) fun r6 σ7 =>
  bndO (mo_isGood σ7) fun r9 =>
  if ¬ r9 = 0 then
    chkA 5 r6 <|
    bnd (yset σ7 137 (r6).toNat 1) fun σ12 =>
    loopS1 (mpF N r6) N 0 σ12
  else
    some σ7
theorem mo_readPlan_eq (N : Nat) (σ : ySt) : mo_readPlan N σ =
  bndO (mo_personHere N σ) fun r2 =>
  bnd (mrJ N r2) fun j4 =>
  if ¬ (σ 92 8) = 2 then
    j4 σ
  else
    if r2 < 0 then
      j4 σ
    else
      chkA 5 r2 <|
      if (σ 137 (r2).toNat) = 0 then
        j4 σ
      else
        bndO (mo_fails 3 (σ 92 6) σ) fun σ56 =>
        j4 σ56 := rfl
theorem mpF_bad {N : Nat} {r6 : Int} {k16 : Int → ySt → Option ySt} {x14 : Int} {τ : ySt} (g : τ 92 4 ≠ 0) : mpF N r6 k16 x14 τ = some τ := by
  unfold mpF
  rw [mo_isGood_eq, bndO_s, if_neg g, if_pos rfl]
theorem mpQ_bad {N b m s : Nat} {r6 : Int} {k16 : Int → ySt → Option ySt} {τ : ySt} (hN : 100000 ≤ N) (hb : b < 2) (h41 : τ 92 41 = b) (hc : τ 95 b = m) (hm : m ≤ 6) (hs : s ≤ 8) (g : τ 92 4 ≠ 0) : mpQ N r6 k16 s τ = k16 ((s : Int) + 1) τ := by
  obtain ⟨M, rfl⟩ : ∃ M, N = M + 1 := ⟨N - 1, by omega⟩
  unfold mpQ
  rw [mo_placeHere_ok hN hb h41 hc hm, bndO_s, mo_told_quiet g, bndR_s]
  show mpI r6 k16 0 (loopS2 (mpI r6 k16 0) M) s s τ = _
  unfold mpI
  rw [bnd]
  by_cases c : (s : Int) ≥ 8
  · rw [if_pos c, chkI_pos (by omega)]
  · rw [if_neg c, mo_isGood_eq, bndO_s, if_neg g, if_pos rfl, chkI_pos (by omega)]
theorem mpF_go {N : Nat} {r6 : Int} {k16 : Int → ySt → Option ySt} {s b : Nat} {τ : ySt} (g : τ 92 4 = 0) (h40 : τ 92 40 = b) (hb : b < 2) (hs : s = 0 ∨ τ 92 8 = 2) : mpF N r6 k16 s τ = if ¬ (s : Int) = τ 101 b then mpQ N r6 k16 s τ else bndO (mo_misplaced τ) fun σ48 => mpQ N r6 k16 s σ48 := by
  unfold mpF
  rw [mo_isGood_eq, bndO_s, if_pos g, if_neg (by decide), bnd, h40, chkA_pos (by omega), Int.toNat_natCast, bnd]
  by_cases c : (s : Int) = 0
  · rw [if_pos c]
  · rw [if_neg c, if_neg (fun w => w (by omega))]
/-- what a line's places come to -/
def PLP (σ τ σ' τ' : ySt) (t : Nat → Int) (n P mp mq : Nat) (hm : Nat → Int) (r : Int) : Prop := eqP P σ' σ ∧ eqN τ' τ ∧ τ' 137 = τ 137 ∧ ((r = 1 ∧ PN σ' τ' P mp mq hm ∧ ((∃ q, RT σ' τ' t n q) ∨ ∃ q, TC σ' t n q ∧ TM τ' t n q ∧ tkK t n q = 3 ∧ FM τ' 2 (tkA t n q))) ∨ (r = 0 ∧ RB σ' τ' t n))
theorem pl_places {N n T P b mp mq c S : Nat} {t hm : Nat → Int} (hN : 100000 ≤ N) (hT : T = 13 ∨ T = 33) (hP : P = 54 ∨ P = 56) (hb : b < 2) (hmp : mp ≤ 6) (hmq : mq ≤ 5) (hc : c < mq) (hS : 1 ≤ S ∧ S ≤ 8) : ∀ (k s f f' p : Nat) (σ τ : ySt), s + k = 9 → k + 2 ≤ f → k + 2 ≤ f' → s ≤ S → (s = 0 → tkK t n p = 3) → RT σ τ t n p → PN σ τ P mp mq hm → NR σ (T + 1) τ 107 (6 * b) mp → τ 95 b = mp → τ 92 40 = b → τ 92 41 = b → σ T 17 = S → τ 101 b = S →
    Ok (loopS1 (cpF N P T c) f ((s : Int) + 1) σ) (fun r => Ok (loopS1 (mpF N c) f' s τ) (fun τ' => PLP σ τ r.2 τ' t n P mp mq hm r.1)) := by
  intro k
  induction k with
  | zero =>
    intro s f f' p σ τ h1 h2 h3 h4
    omega
  | succ k ih =>
    intro s f f' p σ τ hk hf hf' hs h0 rt pn nr c95 h40 h41 hS1 hS2
    obtain ⟨f, rfl⟩ : ∃ z, f = z + 1 := ⟨f - 1, by omega⟩
    obtain ⟨f', rfl⟩ : ∃ z, f' = z + 1 := ⟨f' - 1, by omega⟩
    have hkd := yKd_nm T hT
    have hk3 : σ 1 3 = tkK t n p := rt.1.2.2.2.2.2.2.1
    have h8 := (TM_tok rt.2.1).2.2.1
    have gg : τ 92 4 = 0 := rt.2.2.2.1
    show Ok (cpF N P T c (loopS1 (cpF N P T c) f) ((s : Int) + 1) σ) (fun r => Ok (mpF N c (loopS1 (mpF N c) f') s τ) (fun τ' => PLP σ τ r.2 τ' t n P mp mq hm r.1))
    unfold cpF
    rw [hS1, hk3]
    by_cases c3 : tkK t n p = 3
    · rw [mpF_go gg h40 hb (Or.inr (h8.mpr c3)), hS2]
      by_cases cs : s = S
      · rw [if_pos (by omega), Ok_some, if_neg (fun w => w (by omega)), mo_misplaced_ok rt.2.1 gg, bndO_s]
        generalize hτ2 : yset (yset τ 92 4 (bdK t n p)) 92 5 (tkA t n p) = τ2
        have e2 : bdK t n p = 2 := by
          unfold bdK
          rw [if_neg (by omega)]
        have g2 : τ2 92 4 = 2 := by rw [← hτ2, yset_ne (by omega), yset_at, e2]
        have g25 : τ2 92 5 = tkA t n p := by rw [← hτ2, yset_at]
        have tm2 : TM τ2 t n p := by rw [← hτ2]; exact TM_F rt.2.1
        have e92 : ∀ k, (k < 4 ∨ 10 < k) → τ2 92 k = τ 92 k := fun k hk => by rw [← hτ2, yset_ne (by omega), yset_ne (by omega)]
        have eo : ∀ i, i ≠ 92 → τ2 i = τ i := fun i hi => by rw [← hτ2, yset_off i hi, yset_off i hi]
        rw [mpQ_bad hN hb (by rw [e92 41 (by omega)]; exact h41) (by rw [eo 95 (by decide)]; exact c95) hmp (by omega) (by omega)]
        obtain ⟨f', rfl⟩ : ∃ z, f' = z + 1 := ⟨f' - 1, by omega⟩
        show Ok (mpF N c (loopS1 (mpF N c) f') ((s : Int) + 1) τ2) _
        rw [mpF_bad (by omega), Ok_some]
        exact ⟨eqP_rfl P σ, ⟨fun i x1 _ _ => eo i x1, fun j _ => by rw [eo 136 (by decide)], e92⟩, eo 137 (by decide), Or.inl ⟨rfl, PN_of pn rfl (eo 136 (by decide)), Or.inr ⟨p, rt.1, tm2, c3, g2, g25⟩⟩⟩
      · rw [if_neg (by omega), if_neg (fun w => w c3), if_pos (by omega)]
        unfold mpQ
        rw [mo_placeHere_ok hN hb h41 c95 hmp, bndO_s]
        refine L_RR _ (L_known hN rt nr (by omega) (by omega) (by omega)) ?_
        rintro a σ1 a' τ1 ⟨c1, m1, d1⟩
        dsimp only at c1 m1 d1 ⊢
        rcases d1 with ⟨a0, a1, rfl, rt1⟩ | ⟨a0, a1, a2, rb⟩
        · rw [if_pos (by omega), Ok_bndO, show (s : Int) + 1 = ((s + 1 : Nat) : Int) from rfl]
          refine (stayFrom_ok (a := s + 1) (b := c) hN hP (by omega) (by omega)).mono ?_
          rintro σ2 ⟨u1, u2⟩
          rw [Ok_chkI]
          refine ⟨by omega, ?_⟩
          rw [Ok_swap]
          have key : Ok (loopS2 (mpI c (loopS1 (mpF N c) f') a') N s s τ1) (fun τ' => Ok (loopS1 (cpF N P T c) f (((s + 1 : Nat) : Int) + 1) σ2) (fun r => PLP σ τ r.2 τ' t n P mp mq hm r.1)) := by
            refine Ok_loopS2 (fun y z ν => y = (s : Int) ∧ ∃ j : Nat, z = j ∧ s ≤ j ∧ j ≤ 8 ∧ (∀ i, i ≠ 136 → ν i = τ1 i) ∧ ∀ x, ν 136 x = if 40 + 8 * c + s ≤ x ∧ x < 40 + 8 * c + j then a' else τ1 136 x) (fun _ z _ => (8 - z.toNat : Nat)) ?_ N _ _ _ ⟨rfl, s, rfl, Nat.le_refl s, by omega, fun _ _ => rfl, fun x => by rw [if_neg (by omega)]⟩ (by omega)
            rintro g y z ν ⟨rfl, j, rfl, j1, j2, j3, j4⟩ rec
            unfold mpI
            have e4 : ν 92 4 = 0 := by rw [j3 92 (by decide)]; exact rt1.2.2.2.1
            rw [bnd, Ok_ite]
            refine ⟨fun q => ?_, fun q => ?_⟩
            · rw [Ok_chkI]
              refine ⟨by omega, ?_⟩
              have hj8 : j = 8 := by omega
              subst hj8
              have rtν : RT σ2 ν t n (tkE t n p) := by
                obtain ⟨r1, r2, r3, r4⟩ := rt1
                refine ⟨?_, ?_, ?_, ?_⟩
                · unfold TC at r1 ⊢
                  rw [u1 1 (by omega), u1 2 (by omega)]
                  exact r1
                · unfold TM at r2 ⊢
                  rw [j3 92 (by decide), j3 94 (by decide)]
                  exact r2
                · unfold FC at r3 ⊢
                  rw [u1 1 (by omega)]
                  exact r3
                · unfold FM at r4 ⊢
                  rw [j3 92 (by decide)]
                  exact r4
              have pnν : PN σ2 ν P mp mq hm := ⟨fun n' hn' => by
                have u0 := u2 0 n' (by omega) (by omega)
                rw [if_neg (by omega), show 5 * 0 + n' = n' by omega] at u0
                rw [u0, c1 (P + 1) (by omega)]
                exact pn.1 n' hn', fun n' s' hn' s1 s2 => by
                rw [u2 s' n' s2 (by omega), j4]
                have hpn := pn.2 n' s' hn' s1 s2
                rw [← c1 (P + 1) (by omega), ← m1.1 136 (by decide)] at hpn
                by_cases cc : n' = c ∧ s + 1 ≤ s'
                · rw [if_pos cc, if_pos (by omega)]
                  exact ⟨rfl, a0, a1⟩
                · rw [if_neg cc, if_neg (by omega)]
                  exact hpn⟩
              have e1 : ∀ i, i ≠ 1 → i ≠ P + 1 → σ2 i = σ i := fun i x1 x2 => (u1 i x2).trans (c1 i x1)
              have e2 : ∀ i, i ≠ 92 → i ≠ 136 → ν i = τ i := fun i x1 x2 => (j3 i x2).trans (m1.1 i x1)
              have e3 : ∀ k, (k < 4 ∨ 10 < k) → ν 92 k = τ 92 k := fun k hk => by rw [j3 92 (by decide)]; exact m1.2 k hk
              have := ih (s + 1) f f' (tkE t n p) σ2 ν (by omega) (by omega) (by omega) (by omega) (by omega) rtν pnν (NR_eq nr (e1 _ (by omega) (by omega)) (e1 _ (by omega) (by omega)) (e2 107 (by decide) (by decide))) (by rw [e2 95 (by decide) (by decide)]; exact c95) (by rw [e3 40 (by omega)]; exact h40) (by rw [e3 41 (by omega)]; exact h41) (by rw [e1 T (by omega) (by omega)]; exact hS1) (by rw [e2 101 (by decide) (by decide)]; exact hS2)
              rw [Ok_swap] at this
              refine this.mono ?_
              rintro τ' h'
              refine h'.mono ?_
              rintro r ⟨p1, p2, p3, p4⟩
              exact ⟨eqP_tr e1 p1, eqN_tr ⟨fun i x1 x2 x3 => e2 i x1 x2, fun j' hj' => by rw [j4, if_neg (by omega), m1.1 136 (by decide)], e3⟩ p2, p3.trans (e2 137 (by decide) (by decide)), p4⟩
            · have ix : (40 + 8 * (c : Int) + (j : Int)).toNat = 40 + 8 * c + j := by omega
              rw [mo_isGood_eq, bndO_s, if_pos e4, if_neg (by decide), Ok_chkI, Ok_chkI, Ok_chkI, Ok_chkA, ix, Ok_bnd, Ok_chkI]
              refine ⟨by omega, by omega, by omega, by omega, by omega, rec _ _ _ ⟨rfl, j + 1, by omega, by omega, by omega, fun i hi => by rw [yset_off i hi]; exact j3 i hi, fun x => ?_⟩ (by omega)⟩
              by_cases cx : x = 40 + 8 * c + j
              · rw [cx, yset_at, if_pos (by omega)]
              · rw [yset_ne (by omega), j4 x]
                by_cases cy : 40 + 8 * c + s ≤ x ∧ x < 40 + 8 * c + j
                · rw [if_pos cy, if_pos (by omega)]
                · rw [if_neg cy, if_neg (by omega)]
          exact key
        · rw [if_neg (fun w => w a0), Ok_some]
          obtain ⟨M, hM⟩ : ∃ M, N = M + 1 := ⟨N - 1, by omega⟩
          obtain ⟨f', rfl⟩ : ∃ z, f' = z + 1 := ⟨f' - 1, by omega⟩
          have e : loopS2 (mpI c (loopS1 (mpF N c) (f' + 1)) a') N s s τ1 = some τ1 := by
            rw [hM]
            show mpI c (loopS1 (mpF (M + 1) c) (f' + 1)) a' (loopS2 (mpI c (loopS1 (mpF (M + 1) c) (f' + 1)) a') M) s s τ1 = _
            unfold mpI
            rw [bnd, if_neg (by omega), mo_isGood_eq, bndO_s, if_neg rb.2.2.2, if_pos rfl, chkI_pos (by omega)]
            show mpF (M + 1) c (loopS1 (mpF (M + 1) c) f') ((s : Int) + 1) τ1 = _
            rw [mpF_bad rb.2.2.2]
          rw [e, Ok_some]
          exact ⟨eqP_C c1, eqN_M m1, m1.1 137 (by decide), Or.inr ⟨rfl, rb⟩⟩
    · have hs0 : s ≠ 0 := fun w => c3 (h0 w)
      have eC : ∀ X : Option (Int × ySt), (if (s : Int) + 1 > (S : Int) then some ((1 : Int), σ) else if ¬ tkK t n p = 3 then some ((1 : Int), σ) else X) = some ((1 : Int), σ) := by
        intro X
        by_cases q : (s : Int) + 1 > (S : Int)
        · rw [if_pos q]
        · rw [if_neg q, if_pos c3]
      rw [eC, Ok_some]
      unfold mpF
      rw [mo_isGood_eq, bndO_s, if_pos gg, if_neg (by decide), bnd, if_neg (by omega), if_pos (fun w => c3 (h8.mp w)), Ok_some]
      exact ⟨eqP_rfl P σ, eqN_rfl τ, rfl, Or.inl ⟨rfl, pn, Or.inl ⟨p, rt⟩⟩⟩
