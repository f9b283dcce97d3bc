/-! a line "dog" -/
def do2 (I : Int) (ρ : ySt) (a : Int) : Option ySt :=
  chkI (6 * (ρ 92 41)) <|
  chkI ((6 * (ρ 92 41)) + a) <|
  chkA 12 ((6 * (ρ 92 41)) + a) <|
  bndO (mo_isGood ρ) fun r17 =>
  bnd (fun (y18 : Int) =>
    chkI ((ρ 113 (((6 * (ρ 92 41)) + a)).toNat) + y18) <|
    chkA 12 ((6 * (ρ 92 41)) + a) <|
    bnd (yset ρ 113 (((6 * (ρ 92 41)) + a)).toNat ((ρ 113 (((6 * (ρ 92 41)) + a)).toNat) + y18)) fun σ22 =>
    chkA 2 (σ22 92 41) <|
    chkI ((σ22 98 ((σ22 92 41)).toNat) + 1) <|
    chkA 2 (σ22 92 41) <|
    bnd (yset σ22 98 ((σ22 92 41)).toNat ((σ22 98 ((σ22 92 41)).toNat) + 1)) fun σ27 =>
    some σ27) fun j19 =>
  if r17 = 0 then
    j19 0
  else
    j19 1
def do1 (N : Nat) (I : Int) (ρ : ySt) (x : Int) : Option ySt := chkA 6 I <| bnd (yset ρ 109 I.toNat x) fun σ8 => bndR (mo_placeAt N σ8) fun r11 σ12 => do2 I σ12 r11
theorem mo_readDog_eq (N : Nat) (τ : ySt) : mo_readDog N τ = (chkI (3 * (τ 92 41)) <| chkA 2 (τ 92 41) <| chkI ((3 * (τ 92 41)) + (τ 98 ((τ 92 41)).toNat)) <| bndR (mo_being N τ) fun r5 σ6 => do1 N ((3 * (τ 92 41)) + (τ 98 ((τ 92 41)).toNat)) σ6 r5) := rfl
theorem do2_eq {b m a : Nat} {I A : Int} {ρ : ySt} (hb : b < 2) (hm : m < 3) (hA : A = a) (ha : a < 6) (e41 : ρ 92 41 = b) (e98 : ρ 98 b = m) (e113 : 0 ≤ ρ 113 (6 * b + a) ∧ ρ 113 (6 * b + a) ≤ 9) : do2 I ρ A = some (yset (yset ρ 113 (6 * b + a) (ρ 113 (6 * b + a) + (if ρ 92 4 = 0 then 1 else 0))) 98 b ((m : Int) + 1)) := by
  apply Ok_eq
  have hi : ((6 : Int) * (b : Int) + (a : Int)).toNat = 6 * b + a := by omega
  unfold do2
  rw [hA, e41, hi, Ok_chkI, Ok_chkI, Ok_chkA, mo_isGood_eq, bndO_s]
  refine ⟨by omega, by omega, by omega, ?_⟩
  refine Ok_jq1 (fun y => y = if ρ 92 4 = 0 then 1 else 0) (fun y hy => ?_) (fun x hx => ?_)
  · have f41 : ∀ z : Int, yset ρ 113 (6 * b + a) z 92 41 = b := by intro z; rw [yset_ne (by omega)]; exact e41
    have f98 : ∀ z : Int, yset ρ 113 (6 * b + a) z 98 b = m := by intro z; rw [yset_ne (by omega)]; exact e98
    have hy2 : y = 0 ∨ y = 1 := by rw [hy]; split <;> omega
    rw [Ok_chkI, Ok_chkA, Ok_bnd, f41, Int.toNat_natCast b, f98, Ok_chkA, Ok_chkI, Ok_chkA, Ok_bnd, Ok_some, hy]
    refine ⟨?_, by omega, by omega, by omega, by omega, rfl⟩
    rw [← hy]
    omega
  · rw [Ok_ite]
    refine ⟨fun q => hx 0 ?_, fun q => hx 1 ?_⟩
    · exact q.symm
    · by_cases q2 : ρ 92 4 = 0
      · rw [if_pos q2]
      · rw [if_neg q2] at q; exact absurd rfl q
theorem do1_bad {N b m ix mp : Nat} {I : Int} {ρ : ySt} (hN : 100000 ≤ N) (hb : b < 2) (hm : m < 3) (hI : I = ix) (hx : ix < 6) (e41 : ρ 92 41 = b) (e98 : ρ 98 b = m) (e95 : ρ 95 b = mp) (hmp : mp ≤ 6) (g : ρ 92 4 ≠ 0) (e113 : 0 ≤ ρ 113 (6 * b + 0) ∧ ρ 113 (6 * b + 0) ≤ 9) (w : Int) : do1 N I ρ w = some (yset (yset (yset ρ 109 ix w) 113 (6 * b + 0) (ρ 113 (6 * b + 0) + 0)) 98 b ((m : Int) + 1)) := by
  apply Ok_eq
  have g2 : yset ρ 109 ix w 92 4 ≠ 0 := by rw [yset_ne (by omega)]; exact g
  have e13 : yset ρ 109 ix w 113 = ρ 113 := yset_off _ (by omega)
  unfold do1
  rw [hI, Int.toNat_natCast, Ok_chkA, Ok_bnd, mo_placeAt_quiet hN g2 hb (by rw [yset_ne (by omega)]; exact e41) (by rw [yset_ne (by omega)]; exact e95) hmp, bndR_s, do2_eq (a := 0) (A := 0) hb hm rfl (by omega) (by rw [yset_ne (by omega)]; exact e41) (by rw [yset_ne (by omega)]; exact e98) (by rw [e13]; exact e113), if_neg g2, Ok_some, e13]
  exact ⟨by omega, rfl⟩
def addDog (σ : ySt) (T m : Nat) (x : Int) : ySt := yset (yset σ (T + 5 + 1) m x) (T + 5) 1 ((m : Int) + 1)
def updDogM (τ : ySt) (b m : Nat) (y : Int) (w : Nat) (c : Int) : ySt := yset (yset (yset τ 109 (3 * b + m) y) 113 (6 * b + w) (τ 113 (6 * b + w) + c)) 98 b ((m : Int) + 1)
theorem addDog_eqC {σ ρ : ySt} (h : eqC σ ρ) {T m : Nat} {x : Int} : eqC (addDog σ T m x) (addDog ρ T m x) := by
  unfold addDog
  exact eqC_set (eqC_set h)
theorem L_dog {N n p T b mp mq md : Nat} {σ τ : ySt} {t : Nat → Int} (hN : 100000 ≤ N) (hT : T = 13 ∨ T = 33) (hb : b < 2)
    (tc : TC σ t n p) (fc : FC σ 0 (-1)) (tm : TM τ t n (tkE t n p)) (fm : FM τ 0 (-1)) (h53 : σ 53 1 = T + 1) (h41 : τ 92 41 = b)
    (NP : NR σ (T + 1) τ 107 (6 * b) mp) (hmp : mp ≤ 6) (c95 : τ 95 b = mp) (NQ : NR σ (T + 3) τ 108 (5 * b) mq) (hmq : mq ≤ 5) (c97 : τ 97 b = mq)
    (ND : NR σ (T + 5) τ 109 (3 * b) md) (hmd : md < 3) (c98 : τ 98 b = md) (h113 : ∀ k, k < 6 → 0 ≤ τ 113 (6 * b + k) ∧ τ 113 (6 * b + k) ≤ 8) :
    Ok (cRd_readDog N σ) (fun r => Ok (mo_readDog N τ) (fun τ' => (r.1 = 1 ∧ ∃ (z : List Int) (w q : Nat), (∀ c ∈ z, 97 ≤ c ∧ c ≤ 122) ∧ w < mp ∧ RT r.2 τ' t n q ∧ eqC r.2 (yset (addDog σ T md (enc5 z)) (T + 10) md w) ∧ eqM τ' (updDogM τ b md (enc8 z) w 1)) ∨ (r.1 = 0 ∧ RB r.2 τ' t n ∧ (eqC r.2 σ ∨ ∃ x, eqC r.2 (addDog σ T md x)) ∧ ∃ (y : Int) (w : Nat) (c : Int), w < 6 ∧ eqM τ' (updDogM τ b md y w c)))) := by
  have hkd := yKd_nm T hT
  have ho : T + 5 = 14 ∨ T + 5 = 16 ∨ T + 5 = 18 ∨ T + 5 = 34 ∨ T + 5 = 36 ∨ T + 5 = 38 := by omega
  have hx : 3 * b + md < 6 := by omega
  have hI : ((3 : Int) * (b : Int) + (md : Int)) = ((3 * b + md : Nat) : Int) := by omega
  have h1' : ∀ k, T + k ≠ 1 := by omega
  unfold cRd_readDog
  rw [Ok_chkT_eq hT h53, cNm_isFull_ok ho ND.1, bndO_s, if_pos (by omega), Ok_bndR]
  refine (cRd_start_ok hN tc).mono ?_
  rintro ⟨r1, σ1⟩ ⟨a1, a2, a3, a4, a5⟩
  dsimp only at a1 a2 a3 a4 a5 ⊢
  subst a1
  have k1 : eqC σ1 σ := eqC_of a2
  have rt : RT σ1 τ t n (tkE t n p) := ⟨a3, tm, FC_of fc a4 a5, fm⟩
  rw [if_neg (by decide), Ok_chkT_eq (T := T) hT (by rw [k1 53 (by decide)]; exact h53), Ok_bndR]
  have QB := mo_being_ok hN tm fm.1 hb h41 c97 hmq c98 (by omega)
  have bad : ∀ {σ' : ySt} {f : Int}, eqC σ' σ → FC σ' f (tkA t n (tkE t n p)) → f ≠ 0 → ((tkK t n (tkE t n p) = 3 ∧ (0 ≤ nf (fun k => decide (τ 92 8 = 2) && decide (τ 108 (5 * b + k) = τ 92 10)) mq ∨ 0 ≤ nf (fun k => decide (τ 92 8 = 2) && decide (τ 109 (3 * b + k) = τ 92 10)) md) ∧ f = 3) ∨ (tkK t n (tkE t n p) ≠ 3 ∧ f = bdK t n (tkE t n p))) →
      Ok (some ((0 : Int), σ')) (fun r => Ok (mo_readDog N τ) (fun τ' => (r.1 = 1 ∧ ∃ (z : List Int) (w q : Nat), (∀ c ∈ z, 97 ≤ c ∧ c ≤ 122) ∧ w < mp ∧ RT r.2 τ' t n q ∧ eqC r.2 (yset (addDog σ T md (enc5 z)) (T + 10) md w) ∧ eqM τ' (updDogM τ b md (enc8 z) w 1)) ∨ (r.1 = 0 ∧ RB r.2 τ' t n ∧ (eqC r.2 σ ∨ ∃ x, eqC r.2 (addDog σ T md x)) ∧ ∃ (y : Int) (w : Nat) (c : Int), w < 6 ∧ eqM τ' (updDogM τ b md y w c)))) := by
    intro σ' f hs hf f0 hc
    rw [Ok_some, mo_readDog_eq, h41, Int.toNat_natCast, c98, Ok_chkI, Ok_chkA, Ok_chkI, hI, Ok_bndR]
    refine ⟨by omega, by omega, by omega, QB.mono ?_⟩
    rintro ⟨r, ρ⟩ ⟨g1, g2⟩
    dsimp only at g1 g2 ⊢
    have m1 := eqM_of g1
    have fin : FM ρ f (tkA t n (tkE t n p)) → TM ρ t n (tkE t n p) → Ok (do1 N ((3 * b + md : Nat) : Int) ρ r) (fun τ' => ((0 : Int) = 1 ∧ ∃ (z : List Int) (w q : Nat), (∀ c ∈ z, 97 ≤ c ∧ c ≤ 122) ∧ w < mp ∧ RT σ' τ' t n q ∧ eqC σ' (yset (addDog σ T md (enc5 z)) (T + 10) md w) ∧ eqM τ' (updDogM τ b md (enc8 z) w 1)) ∨ ((0 : Int) = 0 ∧ RB σ' τ' t n ∧ (eqC σ' σ ∨ ∃ x, eqC σ' (addDog σ T md x)) ∧ ∃ (y : Int) (w : Nat) (c : Int), w < 6 ∧ eqM τ' (updDogM τ b md y w c))) := by
      intro hf2 tm2
      have rb := RB_of tm2 hf hf2 f0
      have e13 : ρ 113 = τ 113 := m1.1 113 (by decide)
      rw [do1_bad hN hb hmd rfl hx (by rw [m1.2 41 (by omega)]; exact h41) (by rw [m1.1 98 (by decide)]; exact c98) (by rw [m1.1 95 (by decide)]; exact c95) hmp rb.2.2.2 (by rw [e13]; have := h113 0 (by omega); omega), Ok_some, e13]
      refine Or.inr ⟨rfl, RB_set (RB_set (RB_set rb (by decide) (by decide)) (by decide) (by decide)) (by decide) (by decide), Or.inl hs, r, 0, 0, by omega, ?_⟩
      exact eqM_set (eqM_set (eqM_set m1 (by decide)) (by decide)) (by decide)
    rcases g2 with ⟨k, v, _⟩ | ⟨k, v, tm2, f2⟩ | ⟨k, tm2, f2⟩
    · rcases hc with ⟨_, w, _⟩ | ⟨q, _⟩
      · omega
      · exact absurd k q
    · rcases hc with ⟨_, _, e⟩ | ⟨q, _⟩
      · exact fin (by rw [e]; exact f2) tm2
      · exact absurd k q
    · rcases hc with ⟨q, _⟩ | ⟨_, e⟩
      · exact absurd q k
      · exact fin (by rw [e]; exact f2) tm2
  refine (L_new hN rt (NR_eq NQ (k1 _ (h1' 3)) (k1 _ (by omega)) rfl) (by omega) (by omega) (by omega)).mono ?_
  rintro ⟨r2, σ2⟩ d2
  dsimp only at d2 ⊢
  rcases d2 with ⟨e, k3, p3⟩ | ⟨r0, c2, f2⟩
  · injection e with e e'
    subst e e'
    rw [if_neg (by decide), Ok_chkT_eq (T := T) hT (by rw [k1 53 (by decide)]; exact h53), Ok_bndR]
    refine (L_new hN rt (NR_eq ND (k1 _ (h1' 5)) (k1 _ (by omega)) rfl) ho (by omega) (by omega)).mono ?_
    rintro ⟨r3, σ3⟩ d3
    dsimp only at d3 ⊢
    rcases d3 with ⟨e, _, q3⟩ | ⟨r0, c3, f3⟩
    · injection e with e e'
      subst e e'
      have hw : σ3 1 4 = enc5 (tkW t n (tkE t n p)) := a3.2.2.2.2.2.2.2.2.1 k3
      rw [if_pos (by decide), Ok_chkT_eq (T := T) hT (by rw [k1 53 (by decide)]; exact h53), Ok_bndR, cNm_add_ok ho (by rw [k1 _ (h1' 5)]; exact ND.1) (by omega) (by omega), Ok_some, hw]
      dsimp only
      rw [Ok_bndO]
      have tcA : TC (addDog σ3 T md (enc5 (tkW t n (tkE t n p)))) t n (tkE t n p) := TC_set (TC_set a3 (by omega) (by omega)) (by omega) (by omega)
      refine (TC_go hN tcA).mono ?_
      rintro σ4 ⟨b1, b2, b3, b4⟩
      have k4 : eqC σ4 (addDog σ T md (enc5 (tkW t n (tkE t n p)))) := eqC_tr (eqC_of b1) (addDog_eqC k1)
      have f4 : FC σ4 0 (-1) := FC_of (FC_set (FC_set (FC_of fc a4 a5) (by omega)) (by omega)) b3 b4
      have add53 : ∀ {x : Int}, addDog σ T md x 53 1 = T + 1 := by
        intro x
        unfold addDog
        rw [yset_ne (by omega), yset_ne (by omega)]
        exact h53
      have addP : ∀ {x : Int}, addDog σ T md x (T + 1) = σ (T + 1) ∧ addDog σ T md x (T + 1 + 1) = σ (T + 1 + 1) := by
        intro x
        unfold addDog
        exact ⟨by rw [yset_off _ (by omega), yset_off _ (by omega)], by rw [yset_off _ (by omega), yset_off _ (by omega)]⟩
      rw [Ok_swap, mo_readDog_eq, h41, Int.toNat_natCast, c98, Ok_chkI, Ok_chkA, Ok_chkI, hI, Ok_bndR]
      refine ⟨by omega, by omega, by omega, QB.mono ?_⟩
      rintro ⟨y, ρ⟩ ⟨g1, g2⟩
      dsimp only at g1 g2 ⊢
      have m1 := eqM_of g1
      have wd := tkW_wd (Or.inl k3 : tkK t n (tkE t n p) = 3 ∨ 100 ≤ tkK t n (tkE t n p))
      rcases g2 with ⟨_, _, ey, tm2, g4, g5⟩ | ⟨_, v, _⟩ | ⟨k, _⟩
      · have rt4 : RT σ4 ρ t n (tkE t n (tkE t n p)) := ⟨b2, tm2, f4, g4, g5.trans fm.2⟩
        have G : ∀ {ρ : ySt} {w : Nat} {c : Int}, eqM ρ (yset τ 109 (3 * b + md) y) → eqM (yset (yset ρ 113 (6 * b + w) (τ 113 (6 * b + w) + c)) 98 b ((md : Int) + 1)) (updDogM τ b md y w c) := fun h3 => eqM_set (eqM_set h3 (by decide)) (by decide)
        generalize 3 * b + md = ix at hx hI G ⊢
        unfold do1
        rw [Int.toNat_natCast ix, Ok_chkA, Ok_bnd]
        refine ⟨by omega, ?_⟩
        have rt4' : RT σ4 (yset ρ 109 ix y) t n (tkE t n (tkE t n p)) := RT_set rt4 (by decide) (by decide)
        unfold mo_placeAt
        rw [isW_at_ rt4'.2.1, bndO_s, bndR_bndO, Ok_swap]
        refine L_RO _ (L_pass hN rt4' 105) ?_
        rintro r σ5 τ5 ⟨c5, m5, d5⟩
        dsimp only at c5 m5 d5 ⊢
        have k5 : eqC σ5 (addDog σ T md (enc5 (tkW t n (tkE t n p)))) := eqC_tr c5 k4
        have n5 : eqM τ5 (yset τ 109 ix y) := eqM_tr m5 (eqM_set m1 (by decide))
        have z5 : τ5 92 41 = b ∧ τ5 98 b = md ∧ τ5 95 b = mp ∧ τ5 113 = τ 113 := ⟨by rw [n5.2 41 (by omega), yset_ne (by omega)]; exact h41, by rw [n5.1 98 (by decide), yset_ne (by omega)]; exact c98, by rw [n5.1 95 (by decide), yset_ne (by omega)]; exact c95, by rw [n5.1 113 (by decide), yset_off _ (by decide)]⟩
        rw [mo_placeHere_ok hN hb z5.1 z5.2.2.1 hmp, bndO_s, Ok_bnd]
        rcases d5 with ⟨r1, rt5⟩ | ⟨r0, rb⟩
        · rw [if_neg (by omega), Ok_chkT_eq (T := T) hT (by rw [k5 53 (by decide)]; exact add53), bndR_bndR]
          refine L_RR _ (L_known hN rt5 (NR_eq NP ((k5 _ (h1' 1)).trans addP.1) ((k5 _ (by omega)).trans addP.2) (by rw [n5.1 107 (by decide), yset_off _ (by decide)])) (by omega) (by omega) (by omega)) ?_
          rintro w σ6 w' τ6 ⟨c6, m6, d6⟩
          dsimp only at c6 m6 d6 ⊢
          rw [bndR_s, if_neg (by omega)]
          have k6 := eqC_tr c6 k5
          have n6 := eqM_tr m6 n5
          have z6 : τ6 92 41 = b ∧ τ6 98 b = md ∧ τ6 113 = τ 113 := ⟨by rw [n6.2 41 (by omega), yset_ne (by omega)]; exact h41, by rw [n6.1 98 (by decide), yset_ne (by omega)]; exact c98, by rw [n6.1 113 (by decide), yset_off _ (by decide)]⟩
          rcases d6 with ⟨w0, w1, rfl, rt6⟩ | ⟨w0, w1, w2, rb⟩
          · obtain ⟨a, rfl⟩ : ∃ a : Nat, w' = a := ⟨w'.toNat, by omega⟩
            have y53 : σ6 53 1 = T + 1 := by rw [k6 53 (by decide)]; exact add53
            have hg := h113 a (by omega)
            rw [if_pos (by omega), Ok_chkT_eq hT y53, Ok_chkA, Ok_bnd, Ok_some, Int.toNat_natCast md, do2_eq (a := a) hb hmd rfl (by omega) z6.1 z6.2.1 (by rw [z6.2.2]; omega), if_pos rt6.2.2.2.1, Ok_some, z6.2.2]
            have rt9 : RT (yset σ6 (T + 10) md a) (yset (yset τ6 113 (6 * b + a) (τ 113 (6 * b + a) + 1)) 98 b ((md : Int) + 1)) t n _ := RT_set (RT_set (RT_setC rt6 (by omega) (by omega)) (by decide) (by decide)) (by decide) (by decide)
            have eq9 : eqC (yset σ6 (T + 10) md a) (yset (addDog σ T md (enc5 (tkW t n (tkE t n p)))) (T + 10) md a) := eqC_set k6
            have em9 := G (w := a) (c := 1) n6
            refine ⟨by omega, Or.inl ⟨rfl, tkW t n (tkE t n p), a, _, wd.1, by omega, rt9, eq9, ?_⟩⟩
            rw [← ey]
            exact em9
          · obtain ⟨a, rfl⟩ : ∃ a : Nat, w' = a := ⟨w'.toNat, by omega⟩
            have hg := h113 a (by omega)
            rw [if_neg (by omega), Ok_some, do2_eq (a := a) hb hmd rfl (by omega) z6.1 z6.2.1 (by rw [z6.2.2]; omega), if_neg rb.2.2.2, Ok_some, z6.2.2]
            exact Or.inr ⟨rfl, RB_set (RB_set rb (by decide) (by decide)) (by decide) (by decide), Or.inr ⟨_, k6⟩, y, a, 0, by omega, G n6⟩
        · have hg := h113 0 (by omega)
          rw [if_pos r0]
          dsimp only
          rw [if_neg (by omega), if_neg (by decide), Ok_some, mo_told_quiet rb.2.2.2, bndR_s, bndR_s, do2_eq (a := 0) (A := 0) hb hmd rfl (by omega) z5.1 z5.2.1 (by rw [z5.2.2.2]; omega), if_neg rb.2.2.2, Ok_some, z5.2.2.2]
          exact Or.inr ⟨rfl, RB_set (RB_set rb (by decide) (by decide)) (by decide) (by decide), Or.inr ⟨_, k5⟩, y, 0, 0, by omega, G n5⟩
      · omega
      · exact absurd k3 k
    · rw [r0, if_neg (by decide)]
      rcases f3 with ⟨k, v, f⟩ | ⟨k, f⟩
      · exact bad (eqC_tr c3 k1) f (by decide) (Or.inl ⟨k, Or.inr v, rfl⟩)
      · exact absurd k3 k
  · rw [r0, if_pos rfl]
    rcases f2 with ⟨k, v, f⟩ | ⟨k, f⟩
    · exact bad (eqC_tr c2 k1) f (by decide) (Or.inl ⟨k, Or.inl v, rfl⟩)
    · exact bad (eqC_tr c2 k1) f (bdK_0 t n _) (Or.inr ⟨k, rfl⟩)
