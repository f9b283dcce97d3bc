/-! a line "person" -/
def pe3 (I : Int) (ρ : ySt) (v : Int) : Option ySt := chkA 10 I <| bnd (yset ρ 112 I.toNat v) fun σ20 => chkA 2 (σ20 92 41) <| chkI ((σ20 97 ((σ20 92 41)).toNat) + 1) <| chkA 2 (σ20 92 41) <| bnd (yset σ20 97 ((σ20 92 41)).toNat ((σ20 97 ((σ20 92 41)).toNat) + 1)) fun σ25 => some σ25
def pe2 (N : Nat) (I : Int) (ρ : ySt) (a : Int) : Option ySt := chkA 10 I <| bnd (yset ρ 111 I.toNat a) fun σ14 => bndR (mo_after N 1751741029 0 99 σ14) fun r17 σ18 => pe3 I σ18 r17
def pe1 (N : Nat) (I : Int) (ρ : ySt) (x : Int) : Option ySt := chkA 10 I <| bnd (yset ρ 108 I.toNat x) fun σ8 => bndR (mo_placeAt N σ8) fun r11 σ12 => pe2 N I σ12 r11
theorem mo_readPerson_eq (N : Nat) (τ : ySt) : mo_readPerson N τ = (chkI (5 * (τ 92 41)) <| chkA 2 (τ 92 41) <| chkI ((5 * (τ 92 41)) + (τ 97 ((τ 92 41)).toNat)) <| bndR (mo_being N τ) fun r5 σ6 => pe1 N ((5 * (τ 92 41)) + (τ 97 ((τ 92 41)).toNat)) σ6 r5) := rfl
theorem pe3_eq {b m ix : Nat} {I : Int} {ρ : ySt} (hb : b < 2) (hm : m < 5) (hI : I = ix) (hx : ix < 10) (e41 : ρ 92 41 = b) (e97 : ρ 97 b = m) (v : Int) : pe3 I ρ v = some (yset (yset ρ 112 ix v) 97 b ((m : Int) + 1)) := by
  apply Ok_eq
  have f41 : yset ρ 112 ix v 92 41 = b := by rw [yset_ne (by omega)]; exact e41
  have f97 : yset ρ 112 ix v 97 b = m := by rw [yset_ne (by omega)]; exact e97
  unfold pe3
  rw [hI, Int.toNat_natCast, Ok_chkA, Ok_bnd, f41, Int.toNat_natCast, f97, Ok_chkA, Ok_chkI, Ok_chkA, Ok_bnd, Ok_some]
  exact ⟨by omega, by omega, by omega, by omega, rfl⟩
theorem pe2_bad {N b m ix : Nat} {I : Int} {ρ : ySt} (hb : b < 2) (hm : m < 5) (hI : I = ix) (hx : ix < 10) (e41 : ρ 92 41 = b) (e97 : ρ 97 b = m) (g : ρ 92 4 ≠ 0) (a : Int) : pe2 N I ρ a = some (yset (yset (yset ρ 111 ix a) 112 ix 0) 97 b ((m : Int) + 1)) := by
  apply Ok_eq
  have g2 : yset ρ 111 ix a 92 4 ≠ 0 := by rw [yset_ne (by omega)]; exact g
  unfold pe2
  rw [hI, Int.toNat_natCast, Ok_chkA, Ok_bnd, mo_after_quiet g2, bndR_s, pe3_eq hb hm rfl hx (by rw [yset_ne (by omega)]; exact e41) (by rw [yset_ne (by omega)]; exact e97), Ok_some]
  exact ⟨by omega, rfl⟩
theorem pe1_bad {N b m ix mp : Nat} {I : Int} {ρ : ySt} (hN : 100000 ≤ N) (hb : b < 2) (hm : m < 5) (hI : I = ix) (hx : ix < 10) (e41 : ρ 92 41 = b) (e97 : ρ 97 b = m) (e95 : ρ 95 b = mp) (hmp : mp ≤ 6) (g : ρ 92 4 ≠ 0) (w : Int) : pe1 N I ρ w = some (yset (yset (yset (yset ρ 108 ix w) 111 ix 0) 112 ix 0) 97 b ((m : Int) + 1)) := by
  apply Ok_eq
  have g2 : yset ρ 108 ix w 92 4 ≠ 0 := by rw [yset_ne (by omega)]; exact g
  unfold pe1
  rw [hI, Int.toNat_natCast, Ok_chkA, Ok_bnd, mo_placeAt_quiet hN g2 hb (by rw [yset_ne (by omega)]; exact e41) (by rw [yset_ne (by omega)]; exact e95) hmp, bndR_s, pe2_bad hb hm rfl hx (by rw [yset_ne (by omega)]; exact e41) (by rw [yset_ne (by omega)]; exact e97) g2, Ok_some]
  exact ⟨by omega, rfl⟩
def addPer (σ : ySt) (T m : Nat) (x : Int) : ySt := yset (yset σ (T + 3 + 1) m x) (T + 3) 1 ((m : Int) + 1)
def updPer (σ : ySt) (T m : Nat) (x w v : Int) : ySt := yset (yset (addPer σ T m x) (T + 8) m w) (T + 9) m v
def updPerM (τ : ySt) (b m : Nat) (y w v : Int) : ySt := yset (yset (yset (yset τ 108 (5 * b + m) y) 111 (5 * b + m) w) 112 (5 * b + m) v) 97 b ((m : Int) + 1)
theorem addPer_eqC {σ ρ : ySt} (h : eqC σ ρ) {T m : Nat} {x : Int} : eqC (addPer σ T m x) (addPer ρ T m x) := by
  unfold addPer
  exact eqC_set (eqC_set h)
theorem updPer_eqC {σ ρ : ySt} {T m : Nat} {x w v : Int} (h : eqC σ (addPer ρ T m x)) : eqC (yset (yset σ (T + 8) m w) (T + 9) m v) (updPer ρ T m x w v) := by
  unfold updPer
  exact eqC_set (eqC_set h)
theorem L_person {N n p T b mp mq md : Nat} {σ τ : ySt} {t : Nat → Int} (hN : 100000 ≤ N) (hT : T = 13 ∨ T = 33) (hb : b < 2)
    (tc : TC σ t n p) (fc : FC σ 0 (-1)) (tm : TM τ t n (tkE t n p)) (fm : FM τ 0 (-1)) (h53 : σ 53 1 = T + 1) (h41 : τ 92 41 = b)
    (NP : NR σ (T + 1) τ 107 (6 * b) mp) (hmp : mp ≤ 6) (c95 : τ 95 b = mp) (NQ : NR σ (T + 3) τ 108 (5 * b) mq) (hmq : mq < 5) (c97 : τ 97 b = mq)
    (ND : NR σ (T + 5) τ 109 (3 * b) md) (hmd : md ≤ 3) (c98 : τ 98 b = md) :
    Ok (cRd_readPerson N σ) (fun r => Ok (mo_readPerson N τ) (fun τ' =>
      (r.1 = 1 ∧ ∃ (z : List Int) (w v : Int) (q : Nat), (∀ c ∈ z, 97 ≤ c ∧ c ≤ 122) ∧ (0 ≤ w ∧ w < mp) ∧ (0 ≤ v ∧ v ≤ 99) ∧ RT r.2 τ' t n q ∧ eqC r.2 (updPer σ T mq (enc5 z) w v) ∧ eqM τ' (updPerM τ b mq (enc8 z) w v)) ∨
      (r.1 = 0 ∧ RB r.2 τ' t n ∧ (eqC r.2 σ ∨ ∃ x, eqC r.2 (addPer σ T mq x)) ∧ ∃ y w v : Int, eqM τ' (updPerM τ b mq y w v)))) := by
  have hkd := yKd_nm T hT
  have ho : T + 3 = 14 ∨ T + 3 = 16 ∨ T + 3 = 18 ∨ T + 3 = 34 ∨ T + 3 = 36 ∨ T + 3 = 38 := by omega
  have hx : 5 * b + mq < 10 := by omega
  have hI : ((5 : Int) * (b : Int) + (mq : Int)) = ((5 * b + mq : Nat) : Int) := by omega
  have h1' : ∀ k, T + k ≠ 1 := by omega
  unfold cRd_readPerson
  rw [Ok_chkT_eq hT h53, cNm_isFull_ok ho NQ.1, bndO_s, if_pos (by omega), Ok_bndR]
  refine (cRd_start_ok hN tc).mono ?_
  rintro ⟨r1, σ1⟩ ⟨a1, a2, a3, a4, a5⟩
  dsimp only at a1 a2 a3 a4 a5 ⊢
  subst a1
  have k1 : eqC σ1 σ := eqC_of a2
  have rt : RT σ1 τ t n (tkE t n p) := ⟨a3, tm, FC_of fc a4 a5, fm⟩
  have G3 : ∀ {ρ : ySt} {y w : Int} (v : Int), eqM ρ (yset (yset τ 108 (5 * b + mq) y) 111 (5 * b + mq) w) → eqM (yset (yset ρ 112 (5 * b + mq) v) 97 b ((mq : Int) + 1)) (updPerM τ b mq y w v) := fun v h3 => eqM_set (eqM_set h3 (by decide)) (by decide)
  have B3 : ∀ {σx ρ : ySt} {y w : Int} (v : Int), RB σx ρ t n → (eqC σx σ ∨ ∃ x, eqC σx (addPer σ T mq x)) → eqM ρ (yset (yset τ 108 (5 * b + mq) y) 111 (5 * b + mq) w) → RB σx (yset (yset ρ 112 (5 * b + mq) v) 97 b ((mq : Int) + 1)) t n ∧ (eqC σx σ ∨ ∃ x, eqC σx (addPer σ T mq x)) ∧ ∃ y' w' v' : Int, eqM (yset (yset ρ 112 (5 * b + mq) v) 97 b ((mq : Int) + 1)) (updPerM τ b mq y' w' v') :=
    fun v h1 h2 h3 => ⟨RB_set (RB_set h1 (by decide) (by decide)) (by decide) (by decide), h2, _, _, v, G3 v h3⟩
  rw [if_neg (by decide), Ok_chkT_eq (T := T) hT (by rw [k1 53 (by decide)]; exact h53), Ok_bndR]
  have QB := mo_being_ok hN tm fm.1 hb h41 c97 (by omega) c98 hmd
  -- the model, when the name is no new one
  have bad : ∀ {σ' : ySt} {f : Int}, eqC σ' σ → FC σ' f (tkA t n (tkE t n p)) → f ≠ 0 → ((tkK t n (tkE t n p) = 3 ∧ (0 ≤ nf (fun k => decide (τ 92 8 = 2) && decide (τ 108 (5 * b + k) = τ 92 10)) mq ∨ 0 ≤ nf (fun k => decide (τ 92 8 = 2) && decide (τ 109 (3 * b + k) = τ 92 10)) md) ∧ f = 3) ∨ (tkK t n (tkE t n p) ≠ 3 ∧ f = bdK t n (tkE t n p))) →
      Ok (some ((0 : Int), σ')) (fun r => Ok (mo_readPerson N τ) (fun τ' => (r.1 = 1 ∧ ∃ (z : List Int) (w v : Int) (q : Nat), (∀ c ∈ z, 97 ≤ c ∧ c ≤ 122) ∧ (0 ≤ w ∧ w < mp) ∧ (0 ≤ v ∧ v ≤ 99) ∧ RT r.2 τ' t n q ∧ eqC r.2 (updPer σ T mq (enc5 z) w v) ∧ eqM τ' (updPerM τ b mq (enc8 z) w v)) ∨ (r.1 = 0 ∧ RB r.2 τ' t n ∧ (eqC r.2 σ ∨ ∃ x, eqC r.2 (addPer σ T mq x)) ∧ ∃ y w v : Int, eqM τ' (updPerM τ b mq y w v)))) := by
    intro σ' f hs hf f0 hc
    rw [Ok_some, mo_readPerson_eq, h41, Int.toNat_natCast, c97, Ok_chkI, Ok_chkA, Ok_chkI, hI, Ok_bndR]
    refine ⟨by omega, by omega, by omega, QB.mono ?_⟩
    rintro ⟨r, ρ⟩ ⟨g1, g2⟩
    dsimp only at g1 g2 ⊢
    have m1 := eqM_of g1
    have fin : FM ρ f (tkA t n (tkE t n p)) → TM ρ t n (tkE t n p) → Ok (pe1 N ((5 * b + mq : Nat) : Int) ρ r) (fun τ' => ((0 : Int) = 1 ∧ ∃ (z : List Int) (w v : Int) (q : Nat), (∀ c ∈ z, 97 ≤ c ∧ c ≤ 122) ∧ (0 ≤ w ∧ w < mp) ∧ (0 ≤ v ∧ v ≤ 99) ∧ RT σ' τ' t n q ∧ eqC σ' (updPer σ T mq (enc5 z) w v) ∧ eqM τ' (updPerM τ b mq (enc8 z) w v)) ∨ ((0 : Int) = 0 ∧ RB σ' τ' t n ∧ (eqC σ' σ ∨ ∃ x, eqC σ' (addPer σ T mq x)) ∧ ∃ y w v : Int, eqM τ' (updPerM τ b mq y w v))) := by
      intro hf2 tm2
      have rb := RB_of tm2 hf hf2 f0
      rw [pe1_bad hN hb hmq rfl hx (by rw [m1.2 41 (by omega)]; exact h41) (by rw [m1.1 97 (by decide)]; exact c97) (by rw [m1.1 95 (by decide)]; exact c95) hmp rb.2.2.2, Ok_some]
      exact Or.inr ⟨rfl, B3 0 (RB_set (RB_set rb (by decide) (by decide)) (by decide) (by decide)) (Or.inl hs) (eqM_set (eqM_set m1 (by decide)) (by decide))⟩
    rcases g2 with ⟨k, v, _⟩ | ⟨k, v, tm2, f2⟩ | ⟨k, tm2, f2⟩
    · rcases hc with ⟨_, w, _⟩ | ⟨q, _⟩
      · omega
      · exact absurd k q
    · rcases hc with ⟨_, _, e⟩ | ⟨q, _⟩
      · exact fin (by rw [e]; exact f2) tm2
      · exact absurd k q
    · rcases hc with ⟨q, _⟩ | ⟨_, e⟩
      · exact absurd q k
      · exact fin (by rw [e]; exact f2) tm2
  refine (L_new hN rt (NR_eq NQ (k1 _ (h1' 3)) (k1 _ (by omega)) rfl) ho (by omega) (by omega)).mono ?_
  rintro ⟨r2, σ2⟩ d2
  dsimp only at d2 ⊢
  rcases d2 with ⟨e, k3, p3⟩ | ⟨r0, c2, f2⟩
  · injection e with e e'
    subst e e'
    rw [if_neg (by decide), Ok_chkT_eq (T := T) hT (by rw [k1 53 (by decide)]; exact h53), Ok_bndR]
    refine (L_new hN rt (NR_eq ND (k1 _ (h1' 5)) (k1 _ (by omega)) rfl) (by omega) (by omega) (by omega)).mono ?_
    rintro ⟨r3, σ3⟩ d3
    dsimp only at d3 ⊢
    rcases d3 with ⟨e, _, q3⟩ | ⟨r0, c3, f3⟩
    · injection e with e e'
      subst e e'
      have hw : σ3 1 4 = enc5 (tkW t n (tkE t n p)) := a3.2.2.2.2.2.2.2.2.1 k3
      rw [if_pos (by decide), Ok_chkT_eq (T := T) hT (by rw [k1 53 (by decide)]; exact h53), Ok_bndR, cNm_add_ok ho (by rw [k1 _ (h1' 3)]; exact NQ.1) (by omega) (by omega), Ok_some, hw]
      dsimp only
      rw [Ok_bndO]
      have tcA : TC (addPer σ3 T mq (enc5 (tkW t n (tkE t n p)))) t n (tkE t n p) := TC_set (TC_set a3 (by omega) (by omega)) (by omega) (by omega)
      refine (TC_go hN tcA).mono ?_
      rintro σ4 ⟨b1, b2, b3, b4⟩
      have k4 : eqC σ4 (addPer σ T mq (enc5 (tkW t n (tkE t n p)))) := eqC_tr (eqC_of b1) (addPer_eqC k1)
      have f4 : FC σ4 0 (-1) := FC_of (FC_set (FC_set (FC_of fc a4 a5) (by omega)) (by omega)) b3 b4
      have add53 : ∀ {x : Int}, addPer σ T mq x 53 1 = T + 1 := by
        intro x
        unfold addPer
        rw [yset_ne (by omega), yset_ne (by omega)]
        exact h53
      have addP : ∀ {x : Int}, addPer σ T mq x (T + 1) = σ (T + 1) ∧ addPer σ T mq x (T + 1 + 1) = σ (T + 1 + 1) := by
        intro x
        unfold addPer
        exact ⟨by rw [yset_off _ (by omega), yset_off _ (by omega)], by rw [yset_off _ (by omega), yset_off _ (by omega)]⟩
      rw [Ok_swap, mo_readPerson_eq, h41, Int.toNat_natCast, c97, Ok_chkI, Ok_chkA, Ok_chkI, hI, Ok_bndR]
      refine ⟨by omega, by omega, by omega, QB.mono ?_⟩
      rintro ⟨y, ρ⟩ ⟨g1, g2⟩
      dsimp only at g1 g2 ⊢
      have m1 := eqM_of g1
      have wd := tkW_wd (Or.inl k3 : tkK t n (tkE t n p) = 3 ∨ 100 ≤ tkK t n (tkE t n p))
      rcases g2 with ⟨_, _, ey, tm2, g4, g5⟩ | ⟨_, v, _⟩ | ⟨k, _⟩
      · have rt4 : RT σ4 ρ t n (tkE t n (tkE t n p)) := ⟨b2, tm2, f4, g4, g5.trans fm.2⟩
        generalize 5 * b + mq = ix at hx hI G3 B3 ⊢
        unfold pe1
        rw [Int.toNat_natCast, Ok_chkA, Ok_bnd]
        refine ⟨by omega, ?_⟩
        have rt4' : RT σ4 (yset ρ 108 ix y) t n (tkE t n (tkE t n p)) := RT_set rt4 (by decide) (by decide)
        unfold mo_placeAt
        rw [isW_at_ rt4'.2.1, bndO_s, bndR_bndO, Ok_swap]
        refine L_RO _ (L_pass hN rt4' 105) ?_
        rintro r σ5 τ5 ⟨c5, m5, d5⟩
        dsimp only at c5 m5 d5 ⊢
        have k5 : eqC σ5 (addPer σ T mq (enc5 (tkW t n (tkE t n p)))) := eqC_tr c5 k4
        have n5 : eqM τ5 (yset τ 108 ix y) := eqM_tr m5 (eqM_set m1 (by decide))
        have z5 : τ5 92 41 = b ∧ τ5 97 b = mq ∧ τ5 95 b = mp := ⟨by rw [n5.2 41 (by omega), yset_ne (by omega)]; exact h41, by rw [n5.1 97 (by decide), yset_ne (by omega)]; exact c97, by rw [n5.1 95 (by decide), yset_ne (by omega)]; exact c95⟩
        rw [mo_placeHere_ok hN hb z5.1 z5.2.2 hmp, bndO_s, Ok_bnd]
        rcases d5 with ⟨r1, rt5⟩ | ⟨r0, rb⟩
        · rw [if_neg (by omega), Ok_chkT_eq (T := T) hT (by rw [k5 53 (by decide)]; exact add53), bndR_bndR]
          refine L_RR _ (L_known hN rt5 (NR_eq NP ((k5 _ (h1' 1)).trans addP.1) ((k5 _ (by omega)).trans addP.2) (by rw [n5.1 107 (by decide), yset_off _ (by decide)])) (by omega) (by omega) (by omega)) ?_
          rintro w σ6 w' τ6 ⟨c6, m6, d6⟩
          dsimp only at c6 m6 d6 ⊢
          rw [bndR_s, if_neg (by omega)]
          have k6 := eqC_tr c6 k5
          have n6 := eqM_tr m6 n5
          have z6 : τ6 92 41 = b ∧ τ6 97 b = mq := ⟨by rw [n6.2 41 (by omega), yset_ne (by omega)]; exact h41, by rw [n6.1 97 (by decide), yset_ne (by omega)]; exact c97⟩
          rcases d6 with ⟨w0, w1, rfl, rt6⟩ | ⟨w0, w1, w2, rb⟩
          · rw [if_neg (by omega)]
            unfold pe2
            rw [Int.toNat_natCast ix, Ok_swap, Ok_chkA, Ok_bnd]
            refine ⟨by omega, ?_⟩
            have rt6' : RT σ6 (yset τ6 111 ix w') t n _ := RT_set rt6 (by decide) (by decide)
            unfold mo_after
            rw [isW_hire rt6'.2.1, bndO_s, bndR_bndO, Ok_swap]
            refine L_RO _ (L_pass hN rt6' 106) ?_
            rintro r7 σ7 τ7 ⟨c7, m7, d7⟩
            dsimp only at c7 m7 d7 ⊢
            have k7 := eqC_tr c7 k6
            have n7 : eqM τ7 (yset (yset τ 108 ix y) 111 ix w') := eqM_tr m7 (eqM_set n6 (by decide))
            have z7 : τ7 92 41 = b ∧ τ7 97 b = mq := ⟨by rw [n7.2 41 (by omega), yset_ne (by omega), yset_ne (by omega)]; exact h41, by rw [n7.1 97 (by decide), yset_ne (by omega), yset_ne (by omega)]; exact c97⟩
            rcases d7 with ⟨r1, rt7⟩ | ⟨r0, rb⟩
            · rw [if_pos (by omega), bndR_bndR]
              refine L_RR _ (L_num hN rt7 0 99 (by decide)) ?_
              rintro v σ8 v' τ8 ⟨c8, m8, d8⟩
              dsimp only at c8 m8 d8 ⊢
              have k8 := eqC_tr c8 k7
              have n8 := eqM_tr m8 n7
              have z8 : τ8 92 41 = b ∧ τ8 97 b = mq := ⟨by rw [n8.2 41 (by omega), yset_ne (by omega), yset_ne (by omega)]; exact h41, by rw [n8.1 97 (by decide), yset_ne (by omega), yset_ne (by omega)]; exact c97⟩
              rw [bndR_s, pe3_eq hb hmq rfl hx z8.1 z8.2]
              rcases d8 with ⟨v0, v1, rfl, rt8⟩ | ⟨v0, v1, rb⟩
              · have y53 : σ8 53 1 = T + 1 := by rw [k8 53 (by decide)]; exact add53
                have y53' : yset σ8 (T + 8) mq w' 53 1 = T + 1 := by rw [yset_ne (by omega)]; exact y53
                have rt9 : RT (yset (yset σ8 (T + 8) mq w') (T + 9) mq v') (yset (yset τ8 112 ix v') 97 b ((mq : Int) + 1)) t n _ := RT_set (RT_set (RT_setC (RT_setC rt8 (by omega) (by omega)) (by omega) (by omega)) (by decide) (by decide)) (by decide) (by decide)
                have eq9 := updPer_eqC (w := w') (v := v') k8
                have em9 := G3 v' n8
                rw [if_pos (by omega), Ok_chkT_eq hT y53, Ok_chkA, Ok_bnd, Int.toNat_natCast, Ok_chkT_eq hT y53', Ok_chkA, Ok_bnd, Ok_some, Ok_some]
                refine ⟨by omega, by omega, Or.inl ⟨rfl, tkW t n (tkE t n p), w', v', _, wd.1, ⟨w0, w1⟩, ⟨v0, v1⟩, rt9, eq9, ?_⟩⟩
                rw [← ey]
                exact em9
              · rw [if_neg (by omega), Ok_some, Ok_some]
                exact Or.inr ⟨rfl, B3 v' rb (Or.inr ⟨_, k8⟩) n8⟩
            · rw [if_neg (by omega), Ok_some, mo_numeral_quiet rb.2.2.2, bndR_s, bndR_s, pe3_eq hb hmq rfl hx z7.1 z7.2, Ok_some]
              exact Or.inr ⟨rfl, B3 0 rb (Or.inr ⟨_, k7⟩) n7⟩
          · rw [if_pos w0, Ok_some, pe2_bad hb hmq rfl hx z6.1 z6.2 rb.2.2.2, Ok_some]
            exact Or.inr ⟨rfl, B3 0 (RB_set rb (by decide) (by decide)) (Or.inr ⟨_, k6⟩) (eqM_set n6 (by decide))⟩
        · rw [if_pos r0]
          dsimp only
          rw [if_neg (by omega), if_pos rfl, Ok_some, mo_told_quiet rb.2.2.2, bndR_s, bndR_s, pe2_bad hb hmq rfl hx z5.1 z5.2.1 rb.2.2.2, Ok_some]
          exact Or.inr ⟨rfl, B3 0 (RB_set rb (by decide) (by decide)) (Or.inr ⟨_, k5⟩) (eqM_set n5 (by decide))⟩
      · omega
      · exact absurd k3 k
    · rw [r0, if_neg (by decide)]
      rcases f3 with ⟨k, v, f⟩ | ⟨k, f⟩
      · exact bad (eqC_tr c3 k1) f (by decide) (Or.inl ⟨k, Or.inr v, rfl⟩)
      · exact absurd k3 k
  · rw [r0, if_pos rfl]
    rcases f2 with ⟨k, v, f⟩ | ⟨k, f⟩
    · exact bad (eqC_tr c2 k1) f (by decide) (Or.inl ⟨k, Or.inl v, rfl⟩)
    · exact bad (eqC_tr c2 k1) f (bdK_0 t n _) (Or.inr ⟨k, rfl⟩)
