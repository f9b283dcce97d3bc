/-! a line "errand" -/
theorem bndR_bndO {α β : Type} {x : Option α} {f : α → Option (Int × ySt)} {k : Int → ySt → Option β} : bndR (bndO x f) k = bndO x (fun a => bndR (f a) k) := by
  cases x <;> rfl
theorem bndR_bndR {β : Type} {x : Option (Int × ySt)} {f : Int → ySt → Option (Int × ySt)} {k : Int → ySt → Option β} : bndR (bndR x f) k = bndR x (fun a σ => bndR (f a σ) k) := by
  cases x <;> rfl
theorem mo_isWord_some (c : Int) (σ : ySt) : ∃ x, mo_isWord c σ = some x := by
  unfold mo_isWord
  repeat' split
  all_goals exact ⟨_, rfl⟩
theorem mo_after_quiet {N : Nat} {σ : ySt} (g : σ 92 4 ≠ 0) (c a b : Int) : mo_after N c a b σ = some (a, σ) := by
  obtain ⟨x, hx⟩ := mo_isWord_some c σ
  unfold mo_after
  rw [hx, bndO_s, mo_must_quiet g, bndO_s, mo_numeral_quiet g, bndR_s]
theorem mo_placeAt_quiet {N b m : Nat} {σ : ySt} (hN : 100000 ≤ N) (g : σ 92 4 ≠ 0) (hb : b < 2) (h41 : σ 92 41 = b) (hc : σ 95 b = m) (hm : m ≤ 6) : mo_placeAt N σ = some (0, σ) := by
  obtain ⟨x, hx⟩ := mo_isWord_some 24948 σ
  unfold mo_placeAt
  rw [hx, bndO_s, mo_must_quiet g, bndO_s, mo_placeHere_ok hN hb h41 hc hm, bndO_s, mo_told_quiet g, bndR_s]
theorem mo_personHere_ok {N b m : Nat} {σ : ySt} (hN : 100000 ≤ N) (hb : b < 2) (h41 : σ 92 41 = b) (hc : σ 97 b = m) (hm : m ≤ 5) :
    mo_personHere N σ = some (nf (fun k => decide (σ 92 8 = 2) && decide (σ 108 (5 * b + k) = σ 92 10)) m) := by
  apply Ok_eq
  unfold mo_personHere
  have e : (yKd 108).2 = 10 := by decide
  have e1 : (yKd 108).1 = 21 ∧ 108 < 150 := by decide
  rw [Ok_chkI, Ok_chkA, h41, Int.toNat_natCast, mo_here_okI (b := 5 * b) (m := m) hN (by omega) hc e1 (by omega) (by omega), bndO_s, Ok_some]
  exact ⟨by omega, by omega, rfl⟩
theorem NR_eq {σ σ' τ τ' : ySt} {o a b m : Nat} (h : NR σ o τ a b m) (e1 : σ' o = σ o) (e2 : σ' (o + 1) = σ (o + 1)) (e3 : τ' a = τ a) : NR σ' o τ' a b m := by
  unfold NR at h ⊢
  rw [e1, e2, e3]
  exact h
theorem RB_eqM {σ τ τ' : ySt} {t : Nat → Int} {n p : Nat} (h : RB σ τ t n) (tm : TM τ' t n p) (h4 : τ' 92 4 = τ 92 4) (h5 : τ' 92 5 = τ 92 5) : RB σ τ' t n := by
  obtain ⟨_, h1, h2, h3⟩ := h
  exact ⟨⟨p, tm⟩, by rw [h4]; exact h1, by rw [h5]; exact h2, by rw [h4]; exact h3⟩
theorem RB_set {σ τ : ySt} {t : Nat → Int} {n : Nat} (h : RB σ τ t n) {i k : Nat} {z : Int} (h1 : i ≠ 92) (h2 : i ≠ 94) : RB σ (yset τ i k z) t n := by
  obtain ⟨⟨p, tm⟩, _⟩ := id h
  refine RB_eqM h (TM_set tm (Or.inl h1) h2) ?_ ?_
  · rw [yset_ne (by omega)]
  · rw [yset_ne (by omega)]
theorem RT_set {σ τ : ySt} {t : Nat → Int} {n p : Nat} (h : RT σ τ t n p) {i k : Nat} {z : Int} (h1 : i ≠ 92) (h2 : i ≠ 94) : RT σ (yset τ i k z) t n p :=
  ⟨h.1, TM_set h.2.1 (Or.inl h1) h2, h.2.2.1, FM_set h.2.2.2 (Or.inl h1)⟩
theorem RT_setC {σ τ : ySt} {t : Nat → Int} {n p : Nat} (h : RT σ τ t n p) {i k : Nat} {z : Int} (h1 : i ≠ 1) (h2 : i ≠ 2) : RT (yset σ i k z) τ t n p :=
  ⟨TC_set h.1 h1 h2, h.2.1, FC_set h.2.2.1 h1, h.2.2.2⟩
def updErr (σ : ySt) (T m : Nat) (w a s v : Int) : ySt := yset (yset (yset (yset (yset σ (T + 11) m w) (T + 12) m a) (T + 13) m s) (T + 14) m v) T 14 (m + 1)
def updErrM (τ : ySt) (b m : Nat) (w a s v : Int) : ySt := yset (yset (yset (yset (yset τ 114 (8 * b + m) w) 115 (8 * b + m) a) 116 (8 * b + m) s) 117 (8 * b + m) v) 99 b (m + 1)
def er4 (I : Int) (ρ : ySt) (v : Int) : Option ySt := chkA 16 I <| bnd (yset ρ 117 I.toNat v) fun σ28 => chkA 2 (σ28 92 41) <| chkI ((σ28 99 ((σ28 92 41)).toNat) + 1) <| chkA 2 (σ28 92 41) <| bnd (yset σ28 99 ((σ28 92 41)).toNat ((σ28 99 ((σ28 92 41)).toNat) + 1)) fun σ33 => some σ33
def er3 (N : Nat) (I : Int) (ρ : ySt) (s : Int) : Option ySt := chkA 16 I <| bnd (yset ρ 116 I.toNat s) fun σ22 => bndR (mo_after N 512970880104 0 999 σ22) fun r25 σ26 => er4 I σ26 r25
def er2 (N : Nat) (I : Int) (ρ : ySt) (a : Int) : Option ySt := chkA 16 I <| bnd (yset ρ 115 I.toNat a) fun σ16 => bndR (mo_after N 126943973305189 1 8 σ16) fun r19 σ20 => er3 N I σ20 r19
def er1 (N : Nat) (I : Int) (ρ : ySt) (w : Int) : Option ySt := chkA 16 I <| bnd (yset ρ 114 I.toNat w) fun σ10 => bndR (mo_placeAt N σ10) fun r13 σ14 => er2 N I σ14 r13
theorem mo_readErrand_eq (N : Nat) (τ : ySt) : mo_readErrand N τ = (chkI (8 * (τ 92 41)) <| chkA 2 (τ 92 41) <| chkI ((8 * (τ 92 41)) + (τ 99 ((τ 92 41)).toNat)) <| bndO (mo_personHere N τ) fun r5 => bndR (mo_told N r5 τ) fun r7 σ8 => er1 N ((8 * (τ 92 41)) + (τ 99 ((τ 92 41)).toNat)) σ8 r7) := rfl
theorem er4_eq {b m ix : Nat} {I : Int} {ρ : ySt} (hb : b < 2) (hm : m < 8) (hI : I = ix) (hx : ix < 16) (e41 : ρ 92 41 = b) (e99 : ρ 99 b = m) (v : Int) : er4 I ρ v = some (yset (yset ρ 117 ix v) 99 b ((m : Int) + 1)) := by
  apply Ok_eq
  have f41 : yset ρ 117 ix v 92 41 = b := by rw [yset_ne (by omega)]; exact e41
  have f99 : yset ρ 117 ix v 99 b = m := by rw [yset_ne (by omega)]; exact e99
  unfold er4
  rw [hI, Int.toNat_natCast, Ok_chkA, Ok_bnd, f41, Int.toNat_natCast, f99, Ok_chkA, Ok_chkI, Ok_chkA, Ok_bnd, Ok_some]
  exact ⟨by omega, by omega, by omega, by omega, rfl⟩
theorem er3_bad {N b m ix : Nat} {I : Int} {ρ : ySt} (hb : b < 2) (hm : m < 8) (hI : I = ix) (hx : ix < 16) (e41 : ρ 92 41 = b) (e99 : ρ 99 b = m) (g : ρ 92 4 ≠ 0) (s : Int) : er3 N I ρ s = some (yset (yset (yset ρ 116 ix s) 117 ix 0) 99 b ((m : Int) + 1)) := by
  apply Ok_eq
  have g2 : yset ρ 116 ix s 92 4 ≠ 0 := by rw [yset_ne (by omega)]; exact g
  unfold er3
  rw [hI, Int.toNat_natCast, Ok_chkA, Ok_bnd, mo_after_quiet g2, bndR_s, er4_eq hb hm rfl hx (by rw [yset_ne (by omega)]; exact e41) (by rw [yset_ne (by omega)]; exact e99), Ok_some]
  exact ⟨by omega, rfl⟩
theorem er2_bad {N b m ix : Nat} {I : Int} {ρ : ySt} (hb : b < 2) (hm : m < 8) (hI : I = ix) (hx : ix < 16) (e41 : ρ 92 41 = b) (e99 : ρ 99 b = m) (g : ρ 92 4 ≠ 0) (a : Int) : er2 N I ρ a = some (yset (yset (yset (yset ρ 115 ix a) 116 ix 1) 117 ix 0) 99 b ((m : Int) + 1)) := by
  apply Ok_eq
  have g2 : yset ρ 115 ix a 92 4 ≠ 0 := by rw [yset_ne (by omega)]; exact g
  unfold er2
  rw [hI, Int.toNat_natCast, Ok_chkA, Ok_bnd, mo_after_quiet g2, bndR_s, er3_bad hb hm rfl hx (by rw [yset_ne (by omega)]; exact e41) (by rw [yset_ne (by omega)]; exact e99) g2, Ok_some]
  exact ⟨by omega, rfl⟩
theorem er1_bad {N b m ix mp : Nat} {I : Int} {ρ : ySt} (hN : 100000 ≤ N) (hb : b < 2) (hm : m < 8) (hI : I = ix) (hx : ix < 16) (e41 : ρ 92 41 = b) (e99 : ρ 99 b = m) (e95 : ρ 95 b = mp) (hmp : mp ≤ 6) (g : ρ 92 4 ≠ 0) (w : Int) : er1 N I ρ w = some (yset (yset (yset (yset (yset ρ 114 ix w) 115 ix 0) 116 ix 1) 117 ix 0) 99 b ((m : Int) + 1)) := by
  apply Ok_eq
  have g2 : yset ρ 114 ix w 92 4 ≠ 0 := by rw [yset_ne (by omega)]; exact g
  unfold er1
  rw [hI, Int.toNat_natCast, Ok_chkA, Ok_bnd, mo_placeAt_quiet hN g2 hb (by rw [yset_ne (by omega)]; exact e41) (by rw [yset_ne (by omega)]; exact e95) hmp, bndR_s, er2_bad hb hm rfl hx (by rw [yset_ne (by omega)]; exact e41) (by rw [yset_ne (by omega)]; exact e99) g2, Ok_some]
  exact ⟨by omega, rfl⟩
theorem updErr_eqC {σ ρ : ySt} (h : eqC σ ρ) {T m : Nat} {w a s v : Int} : eqC (updErr σ T m w a s v) (updErr ρ T m w a s v) := by
  unfold updErr
  exact eqC_set (eqC_set (eqC_set (eqC_set (eqC_set h))))
theorem RT_updErr {σ τ : ySt} {t : Nat → Int} {n p T m : Nat} {w a s v : Int} (hT : T = 13 ∨ T = 33) (h : RT σ τ t n p) : RT (updErr σ T m w a s v) τ t n p := by
  unfold updErr
  exact RT_setC (RT_setC (RT_setC (RT_setC (RT_setC h (by omega) (by omega)) (by omega) (by omega)) (by omega) (by omega)) (by omega) (by omega)) (by omega) (by omega)
theorem erC_ok {T m : Nat} {w a s v : Int} {σ42 : ySt} (hT : T = 13 ∨ T = 33) (y53 : σ42 53 1 = T + 1) (y14 : σ42 T 14 = m) (hm : m < 8) :
    Ok (chkT (σ42 53 1) fun T44 =>
        chkT (σ42 53 1) fun T47 =>
        chkA 8 (σ42 T47 14) <|
        bnd (yset σ42 (T44 + 11) ((σ42 T47 14)).toNat w) fun σ51 =>
        chkT (σ51 53 1) fun T53 =>
        chkT (σ51 53 1) fun T56 =>
        chkA 8 (σ51 T56 14) <|
        bnd (yset σ51 (T53 + 12) ((σ51 T56 14)).toNat a) fun σ60 =>
        chkT (σ60 53 1) fun T62 =>
        chkT (σ60 53 1) fun T65 =>
        chkA 8 (σ60 T65 14) <|
        bnd (yset σ60 (T62 + 13) ((σ60 T65 14)).toNat s) fun σ69 =>
        chkT (σ69 53 1) fun T71 =>
        chkT (σ69 53 1) fun T74 =>
        chkA 8 (σ69 T74 14) <|
        bnd (yset σ69 (T71 + 14) ((σ69 T74 14)).toNat v) fun σ78 =>
        chkT (σ78 53 1) fun T80 =>
        chkI ((σ78 T80 14) + 1) <|
        bnd (yset σ78 T80 14 ((σ78 T80 14) + 1)) fun σ84 =>
        some ((1 : Int), σ84)) (fun r => r = (1, updErr σ42 T m w a s v)) := by
  rw [Ok_chkT_eq hT y53, Ok_chkT_eq hT y53, y14, Ok_chkA, Ok_bnd, Int.toNat_natCast]
  refine ⟨by omega, ?_⟩
  have y53 : yset σ42 (T + 11) m w 53 1 = T + 1 := by rw [yset_ne (by omega)]; exact y53
  have y14 : yset σ42 (T + 11) m w T 14 = m := by rw [yset_ne (by omega)]; exact y14
  rw [Ok_chkT_eq hT y53, Ok_chkT_eq hT y53, y14, Ok_chkA, Ok_bnd, Int.toNat_natCast]
  refine ⟨by omega, ?_⟩
  have y53 : yset (yset σ42 (T + 11) m w) (T + 12) m a 53 1 = T + 1 := by rw [yset_ne (by omega)]; exact y53
  have y14 : yset (yset σ42 (T + 11) m w) (T + 12) m a T 14 = m := by rw [yset_ne (by omega)]; exact y14
  rw [Ok_chkT_eq hT y53, Ok_chkT_eq hT y53, y14, Ok_chkA, Ok_bnd, Int.toNat_natCast]
  refine ⟨by omega, ?_⟩
  have y53 : yset (yset (yset σ42 (T + 11) m w) (T + 12) m a) (T + 13) m s 53 1 = T + 1 := by rw [yset_ne (by omega)]; exact y53
  have y14 : yset (yset (yset σ42 (T + 11) m w) (T + 12) m a) (T + 13) m s T 14 = m := by rw [yset_ne (by omega)]; exact y14
  rw [Ok_chkT_eq hT y53, Ok_chkT_eq hT y53, y14, Ok_chkA, Ok_bnd, Int.toNat_natCast]
  refine ⟨by omega, ?_⟩
  have y53 : yset (yset (yset (yset σ42 (T + 11) m w) (T + 12) m a) (T + 13) m s) (T + 14) m v 53 1 = T + 1 := by rw [yset_ne (by omega)]; exact y53
  have y14 : yset (yset (yset (yset σ42 (T + 11) m w) (T + 12) m a) (T + 13) m s) (T + 14) m v T 14 = m := by rw [yset_ne (by omega)]; exact y14
  rw [Ok_chkT_eq hT y53, y14, Ok_chkI, Ok_bnd, Ok_some]
  exact ⟨by omega, rfl⟩
theorem L_errand {N n p T b mp mq m : Nat} {σ τ : ySt} {t : Nat → Int} (hN : 100000 ≤ N) (hT : T = 13 ∨ T = 33) (hb : b < 2)
    (tc : TC σ t n p) (fc : FC σ 0 (-1)) (tm : TM τ t n (tkE t n p)) (fm : FM τ 0 (-1)) (h53 : σ 53 1 = T + 1) (h41 : τ 92 41 = b)
    (NP : NR σ (T + 1) τ 107 (6 * b) mp) (hmp : mp ≤ 6) (c95 : τ 95 b = mp) (NQ : NR σ (T + 3) τ 108 (5 * b) mq) (hmq : mq ≤ 5) (c97 : τ 97 b = mq)
    (hme : σ T 14 = m) (c99 : τ 99 b = m) (hm : m < 8) :
    Ok (cRd_readErrand N σ) (fun r => Ok (mo_readErrand N τ) (fun τ' =>
      (r.1 = 1 ∧ ∃ (w a s v : Int) (q : Nat), (0 ≤ w ∧ w < mq) ∧ (0 ≤ a ∧ a < mp) ∧ (1 ≤ s ∧ s ≤ 8) ∧ (0 ≤ v ∧ v ≤ 999) ∧ RT r.2 τ' t n q ∧ eqC r.2 (updErr σ T m w a s v) ∧ eqM τ' (updErrM τ b m w a s v)) ∨
      (r.1 = 0 ∧ RB r.2 τ' t n ∧ eqC r.2 σ ∧ ∃ w a s v : Int, eqM τ' (updErrM τ b m w a s v)))) := by
  have hkd := yKd_nm T hT
  have hix : ((8 : Int) * (b : Int) + (m : Int)).toNat = 8 * b + m := by omega
  unfold cRd_readErrand
  rw [Ok_chkT_eq hT h53, hme]
  simp only [Ok_bnd]
  rw [Ok_ite]
  refine ⟨fun _ => ?_, fun q => by omega⟩
  rw [Ok_bndR]
  refine (cRd_start_ok hN tc).mono ?_
  rintro ⟨r1, σ1⟩ ⟨a1, a2, a3, a4, a5⟩
  dsimp only at a1 a2 a3 a4 a5 ⊢
  subst a1
  have rt : RT σ1 τ t n (tkE t n p) := ⟨a3, tm, FC_of fc a4 a5, fm⟩
  rw [if_pos (by decide), Ok_chkT_eq (T := T) hT (by rw [a2.1 53 (by decide)]; exact h53), Ok_swap]
  rw [mo_readErrand_eq, h41, Int.toNat_natCast, c99, Ok_chkI, Ok_chkA, Ok_chkI, mo_personHere_ok hN hb h41 c97 hmq, bndO_s]
  refine ⟨by omega, by omega, by omega, ?_⟩
  have hI : ((8 : Int) * (b : Int) + (m : Int)) = ((8 * b + m : Nat) : Int) := by omega
  rw [hI]
  clear hix
  have hx : 8 * b + m < 16 := by omega
  have G4 : ∀ {ρ : ySt} {w a s : Int} (v : Int), eqM ρ (yset (yset (yset τ 114 (8 * b + m) w) 115 (8 * b + m) a) 116 (8 * b + m) s) → eqM (yset (yset ρ 117 (8 * b + m) v) 99 b ((m : Int) + 1)) (updErrM τ b m w a s v) := fun v h3 => eqM_set (eqM_set h3 (by decide)) (by decide)
  have B4 : ∀ {σx ρ : ySt} {w a s : Int} (v : Int), RB σx ρ t n → eqC σx σ → eqM ρ (yset (yset (yset τ 114 (8 * b + m) w) 115 (8 * b + m) a) 116 (8 * b + m) s) → RB σx (yset (yset ρ 117 (8 * b + m) v) 99 b ((m : Int) + 1)) t n ∧ eqC σx σ ∧ ∃ w' a' s' v' : Int, eqM (yset (yset ρ 117 (8 * b + m) v) 99 b ((m : Int) + 1)) (updErrM τ b m w' a' s' v') :=
    fun v h1 h2 h3 => ⟨RB_set (RB_set h1 (by decide) (by decide)) (by decide) (by decide), h2, _, _, _, v, G4 v h3⟩
  generalize 8 * b + m = ix at hx hI G4 B4 ⊢
  rw [Ok_swap]
  refine L_RR _ (L_known hN rt (NR_eq NQ (a2.1 _ (by omega)) (a2.1 _ (by omega)) rfl) (by omega) (by omega) (by omega)) ?_
  rintro w σ2 w' τ2 ⟨c2, m2, d2⟩
  dsimp only at c2 m2 d2 ⊢
  have q41 : ∀ {ρ : ySt}, eqM ρ τ → ρ 92 41 = b ∧ ρ 99 b = m ∧ ρ 95 b = mp := fun h => ⟨(h.2 41 (by omega)).trans h41, by rw [h.1 99 (by decide)]; exact c99, by rw [h.1 95 (by decide)]; exact c95⟩
  have k2 : eqC σ2 σ := eqC_tr c2 (eqC_of a2)
  rcases d2 with ⟨w0, w1, rfl, rt2⟩ | ⟨w0, w1, w2, rb⟩
  · rw [if_neg (by omega)]
    have z1 := q41 m2
    unfold er1
    rw [Int.toNat_natCast, Ok_swap, Ok_chkA, Ok_bnd]
    refine ⟨by omega, ?_⟩
    have rt2' : RT σ2 (yset τ2 114 ix w') t n (tkE t n (tkE t n p)) := RT_set rt2 (by decide) (by decide)
    unfold mo_placeAt
    rw [isW_at_ rt2'.2.1, bndO_s, bndR_bndO, Ok_swap]
    refine L_RO _ (L_pass hN rt2' 105) ?_
    rintro r σ3 τ3 ⟨c3, m3, d3⟩
    dsimp only at c3 m3 d3 ⊢
    have k3 : eqC σ3 σ := eqC_tr c3 k2
    have n3 : eqM τ3 (yset τ 114 ix w') := eqM_tr m3 (eqM_set m2 (by decide))
    have z3 : τ3 92 41 = b ∧ τ3 99 b = m ∧ τ3 95 b = mp := ⟨by rw [n3.2 41 (by omega), yset_ne (by omega)]; exact h41, by rw [n3.1 99 (by decide), yset_ne (by omega)]; exact c99, by rw [n3.1 95 (by decide), yset_ne (by omega)]; exact c95⟩
    rw [mo_placeHere_ok hN hb z3.1 z3.2.2 hmp, bndO_s]
    rcases d3 with ⟨r1, rt3⟩ | ⟨r0, rb⟩
    · rw [if_pos (by omega), Ok_chkT_eq (T := T) hT (by rw [k3 53 (by decide)]; exact h53), bndR_bndR]
      refine L_RR _ (L_known hN rt3 (NR_eq NP (k3 _ (by omega)) (k3 _ (by omega)) (by rw [n3.1 107 (by decide), yset_off _ (by decide)])) (by omega) (by omega) (by omega)) ?_
      rintro a σ4 a' τ4 ⟨c4, m4, d4⟩
      dsimp only at c4 m4 d4 ⊢
      rw [bndR_s]
      have k4 : eqC σ4 σ := eqC_tr c4 k3
      have n4 : eqM τ4 (yset τ 114 ix w') := eqM_tr m4 n3
      have z4 : τ4 92 41 = b ∧ τ4 99 b = m := ⟨by rw [n4.2 41 (by omega), yset_ne (by omega)]; exact h41, by rw [n4.1 99 (by decide), yset_ne (by omega)]; exact c99⟩
      rcases d4 with ⟨a0, a1, rfl, rt4⟩ | ⟨a0, a1, a2, rb⟩
      · rw [if_neg (by omega)]
        unfold er2
        rw [Int.toNat_natCast, Ok_swap, Ok_chkA, Ok_bnd]
        refine ⟨by omega, ?_⟩
        have rt4' : RT σ4 (yset τ4 115 ix a') t n _ := RT_set rt4 (by decide) (by decide)
        unfold mo_after
        rw [isW_stroke rt4'.2.1, bndO_s, bndR_bndO, Ok_swap]
        refine L_RO _ (L_pass hN rt4' 109) ?_
        rintro r5 σ5 τ5 ⟨c5, m5, d5⟩
        dsimp only at c5 m5 d5 ⊢
        have k5 : eqC σ5 σ := eqC_tr c5 k4
        have n5 : eqM τ5 (yset (yset τ 114 ix w') 115 ix a') := eqM_tr m5 (eqM_set n4 (by decide))
        have z5 : τ5 92 41 = b ∧ τ5 99 b = m := ⟨by rw [n5.2 41 (by omega), yset_ne (by omega), yset_ne (by omega)]; exact h41, by rw [n5.1 99 (by decide), yset_ne (by omega), yset_ne (by omega)]; exact c99⟩
        rcases d5 with ⟨r1, rt5⟩ | ⟨r0, rb⟩
        · rw [if_pos (by omega), bndR_bndR]
          refine L_RR _ (L_num hN rt5 1 8 (by decide)) ?_
          rintro s σ6 s' τ6 ⟨c6, m6, d6⟩
          dsimp only at c6 m6 d6 ⊢
          rw [bndR_s]
          have k6 : eqC σ6 σ := eqC_tr c6 k5
          have n6 : eqM τ6 (yset (yset τ 114 ix w') 115 ix a') := eqM_tr m6 n5
          have z6 : τ6 92 41 = b ∧ τ6 99 b = m := ⟨by rw [n6.2 41 (by omega), yset_ne (by omega), yset_ne (by omega)]; exact h41, by rw [n6.1 99 (by decide), yset_ne (by omega), yset_ne (by omega)]; exact c99⟩
          rcases d6 with ⟨s0, s1, rfl, rt6⟩ | ⟨s0, s1, rb⟩
          · rw [if_neg (by omega)]
            unfold er3
            rw [Int.toNat_natCast, Ok_swap, Ok_chkA, Ok_bnd]
            refine ⟨by omega, ?_⟩
            have rt6' : RT σ6 (yset τ6 116 ix s') t n _ := RT_set rt6 (by decide) (by decide)
            unfold mo_after
            rw [isW_worth rt6'.2.1, bndO_s, bndR_bndO, Ok_swap]
            refine L_RO _ (L_pass hN rt6' 110) ?_
            rintro r7 σ7 τ7 ⟨c7, m7, d7⟩
            dsimp only at c7 m7 d7 ⊢
            have k7 : eqC σ7 σ := eqC_tr c7 k6
            have n7 : eqM τ7 (yset (yset (yset τ 114 ix w') 115 ix a') 116 ix s') := eqM_tr m7 (eqM_set n6 (by decide))
            have z7 : τ7 92 41 = b ∧ τ7 99 b = m := ⟨by rw [n7.2 41 (by omega), yset_ne (by omega), yset_ne (by omega), yset_ne (by omega)]; exact h41, by rw [n7.1 99 (by decide), yset_ne (by omega), yset_ne (by omega), yset_ne (by omega)]; exact c99⟩
            rcases d7 with ⟨r1, rt7⟩ | ⟨r0, rb⟩
            · rw [if_pos (by omega), bndR_bndR]
              refine L_RR _ (L_num hN rt7 0 999 (by decide)) ?_
              rintro v σ8 v' τ8 ⟨c8, m8, d8⟩
              dsimp only at c8 m8 d8 ⊢
              rw [bndR_s]
              have k8 : eqC σ8 σ := eqC_tr c8 k7
              have n8 : eqM τ8 (yset (yset (yset τ 114 ix w') 115 ix a') 116 ix s') := eqM_tr m8 n7
              have z8 : τ8 92 41 = b ∧ τ8 99 b = m := ⟨by rw [n8.2 41 (by omega), yset_ne (by omega), yset_ne (by omega), yset_ne (by omega)]; exact h41, by rw [n8.1 99 (by decide), yset_ne (by omega), yset_ne (by omega), yset_ne (by omega)]; exact c99⟩
              rw [er4_eq hb hm rfl hx z8.1 z8.2]
              rcases d8 with ⟨v0, v1, rfl, rt8⟩ | ⟨v0, v1, rb⟩
              · have y53 : σ8 53 1 = T + 1 := by rw [k8 53 (by decide)]; exact h53
                have y14 : σ8 T 14 = m := by rw [k8 T (by omega)]; exact hme
                have rt9 : RT (updErr σ8 T m w' a' s' v') (yset (yset τ8 117 ix v') 99 b ((m : Int) + 1)) t n _ := RT_set (RT_set (RT_updErr hT rt8) (by decide) (by decide)) (by decide) (by decide)
                have eq9 : eqC (updErr σ8 T m w' a' s' v') (updErr σ T m w' a' s' v') := updErr_eqC k8
                have em9 := G4 v' n8
                rw [if_pos (by omega)]
                refine (erC_ok hT y53 y14 hm).mono ?_
                rintro r rfl
                rw [Ok_some]
                exact Or.inl ⟨rfl, w', a', s', v', _, ⟨w0, w1⟩, ⟨a0, a1⟩, ⟨s0, s1⟩, ⟨v0, v1⟩, rt9, eq9, em9⟩
              · rw [if_neg (by omega), Ok_some, Ok_some]
                exact Or.inr ⟨rfl, B4 v' rb k8 n8⟩
            · rw [if_neg (by omega), Ok_some, mo_numeral_quiet rb.2.2.2, bndR_s, bndR_s, er4_eq hb hm rfl hx z7.1 z7.2, Ok_some]
              exact Or.inr ⟨rfl, B4 0 rb k7 n7⟩
          · rw [if_pos s0, Ok_some, er3_bad hb hm rfl hx z6.1 z6.2 rb.2.2.2, Ok_some]
            exact Or.inr ⟨rfl, B4 0 (RB_set rb (by decide) (by decide)) k6 (eqM_set n6 (by decide))⟩
        · rw [if_neg (by omega), Ok_some, mo_numeral_quiet rb.2.2.2, bndR_s, bndR_s, er3_bad hb hm rfl hx z5.1 z5.2 rb.2.2.2, Ok_some]
          exact Or.inr ⟨rfl, B4 0 (RB_set rb (by decide) (by decide)) k5 (eqM_set n5 (by decide))⟩
      · rw [if_pos a0, Ok_some, er2_bad hb hm rfl hx z4.1 z4.2 rb.2.2.2, Ok_some]
        exact Or.inr ⟨rfl, B4 0 (RB_set (RB_set rb (by decide) (by decide)) (by decide) (by decide)) k4 (eqM_set (eqM_set n4 (by decide)) (by decide))⟩
    · rw [if_neg (by omega), Ok_some, mo_told_quiet rb.2.2.2, bndR_s, bndR_s, er2_bad hb hm rfl hx z3.1 z3.2.1 rb.2.2.2, Ok_some]
      exact Or.inr ⟨rfl, B4 0 (RB_set (RB_set rb (by decide) (by decide)) (by decide) (by decide)) k3 (eqM_set (eqM_set n3 (by decide)) (by decide))⟩
  · rw [if_pos w0, Ok_some]
    have z1 := q41 m2
    rw [er1_bad hN hb hm rfl hx z1.1 z1.2.1 z1.2.2 hmp rb.2.2.2, Ok_some]
    exact Or.inr ⟨rfl, B4 0 (RB_set (RB_set (RB_set rb (by decide) (by decide)) (by decide) (by decide)) (by decide) (by decide)) k2 (eqM_set (eqM_set (eqM_set m2 (by decide)) (by decide)) (by decide))⟩
