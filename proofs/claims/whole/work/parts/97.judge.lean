/-! a told plan judged: the class -/
def fi (f : Nat → Bool) : Nat → Int
  | 0 => -1
  | k + 1 => if fi f k = -1 then (if f k = true then (k : Int) else -1) else fi f k
theorem fi_stop {f : Nat → Bool} {k : Nat} (h : fi f k = -1) (hk : f k = true) : ∀ m : Nat, k < m → fi f m = k
  | 0, hm => absurd hm (Nat.not_lt_zero k)
  | m + 1, hm => by
    unfold fi
    by_cases c : k = m
    · subst c
      rw [if_pos h, if_pos hk]
    · rw [fi_stop h hk m (by omega), if_neg (show ¬ (k : Int) = -1 by omega)]
theorem fi_rg (f : Nat → Bool) : ∀ m : Nat, -1 ≤ fi f m ∧ fi f m < m
  | 0 => ⟨Int.le_refl (-1), show (-1 : Int) < 0 by decide⟩
  | m + 1 => by
    have := fi_rg f m
    unfold fi
    split
    · split <;> omega
    · omega
theorem fi_congr {f g : Nat → Bool} : ∀ m : Nat, (∀ k, k < m → f k = g k) → fi f m = fi g m
  | 0, _ => rfl
  | m + 1, h => by
    unfold fi
    rw [fi_congr m (fun k hk => h k (by omega)), h m (by omega)]
theorem fi_none {f : Nat → Bool} : ∀ m : Nat, fi f m = -1 ↔ ∀ k, k < m → f k = false
  | 0 => ⟨fun _ k hk => absurd hk (Nat.not_lt_zero k), fun _ => rfl⟩
  | m + 1 => by
    have ih := fi_none (f := f) m
    unfold fi
    constructor
    · intro h k hk
      by_cases c : fi f m = -1
      · rw [if_pos c] at h
        by_cases e : k = m
        · subst e
          by_cases q : f k = true
          · rw [if_pos q] at h
            omega
          · exact Bool.eq_false_iff.mpr q
        · exact ih.mp c k (by omega)
      · rw [if_neg c] at h
        exact absurd h c
    · intro h
      rw [if_pos (ih.mpr (fun k hk => h k (by omega))), if_neg (by rw [h m (by omega)]; decide)]
def pv (σ : ySt) (P s n : Nat) : Nat := (σ (P + 1) (5 * s + n)).toNat
def PC (σ : ySt) (P mp mq : Nat) : Prop := (P = 54 ∨ P = 56) ∧ ∀ s n, s ≤ 8 → n < mq → σ (P + 1) (5 * s + n) = ((pv σ P s n : Nat) : Int) ∧ pv σ P s n < mp
def ltB (σ : ySt) (T P s n : Nat) : Bool := decide (σ (T + 15) (6 * pv σ P (s - 1) n + pv σ P s n) > σ T 16)
def wrB (σ : ySt) (T L md P mq s p : Nat) : Bool := decide (rgt σ T L md p (cnt (fun n => σ (P + 1) (5 * s + n)) mq p) s = 0)
def unB (σ : ySt) (T P s k : Nat) : Bool := decide (σ (T + 13) k = s) && !(decide (σ (P + 1) (5 * s + (σ (T + 11) k).toNat) = σ (T + 12) k))
def nJ (J : Int × Int × Int) (a s z : Int) : Int × Int × Int := if J.1 = 0 ∧ z ≠ -1 then (a, s, z) else J
def jd (σ : ySt) (T L md P mp mq me : Nat) : Nat → Int × Int × Int
  | 0 => (0, -1, -1)
  | s + 1 => nJ (nJ (nJ (jd σ T L md P mp mq me s) 1 ((s + 1 : Nat) : Int) (fi (ltB σ T P (s + 1)) mq)) 2 ((s + 1 : Nat) : Int) (fi (wrB σ T L md P mq (s + 1)) mp)) 3 ((s + 1 : Nat) : Int) (fi (unB σ T P (s + 1)) me)
theorem nJ_stay {J : Int × Int × Int} {a s z : Int} (h : J.1 ≠ 0) : nJ J a s z = J := if_neg (fun w => h w.1)
theorem jd_stay {σ : ySt} {T L md P mp mq me k : Nat} (h : (jd σ T L md P mp mq me k).1 ≠ 0) : ∀ m : Nat, k ≤ m → jd σ T L md P mp mq me m = jd σ T L md P mp mq me k
  | 0, hm => by rw [show k = 0 by omega]
  | m + 1, hm => by
    by_cases c : k = m + 1
    · rw [c]
    · have ih := jd_stay h m (by omega)
      show nJ (nJ (nJ (jd σ T L md P mp mq me m) _ _ _) _ _ _) _ _ _ = _
      rw [ih, nJ_stay h, nJ_stay h, nJ_stay h]
theorem nJ_step {J : Int × Int × Int} {a s : Int} {f : Nat → Bool} {x : Nat} (ha : a ≠ 0) : nJ J a s (fi f (x + 1)) = if f x = true ∧ (nJ J a s (fi f x)).1 = 0 then (a, s, (x : Int)) else nJ J a s (fi f x) := by
  have hx : ¬ (x : Int) = -1 := by omega
  have hu : fi f (x + 1) = if fi f x = -1 then (if f x = true then (x : Int) else -1) else fi f x := rfl
  rw [hu]
  unfold nJ
  by_cases c1 : J.1 = 0 <;> by_cases c2 : fi f x = -1 <;> by_cases c3 : f x = true <;> simp [c1, c2, c3, ha, hx]
theorem firstLate_ok {N T P mp mq s : Nat} {σ : ySt} (hN : 100000 ≤ N) (hT : T = 13 ∨ T = 33) (h3 : σ (T + 3) 1 = mq) (hq5 : mq ≤ 5) (hm6 : mp ≤ 6) (hp : PC σ P mp mq) (hs : 1 ≤ s ∧ s ≤ 8) : cPl_firstLate N P T s σ = some (fi (ltB σ T P s) mq) := by
  apply Ok_eq
  unfold cPl_firstLate
  rw [Ok_chk, Ok_chk]
  refine ⟨hp.1, hT, Ok_loop1 (fun y => ∃ k : Nat, y = k ∧ k ≤ mq ∧ fi (ltB σ T P s) k = -1) (fun y => (mq - y.toNat : Nat)) ?_ N _ ⟨0, rfl, by omega, rfl⟩ (by omega)⟩
  rintro g y ⟨k, rfl, hk, i1⟩ rec
  rw [h3, Ok_ite, Ok_some]
  refine ⟨fun q => by rw [show mq = k by omega, i1], fun q => ?_⟩
  have hkm : k < mq := by omega
  obtain ⟨u1, u2⟩ := hp.2 (s - 1) k (by omega) hkm
  obtain ⟨v1, v2⟩ := hp.2 s k (by omega) hkm
  have e1 : (((s : Int) - 1) * 5 + (k : Int)).toNat = 5 * (s - 1) + k := by omega
  have e2 : ((s : Int) * 5 + (k : Int)).toNat = 5 * s + k := by omega
  unfold cPl_placeAt
  rw [chkI_pos (by omega), chk_pos hp.1, chkI_pos (by omega), chkI_pos (by omega), chkA_pos (by omega), bndO_s, chk_pos hp.1, chkI_pos (by omega), chkI_pos (by omega), chkA_pos (by omega), bndO_s, e1, e2, u1, v1, gets_ok hT (by omega) (by omega), bndO_s]
  by_cases c : σ (T + 15) (6 * pv σ P (s - 1) k + pv σ P s k) > σ T 16
  · rw [if_pos c, if_neg (fun w => w rfl), Ok_some, fi_stop i1 (decide_eq_true c) mq hkm]
  · rw [if_neg c, if_pos (show ¬ (1 : Int) = 0 by decide), Ok_chkI]
    refine ⟨by omega, rec _ ⟨k + 1, by omega, by omega, ?_⟩ (by omega)⟩
    unfold fi
    rw [if_pos i1, if_neg (show ¬ ltB σ T P s k = true from fun w => c (of_decide_eq_true w))]
theorem firstWrong_ok {N T P mp mq md L s : Nat} {W : Nat → Int} {σ : ySt} (hN : 100000 ≤ N) (hT : T = 13 ∨ T = 33) (h1 : σ (T + 1) 1 = mp) (hm6 : mp ≤ 6) (h3 : σ (T + 3) 1 = mq) (hq5 : mq ≤ 5) (ft : FT σ T mp md L W) (hp : P = 54 ∨ P = 56) (hs : 1 ≤ s ∧ s ≤ 8) : cPl_firstWrong N P T s σ = some (fi (wrB σ T L md P mq s) mp) := by
  have kd : (yKd (P + 1)).1 = 20 ∧ (yKd (P + 1)).2 = 45 ∧ P + 1 < 150 := by rcases hp with e | e <;> subst e <;> decide +kernel
  apply Ok_eq
  unfold cPl_firstWrong
  rw [Ok_chk, Ok_chk]
  refine ⟨hp, hT, Ok_loop1 (fun y => ∃ k : Nat, y = k ∧ k ≤ mp ∧ fi (wrB σ T L md P mq s) k = -1) (fun y => (mp - y.toNat : Nat)) ?_ N _ ⟨0, rfl, by omega, rfl⟩ (by omega)⟩
  rintro g y ⟨k, rfl, hk, i1⟩ rec
  rw [h1, Ok_ite, Ok_some]
  refine ⟨fun q => by rw [show mp = k by omega, i1], fun q => ?_⟩
  have hkm : k < mp := by omega
  have e1 : (s : Int) * 5 = ((5 * s : Nat) : Int) := by omega
  have hc := cnt_rg (fun n => σ (P + 1) (5 * s + n)) mq k
  obtain ⟨z, hz⟩ : ∃ z : Nat, cnt (fun n => σ (P + 1) (5 * s + n)) mq k = z := ⟨(cnt (fun n => σ (P + 1) (5 * s + n)) mq k).toNat, by omega⟩
  rw [Ok_chkI, e1, cTw_crowd_ok hN hT h3 hq5 ⟨kd.1, kd.2.2⟩ (by rw [kd.2.1]; omega) (by omega), bndO_s, hz, FT_right hT hm6 ft k z s hkm (by omega) hs.1 hs.2, bndO_s]
  refine ⟨by omega, ?_⟩
  by_cases c : rgt σ T L md k z s = 0
  · rw [if_pos c, if_neg (fun w => w rfl), Ok_some, fi_stop i1 (show wrB σ T L md P mq s k = true by unfold wrB; rw [hz]; exact decide_eq_true c) mp hkm]
  · rw [if_neg c, if_pos (show ¬ (1 : Int) = 0 by decide), Ok_chkI]
    refine ⟨by omega, rec _ ⟨k + 1, by omega, by omega, ?_⟩ (by omega)⟩
    unfold fi
    rw [if_pos i1, if_neg (show ¬ wrB σ T L md P mq s k = true by unfold wrB; rw [hz]; exact fun w => c (of_decide_eq_true w))]
theorem firstUndone_ok {N T P mp mq me s : Nat} {σ : ySt} (hN : 100000 ≤ N) (hTW : TW σ T mp mq me) (hp : P = 54 ∨ P = 56) (hs : 1 ≤ s ∧ s ≤ 8) : cPl_firstUndone N P T s σ = some (fi (unB σ T P s) me) := by
  obtain ⟨hT, h1, hm6, h3, hq5, hm, h14, hme, he, hh, h16, h17, h15⟩ := id hTW
  apply Ok_eq
  unfold cPl_firstUndone
  rw [Ok_chk, Ok_chk]
  refine ⟨hp, hT, Ok_loop1 (fun y => ∃ k : Nat, y = k ∧ k ≤ me ∧ fi (unB σ T P s) k = -1) (fun y => (me - y.toNat : Nat)) ?_ N _ ⟨0, rfl, by omega, rfl⟩ (by omega)⟩
  rintro g y ⟨k, rfl, hk, i1⟩ rec
  rw [h14, Ok_ite, Ok_some]
  refine ⟨fun q => by rw [show me = k by omega, i1], fun q => ?_⟩
  have hkm : k < me := by omega
  obtain ⟨e1, e2, e3, e4⟩ := he k hkm
  rw [Ok_chkA, Int.toNat_natCast]
  refine ⟨by omega, Ok_jq (unB σ T P s k = false) (fun w => ?_) (fun jj hjj => ?_)⟩
  · rw [Ok_chkI]
    refine ⟨by omega, rec _ ⟨k + 1, by omega, by omega, ?_⟩ (by omega)⟩
    unfold fi
    rw [if_pos i1, if_neg (by rw [w]; decide)]
  · rw [Ok_ite]
    refine ⟨fun c => hjj ?_, fun c => ?_⟩
    · unfold unB
      rw [decide_eq_false c]
      rfl
    · have c' : σ (T + 13) k = s := Classical.byContradiction c
      have ix : ((s : Int) * 5 + σ (T + 11) k).toNat = 5 * s + (σ (T + 11) k).toNat := by omega
      unfold cPl_placeAt
      rw [Ok_chkA, chk_pos hp, chkI_pos (by omega), chkI_pos (by omega), chkA_pos (by omega), bndO_s, ix, Ok_chkA, Ok_ite]
      refine ⟨by omega, by omega, fun c2 => hjj ?_, fun c2 => ?_⟩
      · unfold unB
        rw [decide_eq_true c', decide_eq_true c2]
        rfl
      · rw [Ok_some, fi_stop i1 ?_ me hkm]
        unfold unB
        rw [decide_eq_true c', decide_eq_false c2]
        rfl
theorem note_ok {P : Nat} {a s z : Int} {σ : ySt} (hp : P = 54 ∨ P = 56) : Ok (cPl_note P a s z σ) (fun σ' => (∀ i, i ≠ P → σ' i = σ i) ∧ (σ' P 1, σ' P 2, σ' P 3) = nJ (σ P 1, σ P 2, σ P 3) a s z) := by
  unfold cPl_note
  rw [Ok_chk, Ok_ite, Ok_some]
  refine ⟨hp, fun c => ⟨fun _ _ => rfl, ?_⟩, fun c => ?_⟩
  · rw [nJ_stay c]
  · have c' : σ P 1 = 0 := Classical.byContradiction c
    rw [Ok_ite, Ok_some]
    refine ⟨fun c2 => ⟨fun _ _ => rfl, ?_⟩, fun c2 => ?_⟩
    · unfold nJ
      rw [if_neg (fun w => w.2 c2)]
    · rw [Ok_bnd, Ok_bnd, Ok_bnd, Ok_some]
      refine ⟨fun i hi => by rw [yset_off i hi, yset_off i hi, yset_off i hi], ?_⟩
      rw [yset_ne (by omega), yset_ne (by omega), yset_at, yset_ne (by omega), yset_at, yset_at]
      unfold nJ
      rw [if_pos ⟨c', c2⟩]
theorem pv_of {σ σ' : ySt} {P : Nat} (e : σ' (P + 1) = σ (P + 1)) (s n : Nat) : pv σ' P s n = pv σ P s n := by
  unfold pv
  rw [e]
theorem ltB_of {σ σ' : ySt} {T P s : Nat} (e : σ' (P + 1) = σ (P + 1)) (f : ∀ i, T ≤ i → i ≤ T + 19 → σ' i = σ i) : ltB σ' T P s = ltB σ T P s := by
  funext n
  unfold ltB
  rw [pv_of e, pv_of e, f T (by omega) (by omega), f (T + 15) (by omega) (by omega)]
theorem wrB_of {σ σ' : ySt} {T L md P mq s : Nat} (e : σ' (P + 1) = σ (P + 1)) (f : ∀ i, T ≤ i → i ≤ T + 19 → σ' i = σ i) : wrB σ' T L md P mq s = wrB σ T L md P mq s := by
  funext n
  unfold wrB rgt
  rw [e, f (T + 7) (by omega) (by omega), f (T + 10) (by omega) (by omega), f (T + 18) (by omega) (by omega)]
theorem unB_of {σ σ' : ySt} {T P s : Nat} (e : σ' (P + 1) = σ (P + 1)) (f : ∀ i, T ≤ i → i ≤ T + 19 → σ' i = σ i) : unB σ' T P s = unB σ T P s := by
  funext n
  unfold unB
  rw [e, f (T + 11) (by omega) (by omega), f (T + 12) (by omega) (by omega), f (T + 13) (by omega) (by omega)]
theorem jd_of {σ σ' : ySt} {T L md P mp mq me : Nat} (e : σ' (P + 1) = σ (P + 1)) (f : ∀ i, T ≤ i → i ≤ T + 19 → σ' i = σ i) : ∀ s : Nat, jd σ' T L md P mp mq me s = jd σ T L md P mp mq me s
  | 0 => rfl
  | s + 1 => by
    show nJ (nJ (nJ (jd σ' T L md P mp mq me s) _ _ _) _ _ _) _ _ _ = nJ (nJ (nJ (jd σ T L md P mp mq me s) _ _ _) _ _ _) _ _ _
    rw [jd_of e f s, ltB_of e f, wrB_of e f, unB_of e f]
theorem PC_of {σ σ' : ySt} {P mp mq : Nat} (h : PC σ P mp mq) (e : σ' (P + 1) = σ (P + 1)) : PC σ' P mp mq := by
  unfold PC pv at h ⊢
  rw [e]
  exact h
theorem judgeIn_ok {N T P mp mq md me L S : Nat} {W : Nat → Int} {σ : ySt} (hN : 100000 ≤ N) (hTW : TW σ T mp mq me) (ft : FT σ T mp md L W) (hS : σ T 17 = S) (hp : PC σ P mp mq) :
    Ok (cPl_judgeIn N P T σ) (fun σ' => (∀ i, i ≠ P → σ' i = σ i) ∧ (σ' P 1, σ' P 2, σ' P 3) = jd σ T L md P mp mq me S) := by
  obtain ⟨hT, h1, hm6, h3, hq5, hm, h14, hme, he, hh, h16, h17, h15⟩ := id hTW
  have hP := hp.1
  unfold cPl_judgeIn
  rw [Ok_chk, Ok_chk, Ok_bnd, Ok_bnd, Ok_bnd]
  refine ⟨hP, hT, Ok_loopS1 (fun y ν => ∃ k : Nat, y = (k : Int) + 1 ∧ k ≤ S ∧ (∀ i, i ≠ P → ν i = σ i) ∧ (ν P 1, ν P 2, ν P 3) = jd σ T L md P mp mq me k) (fun y _ => (S + 1 - y.toNat : Nat)) ?_ N _ _ ⟨0, rfl, by omega, fun i hi => by rw [yset_off i hi, yset_off i hi, yset_off i hi], by rw [yset_ne (by omega), yset_ne (by omega), yset_at, yset_ne (by omega), yset_at, yset_at]; rfl⟩ (by omega)⟩
  rintro g y ν ⟨k, rfl, hk, i1, i2⟩ rec
  have eT : ∀ i, T ≤ i → i ≤ T + 19 → ν i = σ i := fun i x y => i1 i (by omega)
  have i21 : ν P 1 = (jd σ T L md P mp mq me k).1 := by rw [← i2]
  rw [eT T (by omega) (by omega), hS, Ok_ite, Ok_some]
  refine ⟨fun q => ⟨i1, by rw [i2, show S = k by omega]⟩, fun q => ?_⟩
  rw [Ok_ite, Ok_some]
  refine ⟨fun c => ⟨i1, by rw [i2, jd_stay (by rw [← i21]; exact c) S hk]⟩, fun c => ?_⟩
  have hkS : k + 1 ≤ S := by omega
  have sub : ∀ κ : ySt, (∀ i, i ≠ P → κ i = σ i) → (∀ i, T ≤ i → i ≤ T + 19 → κ i = σ i) ∧ TW κ T mp mq me ∧ FT κ T mp md L W ∧ PC κ P mp mq ∧ κ (P + 1) = σ (P + 1) := fun κ hκ => by
    have x : ∀ i, T ≤ i → i ≤ T + 19 → κ i = σ i := fun i x y => hκ i (by omega)
    refine ⟨x, TW_of hTW (fun i a b => x i a (by omega)), ?_, PC_of hp (hκ _ (by omega)), hκ _ (by omega)⟩
    unfold FT rgt at ft ⊢
    rw [x (T + 15) (by omega) (by omega), x (T + 16) (by omega) (by omega), x (T + 7) (by omega) (by omega), x (T + 18) (by omega) (by omega), x (T + 10) (by omega) (by omega)]
    exact ft
  obtain ⟨a1, a2, a3, a4, a5⟩ := sub ν i1
  rw [show (k : Int) + 1 = ((k + 1 : Nat) : Int) from rfl, firstLate_ok hN hT (by rw [a1 (T + 3) (by omega) (by omega)]; exact h3) hq5 hm6 a4 (by omega), bndO_s, Ok_bndO]
  refine (note_ok hP).mono ?_
  rintro σ1 ⟨f1, n1⟩
  have j1 : ∀ i, i ≠ P → σ1 i = σ i := fun i hi => (f1 i hi).trans (i1 i hi)
  obtain ⟨b1, b2, b3, b4, b5⟩ := sub σ1 j1
  rw [firstWrong_ok hN hT (by rw [b1 (T + 1) (by omega) (by omega)]; exact h1) hm6 (by rw [b1 (T + 3) (by omega) (by omega)]; exact h3) hq5 b3 hP (by omega), bndO_s, Ok_bndO]
  refine (note_ok hP).mono ?_
  rintro σ2 ⟨f2, n2⟩
  have j2 : ∀ i, i ≠ P → σ2 i = σ i := fun i hi => (f2 i hi).trans (j1 i hi)
  obtain ⟨c1, c2, c3, c4, c5⟩ := sub σ2 j2
  rw [firstUndone_ok hN c2 hP (by omega), bndO_s, Ok_bndO]
  refine (note_ok hP).mono ?_
  rintro σ3 ⟨f3, n3⟩
  have j3 : ∀ i, i ≠ P → σ3 i = σ i := fun i hi => (f3 i hi).trans (j2 i hi)
  rw [Ok_chkI]
  refine ⟨by omega, rec _ _ ⟨k + 1, rfl, hkS, j3, ?_⟩ (by omega)⟩
  rw [n3, n2, n1, i2, ltB_of a5 a1, wrB_of b5 b1, unB_of c5 c1]
  rfl
