/-! the reference's states -/
theorem pow_le {m k : Nat} (hm : m ≤ 6) (hk : k ≤ 5) : m ^ k ≤ 7776 :=
  Nat.le_trans (Nat.pow_le_pow_left hm k) (Nat.le_trans (Nat.pow_le_pow_right (by decide) hk) (by decide))
theorem mo_power_ok {N b mp k : Nat} {τ : ySt} (hN : 100000 ≤ N) (h40 : τ 92 40 = b) (hb : b < 2) (h95 : τ 95 b = mp) (hmp : mp ≤ 6) (hk : k ≤ 5) : mo_power N k τ = some ((mp ^ k : Nat) : Int) := by
  apply Ok_eq
  unfold mo_power
  refine Ok_loop2 (fun x y => ∃ j : Nat, y = j ∧ j ≤ k ∧ x = ((mp ^ j : Nat) : Int)) (fun _ y => (k - y.toNat : Nat)) ?_ N _ _ ⟨0, rfl, by omega, by rw [Nat.pow_zero]; rfl⟩ (by omega)
  rintro f x y ⟨j, rfl, hj, rfl⟩ rec
  rw [Ok_ite, Ok_some]
  refine ⟨fun q => by rw [show j = k from by omega], fun q => ?_⟩
  have hp := pow_le (k := j + 1) hmp (by omega)
  have e : ((mp ^ j : Nat) : Int) * (mp : Int) = ((mp ^ (j + 1) : Nat) : Int) := by rw [Nat.pow_succ, Int.natCast_mul]
  rw [mo_placeMany_ok h40 hb h95, bndO_s, e, Ok_chkI, Ok_chkI]
  exact ⟨by omega, by omega, rec _ _ ⟨j + 1, by omega, by omega, rfl⟩ (by omega)⟩
theorem mo_stateMany_ok {N b mp mq : Nat} {τ : ySt} (hN : 100000 ≤ N) (h40 : τ 92 40 = b) (hb : b < 2) (h95 : τ 95 b = mp) (hmp : mp ≤ 6) (h97 : τ 97 b = mq) (hmq : mq ≤ 5) : mo_stateMany N τ = some ((mp ^ mq : Nat) : Int) := by
  unfold mo_stateMany
  rw [mo_personMany_ok h40 hb h97, bndO_s, mo_power_ok hN h40 hb h95 hmp hmq, bndO_s]
theorem cnt_split (f : Nat → Int) (p : Int) (i : Nat) : ∀ j : Nat, cnt f (i + j) p = cnt f i p + cnt (fun k => f (i + k)) j p
  | 0 => by
    show cnt f i p = cnt f i p + 0
    omega
  | j + 1 => by
    show cnt f (i + j) p + (if f (i + j) = p then 1 else 0) = cnt f i p + (cnt (fun k => f (i + k)) j p + (if f (i + j) = p then 1 else 0))
    rw [cnt_split f p i j]
    omega
theorem cnt_first (f : Nat → Int) (p : Int) (i m : Nat) : cnt (fun k => f (i + k)) (m + 1) p = (if f i = p then 1 else 0) + cnt (fun k => f (i + 1 + k)) m p := by
  have h1 := cnt_split (fun k => f (i + k)) p 1 m
  rw [show 1 + m = m + 1 from Nat.add_comm 1 m] at h1
  rw [h1]
  have e : cnt (fun k => f (i + k)) 1 p = (if f i = p then 1 else 0) := by
    show (0 : Int) + (if f (i + 0) = p then 1 else 0) = _
    rw [Nat.add_zero]
    omega
  rw [e]
  congr 1
  exact cnt_congr m p (fun k _ => by show f (i + (1 + k)) = f (i + 1 + k); rw [Nat.add_assoc])
theorem mo_layState_ok {N b mp mq x : Nat} {τ : ySt} (hN : 100000 ≤ N) (h40 : τ 92 40 = b) (hb : b < 2) (h95 : τ 95 b = mp) (hmp : mp ≤ 6) (h97 : τ 97 b = mq) (hmq : mq ≤ 5) (hx : x < mp ^ mq) :
    Ok (mo_layState N x τ) (fun τ' => (∀ i, i ≠ 126 → i ≠ 127 → τ' i = τ i) ∧ (∀ n, n < mq → τ' 126 n = ((dg mp mq x n : Nat) : Int)) ∧ ∀ p : Nat, p < 6 → τ' 127 p = cnt (fun n => ((dg mp mq x n : Nat) : Int)) mq p) := by
  unfold mo_layState
  refine Ok_loopS1 (fun y ρ => ∃ k : Nat, y = k ∧ k ≤ 6 ∧ (∀ i, i ≠ 127 → ρ i = τ i) ∧ ∀ p, p < k → ρ 127 p = 0) (fun y _ => (6 - y.toNat : Nat)) ?_ N _ _ ⟨0, rfl, by omega, fun _ _ => rfl, fun p hp => absurd hp (Nat.not_lt_zero p)⟩ (by omega)
  rintro f y ρ ⟨k, rfl, hk, i1, i2⟩ rec
  rw [Ok_ite]
  refine ⟨fun q => ?_, fun q => ?_⟩
  · rw [mo_personMany_ok (by rw [i1 92 (by decide)]; exact h40) hb (by rw [i1 97 (by decide)]; exact h97), bndO_s, Ok_chkI]
    refine ⟨by omega, ?_⟩
    -- x9 = mq - 1 - j, left = x / mp ^ j
    refine Ok_loopS2 (fun l y ν => ∃ j : Nat, j ≤ mq ∧ y = (mq : Int) - 1 - j ∧ l = ((x / mp ^ j : Nat) : Int) ∧ (∀ i, i ≠ 126 → i ≠ 127 → ν i = τ i) ∧ (∀ n, mq - j ≤ n → n < mq → ν 126 n = ((dg mp mq x n : Nat) : Int)) ∧ ∀ p : Nat, p < 6 → ν 127 p = cnt (fun k => ((dg mp mq x (mq - j + k) : Nat) : Int)) j p) (fun _ y _ => ((y + 1).toNat : Nat)) ?_ N _ _ _ ⟨0, by omega, by omega, by rw [Nat.pow_zero, Nat.div_one], fun i _ a => i1 i a, fun n h1 h2 => by omega, fun p hp => i2 p (by omega)⟩ (by omega)
    rintro g l y ν ⟨j, hj, rfl, rfl, j1, j2, j3⟩ rec2
    rw [Ok_ite, Ok_some]
    refine ⟨fun q2 => ?_, fun q2 => ?_⟩
    · have : j = mq := by omega
      subst this
      refine ⟨j1, fun n hn => j2 n (by omega) hn, fun p hp => ?_⟩
      rw [j3 p hp]
      exact cnt_congr j p (fun n _ => by rw [Nat.sub_self, Nat.zero_add])
    · have hm : 0 < mp := by
        by_cases c : mp = 0
        · rw [c] at hx
          rw [Nat.zero_pow (by omega)] at hx
          omega
        · omega
      have n40 : ∀ ν' : ySt, ν' 92 = ν 92 → ν' 92 40 = b := fun ν' e => by rw [e, j1 92 (by decide) (by decide)]; exact h40
      have n95 : ∀ ν' : ySt, ν' 95 = ν 95 → ν' 95 b = mp := fun ν' e => by rw [e, j1 95 (by decide) (by decide)]; exact h95
      obtain ⟨n, hn⟩ : ∃ n : Nat, (mq : Int) - 1 - (j : Int) = n := ⟨mq - 1 - j, by omega⟩
      have hnj : n = mq - 1 - j := by omega
      have hd : dg mp mq x n = x / mp ^ j % mp := by
        unfold dg
        rw [show mq - 1 - n = j from by omega]
      have hdl : dg mp mq x n < mp := dg_lt hm
      have tm : (((x / mp ^ j : Nat) : Int)).tmod (mp : Int) = ((dg mp mq x n : Nat) : Int) := by
        rw [Int.tmod_eq_emod_of_nonneg (Int.natCast_nonneg _), hd, Int.natCast_emod]
      have td : (((x / mp ^ j : Nat) : Int)).tdiv (mp : Int) = ((x / mp ^ (j + 1) : Nat) : Int) := by
        rw [Int.tdiv_eq_ediv_of_nonneg (Int.natCast_nonneg _), ← Int.natCast_ediv, Nat.div_div_eq_div_mul, Nat.pow_succ]
      have hxp : x ≤ 7776 := by have := pow_le hmp hmq; omega
      have hdv : x / mp ^ (j + 1) ≤ x := Nat.div_le_self _ _
      obtain ⟨qq, hqq⟩ : ∃ qq : Nat, x / mp ^ (j + 1) = qq := ⟨_, rfl⟩
      rw [hqq] at td hdv
      have yat : ∀ S : ySt, ∀ v : Int, yset S 126 n v 126 n = v := fun S v => yset_at
      have c3 := j3 (dg mp mq x n) (by omega)
      have c3r := cnt_rg (fun k => ((dg mp mq x (mq - j + k) : Nat) : Int)) j ((dg mp mq x n : Nat) : Int)
      rw [hn, mo_placeMany_ok (n40 ν rfl) hb (n95 ν rfl), bndO_s, tm, Ok_chk, Ok_chkI, Ok_chkA, Int.toNat_natCast, Ok_bnd, mo_placeMany_ok (n40 _ (yset_off 92 (by decide))) hb (n95 _ (yset_off 95 (by decide))), bndO_s, td, Ok_chk, Ok_chkI, Ok_chkA, yat, Ok_chkA, Int.toNat_natCast, yset_ne (by omega), c3, Ok_chkI, Ok_chkA, Ok_bnd, Ok_chkI]
      refine ⟨by omega, by omega, by omega, by omega, by omega, by omega, by omega, by omega, by omega, by omega, rec2 _ _ _ ⟨j + 1, by omega, by omega, by rw [hqq], fun i h1 h2 => by rw [yset_off i h2, yset_off i h1]; exact j1 i h1 h2, fun n' h1 h2 => ?_, fun p hp => ?_⟩ (by omega)⟩
      · rw [yset_ne (by omega)]
        by_cases c : n' = n
        · rw [c, yset_at]
        · rw [yset_ne (by omega)]
          exact j2 n' (by omega) h2
      · have hc1 := cnt_first (fun k => ((dg mp mq x k : Nat) : Int)) (p : Int) (mq - (j + 1)) j
        rw [show mq - (j + 1) + 1 = mq - j from by omega, show mq - (j + 1) = n from by omega] at hc1
        rw [show mq - (j + 1) = n from by omega, hc1]
        by_cases c : p = dg mp mq x n
        · rw [c, yset_at, if_pos rfl]
          omega
        · rw [yset_ne (by omega), yset_ne (by omega), if_neg (by omega), j3 p hp]
          omega
  · rw [Ok_chkA, Ok_bnd, Ok_chkI, Int.toNat_natCast]
    refine ⟨by omega, by omega, rec _ _ ⟨k + 1, by omega, by omega, fun i hi => by rw [yset_off i hi]; exact i1 i hi, fun p hp => ?_⟩ (by omega)⟩
    by_cases c : p = k
    · rw [c, yset_at]
    · rw [yset_ne (by omega)]
      exact i2 p (by omega)
theorem mo_homeState_ok {N b mp mq : Nat} {τ : ySt} {v : Nat → Nat} (hN : 100000 ≤ N) (h40 : τ 92 40 = b) (hb : b < 2) (h95 : τ 95 b = mp) (hmp : mp ≤ 6) (h97 : τ 97 b = mq) (hmq : mq ≤ 5) (hv : ∀ n, n < mq → v n < mp ∧ τ 111 (5 * b + n) = v n) : mo_homeState N τ = some ((enc mp v mq : Nat) : Int) := by
  apply Ok_eq
  unfold mo_homeState
  refine Ok_loop2 (fun x y => ∃ j : Nat, y = j ∧ j ≤ mq ∧ x = ((enc mp v j : Nat) : Int)) (fun _ y => (mq - y.toNat : Nat)) ?_ N _ _ ⟨0, rfl, by omega, rfl⟩ (by omega)
  rintro f x y ⟨j, rfl, hj, rfl⟩ rec
  rw [mo_personMany_ok h40 hb h97, bndO_s, Ok_ite, Ok_some]
  refine ⟨fun q => by rw [show j = mq from by omega], fun q => ?_⟩
  have hl := enc_lt (m := mp) (v := v) (j + 1) (fun n hn => (hv n (by omega)).1)
  have hp := pow_le (k := j + 1) hmp (by omega)
  have e : ((enc mp v j : Nat) : Int) * (mp : Int) + ((v j : Nat) : Int) = ((enc mp v (j + 1) : Nat) : Int) := by
    show _ = ((enc mp v j * mp + v j : Nat) : Int)
    rw [Int.natCast_add, Int.natCast_mul]
  have hvj := hv j (by omega)
  have ix : (5 * (b : Int) + (j : Int)).toNat = 5 * b + j := by omega
  rw [mo_placeMany_ok h40 hb h95, bndO_s, h40, ix, hvj.2, e, Ok_chkI, Ok_chkI, Ok_chkI, Ok_chkA, Ok_chkI, Ok_chkI]
  exact ⟨by omega, by omega, by omega, by omega, by omega, by omega, rec _ _ ⟨j + 1, by omega, by omega, rfl⟩ (by omega)⟩
/-- a state in which every place is open -/
def lwf (σ : ySt) (T L md mp mq : Nat) (fs fp : Int) (s x : Nat) : Prop := ∀ p, p < mp → opn σ T L md fs fp s p (cnt (fun n => ((dg mp mq x n : Nat) : Int)) mq p).toNat ≠ 0
theorem mo_isLawful_ok {N T b mp mq md L s x : Nat} {fs fp : Int} {σ τ : ySt} (hN : 100000 ≤ N) (h40 : τ 92 40 = b) (hb : b < 2) (h95 : τ 95 b = mp) (hmp : mp ≤ 6) (hmq : mq ≤ 5) (hs : 1 ≤ s ∧ s ≤ 8) (ho : ∀ s p h : Nat, 1 ≤ s → s ≤ 8 → p < mp → h ≤ 5 → τ 125 (48 * (s - 1) + 8 * p + h) = opn σ T L md fs fp s p h) (ht : ∀ p : Nat, p < 6 → τ 127 p = cnt (fun n => ((dg mp mq x n : Nat) : Int)) mq p) :
    Ok (mo_isLawful N s τ) (fun r => (r = 1 ∧ lwf σ T L md mp mq fs fp s x) ∨ (r = 0 ∧ ¬ lwf σ T L md mp mq fs fp s x)) := by
  unfold mo_isLawful
  refine Ok_loop1 (fun y => ∃ p : Nat, y = p ∧ p ≤ mp ∧ ∀ p', p' < p → opn σ T L md fs fp s p' (cnt (fun n => ((dg mp mq x n : Nat) : Int)) mq p').toNat ≠ 0) (fun y => (mp - y.toNat : Nat)) ?_ N _ ⟨0, rfl, by omega, fun p' hp => absurd hp (Nat.not_lt_zero p')⟩ (by omega)
  rintro f y ⟨p, rfl, hp, i1⟩ rec
  rw [mo_placeMany_ok h40 hb h95, bndO_s, Ok_ite, Ok_some]
  refine ⟨fun q => Or.inl ⟨rfl, fun p' hp' => i1 p' (by omega)⟩, fun q => ?_⟩
  have hc := cnt_rg (fun n => ((dg mp mq x n : Nat) : Int)) mq (p : Int)
  obtain ⟨h, hh⟩ : ∃ h : Nat, cnt (fun n => ((dg mp mq x n : Nat) : Int)) mq (p : Int) = h := ⟨(cnt (fun n => ((dg mp mq x n : Nat) : Int)) mq (p : Int)).toNat, by omega⟩
  have ix : (48 * ((s : Int) - 1) + 8 * (p : Int) + (h : Int)).toNat = 48 * (s - 1) + 8 * p + h := by omega
  have hop := ho s p h hs.1 hs.2 (by omega) (by omega)
  rw [Int.toNat_natCast, ht p (by omega), hh, ix, hop, Ok_chkI, Ok_chkI, Ok_chkI, Ok_chkI, Ok_chkA, Ok_chkI, Ok_chkA, Ok_ite]
  refine ⟨by omega, by omega, by omega, by omega, by omega, by omega, by omega, fun q2 => ?_, fun q2 => ?_⟩
  · rw [Ok_chkI]
    refine ⟨by omega, rec _ ⟨p + 1, by omega, by omega, fun p' hp' => ?_⟩ (by omega)⟩
    by_cases c : p' = p
    · rw [c, hh, Int.toNat_natCast]
      exact q2
    · exact i1 p' (by omega)
  · rw [Ok_some]
    refine Or.inr ⟨rfl, fun w => ?_⟩
    have := w p (by omega)
    rw [hh, Int.toNat_natCast] at this
    exact this (Classical.not_not.mp q2)
