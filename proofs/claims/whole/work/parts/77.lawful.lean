/-! the class's lawful states -/
theorem b32and_nat {x y : Nat} (hx : x < 2147483648) (hy : y < 2147483648) : b32and (x : Int) (y : Int) = ((x &&& y : Nat) : Int) := by
  unfold b32and
  have e : (Int32.ofInt (x : Int) &&& Int32.ofInt (y : Int)) = Int32.ofBitVec ((Int32.ofInt (x : Int)).toBitVec &&& (Int32.ofInt (y : Int)).toBitVec) := rfl
  have e1 : (Int32.ofInt (x : Int)).toBitVec.toNat = x := by rw [i32_nat]; omega
  have e2 : (Int32.ofInt (y : Int)).toBitVec.toNat = y := by rw [i32_nat]; omega
  have hn : ((Int32.ofInt (x : Int)).toBitVec &&& (Int32.ofInt (y : Int)).toBitVec).toNat = x &&& y := by rw [BitVec.toNat_and, e1, e2]
  have hl : x &&& y ≤ x := Nat.and_le_left
  rw [e, i32_toInt_of _ (by rw [hn]; omega), hn]
theorem shr_k {x : Nat} (hx : x < 2147483648) : b32shr (x : Int) 0 = ((x / 1 : Nat) : Int) ∧ b32shr (x : Int) 3 = ((x / 8 : Nat) : Int) ∧ b32shr (x : Int) 6 = ((x / 64 : Nat) : Int) ∧ b32shr (x : Int) 9 = ((x / 512 : Nat) : Int) ∧ b32shr (x : Int) 12 = ((x / 4096 : Nat) : Int) ∧ b32shr (x : Int) 15 = ((x / 32768 : Nat) : Int) := by
  have hi : (Int32.ofInt (x : Int)).toBitVec.toInt = x := toInt32_id (by omega)
  have key : ∀ k : Nat, ((Int32.ofInt (x : Int)).toBitVec.sshiftRight k).toInt = (x : Int) / (2 ^ k : Nat) := fun k => by
    rw [BitVec.toInt_sshiftRight, hi, Int.shiftRight_eq_div_pow]
  refine ⟨?_, ?_, ?_, ?_, ?_, ?_⟩
  · have e : b32shr (x : Int) 0 = ((Int32.ofInt (x : Int)).toBitVec.sshiftRight 0).toInt := rfl
    rw [e, key]
    omega
  · have e : b32shr (x : Int) 3 = ((Int32.ofInt (x : Int)).toBitVec.sshiftRight 3).toInt := rfl
    rw [e, key]
    omega
  · have e : b32shr (x : Int) 6 = ((Int32.ofInt (x : Int)).toBitVec.sshiftRight 6).toInt := rfl
    rw [e, key]
    omega
  · have e : b32shr (x : Int) 9 = ((Int32.ofInt (x : Int)).toBitVec.sshiftRight 9).toInt := rfl
    rw [e, key]
    omega
  · have e : b32shr (x : Int) 12 = ((Int32.ofInt (x : Int)).toBitVec.sshiftRight 12).toInt := rfl
    rw [e, key]
    omega
  · have e : b32shr (x : Int) 15 = ((Int32.ofInt (x : Int)).toBitVec.sshiftRight 15).toInt := rfl
    rw [e, key]
    omega
theorem and_7 (x : Nat) : x &&& 7 = x % 8 := Nat.and_two_pow_sub_one_eq_mod x 3
/-- crowds of all places in one number -/
def crw (v : Nat → Nat) : Nat → Nat
  | 0 => 0
  | k + 1 => crw v k + 8 ^ v k
def cn (v : Nat → Nat) (k p : Nat) : Nat := (cnt (fun n => ((v n : Nat) : Int)) k p).toNat
theorem cn_int (v : Nat → Nat) (k p : Nat) : ((cn v k p : Nat) : Int) = cnt (fun n => ((v n : Nat) : Int)) k p := by
  have := cnt_rg (fun n => ((v n : Nat) : Int)) k p
  unfold cn
  omega
theorem cn_succ (v : Nat → Nat) (k p : Nat) : cn v (k + 1) p = cn v k p + (if v k = p then 1 else 0) := by
  have h1 := cn_int v (k + 1) p
  have h2 := cn_int v k p
  have h3 : cnt (fun n => ((v n : Nat) : Int)) (k + 1) p = cnt (fun n => ((v n : Nat) : Int)) k p + (if ((v k : Nat) : Int) = (p : Int) then 1 else 0) := rfl
  by_cases c : v k = p
  · rw [if_pos (by omega)] at h3
    rw [if_pos c]
    omega
  · rw [if_neg (by omega)] at h3
    rw [if_neg c]
    omega
theorem crw_eq {v : Nat → Nat} : ∀ k : Nat, (∀ n, n < k → v n < 6) → crw v k = cn v k 0 + 8 * cn v k 1 + 64 * cn v k 2 + 512 * cn v k 3 + 4096 * cn v k 4 + 32768 * cn v k 5
  | 0, _ => rfl
  | k + 1, h => by
    have ih := crw_eq k (fun n hn => h n (by omega))
    have hk := h k (by omega)
    show crw v k + 8 ^ v k = _
    rw [cn_succ, cn_succ, cn_succ, cn_succ, cn_succ, cn_succ, ih]
    have : v k = 0 ∨ v k = 1 ∨ v k = 2 ∨ v k = 3 ∨ v k = 4 ∨ v k = 5 := by omega
    rcases this with e | e | e | e | e | e <;> rw [e] <;> simp only [if_true, if_false, Nat.reduceEqDiff, Nat.reducePow, reduceIte] <;> omega
theorem cn_le (v : Nat → Nat) (k p : Nat) : cn v k p ≤ k := by
  have h := cnt_rg (fun n => ((v n : Nat) : Int)) k p
  have := cn_int v k p
  omega
theorem crw_at {v : Nat → Nat} {k p : Nat} (hv : ∀ n, n < k → v n < 6) (hk : k ≤ 5) (hp : p < 6) : b32and (b32shr ((crw v k : Nat) : Int) (3 * (p : Int))) 7 = ((cn v k p : Nat) : Int) ∧ crw v k < 262144 := by
  have e := crw_eq k hv
  have l0 := cn_le v k 0
  have l1 := cn_le v k 1
  have l2 := cn_le v k 2
  have l3 := cn_le v k 3
  have l4 := cn_le v k 4
  have l5 := cn_le v k 5
  have hb : crw v k < 262144 := by omega
  have hs := shr_k (x := crw v k) (by omega)
  refine ⟨?_, hb⟩
  have fin : ∀ z : Nat, z < 2147483648 → b32and ((z : Nat) : Int) 7 = ((z % 8 : Nat) : Int) := fun z hz => by
    have := b32and_nat (x := z) (y := 7) hz (by decide)
    rw [and_7] at this
    exact this
  have : p = 0 ∨ p = 1 ∨ p = 2 ∨ p = 3 ∨ p = 4 ∨ p = 5 := by omega
  rcases this with rfl | rfl | rfl | rfl | rfl | rfl
  · rw [show (3 : Int) * ((0 : Nat) : Int) = 0 from rfl, hs.1, fin _ (by omega)]
    omega
  · rw [show (3 : Int) * ((1 : Nat) : Int) = 3 from rfl, hs.2.1, fin _ (by omega)]
    omega
  · rw [show (3 : Int) * ((2 : Nat) : Int) = 6 from rfl, hs.2.2.1, fin _ (by omega)]
    omega
  · rw [show (3 : Int) * ((3 : Nat) : Int) = 9 from rfl, hs.2.2.2.1, fin _ (by omega)]
    omega
  · rw [show (3 : Int) * ((4 : Nat) : Int) = 12 from rfl, hs.2.2.2.2.1, fin _ (by omega)]
    omega
  · rw [show (3 : Int) * ((5 : Nat) : Int) = 15 from rfl, hs.2.2.2.2.2, fin _ (by omega)]
    omega
theorem shl_3 (p : Nat) (hp : p < 6) : b32shl 1 (3 * (p : Int)) = ((8 ^ p : Nat) : Int) ∧ 8 ^ p ≤ 32768 := by
  have key : ∀ p : Fin 6, b32shl 1 (3 * ((p.val : Nat) : Int)) = ((8 ^ p.val : Nat) : Int) ∧ 8 ^ p.val ≤ 32768 := by decide +kernel
  exact key ⟨p, hp⟩
/-- the class's day: its town and its states -/
def DS (σ : ySt) (T mp mq : Nat) : Prop := (T = 13 ∨ T = 33) ∧ σ 78 0 = (T : Int) + 1 ∧ σ (T + 1) 1 = mp ∧ mp ≤ 6 ∧ σ (T + 3) 1 = mq ∧ mq ≤ 5 ∧ (0 < mq → 0 < mp) ∧ σ 78 3 = ((mp ^ mq : Nat) : Int) ∧ ∀ n, n < mq → σ 79 n = ((mp ^ (mq - 1 - n) : Nat) : Int)
theorem DS_of {σ σ' : ySt} {T mp mq : Nat} (h : DS σ T mp mq) (e : ∀ i, i = T + 1 ∨ i = T + 3 ∨ i = 78 ∨ i = 79 → σ' i = σ i) : DS σ' T mp mq := by
  unfold DS at h ⊢
  rw [e 78 (by omega), e (T + 1) (by omega), e (T + 3) (by omega), e 79 (by omega)]
  exact h
theorem placeIn_ok {T mp mq x n : Nat} {σ : ySt} (h : DS σ T mp mq) (hn : n < mq) (hx : x < mp ^ mq) : cDy_placeIn x n σ = some ((dg mp mq x n : Nat) : Int) := by
  obtain ⟨hT, h0, h1, hm6, h3, hq5, hm, h783, h79⟩ := h
  have hm0 := hm (by omega)
  have hU : 0 < mp ^ (mq - 1 - n) := Nat.pow_pos hm0
  have hS := pow_le hm6 hq5
  have td : (x : Int).tdiv ((mp ^ (mq - 1 - n) : Nat) : Int) = ((x / mp ^ (mq - 1 - n) : Nat) : Int) := by
    rw [Int.tdiv_eq_ediv_of_nonneg (Int.natCast_nonneg _), ← Int.natCast_ediv]
  have tm : ((x / mp ^ (mq - 1 - n) : Nat) : Int).tmod (mp : Int) = ((dg mp mq x n : Nat) : Int) := by
    rw [Int.tmod_eq_emod_of_nonneg (Int.natCast_nonneg _), ← Int.natCast_emod]
    rfl
  have hl := Nat.div_le_self x (mp ^ (mq - 1 - n))
  have hd : dg mp mq x n < mp := dg_lt hm0
  obtain ⟨qq, hqq⟩ : ∃ qq : Nat, x / mp ^ (mq - 1 - n) = qq := ⟨_, rfl⟩
  rw [hqq] at td tm hl
  unfold cDy_placeIn
  rw [chkA_pos (by omega), chkT_pos hT h0, Int.toNat_natCast, h79 n hn, h1, if_neg (by omega), if_pos (by omega), td, tm, chk_pos (by omega), chkI_pos (by omega), chk_pos (by omega), chkI_pos (by omega)]
theorem crowds_ok {N T mp mq x : Nat} {σ : ySt} (hN : 100000 ≤ N) (h : DS σ T mp mq) (hx : x < mp ^ mq) : cDy_crowds N x σ = some ((crw (dg mp mq x) mq : Nat) : Int) := by
  obtain ⟨hT, h0, h1, hm6, h3, hq5, hm, h783, h79⟩ := id h
  apply Ok_eq
  unfold cDy_crowds
  refine Ok_loop2 (fun c y => ∃ k : Nat, y = k ∧ k ≤ mq ∧ c = ((crw (dg mp mq x) k : Nat) : Int) ∧ crw (dg mp mq x) k ≤ 32768 * k) (fun _ y => (mq - y.toNat : Nat)) ?_ N _ _ ⟨0, rfl, by omega, rfl, Nat.le_refl 0⟩ (by omega)
  rintro g c y ⟨k, rfl, hk, rfl, hc⟩ rec
  rw [chkT_pos hT h0, h3, Ok_ite, Ok_some]
  refine ⟨fun q => by rw [show k = mq from by omega], fun q => ?_⟩
  have hkm : k < mq := by omega
  have hd : dg mp mq x k < mp := dg_lt (hm (by omega))
  have hs := shl_3 (dg mp mq x k) (by omega)
  have e : crw (dg mp mq x) (k + 1) = crw (dg mp mq x) k + 8 ^ dg mp mq x k := rfl
  rw [placeIn_ok h hkm hx, bndO_s, hs.1, Ok_chkI, Ok_chkI, Ok_chkI]
  exact ⟨by omega, by omega, by omega, rec _ _ ⟨k + 1, by omega, by omega, by rw [e]; omega, by rw [e]; omega⟩ (by omega)⟩
/-- bits of what is open -/
def BT (σ : ySt) (mp : Nat) (op : Nat → Nat → Nat → Bool) : Prop := ∀ p h, p < mp → h < 6 → ∃ B : Nat, σ 82 (6 * p + h) = B ∧ B < 512 ∧ ∀ s, 1 ≤ s → s ≤ 8 → Nat.testBit B s = op s p h
def lawC (mp mq : Nat) (op : Nat → Nat → Nat → Bool) (s x : Nat) : Bool := !(bany (fun p => !(op s p (cn (dg mp mq x) mq p))) mp)
theorem layLawful_ok {N T mp mq : Nat} {σ : ySt} {op : Nat → Nat → Nat → Bool} (hN : 100000 ≤ N) (h : DS σ T mp mq) (hb : BT σ mp op) :
    Ok (cDs_layLawful N σ) (fun σ' => (∀ i, i ≠ 61 → σ' i = σ i) ∧ ∀ x, x < mp ^ mq → ∃ B : Nat, σ' 61 x = B ∧ B < 512 ∧ ∀ s, 1 ≤ s → s ≤ 8 → Nat.testBit B s = lawC mp mq op s x) := by
  obtain ⟨hT, h0, h1, hm6, h3, hq5, hm, h783, h79⟩ := id h
  have hS := pow_le hm6 hq5
  unfold cDs_layLawful
  refine Ok_loopS1 (fun y ν => ∃ x : Nat, y = x ∧ x ≤ mp ^ mq ∧ (∀ i, i ≠ 61 → ν i = σ i) ∧ ∀ u, u < x → ∃ B : Nat, ν 61 u = B ∧ B < 512 ∧ ∀ s, 1 ≤ s → s ≤ 8 → Nat.testBit B s = lawC mp mq op s u) (fun y _ => (mp ^ mq - y.toNat : Nat)) ?_ N _ _ ⟨0, rfl, by omega, fun _ _ => rfl, fun u hu => absurd hu (Nat.not_lt_zero u)⟩ (by omega)
  rintro g y ν ⟨x, rfl, hx, i1, i2⟩ rec
  have hν := DS_of h (σ' := ν) (fun i hi => i1 i (by omega))
  rw [i1 78 (by decide), h783, Ok_ite, Ok_some]
  refine ⟨fun q => ⟨i1, fun u hu => i2 u (by omega)⟩, fun q => ?_⟩
  have hxx : x < mp ^ mq := by omega
  have hv : ∀ n, n < mq → dg mp mq x n < 6 := fun n hn => by
    have : dg mp mq x n < mp := dg_lt (hm (by omega))
    omega
  rw [crowds_ok hN hν hxx, bndO_s]
  refine Ok_loopS3 (fun a b c μ => a = (x : Int) ∧ μ = ν ∧ ∃ p B : Nat, c = p ∧ p ≤ mp ∧ b = B ∧ B < 512 ∧ ∀ s, 1 ≤ s → s ≤ 8 → Nat.testBit B s = !(bany (fun p => !(op s p (cn (dg mp mq x) mq p))) p)) (fun _ _ c _ => (mp - c.toNat : Nat)) ?_ N _ _ _ _ ⟨rfl, rfl, 0, 510, rfl, by omega, rfl, by decide, ?_⟩ (by omega)
  · rintro g2 a b c μ ⟨rfl, rfl, p, B, rfl, hp, rfl, hB, hbt⟩ rec2
    rw [chkT_pos hT (by rw [i1 78 (by decide)]; exact h0), i1 (T + 1) (by omega), h1, Ok_ite]
    refine ⟨fun q2 => ?_, fun q2 => ?_⟩
    · have hpm : p = mp := by omega
      subst hpm
      rw [Ok_chkA, Ok_bnd, Ok_chkI, Int.toNat_natCast]
      refine ⟨by omega, by omega, rec _ _ ⟨x + 1, by omega, by omega, fun i hi => by rw [yset_off i hi]; exact i1 i hi, fun u hu => ?_⟩ (by omega)⟩
      by_cases c : u = x
      · rw [c, yset_at]
        exact ⟨B, rfl, hB, hbt⟩
      · rw [yset_ne (by omega)]
        exact i2 u (by omega)
    · have hpm : p < mp := by omega
      have hcr := crw_at (v := dg mp mq x) (k := mq) (p := p) hv hq5 (by omega)
      have hcl := cn_le (dg mp mq x) mq p
      have ix : ((p : Int) * 6 + ((cn (dg mp mq x) mq p : Nat) : Int)).toNat = 6 * p + cn (dg mp mq x) mq p := by omega
      obtain ⟨B2, b1, b2, b3⟩ := hb p (cn (dg mp mq x) mq p) hpm (by omega)
      rw [hcr.1, ix, i1 82 (by decide), b1, b32and_nat (by omega) (by omega), Ok_chkI, Ok_chkI, Ok_chkI, Ok_chkA, Ok_chkI]
      have hand : B &&& B2 ≤ B := Nat.and_le_left
      refine ⟨by omega, by omega, by omega, by omega, by omega, rec2 _ _ _ _ ⟨rfl, rfl, p + 1, B &&& B2, by omega, by omega, rfl, by omega, fun s s1 s2 => ?_⟩ (by omega)⟩
      rw [Nat.testBit_and, hbt s s1 s2, b3 s s1 s2]
      show _ = !(bany (fun p => !(op s p (cn (dg mp mq x) mq p))) p || !(op s p (cn (dg mp mq x) mq p)))
      rw [Bool.not_or, Bool.not_not]
  · intro s s1 s2
    have key : ∀ s : Fin 9, 1 ≤ s.val → Nat.testBit 510 s.val = true := by decide
    exact key ⟨s, by omega⟩ s1
