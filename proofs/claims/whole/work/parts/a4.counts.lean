/-! counts that count: the class -/
theorem b64shl_1 (c : Nat) (h : c < 40) : b64shl 1 (c : Int) = ((2 ^ c : Nat) : Int) ∧ 2 ^ c < 1099511627776 := by
  have key : ∀ c : Fin 40, b64shl 1 ((c.val : Nat) : Int) = ((2 ^ c.val : Nat) : Int) ∧ 2 ^ c.val < 1099511627776 := by decide +kernel
  exact key ⟨c, h⟩
theorem b64or_nat {x y : Nat} (hx : x < 2 ^ 62) (hy : y < 2 ^ 62) : b64or (x : Int) (y : Int) = ((x ||| y : Nat) : Int) := by
  unfold b64or
  have e : (Int64.ofInt (x : Int) ||| Int64.ofInt (y : Int)) = Int64.ofBitVec ((Int64.ofInt (x : Int)).toBitVec ||| (Int64.ofInt (y : Int)).toBitVec) := rfl
  have e1 : (Int64.ofInt (x : Int)).toBitVec.toNat = x := by rw [i64_nat]; omega
  have e2 : (Int64.ofInt (y : Int)).toBitVec.toNat = y := by rw [i64_nat]; omega
  have hn : ((Int64.ofInt (x : Int)).toBitVec ||| (Int64.ofInt (y : Int)).toBitVec).toNat = x ||| y := by rw [BitVec.toNat_or, e1, e2]
  have hl : x ||| y < 2 ^ 62 := Nat.or_lt_two_pow hx hy
  rw [e, i64_toInt_of _ (by rw [hn]; omega), hn]
theorem b64and_nat {x y : Nat} (hx : x < 2 ^ 62) (hy : y < 2 ^ 62) : b64and (x : Int) (y : Int) = ((x &&& y : Nat) : Int) := by
  unfold b64and
  have e : (Int64.ofInt (x : Int) &&& Int64.ofInt (y : Int)) = Int64.ofBitVec ((Int64.ofInt (x : Int)).toBitVec &&& (Int64.ofInt (y : Int)).toBitVec) := rfl
  have e1 : (Int64.ofInt (x : Int)).toBitVec.toNat = x := by rw [i64_nat]; omega
  have e2 : (Int64.ofInt (y : Int)).toBitVec.toNat = y := by rw [i64_nat]; omega
  have hn : ((Int64.ofInt (x : Int)).toBitVec &&& (Int64.ofInt (y : Int)).toBitVec).toNat = x &&& y := by rw [BitVec.toNat_and, e1, e2]
  have hl : x &&& y ≤ x := Nat.and_le_left
  rw [e, i64_toInt_of _ (by rw [hn]; omega), hn]
theorem b64shr_nat {x c : Nat} (hx : x < 2 ^ 62) (hc : c < 40) : b64shr (x : Int) (c : Int) = ((x / 2 ^ c : Nat) : Int) := by
  have hi : (Int64.ofInt (x : Int)).toBitVec.toInt = x := by
    have e1 : (Int64.ofInt (x : Int)).toBitVec.toNat = x := by rw [i64_nat]; omega
    rw [BitVec.toInt_eq_toNat_of_lt (by omega), e1]
  have key : ∀ c : Fin 40, ((((Int32.ofInt ((c.val : Nat) : Int)).toInt64 &&& 63).toBitVec.smod 64)).toNat = c.val := by decide +kernel
  have e : b64shr (x : Int) (c : Int) = ((Int64.ofInt (x : Int)).toBitVec.sshiftRight ((((Int32.ofInt (c : Int)).toInt64 &&& 63).toBitVec.smod 64)).toNat).toInt := rfl
  have hk := key ⟨c, hc⟩
  dsimp only at hk
  rw [e, hk, BitVec.toInt_sshiftRight, hi, Int.shiftRight_eq_div_pow]
  rfl
theorem bit64 {x c : Nat} (hx : x < 2 ^ 62) (hc : c < 40) : b64and (b64shr (x : Int) (c : Int)) 1 = if Nat.testBit x c then 1 else 0 := by
  have hd : x / 2 ^ c ≤ x := Nat.div_le_self _ _
  have e1 : b64and ((x / 2 ^ c : Nat) : Int) ((1 : Nat) : Int) = ((x / 2 ^ c &&& 1 : Nat) : Int) := b64and_nat (by omega) (by omega)
  have e2 : x / 2 ^ c &&& 1 = x / 2 ^ c % 2 := Nat.and_two_pow_sub_one_eq_mod _ 1
  rw [b64shr_nat hx hc]
  refine e1.trans ?_
  rw [e2, Nat.testBit_eq_decide_div_mod_eq]
  have h2 : x / 2 ^ c % 2 < 2 := Nat.mod_lt _ (by decide)
  by_cases c1 : x / 2 ^ c % 2 = 1
  · rw [c1]
    rfl
  · rw [show x / 2 ^ c % 2 = 0 by omega]
    rfl
/-- count c counts as known at k -/
def cnB (σ : ySt) (k : Int) (c : Nat) : Bool := decide (σ 7 c ≤ k) && !(decide (σ 8 c ≠ -1) && decide (σ 8 c ≤ k))
theorem knownAt_ok {N nc : Nat} {k : Int} {σ : ySt} (hN : 100000 ≤ N) (h5 : σ 3 5 = nc) (hn : nc ≤ 40) :
    Ok (cCt_knownAt N k σ) (fun r => ∃ A : Nat, r = A ∧ A < 2 ^ nc ∧ ∀ c, c < nc → Nat.testBit A c = cnB σ k c) := by
  unfold cCt_knownAt
  refine Ok_loop2 (fun x y => ∃ c A : Nat, y = c ∧ c ≤ nc ∧ x = A ∧ A < 2 ^ c ∧ ∀ j, j < c → Nat.testBit A j = cnB σ k j) (fun _ y => (nc - y.toNat : Nat)) ?_ N _ _ ⟨0, 0, rfl, by omega, rfl, by decide, fun j hj => absurd hj (Nat.not_lt_zero j)⟩ (by omega)
  rintro g x y ⟨c, A, rfl, hc, rfl, hA, i1⟩ rec
  rw [h5, Ok_ite, Ok_some]
  refine ⟨fun q => by rw [show nc = c by omega]; exact ⟨A, rfl, hA, i1⟩, fun q => ?_⟩
  have hcn : c < nc := by omega
  obtain ⟨p1, p2⟩ := b64shl_1 c (by omega)
  have hA40 : A < 2 ^ 62 := by omega
  rw [Ok_chkA, Int.toNat_natCast]
  refine ⟨by omega, Ok_jq1 (fun y => y = if (decide (σ 8 c ≠ -1) && decide (σ 8 c ≤ k)) = true then 1 else 0) (fun y hy => ?_) (fun kk hkk => ?_)⟩
  · rw [Ok_chkA]
    refine ⟨by omega, Ok_jq1 (fun (y : Int) => ∃ A' : Nat, y = A' ∧ A' < 2 ^ (c + 1) ∧ ∀ j, j < c + 1 → Nat.testBit A' j = cnB σ k j) (fun y hy => ?_) (fun jj hjj => ?_)⟩
    · obtain ⟨A', rfl, a1, a2⟩ := hy
      rw [Ok_chkI]
      exact ⟨by omega, rec _ _ ⟨c + 1, A', rfl, by omega, rfl, a1, a2⟩ (by omega)⟩
    · have h2 : 2 ^ (c + 1) = 2 * 2 ^ c := by rw [Nat.pow_succ, Nat.mul_comm]
      have no : cnB σ k c = false → Ok (jj (A : Int)) (fun r => ∃ A : Nat, r = A ∧ A < 2 ^ nc ∧ ∀ c, c < nc → Nat.testBit A c = cnB σ k c) := fun w => hjj _ ⟨A, rfl, by omega, fun j hj => by
        by_cases e : j = c
        · rw [e, w]
          exact Nat.testBit_lt_two_pow hA
        · exact i1 j (by omega)⟩
      rw [Ok_ite]
      refine ⟨fun q2 => no (by unfold cnB; rw [decide_eq_false (show ¬ σ 7 c ≤ k by omega)]; rfl), fun q2 => ?_⟩
      rw [Ok_ite]
      refine ⟨fun q3 => no ?_, fun q3 => ?_⟩
      · unfold cnB
        rw [decide_eq_true (show σ 7 c ≤ k by omega)]
        by_cases e : (decide (σ 8 c ≠ -1) && decide (σ 8 c ≤ k)) = true
        · rw [e]
          rfl
        · rw [if_neg e] at hy
          exact absurd hy q3
      · have yes : cnB σ k c = true := by
          unfold cnB
          rw [decide_eq_true (show σ 7 c ≤ k by omega)]
          by_cases e : (decide (σ 8 c ≠ -1) && decide (σ 8 c ≤ k)) = true
          · rw [if_pos e] at hy
            exact absurd (Classical.byContradiction q3) (by omega)
          · rw [Bool.eq_false_iff.mpr e]
            rfl
        rw [p1, b64or_nat hA40 (by omega)]
        refine hjj _ ⟨A ||| 2 ^ c, rfl, Nat.or_lt_two_pow (by omega) (by omega), fun j hj => ?_⟩
        rw [Nat.testBit_or, Nat.testBit_two_pow]
        by_cases e : j = c
        · rw [e, yes]
          simp
        · rw [decide_eq_false (show ¬ c = j from fun w => e w.symm), Bool.or_false]
          exact i1 j (by omega)
  · rw [Ok_ite]
    refine ⟨fun q2 => hkk _ ?_, fun q2 => ?_⟩
    · rw [decide_eq_false (show ¬ σ 8 c ≠ -1 from fun w => w q2)]
      rfl
    · rw [Ok_chkA, Ok_ite]
      refine ⟨by omega, fun q3 => hkk _ ?_, fun q3 => hkk _ ?_⟩
      · rw [decide_eq_false (show ¬ σ 8 c ≤ k by omega), Bool.and_false]
        rfl
      · rw [decide_eq_true (show σ 8 c ≠ -1 from q2), decide_eq_true (show σ 8 c ≤ k by omega)]
        rfl
theorem clr_bit (B s : Nat) (hB : B < 512) (hs : s ≤ 8) : b32and (B : Int) (b32xor (b32shl 1 (s : Int)) (-1)) = ((B &&& (511 ^^^ 2 ^ s) : Nat) : Int) ∧ B &&& (511 ^^^ 2 ^ s) < 512 ∧ ∀ i, i ≤ 8 → Nat.testBit (B &&& (511 ^^^ 2 ^ s)) i = (Nat.testBit B i && decide (i ≠ s)) := by
  have key : ∀ s : Fin 9, ∀ B : Fin 512, b32and ((B.val : Nat) : Int) (b32xor (b32shl 1 ((s.val : Nat) : Int)) (-1)) = ((B.val &&& (511 ^^^ 2 ^ s.val) : Nat) : Int) := by decide +kernel
  have key2 : ∀ s i : Fin 9, Nat.testBit (511 ^^^ 2 ^ s.val) i.val = decide (i.val ≠ s.val) := by decide +kernel
  refine ⟨key ⟨s, by omega⟩ ⟨B, hB⟩, Nat.lt_of_le_of_lt Nat.and_le_left hB, fun i hi => ?_⟩
  rw [Nat.testBit_and]
  have := key2 ⟨s, by omega⟩ ⟨i, by omega⟩
  dsimp only at this
  rw [this]
/-- what a count says of so many at a place at a stroke -/
def agP (σ : ySt) (A : Nat) (s p h c : Nat) : Bool := Nat.testBit A c && (decide (σ 4 c = (s : Int)) && (decide (σ 5 c = (p : Int)) && !(decide (σ 6 c = (h : Int)))))
theorem narrow_ok {N nc mp A : Nat} {σ : ySt} {op : Nat → Nat → Nat → Bool} (hN : 100000 ≤ N) (h5 : σ 3 5 = nc) (hn : nc ≤ 40) (hA : A < 2 ^ nc) (hm : mp ≤ 6) (hc : ∀ c, c < nc → (1 ≤ σ 4 c ∧ σ 4 c ≤ 8) ∧ (0 ≤ σ 5 c ∧ σ 5 c < mp) ∧ (0 ≤ σ 6 c ∧ σ 6 c ≤ 5)) (hb : BT σ mp op) :
    Ok (cCt_narrow N A 82 σ) (fun σ' => (∀ i, i ≠ 82 → σ' i = σ i) ∧ BT σ' mp (fun s p h => op s p h && !(bany (agP σ A s p h) nc))) := by
  have kd : (yKd 82).1 = 20 ∧ 82 < 150 := by decide
  have kl : (yKd 82).2 = 36 := by decide
  have hA62 : A < 2 ^ 62 := Nat.lt_of_lt_of_le hA (Nat.pow_le_pow_right (by decide) (by omega))
  unfold cCt_narrow
  rw [Ok_chk]
  refine ⟨kd, Ok_loopS1 (fun y ν => ∃ c : Nat, y = c ∧ c ≤ nc ∧ (∀ i, i ≠ 82 → ν i = σ i) ∧ BT ν mp (fun s p h => op s p h && !(bany (agP σ A s p h) c))) (fun y _ => (nc - y.toNat : Nat)) ?_ N _ _ ⟨0, rfl, by omega, fun _ _ => rfl, fun p h hp hh => by
    obtain ⟨B, b1, b2, b3⟩ := hb p h hp hh
    exact ⟨B, b1, b2, fun s s1 s2 => by rw [b3 s s1 s2]; show op s p h = (op s p h && !false); rw [Bool.not_false, Bool.and_true]⟩⟩ (by omega)⟩
  rintro g y ν ⟨c, rfl, hcn, i1, i2⟩ rec
  rw [i1 3 (by decide), h5, Ok_ite, Ok_some]
  refine ⟨fun q => by rw [show nc = c by omega]; exact ⟨i1, i2⟩, fun q => ?_⟩
  have hcl : c < nc := by omega
  obtain ⟨⟨s1, s2⟩, ⟨p1, p2⟩, ⟨h1, h2⟩⟩ := hc c hcl
  obtain ⟨sc, hsc⟩ : ∃ sc : Nat, σ 4 c = sc := ⟨(σ 4 c).toNat, by omega⟩
  obtain ⟨pc, hpc⟩ : ∃ pc : Nat, σ 5 c = pc := ⟨(σ 5 c).toNat, by omega⟩
  obtain ⟨hc', hhc⟩ : ∃ hc' : Nat, σ 6 c = hc' := ⟨(σ 6 c).toNat, by omega⟩
  have ub : ∀ s p h, bany (agP σ A s p h) (c + 1) = (bany (agP σ A s p h) c || agP σ A s p h c) := fun _ _ _ => rfl
  have agc : ∀ s p h : Nat, agP σ A s p h c = (Nat.testBit A c && (decide (sc = s) && (decide (pc = p) && !(decide (hc' = h))))) := fun s p h => by
    unfold agP
    rw [hsc, hpc, hhc]
    have x1 : decide ((sc : Int) = (s : Int)) = decide (sc = s) := decide_eq_decide.mpr (by omega)
    have x2 : decide ((pc : Int) = (p : Int)) = decide (pc = p) := decide_eq_decide.mpr (by omega)
    have x3 : decide ((hc' : Int) = (h : Int)) = decide (hc' = h) := decide_eq_decide.mpr (by omega)
    rw [x1, x2, x3]
  refine Ok_loopS2 (fun y z μ => y = (c : Int) ∧ ∃ j : Nat, z = j ∧ j ≤ 6 ∧ (∀ i, i ≠ 82 → μ i = σ i) ∧ BT μ mp (fun s p h => (op s p h && !(bany (agP σ A s p h) c)) && !(decide (h < j) && agP σ A s p h c))) (fun _ z _ => (6 - z.toNat : Nat)) ?_ N _ _ _ ⟨rfl, 0, rfl, by omega, i1, fun p h hp hh => by
    obtain ⟨B, b1, b2, b3⟩ := i2 p h hp hh
    refine ⟨B, b1, b2, fun s s1 s2 => ?_⟩
    rw [b3 s s1 s2]
    dsimp only
    rw [decide_eq_false (Nat.not_lt_zero h)]
    simp⟩ (by omega)
  rintro g2 y z μ ⟨rfl, j, rfl, hj, j1, j2⟩ rec2
  refine Ok_jq (j = 6 ∨ Nat.testBit A c = false) (fun w => ?_) (fun kk hkk => ?_)
  · rw [Ok_chkI]
    refine ⟨by omega, rec _ _ ⟨c + 1, rfl, by omega, j1, fun p h hp hh => ?_⟩ (by omega)⟩
    obtain ⟨B, b1, b2, b3⟩ := j2 p h hp hh
    refine ⟨B, b1, b2, fun s s1 s2 => ?_⟩
    rw [b3 s s1 s2]
    dsimp only
    rw [ub]
    rcases w with w | w
    · rw [w, decide_eq_true hh]
      cases op s p h <;> cases bany (agP σ A s p h) c <;> cases agP σ A s p h c <;> rfl
    · rw [agc, w]
      cases op s p h <;> cases bany (agP σ A s p h) c <;> simp
  · rw [Ok_ite]
    refine ⟨fun q2 => hkk (Or.inl (by omega)), fun q2 => ?_⟩
    rw [bit64 hA62 (by omega), Ok_ite]
    refine ⟨fun q3 => hkk (Or.inr ?_), fun q3 => ?_⟩
    · cases e : Nat.testBit A c with
      | false => rfl
      | true =>
        rw [e] at q3
        exact absurd (blcmp_0.mpr rfl) q3
    · have tb : Nat.testBit A c = true := by
        cases e : Nat.testBit A c with
        | true => rfl
        | false =>
          rw [e] at q3
          have := blcmp_0.mp (Classical.byContradiction q3)
          exact absurd this (by decide)
      rw [Ok_chkA, Int.toNat_natCast]
      refine ⟨by omega, Ok_jq1 (fun κ => (∀ i, i ≠ 82 → κ i = σ i) ∧ BT κ mp (fun s p h => (op s p h && !(bany (agP σ A s p h) c)) && !(decide (h < j + 1) && agP σ A s p h c))) (fun κ hκ => ?_) (fun k2 hk2 => ?_)⟩
      · rw [Ok_chkI]
        exact ⟨by omega, rec2 _ _ _ ⟨rfl, j + 1, by omega, by omega, hκ.1, hκ.2⟩ (by omega)⟩
      · rw [j1 4 (by decide), j1 5 (by decide), j1 6 (by decide), hsc, hpc, hhc, Ok_ite]
        refine ⟨fun q4 => hk2 _ ⟨j1, fun p h hp hh => ?_⟩, fun q4 => ?_⟩
        · obtain ⟨B, b1, b2, b3⟩ := j2 p h hp hh
          refine ⟨B, b1, b2, fun s s1 s2 => ?_⟩
          rw [b3 s s1 s2]
          dsimp only
          rw [agc]
          by_cases e : h = j
          · have e2 : hc' = h := by omega
            rw [decide_eq_true e2]
            simp
          · rw [show decide (h < j + 1) = decide (h < j) from decide_eq_decide.mpr (by omega)]
        · have ix : ((pc : Int) * 6 + (j : Int)).toNat = 6 * pc + j := by omega
          obtain ⟨B, b1, b2, b3⟩ := j2 pc j (by omega) (by omega)
          obtain ⟨c1, c2, c3⟩ := clr_bit B sc b2 (by omega)
          rw [Ok_chkA, Ok_chkI, Ok_chkI, kl, Ok_chkA, Ok_chkA, Ok_chkA, ix, Ok_bnd, b1, c1]
          refine ⟨by omega, by omega, by omega, by omega, by omega, by omega, hk2 _ ⟨fun i hi => by rw [yset_off i hi]; exact j1 i hi, fun p h hp hh => ?_⟩⟩
          by_cases e : p = pc ∧ h = j
          · rw [e.1, e.2]
            refine ⟨_, yset_at, c2, fun s s1 s2 => ?_⟩
            rw [c3 s s2, b3 s s1 s2]
            dsimp only
            rw [agc, tb, decide_eq_false (Nat.lt_irrefl j), decide_eq_true (show j < j + 1 by omega), decide_eq_true (show pc = pc from rfl), decide_eq_false (show ¬ hc' = j by omega)]
            by_cases e2 : s = sc
            · rw [e2]
              simp
            · rw [decide_eq_true (show s ≠ sc from e2), decide_eq_false (show ¬ sc = s from fun w => e2 w.symm)]
              simp
          · obtain ⟨B', d1, d2, d3⟩ := j2 p h hp hh
            refine ⟨B', by rw [yset_ne (by omega)]; exact d1, d2, fun s s1 s2 => ?_⟩
            rw [d3 s s1 s2]
            dsimp only
            rw [agc]
            by_cases e2 : h = j
            · have e3 : ¬ pc = p := fun w => e ⟨w.symm, e2⟩
              rw [decide_eq_false e3]
              simp
            · rw [show decide (h < j + 1) = decide (h < j) from decide_eq_decide.mpr (by omega)]
/-- the counts of a stroke, in a state -/
def agB (σ : ySt) (mp mq nc A : Nat) (s x : Nat) : Bool := !(bany (fun c => Nat.testBit A c && (decide (σ 4 c = (s : Int)) && !(decide (((cn (dg mp mq x) mq (σ 5 c).toNat : Nat) : Int) = σ 6 c)))) nc)
theorem lawC_narrow {σ : ySt} {mp mq nc A s x : Nat} {op : Nat → Nat → Nat → Bool} (hc : ∀ c, c < nc → (0 ≤ σ 5 c ∧ σ 5 c < mp)) : lawC mp mq (fun s p h => op s p h && !(bany (agP σ A s p h) nc)) s x = (lawC mp mq op s x && agB σ mp mq nc A s x) := by
  have key : lawC mp mq (fun s p h => op s p h && !(bany (agP σ A s p h) nc)) s x = true ↔ (lawC mp mq op s x && agB σ mp mq nc A s x) = true := by
    unfold lawC agB
    rw [Bool.and_eq_true, Bool.not_eq_true', Bool.not_eq_true', Bool.not_eq_true']
    have nb : ∀ (f : Nat → Bool) (m : Nat), bany f m = false ↔ ∀ k, k < m → f k = false := fun f m => by
      constructor
      · intro h k hk
        cases e : f k with
        | false => rfl
        | true =>
          have := (bany_iff m).mpr ⟨k, hk, e⟩
          rw [h] at this
          cases this
      · intro h
        cases e : bany f m with
        | false => rfl
        | true =>
          obtain ⟨k, hk, w⟩ := (bany_iff m).mp e
          rw [h k hk] at w
          cases w
    rw [nb, nb, nb]
    constructor
    · intro h
      refine ⟨fun p hp => ?_, fun c hcn => ?_⟩
      · have := h p hp
        cases e : op s p (cn (dg mp mq x) mq p) with
        | true => rfl
        | false =>
          dsimp only at this
          rw [e] at this
          cases this
      · obtain ⟨p1, p2⟩ := hc c hcn
        obtain ⟨pc, hpc⟩ : ∃ pc : Nat, σ 5 c = pc := ⟨(σ 5 c).toNat, by omega⟩
        have := h pc (by omega)
        rw [Bool.not_eq_false', Bool.and_eq_true, Bool.not_eq_true', nb] at this
        have hcc := this.2 c hcn
        unfold agP at hcc
        rw [hpc, Int.toNat_natCast]
        rw [hpc, decide_eq_true (show (pc : Int) = (pc : Int) from rfl), Bool.true_and] at hcc
        have e6 : decide (σ 6 c = ((cn (dg mp mq x) mq pc : Nat) : Int)) = decide (((cn (dg mp mq x) mq pc : Nat) : Int) = σ 6 c) := decide_eq_decide.mpr ⟨fun w => w.symm, fun w => w.symm⟩
        rw [e6] at hcc
        exact hcc
    · rintro ⟨h1, h2⟩ p hp
      have a1 := h1 p hp
      rw [Bool.not_eq_false'] at a1
      rw [Bool.not_eq_false', Bool.and_eq_true, Bool.not_eq_true', nb]
      refine ⟨a1, fun c hcn => ?_⟩
      have a2 := h2 c hcn
      obtain ⟨p1, p2⟩ := hc c hcn
      obtain ⟨pc, hpc⟩ : ∃ pc : Nat, σ 5 c = pc := ⟨(σ 5 c).toNat, by omega⟩
      unfold agP
      rw [hpc, Int.toNat_natCast] at a2
      rw [hpc]
      by_cases e : (pc : Int) = (p : Int)
      · have e2 : pc = p := by omega
        rw [decide_eq_true e, Bool.true_and, ← e2]
        have e6 : decide (σ 6 c = ((cn (dg mp mq x) mq pc : Nat) : Int)) = decide (((cn (dg mp mq x) mq pc : Nat) : Int) = σ 6 c) := decide_eq_decide.mpr ⟨fun w => w.symm, fun w => w.symm⟩
        rw [e6]
        exact a2
      · rw [decide_eq_false e]
        simp
  cases e1 : lawC mp mq (fun s p h => op s p h && !(bany (agP σ A s p h) nc)) s x with
  | true => exact (key.mp e1).symm
  | false =>
    cases e2 : (lawC mp mq op s x && agB σ mp mq nc A s x) with
    | false => rfl
    | true =>
      rw [key.mpr e2] at e1
      cases e1
