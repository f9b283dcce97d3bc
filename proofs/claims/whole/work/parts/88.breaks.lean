/-! breaks, in both -/
def bK (σ : ySt) (T mp mq me md L S hr a : Nat) (s : Nat) : Int := bestZ σ T mp mq me md L S (a : Int) ((1 : Nat) : Int) (hr : Int) (s : Int) (-1) (fun u v => σ (T + 15) (6 * u + v))
def bkF (g : Nat → Int) : Nat → Int × Int
  | 0 => (-1000000, -1000000)
  | k + 1 => if (bkF g k).1 < g (k + 1) then (g (k + 1), ((k + 1 : Nat) : Int)) else bkF g k
theorem bkF_rg {g : Nat → Int} : ∀ k : Nat, (∀ s, 1 ≤ s → s ≤ k → -1000000 ≤ g s ∧ g s ≤ 200000) → -1000000 ≤ (bkF g k).1 ∧ (bkF g k).1 ≤ 200000
  | 0, _ => ⟨show (-1000000 : Int) ≤ -1000000 by decide, show (-1000000 : Int) ≤ 200000 by decide⟩
  | k + 1, h => by
    have ih := bkF_rg k (fun s s1 s2 => h s s1 (by omega))
    have hk := h (k + 1) (by omega) (Nat.le_refl _)
    unfold bkF
    by_cases c : (bkF g k).1 < g (k + 1)
    · rw [if_pos c]
      exact hk
    · rw [if_neg c]
      exact ih
theorem bK_of {σ σ' : ySt} {T mp mq me md L S hr a s : Nat} (e : ∀ i, T ≤ i → i ≤ T + 19 → σ' i = σ i) : bK σ' T mp mq me md L S hr a s = bK σ T mp mq me md L S hr a s := by
  unfold bK bestZ late lawB opn rgt gnV eW eD homeV
  rw [e (T + 7) (by omega) (by omega), e (T + 8) (by omega) (by omega), e (T + 9) (by omega) (by omega), e (T + 10) (by omega) (by omega), e (T + 11) (by omega) (by omega), e (T + 12) (by omega) (by omega), e (T + 13) (by omega) (by omega), e (T + 14) (by omega) (by omega), e (T + 15) (by omega) (by omega), e (T + 18) (by omega) (by omega)]
theorem b32or_nat {x y : Nat} (hx : x < 1073741824) (hy : y < 1073741824) : b32or (x : Int) (y : Int) = ((x ||| y : Nat) : Int) := by
  unfold b32or
  have e : (Int32.ofInt (x : Int) ||| Int32.ofInt (y : Int)) = Int32.ofBitVec ((Int32.ofInt (x : Int)).toBitVec ||| (Int32.ofInt (y : Int)).toBitVec) := rfl
  have e1 : (Int32.ofInt (x : Int)).toBitVec.toNat = x := by rw [i32_nat]; omega
  have e2 : (Int32.ofInt (y : Int)).toBitVec.toNat = y := by rw [i32_nat]; omega
  have hn : ((Int32.ofInt (x : Int)).toBitVec ||| (Int32.ofInt (y : Int)).toBitVec).toNat = x ||| y := by rw [BitVec.toNat_or, e1, e2]
  have hl : x ||| y < 2 ^ 30 := Nat.or_lt_two_pow hx hy
  rw [e, i32_toInt_of _ (by rw [hn]; omega), hn]
theorem shl_1 (s : Nat) (h1 : 1 ≤ s) (h2 : s ≤ 8) : b32shl 1 (s : Int) = ((2 ^ s : Nat) : Int) ∧ 2 ^ s < 512 := by
  have key : ∀ s : Fin 9, b32shl 1 ((s.val : Nat) : Int) = ((2 ^ s.val : Nat) : Int) ∧ 2 ^ s.val < 512 := by decide +kernel
  exact key ⟨s, by omega⟩
theorem freeStroke_ok {N mp f : Nat} {σ : ySt} {op op' : Nat → Nat → Nat → Bool} (hN : 100000 ≤ N) (hm : mp ≤ 6) (hf : 1 ≤ f ∧ f ≤ 8) (hb : BT σ mp op) (h1 : ∀ s p h, op' s p h = (op s p h || decide (s = f))) :
    Ok (cDy_freeStroke N f σ) (fun σ' => (∀ i, i ≠ 82 → σ' i = σ i) ∧ BT σ' mp op') := by
  have hsh := shl_1 f hf.1 hf.2
  unfold cDy_freeStroke
  rw [hsh.1]
  refine Ok_loopS1 (fun y ν => ∃ k : Nat, y = k ∧ k ≤ 36 ∧ (∀ i, i ≠ 82 → ν i = σ i) ∧ ∀ j, ν 82 j = if j < k then b32or (σ 82 j) ((2 ^ f : Nat) : Int) else σ 82 j) (fun y _ => (36 - y.toNat : Nat)) ?_ N _ _ ⟨0, rfl, by omega, fun _ _ => rfl, fun j => by rw [if_neg (Nat.not_lt_zero j)]⟩ (by omega)
  rintro g y ν ⟨k, rfl, hk, i1, i2⟩ rec
  rw [Ok_ite, Ok_some]
  refine ⟨fun q => ⟨i1, fun p h hp hh => ?_⟩, fun q => ?_⟩
  · obtain ⟨B, b1, b2, b3⟩ := hb p h hp hh
    have hl : B ||| 2 ^ f < 2 ^ 9 := Nat.or_lt_two_pow b2 hsh.2
    refine ⟨B ||| 2 ^ f, ?_, hl, fun s s1 s2 => ?_⟩
    · rw [i2, if_pos (by omega), b1, b32or_nat (by omega) (by omega)]
    · rw [Nat.testBit_or, b3 s s1 s2, h1, Nat.testBit_two_pow]
      by_cases c : s = f
      · simp [c]
      · have c' : ¬ f = s := fun w => c w.symm
        simp [c, c']
  · rw [Ok_chkA, Ok_chkA, Int.toNat_natCast, Ok_bnd, Ok_chkI, i2 k, if_neg (Nat.lt_irrefl k)]
    refine ⟨by omega, by omega, by omega, rec _ _ ⟨k + 1, by omega, by omega, fun i hi => by rw [yset_off i hi]; exact i1 i hi, fun j => ?_⟩ (by omega)⟩
    by_cases c : j = k
    · rw [c, yset_at, if_pos (by omega)]
    · rw [yset_ne (by omega), i2 j]
      by_cases c2 : j < k
      · rw [if_pos c2, if_pos (by omega)]
      · rw [if_neg c2, if_neg (by omega)]
def GB (σ : ySt) (T b mp mq me md L S hr a s : Nat) : Prop := ∃ τs : ySt, ¬ (decide (0 < (a : Int)) && late σ T me S ((1 : Nat) : Int)) = true → MB σ τs T b mp mq me md L S (a : Int) ((1 : Nat) : Int) (hr : Int) (s : Int) (-1) (fun u v => σ (T + 15) (6 * u + v))
theorem bK_rg {σ : ySt} {T b mp mq me md L S hr a s : Nat} (hS : S ≤ 8) (hv : ∀ n, n < mq → homeV σ T n < mp) (h : GB σ T b mp mq me md L S hr a s) : -1000000 ≤ bK σ T mp mq me md L S hr a s ∧ bK σ T mp mq me md L S hr a s ≤ 200000 := by
  obtain ⟨τs, h⟩ := h
  unfold bK bestZ
  by_cases lt : (decide (0 < (a : Int)) && late σ T me S ((1 : Nat) : Int)) = true
  · rw [if_pos lt]
    omega
  · rw [if_neg lt]
    obtain ⟨Mn, _, _, hbo⟩ := h lt
    have hb := (hbo S _ (Nat.le_refl S) (enc_lt mq hv)).2
    generalize VV mp mq S (wkM (a : Int) (hr : Int) (fun u v => σ (T + 15) (6 * u + v))) (lawB σ T L md mp mq (s : Int) (-1)) (fun s y => osum (fun n => gnV σ T me (a : Int) ((1 : Nat) : Int) s n (dg mp mq y n)) 0 mq) S (enc mp (homeV σ T) mq) = o at hb ⊢
    cases o with
    | none => exact ⟨show (-1000000 : Int) ≤ -1000000 by decide, show (-1000000 : Int) ≤ 200000 by decide⟩
    | some z =>
      have := hb z rfl
      show -1000000 ≤ z ∧ z ≤ 200000
      omega
def CK (σ : ySt) (T mp mq me md L S hr : Nat) : Prop := ∀ a : Nat, a < 3 → σ 71 a ≠ 0 → σ 72 a = (bkF (bK σ T mp mq me md L S hr a) S).1 ∧ σ 73 a = (bkF (bK σ T mp mq me md L S hr a) S).2
theorem findBreak_ok {N T b mp mq md me L S hr a : Nat} {W : Nat → Int} {σ : ySt} (hN : 100000 ≤ N) (hTW : TW σ T mp mq me) (ft : FT σ T mp md L W) (h58 : σ 58 0 = (T : Int) + 1) (hS : σ T 17 = S) (hH : σ T 16 = hr) (hck : CK σ T mp mq me md L S hr) (ha : a < 3) (hG : ∀ s, 1 ≤ s → s ≤ S → GB σ T b mp mq me md L S hr a s) :
    Ok (cAn_findBreak N a σ) (fun σ' => σ' 72 a = (bkF (bK σ T mp mq me md L S hr a) S).1 ∧ σ' 73 a = (bkF (bK σ T mp mq me md L S hr a) S).2 ∧ (∀ i, (i < 60 ∨ (64 < i ∧ i < 71) ∨ (73 < i ∧ i < 78) ∨ 82 < i) → σ' i = σ i) ∧ CK σ' T mp mq me md L S hr) := by
  obtain ⟨hT, h1, hm6, h3, hq5, hm, h14, hme, he, hh, h16, h17, h15⟩ := id hTW
  have hv : ∀ n, n < mq → homeV σ T n < mp := fun n hn => by
    have := (hh n hn).1
    unfold homeV
    omega
  obtain ⟨g, hg⟩ : ∃ g, g = bK σ T mp mq me md L S hr a := ⟨_, rfl⟩
  rw [← hg]
  unfold cAn_findBreak
  rw [Ok_chkA, Int.toNat_natCast, Ok_ite, Ok_some]
  refine ⟨by omega, fun c => ?_, fun c => ⟨by rw [hg]; exact (hck a ha c).1, by rw [hg]; exact (hck a ha c).2, fun _ _ => rfl, hck⟩⟩
  rw [Ok_chkA, Ok_bnd, Ok_chkA, Ok_bnd]
  refine ⟨by omega, by omega, ?_⟩
  refine Ok_loopS1 (fun y ν => ∃ k : Nat, y = (k : Int) + 1 ∧ k ≤ S ∧ (∀ i, (i < 60 ∨ (64 < i ∧ i < 72) ∨ (73 < i ∧ i < 78) ∨ 82 < i) → ν i = σ i) ∧ (∀ j, j ≠ a → ν 72 j = σ 72 j ∧ ν 73 j = σ 73 j) ∧ ν 72 a = (bkF g k).1 ∧ ν 73 a = (bkF g k).2) (fun y _ => (S + 1 - y.toNat : Nat)) ?_ N _ _ ⟨0, rfl, by omega, fun i hi => by rw [yset_off i (by omega), yset_off i (by omega)], fun j hj => ⟨by rw [yset_off 72 (by decide), yset_ne (by omega)], by rw [yset_ne (by omega), yset_off 73 (by decide)]⟩, by rw [yset_off 72 (by decide), yset_at]; rfl, by rw [yset_at]; rfl⟩ (by omega)
  rintro rec_ y ν ⟨k, rfl, hk, i1, i2, i3, i4⟩ rec
  have eT : ∀ i, T ≤ i → i ≤ T + 19 → ν i = σ i := fun i x y => i1 i (by omega)
  have n58 : ν 58 0 = (T : Int) + 1 := by rw [i1 58 (by omega)]; exact h58
  rw [chkT_pos hT n58, i1 T (by omega), hS, Ok_ite]
  refine ⟨fun q => ?_, fun q => ?_⟩
  · have hkS : k = S := by omega
    subst hkS
    rw [Ok_chkA, Ok_bnd, Ok_some]
    refine ⟨by omega, by rw [yset_off 72 (by decide)]; exact i3, by rw [yset_off 73 (by decide)]; exact i4, fun i hi => by rw [yset_off i (by omega)]; exact i1 i (by omega), fun a' ha' h71 => ?_⟩
    have eT2 : ∀ i, T ≤ i → i ≤ T + 19 → yset ν 71 a 1 i = σ i := fun i x y => by rw [yset_off i (by omega)]; exact eT i x y
    have eb : bK (yset ν 71 a 1) T mp mq me md L k hr a' = bK σ T mp mq me md L k hr a' := funext fun s => bK_of eT2
    rw [eb, yset_off 72 (by decide), yset_off 73 (by decide)]
    by_cases ca : a' = a
    · rw [ca, ← hg]
      exact ⟨i3, i4⟩
    · rw [yset_ne (by omega), i1 71 (by omega)] at h71
      rw [(i2 a' ca).1, (i2 a' ca).2]
      exact hck a' ha' h71
  · have hkS : k < S := by omega
    have hTWν := TW_of hTW (σ' := ν) (fun i x y => eT i x (by omega))
    have hbits : ∀ p h, p < mp → h < 6 → ∃ B : Nat, ν (T + 16) (6 * p + h) = B ∧ B < 512 ∧ ∀ s, 1 ≤ s → s ≤ 8 → Nat.testBit B s = decide (opn σ T L md (-1) (-1) s p h ≠ 0) := by
      rw [eT (T + 16) (by omega) (by omega)]
      exact bits_pl ft
    have hS8 : S * 1 = S := Nat.mul_one S
    have hH1 : hr / 1 = hr := Nat.div_one hr
    rw [chkT_pos hT n58, Ok_bndO]
    refine (lay_ok (what := (a : Int)) (t := 1) (op := fun s p h => decide (opn σ T L md (-1) (-1) s p h ≠ 0)) hN hTWν (by omega) (by rw [i1 T (by omega)]; exact hS) (by rw [i1 T (by omega)]; exact hH) (by omega) hbits).mono ?_
    rintro σ5 ⟨fr, _, hd, _⟩
    rw [hS8, hH1] at hd
    obtain ⟨d1, d2, d3, d4⟩ := hd (by omega)
    have egn : (fun s n p => gnV ν T me (a : Int) ((1 : Nat) : Int) s n p) = fun s n p => gnV σ T me (a : Int) ((1 : Nat) : Int) s n p := by
      funext s n p
      exact gnV_of (fun i x y => eT i x (by omega))
    have egn2 : (fun s n p => gnV ν T me (a : Int) ((1 : Nat) : Int) ((s : Nat) : Int) n ((p : Nat) : Int)) = fun (s n p : Nat) => gnV σ T me (a : Int) ((1 : Nat) : Int) ((s : Nat) : Int) n ((p : Nat) : Int) := by
      funext s n p
      exact gnV_of (fun i x y => eT i x (by omega))
    have elt : late ν T me S ((1 : Nat) : Int) = late σ T me S ((1 : Nat) : Int) := by
      unfold late
      rw [eT (T + 13) (by omega) (by omega)]
    rw [elt] at d4
    rw [egn2, eT (T + 15) (by omega) (by omega)] at d2
    rw [Ok_bndO, show (k : Int) + 1 = ((k + 1 : Nat) : Int) from rfl]
    refine (freeStroke_ok (f := k + 1) (op' := fun s p h => decide (opn σ T L md ((k + 1 : Nat) : Int) (-1) s p h ≠ 0)) hN hm6 (by omega) d3 (fun s p h => ?_)).mono ?_
    · unfold opn
      rw [if_neg (show ¬ ((s : Int) = -1 ∨ (p : Int) = -1) by omega)]
      by_cases c : s = k + 1
      · rw [if_pos (show (s : Int) = ((k + 1 : Nat) : Int) ∨ (p : Int) = -1 by omega)]
        simp [c]
      · rw [if_neg (show ¬ ((s : Int) = ((k + 1 : Nat) : Int) ∨ (p : Int) = -1) by omega)]
        simp [c]
    rintro σ7 ⟨fr7, bt⟩
    obtain ⟨τs, mb⟩ := hG (k + 1) (by omega) (by omega)
    have rg := bK_rg (by omega) hv (hG (k + 1) (by omega) (by omega))
    rw [Ok_bndR]
    refine (worth_Z (b := b) (W := W) (mw := 0) (τ := τs) hN hTW (by omega) (by omega) mb ((fr7 (T + 8) (by omega)).trans ((fr (T + 8) (by omega) (by omega) (by omega) (by omega) (by omega)).trans (eT (T + 8) (by omega) (by omega)))) (DS_of d1 (fun i hi => fr7 i (by omega))) (DG_of d2 (fun i hi => fr7 i (by omega))) bt (by rw [fr7 78 (by decide)]; exact d4)).mono ?_
    rintro ⟨r, σ8⟩ ⟨x1, x2, _⟩
    have x1' : r = g (k + 1) := by rw [hg]; exact x1
    dsimp only at x2 ⊢
    have f8 : ∀ i, (i < 60 ∨ (64 < i ∧ i < 78) ∨ 82 < i) → σ8 i = ν i := fun i hi => (x2 i (by omega) (by omega) (by omega) (by omega) (by omega)).trans ((fr7 i (by omega)).trans (fr i (by omega) (by omega) (by omega) (by omega) (by omega)))
    rw [Ok_chkA]
    refine ⟨by omega, Ok_jq1 (fun (μ : ySt) => (∀ i, (i < 60 ∨ (64 < i ∧ i < 72) ∨ (73 < i ∧ i < 78) ∨ 82 < i) → μ i = σ i) ∧ (∀ j, j ≠ a → μ 72 j = σ 72 j ∧ μ 73 j = σ 73 j) ∧ μ 72 a = (bkF g (k + 1)).1 ∧ μ 73 a = (bkF g (k + 1)).2) (fun μ hμ => ?_) (fun kk hkk => ?_)⟩
    · rw [Ok_chkI]
      exact ⟨by omega, rec _ _ ⟨k + 1, rfl, by omega, hμ⟩ (by omega)⟩
    · have u72 : σ8 72 = ν 72 := f8 72 (by omega)
      have u73 : σ8 73 = ν 73 := f8 73 (by omega)
      have ub : bkF g (k + 1) = if (bkF g k).1 < g (k + 1) then (g (k + 1), ((k + 1 : Nat) : Int)) else bkF g k := rfl
      have e72 : σ8 72 a = (bkF g k).1 := by rw [u72]; exact i3
      rw [Ok_ite]
      refine ⟨fun c2 => hkk _ ⟨fun i hi => by rw [f8 i (by omega)]; exact i1 i hi, fun j hj => by rw [u72, u73]; exact i2 j hj, ?_, ?_⟩, fun c2 => ?_⟩
      · rw [ub, if_neg (by omega), u72]
        exact i3
      · rw [ub, if_neg (by omega), u73]
        exact i4
      · rw [Ok_chkA, Ok_bnd, Ok_chkA, Ok_bnd]
        refine ⟨by omega, by omega, hkk _ ⟨fun i hi => by rw [yset_off i (by omega), yset_off i (by omega), f8 i (by omega)]; exact i1 i hi, fun j hj => ⟨by rw [yset_off 72 (by decide), yset_ne (by omega), u72]; exact (i2 j hj).1, by rw [yset_ne (by omega), yset_off 73 (by decide), u73]; exact (i2 j hj).2⟩, ?_, ?_⟩⟩
        · rw [ub, if_pos (by omega), yset_off 72 (by decide), yset_at]
          exact x1'
        · rw [ub, if_pos (by omega), yset_at]
