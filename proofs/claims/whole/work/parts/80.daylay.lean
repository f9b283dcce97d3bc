/-! the class's day, laid -/
def TW (σ : ySt) (T mp mq me : Nat) : Prop := (T = 13 ∨ T = 33) ∧ σ (T + 1) 1 = mp ∧ mp ≤ 6 ∧ σ (T + 3) 1 = mq ∧ mq ≤ 5 ∧ (0 < mq → 0 < mp) ∧ σ T 14 = me ∧ me ≤ 8 ∧ (∀ k, k < me → (0 ≤ σ (T + 11) k ∧ σ (T + 11) k < mq) ∧ (0 ≤ σ (T + 12) k ∧ σ (T + 12) k < mp) ∧ (1 ≤ σ (T + 13) k ∧ σ (T + 13) k ≤ 8) ∧ (0 ≤ σ (T + 14) k ∧ σ (T + 14) k ≤ 999)) ∧ (∀ n, n < mq → (0 ≤ σ (T + 8) n ∧ σ (T + 8) n < mp) ∧ (0 ≤ σ (T + 9) n ∧ σ (T + 9) n ≤ 99)) ∧ (1 ≤ σ T 16 ∧ σ T 16 ≤ 999) ∧ (1 ≤ σ T 17 ∧ σ T 17 ≤ 8) ∧ ∀ j, j < 36 → 0 ≤ σ (T + 15) j ∧ σ (T + 15) j ≤ 1000000
theorem TW_of {σ σ' : ySt} {T mp mq me : Nat} (h : TW σ T mp mq me) (e : ∀ i, T ≤ i → i ≤ T + 16 → σ' i = σ i) : TW σ' T mp mq me := by
  unfold TW at h ⊢
  rw [e T (by omega) (by omega), e (T + 1) (by omega) (by omega), e (T + 3) (by omega) (by omega), e (T + 8) (by omega) (by omega), e (T + 9) (by omega) (by omega), e (T + 11) (by omega) (by omega), e (T + 12) (by omega) (by omega), e (T + 13) (by omega) (by omega), e (T + 14) (by omega) (by omega), e (T + 15) (by omega) (by omega)]
  exact h
theorem gnV_of {σ σ' : ySt} {T me n : Nat} {what t s p : Int} (e : ∀ i, T ≤ i → i ≤ T + 16 → σ' i = σ i) : gnV σ' T me what t s n p = gnV σ T me what t s n p := by
  unfold gnV eW eD
  rw [e (T + 8) (by omega) (by omega), e (T + 9) (by omega) (by omega), e (T + 11) (by omega) (by omega), e (T + 12) (by omega) (by omega), e (T + 13) (by omega) (by omega), e (T + 14) (by omega) (by omega)]
theorem late_mul {σ : ySt} {T me St t : Nat} (ht : 1 ≤ t) : late σ T me (St * t) (t : Int) = bany (fun k => decide ((St : Int) < σ (T + 13) k)) me := by
  unfold late
  congr 1
  funext k
  have : (((St * t : Nat) : Int) < σ (T + 13) k * (t : Int)) ↔ ((St : Int) < σ (T + 13) k) := by
    rw [Int.natCast_mul]
    exact ⟨fun h => Int.lt_of_mul_lt_mul_right h (by omega), fun h => Int.mul_lt_mul_of_pos_right h (by omega)⟩
  exact decide_eq_decide.mpr this
theorem errandsCanBe_ok {N T mp mq me St : Nat} {σ : ySt} (hN : 100000 ≤ N) (h : TW σ T mp mq me) (h0 : σ 78 0 = (T : Int) + 1) (hSt : σ T 17 = St) : cDy_errandsCanBe N σ = some (if bany (fun k => decide ((St : Int) < σ (T + 13) k)) me then 0 else 1) := by
  obtain ⟨hT, h1, hm6, h3, hq5, hm, h14, hme, he, hh, h16, h17, h15⟩ := id h
  apply Ok_eq
  unfold cDy_errandsCanBe
  refine Ok_loop1 (fun y => ∃ k : Nat, y = k ∧ k ≤ me ∧ ∀ j, j < k → ¬ (St : Int) < σ (T + 13) j) (fun y => (me - y.toNat : Nat)) ?_ N _ ⟨0, rfl, by omega, fun j hj => absurd hj (Nat.not_lt_zero j)⟩ (by omega)
  rintro g y ⟨k, rfl, hk, i1⟩ rec
  rw [chkT_pos hT h0, h14, Ok_ite, Ok_some]
  refine ⟨fun q => ?_, fun q => ?_⟩
  · have : k = me := by omega
    rw [if_neg (fun w => by
      obtain ⟨j, hj, e⟩ := (bany_iff me).mp w
      exact i1 j (by omega) (of_decide_eq_true e))]
  · rw [chkT_pos hT h0, chkT_pos hT h0, hSt, Int.toNat_natCast, Ok_chkA, Ok_ite, Ok_chkI, Ok_some]
    refine ⟨by omega, fun c => ⟨by omega, rec _ ⟨k + 1, by omega, by omega, fun j hj => ?_⟩ (by omega)⟩, fun c => ?_⟩
    · by_cases cj : j = k
      · rw [cj]
        omega
      · exact i1 j (by omega)
    · rw [if_pos ((bany_iff me).mpr ⟨k, by omega, decide_eq_true (by omega)⟩)]
theorem layStates_ok {N T mp mq me : Nat} {σ : ySt} (hN : 100000 ≤ N) (h : TW σ T mp mq me) (h0 : σ 78 0 = (T : Int) + 1) : Ok (cDy_layStates N σ) (fun σ' => (∀ i, i ≠ 78 → i ≠ 79 → σ' i = σ i) ∧ (∀ k, k ≠ 3 → σ' 78 k = σ 78 k) ∧ DS σ' T mp mq) := by
  obtain ⟨hT, h1, hm6, h3, hq5, hm, h14, hme, he, hh, h16, h17, h15⟩ := id h
  unfold cDy_layStates
  rw [Ok_bnd, chkT_pos hT (by rw [yset_ne (by omega)]; exact h0), yset_off (T + 3) (by omega), h3, Ok_chkI]
  refine ⟨by omega, Ok_loopS1 (fun y ν => ∃ j : Nat, y = (mq : Int) - 1 - j ∧ j ≤ mq ∧ (∀ i, i ≠ 78 → i ≠ 79 → ν i = σ i) ∧ (∀ k, k ≠ 3 → ν 78 k = σ 78 k) ∧ ν 78 3 = ((mp ^ j : Nat) : Int) ∧ ∀ n, n < mq → mq - j ≤ n → ν 79 n = ((mp ^ (mq - 1 - n) : Nat) : Int)) (fun y _ => (y + 1).toNat) ?_ N _ _ ⟨0, by omega, by omega, fun i a _ => yset_off i a, fun k hk => yset_ne (by omega), by rw [yset_at]; rfl, fun n a b => by omega⟩ (by omega)⟩
  rintro g y ν ⟨j, rfl, hj, i1, i2, i3, i4⟩ rec
  have e1 : ν (T + 1) 1 = mp := by rw [i1 (T + 1) (by omega) (by omega)]; exact h1
  have e3 : ν (T + 3) 1 = mq := by rw [i1 (T + 3) (by omega) (by omega)]; exact h3
  rw [Ok_ite, Ok_some]
  refine ⟨fun q => ?_, fun q => ?_⟩
  · have : j = mq := by omega
    subst this
    exact ⟨i1, i2, hT, by rw [i2 0 (by decide)]; exact h0, e1, hm6, e3, hq5, hm, i3, fun n hn => i4 n hn (by omega)⟩
  · have hjm : j < mq := by omega
    have hp := pow_le (m := mp) (k := j) hm6 (by omega)
    have hp1 : mp ^ (j + 1) ≤ 7776 := pow_le hm6 (by omega)
    have ix : ((mq : Int) - 1 - (j : Int)).toNat = mq - 1 - j := by omega
    have em : ((mp ^ j : Nat) : Int) * (mp : Int) = ((mp ^ (j + 1) : Nat) : Int) := by rw [Nat.pow_succ, Int.natCast_mul]
    rw [ix, Ok_chkA, Ok_bnd, chkT_pos hT (by rw [yset_off 78 (by decide), i2 0 (by decide)]; exact h0), yset_off 78 (by decide), yset_off (T + 1) (by omega), e1, i3, em, Ok_chkI, Ok_bnd, Ok_chkI]
    refine ⟨by omega, by omega, by omega, rec _ _ ⟨j + 1, by omega, by omega, fun i a b => by rw [yset_off i a, yset_off i b]; exact i1 i a b, fun k hk => ?_, by rw [yset_at], fun n a b => ?_⟩ (by omega)⟩
    · rw [yset_ne (by omega), yset_off 78 (by decide)]
      exact i2 k hk
    · rw [yset_off 79 (by decide)]
      by_cases c : n = mq - 1 - j
      · rw [c, yset_at, show mq - 1 - (mq - 1 - j) = j from by omega]
      · rw [yset_ne (by omega)]
        exact i4 n a (by omega)
theorem walkOf_ok {σ : ySt} {what hr a : Int} (h8 : σ 78 8 = what) (h9 : σ 78 9 = hr) (hh : hr ≤ 999) (ha : 0 ≤ a ∧ a ≤ 1000000) : ∃ z, cDy_walkOf a σ = some z ∧ rpR (-999) 0 z (if a ≤ hr then some (if what = 2 then -a else 0) else none) := by
  unfold cDy_walkOf
  rw [h8, h9]
  by_cases c : a ≤ hr
  · rw [if_pos c, if_pos c]
    by_cases c2 : what = 2
    · rw [if_neg (fun w => w c2), if_pos c2, chkI_pos (by omega)]
      exact ⟨_, rfl, Or.inr ⟨-a, rfl, rfl, by omega, by omega⟩⟩
    · rw [if_pos c2, if_neg c2]
      exact ⟨_, rfl, Or.inr ⟨0, rfl, rfl, by omega, by omega⟩⟩
  · rw [if_neg c, if_neg c]
    exact ⟨_, rfl, Or.inl ⟨rfl, rfl⟩⟩
theorem or01b (a b : Bool) : b32or (if a then 1 else 0) (if b then 1 else 0) = if a || b then 1 else 0 := by cases a <;> cases b <;> decide
theorem gainOf_ok {N T mp mq me n : Nat} {σ : ySt} {what t s p : Int} (hN : 100000 ≤ N) (h : TW σ T mp mq me) (h0 : σ 78 0 = (T : Int) + 1) (h8 : σ 78 8 = what) (ht : 1 ≤ t ∧ t ≤ 8) (hn : n < mq) :
    ∃ z, cDy_gainOf N s n p t σ = some z ∧ rpR (-1000) 8000 z (gnV σ T me what t s n p) := by
  obtain ⟨hT, h1, hm6, h3, hq5, hm, h14, hme, he, hh, h16, h17, h15⟩ := id h
  have key : Ok (cDy_gainOf N s n p t σ) (fun z => rpR (-1000) 8000 z (gnV σ T me what t s n p)) := by
    obtain ⟨dn, hdn⟩ : ∃ dn : Nat → Bool, dn = fun k => decide (eW σ T k = n) && (eD σ T t s k && decide (p = σ (T + 12) k)) := ⟨_, rfl⟩
    obtain ⟨ms, hms⟩ : ∃ ms : Nat → Bool, ms = fun k => decide (eW σ T k = n) && (eD σ T t s k && !(decide (p = σ (T + 12) k))) := ⟨_, rfl⟩
    have hpay : ∀ k, k < me → (0 : Int) ≤ (if dn k = true then σ (T + 14) k else 0) ∧ (if dn k = true then σ (T + 14) k else 0) ≤ 999 := fun k hk => by
      have := (he k hk).2.2.2
      split <;> omega
    have hG : gnV σ T me what t s n p = if what = 0 then some (isum (fun k => if dn k = true then σ (T + 14) k else 0) me - (if p ≠ σ (T + 8) n then σ (T + 9) n else 0)) else if bany ms me then none else some (if decide (what = 1) && (decide (p ≠ σ (T + 8) n) && !(bany dn me)) then -1 else 0) := by
      rw [hdn, hms]
      rfl
    rw [hG]
    unfold cDy_gainOf
    refine Ok_loop4 (fun x1 x2 x3 y => ∃ k : Nat, y = k ∧ k ≤ me ∧ x1 = isum (fun k => if dn k = true then σ (T + 14) k else 0) k ∧ (0 ≤ x1 ∧ x1 ≤ 999 * (k : Int)) ∧ x2 = (if bany dn k then 1 else 0) ∧ x3 = (if bany ms k then 1 else 0)) (fun _ _ _ y => (me - y.toNat : Nat)) ?_ N _ _ _ _ ⟨0, rfl, by omega, rfl, by decide, rfl, rfl⟩ (by omega)
    rintro g x1 x2 x3 y ⟨k, rfl, hk, hx1, hb1, hx2, hx3⟩ rec
    rw [chkT_pos hT h0, h14, Ok_ite]
    refine ⟨fun q => ?_, fun q => ?_⟩
    · have hkm : k = me := by omega
      subst hkm
      have hhn := hh n hn
      rw [chkT_pos hT h0, Int.toNat_natCast, Ok_chkA, h8]
      refine ⟨by omega, Ok_jq1 (fun (y14 : Int) => y14 = if p ≠ σ (T + 8) n then 1 else 0) (fun y14 hy => ?_) (fun kk hkk => ?_)⟩
      · rw [Ok_ite]
        by_cases w0 : what = 0
        · rw [if_pos w0]
          refine ⟨fun w => absurd w0 w, fun _ => ?_⟩
          by_cases c : p ≠ σ (T + 8) n
          · rw [if_pos c] at hy
            rw [if_pos c, hy, if_neg (by decide), chkT_pos hT h0, chkA_pos (by omega), chkI_pos (by omega), Ok_some]
            exact Or.inr ⟨_, rfl, by rw [hx1], by omega, by omega⟩
          · rw [if_neg c] at hy
            rw [if_neg c, hy, if_pos rfl, Ok_some]
            exact Or.inr ⟨_, rfl, by rw [hx1, Int.sub_zero], by omega, by omega⟩
        · rw [if_neg w0]
          refine ⟨fun _ => ?_, fun w => absurd w0 w⟩
          rw [hx3]
          by_cases cm : bany ms k = true
          · rw [if_pos cm, if_pos cm, if_neg (by decide), Ok_some]
            exact Or.inl ⟨rfl, rfl⟩
          · rw [if_neg cm, if_neg cm, if_pos rfl]
            by_cases w1 : what = 1
            · rw [if_neg (fun w => w w1)]
              by_cases c : p ≠ σ (T + 8) n
              · rw [if_pos c] at hy
                rw [hy, if_neg (by decide), hx2]
                by_cases cd : bany dn k = true
                · rw [if_pos cd, if_pos (by decide), Ok_some, cd]
                  exact Or.inr ⟨0, by simp, rfl, by omega, by omega⟩
                · rw [if_neg cd, if_neg (by decide), Ok_some]
                  refine Or.inr ⟨-1, ?_, rfl, by omega, by omega⟩
                  rw [if_pos]
                  rw [decide_eq_true w1, decide_eq_true c, eq_false_of_ne_true cd]
                  rfl
              · rw [if_neg c] at hy
                rw [hy, if_pos rfl, Ok_some]
                refine Or.inr ⟨0, ?_, rfl, by omega, by omega⟩
                rw [if_neg]
                rw [decide_eq_false c, Bool.false_and, Bool.and_false]
                decide
            · rw [if_pos w1, Ok_some]
              refine Or.inr ⟨0, ?_, rfl, by omega, by omega⟩
              rw [if_neg]
              rw [decide_eq_false w1, Bool.false_and]
              decide
      · rw [Ok_ite]
        exact ⟨fun c => hkk 0 (by rw [if_neg (fun w => w c.symm)]), fun c => hkk 1 (by rw [if_pos (fun w => c w.symm)])⟩
    · have hkm : k < me := by omega
      obtain ⟨e11, e12, e13, e14⟩ := he k hkm
      have hpk := hpay k hkm
      have mul := mul_rg e13 ht
      have s1 : isum (fun k => if dn k = true then σ (T + 14) k else 0) (k + 1) = isum (fun k => if dn k = true then σ (T + 14) k else 0) k + (if dn k = true then σ (T + 14) k else 0) := rfl
      have s2 : bany dn (k + 1) = (bany dn k || dn k) := rfl
      have s3 : bany ms (k + 1) = (bany ms k || ms k) := rfl
      rw [chkT_pos hT h0, Int.toNat_natCast, Ok_chkA]
      refine ⟨by omega, Ok_jq3 (fun (a b c : Int) => a = x1 + (if dn k = true then σ (T + 14) k else 0) ∧ b = (if bany dn k || dn k then 1 else 0) ∧ c = (if bany ms k || ms k then 1 else 0)) (fun a b c hy => ?_) (fun kk hkk => ?_)⟩
      · rw [Ok_chkI]
        refine ⟨by omega, rec _ _ _ _ ⟨k + 1, by omega, by omega, by rw [s1, ← hx1]; exact hy.1, by omega, by rw [s2]; exact hy.2.1, by rw [s3]; exact hy.2.2⟩ (by omega)⟩
      · have same : dn k = false → ms k = false → Ok (kk x1 x2 x3) _ := fun a b => hkk _ _ _ ⟨by rw [a]; simp, by rw [a, Bool.or_false]; exact hx2, by rw [b, Bool.or_false]; exact hx3⟩
        rw [Ok_ite]
        refine ⟨fun c => ?_, fun c => ?_⟩
        · have hne : decide (eW σ T k = n) = false := decide_eq_false (by unfold eW; omega)
          exact same (by rw [hdn]; dsimp only; rw [hne]; rfl) (by rw [hms]; dsimp only; rw [hne]; rfl)
        · have heq : decide (eW σ T k = n) = true := decide_eq_true (by unfold eW; omega)
          rw [chkT_pos hT h0, Ok_chkA, Ok_chkI, Ok_ite]
          refine ⟨by omega, mul, fun c2 => ?_, fun c2 => ?_⟩
          · have hd : eD σ T t s k = false := decide_eq_false c2
            exact same (by rw [hdn]; dsimp only; rw [hd, Bool.false_and, Bool.and_false]) (by rw [hms]; dsimp only; rw [hd, Bool.false_and, Bool.and_false])
          · have hd : eD σ T t s k = true := decide_eq_true (Classical.byContradiction c2)
            have hdk : dn k = decide (p = σ (T + 12) k) := by rw [hdn]; dsimp only; rw [heq, hd, Bool.true_and, Bool.true_and]
            have hmk : ms k = !(decide (p = σ (T + 12) k)) := by rw [hms]; dsimp only; rw [heq, hd, Bool.true_and, Bool.true_and]
            rw [chkT_pos hT h0, Ok_chkA]
            refine ⟨by omega, ?_⟩
            by_cases cp : σ (T + 12) k = p
            · have d1 : dn k = true := by rw [hdk]; exact decide_eq_true cp.symm
              have m1 : ms k = false := by rw [hmk, ← hdk, d1]; rfl
              rw [d1, if_pos rfl] at hpk
              rw [Ok_bnd, if_neg (fun w => w cp), Ok_bnd, if_neg (by decide), chkT_pos hT h0, chkA_pos (by omega)]
              show Ok (chkI (x1 + σ (T + 14) k) _) _
              rw [chkI_pos (by omega), Ok_bnd, if_pos (by decide)]
              refine hkk _ _ _ ⟨by rw [d1, if_pos rfl], ?_, ?_⟩
              · rw [hx2, d1]
                exact or01b (bany dn k) true
              · rw [hx3, m1]
                exact or01b (bany ms k) false
            · have d1 : dn k = false := by rw [hdk]; exact decide_eq_false (fun w => cp w.symm)
              have m1 : ms k = true := by rw [hmk, ← hdk, d1]; rfl
              rw [Ok_bnd, if_pos cp, Ok_bnd, if_pos rfl]
              show Ok (chkI (x1 + 0) _) _
              rw [chkI_pos (by omega), Ok_bnd, if_neg (by decide)]
              refine hkk _ _ _ ⟨by rw [d1]; simp, ?_, ?_⟩
              · rw [hx2, d1]
                exact or01b (bany dn k) false
              · rw [hx3, m1]
                exact or01b (bany ms k) true
  cases hc : cDy_gainOf N s n p t σ with
  | none =>
    rw [hc] at key
    exact absurd key (by unfold Ok; simp)
  | some z =>
    rw [hc, Ok_some] at key
    exact ⟨z, rfl, key⟩
theorem layGains_ok {N T mp mq me s t : Nat} {σ : ySt} {what : Int} (hN : 100000 ≤ N) (h : TW σ T mp mq me) (h0 : σ 78 0 = (T : Int) + 1) (h8 : σ 78 8 = what) (ht : 1 ≤ t ∧ t ≤ 8) (hs : 1 ≤ s ∧ s ≤ 8) :
    Ok (cDy_layGains N s t σ) (fun σ' => (∀ i, i ≠ 81 → σ' i = σ i) ∧ (∀ j, (j < 30 * s ∨ 30 * s + 30 ≤ j) → σ' 81 j = σ 81 j) ∧ ∀ n p, n < mq → p < mp → rpR (-1000) 8000 (σ' 81 (((s * 5) + n) * 6 + p)) (gnV σ T me what t s n p)) := by
  obtain ⟨hT, h1, hm6, h3, hq5, hm, h14, hme, he, hh, h16, h17, h15⟩ := id h
  unfold cDy_layGains
  refine Ok_loopS1 (fun y ν => ∃ n : Nat, y = n ∧ n ≤ mq ∧ (∀ i, i ≠ 81 → ν i = σ i) ∧ (∀ j, (j < 30 * s ∨ 30 * s + 30 ≤ j) → ν 81 j = σ 81 j) ∧ ∀ n' p, n' < n → p < mp → rpR (-1000) 8000 (ν 81 (((s * 5) + n') * 6 + p)) (gnV σ T me what t s n' p)) (fun y _ => (mq - y.toNat : Nat)) ?_ N _ _ ⟨0, rfl, by omega, fun _ _ => rfl, fun _ _ => rfl, fun n' p hn => absurd hn (Nat.not_lt_zero n')⟩ (by omega)
  rintro g y ν ⟨n, rfl, hn, i1, i2, i3⟩ rec
  rw [chkT_pos hT (by rw [i1 78 (by decide)]; exact h0), i1 (T + 3) (by omega), h3, Ok_ite, Ok_some]
  refine ⟨fun q => ⟨i1, i2, fun n' p hn' hp => i3 n' p (by omega) hp⟩, fun q => ?_⟩
  refine Ok_loopS2 (fun y z μ => y = (n : Int) ∧ ∃ p : Nat, z = p ∧ p ≤ mp ∧ (∀ i, i ≠ 81 → μ i = σ i) ∧ (∀ j, (j < 30 * s ∨ 30 * s + 30 ≤ j) → μ 81 j = σ 81 j) ∧ ∀ n' p', (n' < n ∨ (n' = n ∧ p' < p)) → p' < mp → rpR (-1000) 8000 (μ 81 (((s * 5) + n') * 6 + p')) (gnV σ T me what t s n' p')) (fun _ z _ => (mp - z.toNat : Nat)) ?_ N _ _ _ ⟨rfl, 0, rfl, by omega, i1, i2, fun n' p' hx hp => i3 n' p' (by omega) hp⟩ (by omega)
  rintro g2 y z μ ⟨rfl, p, rfl, hp, j1, j2, j3⟩ rec2
  rw [chkT_pos hT (by rw [j1 78 (by decide)]; exact h0), j1 (T + 1) (by omega), h1, Ok_ite]
  refine ⟨fun q2 => ?_, fun q2 => ?_⟩
  · rw [Ok_chkI]
    exact ⟨by omega, rec _ _ ⟨n + 1, by omega, by omega, j1, j2, fun n' p' hx hp' => j3 n' p' (by omega) hp'⟩ (by omega)⟩
  · obtain ⟨z, hz, hzr⟩ := gainOf_ok (what := what) (s := (s : Int)) (p := (p : Int)) (t := (t : Int)) hN (TW_of h (σ' := μ) (fun i a b => j1 i (by omega))) (by rw [j1 78 (by decide)]; exact h0) (by rw [j1 78 (by decide)]; exact h8) (by omega) (show n < mq by omega)
    rw [gnV_of (fun i a b => j1 i (by omega))] at hzr
    have ix : (((s : Int) * 5 + (n : Int)) * 6 + (p : Int)).toNat = ((s * 5) + n) * 6 + p := by omega
    rw [hz, bndO_s, ix, Ok_chkI, Ok_chkI, Ok_chkI, Ok_chkI, Ok_chkA, Ok_bnd, Ok_chkI]
    refine ⟨by omega, by omega, by omega, by omega, by omega, by omega, rec2 _ _ _ ⟨rfl, p + 1, by omega, by omega, fun i hi => by rw [yset_off i hi]; exact j1 i hi, fun j hj => ?_, fun n' p' hx hp' => ?_⟩ (by omega)⟩
    · rw [yset_ne (by omega)]
      exact j2 j hj
    · by_cases c : n' = n ∧ p' = p
      · rw [c.1, c.2, yset_at]
        exact hzr
      · rw [yset_ne (by omega)]
        exact j3 n' p' (by omega) hp'
