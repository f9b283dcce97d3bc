/-! the class's day, laid: all -/
theorem lay_ok {N T mp mq me St H t : Nat} {σ : ySt} {what : Int} {op : Nat → Nat → Nat → Bool} (hN : 100000 ≤ N) (h : TW σ T mp mq me) (hwh : 0 ≤ what ∧ what ≤ 2) (hSt : σ T 17 = St) (hH : σ T 16 = H) (ht : 1 ≤ t ∧ t ≤ 8) (hbits : ∀ p h, p < mp → h < 6 → ∃ B : Nat, σ (T + 16) (6 * p + h) = B ∧ B < 512 ∧ ∀ s, 1 ≤ s → s ≤ 8 → Nat.testBit B s = op s p h) :
    Ok (cDy_lay N T what t σ) (fun σ' => (∀ i, i ≠ 78 → i ≠ 79 → i ≠ 80 → i ≠ 81 → i ≠ 82 → σ' i = σ i) ∧ (8 < St * t ∨ H / t = 0 → σ' 78 2 = 0) ∧ (¬ (8 < St * t ∨ H / t = 0) → DS σ' T mp mq ∧ DG σ' mp mq (St * t) (wkM what ((H / t : Nat) : Int) (fun u v => σ (T + 15) (6 * u + v))) (fun s n p => gnV σ T me what t s n p) ∧ BT σ' mp op ∧ σ' 78 2 = if decide (what ≠ 0) && late σ T me (St * t) t then 0 else 1) ∧ (¬ (8 < St * t ∨ H / t = 0) → σ' 78 8 = what ∧ σ' 78 9 = ((H / t : Nat) : Int))) := by
  obtain ⟨hT, h1, hm6, h3, hq5, hm, h14, hme, he, hh, h16, h17, h15⟩ := id h
  have hT78 : ∀ k, T + k ≠ 78 ∨ 45 ≤ k := fun k => by omega
  obtain ⟨S, hS⟩ : ∃ S : Nat, St * t = S := ⟨_, rfl⟩
  obtain ⟨hr, hhr⟩ : ∃ hr : Nat, H / t = hr := ⟨_, rfl⟩
  have hrH : hr ≤ H := by rw [← hhr]; exact Nat.div_le_self H t
  have hSi : (St : Int) * (t : Int) = (S : Int) := by rw [← hS, Int.natCast_mul]
  have hS64 : S ≤ 64 := by rw [← hS]; exact Nat.mul_le_mul (show St ≤ 8 by omega) ht.2
  have hS1 : 1 ≤ S := by rw [← hS]; exact Nat.mul_pos (by omega) (by omega)
  have htd : ((H : Nat) : Int).tdiv (t : Int) = (hr : Int) := by
    rw [Int.tdiv_eq_ediv_of_nonneg (Int.natCast_nonneg _), ← Int.natCast_ediv, hhr]
  rw [hS, hhr]
  unfold cDy_lay
  rw [Ok_chk, Ok_bnd, Ok_bnd, Ok_bnd]
  refine ⟨hT, ?_⟩
  generalize hσ6 : yset (yset (yset σ 78 0 ((T : Nat) + 1 : Int)) 78 8 what) 78 2 0 = σ6
  have a1 : ∀ i, i ≠ 78 → σ6 i = σ i := fun i hi => by rw [← hσ6, yset_off i hi, yset_off i hi, yset_off i hi]
  have a0 : σ6 78 0 = (T : Int) + 1 := by rw [← hσ6, yset_ne (by omega), yset_ne (by omega), yset_at]
  have a8 : σ6 78 8 = what := by rw [← hσ6, yset_ne (by omega), yset_at]
  have a2 : σ6 78 2 = 0 := by rw [← hσ6, yset_at]
  rw [if_neg (by omega), a1 T (by omega), hSt, hSi, Ok_chkI]
  refine ⟨by omega, ?_⟩
  rw [Ok_ite, Ok_some]
  refine ⟨fun q => ⟨fun i b _ _ _ _ => a1 i b, fun _ => a2, fun w => absurd (Or.inl (by omega)) w, fun w => absurd (Or.inl (by omega)) w⟩, fun q => ?_⟩
  rw [hH, htd, Ok_chk, Ok_chkI, Ok_ite, Ok_some]
  refine ⟨by omega, by omega, fun q2 => ?_, fun q2 => ⟨fun i b _ _ _ _ => a1 i b, fun _ => a2, fun w => absurd (Or.inr (by omega)) w, fun w => absurd (Or.inr (by omega)) w⟩⟩
  rw [Ok_chkI, Ok_bnd]
  refine ⟨by omega, ?_⟩
  generalize hσ15 : yset σ6 78 1 (S : Int) = σ15
  have b1 : ∀ i, i ≠ 78 → σ15 i = σ i := fun i hi => by rw [← hσ15, yset_off i hi, a1 i hi]
  rw [b1 T (by omega), hH, htd, Ok_chk, Ok_chkI, Ok_bnd]
  refine ⟨by omega, by omega, ?_⟩
  generalize hσ19 : yset σ15 78 9 (hr : Int) = σ19
  have c1 : ∀ i, i ≠ 78 → σ19 i = σ i := fun i hi => by rw [← hσ19, yset_off i hi, b1 i hi]
  have c0 : σ19 78 0 = (T : Int) + 1 := by rw [← hσ19, yset_ne (by omega), ← hσ15, yset_ne (by omega), a0]
  have c8 : σ19 78 8 = what := by rw [← hσ19, yset_ne (by omega), ← hσ15, yset_ne (by omega), a8]
  have cS : σ19 78 1 = (S : Int) := by rw [← hσ19, yset_ne (by omega), ← hσ15, yset_at]
  have c9 : σ19 78 9 = (hr : Int) := by rw [← hσ19, yset_at]
  have hTW19 := TW_of h (σ' := σ19) (fun i x y => c1 i (by omega))
  refine Ok_jq1 (fun (y21 : Int) => y21 = if decide (what ≠ 0) && late σ T me S t then 0 else 1) (fun y21 hy => ?_) (fun kk hkk => ?_)
  · have y01 : y21 = 0 ∨ y21 = 1 := by
      rw [hy]
      split
      · exact Or.inl rfl
      · exact Or.inr rfl
    rw [Ok_chk, Ok_bnd]
    refine ⟨y01, ?_⟩
    generalize hσ24 : yset σ19 78 2 y21 = σ24
    have d1 : ∀ i, i ≠ 78 → σ24 i = σ i := fun i hi => by rw [← hσ24, yset_off i hi, c1 i hi]
    have dk : ∀ k, k ≠ 2 → σ24 78 k = σ19 78 k := fun k hk => by rw [← hσ24, yset_ne (by omega)]
    have d2 : σ24 78 2 = y21 := by rw [← hσ24, yset_at]
    have hTW24 := TW_of h (σ' := σ24) (fun i x y => d1 i (by omega))
    rw [Ok_bndO]
    refine (layStates_ok hN hTW24 (by rw [dk 0 (by decide)]; exact c0)).mono ?_
    rintro σ27 ⟨e1, e2, e3⟩
    have e00 : ((0 : Int).toNat) = 0 := rfl
    have e36 : ((36 : Int).toNat) = 36 := rfl
    rw [Ok_chkC, Ok_bnd, e00, e36]
    refine ⟨by decide, ?_⟩
    generalize hσ29 : ycpy σ27 (T + 16) 0 82 0 36 = σ29
    have f1 : ∀ i, i ≠ 82 → σ29 i = σ27 i := fun i hi => by rw [← hσ29, ycpy_off hi]
    have f2 : ∀ j, j < 36 → σ29 82 j = σ (T + 16) j := fun j hj => by
      rw [← hσ29]
      unfold ycpy
      rw [if_pos ⟨rfl, by omega, by omega⟩, Nat.sub_zero, Nat.zero_add, e1 (T + 16) (by omega) (by omega), d1 (T + 16) (by omega)]
    have fr29 : ∀ i, i ≠ 78 → i ≠ 79 → i ≠ 82 → σ29 i = σ i := fun i x y z => by rw [f1 i z, e1 i x y, d1 i x]
    have k29 : ∀ k, k ≠ 2 → k ≠ 3 → σ29 78 k = σ19 78 k := fun k x y => by rw [f1 78 (by decide), e2 k y, dk k x]
    have two29 : σ29 78 2 = y21 := by rw [f1 78 (by decide), e2 2 (by decide), d2]
    have ds29 : DS σ29 T mp mq := DS_of e3 (fun i hi => f1 i (by omega))
    refine Ok_loopS1 (fun x ν => ∃ j : Nat, x = j ∧ j ≤ 36 ∧ (∀ i, i ≠ 80 → ν i = σ29 i) ∧ ∀ u, u < j → rpR (-999) 0 (ν 80 u) (if σ (T + 15) u ≤ (hr : Int) then some (if what = 2 then -(σ (T + 15) u) else 0) else none)) (fun x _ => (36 - x.toNat : Nat)) ?_ N _ _ ⟨0, rfl, by omega, fun _ _ => rfl, fun u hu => absurd hu (Nat.not_lt_zero u)⟩ (by omega)
    rintro g x ν ⟨j, rfl, hj, i1, i2⟩ rec
    rw [Ok_ite]
    refine ⟨fun q3 => ?_, fun q3 => ?_⟩
    · have hj36 : j = 36 := by omega
      refine Ok_loopS1 (fun x μ => ∃ s : Nat, x = s ∧ 1 ≤ s ∧ s ≤ S + 1 ∧ (∀ i, i ≠ 81 → μ i = ν i) ∧ ∀ u n p, 1 ≤ u → u < s → n < mq → p < mp → rpR (-1000) 8000 (μ 81 (((u * 5) + n) * 6 + p)) (gnV σ T me what t u n p)) (fun x _ => (S + 1 - x.toNat : Nat)) ?_ N _ _ ⟨1, rfl, Nat.le_refl 1, by omega, fun _ _ => rfl, fun u n p a b => by omega⟩ (by omega)
      rintro g2 x μ ⟨s, rfl, hs1, hs, m1, m2⟩ rec2
      have μ78 : ∀ k, μ 78 k = σ29 78 k := fun k => by rw [m1 78 (by decide), i1 78 (by decide)]
      have frμ : ∀ i, i ≠ 78 → i ≠ 79 → i ≠ 80 → i ≠ 81 → i ≠ 82 → μ i = σ i := fun i x y z w v => by rw [m1 i w, i1 i z]; exact fr29 i x y v
      rw [μ78 1, k29 1 (by decide) (by decide), cS, Ok_ite, Ok_some]
      refine ⟨fun q4 => ?_, fun q4 => ?_⟩
      · refine ⟨frμ, fun w => by omega, fun _ => ⟨DS_of ds29 (fun i hi => by rw [m1 i (by omega), i1 i (by omega)]), ⟨by rw [μ78 1, k29 1 (by decide) (by decide)]; exact cS, hS1, by omega, fun u v hu hv => ?_, fun u n p u1 u2 hn hp => m2 u n p u1 (by omega) hn hp⟩, fun p h' hp hh' => ?_, by rw [μ78 2, two29, hy]⟩, fun _ => ⟨by rw [μ78 8, k29 8 (by decide) (by decide)]; exact c8, by rw [μ78 9, k29 9 (by decide) (by decide)]; exact c9⟩⟩
        · rw [m1 80 (by decide)]
          exact i2 (6 * u + v) (by omega)
        · obtain ⟨B, x1, x2, x3⟩ := hbits p h' hp hh'
          refine ⟨B, ?_, x2, x3⟩
          rw [m1 82 (by decide), i1 82 (by decide), f2 _ (by omega), x1]
      · have hTWμ := TW_of h (σ' := μ) (fun i x y => frμ i (by omega) (by omega) (by omega) (by omega) (by omega))
        rw [Ok_bndO]
        refine (layGains_ok (what := what) (s := s) (t := t) hN hTWμ (by rw [μ78 0, k29 0 (by decide) (by decide)]; exact c0) (by rw [μ78 8, k29 8 (by decide) (by decide)]; exact c8) ht (by omega)).mono ?_
        rintro μ2 ⟨n1, n2, n3⟩
        rw [Ok_chkI]
        refine ⟨by omega, rec2 _ _ ⟨s + 1, by omega, by omega, by omega, fun i hi => by rw [n1 i hi]; exact m1 i hi, fun u n p u1 u2 hn hp => ?_⟩ (by omega)⟩
        by_cases c : u = s
        · have := n3 n p hn hp
          rw [gnV_of (fun i x y => frμ i (by omega) (by omega) (by omega) (by omega) (by omega))] at this
          rw [c]
          exact this
        · rw [n2 _ (by omega)]
          exact m2 u n p u1 (by omega) hn hp
    · have e15 : ν (T + 15) = σ (T + 15) := by rw [i1 (T + 15) (by omega)]; exact fr29 (T + 15) (by omega) (by omega) (by omega)
      obtain ⟨z, hz, hzr⟩ := walkOf_ok (σ := ν) (what := what) (hr := (hr : Int)) (a := σ (T + 15) j) (by rw [i1 78 (by decide), k29 8 (by decide) (by decide)]; exact c8) (by rw [i1 78 (by decide), k29 9 (by decide) (by decide)]; exact c9) (by omega) (h15 j (by omega))
      rw [Int.toNat_natCast, e15, hz, bndO_s, Ok_chkA, Ok_chkA, Ok_bnd, Ok_chkI]
      refine ⟨by omega, by omega, by omega, rec _ _ ⟨j + 1, by omega, by omega, fun i hi => by rw [yset_off i hi]; exact i1 i hi, fun u hu => ?_⟩ (by omega)⟩
      by_cases c : u = j
      · rw [c, yset_at]
        exact hzr
      · rw [yset_ne (by omega)]
        exact i2 u (by omega)
  · rw [c8, errandsCanBe_ok hN hTW19 c0 (by rw [c1 T (by omega)]; exact hSt), bndO_s, c1 (T + 13) (by omega), Ok_ite, Ok_ite]
    have hl := late_mul (σ := σ) (T := T) (me := me) (St := St) ht.1
    rw [hS] at hl
    refine ⟨fun c => hkk 1 (by rw [decide_eq_false (fun w => w c), Bool.false_and]; rfl), fun c => ?_⟩
    have cd : decide (what ≠ 0) = true := decide_eq_true c
    by_cases cb : bany (fun k => decide ((St : Int) < σ (T + 13) k)) me = true
    · rw [if_pos cb]
      exact ⟨fun _ => hkk 0 (by rw [cd, hl, Bool.true_and, if_pos cb]), fun w => absurd rfl w⟩
    · rw [if_neg cb]
      exact ⟨fun w => absurd w (by decide), fun _ => hkk 1 (by rw [cd, hl, Bool.true_and, if_neg cb])⟩
