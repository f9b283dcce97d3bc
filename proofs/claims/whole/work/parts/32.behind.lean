/-! the rule: the reference behind a unit -/
def nt (f : Nat → Int) (s : Nat) : Nat → Nat
  | 0 => 0
  | e + 1 => nt f s e + (if f (s + e) = 3 then 1 else 0)
theorem nt_first (f : Nat → Int) : ∀ (e s : Nat), nt f s (e + 1) = (if f s = 3 then 1 else 0) + nt f (s + 1) e
  | 0, s => by
    unfold nt
    unfold nt
    rw [Nat.zero_add, Nat.add_zero, Nat.add_zero]
  | e + 1, s => by
    unfold nt
    rw [nt_first f e s, show s + (e + 1) = s + 1 + e from by omega, Nat.add_assoc]
theorem nt_congr {f f' : Nat → Int} {s : Nat} : ∀ e : Nat, (∀ j, s ≤ j → j < s + e → f j = f' j) → nt f s e = nt f' s e
  | 0, _ => rfl
  | e + 1, h => by
    unfold nt
    rw [nt_congr e (fun j h1 h2 => h j h1 (by omega)), h (s + e) (by omega) (by omega)]
theorem nt_le (f : Nat → Int) (s : Nat) : ∀ e : Nat, nt f s e ≤ e
  | 0 => Nat.le_refl 0
  | e + 1 => by
    have := nt_le f s e
    unfold nt
    split <;> omega
def bhE (N : Nat) (r2 : Int) (σ4 : ySt) : Option (Int × ySt) :=
        if r2 ≤ 0 then
          chkI ((σ4 92 44) - 1) <|
          bnd (yset σ4 92 44 ((σ4 92 44) - 1)) fun σ11 =>
          chkA 90 (σ11 92 44) <|
          if ¬ (σ11 121 ((σ11 92 44)).toNat) = 7 then
            some (0, σ11)
          else
            chkI ((σ11 92 43) - 1) <|
            bnd (yset σ11 92 43 ((σ11 92 43) - 1)) fun σ16 =>
            bndO (mo_is 41 σ16) fun r19 =>
            bndO (mo_must N r19 σ16) fun σ21 =>
            some (0, σ21)
        else
          bnd (fun (y22 : Int) =>
            bndO (mo_pushE r2 y22 σ4) fun σ25 =>
            bndO (mo_goOn N σ25) fun σ27 =>
            some (1, σ27)) fun j23 =>
          if ¬ r2 = 2 then
            if ¬ r2 = 1 then
              bndO (mo_sign (σ4 92 6) σ4) fun r31 =>
              j23 r31
            else
              j23 124
          else
            j23 38
def bhF (N : Nat) (r2 : Int) (k5 : ySt → Option (Int × ySt)) (σ4 : ySt) : Option (Int × ySt) :=
      chkI ((σ4 92 44) - 1) <|
      chkA 90 ((σ4 92 44) - 1) <|
      bnd (bhE N r2 σ4) fun j8 =>
      if (σ4 121 (((σ4 92 44) - 1)).toNat) > 6 then
        j8
      else
        chkI ((σ4 92 44) - 1) <|
        chkA 90 ((σ4 92 44) - 1) <|
        if (σ4 121 (((σ4 92 44) - 1)).toNat) < r2 then
          j8
        else
          chkI ((σ4 92 44) - 1) <|
          bnd (yset σ4 92 44 ((σ4 92 44) - 1)) fun σ37 =>
          chkA 90 (σ37 92 44) <|
          bnd (fun (σ40 : ySt) =>
            chkA 90 (σ40 92 44) <|
            bndO (mo_emit (σ40 122 ((σ40 92 44)).toNat) 0 σ40) fun σ44 =>
            k5 σ44) fun j41 =>
          if ¬ (σ37 121 ((σ37 92 44)).toNat) = 3 then
            j41 σ37
          else
            chkI ((σ37 92 43) - 1) <|
            bnd (yset σ37 92 43 ((σ37 92 43) - 1)) fun σ47 =>
            j41 σ47
theorem mo_behindUnit_eq (N : Nat) (σ : ySt) : mo_behindUnit N σ = bndO (mo_rankHere σ) fun r2 =>
    if ¬ r2 = 4 then loopS0 (bhF N r2) N σ
    else bndO (mo_isCompared N σ) fun r50 =>
      if r50 = 0 then loopS0 (bhF N r2) N σ
      else bndO (mo_misplaced σ) fun σ98 => some (1, σ98) := rfl
/-- what stands when all that waits at this rank is written -/
def PP (ρ τ : ySt) (s e b m : Nat) : Prop :=
  ρ 92 44 = s ∧ ρ 92 43 = b ∧ ρ 92 42 = m + e ∧ (∀ i, i ≠ 92 → i ≠ 119 → i ≠ 120 → ρ i = τ i) ∧ (∀ k, k ≠ 42 → k ≠ 43 → k ≠ 44 → ρ 92 k = τ 92 k) ∧ (∀ j, (j < m ∨ m + e ≤ j) → ρ 119 j = τ 119 j ∧ ρ 120 j = τ 120 j) ∧ (∀ j, j < e → ρ 119 (m + j) = τ 122 (s + e - 1 - j) ∧ ρ 120 (m + j) = 0)
theorem bh_pop {N s b : Nat} {r : Int} {P : Int × ySt → Prop} : ∀ (e m fuel : Nat) (τ : ySt), e < fuel → τ 92 44 = ((s + e : Nat) : Int) → 1 ≤ s → s + e ≤ 90 → τ 92 42 = m → m + e ≤ 800 → τ 92 43 = ((b + nt (τ 121) s e : Nat) : Int) → b ≤ 1000 → (∀ j, j < e → r ≤ τ 121 (s + j) ∧ τ 121 (s + j) ≤ 6) → (6 < τ 121 (s - 1) ∨ τ 121 (s - 1) < r) → (∀ ρ, PP ρ τ s e b m → Ok (bhE N r ρ) P) → Ok (loopS0 (bhF N r) fuel τ) P := by
  intro e
  induction e with
  | zero =>
    intro m fuel τ hf h44 hs1 hs2 h42 hm h43 hb hr hbase hP
    obtain ⟨f, rfl⟩ : ∃ f, fuel = f + 1 := ⟨fuel - 1, by omega⟩
    show Ok (bhF N r (loopS0 (bhF N r) f) τ) P
    have a1 : τ 92 44 - 1 = ((s - 1 : Nat) : Int) := by omega
    unfold bhF
    rw [a1, Int.toNat_natCast, Ok_chkI, Ok_chkA]
    have g := hP τ ⟨by rw [h44]; rfl, h43, by rw [h42]; rfl, fun _ _ _ _ => rfl, fun _ _ _ _ => rfl, fun _ _ => ⟨rfl, rfl⟩, fun j hj => absurd hj (Nat.not_lt_zero j)⟩
    refine ⟨by omega, by omega, ?_⟩
    rw [Ok_bnd, Ok_ite]
    refine ⟨fun _ => g, fun q => ?_⟩
    rw [Ok_chkI, Ok_chkA, Ok_ite]
    exact ⟨by omega, by omega, fun _ => g, fun q2 => by omega⟩
  | succ e ih =>
    intro m fuel τ hf h44 hs1 hs2 h42 hm h43 hb hr hbase hP
    obtain ⟨f, rfl⟩ : ∃ f, fuel = f + 1 := ⟨fuel - 1, by omega⟩
    show Ok (bhF N r (loopS0 (bhF N r) f) τ) P
    have a1 : τ 92 44 - 1 = ((s + e : Nat) : Int) := by omega
    have hre := hr e (Nat.lt_succ_self e)
    have hnt : nt (τ 121) s (e + 1) = nt (τ 121) s e + (if τ 121 (s + e) = 3 then 1 else 0) := rfl
    have hle := nt_le (τ 121) s e
    unfold bhF
    rw [a1, Int.toNat_natCast, Ok_chkI, Ok_chkA]
    refine ⟨by omega, by omega, ?_⟩
    rw [Ok_bnd, Ok_ite]
    refine ⟨fun q => by omega, fun q => ?_⟩
    rw [Ok_chkI, Ok_chkA, Ok_ite]
    refine ⟨by omega, by omega, fun q2 => by omega, fun q2 => ?_⟩
    have y44 : yset τ 92 44 ((s + e : Nat) : Int) 92 44 = ((s + e : Nat) : Int) := yset_at
    have y121 : yset τ 92 44 ((s + e : Nat) : Int) 121 (s + e) = τ 121 (s + e) := yset_ne (by omega)
    have y43 : yset τ 92 44 ((s + e : Nat) : Int) 92 43 = τ 92 43 := yset_ne (by omega)
    rw [Ok_chkI, Ok_bnd, y44, Ok_chkA, Int.toNat_natCast, y121, y43]
    refine ⟨by omega, by omega, ?_⟩
    refine Ok_jq1 (fun ρ => ρ 92 43 = ((b + nt (τ 121) s e : Nat) : Int) ∧ (∀ i, i ≠ 92 → ρ i = τ i) ∧ (∀ k, k ≠ 43 → k ≠ 44 → ρ 92 k = τ 92 k) ∧ ρ 92 44 = ((s + e : Nat) : Int)) (fun ρ hρ => ?_) (fun j41 hj => ?_)
    · obtain ⟨r43, rne, r92, r44⟩ := hρ
      have r42 : ρ 92 42 = m := by rw [r92 42 (by omega) (by omega)]; exact h42
      rw [r44, Ok_chkA, Int.toNat_natCast, mo_emit_eq r42 (by omega), bndO_s]
      refine ⟨by omega, ?_⟩
      have e121 : yset (yset (yset ρ 119 m (ρ 122 (s + e))) 120 m 0) 92 42 ((m : Int) + 1) 121 = τ 121 := by
        rw [yset_off 121 (by decide), yset_off 121 (by decide), yset_off 121 (by decide)]
        exact rne 121 (by decide)
      refine ih (m + 1) f _ (by omega) ?_ hs1 (by omega) ?_ (by omega) ?_ hb ?_ ?_ ?_
      · rw [yset_ne (by omega), yset_ne (by omega), yset_ne (by omega)]; exact r44
      · rw [yset_at]; omega
      · rw [e121, yset_ne (by omega), yset_ne (by omega), yset_ne (by omega)]; exact r43
      · rw [e121]; exact fun j hj => hr j (by omega)
      · rw [e121]; exact hbase
      · rintro ρ2 ⟨p1, p2, p3, p4, p5, p6, p7⟩
        refine hP ρ2 ⟨p1, p2, by rw [p3]; omega, fun i i1 i2 i3 => ?_, fun k k1 k2 k3 => ?_, fun j hj => ?_, fun j hj => ?_⟩
        · rw [p4 i i1 i2 i3, yset_off i i1, yset_off i i3, yset_off i i2]
          exact rne i i1
        · rw [p5 k k1 k2 k3, yset_ne (by omega), yset_ne (by omega), yset_ne (by omega)]
          exact r92 k k2 k3
        · obtain ⟨q1, q2⟩ := p6 j (by omega)
          rw [q1, q2, yset_ne (by omega), yset_ne (by omega), yset_ne (by omega), yset_ne (by omega), yset_ne (by omega), yset_ne (by omega), rne 119 (by decide), rne 120 (by decide)]
          exact ⟨rfl, rfl⟩
        · by_cases c : j = 0
          · subst c
            obtain ⟨q1, q2⟩ := p6 m (by omega)
            rw [Nat.add_zero, q1, q2, yset_ne (by omega), yset_ne (by omega), yset_at, yset_ne (by omega), yset_at, rne 122 (by decide)]
            exact ⟨rfl, rfl⟩
          · obtain ⟨q1, q2⟩ := p7 (j - 1) (by omega)
            rw [show m + j = m + 1 + (j - 1) from by omega, q1, q2, yset_off 122 (by decide), yset_off 122 (by decide), yset_off 122 (by decide), rne 122 (by decide)]
            exact ⟨by rw [show s + e - 1 - (j - 1) = s + (e + 1) - 1 - j from by omega], rfl⟩
    · rw [Ok_ite]
      refine ⟨fun q3 => hj _ ⟨?_, fun i hi => yset_off i hi, fun k k1 k2 => yset_ne (by omega), yset_at⟩, fun q3 => ?_⟩
      · rw [yset_ne (by omega), h43, hnt, if_neg q3]; rfl
      · rw [h43, hnt, if_pos (Classical.not_not.mp q3), Ok_chkI, Ok_bnd]
        refine ⟨by omega, hj _ ⟨?_, fun i hi => by rw [yset_off i hi, yset_off i hi], fun k k1 k2 => by rw [yset_ne (by omega), yset_ne (by omega)], by rw [yset_ne (by omega)]; exact yset_at⟩⟩
        rw [yset_at]
        omega
