/-! the reference lays its town out for a question -/
def lyO (N : Nat) (σ8 : ySt) : Option ySt :=
  loopS1 (fun k13 x11 σ12 =>
    if x11 > 8 then
      some σ12
    else
      loopS2 (fun k18 x15 x16 σ17 =>
        bndO (mo_placeMany σ17) fun r20 =>
        if x16 ≥ r20 then
          chkI (x15 + 1) <|
          k13 (x15 + 1) σ17
        else
          loopS3 (fun k27 x23 x24 x25 σ26 =>
            if x25 > 5 then
              chkI (x24 + 1) <|
              k18 x23 (x24 + 1) σ26
            else
              chkI (x23 - 1) <|
              chkI (48 * (x23 - 1)) <|
              chkI (8 * x24) <|
              chkI ((48 * (x23 - 1)) + (8 * x24)) <|
              chkI (((48 * (x23 - 1)) + (8 * x24)) + x25) <|
              bnd (fun (y35 : Int) (σ36 : ySt) =>
                chk (y35 = 0 ∨ y35 = 1) <|
                chkA 432 (((48 * (x23 - 1)) + (8 * x24)) + x25) <|
                bnd (yset σ36 125 ((((48 * (x23 - 1)) + (8 * x24)) + x25)).toNat y35) fun σ40 =>
                chkI (x25 + 1) <|
                k27 x23 x24 (x25 + 1) σ40) fun j37 =>
              if x23 = (σ26 92 51) then
                j37 1 σ26
              else
                if x24 = (σ26 92 52) then
                  j37 1 σ26
                else
                  bndR (mo_isRight N x24 x25 x23 σ26) fun r46 σ47 =>
                  if r46 = 0 then
                    j37 0 σ47
                  else
                    j37 1 σ47) N x15 x16 0 σ17) N x11 0 σ12) N 1 σ8
def lyF (N : Nat) (σ5 : ySt) : Option ySt :=
  loopS1 (fun k9 x7 σ8 =>
    if x7 ≥ 6 then
      lyO N σ8
    else
      loopS2 (fun k52 x49 x50 σ51 =>
        if x50 ≥ 36 then
          chkI (x49 + 1) <|
          k9 (x49 + 1) σ51
        else
          chk ((6 : Int) ≠ 0) <|
          chkI ((x50 : Int).tdiv 6) <|
          chkI (((x50 : Int).tdiv 6) * 6) <|
          chkI ((((x50 : Int).tdiv 6) * 6) + x49) <|
          chkA 36 ((((x50 : Int).tdiv 6) * 6) + x49) <|
          chkI (6 * x49) <|
          chk ((6 : Int) ≠ 0) <|
          chkI ((x50 : Int).tmod 6) <|
          chkI ((6 * x49) + ((x50 : Int).tmod 6)) <|
          chkA 36 ((6 * x49) + ((x50 : Int).tmod 6)) <|
          chkI ((σ51 124 (((((x50 : Int).tdiv 6) * 6) + x49)).toNat) + (σ51 124 (((6 * x49) + ((x50 : Int).tmod 6))).toNat)) <|
          chkA 36 x50 <|
          bnd (fun (σ67 : ySt) =>
            chkI (x50 + 1) <|
            k52 x49 (x50 + 1) σ67) fun j68 =>
          if ((σ51 124 (((((x50 : Int).tdiv 6) * 6) + x49)).toNat) + (σ51 124 (((6 * x49) + ((x50 : Int).tmod 6))).toNat)) ≥ (σ51 124 (x50).toNat) then
            j68 σ51
          else
            chkA 36 x50 <|
            bnd (yset σ51 124 (x50).toNat ((σ51 124 (((((x50 : Int).tdiv 6) * 6) + x49)).toNat) + (σ51 124 (((6 * x49) + ((x50 : Int).tmod 6))).toNat))) fun σ72 =>
            j68 σ72) N x7 0 σ8) N 0 σ5
def lyN (N : Nat) (σ2 : ySt) : Option ySt :=
  bnd (fun (σ5 : ySt) =>
      lyF N σ5) fun j6 =>
    if (σ2 92 53) < 0 then
      j6 σ2
    else
      chkI (6 * (σ2 92 53)) <|
      chkI ((6 * (σ2 92 53)) + (σ2 92 54)) <|
      chkA 36 ((6 * (σ2 92 53)) + (σ2 92 54)) <|
      if (σ2 92 55) ≥ (σ2 124 (((6 * (σ2 92 53)) + (σ2 92 54))).toNat) then
        j6 σ2
      else
        chkI (6 * (σ2 92 53)) <|
        chkI ((6 * (σ2 92 53)) + (σ2 92 54)) <|
        chkA 36 ((6 * (σ2 92 53)) + (σ2 92 54)) <|
        bnd (yset σ2 124 (((6 * (σ2 92 53)) + (σ2 92 54))).toNat (σ2 92 55)) fun σ82 =>
        chkI (6 * (σ82 92 54)) <|
        chkI ((6 * (σ82 92 54)) + (σ82 92 53)) <|
        chkA 36 ((6 * (σ82 92 54)) + (σ82 92 53)) <|
        bnd (yset σ82 124 (((6 * (σ82 92 54)) + (σ82 92 53))).toNat (σ82 92 55)) fun σ87 =>
        j6 σ87
theorem mo_layTown_eq (N : Nat) (σ : ySt) : mo_layTown N σ =
  loopS1 (fun k3 x1 σ2 =>
    if x1 ≥ 36 then
      lyN N σ2
    else
      chk ((6 : Int) ≠ 0) <|
      chkI ((x1 : Int).tdiv 6) <|
      chk ((6 : Int) ≠ 0) <|
      chkI ((x1 : Int).tmod 6) <|
      bnd (fun (y93 : Int) =>
        chkA 36 x1 <|
        bnd (yset σ2 124 (x1).toNat y93) fun σ96 =>
        chkI (x1 + 1) <|
        k3 (x1 + 1) σ96) fun j94 =>
      if ¬ ((x1 : Int).tdiv 6) = ((x1 : Int).tmod 6) then
        chkI (36 * (σ2 92 40)) <|
        chkI ((36 * (σ2 92 40)) + x1) <|
        chkA 72 ((36 * (σ2 92 40)) + x1) <|
        j94 (σ2 110 (((36 * (σ2 92 40)) + x1)).toNat)
      else
        j94 0) N 0 σ := rfl
/-- what the reference asks of its bank to say what is right -/
def RB9 (σ τ : ySt) (T b mp md L : Nat) : Prop := τ 92 40 = b ∧ b < 2 ∧ τ 95 b = mp ∧ mp ≤ 6 ∧ G7 σ τ T b mp ∧ G9 σ τ T b mp md ∧ RU σ τ T b L ∧ τ 105 b = (if L = 0 then 0 else 1)
theorem RB9_of {σ τ τ' : ySt} {T b mp md L : Nat} (h : RB9 σ τ T b mp md L) (e : ∀ i, i ≠ 123 → i ≠ 124 → i ≠ 125 → τ' i = τ i) : RB9 σ τ' T b mp md L := by
  obtain ⟨h1, h2, h3, h4, h5, h6, h7, h8⟩ := h
  refine ⟨by rw [e 92 (by decide) (by decide) (by decide)]; exact h1, h2, by rw [e 95 (by decide) (by decide) (by decide)]; exact h3, h4, G7_of h5 rfl (e 106 (by decide) (by decide) (by decide)), G9_of h6 rfl (e 113 (by decide) (by decide) (by decide)) (Nat.le_refl mp), RU_of h7 rfl rfl (by rw [e 118 (by decide) (by decide) (by decide)]) (e 119 (by decide) (by decide) (by decide)) (e 120 (by decide) (by decide) (by decide)), by rw [e 105 (by decide) (by decide) (by decide)]; exact h8⟩
def opn (σ : ySt) (T L md : Nat) (fs fp : Int) (s p h : Nat) : Int := if (s : Int) = fs ∨ (p : Int) = fp then 1 else if rgt σ T L md p h s = 0 then 0 else 1
theorem lyO_ok {N T b mp md L : Nat} {σ τ : ySt} (hN : 100000 ≤ N) (h : RB9 σ τ T b mp md L) :
    Ok (lyO N τ) (fun τ' => (∀ i, i ≠ 123 → i ≠ 125 → τ' i = τ i) ∧ ∀ s p h : Nat, 1 ≤ s → s ≤ 8 → p < mp → h ≤ 5 → τ' 125 (48 * (s - 1) + 8 * p + h) = opn σ T L md (τ 92 51) (τ 92 52) s p h) := by
  have hmp6 := h.2.2.2.1
  unfold lyO
  refine Ok_loopS1 (fun x ρ => ∃ s : Nat, x = s ∧ 1 ≤ s ∧ s ≤ 9 ∧ (∀ i, i ≠ 123 → i ≠ 125 → ρ i = τ i) ∧ ∀ s' p h : Nat, 1 ≤ s' → s' < s → p < mp → h ≤ 5 → ρ 125 (48 * (s' - 1) + 8 * p + h) = opn σ T L md (τ 92 51) (τ 92 52) s' p h) (fun x _ => (10 - x.toNat : Nat)) ?_ N _ _ ⟨1, rfl, by omega, by omega, fun _ _ _ => rfl, fun s' p h q1 q2 => by omega⟩ (by omega)
  rintro k x ρ ⟨s, rfl, hs1, hs9, i1, i2⟩ rec
  rw [Ok_ite, Ok_some]
  refine ⟨fun q => ⟨i1, fun s' p h q1 q2 => i2 s' p h q1 (by omega)⟩, fun q => ?_⟩
  refine Ok_loopS2 (fun x y μ => x = (s : Int) ∧ ∃ p : Nat, y = p ∧ p ≤ mp ∧ (∀ i, i ≠ 123 → i ≠ 125 → μ i = τ i) ∧ ∀ s' p' h : Nat, 1 ≤ s' → (s' < s ∨ (s' = s ∧ p' < p)) → p' < mp → h ≤ 5 → μ 125 (48 * (s' - 1) + 8 * p' + h) = opn σ T L md (τ 92 51) (τ 92 52) s' p' h) (fun _ y _ => (mp - y.toNat : Nat)) ?_ N _ _ _ ⟨rfl, 0, rfl, by omega, i1, fun s' p' h q1 q2 q3 => i2 s' p' h q1 (by omega) q3⟩ (by omega)
  rintro k2 x y μ ⟨rfl, p, rfl, hp, j1, j2⟩ rec2
  have rb2 : RB9 σ μ T b mp md L := RB9_of h (fun i a _ c => j1 i a c)
  have hpm : mo_placeMany μ = some (mp : Int) := by
    unfold mo_placeMany
    rw [rb2.1, chkA_pos (by have := rb2.2.1; omega), Int.toNat_natCast, rb2.2.2.1]
  rw [hpm, bndO_s, Ok_ite]
  refine ⟨fun q2 => ?_, fun q2 => ?_⟩
  · rw [Ok_chkI]
    exact ⟨by omega, rec _ _ ⟨s + 1, by omega, by omega, by omega, j1, fun s' p' h q1 q2 q3 => j2 s' p' h q1 (by omega) q3⟩ (by omega)⟩
  · have hpp : p < mp := by omega
    refine Ok_loopS3 (fun x y z ν => x = (s : Int) ∧ y = (p : Int) ∧ ∃ m : Nat, z = m ∧ m ≤ 6 ∧ (∀ i, i ≠ 123 → i ≠ 125 → ν i = τ i) ∧ ∀ s' p' h : Nat, 1 ≤ s' → (s' < s ∨ (s' = s ∧ (p' < p ∨ (p' = p ∧ h < m)))) → p' < mp → h ≤ 5 → ν 125 (48 * (s' - 1) + 8 * p' + h) = opn σ T L md (τ 92 51) (τ 92 52) s' p' h) (fun _ _ z _ => (6 - z.toNat : Nat)) ?_ N _ _ _ _ ⟨rfl, rfl, 0, rfl, by omega, j1, fun s' p' h q1 q2 q3 => j2 s' p' h q1 (by omega) q3⟩ (by omega)
    rintro k3 x y z ν ⟨rfl, rfl, m, rfl, hm, l1, l2⟩ rec3
    rw [Ok_ite]
    refine ⟨fun q3 => ?_, fun q3 => ?_⟩
    · rw [Ok_chkI]
      exact ⟨by omega, rec2 _ _ _ ⟨rfl, p + 1, by omega, by omega, l1, fun s' p' h q1 q2 q3 q4 => l2 s' p' h q1 (by omega) q3 q4⟩ (by omega)⟩
    · have rb3 : RB9 σ ν T b mp md L := RB9_of h (fun i a _ c => l1 i a c)
      have ix : (48 * ((s : Int) - 1) + 8 * (p : Int) + (m : Int)).toNat = 48 * (s - 1) + 8 * p + m := by omega
      rw [Ok_chkI, Ok_chkI, Ok_chkI, Ok_chkI, Ok_chkI, l1 92 (by decide) (by decide)]
      refine ⟨by omega, by omega, by omega, by omega, by omega, ?_⟩
      refine Ok_jq2 (fun (y : Int) (ν' : ySt) => y = opn σ T L md (τ 92 51) (τ 92 52) s p m ∧ (∀ i, i ≠ 123 → ν' i = ν i)) (fun y35 ν' hy => ?_) (fun j hj => ?_)
      · obtain ⟨hy, hν⟩ := hy
        have y01 : y35 = 0 ∨ y35 = 1 := by
          rw [hy]
          unfold opn
          split
          · exact Or.inr rfl
          · split
            · exact Or.inl rfl
            · exact Or.inr rfl
        rw [Ok_chk, Ok_chkA, ix, Ok_bnd, Ok_chkI]
        refine ⟨y01, by omega, by omega, rec3 _ _ _ _ ⟨rfl, rfl, m + 1, by omega, by omega, fun i a c => by rw [yset_off i c, hν i a]; exact l1 i a c, fun s' p' h q1 q2 q4 q5 => ?_⟩ (by omega)⟩
        by_cases c : s' = s ∧ p' = p ∧ h = m
        · rw [c.1, c.2.1, c.2.2, yset_at]
          exact hy
        · rw [yset_ne (by omega), hν 125 (by decide)]
          exact l2 s' p' h q1 (by omega) q4 q5
      · rw [Ok_ite]
        refine ⟨fun q4 => hj _ _ ⟨by unfold opn; rw [if_pos (Or.inl q4)], fun _ _ => rfl⟩, fun q4 => ?_⟩
        rw [Ok_ite]
        refine ⟨fun q5 => hj _ _ ⟨by unfold opn; rw [if_pos (Or.inr q5)], fun _ _ => rfl⟩, fun q5 => ?_⟩
        obtain ⟨r1, r2, r3, r4, r5, r6, r7, r8⟩ := rb3
        rw [Ok_bndR]
        refine (mo_isRight_ok (s := (s : Int)) (h := m) hN r2 r1 r5 r4 r6 r7 r8 hpp (by omega) (by omega)).mono ?_
        rintro ⟨r, ν'⟩ ⟨a1, a2⟩
        dsimp only at a1 a2 ⊢
        rw [Ok_ite]
        have hno : ¬ ((s : Int) = τ 92 51 ∨ (p : Int) = τ 92 52) := fun w => w.elim q4 q5
        refine ⟨fun q6 => hj _ _ ⟨?_, a2⟩, fun q6 => hj _ _ ⟨?_, a2⟩⟩
        · unfold opn
          rw [if_neg hno, if_pos (by rw [← a1]; exact q6)]
        · unfold opn
          rw [if_neg hno, if_neg (by rw [← a1]; exact q6)]
theorem lyF_ok {N T b mp md L : Nat} {σ τ : ySt} (hN : 100000 ≤ N) (h : RB9 σ τ T b mp md L) (h0 : ∀ u v, u < 6 → v < 6 → 0 ≤ τ 124 (6 * u + v) ∧ τ 124 (6 * u + v) ≤ 1000000) (h1 : ∀ u, u < 6 → τ 124 (6 * u + u) = 0) :
    Ok (lyF N τ) (fun τ' => (∀ i, i ≠ 123 → i ≠ 124 → i ≠ 125 → τ' i = τ i) ∧ MT 6 (fun u v => τ 124 (6 * u + v)) (fun u v => τ' 124 (6 * u + v)) ∧ ∀ s p h : Nat, 1 ≤ s → s ≤ 8 → p < mp → h ≤ 5 → τ' 125 (48 * (s - 1) + 8 * p + h) = opn σ T L md (τ 92 51) (τ 92 52) s p h) := by
  unfold lyF
  refine Ok_loopS1 (fun x ρ => ∃ c : Nat, x = c ∧ c ≤ 6 ∧ (∀ i, i ≠ 124 → ρ i = τ i) ∧ FW 6 c (fun u v => τ 124 (6 * u + v)) (fun u v => ρ 124 (6 * u + v))) (fun x _ => (6 - x.toNat : Nat)) ?_ N _ _ ⟨0, rfl, by omega, fun _ _ => rfl, FW_0 (fun a b ha hb => (h0 a b ha hb).1) h1⟩ (by omega)
  rintro k x ρ ⟨c, rfl, hc, i1, i2⟩ rec
  rw [Ok_ite]
  refine ⟨fun q => ?_, fun q => ?_⟩
  · have : c = 6 := by omega
    subst this
    refine (lyO_ok hN (RB9_of h (fun i _ a _ => i1 i a))).mono ?_
    rintro τ' ⟨a1, a2⟩
    refine ⟨fun i b1 b2 b3 => by rw [a1 i b1 b3]; exact i1 i b2, ?_, ?_⟩
    · rw [a1 124 (by decide) (by decide)]
      exact FW_MT i2
    · rw [i1 92 (by decide)] at a2
      exact a2
  have hcn : c < 6 := by omega
  have fb : ∀ a b, a < 6 → b < 6 → 0 ≤ ρ 124 (6 * a + b) ∧ ρ 124 (6 * a + b) ≤ 1000000 := fun a b ha hb => ⟨i2.2.1 a b ha hb, Int.le_trans (i2.1 a b ha hb) (h0 a b ha hb).2⟩
  have dg : ρ 124 (6 * c + c) = 0 := i2.2.2.1 c hcn
  obtain ⟨new, newd⟩ : ∃ new : Nat → Nat → Int, ∀ a b, new a b = min (ρ 124 (6 * a + b)) (ρ 124 (6 * a + c) + ρ 124 (6 * c + b)) := ⟨_, fun _ _ => rfl⟩
  have newrc : ∀ a, a < 6 → new a c = ρ 124 (6 * a + c) := fun a ha => by
    have := fb a c ha hcn
    rw [newd, dg]
    omega
  have newcr : ∀ b, b < 6 → new c b = ρ 124 (6 * c + b) := fun b hb => by
    have := fb c b hcn hb
    rw [newd, dg]
    omega
  refine Ok_loopS2 (fun x y ν => x = (c : Int) ∧ ∃ m : Nat, y = m ∧ m ≤ 36 ∧ (∀ i, i ≠ 124 → ν i = τ i) ∧ ∀ u v, u < 6 → v < 6 → ν 124 (6 * u + v) = if 6 * u + v < m then new u v else ρ 124 (6 * u + v)) (fun _ y _ => (36 - y.toNat : Nat)) ?_ N _ _ _ ⟨rfl, 0, rfl, by omega, i1, fun u v hu hv => by rw [if_neg (by omega)]⟩ (by omega)
  rintro k2 x y ν ⟨rfl, m, rfl, hm, j1, j2⟩ rec2
  rw [Ok_ite]
  refine ⟨fun q2 => ?_, fun q2 => ?_⟩
  · rw [Ok_chkI]
    exact ⟨by omega, rec _ _ ⟨c + 1, by omega, by omega, j1, FW_step hcn i2 (fun u v hu hv => by rw [j2 u v hu hv, if_pos (by omega), newd])⟩ (by omega)⟩
  · obtain ⟨a, b', ha, hb', hab⟩ : ∃ a b' : Nat, a < 6 ∧ b' < 6 ∧ m = 6 * a + b' := ⟨m / 6, m % 6, by omega, by omega, by omega⟩
    have td : ((m : Int)).tdiv 6 = a := by
      rw [Int.tdiv_eq_ediv_of_nonneg (by omega)]
      omega
    have tm : ((m : Int)).tmod 6 = b' := by
      rw [Int.tmod_eq_emod_of_nonneg (by omega)]
      omega
    have e1 : ((a : Int) * 6 + (c : Int)).toNat = 6 * a + c := by omega
    have e2 : (6 * (c : Int) + (b' : Int)).toNat = 6 * c + b' := by omega
    have vac : ν 124 (6 * a + c) = ρ 124 (6 * a + c) := by
      rw [j2 a c ha hcn]
      by_cases w : 6 * a + c < m
      · rw [if_pos w, newrc a ha]
      · rw [if_neg w]
    have vcb : ν 124 (6 * c + b') = ρ 124 (6 * c + b') := by
      rw [j2 c b' hcn hb']
      by_cases w : 6 * c + b' < m
      · rw [if_pos w, newcr b' hb']
      · rw [if_neg w]
    have vab : ν 124 m = ρ 124 (6 * a + b') := by rw [hab, j2 a b' ha hb', if_neg (by omega)]
    have b1 := fb a c ha hcn
    have b2 := fb c b' hcn hb'
    have b3 := fb a b' ha hb'
    rw [td, tm, e1, e2, vac, vcb, Int.toNat_natCast, vab]
    rw [Ok_chk, Ok_chkI, Ok_chkI, Ok_chkI, Ok_chkA, Ok_chkI, Ok_chk, Ok_chkI, Ok_chkI, Ok_chkA, Ok_chkI, Ok_chkA]
    refine ⟨by decide, by omega, by omega, by omega, by omega, by omega, by decide, by omega, by omega, by omega, by omega, by omega, ?_⟩
    refine Ok_jq1 (fun (ν' : ySt) => (∀ i, i ≠ 124 → ν' i = τ i) ∧ ∀ u v, u < 6 → v < 6 → ν' 124 (6 * u + v) = if 6 * u + v < m + 1 then new u v else ρ 124 (6 * u + v)) (fun ν' hν => ?_) (fun j hj => ?_)
    · rw [Ok_chkI]
      exact ⟨by omega, rec2 _ _ _ ⟨rfl, m + 1, by omega, by omega, hν.1, hν.2⟩ (by omega)⟩
    · have stp : ∀ (ν' : ySt) , ν' 124 m = new a b' → (∀ z, z ≠ m → ν' 124 z = ν 124 z) → ∀ u v, u < 6 → v < 6 → ν' 124 (6 * u + v) = if 6 * u + v < m + 1 then new u v else ρ 124 (6 * u + v) := by
        intro ν' z1 z2 u v hu hv
        by_cases w : 6 * u + v = m
        · have hu' : u = a ∧ v = b' := by omega
          rw [w, z1, if_pos (by omega), hu'.1, hu'.2]
        · rw [z2 _ w, j2 u v hu hv]
          by_cases w2 : 6 * u + v < m
          · rw [if_pos w2, if_pos (by omega)]
          · rw [if_neg w2, if_neg (by omega)]
      rw [Ok_ite]
      refine ⟨fun q3 => hj _ ⟨j1, stp ν (by rw [vab, newd]; omega) (fun _ _ => rfl)⟩, fun q3 => ?_⟩
      rw [Ok_chkA, Ok_bnd]
      exact ⟨by omega, hj _ ⟨fun i hi => by rw [yset_off i hi]; exact j1 i hi, stp _ (by rw [yset_at, newd]; omega) (fun z hz => yset_ne (by omega))⟩⟩
