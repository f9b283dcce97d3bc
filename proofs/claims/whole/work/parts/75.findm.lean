/-! the reference's best, cut into its loops -/
def fbC (N : Nat) (k14 : Int → ySt → Option (Int × ySt)) (x26 : Int) (σ28 : ySt) : Option (Int × ySt) :=
  loopS2 (fun k36 x33 x34 σ35 =>
    bndO (mo_stateMany N σ35) fun r38 =>
    if x34 ≥ r38 then
      chkI (x33 + (-1)) <|
      k14 (x33 + (-1)) σ35
    else
      chkI (x33 - 1) <|
      chkI (7776 * (x33 - 1)) <|
      chkI ((7776 * (x33 - 1)) + x34) <|
      chkA 7776 x34 <|
      chkA 70000 ((7776 * (x33 - 1)) + x34) <|
      bnd (yset σ35 128 (((7776 * (x33 - 1)) + x34)).toNat (σ35 129 (x34).toNat)) fun σ46 =>
      chkI (x34 + 1) <|
      k36 x33 (x34 + 1) σ46) N x26 0 σ28
def fbP (N : Nat) (k14 : Int → ySt → Option (Int × ySt)) (x19 : Int) (σ21 : ySt) : Option (Int × ySt) :=
  loopS2 (fun k29 x26 x27 σ28 =>
    bndO (mo_personMany σ28) fun r31 =>
    if x27 ≥ r31 then
      fbC N k14 x26 σ28
    else
      bndO (mo_stepBack N x27 σ28) fun σ50 =>
      chkI (x27 + 1) <|
      k29 x26 (x27 + 1) σ50) N x19 0 σ21
def fbS (N : Nat) (k14 : Int → ySt → Option (Int × ySt)) (x12 : Int) (σ13 : ySt) : Option (Int × ySt) :=
  loopS2 (fun k22 x19 x20 σ21 =>
    bndO (mo_stateMany N σ21) fun r24 =>
    if x20 ≥ r24 then
      fbP N k14 x19 σ21
    else
      bndO (mo_layState N x20 σ21) fun σ53 =>
      bndO (mo_isLawful N x19 σ53) fun r55 =>
      bnd (fun (y56 : Int) =>
        bnd (fun (y58 : Int) =>
          chkA 7776 x20 <|
          bnd (yset σ53 129 (x20).toNat y58) fun σ61 =>
          chkI (x20 + 1) <|
          k22 x19 (x20 + 1) σ61) fun j59 =>
        bnd (j59 (-1000000)) fun j64 =>
        if y56 = (-1000000) then
          j64
        else
          chkI (7776 * x19) <|
          chkI ((7776 * x19) + x20) <|
          chkA 70000 ((7776 * x19) + x20) <|
          if ¬ (σ53 128 (((7776 * x19) + x20)).toNat) = (-1000000) then
            chkI (7776 * x19) <|
            chkI ((7776 * x19) + x20) <|
            chkA 70000 ((7776 * x19) + x20) <|
            chkI (y56 + (σ53 128 (((7776 * x19) + x20)).toNat)) <|
            j59 (y56 + (σ53 128 (((7776 * x19) + x20)).toNat))
          else
            j64) fun j57 =>
      if r55 = 0 then
        j57 (-1000000)
      else
        bndO (mo_worthNow N x19 σ53) fun r76 =>
        j57 r76) N x12 0 σ13
def fbK (N : Nat) (σ7 : ySt) : Option (Int × ySt) :=
  loopS1 (fun k14 x12 σ13 =>
    if x12 ≤ 0 then
      bndO (mo_homeState N σ13) fun r17 =>
      chkA 70000 r17 <|
      some ((σ13 128 (r17).toNat), σ13)
    else
      fbS N k14 x12 σ13) N (σ7 92 48) σ7
def fbF (N : Nat) (σ4 : ySt) : Option (Int × ySt) :=
  loopS1 (fun k8 x6 σ7 =>
    bndO (mo_stateMany N σ7) fun r10 =>
    if x6 ≥ r10 then
      fbK N σ7
    else
      chkI (7776 * (σ7 92 48)) <|
      chkI ((7776 * (σ7 92 48)) + x6) <|
      chkA 70000 ((7776 * (σ7 92 48)) + x6) <|
      bnd (yset σ7 128 (((7776 * (σ7 92 48)) + x6)).toNat 0) fun σ80 =>
      chkI (x6 + 1) <|
      k8 (x6 + 1) σ80) N 0 σ4
theorem mo_findBest_eq (N : Nat) (a : Int) (σ : ySt) : mo_findBest N a σ =
  bnd (yset σ 92 50 a) fun σ1 =>
  bndO (mo_layTown N σ1) fun σ4 =>
  bnd (fbF N σ4) fun j5 =>
  if a ≤ 0 then
    j5
  else
    loop1 (fun k85 x84 =>
      chkA 2 (σ4 92 40) <|
      if x84 ≥ (σ4 99 ((σ4 92 40)).toNat) then
        j5
      else
        chkI (8 * (σ4 92 40)) <|
        chkI ((8 * (σ4 92 40)) + x84) <|
        chkA 16 ((8 * (σ4 92 40)) + x84) <|
        chkI ((σ4 116 (((8 * (σ4 92 40)) + x84)).toNat) * (σ4 92 49)) <|
        if ((σ4 116 (((8 * (σ4 92 40)) + x84)).toNat) * (σ4 92 49)) ≤ (σ4 92 48) then
          chkI (x84 + 1) <|
          k85 (x84 + 1)
        else
          some ((-1000000), σ4)) N 0 := rfl
def lawB (σ : ySt) (T L md mp mq : Nat) (fs fp : Int) (s x : Nat) : Bool := !(bany (fun p => decide (opn σ T L md fs fp s p (cnt (fun n => ((dg mp mq x n : Nat) : Int)) mq p).toNat = 0)) mp)
theorem lawB_iff {σ : ySt} {T L md mp mq : Nat} {fs fp : Int} {s x : Nat} : lawB σ T L md mp mq fs fp s x = true ↔ lwf σ T L md mp mq fs fp s x := by
  unfold lawB lwf
  rw [Bool.not_eq_true']
  constructor
  · intro h p hp e
    have : bany (fun p => decide (opn σ T L md fs fp s p (cnt (fun n => ((dg mp mq x n : Nat) : Int)) mq p).toNat = 0)) mp = true := (bany_iff mp).mpr ⟨p, hp, decide_eq_true e⟩
    rw [h] at this
    exact absurd this (by decide)
  · intro h
    apply Bool.eq_false_iff.mpr
    intro w
    obtain ⟨p, hp, e⟩ := (bany_iff mp).mp w
    exact h p hp (of_decide_eq_true e)
/-- the best from a state on, with so many strokes left -/
def VV (m K S : Nat) (wk : Nat → Nat → Option Int) (law : Nat → Nat → Bool) (g : Nat → Nat → Option Int) : Nat → Nat → Option Int
  | 0 => fun _ => some 0
  | j + 1 => stps m K (fun _ => wk) (fun y => if law (S - j) y then oadd (g (S - j) y) (VV m K S wk law g j y) else none) K
/-- a question laid out in the reference -/
def QF (σ τ : ySt) (T b mp mq me md L S : Nat) (what t hr fs fp : Int) (Mn : Nat → Nat → Int) : Prop :=
  (τ 92 40 = b ∧ b < 2 ∧ τ 95 b = mp ∧ mp ≤ 6 ∧ τ 97 b = mq ∧ mq ≤ 5 ∧ (0 < mq → 0 < mp)) ∧ (τ 92 50 = what ∧ 0 ≤ what ∧ what ≤ 2) ∧ (τ 92 47 = hr ∧ hr ≤ 999) ∧ (τ 92 48 = (S : Int) ∧ 1 ≤ S ∧ S ≤ 8) ∧ (τ 92 49 = t ∧ 1 ≤ t ∧ t ≤ 8) ∧ (τ 99 b = me ∧ me ≤ 8) ∧ (∀ k, k < me → (σ (T + 11) k = τ 114 (8 * b + k) ∧ 0 ≤ σ (T + 11) k ∧ σ (T + 11) k < mq) ∧ (σ (T + 12) k = τ 115 (8 * b + k) ∧ 0 ≤ σ (T + 12) k ∧ σ (T + 12) k < mp) ∧ (σ (T + 13) k = τ 116 (8 * b + k) ∧ 1 ≤ σ (T + 13) k ∧ σ (T + 13) k ≤ 8) ∧ (σ (T + 14) k = τ 117 (8 * b + k) ∧ 0 ≤ σ (T + 14) k ∧ σ (T + 14) k ≤ 999)) ∧ (∀ n, n < mq → (σ (T + 8) n = τ 111 (5 * b + n) ∧ 0 ≤ σ (T + 8) n ∧ σ (T + 8) n < mp) ∧ (σ (T + 9) n = τ 112 (5 * b + n) ∧ 0 ≤ σ (T + 9) n ∧ σ (T + 9) n ≤ 99)) ∧ (∀ u v, u < mp → v < mp → τ 124 (6 * u + v) = Mn u v ∧ 0 ≤ Mn u v) ∧ ∀ s p h : Nat, 1 ≤ s → s ≤ 8 → p < mp → h ≤ 5 → τ 125 (48 * (s - 1) + 8 * p + h) = opn σ T L md fs fp s p h
theorem QF_of {σ τ τ' : ySt} {T b mp mq me md L S : Nat} {what t hr fs fp : Int} {Mn : Nat → Nat → Int} (h : QF σ τ T b mp mq me md L S what t hr fs fp Mn) (e : ∀ i, i ≠ 126 → i ≠ 127 → i ≠ 128 → i ≠ 129 → i ≠ 130 → τ' i = τ i) : QF σ τ' T b mp mq me md L S what t hr fs fp Mn := by
  unfold QF at h ⊢
  rw [e 92 (by decide) (by decide) (by decide) (by decide) (by decide), e 95 (by decide) (by decide) (by decide) (by decide) (by decide), e 97 (by decide) (by decide) (by decide) (by decide) (by decide), e 99 (by decide) (by decide) (by decide) (by decide) (by decide), e 111 (by decide) (by decide) (by decide) (by decide) (by decide), e 112 (by decide) (by decide) (by decide) (by decide) (by decide), e 114 (by decide) (by decide) (by decide) (by decide) (by decide), e 115 (by decide) (by decide) (by decide) (by decide) (by decide), e 116 (by decide) (by decide) (by decide) (by decide) (by decide), e 117 (by decide) (by decide) (by decide) (by decide) (by decide), e 124 (by decide) (by decide) (by decide) (by decide) (by decide), e 125 (by decide) (by decide) (by decide) (by decide) (by decide)]
  exact h
theorem QF_n {σ τ : ySt} {T b mp mq me md L S N : Nat} {what t hr fs fp : Int} {Mn : Nat → Nat → Int} (hN : 100000 ≤ N) (h : QF σ τ T b mp mq me md L S what t hr fs fp Mn) : mo_stateMany N τ = some ((mp ^ mq : Nat) : Int) := mo_stateMany_ok hN h.1.1 h.1.2.1 h.1.2.2.1 h.1.2.2.2.1 h.1.2.2.2.2.1 h.1.2.2.2.2.2.1
theorem QF_p {σ τ : ySt} {T b mp mq me md L S : Nat} {what t hr fs fp : Int} {Mn : Nat → Nat → Int} (h : QF σ τ T b mp mq me md L S what t hr fs fp Mn) : mo_personMany τ = some (mq : Int) := mo_personMany_ok h.1.1 h.1.2.1 h.1.2.2.2.2.1
theorem fbC_ok {σ τ : ySt} {T b mp mq me md L S N s : Nat} {what t hr fs fp : Int} {Mn : Nat → Nat → Int} {k14 : Int → ySt → Option (Int × ySt)} {P : Int × ySt → Prop} (hN : 100000 ≤ N) (h : QF σ τ T b mp mq me md L S what t hr fs fp Mn) (hs : 1 ≤ s ∧ s ≤ 8)
    (hP : ∀ ν, (∀ i, i ≠ 128 → ν i = τ i) → (∀ j, (j < 7776 * (s - 1) ∨ 7776 * s ≤ j) → ν 128 j = τ 128 j) → (∀ x, x < mp ^ mq → ν 128 (7776 * (s - 1) + x) = τ 129 x) → Ok (k14 ((s - 1 : Nat) : Int) ν) P) : Ok (fbC N k14 s τ) P := by
  have hS := pow_le h.1.2.2.2.1 h.1.2.2.2.2.2.1
  unfold fbC
  refine Ok_loopS2 (fun y z ν => y = (s : Int) ∧ ∃ x : Nat, z = x ∧ x ≤ mp ^ mq ∧ (∀ i, i ≠ 128 → ν i = τ i) ∧ (∀ j, (j < 7776 * (s - 1) ∨ 7776 * s ≤ j) → ν 128 j = τ 128 j) ∧ ∀ u, u < x → ν 128 (7776 * (s - 1) + u) = τ 129 u) (fun _ z _ => (mp ^ mq - z.toNat : Nat)) ?_ N _ _ _ ⟨rfl, 0, rfl, by omega, fun _ _ => rfl, fun _ _ => rfl, fun u hu => absurd hu (Nat.not_lt_zero u)⟩ (by omega)
  rintro g y z ν ⟨rfl, x, rfl, hx, j1, j0, j2⟩ rec
  have hq := QF_of h (τ' := ν) (fun i _ _ a _ _ => j1 i a)
  rw [QF_n hN hq, bndO_s, Ok_ite]
  refine ⟨fun q => ?_, fun q => ?_⟩
  · rw [Ok_chkI, show (s : Int) + (-1) = ((s - 1 : Nat) : Int) from by omega]
    exact ⟨by omega, hP ν j1 j0 (fun u hu => j2 u (by omega))⟩
  · have ix : (7776 * ((s : Int) - 1) + (x : Int)).toNat = 7776 * (s - 1) + x := by omega
    rw [Ok_chkI, Ok_chkI, Ok_chkI, Ok_chkA, Ok_chkA, ix, Int.toNat_natCast, j1 129 (by decide), Ok_bnd, Ok_chkI]
    refine ⟨by omega, by omega, by omega, by omega, by omega, by omega, rec _ _ _ ⟨rfl, x + 1, by omega, by omega, fun i hi => by rw [yset_off i hi]; exact j1 i hi, fun j hj => by rw [yset_ne (by omega)]; exact j0 j hj, fun u hu => ?_⟩ (by omega)⟩
    by_cases c : u = x
    · rw [c, yset_at]
    · rw [yset_ne (by omega)]
      exact j2 u (by omega)
theorem fbP_ok {σ τ : ySt} {T b mp mq me md L S N s : Nat} {what t hr fs fp B : Int} {Mn : Nat → Nat → Int} {k14 : Int → ySt → Option (Int × ySt)} {P : Int × ySt → Prop} {f : Nat → Option Int} (hN : 100000 ≤ N) (h : QF σ τ T b mp mq me md L S what t hr fs fp Mn) (hs : 1 ≤ s ∧ s ≤ 8) (hB : 0 ≤ B ∧ B ≤ 700000) (hf : ∀ x, x < mp ^ mq → rpM (τ 129 x) (f x) ∧ bO B (f x))
    (hP : ∀ ν, (∀ i, i ≠ 128 → i ≠ 129 → i ≠ 130 → ν i = τ i) → (∀ j, (j < 7776 * (s - 1) ∨ 7776 * s ≤ j) → ν 128 j = τ 128 j) → (∀ x, x < mp ^ mq → rpM (ν 128 (7776 * (s - 1) + x)) (stps mp mq (fun _ => wkM what hr Mn) f mq x) ∧ bO (B + 5000) (stps mp mq (fun _ => wkM what hr Mn) f mq x)) → Ok (k14 ((s - 1 : Nat) : Int) ν) P) : Ok (fbP N k14 s τ) P := by
  have hmq := h.1.2.2.2.2.2.1
  unfold fbP
  refine Ok_loopS2 (fun y z ν => y = (s : Int) ∧ ∃ n : Nat, z = n ∧ n ≤ mq ∧ (∀ i, i ≠ 129 → i ≠ 130 → ν i = τ i) ∧ ∀ x, x < mp ^ mq → rpM (ν 129 x) (stps mp mq (fun _ => wkM what hr Mn) f n x) ∧ bO (B + 1000 * n) (stps mp mq (fun _ => wkM what hr Mn) f n x)) (fun _ z _ => (mq - z.toNat : Nat)) ?_ N _ _ _ ⟨rfl, 0, rfl, by omega, fun _ _ _ => rfl, fun x hx => ⟨(hf x hx).1, fun a ha => by have := (hf x hx).2 a ha; omega⟩⟩ (by omega)
  rintro g y z ν ⟨rfl, n, rfl, hn, j1, j2⟩ rec
  have hq := QF_of h (τ' := ν) (fun i _ _ _ a c => j1 i a c)
  rw [QF_p hq, bndO_s, Ok_ite]
  refine ⟨fun q => ?_, fun q => ?_⟩
  · have hne : n = mq := by omega
    subst hne
    refine fbC_ok hN hq hs (fun ν' a1 a0 a2 => hP ν' (fun i b1 b2 b3 => by rw [a1 i b1]; exact j1 i b2 b3) (fun j hj => by rw [a0 j hj, j1 128 (by decide) (by decide)]) (fun x hx => ?_))
    rw [a2 x hx]
    exact ⟨(j2 x hx).1, fun a ha => by have := (j2 x hx).2 a ha; omega⟩
  · have hnm : n < mq := by omega
    obtain ⟨⟨q1, q2, q3, q4, q5, q6, q7⟩, ⟨q8, _⟩, ⟨q9, q10⟩, _, _, _, _, _, q11, _⟩ := id hq
    rw [Ok_bndO]
    refine (mo_stepBack_ok (B := B + 1000 * n) hN ⟨q1, q2, q3, ⟨q7 (by omega), q4⟩, q5, q6, q8, q9, q10, q11⟩ hnm (by omega) j2).mono ?_
    rintro ν' ⟨a1, a2⟩
    rw [Ok_chkI]
    refine ⟨by omega, rec _ _ _ ⟨rfl, n + 1, by omega, by omega, fun i b1 b2 => by rw [a1 i b1 b2]; exact j1 i b1 b2, fun x hx => ⟨(a2 x hx).1, fun a ha => ?_⟩⟩ (by omega)⟩
    have := (a2 x hx).2 a ha
    omega
theorem fbS_ok {σ τ : ySt} {T b mp mq me md L S N s : Nat} {what t hr fs fp B : Int} {Mn : Nat → Nat → Int} {k14 : Int → ySt → Option (Int × ySt)} {P : Int × ySt → Prop} {V : Nat → Option Int} (hN : 100000 ≤ N) (h : QF σ τ T b mp mq me md L S what t hr fs fp Mn) (hs : 1 ≤ s ∧ s ≤ 8) (hB : 0 ≤ B ∧ B ≤ 600000) (hV : ∀ x, x < mp ^ mq → rpM (τ 128 (7776 * s + x)) (V x) ∧ bO B (V x))
    (hP : ∀ ν, (∀ i, i ≠ 126 → i ≠ 127 → i ≠ 128 → i ≠ 129 → i ≠ 130 → ν i = τ i) → (∀ j, (j < 7776 * (s - 1) ∨ 7776 * s ≤ j) → ν 128 j = τ 128 j) → (∀ x, x < mp ^ mq → rpM (ν 128 (7776 * (s - 1) + x)) (stps mp mq (fun _ => wkM what hr Mn) (fun y => if lawB σ T L md mp mq fs fp s y then oadd (wnV σ T me mq what t s (fun n => ((dg mp mq y n : Nat) : Int))) (V y) else none) mq x) ∧ bO (B + 13000) (stps mp mq (fun _ => wkM what hr Mn) (fun y => if lawB σ T L md mp mq fs fp s y then oadd (wnV σ T me mq what t s (fun n => ((dg mp mq y n : Nat) : Int))) (V y) else none) mq x)) → Ok (k14 ((s - 1 : Nat) : Int) ν) P) : Ok (fbS N k14 s τ) P := by
  obtain ⟨⟨q1, q2, q3, q4, q5, q6, q7⟩, ⟨q8, q8a⟩, ⟨q9, q10⟩, _, ⟨q49, q49a⟩, ⟨q99, q99a⟩, qe, qh, q11, qo⟩ := id h
  have hS := pow_le q4 q6
  obtain ⟨f, hf⟩ : ∃ f : Nat → Option Int, ∀ y, f y = if lawB σ T L md mp mq fs fp s y then oadd (wnV σ T me mq what t s (fun n => ((dg mp mq y n : Nat) : Int))) (V y) else none := ⟨_, fun _ => rfl⟩
  have hff : f = fun y => if lawB σ T L md mp mq fs fp s y then oadd (wnV σ T me mq what t s (fun n => ((dg mp mq y n : Nat) : Int))) (V y) else none := funext hf
  rw [← hff] at hP
  unfold fbS
  refine Ok_loopS2 (fun y z ν => y = (s : Int) ∧ ∃ x : Nat, z = x ∧ x ≤ mp ^ mq ∧ (∀ i, i ≠ 126 → i ≠ 127 → i ≠ 129 → ν i = τ i) ∧ ∀ u, u < x → rpM (ν 129 u) (f u) ∧ bO (B + 8000) (f u)) (fun _ z _ => (mp ^ mq - z.toNat : Nat)) ?_ N _ _ _ ⟨rfl, 0, rfl, by omega, fun _ _ _ _ => rfl, fun u hu => absurd hu (Nat.not_lt_zero u)⟩ (by omega)
  rintro g y z ν ⟨rfl, x, rfl, hx, j1, j2⟩ rec
  have hq := QF_of h (τ' := ν) (fun i a c _ d _ => j1 i a c d)
  rw [QF_n hN hq, bndO_s, Ok_ite]
  refine ⟨fun q => ?_, fun q => ?_⟩
  · refine fbP_ok (B := B + 8000) (f := f) hN hq hs (by omega) (fun u hu => j2 u (by omega)) (fun ν' a1 a2 a3 => hP ν' (fun i b1 b2 b3 b4 b5 => by rw [a1 i b3 b4 b5]; exact j1 i b1 b2 b4) (fun j hj => by rw [a2 j hj, j1 128 (by decide) (by decide) (by decide)]) (fun u hu => ⟨(a3 u hu).1, fun a ha => ?_⟩))
    have := (a3 u hu).2 a ha
    omega
  · have hxx : x < mp ^ mq := by omega
    obtain ⟨⟨p1, p2, p3, p4, p5, p6, p7⟩, ⟨p8, p8a⟩, ⟨p9, p10⟩, _, ⟨p49, p49a⟩, ⟨p99, p99a⟩, pe, ph, p11, po⟩ := id hq
    rw [Ok_bndO]
    refine (mo_layState_ok hN p1 p2 p3 p4 p5 p6 hxx).mono ?_
    rintro μ ⟨l1, l2, l3⟩
    have hq2 := QF_of hq (τ' := μ) (fun i a c _ _ _ => l1 i a c)
    obtain ⟨⟨r1, r2, r3, r4, r5, r6, r7⟩, ⟨r8, r8a⟩, ⟨r9, r10⟩, _, ⟨r49, r49a⟩, ⟨r99, r99a⟩, re, rh, r11, ro⟩ := id hq2
    rw [Ok_bndO]
    refine (mo_isLawful_ok hN r1 r2 r3 r4 r6 hs ro l3).mono ?_
    intro r hr'
    have hv128 := hV x hxx
    have m128 : μ 128 = τ 128 := by rw [l1 128 (by decide) (by decide), j1 128 (by decide) (by decide) (by decide)]
    refine Ok_jq1 (fun (y : Int) => rpM y (if lawB σ T L md mp mq fs fp s x then wnV σ T me mq what t s (fun n => ((dg mp mq x n : Nat) : Int)) else none) ∧ ∀ a, (if lawB σ T L md mp mq fs fp s x then wnV σ T me mq what t s (fun n => ((dg mp mq x n : Nat) : Int)) else none) = some a → -1000 ≤ a ∧ a ≤ 8000) (fun y56 hy => ?_) (fun k hk => ?_)
    · refine Ok_jq1 (fun (y : Int) => rpM y (f x) ∧ bO (B + 8000) (f x)) (fun y58 hy2 => ?_) (fun k hk => ?_)
      · rw [Ok_chkA, Int.toNat_natCast, Ok_bnd, Ok_chkI]
        refine ⟨by omega, by omega, rec _ _ _ ⟨rfl, x + 1, by omega, by omega, fun i a1 a2 a3 => by rw [yset_off i a3, l1 i a1 a2]; exact j1 i a1 a2 a3, fun u hu => ?_⟩ (by omega)⟩
        by_cases c : u = x
        · rw [c, yset_at]
          exact hy2
        · rw [yset_ne (by omega), l1 129 (by decide) (by decide)]
          exact j2 u (by omega)
      · obtain ⟨hy, hyb⟩ := hy
        obtain ⟨o, ho⟩ : ∃ o, (if lawB σ T L md mp mq fs fp s x then wnV σ T me mq what t s (fun n => ((dg mp mq x n : Nat) : Int)) else none) = o := ⟨_, rfl⟩
        rw [ho] at hy hyb
        have hfx : f x = oadd o (V x) := by
          rw [hf, ← ho]
          by_cases c : lawB σ T L md mp mq fs fp s x = true
          · rw [if_pos c, if_pos c]
          · rw [if_neg c, if_neg c]
            exact none_oadd.symm
        refine Ok_jq (f x = none) (fun e => hk _ ⟨Or.inl ⟨e, rfl⟩, fun a ha => by rw [e] at ha; cases ha⟩) (fun j64 hj64 => ?_)
        rw [Ok_ite]
        refine ⟨fun c => hj64 ?_, fun c => ?_⟩
        · rcases hy with ⟨e, _⟩ | ⟨a, e, e2⟩
          · rw [hfx, e]
            exact none_oadd
          · have := hyb a e
            omega
        · obtain ⟨a, ea, eya⟩ : ∃ a, o = some a ∧ y56 = a := by
            rcases hy with ⟨_, e2⟩ | ⟨a, e, e2⟩
            · exact absurd e2 c
            · exact ⟨a, e, e2⟩
          have hab := hyb a ea
          have ix : (7776 * (s : Int) + (x : Int)).toNat = 7776 * s + x := by omega
          rw [Ok_chkI, Ok_chkI, Ok_chkA, ix, m128, Ok_ite]
          refine ⟨by omega, by omega, by omega, fun c2 => ?_, fun c2 => hj64 ?_⟩
          · obtain ⟨d, ed, evd⟩ : ∃ d, V x = some d ∧ τ 128 (7776 * s + x) = d := by
              rcases hv128.1 with ⟨_, e2⟩ | ⟨d, e, e2⟩
              · exact absurd e2 c2
              · exact ⟨d, e, e2⟩
            have hdb := hv128.2 d ed
            rw [evd, eya, Ok_chkI, Ok_chkI, Ok_chkA, Ok_chkI]
            refine ⟨by omega, by omega, by omega, by omega, hk _ ⟨Or.inr ⟨a + d, by rw [hfx, ea, ed]; rfl, rfl⟩, fun z hz => ?_⟩⟩
            rw [hfx, ea, ed] at hz
            have : a + d = z := by injection hz
            omega
          · rcases hv128.1 with ⟨e, _⟩ | ⟨d, e, e2⟩
            · rw [hfx, e]
              exact oadd_none
            · have := hv128.2 d e
              have := Classical.not_not.mp c2
              omega
    · rcases hr' with ⟨r1', lw⟩ | ⟨r0', lw⟩
      · have hlb := lawB_iff.mpr lw
        rw [r1', if_neg (show ¬ (1 : Int) = 0 by decide), Ok_bndO]
        have hwn : WN σ μ T b mp mq me what t (fun n => ((dg mp mq x n : Nat) : Int)) := ⟨r1, r2, r99, r99a, r5, r6, r49, r49a, r8, r8a, re, rh, l2⟩
        refine (mo_worthNow_ok (s := (s : Int)) hN hwn).mono ?_
        rintro w ⟨w1, w2⟩
        refine hk _ ⟨?_, ?_⟩
        · rw [if_pos hlb]; exact w1
        · rw [if_pos hlb]; exact w2
      · have hlb : ¬ lawB σ T L md mp mq fs fp s x = true := fun w => lw (lawB_iff.mp w)
        rw [r0', if_pos rfl]
        refine hk _ ⟨?_, ?_⟩
        · rw [if_neg hlb]; exact Or.inl ⟨rfl, rfl⟩
        · rw [if_neg hlb]; exact fun a ha => by cases ha
def homeV (σ : ySt) (T n : Nat) : Nat := (σ (T + 8) n).toNat
/-- the table of what comes -/
def CM (σ ν : ySt) (T L md mp mq me S : Nat) (what t hr fs fp : Int) (Mn : Nat → Nat → Int) (s : Nat) : Prop := ∀ u, s ≤ u → u ≤ S → ∀ x, x < mp ^ mq → rpM (ν 128 (7776 * u + x)) (VV mp mq S (wkM what hr Mn) (lawB σ T L md mp mq fs fp) (fun s y => wnV σ T me mq what t s (fun n => ((dg mp mq y n : Nat) : Int))) (S - u) x) ∧ bO (13000 * ((S - u : Nat) : Int)) (VV mp mq S (wkM what hr Mn) (lawB σ T L md mp mq fs fp) (fun s y => wnV σ T me mq what t s (fun n => ((dg mp mq y n : Nat) : Int))) (S - u) x)
theorem fbK_ok {σ τ : ySt} {T b mp mq me md L S N : Nat} {what t hr fs fp : Int} {Mn : Nat → Nat → Int} (hN : 100000 ≤ N) (h : QF σ τ T b mp mq me md L S what t hr fs fp Mn) (hc : CM σ τ T L md mp mq me S what t hr fs fp Mn S) :
    Ok (fbK N τ) (fun r => (∀ i, i ≠ 126 → i ≠ 127 → i ≠ 128 → i ≠ 129 → i ≠ 130 → r.2 i = τ i) ∧ CM σ r.2 T L md mp mq me S what t hr fs fp Mn 0 ∧ rpM r.1 (VV mp mq S (wkM what hr Mn) (lawB σ T L md mp mq fs fp) (fun s y => wnV σ T me mq what t s (fun n => ((dg mp mq y n : Nat) : Int))) S (enc mp (homeV σ T) mq))) := by
  obtain ⟨⟨q1, q2, q3, q4, q5, q6, q7⟩, ⟨q8, q8a⟩, ⟨q9, q10⟩, ⟨q48, q48a⟩, ⟨q49, q49a⟩, ⟨q99, q99a⟩, qe, qh, q11, qo⟩ := id h
  have hS := pow_le q4 q6
  have hhome : enc mp (homeV σ T) mq < mp ^ mq := enc_lt mq (fun n hn => by
    have := (qh n hn).1
    unfold homeV
    omega)
  unfold fbK
  rw [q48]
  refine Ok_loopS1 (fun y ν => ∃ s : Nat, y = s ∧ s ≤ S ∧ (∀ i, i ≠ 126 → i ≠ 127 → i ≠ 128 → i ≠ 129 → i ≠ 130 → ν i = τ i) ∧ CM σ ν T L md mp mq me S what t hr fs fp Mn s) (fun y _ => y.toNat) ?_ N _ _ ⟨S, rfl, Nat.le_refl S, fun _ _ _ _ _ _ => rfl, hc⟩ (by omega)
  rintro g y ν ⟨s, rfl, hs, j1, j2⟩ rec
  have hq := QF_of h (τ' := ν) j1
  rw [Ok_ite]
  refine ⟨fun q => ?_, fun q => ?_⟩
  · have hs0 : s = 0 := by omega
    subst hs0
    obtain ⟨⟨p1, p2, p3, p4, p5, p6, p7⟩, _, _, _, _, _, _, ph, _, _⟩ := id hq
    have c0 := j2 0 (Nat.le_refl 0) (Nat.zero_le S) _ hhome
    rw [Nat.mul_zero, Nat.zero_add, Nat.sub_zero] at c0
    rw [mo_homeState_ok (v := homeV σ T) hN p1 p2 p3 p4 p5 p6 (fun n hn => by
      have := (ph n hn).1
      unfold homeV
      exact ⟨by omega, by omega⟩), bndO_s, Ok_chkA, Int.toNat_natCast, Ok_some]
    exact ⟨by omega, j1, j2, c0.1⟩
  · have hs1 : 1 ≤ s := by omega
    refine fbS_ok (B := 13000 * ((S - s : Nat) : Int)) (V := VV mp mq S (wkM what hr Mn) (lawB σ T L md mp mq fs fp) (fun s y => wnV σ T me mq what t s (fun n => ((dg mp mq y n : Nat) : Int))) (S - s)) hN hq ⟨hs1, by omega⟩ (by omega) (fun x hx => j2 s (Nat.le_refl s) hs x hx) (fun ν' a1 a2 a3 => rec _ _ ⟨s - 1, rfl, by omega, fun i b1 b2 b3 b4 b5 => by rw [a1 i b1 b2 b3 b4 b5]; exact j1 i b1 b2 b3 b4 b5, fun u hu1 hu2 x hx => ?_⟩ (by omega))
    by_cases c : u = s - 1
    · subst c
      have e : S - (s - 1) = (S - s) + 1 := by omega
      have e2 : S - (S - s) = s := by omega
      have key := a3 x hx
      have hVV : VV mp mq S (wkM what hr Mn) (lawB σ T L md mp mq fs fp) (fun s y => wnV σ T me mq what t s (fun n => ((dg mp mq y n : Nat) : Int))) (S - (s - 1)) x = stps mp mq (fun _ => wkM what hr Mn) (fun y => if lawB σ T L md mp mq fs fp s y then oadd (wnV σ T me mq what t s (fun n => ((dg mp mq y n : Nat) : Int))) (VV mp mq S (wkM what hr Mn) (lawB σ T L md mp mq fs fp) (fun s y => wnV σ T me mq what t s (fun n => ((dg mp mq y n : Nat) : Int))) (S - s) y) else none) mq x := by
        rw [e]
        show stps mp mq _ (fun y => if lawB σ T L md mp mq fs fp (S - (S - s)) y then oadd (wnV σ T me mq what t ((S - (S - s) : Nat) : Int) _) _ else none) mq x = _
        rw [e2]
      rw [hVV]
      refine ⟨key.1, fun a ha => ?_⟩
      have := key.2 a ha
      omega
    · rw [a2 _ (by omega)]
      exact j2 u (by omega) hu2 x hx
theorem fbF_ok {σ τ : ySt} {T b mp mq me md L S N : Nat} {what t hr fs fp : Int} {Mn : Nat → Nat → Int} (hN : 100000 ≤ N) (h : QF σ τ T b mp mq me md L S what t hr fs fp Mn) :
    Ok (fbF N τ) (fun r => (∀ i, i ≠ 126 → i ≠ 127 → i ≠ 128 → i ≠ 129 → i ≠ 130 → r.2 i = τ i) ∧ CM σ r.2 T L md mp mq me S what t hr fs fp Mn 0 ∧ rpM r.1 (VV mp mq S (wkM what hr Mn) (lawB σ T L md mp mq fs fp) (fun s y => wnV σ T me mq what t s (fun n => ((dg mp mq y n : Nat) : Int))) S (enc mp (homeV σ T) mq))) := by
  obtain ⟨⟨q1, q2, q3, q4, q5, q6, q7⟩, _, _, ⟨q48, q48a⟩, _⟩ := id h
  have hS := pow_le q4 q6
  unfold fbF
  refine Ok_loopS1 (fun y ν => ∃ x : Nat, y = x ∧ x ≤ mp ^ mq ∧ (∀ i, i ≠ 128 → ν i = τ i) ∧ ∀ u, u < x → ν 128 (7776 * S + u) = 0) (fun y _ => (mp ^ mq - y.toNat : Nat)) ?_ N _ _ ⟨0, rfl, by omega, fun _ _ => rfl, fun u hu => absurd hu (Nat.not_lt_zero u)⟩ (by omega)
  rintro g y ν ⟨x, rfl, hx, j1, j2⟩ rec
  have hq := QF_of h (τ' := ν) (fun i _ _ a _ _ => j1 i a)
  rw [QF_n hN hq, bndO_s, Ok_ite]
  refine ⟨fun q => ?_, fun q => ?_⟩
  · refine (fbK_ok hN hq (fun u hu1 hu2 x' hx' => ?_)).mono ?_
    · have : u = S := by omega
      subst this
      rw [Nat.sub_self, j2 x' (by omega)]
      exact ⟨Or.inr ⟨0, rfl, rfl⟩, fun a ha => by
        have : (0 : Int) = a := by injection ha
        omega⟩
    · rintro r ⟨a1, a2, a3⟩
      exact ⟨fun i b1 b2 b3 b4 b5 => by rw [a1 i b1 b2 b3 b4 b5]; exact j1 i b3, a2, a3⟩
  · have ix : (7776 * (S : Int) + (x : Int)).toNat = 7776 * S + x := by omega
    rw [j1 92 (by decide), q48, Ok_chkI, Ok_chkI, Ok_chkA, ix, Ok_bnd, Ok_chkI]
    refine ⟨by omega, by omega, by omega, by omega, rec _ _ ⟨x + 1, by omega, by omega, fun i hi => by rw [yset_off i hi]; exact j1 i hi, fun u hu => ?_⟩ (by omega)⟩
    by_cases c : u = x
    · rw [c, yset_at]
    · rw [yset_ne (by omega)]
      exact j2 u (by omega)
/-- an errand that no stroke is left for -/
def late (σ : ySt) (T me S : Nat) (t : Int) : Bool := bany (fun k => decide ((S : Int) < σ (T + 13) k * t)) me
theorem mo_findBest_ok {N T b mp mq md mw me L S : Nat} {W : Nat → Int} {σ τ : ySt} {what t hr fs fp : Int} (hN : 100000 ≤ N) (h : TD σ τ T b mp mq md mw me L W) (hwh : 0 ≤ what ∧ what ≤ 2) (h47 : τ 92 47 = hr) (hhr : hr ≤ 999) (h48 : τ 92 48 = (S : Int)) (hS : 1 ≤ S ∧ S ≤ 8) (h49 : τ 92 49 = t) (ht : 1 ≤ t ∧ t ≤ 8) (h51 : τ 92 51 = fs) (h52 : τ 92 52 = fp) (hA : τ 92 53 < 0 ∨ ∃ A B M : Nat, τ 92 53 = A ∧ τ 92 54 = B ∧ τ 92 55 = M ∧ A < 6 ∧ B < 6 ∧ A ≠ B ∧ M ≤ 1000000) :
    Ok (mo_findBest N what τ) (fun r => FrQ r.2 τ ∧ (∀ k, k ≠ 50 → r.2 92 k = τ 92 k) ∧ ∃ Mn : Nat → Nat → Int, MT 6 (Vq τ b) Mn ∧ (if decide (0 < what) && late σ T me S t then r.1 = -1000000 else QF σ r.2 T b mp mq me md L S what t hr fs fp Mn ∧ CM σ r.2 T L md mp mq me S what t hr fs fp Mn 0 ∧ rpM r.1 (VV mp mq S (wkM what hr Mn) (lawB σ T L md mp mq fs fp) (fun s y => wnV σ T me mq what t s (fun n => ((dg mp mq y n : Nat) : Int))) S (enc mp (homeV σ T) mq)))) := by
  have h9 := TD_RB9 h
  obtain ⟨hT, h05, h40, hb, g1, g2, g3, ⟨w1, w2, w3⟩, wn, ft, g5, g6, g7, g8, g9, ru, hru, huu⟩ := id h
  have hmp := g1.2.1
  have hmq := g2.2.1
  rw [mo_findBest_eq, Ok_bnd]
  generalize hτ1 : yset τ 92 50 what = τ1
  have t1 : ∀ i, i ≠ 92 → τ1 i = τ i := fun i hi => by rw [← hτ1, yset_off i hi]
  have t92 : ∀ k, k ≠ 50 → τ1 92 k = τ 92 k := fun k hk => by rw [← hτ1, yset_ne (by omega)]
  have t50 : τ1 92 50 = what := by rw [← hτ1, yset_at]
  have f1 : FrQ τ1 τ := by rw [← hτ1]; exact FrQ_set (by omega)
  have hbs : ∀ u v, bs τ1 b u v = bs τ b u v := fun u v => by unfold bs; rw [t1 110 (by decide)]
  have hVq : ∀ u v, Vq τ1 b u v = Vq τ b u v := fun u v => by
    unfold Vq
    rw [hbs, hbs, t92 53 (by decide), t92 54 (by decide), t92 55 (by decide)]
  have h1 := TD_FrQ h f1
  rw [Ok_bndO]
  refine (mo_layTown_ok hN (TD_RB9 h1) (fun u v hu hv => by rw [hbs, w1 u v hu hv]; exact W_rg w2 w3 hu hv) (by rw [t92 53 (by decide), t92 54 (by decide), t92 55 (by decide)]; exact hA)).mono ?_
  rintro τ4 ⟨a1, a2, a3⟩
  have e92 : τ4 92 = τ1 92 := a1 92 (by decide) (by decide) (by decide)
  have E : ∀ i, 95 ≤ i → i ≤ 122 → τ4 i = τ i := fun i x1 x2 => by rw [a1 i (by omega) (by omega) (by omega), t1 i (by omega)]
  have mt : MT 6 (Vq τ b) (fun u v => τ4 124 (6 * u + v)) := MT_congr a2 (fun u v _ _ => (hVq u v).symm) (fun _ _ _ _ => rfl)
  have hVpos : ∀ u v, u < 6 → v < 6 → 0 ≤ Vq τ b u v := fun u v hu hv => by
    unfold Vq
    split
    · rcases hA with w | ⟨A, B, M, x1, x2, x3, _⟩
      · omega
      · omega
    · rw [w1 u v hu hv]
      exact (W_rg w2 w3 hu hv).1
  have qf : QF σ τ4 T b mp mq me md L S what t hr fs fp (fun u v => τ4 124 (6 * u + v)) := by
    refine ⟨⟨by rw [e92, t92 40 (by decide)]; exact h40, hb, by rw [E 95 (by decide) (by decide)]; exact g1.2.2, hmp, by rw [E 97 (by decide) (by decide)]; exact g2.2.2, hmq, fun q => ?_⟩, ⟨by rw [e92]; exact t50, hwh⟩, ⟨by rw [e92, t92 47 (by decide)]; exact h47, hhr⟩, ⟨by rw [e92, t92 48 (by decide)]; exact h48, hS⟩, ⟨by rw [e92, t92 49 (by decide)]; exact h49, ht⟩, ⟨by rw [E 99 (by decide) (by decide)]; exact g5.2.2.1, g5.2.1⟩, fun k hk => ?_, fun n hn => ?_, fun u v hu hv => ⟨rfl, ?_⟩, fun s p m s1 s2 hp hm => ?_⟩
    · have := (g8 0 q).1
      omega
    · rw [E 114 (by decide) (by decide), E 115 (by decide) (by decide), E 116 (by decide) (by decide), E 117 (by decide) (by decide)]
      exact g5.2.2.2 k hk
    · rw [E 111 (by decide) (by decide), E 112 (by decide) (by decide)]
      exact g8 n hn
    · exact MT_pos mt hVpos (by omega) (by omega)
    · rw [a3 s p m s1 s2 hp hm, t92 51 (by decide), t92 52 (by decide), h51, h52]
  have f4 : FrQ τ4 τ := FrQ_tr f1 (FrQ_off a1)
  have fin : Ok (fbF N τ4) (fun r => FrQ r.2 τ ∧ (∀ k, k ≠ 50 → r.2 92 k = τ 92 k) ∧ QF σ r.2 T b mp mq me md L S what t hr fs fp (fun u v => τ4 124 (6 * u + v)) ∧ CM σ r.2 T L md mp mq me S what t hr fs fp (fun u v => τ4 124 (6 * u + v)) 0 ∧ rpM r.1 (VV mp mq S (wkM what hr (fun u v => τ4 124 (6 * u + v))) (lawB σ T L md mp mq fs fp) (fun s y => wnV σ T me mq what t s (fun n => ((dg mp mq y n : Nat) : Int))) S (enc mp (homeV σ T) mq))) :=
    (fbF_ok hN qf).mono (fun r hr' => ⟨FrQ_tr f4 ⟨fun i x1 x2 => hr'.1 i (by omega) (by omega) (by omega) (by omega) (by omega), fun k _ => by rw [hr'.1 92 (by decide) (by decide) (by decide) (by decide) (by decide)]⟩, fun k hk => by rw [hr'.1 92 (by decide) (by decide) (by decide) (by decide) (by decide), e92, t92 k hk], QF_of qf hr'.1, hr'.2.1, hr'.2.2⟩)
  have fin2 : late σ T me S t = false ∨ ¬ 0 < what → Ok (fbF N τ4) (fun r => FrQ r.2 τ ∧ (∀ k, k ≠ 50 → r.2 92 k = τ 92 k) ∧ ∃ Mn : Nat → Nat → Int, MT 6 (Vq τ b) Mn ∧ (if decide (0 < what) && late σ T me S t then r.1 = -1000000 else QF σ r.2 T b mp mq me md L S what t hr fs fp Mn ∧ CM σ r.2 T L md mp mq me S what t hr fs fp Mn 0 ∧ rpM r.1 (VV mp mq S (wkM what hr Mn) (lawB σ T L md mp mq fs fp) (fun s y => wnV σ T me mq what t s (fun n => ((dg mp mq y n : Nat) : Int))) S (enc mp (homeV σ T) mq)))) := by
    intro hl
    refine fin.mono (fun r hr' => ⟨hr'.1, hr'.2.1, _, mt, ?_⟩)
    rw [if_neg]
    · exact hr'.2.2
    · rcases hl with e | e
      · rw [e]; simp
      · simp [e]
  refine Ok_jq (late σ T me S t = false ∨ ¬ 0 < what) fin2 (fun j hj => ?_)
  rw [Ok_ite]
  refine ⟨fun q => hj (Or.inr (by omega)), fun q => ?_⟩
  have hme8 := g5.2.1
  refine Ok_loop1 (fun x => ∃ k : Nat, x = k ∧ k ≤ me ∧ bany (fun k => decide ((S : Int) < σ (T + 13) k * t)) k = false) (fun x => (me - x.toNat : Nat)) ?_ N _ ⟨0, rfl, by omega, rfl⟩ (by omega)
  rintro g x ⟨k, rfl, hk, hb0⟩ rec
  rw [e92, t92 40 (by decide), h40, Ok_chkA, Int.toNat_natCast, E 99 (by decide) (by decide), g5.2.2.1, Ok_ite]
  refine ⟨by omega, fun q2 => hj (Or.inl ?_), fun q2 => ?_⟩
  · unfold late
    rw [show me = k from by omega]
    exact hb0
  · have hkm : k < me := by omega
    have ix : (8 * (b : Int) + (k : Int)).toNat = 8 * b + k := by omega
    have hst := (g5.2.2.2 k hkm).2.2.1
    have hm := mul_rg ⟨hst.2.1, hst.2.2⟩ ht
    have hs : bany (fun k => decide ((S : Int) < σ (T + 13) k * t)) (k + 1) = (bany (fun k => decide ((S : Int) < σ (T + 13) k * t)) k || decide ((S : Int) < σ (T + 13) k * t)) := rfl
    have hbm := g5.2.1
    rw [Ok_chkI, Ok_chkI, Ok_chkA, ix, E 116 (by decide) (by decide), ← hst.1, t92 49 (by decide), h49, t92 48 (by decide), h48, Ok_chkI, Ok_ite]
    refine ⟨by omega, by omega, by omega, hm, fun q3 => ?_, fun q3 => ?_⟩
    · rw [Ok_chkI]
      exact ⟨by omega, rec _ ⟨k + 1, by omega, by omega, by rw [hs, hb0, decide_eq_false (by omega)]; rfl⟩ (by omega)⟩
    · rw [Ok_some]
      refine ⟨f4, fun k' hk' => by dsimp only; rw [e92, t92 k' hk'], _, mt, ?_⟩
      have hl : late σ T me S t = true := (bany_iff me).mpr ⟨k, hkm, decide_eq_true (by omega)⟩
      rw [hl, decide_eq_true (by omega : 0 < what), if_pos (by decide)]
