/-! states that can be: the reference finds them -/
def faC (N : Nat) (r6 : Int) (k17 : Int → ySt → Option ySt) (x24 : Int) (σ26 : ySt) : Option ySt :=
  loopS2 (fun k34 x31 x32 σ33 =>
    if x32 ≥ r6 then
      chkI (x31 + (-1)) <|
      k17 (x31 + (-1)) σ33
    else
      chkI (x31 - 1) <|
      chkI (7776 * (x31 - 1)) <|
      chkI ((7776 * (x31 - 1)) + x32) <|
      chkA 7776 x32 <|
      chk ((σ33 134 (x32).toNat) = 0 ∨ (σ33 134 (x32).toNat) = 1) <|
      chkA 70000 ((7776 * (x31 - 1)) + x32) <|
      bnd (yset σ33 133 (((7776 * (x31 - 1)) + x32)).toNat (σ33 134 (x32).toNat)) fun σ43 =>
      chkI (x32 + 1) <|
      k34 x31 (x32 + 1) σ43) N x24 0 σ26
def faB (N : Nat) (r6 : Int) (k17 : Int → ySt → Option ySt) (x19 : Int) (σ21 : ySt) : Option ySt :=
  loopS2 (fun k27 x24 x25 σ26 =>
    bndO (mo_personMany σ26) fun r29 =>
    if x25 ≥ r29 then
      faC N r6 k17 x24 σ26
    else
      bndO (mo_stepAll N x25 σ26) fun σ47 =>
      chkI (x25 + 1) <|
      k27 x24 (x25 + 1) σ47) N x19 0 σ21
def faA (N : Nat) (r6 : Int) (k17 : Int → ySt → Option ySt) (x15 : Int) (σ16 : ySt) : Option ySt :=
  if x15 ≤ 0 then
    some σ16
  else
    loopS2 (fun k22 x19 x20 σ21 =>
      if x20 ≥ r6 then
        faB N r6 k17 x19 σ21
      else
        chkI (7776 * x19) <|
        chkI ((7776 * x19) + x20) <|
        chkA 70000 ((7776 * x19) + x20) <|
        bnd (fun (y52 : Int) =>
          chk (y52 = 0 ∨ y52 = 1) <|
          chkA 7776 x20 <|
          bnd (yset σ21 134 (x20).toNat y52) fun σ56 =>
          chkI (x20 + 1) <|
          k22 x19 (x20 + 1) σ56) fun j53 =>
        if (σ21 132 (((7776 * x19) + x20)).toNat) = 0 then
          j53 0
        else
          chkI (7776 * x19) <|
          chkI ((7776 * x19) + x20) <|
          chkA 70000 ((7776 * x19) + x20) <|
          if (σ21 133 (((7776 * x19) + x20)).toNat) = 0 then
            j53 0
          else
            j53 1) N x15 0 σ16
def faZ (N : Nat) (a b r6 : Int) (k13 : Int → ySt → Option ySt) (x69 : Int) (σ71 : ySt) : Option ySt :=
  loopS2 (fun k79 x76 x77 σ78 =>
    if x77 ≥ r6 then
      chkI (x76 + 1) <|
      k13 (x76 + 1) σ78
    else
      bndO (mo_layState N x77 σ78) fun σ83 =>
      chkI (7776 * x76) <|
      chkI ((7776 * x76) + x77) <|
      chkA 7776 x77 <|
      bnd (fun (y87 : Int) =>
        chk (y87 = 0 ∨ y87 = 1) <|
        chkA 70000 ((7776 * x76) + x77) <|
        bnd (yset σ83 132 (((7776 * x76) + x77)).toNat y87) fun σ91 =>
        chkI (x77 + 1) <|
        k79 x76 (x77 + 1) σ91) fun j88 =>
      if (σ83 134 (x77).toNat) = 0 then
        j88 0
      else
        bndO (mo_isLawful N x76 σ83) fun r96 =>
        if r96 = 0 then
          j88 0
        else
          if a = 0 then
            j88 1
          else
            bndO (mo_agrees N x76 b σ83) fun r100 =>
            if r100 = 0 then
              j88 0
            else
              j88 1) N x69 0 σ71
def faY (N : Nat) (a b r6 : Int) (k13 : Int → ySt → Option ySt) (x64 : Int) (σ66 : ySt) : Option ySt :=
  loopS2 (fun k72 x69 x70 σ71 =>
    bndO (mo_personMany σ71) fun r74 =>
    if x70 ≥ r74 then
      faZ N a b r6 k13 x69 σ71
    else
      bndO (mo_stepAll N x70 σ71) fun σ103 =>
      chkI (x70 + 1) <|
      k72 x69 (x70 + 1) σ103) N x64 0 σ66
def faX (N : Nat) (a b r6 : Int) (k13 : Int → ySt → Option ySt) (x11 : Int) (σ12 : ySt) : Option ySt :=
  if x11 > (σ12 92 48) then
    loopS1 (faA N r6) N (σ12 92 48) σ12
  else
    loopS2 (fun k67 x64 x65 σ66 =>
      if x65 ≥ r6 then
        faY N a b r6 k13 x64 σ66
      else
        chkI (x64 - 1) <|
        chkI (7776 * (x64 - 1)) <|
        chkI ((7776 * (x64 - 1)) + x65) <|
        chkA 70000 ((7776 * (x64 - 1)) + x65) <|
        chk ((σ66 132 (((7776 * (x64 - 1)) + x65)).toNat) = 0 ∨ (σ66 132 (((7776 * (x64 - 1)) + x65)).toNat) = 1) <|
        chkA 7776 x65 <|
        bnd (yset σ66 134 (x65).toNat (σ66 132 (((7776 * (x64 - 1)) + x65)).toNat)) fun σ111 =>
        chkI (x65 + 1) <|
        k67 x64 (x65 + 1) σ111) N x11 0 σ12
def faI (N : Nat) (a b r6 : Int) (k9 : Int → ySt → Option ySt) (x7 : Int) (σ8 : ySt) : Option ySt :=
  if x7 ≥ r6 then
    loopS1 (faX N a b r6) N 1 σ8
  else
    bndO (mo_homeState N σ8) fun r115 =>
    bnd (fun (y116 : Int) =>
      chk (y116 = 0 ∨ y116 = 1) <|
      chkA 70000 x7 <|
      bnd (yset σ8 132 (x7).toNat y116) fun σ120 =>
      chkI (7776 * (σ120 92 48)) <|
      chkI ((7776 * (σ120 92 48)) + x7) <|
      chkA 70000 ((7776 * (σ120 92 48)) + x7) <|
      bnd (yset σ120 133 (((7776 * (σ120 92 48)) + x7)).toNat 1) fun σ125 =>
      chkI (x7 + 1) <|
      k9 (x7 + 1) σ125) fun j117 =>
    if ¬ x7 = r115 then
      j117 0
    else
      j117 1
theorem mo_findAll_eq (N : Nat) (a b : Int) (σ : ySt) : mo_findAll N a b σ =
  bndO (mo_plain σ) fun σ2 =>
  bndO (mo_layTown N σ2) fun σ4 =>
  bndO (mo_stateMany N σ4) fun r6 =>
  loopS1 (faI N a b r6) N 0 σ4 := rfl
def KR (ν τ : ySt) : Prop := ∀ i, i ≠ 126 → i ≠ 127 → i ≠ 132 → i ≠ 133 → i ≠ 134 → i ≠ 135 → ν i = τ i
theorem KR_rfl (τ : ySt) : KR τ τ := fun _ _ _ _ _ _ _ => rfl
theorem KR_tr {τ τ' τ'' : ySt} (h : KR τ' τ) (g : KR τ'' τ') : KR τ'' τ := fun i a b c d e f => (g i a b c d e f).trans (h i a b c d e f)
/-- all that the finding asks -/
def FQ (τ : ySt) (b mp mq S : Nat) (hr : Int) (Mn : Nat → Nat → Int) : Prop := GS τ b mp mq hr Mn ∧ (0 < mq → 0 < mp) ∧ τ 92 48 = (S : Int) ∧ 1 ≤ S ∧ S ≤ 8
theorem FQ_of {τ τ' : ySt} {b mp mq S : Nat} {hr : Int} {Mn : Nat → Nat → Int} (h : FQ τ b mp mq S hr Mn) (e : KR τ' τ) : FQ τ' b mp mq S hr Mn := by
  obtain ⟨g, h1, h2, h3⟩ := h
  exact ⟨GS_of g (fun i hi => e i (by omega) (by omega) (by omega) (by omega) (by omega) (by omega)), h1, by rw [e 92 (by decide) (by decide) (by decide) (by decide) (by decide) (by decide)]; exact h2, h3⟩
theorem FQ_p {τ : ySt} {b mp mq S : Nat} {hr : Int} {Mn : Nat → Nat → Int} (h : FQ τ b mp mq S hr Mn) : mo_personMany τ = some (mq : Int) := mo_personMany_ok h.1.1 h.1.2.1 h.1.2.2.2.2.1
theorem FQ_n {N : Nat} {τ : ySt} {b mp mq S : Nat} {hr : Int} {Mn : Nat → Nat → Int} (hN : 100000 ≤ N) (h : FQ τ b mp mq S hr Mn) : mo_stateMany N τ = some ((mp ^ mq : Nat) : Int) := mo_stateMany_ok hN h.1.1 h.1.2.1 h.1.2.2.1 h.1.2.2.2.1 h.1.2.2.2.2.1 h.1.2.2.2.2.2.1
theorem FQ_le {τ : ySt} {b mp mq S : Nat} {hr : Int} {Mn : Nat → Nat → Int} (h : FQ τ b mp mq S hr Mn) : mp ^ mq ≤ 7776 := pow_le h.1.2.2.2.1 h.1.2.2.2.2.2.1
/-- all persons step: the loop that both ways share -/
theorem fa_steps {N b mp mq S : Nat} {hr : Int} {Mn : Nat → Nat → Int} {τ : ySt} {x : Int} {f : Nat → Bool} {K : Int → ySt → Option ySt} {P : ySt → Prop} (hN : 100000 ≤ N) (h : FQ τ b mp mq S hr Mn) (hf : ∀ u, u < mp ^ mq → τ 134 u = b01 (f u))
    (hK : ∀ ν : ySt, (∀ i, i ≠ 134 → i ≠ 135 → ν i = τ i) → (∀ u, u < mp ^ mq → ν 134 u = b01 (stBs mp mq (fun u v => decide (Mn u v ≤ hr)) f mq u)) → Ok (K x ν) P) :
    Ok (loopS2 (fun k27 x24 x25 σ26 => bndO (mo_personMany σ26) fun r29 => if x25 ≥ r29 then K x24 σ26 else bndO (mo_stepAll N x25 σ26) fun σ47 => chkI (x25 + 1) <| k27 x24 (x25 + 1) σ47) N x 0 τ) P := by
  refine Ok_loopS2 (fun y z ν => y = x ∧ ∃ n : Nat, z = n ∧ n ≤ mq ∧ (∀ i, i ≠ 134 → i ≠ 135 → ν i = τ i) ∧ ∀ u, u < mp ^ mq → ν 134 u = b01 (stBs mp mq (fun u v => decide (Mn u v ≤ hr)) f n u)) (fun _ z _ => (mq - z.toNat : Nat)) ?_ N _ _ _ ⟨rfl, 0, rfl, by omega, fun _ _ _ => rfl, hf⟩ (by have := h.1.2.2.2.2.2.1; omega)
  rintro g y z ν ⟨rfl, n, rfl, hn, i1, i2⟩ rec
  have hν : FQ ν b mp mq S hr Mn := FQ_of h (fun i _ _ _ _ e f => i1 i e f)
  have hmq := h.1.2.2.2.2.2.1
  rw [FQ_p hν, bndO_s, Ok_ite]
  refine ⟨fun q => hK ν i1 (by rw [show mq = n by omega] at i2 ⊢; exact i2), fun q => ?_⟩
  rw [Ok_bndO]
  refine (mo_stepAll_ok hN hν.1 (h.2.1 (by omega)) (show n < mq by omega) i2).mono ?_
  rintro ν' ⟨a1, a2⟩
  rw [Ok_chkI]
  exact ⟨by omega, rec _ _ _ ⟨rfl, n + 1, by omega, by omega, fun i x y => (a1 i x y).trans (i1 i x y), a2⟩ (by omega)⟩
theorem faC_ok {N b mp mq S s : Nat} {hr : Int} {Mn : Nat → Nat → Int} {τ : ySt} {f : Nat → Bool} {k17 : Int → ySt → Option ySt} {P : ySt → Prop} (hN : 100000 ≤ N) (h : FQ τ b mp mq S hr Mn) (hs : 1 ≤ s ∧ s ≤ 8) (hf : ∀ u, u < mp ^ mq → τ 134 u = b01 (f u))
    (hK : ∀ ν : ySt, (∀ i, i ≠ 133 → ν i = τ i) → (∀ j, (j < 7776 * (s - 1) ∨ 7776 * s ≤ j) → ν 133 j = τ 133 j) → (∀ u, u < mp ^ mq → ν 133 (7776 * (s - 1) + u) = b01 (f u)) → Ok (k17 ((s - 1 : Nat) : Int) ν) P) : Ok (faC N ((mp ^ mq : Nat) : Int) k17 s τ) P := by
  have hM := FQ_le h
  unfold faC
  refine Ok_loopS2 (fun y z ν => y = (s : Int) ∧ ∃ x : Nat, z = x ∧ x ≤ mp ^ mq ∧ (∀ i, i ≠ 133 → ν i = τ i) ∧ (∀ j, (j < 7776 * (s - 1) ∨ 7776 * s ≤ j) → ν 133 j = τ 133 j) ∧ ∀ u, u < x → ν 133 (7776 * (s - 1) + u) = b01 (f u)) (fun _ z _ => (mp ^ mq - z.toNat : Nat)) ?_ N _ _ _ ⟨rfl, 0, rfl, by omega, fun _ _ => rfl, fun _ _ => rfl, fun u hu => absurd hu (Nat.not_lt_zero u)⟩ (by omega)
  rintro g y z ν ⟨rfl, x, rfl, hx, i1, i2, i3⟩ rec
  rw [Ok_ite]
  refine ⟨fun q => ?_, fun q => ?_⟩
  · rw [Ok_chkI, show (s : Int) + (-1) = ((s - 1 : Nat) : Int) by omega]
    exact ⟨by omega, hK ν i1 i2 (fun u hu => i3 u (by omega))⟩
  · have ix : (7776 * ((s : Int) - 1) + (x : Int)).toNat = 7776 * (s - 1) + x := by omega
    have hb := b01_rg (f x)
    rw [Ok_chkI, Ok_chkI, Ok_chkI, Ok_chkA, Int.toNat_natCast, i1 134 (by decide), hf x (by omega), Ok_chk, Ok_chkA, ix, Ok_bnd, Ok_chkI]
    refine ⟨by omega, by omega, by omega, by omega, hb, by omega, by omega, rec _ _ _ ⟨rfl, x + 1, by omega, by omega, fun i hi => by rw [yset_off i hi]; exact i1 i hi, fun j hj => by rw [yset_ne (by omega)]; exact i2 j hj, fun u hu => ?_⟩ (by omega)⟩
    by_cases c : u = x
    · rw [c, yset_at]
    · rw [yset_ne (by omega)]
      exact i3 u (by omega)
/-- what both rows hold -/
def AH (ν : ySt) (mp mq : Nat) (gt : Nat → Nat → Bool) (law : Nat → Nat → Bool) (h s : Nat) : Prop := ∀ u, u < mp ^ mq → ν 132 (7776 * s + u) = b01 (ahd mp mq gt law h s u)
def BH (ν : ySt) (mp mq S : Nat) (gt : Nat → Nat → Bool) (law : Nat → Nat → Bool) (h s : Nat) : Prop := ∀ u, u < mp ^ mq → ν 133 (7776 * s + u) = b01 (bhd mp mq S gt law h (S - s) u)
theorem back_ok {N b mp mq S h : Nat} {hr : Int} {Mn : Nat → Nat → Int} {law : Nat → Nat → Bool} {τ : ySt} (hN : 100000 ≤ N) (hq : FQ τ b mp mq S hr Mn) (ha : ∀ s, s ≤ S → AH τ mp mq (fun u v => decide (Mn u v ≤ hr)) law h s) (hb : BH τ mp mq S (fun u v => decide (Mn u v ≤ hr)) law h S) :
    Ok (loopS1 (faA N ((mp ^ mq : Nat) : Int)) N S τ) (fun τ' => KR τ' τ ∧ τ' 132 = τ 132 ∧ ∀ s, s ≤ S → BH τ' mp mq S (fun u v => decide (Mn u v ≤ hr)) law h s) := by
  have hM := FQ_le hq
  have hS8 := hq.2.2.2.2
  obtain ⟨gt, hgt⟩ : ∃ gt : Nat → Nat → Bool, gt = fun u v => decide (Mn u v ≤ hr) := ⟨_, rfl⟩
  rw [← hgt] at ha hb ⊢
  refine Ok_loopS1 (fun y ν => ∃ s : Nat, y = s ∧ s ≤ S ∧ KR ν τ ∧ ν 132 = τ 132 ∧ ∀ j, s ≤ j → j ≤ S → BH ν mp mq S gt law h j) (fun y _ => y.toNat) ?_ N _ _ ⟨S, rfl, Nat.le_refl S, KR_rfl τ, rfl, fun j h1 h2 => by rw [show j = S by omega]; exact hb⟩ (by omega)
  rintro g y ν ⟨s, rfl, hs, i1, i2, i3⟩ rec
  unfold faA
  rw [Ok_ite, Ok_some]
  refine ⟨fun q => ⟨i1, i2, fun j hj => i3 j (by omega) hj⟩, fun q => ?_⟩
  have hs1 : 1 ≤ s := by omega
  have hν := FQ_of hq i1
  have as := ha s hs
  have bsx := i3 s (Nat.le_refl s) hs
  refine Ok_loopS2 (fun y z κ => y = (s : Int) ∧ ∃ x : Nat, z = x ∧ x ≤ mp ^ mq ∧ (∀ i, i ≠ 134 → κ i = ν i) ∧ ∀ u, u < x → κ 134 u = b01 (ahd mp mq gt law h s u && bhd mp mq S gt law h (S - s) u)) (fun _ z _ => (mp ^ mq - z.toNat : Nat)) ?_ N _ _ _ ⟨rfl, 0, rfl, by omega, fun _ _ => rfl, fun u hu => absurd hu (Nat.not_lt_zero u)⟩ (by omega)
  rintro g2 y z κ ⟨rfl, x, rfl, hx, j1, j2⟩ rec2
  rw [Ok_ite]
  refine ⟨fun q2 => ?_, fun q2 => ?_⟩
  · have hκ : FQ κ b mp mq S hr Mn := FQ_of hν (fun i _ _ _ _ e _ => j1 i e)
    unfold faB
    refine fa_steps hN hκ (fun u hu => j2 u (by omega)) (fun μ m1 m2 => ?_)
    rw [← hgt] at m2
    have hμ : FQ μ b mp mq S hr Mn := FQ_of hκ (fun i _ _ _ _ e f => m1 i e f)
    refine faC_ok hN hμ ⟨hs1, by omega⟩ m2 (fun μ' n1 n2 n3 => ?_)
    have k1 : KR μ' τ := KR_tr i1 (fun i a b c d e f => (n1 i d).trans ((m1 i e f).trans (j1 i e)))
    have k132 : μ' 132 = τ 132 := (n1 132 (by decide)).trans ((m1 132 (by decide) (by decide)).trans ((j1 132 (by decide)).trans i2))
    have k133 : ∀ j, (j < 7776 * (s - 1) ∨ 7776 * s ≤ j) → μ' 133 j = ν 133 j := fun j hj => by rw [n2 j hj, m1 133 (by decide) (by decide), j1 133 (by decide)]
    refine rec _ _ ⟨s - 1, rfl, by omega, k1, k132, fun j h1 h2 => ?_⟩ (by omega)
    by_cases c : j = s - 1
    · intro u hu
      rw [c, n3 u hu, show S - (s - 1) = (S - s) + 1 by omega]
      show _ = b01 (stBs mp mq gt (fun y => ahd mp mq gt law h (S - (S - s)) y && bhd mp mq S gt law h (S - s) y) mq u)
      rw [show S - (S - s) = s by omega]
    · intro u hu
      rw [k133 _ (by omega)]
      exact i3 j (by omega) h2 u hu
  · have hxm : x < mp ^ mq := by omega
    have ix : (7776 * (s : Int) + (x : Int)).toNat = 7776 * s + x := by omega
    have ax := as x hxm
    have bx := bsx x hxm
    rw [← i2, ← j1 132 (by decide)] at ax
    rw [← j1 133 (by decide)] at bx
    rw [Ok_chkI, Ok_chkI, Ok_chkA, ix, ax, bx]
    refine ⟨by omega, by omega, by omega, Ok_jq1 (fun (y : Int) => y = b01 (ahd mp mq gt law h s x && bhd mp mq S gt law h (S - s) x)) (fun y hy => ?_) (fun kk hkk => ?_)⟩
    · have := b01_rg (ahd mp mq gt law h s x && bhd mp mq S gt law h (S - s) x)
      rw [Ok_chk, Ok_chkA, Int.toNat_natCast, Ok_bnd, Ok_chkI]
      refine ⟨by rw [hy]; exact this, by omega, by omega, rec2 _ _ _ ⟨rfl, x + 1, by omega, by omega, fun i hi => by rw [yset_off i hi]; exact j1 i hi, fun u hu => ?_⟩ (by omega)⟩
      by_cases c : u = x
      · rw [c, yset_at, hy]
      · rw [yset_ne (by omega)]
        exact j2 u (by omega)
    · rw [Ok_ite]
      refine ⟨fun c => hkk _ (by rw [b01_0.mp c]; rfl), fun c => ?_⟩
      have at' : ahd mp mq gt law h s x = true := by
        cases e : ahd mp mq gt law h s x with
        | true => rfl
        | false =>
          rw [e] at c
          exact absurd rfl c
      rw [Ok_chkI, Ok_chkI, Ok_chkA, Ok_ite]
      refine ⟨by omega, by omega, by omega, fun c2 => hkk _ (by rw [b01_0.mp c2, Bool.and_false]; rfl), fun c2 => hkk _ ?_⟩
      have bt : bhd mp mq S gt law h (S - s) x = true := by
        cases e : bhd mp mq S gt law h (S - s) x with
        | true => rfl
        | false =>
          rw [e] at c2
          exact absurd rfl c2
      rw [at', bt]
      rfl
/-- one stroke forth: states are laid and judged -/
theorem faZ_ok {N T b mp mq md L S s nc h : Nat} {hr k a : Int} {Mn : Nat → Nat → Int} {σ τ : ySt} {f : Nat → Bool} {ag : Nat → Nat → Bool} {k13 : Int → ySt → Option ySt} {P : ySt → Prop} (hN : 100000 ≤ N) (hq : FQ τ b mp mq S hr Mn) (hs : 1 ≤ s ∧ s ≤ 8) (ho : ∀ s p h : Nat, 1 ≤ s → s ≤ 8 → p < mp → h ≤ 5 → τ 125 (48 * (s - 1) + 8 * p + h) = opn σ T L md (-1) (-1) s p h) (ct : CTr σ τ nc mp) (hag : (a = 0 ∧ ∀ s x, ag s x = true) ∨ (a ≠ 0 ∧ ∀ s x, ag s x = agK σ mp mq nc k s x)) (hf : ∀ u, u < mp ^ mq → τ 134 u = b01 (f u))
    (hK : ∀ ν : ySt, (∀ i, i ≠ 126 → i ≠ 127 → i ≠ 132 → ν i = τ i) → (∀ j, (j < 7776 * s ∨ 7776 * (s + 1) ≤ j) → ν 132 j = τ 132 j) → (∀ u, u < mp ^ mq → ν 132 (7776 * s + u) = b01 (f u && (lawB σ T L md mp mq (-1) (-1) s u && ag s u))) → Ok (k13 ((s : Int) + 1) ν) P) : Ok (faZ N a k ((mp ^ mq : Nat) : Int) k13 s τ) P := by
  have hM := FQ_le hq
  obtain ⟨⟨h40, hb, h95, hmp, h97, hmq, h47, hMn⟩, hm, h48, hS⟩ := id hq
  unfold faZ
  refine Ok_loopS2 (fun y z ν => y = (s : Int) ∧ ∃ x : Nat, z = x ∧ x ≤ mp ^ mq ∧ (∀ i, i ≠ 126 → i ≠ 127 → i ≠ 132 → ν i = τ i) ∧ (∀ j, (j < 7776 * s ∨ 7776 * (s + 1) ≤ j) → ν 132 j = τ 132 j) ∧ ∀ u, u < x → ν 132 (7776 * s + u) = b01 (f u && (lawB σ T L md mp mq (-1) (-1) s u && ag s u))) (fun _ z _ => (mp ^ mq - z.toNat : Nat)) ?_ N _ _ _ ⟨rfl, 0, rfl, by omega, fun _ _ _ _ => rfl, fun _ _ => rfl, fun u hu => absurd hu (Nat.not_lt_zero u)⟩ (by omega)
  rintro g y z ν ⟨rfl, x, rfl, hx, i1, i2, i3⟩ rec
  rw [Ok_ite]
  refine ⟨fun q => ?_, fun q => ?_⟩
  · rw [Ok_chkI]
    exact ⟨by omega, hK ν i1 i2 (fun u hu => i3 u (by omega))⟩
  · have hxm : x < mp ^ mq := by omega
    have e40 : ν 92 40 = b := by rw [i1 92 (by decide) (by decide) (by decide)]; exact h40
    have e95 : ν 95 b = mp := by rw [i1 95 (by decide) (by decide) (by decide)]; exact h95
    have e97 : ν 97 b = mq := by rw [i1 97 (by decide) (by decide) (by decide)]; exact h97
    rw [Ok_bndO]
    refine (mo_layState_ok hN e40 hb e95 hmp e97 hmq hxm).mono ?_
    rintro κ ⟨a1, a2, a3⟩
    have k1 : ∀ i, i ≠ 126 → i ≠ 127 → i ≠ 132 → κ i = τ i := fun i x1 x2 x3 => (a1 i x1 x2).trans (i1 i x1 x2 x3)
    have k132 : κ 132 = ν 132 := a1 132 (by decide) (by decide)
    have ix : (7776 * (s : Int) + (x : Int)).toNat = 7776 * s + x := by omega
    rw [Ok_chkI, Ok_chkI, Ok_chkA, Int.toNat_natCast, k1 134 (by decide) (by decide) (by decide), hf x hxm]
    refine ⟨by omega, by omega, by omega, Ok_jq1 (fun (y : Int) => y = b01 (f x && (lawB σ T L md mp mq (-1) (-1) s x && ag s x))) (fun y hy => ?_) (fun kk hkk => ?_)⟩
    · have := b01_rg (f x && (lawB σ T L md mp mq (-1) (-1) s x && ag s x))
      rw [Ok_chk, Ok_chkA, ix, Ok_bnd, Ok_chkI]
      refine ⟨by rw [hy]; exact this, by omega, by omega, rec _ _ _ ⟨rfl, x + 1, by omega, by omega, fun i x1 x2 x3 => by rw [yset_off i x3]; exact k1 i x1 x2 x3, fun j hj => by rw [yset_ne (by omega), k132]; exact i2 j hj, fun u hu => ?_⟩ (by omega)⟩
      by_cases c : u = x
      · rw [c, yset_at, hy]
      · rw [yset_ne (by omega), k132]
        exact i3 u (by omega)
    · rw [Ok_ite]
      refine ⟨fun c => hkk _ (by rw [b01_0.mp c]; rfl), fun c => ?_⟩
      have ft : f x = true := by
        cases e : f x with
        | true => rfl
        | false =>
          rw [e] at c
          exact absurd rfl c
      rw [Ok_bndO]
      refine (mo_isLawful_ok (σ := σ) (T := T) (L := L) (md := md) (fs := -1) (fp := -1) (x := x) (s := s) hN (by rw [k1 92 (by decide) (by decide) (by decide)]; exact h40) hb (by rw [k1 95 (by decide) (by decide) (by decide)]; exact h95) hmp hmq hs (by rw [k1 125 (by decide) (by decide) (by decide)]; exact ho) a3).mono ?_
      rintro r hr'
      rw [Ok_ite]
      refine ⟨fun c2 => hkk _ ?_, fun c2 => ?_⟩
      · have : lawB σ T L md mp mq (-1) (-1) s x = false := by
          rcases hr' with ⟨w, _⟩ | ⟨_, w⟩
          · omega
          · cases e : lawB σ T L md mp mq (-1) (-1) s x with
            | false => rfl
            | true => exact absurd (lawB_iff.mp e) w
        rw [this, Bool.false_and, Bool.and_false]
        rfl
      · have lt : lawB σ T L md mp mq (-1) (-1) s x = true := by
          rcases hr' with ⟨_, w⟩ | ⟨w, _⟩
          · exact lawB_iff.mpr w
          · exact absurd w c2
        rcases hag with ⟨z0, z1⟩ | ⟨z0, z1⟩
        · rw [if_pos z0]
          refine hkk _ ?_
          rw [ft, lt, z1]
          rfl
        · rw [if_neg z0, mo_agrees_ok (k := k) (x := x) (s := s) hN (CTr_of ct (fun _ _ _ => rfl) (fun i h1 h2 => k1 i (by omega) (by omega) (by omega)) (by rw [k1 92 (by decide) (by decide) (by decide)]) (by rw [k1 92 (by decide) (by decide) (by decide)])) hmp a3, bndO_s, Ok_ite, ← z1]
          refine ⟨fun c3 => hkk _ (by rw [b01_0.mp c3, Bool.and_false, Bool.and_false]; rfl), fun c3 => hkk _ ?_⟩
          have agt : ag s x = true := by
            cases e : ag s x with
            | true => rfl
            | false =>
              rw [e] at c3
              exact absurd rfl c3
          rw [ft, lt, agt]
          rfl
