/-! the reference lets one go -/
def wkM (what hr : Int) (Mn : Nat → Nat → Int) (u v : Nat) : Option Int := if Mn u v ≤ hr then some (if what = 2 then -(Mn u v) else 0) else none
def bO (B : Int) (o : Option Int) : Prop := ∀ a, o = some a → -B ≤ a ∧ a ≤ B
/-- what the reference asks when one goes -/
def SB (τ : ySt) (b mp mq : Nat) (what hr : Int) (Mn : Nat → Nat → Int) : Prop := τ 92 40 = b ∧ b < 2 ∧ τ 95 b = mp ∧ (0 < mp ∧ mp ≤ 6) ∧ τ 97 b = mq ∧ mq ≤ 5 ∧ τ 92 50 = what ∧ τ 92 47 = hr ∧ hr ≤ 999 ∧ ∀ u v, u < mp → v < mp → τ 124 (6 * u + v) = Mn u v ∧ 0 ≤ Mn u v
theorem SB_of {τ τ' : ySt} {b mp mq : Nat} {what hr : Int} {Mn : Nat → Nat → Int} (h : SB τ b mp mq what hr Mn) (e : ∀ i, i = 92 ∨ i = 95 ∨ i = 97 ∨ i = 124 → τ' i = τ i) : SB τ' b mp mq what hr Mn := by
  unfold SB at h ⊢
  rw [e 92 (by omega), e 95 (by omega), e 97 (by omega), e 124 (by omega)]
  exact h
theorem sdx_int {m K x n q : Nat} (hm : 0 < m) (hx : x < m ^ K) (hn : n < K) : ((sdx m K x n q : Nat) : Int) = (x : Int) + ((q : Int) - ((dg m K x n : Nat) : Int)) * ((m ^ (K - 1 - n) : Nat) : Int) := by
  have h := enc_upd (m := m) (v := dg m K x) (n := n) (q := q) K hn
  rw [enc_dg hm K x hx] at h
  have h2 : ((sdx m K x n q : Nat) : Int) + ((dg m K x n : Nat) : Int) * ((m ^ (K - 1 - n) : Nat) : Int) = (x : Int) + (q : Int) * ((m ^ (K - 1 - n) : Nat) : Int) := by
    rw [← Int.natCast_mul, ← Int.natCast_mul, ← Int.natCast_add, ← Int.natCast_add]
    exact congrArg _ h
  rw [Int.sub_mul]
  omega
theorem omax_none (o : Option Int) : omax o none = o := by cases o <;> rfl
theorem omax_rp {x : Int} {o p : Option Int} (h : rpM x o) (ho : bO 900000 o) {a : Int} (hp : p = some a) : omax o p = some (if x = -1000000 ∨ a > x then a else x) := by
  subst hp
  rcases h with ⟨e1, e2⟩ | ⟨c, e1, e2⟩
  · subst e1
    rw [if_pos (Or.inl e2)]
    rfl
  · subst e1
    have := ho c rfl
    show some (max c a) = _
    congr 1
    by_cases h1 : x = -1000000 ∨ a > x
    · rw [if_pos h1]
      omega
    · rw [if_neg h1]
      omega
theorem mo_stepBack_ok {N b mp mq n : Nat} {τ : ySt} {what hr B : Int} {Mn : Nat → Nat → Int} {f : Nat → Option Int} (hN : 100000 ≤ N) (h : SB τ b mp mq what hr Mn) (hn : n < mq) (hB : 0 ≤ B ∧ B ≤ 800000) (hf : ∀ x, x < mp ^ mq → rpM (τ 129 x) (f x) ∧ bO B (f x)) :
    Ok (mo_stepBack N n τ) (fun τ' => (∀ i, i ≠ 129 → i ≠ 130 → τ' i = τ i) ∧ ∀ x, x < mp ^ mq → rpM (τ' 129 x) (stp mp mq (wkM what hr Mn) n f x) ∧ bO (B + 1000) (stp mp mq (wkM what hr Mn) n f x)) := by
  obtain ⟨h40, hb, h95, ⟨hm0, hmp⟩, h97, hmq, h50, h47, hhr, hMn⟩ := id h
  have hS := pow_le hmp hmq
  have hU : 0 < mp ^ (mq - 1 - n) := Nat.pow_pos hm0
  have hU6 := pow_le (k := mq - 1 - n) hmp (by omega)
  unfold mo_stepBack
  rw [mo_personMany_ok h40 hb h97, bndO_s, Ok_chkI, Ok_chkI, show (mq : Int) - 1 - (n : Int) = ((mq - 1 - n : Nat) : Int) from by omega, mo_power_ok hN h40 hb h95 hmp (by omega : mq - 1 - n ≤ 5), bndO_s]
  refine ⟨by omega, by omega, ?_⟩
  generalize hU' : mp ^ (mq - 1 - n) = U at *
  -- what the part of one state comes to
  have bs : ∀ x, x < mp ^ mq → ∀ j, j ≤ mp → bO (B + 1000) (om j (fun q => oadd (wkM what hr Mn (dg mp mq x n) q) (f (sdx mp mq x n q)))) := by
    intro x hx j hj a ha
    have hi := om_isM (fun q => oadd (wkM what hr Mn (dg mp mq x n) q) (f (sdx mp mq x n q))) j
    rcases hi.2 with e | ⟨q, hq, e⟩
    · rw [e] at ha
      cases ha
    · rw [ha] at e
      dsimp only at e
      have hq6 : q < mp := by omega
      have hd : dg mp mq x n < mp := dg_lt hm0
      have hM := hMn _ _ hd hq6
      unfold wkM at e
      by_cases c : Mn (dg mp mq x n) q ≤ hr
      · rw [if_pos c] at e
        cases ef : f (sdx mp mq x n q) with
        | none =>
          rw [ef] at e
          cases e
        | some d =>
          have hbd := (hf _ (sdx_lt hm0 hq6)).2 d ef
          rw [ef] at e
          have e' : (if what = 2 then -(Mn (dg mp mq x n) q) else 0) + d = a := by injection e
          split at e' <;> omega
      · rw [if_neg c] at e
        cases e
  refine Ok_loopS1 (fun y ρ => ∃ x : Nat, y = x ∧ x ≤ mp ^ mq ∧ (∀ i, i ≠ 130 → ρ i = τ i) ∧ ∀ z, z < x → rpM (ρ 130 z) (stp mp mq (wkM what hr Mn) n f z)) (fun y _ => (mp ^ mq - y.toNat : Nat)) ?_ N _ _ ⟨0, rfl, by omega, fun _ _ => rfl, fun z hz => absurd hz (Nat.not_lt_zero z)⟩ (by omega)
  rintro g y ρ ⟨x, rfl, hx, i1, i2⟩ rec
  rw [mo_stateMany_ok hN (by rw [i1 92 (by decide)]; exact h40) hb (by rw [i1 95 (by decide)]; exact h95) hmp (by rw [i1 97 (by decide)]; exact h97) hmq, bndO_s, Ok_ite]
  refine ⟨fun q => ?_, fun q => ?_⟩
  · have hxe : x = mp ^ mq := by omega
    refine Ok_loopS1 (fun y ν => ∃ z : Nat, y = z ∧ z ≤ mp ^ mq ∧ (∀ i, i ≠ 129 → ν i = ρ i) ∧ ∀ u, u < z → ν 129 u = ρ 130 u) (fun y _ => (mp ^ mq - y.toNat : Nat)) ?_ N _ _ ⟨0, rfl, by omega, fun _ _ => rfl, fun z hz => absurd hz (Nat.not_lt_zero z)⟩ (by omega)
    rintro g2 y ν ⟨z, rfl, hz, j1, j2⟩ rec2
    rw [mo_stateMany_ok hN (by rw [j1 92 (by decide), i1 92 (by decide)]; exact h40) hb (by rw [j1 95 (by decide), i1 95 (by decide)]; exact h95) hmp (by rw [j1 97 (by decide), i1 97 (by decide)]; exact h97) hmq, bndO_s, Ok_ite, Ok_some]
    refine ⟨fun q2 => ⟨fun i a c => by rw [j1 i a]; exact i1 i c, fun u hu => ⟨by rw [j2 u (by omega)]; exact i2 u (by omega), bs u hu mp (Nat.le_refl mp)⟩⟩, fun q2 => ?_⟩
    rw [Ok_chkA, Ok_chkA, Ok_bnd, Ok_chkI, Int.toNat_natCast, j1 130 (by decide)]
    refine ⟨by omega, by omega, by omega, rec2 _ _ ⟨z + 1, by omega, by omega, fun i hi => by rw [yset_off i hi]; exact j1 i hi, fun u hu => ?_⟩ (by omega)⟩
    by_cases c : u = z
    · rw [c, yset_at]
    · rw [yset_ne (by omega)]
      exact j2 u (by omega)
  · have hxx : x < mp ^ mq := by omega
    have hd : dg mp mq x n < mp := dg_lt hm0
    have td : (x : Int).tdiv (U : Int) = ((x / U : Nat) : Int) := by
      rw [Int.tdiv_eq_ediv_of_nonneg (Int.natCast_nonneg _), Int.natCast_ediv]
    have tm : (((x / U : Nat) : Int)).tmod (mp : Int) = ((dg mp mq x n : Nat) : Int) := by
      rw [Int.tmod_eq_emod_of_nonneg (Int.natCast_nonneg _)]
      unfold dg
      rw [hU', Int.natCast_emod]
    have hxU : x / U ≤ x := Nat.div_le_self _ _
    obtain ⟨xu, hxu⟩ : ∃ xu : Nat, x / U = xu := ⟨_, rfl⟩
    rw [hxu] at td tm hxU
    have P40 : ρ 92 40 = b := by rw [i1 92 (by decide)]; exact h40
    have P95 : ρ 95 b = mp := by rw [i1 95 (by decide)]; exact h95
    rw [td, mo_placeMany_ok P40 hb P95, bndO_s, tm, Ok_chk, Ok_chkI, Ok_chk, Ok_chkI, Ok_chkA, Ok_bnd, Int.toNat_natCast]
    refine ⟨by omega, by omega, by omega, by omega, by omega, ?_⟩
    obtain ⟨F, hF⟩ : ∃ F : Nat → Option Int, ∀ q, F q = oadd (wkM what hr Mn (dg mp mq x n) q) (f (sdx mp mq x n q)) := ⟨_, fun _ => rfl⟩
    have bF : ∀ j, j ≤ mp → bO (B + 1000) (om j F) := fun j hj => by
      rw [om_congr j (fun q _ => hF q)]
      exact bs x hxx j hj
    have hst : om mp F = stp mp mq (wkM what hr Mn) n f x := om_congr mp (fun q _ => hF q)
    refine Ok_loopS2 (fun y z ν => y = (x : Int) ∧ ∃ j : Nat, z = j ∧ j ≤ mp ∧ (∀ i, i ≠ 130 → ν i = τ i) ∧ (∀ u, u < x → ν 130 u = ρ 130 u) ∧ rpM (ν 130 x) (om j F)) (fun _ z _ => (mp - z.toNat : Nat)) ?_ N _ _ _ ⟨rfl, 0, rfl, by omega, fun i hi => by rw [yset_off i hi]; exact i1 i hi, fun u hu => yset_ne (by omega), Or.inl ⟨rfl, yset_at⟩⟩ (by omega)
    rintro g2 y z ν ⟨rfl, j, rfl, hj, j1, j2, j3⟩ rec2
    have Q40 : ν 92 40 = b := by rw [j1 92 (by decide)]; exact h40
    have Q95 : ν 95 b = mp := by rw [j1 95 (by decide)]; exact h95
    rw [mo_placeMany_ok Q40 hb Q95, bndO_s, Ok_ite]
    refine ⟨fun q2 => ?_, fun q2 => ?_⟩
    · rw [Ok_chkI]
      refine ⟨by omega, rec _ _ ⟨x + 1, by omega, by omega, j1, fun z hz => ?_⟩ (by omega)⟩
      by_cases c : z = x
      · subst c
        rw [show j = mp from by omega, hst] at j3
        exact j3
      · rw [j2 z (by omega)]
        exact i2 z (by omega)
    · have hjm : j < mp := by omega
      have hidx := sdx_int (q := j) hm0 hxx hn
      rw [hU'] at hidx
      have hsl := sdx_lt (m := mp) (K := mq) (x := x) (n := n) hm0 hjm
      have hmul : -50000 ≤ ((j : Int) - ((dg mp mq x n : Nat) : Int)) * (U : Int) ∧ ((j : Int) - ((dg mp mq x n : Nat) : Int)) * (U : Int) ≤ 50000 := by
        omega
      rw [← hidx, Int.toNat_natCast, j1 129 (by decide), Ok_chkI, Ok_chkI, Ok_chkI, Ok_chkA]
      refine ⟨by omega, by omega, by omega, by omega, ?_⟩
      have hfx := hf _ hsl
      have hbF := bF j (by omega)
      have hom : om (j + 1) F = omax (om j F) (F j) := rfl
      refine Ok_jq1 (fun (ν' : ySt) => (∀ i, i ≠ 130 → ν' i = τ i) ∧ (∀ u, u < x → ν' 130 u = ρ 130 u) ∧ rpM (ν' 130 x) (om (j + 1) F)) (fun ν' hν => ?_) (fun k hk => ?_)
      · rw [Ok_chkI]
        exact ⟨by omega, rec2 _ _ _ ⟨rfl, j + 1, by omega, by omega, hν.1, hν.2.1, hν.2.2⟩ (by omega)⟩
      · have skip : F j = none → Ok (k ν) (fun τ' => (∀ i, i ≠ 129 → i ≠ 130 → τ' i = τ i) ∧ ∀ x, x < mp ^ mq → rpM (τ' 129 x) (stp mp mq (wkM what hr Mn) n f x) ∧ bO (B + 1000) (stp mp mq (wkM what hr Mn) n f x)) := by
          intro e
          refine hk _ ⟨j1, j2, ?_⟩
          rw [hom, e, omax_none]
          exact j3
        rw [Ok_ite]
        refine ⟨fun q3 => skip ?_, fun q3 => ?_⟩
        · rw [hF]
          rcases hfx.1 with ⟨e1, e2⟩ | ⟨a, e1, e2⟩
          · rw [e1]
            exact oadd_none
          · have := hfx.2 a e1
            omega
        · obtain ⟨a, ea, hax⟩ : ∃ a, f (sdx mp mq x n j) = some a ∧ τ 129 (sdx mp mq x n j) = a := by
            rcases hfx.1 with ⟨e1, e2⟩ | ⟨a, e1, e2⟩
            · exact absurd e2 q3
            · exact ⟨a, e1, e2⟩
          have hab := hfx.2 a ea
          have hMd := hMn _ _ hd hjm
          have ix : (6 * ((dg mp mq x n : Nat) : Int) + (j : Int)).toNat = 6 * dg mp mq x n + j := by omega
          have hg : mo_gets ((dg mp mq x n : Nat) : Int) (j : Int) ν = some (if Mn (dg mp mq x n) j > hr then 0 else 1) := by
            unfold mo_gets
            rw [chkI_pos (by omega), chkI_pos (by omega), chkA_pos (by omega), ix, j1 124 (by decide), hMd.1, j1 92 (by decide), h47, some_ite]
          rw [hg, bndO_s, hax]
          by_cases cg : Mn (dg mp mq x n) j > hr
          · rw [if_pos cg, if_neg (show ¬ ¬ (0 : Int) = 0 from fun w => w rfl)]
            refine skip ?_
            rw [hF]
            unfold wkM
            rw [if_neg (by omega)]
            exact none_oadd
          · rw [if_neg cg, if_pos (show ¬ (1 : Int) = 0 by decide)]
            refine Ok_jq1 (fun (y : Int) => y = if what = 2 then Mn (dg mp mq x n) j else 0) (fun y52 hy => ?_) (fun k2 hk2 => ?_)
            · have hFj : F j = some (a - y52) := by
                rw [hF]
                unfold wkM
                rw [if_pos (by omega), ea, hy]
                by_cases w2 : what = 2
                · rw [if_pos w2, if_pos w2]
                  exact congrArg some (show -(Mn (dg mp mq x n) j) + a = a - Mn (dg mp mq x n) j by omega)
                · rw [if_neg w2, if_neg w2]
                  exact congrArg some (show (0 : Int) + a = a - 0 by omega)
              have hyb : 0 ≤ y52 ∧ y52 ≤ 999 := by
                rw [hy]
                split <;> omega
              have hmx := omax_rp j3 (fun c hc => by have := hbF c hc; omega) hFj
              rw [Ok_chkI, Ok_chkA]
              refine ⟨by omega, by omega, ?_⟩
              refine Ok_jq (ν 130 x = -1000000 ∨ a - y52 > ν 130 x) (fun c => ?_) (fun k3 hk3 => ?_)
              · rw [Int.toNat_natCast, Ok_chkA, Ok_bnd]
                refine ⟨by omega, hk _ ⟨fun i hi => by rw [yset_off i hi]; exact j1 i hi, fun u hu => by rw [yset_ne (by omega)]; exact j2 u hu, ?_⟩⟩
                rw [yset_at, hom, hmx, if_pos c]
                exact Or.inr ⟨_, rfl, rfl⟩
              · rw [Int.toNat_natCast, Ok_ite]
                refine ⟨fun c => hk3 (Or.inl c), fun c => ?_⟩
                rw [Ok_chkA, Ok_ite]
                refine ⟨by omega, fun c2 => ?_, fun c2 => hk3 (Or.inr (by omega))⟩
                refine hk _ ⟨j1, j2, ?_⟩
                rw [hom, hmx, if_neg (by omega)]
                exact Or.inr ⟨_, rfl, rfl⟩
            · rw [j1 92 (by decide), h50, Ok_ite]
              refine ⟨fun c => hk2 _ (by rw [if_neg c]), fun c => ?_⟩
              rw [Ok_chkI, Ok_chkI, Ok_chkA, ix, j1 124 (by decide), hMd.1]
              exact ⟨by omega, by omega, by omega, hk2 _ (by rw [if_pos (Classical.not_not.mp c)])⟩
