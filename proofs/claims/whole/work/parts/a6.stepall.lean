/-! states that can be: the reference's steps, and counts that count -/
def b01 (b : Bool) : Int := if b = true then 1 else 0
theorem b01_0 {b : Bool} : b01 b = 0 ↔ b = false := by cases b <;> decide
theorem b01_rg (b : Bool) : b01 b = 0 ∨ b01 b = 1 := by cases b <;> decide
theorem bany_le {f : Nat → Bool} {j m : Nat} (h : bany f j = true) (hj : j ≤ m) : bany f m = true := by
  obtain ⟨k, hk, e⟩ := (bany_iff j).mp h
  exact (bany_iff m).mpr ⟨k, by omega, e⟩
/-- what a step asks -/
def GS (τ : ySt) (b mp mq : Nat) (hr : Int) (Mn : Nat → Nat → Int) : Prop := τ 92 40 = b ∧ b < 2 ∧ τ 95 b = mp ∧ mp ≤ 6 ∧ τ 97 b = mq ∧ mq ≤ 5 ∧ τ 92 47 = hr ∧ ∀ u v, u < mp → v < mp → τ 124 (6 * u + v) = Mn u v
theorem GS_of {τ τ' : ySt} {b mp mq : Nat} {hr : Int} {Mn : Nat → Nat → Int} (h : GS τ b mp mq hr Mn) (e : ∀ i, i = 92 ∨ i = 95 ∨ i = 97 ∨ i = 124 → τ' i = τ i) : GS τ' b mp mq hr Mn := by
  unfold GS at h ⊢
  rw [e 92 (by omega), e 95 (by omega), e 97 (by omega), e 124 (by omega)]
  exact h
theorem mo_stepAll_ok {N b mp mq n : Nat} {τ : ySt} {hr : Int} {Mn : Nat → Nat → Int} {f : Nat → Bool} (hN : 100000 ≤ N) (h : GS τ b mp mq hr Mn) (hm0 : 0 < mp) (hn : n < mq) (hf : ∀ x, x < mp ^ mq → τ 134 x = b01 (f x)) :
    Ok (mo_stepAll N n τ) (fun τ' => (∀ i, i ≠ 134 → i ≠ 135 → τ' i = τ i) ∧ ∀ x, x < mp ^ mq → τ' 134 x = b01 (stB mp mq (fun u v => decide (Mn u v ≤ hr)) n f x)) := by
  obtain ⟨h40, hb, h95, hmp, h97, hmq, h47, hMn⟩ := id h
  have hS := pow_le hmp hmq
  have hU : 0 < mp ^ (mq - 1 - n) := Nat.pow_pos hm0
  have hU6 := pow_le (k := mq - 1 - n) hmp (by omega)
  unfold mo_stepAll
  rw [mo_personMany_ok h40 hb h97, bndO_s, Ok_chkI, Ok_chkI, show (mq : Int) - 1 - (n : Int) = ((mq - 1 - n : Nat) : Int) from by omega, mo_power_ok hN h40 hb h95 hmp (by omega : mq - 1 - n ≤ 5), bndO_s]
  refine ⟨by omega, by omega, ?_⟩
  generalize hU' : mp ^ (mq - 1 - n) = U at *
  obtain ⟨G, hG⟩ : ∃ G, G = stB mp mq (fun u v => decide (Mn u v ≤ hr)) n f := ⟨_, rfl⟩
  rw [← hG]
  refine Ok_loopS1 (fun y ρ => ∃ x : Nat, y = x ∧ x ≤ mp ^ mq ∧ (∀ i, i ≠ 135 → ρ i = τ i) ∧ ∀ z, z < x → ρ 135 z = b01 (G z)) (fun y _ => (mp ^ mq - y.toNat : Nat)) ?_ N _ _ ⟨0, rfl, by omega, fun _ _ => rfl, fun z hz => absurd hz (Nat.not_lt_zero z)⟩ (by omega)
  rintro g y ρ ⟨x, rfl, hx, i1, i2⟩ rec
  rw [mo_stateMany_ok hN (by rw [i1 92 (by decide)]; exact h40) hb (by rw [i1 95 (by decide)]; exact h95) hmp (by rw [i1 97 (by decide)]; exact h97) hmq, bndO_s, Ok_ite]
  refine ⟨fun q => ?_, fun q => ?_⟩
  · have hxe : x = mp ^ mq := by omega
    refine Ok_loopS1 (fun y ν => ∃ z : Nat, y = z ∧ z ≤ mp ^ mq ∧ (∀ i, i ≠ 134 → ν i = ρ i) ∧ ∀ u, u < z → ν 134 u = ρ 135 u) (fun y _ => (mp ^ mq - y.toNat : Nat)) ?_ N _ _ ⟨0, rfl, by omega, fun _ _ => rfl, fun z hz => absurd hz (Nat.not_lt_zero z)⟩ (by omega)
    rintro g2 y ν ⟨z, rfl, hz, j1, j2⟩ rec2
    rw [mo_stateMany_ok hN (by rw [j1 92 (by decide), i1 92 (by decide)]; exact h40) hb (by rw [j1 95 (by decide), i1 95 (by decide)]; exact h95) hmp (by rw [j1 97 (by decide), i1 97 (by decide)]; exact h97) hmq, bndO_s, Ok_ite, Ok_some]
    refine ⟨fun q2 => ⟨fun i a c => by rw [j1 i a]; exact i1 i c, fun u hu => by rw [j2 u (by omega)]; exact i2 u (by omega)⟩, fun q2 => ?_⟩
    have hb2 := b01_rg (G z)
    rw [Ok_chkA, Ok_chk, Ok_chkA, Ok_bnd, Ok_chkI, Int.toNat_natCast, j1 135 (by decide)]
    refine ⟨by omega, by rw [i2 z (by omega)]; exact hb2, by omega, by omega, rec2 _ _ ⟨z + 1, by omega, by omega, fun i hi => by rw [yset_off i hi]; exact j1 i hi, fun u hu => ?_⟩ (by omega)⟩
    by_cases c : u = z
    · rw [c, yset_at]
    · rw [yset_ne (by omega)]
      exact j2 u (by omega)
  · have hxx : x < mp ^ mq := by omega
    have hd : dg mp mq x n < mp := dg_lt hm0
    have td : (x : Int).tdiv (U : Int) = ((x / U : Nat) : Int) := by
      rw [Int.tdiv_eq_ediv_of_nonneg (Int.natCast_nonneg _), Int.natCast_ediv]
    have tm : (((x / U : Nat) : Int)).tmod (mp : Int) = ((dg mp mq x n : Nat) : Int) := by
      rw [Int.tmod_eq_emod_of_nonneg (Int.natCast_nonneg _)]
      unfold dg
      rw [hU', Int.natCast_emod]
    have hxU : x / U ≤ x := Nat.div_le_self _ _
    obtain ⟨xu, hxu⟩ : ∃ xu : Nat, x / U = xu := ⟨_, rfl⟩
    rw [hxu] at td tm hxU
    have P40 : ρ 92 40 = b := by rw [i1 92 (by decide)]; exact h40
    have P95 : ρ 95 b = mp := by rw [i1 95 (by decide)]; exact h95
    rw [td, mo_placeMany_ok P40 hb P95, bndO_s, tm, Ok_chk, Ok_chkI, Ok_chk, Ok_chkI, Ok_chkA, Ok_bnd, Int.toNat_natCast]
    refine ⟨by omega, by omega, by omega, by omega, by omega, ?_⟩
    obtain ⟨F, hF⟩ : ∃ F : Nat → Bool, ∀ q, F q = (decide (Mn (dg mp mq x n) q ≤ hr) && f (sdx mp mq x n q)) := ⟨_, fun _ => rfl⟩
    have hst : bany F mp = G x := by
      rw [hG]
      exact bany_congr mp (fun q _ => hF q)
    refine Ok_loopS2 (fun y z ν => y = (x : Int) ∧ ∃ j : Nat, z = j ∧ j ≤ mp ∧ (∀ i, i ≠ 135 → ν i = τ i) ∧ (∀ u, u < x → ν 135 u = ρ 135 u) ∧ ν 135 x = b01 (bany F j)) (fun _ z _ => (mp - z.toNat : Nat)) ?_ N _ _ _ ⟨rfl, 0, rfl, by omega, fun i hi => by rw [yset_off i hi]; exact i1 i hi, fun u hu => yset_ne (by omega), yset_at⟩ (by omega)
    rintro g2 y z ν ⟨rfl, j, rfl, hj, j1, j2, j3⟩ rec2
    have Q40 : ν 92 40 = b := by rw [j1 92 (by decide)]; exact h40
    have Q95 : ν 95 b = mp := by rw [j1 95 (by decide)]; exact h95
    rw [mo_placeMany_ok Q40 hb Q95, bndO_s]
    refine Ok_jq (bany F j = bany F mp) (fun w => ?_) (fun j40 hj40 => ?_)
    · rw [Ok_chkI]
      refine ⟨by omega, rec _ _ ⟨x + 1, by omega, by omega, j1, fun z hz => ?_⟩ (by omega)⟩
      by_cases c : z = x
      · rw [c, j3, w, hst]
      · rw [j2 z (by omega)]
        exact i2 z (by omega)
    · rw [Ok_ite]
      refine ⟨fun q2 => hj40 (by rw [show j = mp by omega]), fun q2 => ?_⟩
      rw [Ok_chkA, Int.toNat_natCast, j3, Ok_ite]
      refine ⟨by omega, fun q3 => hj40 ?_, fun q3 => ?_⟩
      · have t : bany F j = true := by
          cases e : bany F j with
          | true => rfl
          | false =>
            rw [e] at q3
            exact absurd rfl q3
        rw [t, bany_le t hj]
      · have fj : bany F j = false := b01_0.mp (Classical.byContradiction q3)
        have hjm : j < mp := by omega
        have hidx := sdx_int (q := j) hm0 hxx hn
        rw [hU'] at hidx
        have hsl := sdx_lt (m := mp) (K := mq) (x := x) (n := n) hm0 hjm
        have hmul : -50000 ≤ ((j : Int) - ((dg mp mq x n : Nat) : Int)) * (U : Int) ∧ ((j : Int) - ((dg mp mq x n : Nat) : Int)) * (U : Int) ≤ 50000 := by
          omega
        rw [← hidx, Int.toNat_natCast, j1 134 (by decide), hf _ hsl, Ok_chkI, Ok_chkI, Ok_chkI, Ok_chkA]
        refine ⟨by omega, by omega, by omega, by omega, ?_⟩
        have hom : bany F (j + 1) = F j := by
          show (bany F j || F j) = F j
          rw [fj, Bool.false_or]
        refine Ok_jq1 (fun (y : Int) => y = b01 (F j)) (fun y hy => ?_) (fun kk hkk => ?_)
        · have := b01_rg (F j)
          rw [Ok_chk, Ok_chkA, Ok_bnd, Ok_chkI]
          refine ⟨by rw [hy]; exact this, by omega, by omega, rec2 _ _ _ ⟨rfl, j + 1, by omega, by omega, fun i hi => by rw [yset_off i hi]; exact j1 i hi, fun u hu => by rw [yset_ne (by omega)]; exact j2 u hu, ?_⟩ (by omega)⟩
          rw [yset_at, hom, hy]
        · rw [Ok_ite]
          refine ⟨fun c => hkk _ ?_, fun c => ?_⟩
          · rw [hF, b01_0.mp c, Bool.and_false]
            rfl
          · have ft : f (sdx mp mq x n j) = true := by
              cases e : f (sdx mp mq x n j) with
              | true => rfl
              | false =>
                rw [e] at c
                exact absurd rfl c
            have ix : (6 * ((dg mp mq x n : Nat) : Int) + (j : Int)).toNat = 6 * dg mp mq x n + j := by omega
            have hg : mo_gets ((dg mp mq x n : Nat) : Int) (j : Int) ν = some (if Mn (dg mp mq x n) j > hr then 0 else 1) := by
              unfold mo_gets
              rw [chkI_pos (by omega), chkI_pos (by omega), chkA_pos (by omega), ix, j1 124 (by decide), hMn _ _ hd hjm, j1 92 (by decide), h47, some_ite]
            rw [hg, bndO_s]
            by_cases cg : Mn (dg mp mq x n) j > hr
            · rw [if_pos cg, if_pos rfl]
              refine hkk _ ?_
              rw [hF, decide_eq_false (show ¬ Mn (dg mp mq x n) j ≤ hr by omega)]
              rfl
            · rw [if_neg cg, if_neg (by decide)]
              refine hkk _ ?_
              rw [hF, decide_eq_true (show Mn (dg mp mq x n) j ≤ hr by omega), ft]
              rfl
/-- the counts of a stroke as known at k, in a state -/
def agK (σ : ySt) (mp mq nc : Nat) (k : Int) (s x : Nat) : Bool := !(bany (fun c => cnB σ k c && (decide (σ 4 c = (s : Int)) && !(decide (((cn (dg mp mq x) mq (σ 5 c).toNat : Nat) : Int) = σ 6 c)))) nc)
theorem agB_K {σ : ySt} {mp mq nc A s x : Nat} {k : Int} (h : ∀ c, c < nc → Nat.testBit A c = cnB σ k c) : agB σ mp mq nc A s x = agK σ mp mq nc k s x := by
  unfold agB agK
  rw [bany_congr nc (fun c hc => by rw [h c hc])]
theorem agB_0 {σ : ySt} {mp mq nc s x : Nat} : agB σ mp mq nc 0 s x = true := by
  unfold agB
  have : ∀ m : Nat, bany (fun c => Nat.testBit 0 c && (decide (σ 4 c = (s : Int)) && !(decide (((cn (dg mp mq x) mq (σ 5 c).toNat : Nat) : Int) = σ 6 c)))) m = false := by
    intro m
    induction m with
    | zero => rfl
    | succ m ih =>
      show (bany _ m || (Nat.testBit 0 m && _)) = false
      rw [ih, Nat.zero_testBit, Bool.false_and]
      rfl
  rw [this nc]
  rfl
theorem mo_isCounted_ok {σ τ : ySt} {nc mp c : Nat} {k : Int} (ct : CTr σ τ nc mp) (hc : c < nc) : mo_isCounted c k τ = some (b01 (cnB σ k c)) := by
  obtain ⟨t1, t2, t3, t4, t5⟩ := ct
  obtain ⟨_, _, _, ⟨a1, a2, a3⟩, ⟨c1, c2, c3⟩⟩ := t5 c hc
  unfold mo_isCounted cnB
  rw [chkA_pos (by omega), Int.toNat_natCast, ← a1, ← c1]
  by_cases x1 : σ 7 c > k
  · rw [if_pos x1, decide_eq_false (show ¬ σ 7 c ≤ k by omega)]
    rfl
  · rw [if_neg x1, chkA_pos (by omega), decide_eq_true (show σ 7 c ≤ k by omega)]
    by_cases x2 : σ 8 c < 0
    · rw [if_pos x2, decide_eq_false (show ¬ σ 8 c ≠ -1 by omega)]
      rfl
    · rw [if_neg x2, chkA_pos (by omega), decide_eq_true (show σ 8 c ≠ -1 by omega)]
      by_cases x3 : σ 8 c ≤ k
      · rw [if_pos x3, decide_eq_true x3]
        rfl
      · rw [if_neg x3, decide_eq_false x3]
        rfl
theorem mo_agrees_ok {N nc mp mq s x : Nat} {k : Int} {σ τ : ySt} (hN : 100000 ≤ N) (ct : CTr σ τ nc mp) (hm : mp ≤ 6) (ht : ∀ p : Nat, p < 6 → τ 127 p = cnt (fun n => ((dg mp mq x n : Nat) : Int)) mq p) : mo_agrees N s k τ = some (b01 (agK σ mp mq nc k s x)) := by
  obtain ⟨t1, t2, t3, t4, t5⟩ := id ct
  obtain ⟨F, hF⟩ : ∃ F : Nat → Bool, ∀ c, F c = (cnB σ k c && (decide (σ 4 c = (s : Int)) && !(decide (((cn (dg mp mq x) mq (σ 5 c).toNat : Nat) : Int) = σ 6 c)))) := ⟨_, fun _ => rfl⟩
  have hag : agK σ mp mq nc k s x = !(bany F nc) := by
    unfold agK
    rw [bany_congr nc (fun c _ => hF c)]
  apply Ok_eq
  rw [hag]
  unfold mo_agrees
  refine Ok_loop1 (fun y => ∃ c : Nat, y = c ∧ c ≤ nc ∧ bany F c = false) (fun y => (nc - y.toNat : Nat)) ?_ N _ ⟨0, rfl, by omega, rfl⟩ (by omega)
  rintro g y ⟨c, rfl, hc, i1⟩ rec
  rw [t2, Ok_ite, Ok_some]
  refine ⟨fun q => by rw [show nc = c by omega, i1]; rfl, fun q => ?_⟩
  have hcn : c < nc := by omega
  obtain ⟨⟨a1, a2, a3⟩, ⟨p1, p2, p3⟩, ⟨m1, m2, m3⟩, _⟩ := t5 c hcn
  rw [mo_isCounted_ok ct hcn, bndO_s]
  refine Ok_jq (F c = false) (fun w => ?_) (fun jj hjj => ?_)
  · rw [Ok_chkI]
    refine ⟨by omega, rec _ ⟨c + 1, by omega, by omega, ?_⟩ (by omega)⟩
    show (bany F c || F c) = false
    rw [i1, w]
    rfl
  · rw [Ok_ite]
    refine ⟨fun c1 => hjj (by rw [hF, b01_0.mp c1]; rfl), fun c1 => ?_⟩
    have ct' : cnB σ k c = true := by
      cases e : cnB σ k c with
      | true => rfl
      | false =>
        rw [e] at c1
        exact absurd rfl c1
    rw [Ok_chkA, Int.toNat_natCast, ← a1, Ok_ite]
    refine ⟨by omega, fun c2 => hjj (by rw [hF, decide_eq_false c2, Bool.false_and, Bool.and_false]), fun c2 => ?_⟩
    have c2' : σ 4 c = (s : Int) := Classical.byContradiction c2
    obtain ⟨pc, hpc⟩ : ∃ pc : Nat, σ 5 c = pc := ⟨(σ 5 c).toNat, by omega⟩
    rw [Ok_chkA, ← p1, Ok_chkA, Ok_chkA, ← m1, hpc, Int.toNat_natCast, ht pc (by omega), ← cn_int, Ok_ite, Ok_some]
    refine ⟨by omega, by omega, by omega, fun c3 => hjj (by rw [hF, hpc, Int.toNat_natCast, decide_eq_true c3, Bool.not_true, Bool.and_false, Bool.and_false]), fun c3 => ?_⟩
    have hFt : F c = true := by
      rw [hF, hpc, Int.toNat_natCast, decide_eq_false c3, decide_eq_true c2', ct']
      rfl
    rw [bany_le (f := F) (j := c + 1) (m := nc) (by show (bany F c || F c) = true; rw [hFt, Bool.or_true]) (by omega)]
    rfl
