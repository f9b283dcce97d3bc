/-! the class's table -/
def rpR (lo hi x : Int) (o : Option Int) : Prop := (o = none ∧ x = -1000000) ∨ ∃ a, o = some a ∧ x = a ∧ lo ≤ a ∧ a ≤ hi
def DG (σ : ySt) (mp mq S : Nat) (wk : Nat → Nat → Option Int) (gn : Nat → Nat → Nat → Option Int) : Prop := σ 78 1 = (S : Int) ∧ 1 ≤ S ∧ S ≤ 8 ∧ (∀ u v, u < mp → v < mp → rpR (-999) 0 (σ 80 (6 * u + v)) (wk u v)) ∧ ∀ s n p, 1 ≤ s → s ≤ S → n < mq → p < mp → rpR (-1000) 8000 (σ 81 (((s * 5) + n) * 6 + p)) (gn s n p)
theorem DG_of {σ σ' : ySt} {mp mq S : Nat} {wk : Nat → Nat → Option Int} {gn : Nat → Nat → Nat → Option Int} (h : DG σ mp mq S wk gn) (e : ∀ i, i = 78 ∨ i = 80 ∨ i = 81 → σ' i = σ i) : DG σ' mp mq S wk gn := by
  unfold DG at h ⊢
  rw [e 78 (by omega), e 80 (by omega), e 81 (by omega)]
  exact h
theorem step_ok {mp mq S s n u v : Nat} {σ : ySt} {wk : Nat → Nat → Option Int} {gn : Nat → Nat → Nat → Option Int} (h : DG σ mp mq S wk gn) (hmp : mp ≤ 6) (hmq : mq ≤ 5) (hs : 1 ≤ s ∧ s ≤ S) (hn : n < mq) (hu : u < mp) (hv : v < mp) : ∃ z, cDy_step s n u v σ = some z ∧ rpW z (oadd (wk u v) (gn s n v)) := by
  obtain ⟨_, hS1, hS8, hw, hg⟩ := h
  have i1 : ((u : Int) * 6 + (v : Int)).toNat = 6 * u + v := by omega
  have i2 : (((s : Int) * 5 + (n : Int)) * 6 + (v : Int)).toNat = ((s * 5) + n) * 6 + v := by omega
  have hwu := hw u v hu hv
  have hgs := hg s n v hs.1 hs.2 hn hv
  have r1 : -1000000 ≤ σ 80 (6 * u + v) ∧ σ 80 (6 * u + v) ≤ 0 := by
    rcases hwu with ⟨_, e⟩ | ⟨a, _, e, h1, h2⟩
    · omega
    · omega
  have r2 : -1000000 ≤ σ 81 (((s * 5) + n) * 6 + v) ∧ σ 81 (((s * 5) + n) * 6 + v) ≤ 8000 := by
    rcases hgs with ⟨_, e⟩ | ⟨a, _, e, h1, h2⟩
    · omega
    · omega
  refine ⟨σ 80 (6 * u + v) + σ 81 (((s * 5) + n) * 6 + v), ?_, ?_⟩
  · unfold cDy_step
    rw [i1, i2, chkI_pos (by omega), chkI_pos (by omega), chkA_pos (by omega), chkI_pos (by omega), chkI_pos (by omega), chkI_pos (by omega), chkI_pos (by omega), chkA_pos (by omega), chkI_pos (by omega)]
  · rcases hwu with ⟨e1, e2⟩ | ⟨a, e1, e2, h1, h2⟩
    · exact Or.inl ⟨by rw [e1]; exact none_oadd, by omega, by omega⟩
    · rcases hgs with ⟨e3, e4⟩ | ⟨c, e3, e4, h3, h4⟩
      · exact Or.inl ⟨by rw [e3]; exact oadd_none, by omega, by omega⟩
      · exact Or.inr ⟨a + c, by rw [e1, e3]; rfl, by omega, by omega, by omega⟩
theorem layWeights_ok {N T mp mq S s n : Nat} {σ : ySt} {wk : Nat → Nat → Option Int} {gn : Nat → Nat → Nat → Option Int} (hN : 100000 ≤ N) (hd : DS σ T mp mq) (h : DG σ mp mq S wk gn) (hs : 1 ≤ s ∧ s ≤ S) (hn : n < mq) :
    Ok (cDs_layWeights N s n σ) (fun σ' => (∀ i, i ≠ 62 → σ' i = σ i) ∧ WT σ' mp (fun u v => oadd (wk u v) (gn s n v))) := by
  obtain ⟨hT, h0, h1, hm6, h3, hq5, hm, h783, h79⟩ := id hd
  unfold cDs_layWeights
  rw [chkT_pos hT h0, h1]
  refine Ok_loopS1 (fun y ν => ∃ u : Nat, y = u ∧ u ≤ mp ∧ (∀ i, i ≠ 62 → ν i = σ i) ∧ ∀ u' v, u' < u → v < mp → rpW (ν 62 (6 * u' + v)) (oadd (wk u' v) (gn s n v))) (fun y _ => (mp - y.toNat : Nat)) ?_ N _ _ ⟨0, rfl, by omega, fun _ _ => rfl, fun u' v hu => absurd hu (Nat.not_lt_zero u')⟩ (by omega)
  rintro g y ν ⟨u, rfl, hu, i1, i2⟩ rec
  rw [Ok_ite, Ok_some]
  refine ⟨fun q => ⟨i1, fun u' v hu' hv => i2 u' v (by omega) hv⟩, fun q => ?_⟩
  refine Ok_loopS2 (fun y z μ => y = (u : Int) ∧ ∃ v : Nat, z = v ∧ v ≤ mp ∧ (∀ i, i ≠ 62 → μ i = σ i) ∧ ∀ u' v', (u' < u ∨ (u' = u ∧ v' < v)) → v' < mp → rpW (μ 62 (6 * u' + v')) (oadd (wk u' v') (gn s n v'))) (fun _ z _ => (mp - z.toNat : Nat)) ?_ N _ _ _ ⟨rfl, 0, rfl, by omega, i1, fun u' v' hx hv => i2 u' v' (by omega) hv⟩ (by omega)
  rintro g2 y z μ ⟨rfl, v, rfl, hv, j1, j2⟩ rec2
  rw [Ok_ite]
  refine ⟨fun q2 => ?_, fun q2 => ?_⟩
  · rw [Ok_chkI]
    exact ⟨by omega, rec _ _ ⟨u + 1, by omega, by omega, j1, fun u' v' hu' hv' => j2 u' v' (by omega) hv'⟩ (by omega)⟩
  · have i3 : ((u : Int) * 6 + (v : Int)).toNat = 6 * u + v := by omega
    obtain ⟨z, hz, hzr⟩ := step_ok (u := u) (v := v) (DG_of h (σ' := μ) (fun i hi => j1 i (by omega))) hm6 hq5 hs hn (by omega) (by omega)
    rw [hz, bndO_s, i3, Ok_chkI, Ok_chkI, Ok_chkA, Ok_bnd, Ok_chkI]
    refine ⟨by omega, by omega, by omega, by omega, rec2 _ _ _ ⟨rfl, v + 1, by omega, by omega, fun i hi => by rw [yset_off i hi]; exact j1 i hi, fun u' v' hx hv' => ?_⟩ (by omega)⟩
    by_cases c : u' = u ∧ v' = v
    · rw [c.1, c.2, yset_at]
      exact hzr
    · rw [yset_ne (by omega)]
      exact j2 u' v' (by omega) hv'
theorem fill_fda_ok {N a len : Nat} {lo hi : Nat} {z : Int} {σ : ySt} (hN : 100000 ≤ N) (h1 : (yKd a).1 = 20 ∧ a < 150) (h2 : (yKd a).2 = len) (hl : lo ≤ hi) (hh : hi ≤ len) (hw : hi - lo ≤ 10000) (hb : hi ≤ 100000) :
    Ok (jA_fill_fda19 N a lo hi z σ) (fun σ' => (∀ i, i ≠ a → σ' i = σ i) ∧ ∀ j, σ' a j = if lo ≤ j ∧ j < hi then z else σ a j) := by
  have hr : jA_rangeCheck_23922 ((len : Nat) : Int) lo hi σ = some () := by
    unfold jA_rangeCheck_23922
    rw [if_pos (by omega), if_pos (by omega), if_pos (by omega)]
  unfold jA_fill_fda19
  rw [Ok_chk, h2, hr, bndO_s]
  refine ⟨h1, Ok_loopS1 (fun x ν => ∃ k : Nat, x = k ∧ lo ≤ k ∧ k ≤ hi ∧ (∀ i, i ≠ a → ν i = σ i) ∧ ∀ j, ν a j = if lo ≤ j ∧ j < k then z else σ a j) (fun x _ => (hi - x.toNat : Nat)) ?_ N _ _ ⟨lo, rfl, Nat.le_refl lo, hl, fun _ _ => rfl, fun j => by rw [if_neg (by omega)]⟩ (by omega)⟩
  rintro g x ν ⟨k, rfl, hk1, hk2, i1, i2⟩ rec
  rw [Ok_ite, Ok_some]
  refine ⟨fun q => ⟨i1, fun j => by rw [i2 j, show k = hi from by omega]⟩, fun q => ?_⟩
  rw [Ok_chkA, Ok_bnd, Ok_chkI, Int.toNat_natCast]
  refine ⟨by omega, by omega, rec _ _ ⟨k + 1, by omega, by omega, by omega, fun i hi => by rw [yset_off i hi]; exact i1 i hi, fun j => ?_⟩ (by omega)⟩
  by_cases c : j = k
  · rw [c, yset_at, if_pos (by omega)]
  · rw [yset_ne (by omega), i2 j]
    by_cases c2 : lo ≤ j ∧ j < k
    · rw [if_pos c2, if_pos (by omega)]
    · rw [if_neg c2, if_neg (by omega)]
/-- the best behind a stroke, where the stroke itself is lawful -/
def tbl (mp mq S : Nat) (wk : Nat → Nat → Option Int) (law : Nat → Nat → Bool) (gn : Nat → Nat → Nat → Option Int) (s x : Nat) : Option Int := if law s x then VV mp mq S wk law (fun s y => osum (fun n => gn s n (dg mp mq y n)) 0 mq) (S - s) x else none
theorem VV_back {mp mq S s : Nat} {wk : Nat → Nat → Option Int} {law : Nat → Nat → Bool} {gn : Nat → Nat → Nat → Option Int} (hm : 0 < mq → 0 < mp) (hs : s < S) (x : Nat) (hx : x < mp ^ mq) :
    VV mp mq S wk law (fun s y => osum (fun n => gn s n (dg mp mq y n)) 0 mq) (S - s) x = stps mp mq (fun n a b => oadd (wk a b) (gn (s + 1) n b)) (tbl mp mq S wk law gn (s + 1)) mq x := by
  have e1 : S - s = (S - (s + 1)) + 1 := by omega
  have e2 : S - (S - (s + 1)) = s + 1 := by omega
  rw [e1]
  show stps mp mq (fun _ => wk) (fun y => if law (S - (S - (s + 1))) y then oadd (osum (fun n => gn (S - (S - (s + 1))) n (dg mp mq y n)) 0 mq) (VV mp mq S wk law (fun s y => osum (fun n => gn s n (dg mp mq y n)) 0 mq) (S - (s + 1)) y) else none) mq x = _
  rw [e2]
  have e3 : (fun y => if law (s + 1) y then oadd (osum (fun n => gn (s + 1) n (dg mp mq y n)) 0 mq) (VV mp mq S wk law (fun s y => osum (fun n => gn s n (dg mp mq y n)) 0 mq) (S - (s + 1)) y) else none) = fun y => oadd (osum (fun n => gn (s + 1) n (dg mp mq y n)) 0 mq) (tbl mp mq S wk law gn (s + 1) y) := by
    funext y
    unfold tbl
    by_cases c : law (s + 1) y = true
    · rw [if_pos c, if_pos c]
    · rw [if_neg c, if_neg c]
      exact oadd_none.symm
  rw [e3]
  by_cases q : mq = 0
  · subst q
    show oadd (some 0) (tbl mp 0 S wk law gn (s + 1) x) = tbl mp 0 S wk law gn (s + 1) x
    exact zero_oadd _
  · have := stps_gain (m := mp) (K := mq) (hm (by omega)) (w := wk) (g := fun n p => gn (s + 1) n p) (f := tbl mp mq S wk law gn (s + 1)) mq x (Nat.le_refl mq) hx
    rw [this, Nat.sub_self]
    exact zero_oadd _
/-- what is not lawful at a stroke goes -/
theorem keepLawful_ok {N T mp mq s : Nat} {σ : ySt} {law : Nat → Nat → Bool} {F : Nat → Option Int} (hN : 100000 ≤ N) (hd : DS σ T mp mq) (hs : 1 ≤ s ∧ s ≤ 8) (hl : ∀ x, x < mp ^ mq → ∃ B : Nat, σ 61 x = B ∧ B < 512 ∧ ∀ s, 1 ≤ s → s ≤ 8 → Nat.testBit B s = law s x) (hF : ∀ x, x < mp ^ mq → rpM (σ 60 x) (F x)) :
    Ok (cDs_keepLawful N s σ) (fun σ' => (∀ i, i ≠ 60 → σ' i = σ i) ∧ ∀ x, x < mp ^ mq → rpM (σ' 60 x) (if law s x then F x else none)) := by
  obtain ⟨hT, h0, h1, hm6, h3, hq5, hm, h783, h79⟩ := id hd
  have hS7 := pow_le hm6 hq5
  unfold cDs_keepLawful
  refine Ok_loopS1 (fun y κ => ∃ x : Nat, y = x ∧ x ≤ mp ^ mq ∧ (∀ i, i ≠ 60 → κ i = σ i) ∧ ∀ u, u < mp ^ mq → (if u < x then rpM (κ 60 u) (if law s u then F u else none) else κ 60 u = σ 60 u)) (fun y _ => (mp ^ mq - y.toNat : Nat)) ?_ N _ _ ⟨0, rfl, by omega, fun _ _ => rfl, fun u _ => by rw [if_neg (Nat.not_lt_zero u)]⟩ (by omega)
  rintro g y κ ⟨x, rfl, hx, l1, l3⟩ rec
  rw [l1 78 (by decide), h783, Ok_ite, Ok_some]
  refine ⟨fun q => ⟨l1, fun u hu => ?_⟩, fun q => ?_⟩
  · have := l3 u hu
    rw [if_pos (by omega)] at this
    exact this
  · have hxx : x < mp ^ mq := by omega
    obtain ⟨B, b1, b2, b3⟩ := hl x hxx
    rw [Int.toNat_natCast, l1 61 (by decide), b1, bit_at B s (by omega) b2, b3 s hs.1 hs.2, Ok_chkA]
    refine ⟨by omega, Ok_jq1 (fun (κ' : ySt) => (∀ i, i ≠ 60 → κ' i = σ i) ∧ ∀ u, u < mp ^ mq → (if u < x + 1 then rpM (κ' 60 u) (if law s u then F u else none) else κ' 60 u = σ 60 u)) (fun κ' hκ => ?_) (fun kk hkk => ?_)⟩
    · rw [Ok_chkI]
      exact ⟨by omega, rec _ _ ⟨x + 1, by omega, by omega, hκ.1, hκ.2⟩ (by omega)⟩
    · have old := l3 x hxx
      rw [if_neg (Nat.lt_irrefl x)] at old
      have V := hF x hxx
      rw [Ok_ite]
      by_cases c : law s x = true
      · rw [if_pos c]
        refine ⟨fun _ => hkk _ ⟨l1, fun u hu => ?_⟩, fun w => absurd (by decide) w⟩
        by_cases cu : u = x
        · subst cu
          rw [if_pos (by omega), old, if_pos c]
          exact V
        · have := l3 u hu
          by_cases c2 : u < x
          · rw [if_pos c2] at this
            rw [if_pos (by omega)]
            exact this
          · rw [if_neg c2] at this
            rw [if_neg (by omega)]
            exact this
      · rw [if_neg c]
        refine ⟨fun w => absurd rfl w, fun _ => ?_⟩
        rw [Ok_chkA, Ok_bnd]
        refine ⟨by omega, hkk _ ⟨fun i hi => by rw [yset_off i hi]; exact l1 i hi, fun u hu => ?_⟩⟩
        by_cases cu : u = x
        · subst cu
          rw [if_pos (by omega), yset_at, if_neg c]
          exact Or.inl ⟨rfl, rfl⟩
        · rw [yset_ne (by omega)]
          have := l3 u hu
          by_cases c2 : u < x
          · rw [if_pos c2] at this
            rw [if_pos (by omega)]
            exact this
          · rw [if_neg c2] at this
            rw [if_neg (by omega)]
            exact this
theorem tbl_bO {mp mq S s x : Nat} {wk : Nat → Nat → Option Int} {law : Nat → Nat → Bool} {gn : Nat → Nat → Nat → Option Int} (hS : S ≤ 8) (hx : x < mp ^ mq) (hV : ∀ j, j ≤ S → ∀ x, x < mp ^ mq → bO (13000 * (j : Int)) (VV mp mq S wk law (fun s y => osum (fun n => gn s n (dg mp mq y n)) 0 mq) j x)) : bO 104000 (tbl mp mq S wk law gn s x) := fun a ha => by
  unfold tbl at ha
  by_cases c : law s x = true
  · rw [if_pos c] at ha
    have := hV (S - s) (by omega) x hx a ha
    omega
  · rw [if_neg c] at ha
    cases ha
theorem layTable_ok {N T mp mq S f : Nat} {σ : ySt} {wk : Nat → Nat → Option Int} {law : Nat → Nat → Bool} {gn : Nat → Nat → Nat → Option Int} (hN : 100000 ≤ N) (hf : 1 ≤ f) (hd : DS σ T mp mq) (h : DG σ mp mq S wk gn) (hl : ∀ x, x < mp ^ mq → ∃ B : Nat, σ 61 x = B ∧ B < 512 ∧ ∀ s, 1 ≤ s → s ≤ 8 → Nat.testBit B s = law s x) (hV : ∀ j, j ≤ S → ∀ x, x < mp ^ mq → bO (13000 * (j : Int)) (VV mp mq S wk law (fun s y => osum (fun n => gn s n (dg mp mq y n)) 0 mq) j x)) :
    Ok (cDs_layTable N f σ) (fun σ' => (∀ i, i ≠ 60 → i ≠ 62 → i ≠ 63 → σ' i = σ i) ∧ (f ≤ S → ∀ x, x < mp ^ mq → rpM (σ' 60 x) (tbl mp mq S wk law gn f x))) := by
  obtain ⟨hT, h0, h1, hm6, h3, hq5, hm, h783, h79⟩ := id hd
  obtain ⟨hS, hS1, hS8, hw, hg⟩ := id h
  have hS7 := pow_le hm6 hq5
  have k60 : (yKd 60).1 = 20 ∧ 60 < 150 := by decide
  have k60' : (yKd 60).2 = 7776 := by decide
  have f1 := fill_fda_ok (N := N) (a := 60) (len := 7776) (lo := 0) (hi := mp ^ mq) (z := 0) (σ := σ) hN k60 k60' (Nat.zero_le _) hS7 (by omega) (by omega)
  rw [show ((0 : Nat) : Int) = 0 from rfl] at f1
  unfold cDs_layTable
  rw [h783, Ok_bndO]
  refine f1.mono ?_
  rintro σ2 ⟨a1, a2⟩
  rw [a1 78 (by decide), hS, Ok_bndO]
  have kl := keepLawful_ok (N := N) (s := S) (F := VV mp mq S wk law (fun s y => osum (fun n => gn s n (dg mp mq y n)) 0 mq) 0) hN (DS_of hd (σ' := σ2) (fun i hi => a1 i (by omega))) ⟨hS1, hS8⟩ (law := law) (fun x hx => by rw [a1 61 (by decide)]; exact hl x hx) (fun x hx => by
    rw [a2 x, if_pos ⟨Nat.zero_le x, hx⟩]
    exact Or.inr ⟨0, rfl, rfl⟩)
  refine kl.mono ?_
  rintro σ4 ⟨b1, b2⟩
  have E4 : ∀ i, i ≠ 60 → σ4 i = σ i := fun i hi => (b1 i hi).trans (a1 i hi)
  rw [E4 78 (by decide), hS, Ok_chkI]
  refine ⟨by omega, Ok_loopS1 (fun y ν => ∃ s : Nat, y = (s : Int) - 1 ∧ 1 ≤ s ∧ s ≤ S ∧ (f ≤ S → f ≤ s) ∧ (∀ i, i ≠ 60 → i ≠ 62 → i ≠ 63 → ν i = σ i) ∧ ∀ x, x < mp ^ mq → rpM (ν 60 x) (tbl mp mq S wk law gn s x)) (fun y _ => y.toNat) ?_ N _ _ ⟨S, rfl, hS1, Nat.le_refl S, fun w => w, fun i a _ _ => E4 i a, fun x hx => ?_⟩ (by omega)⟩
  · rintro g y ν ⟨s, rfl, hs1, hs, hfs, i1, i2⟩ rec
    rw [Ok_ite, Ok_some]
    refine ⟨fun q => ⟨i1, fun w x hx => ?_⟩, fun q => ?_⟩
    · have := hfs w
      rw [show f = s from by omega]
      exact i2 x hx
    · obtain ⟨u, rfl⟩ : ∃ u, s = u + 1 := ⟨s - 1, by omega⟩
      have eu : ((u + 1 : Nat) : Int) - 1 = (u : Int) := by omega
      rw [eu] at q ⊢
      have hu1 : 1 ≤ u := by omega
      refine Ok_loopS2 (fun y z κ => y = (u : Int) ∧ ∃ n : Nat, z = n ∧ n ≤ mq ∧ (∀ i, i ≠ 60 → i ≠ 62 → i ≠ 63 → κ i = σ i) ∧ ∀ x, x < mp ^ mq → rpM (κ 60 x) (stps mp mq (fun n a b => oadd (wk a b) (gn (u + 1) n b)) (tbl mp mq S wk law gn (u + 1)) n x) ∧ bO (104000 + 10000 * (n : Int)) (stps mp mq (fun n a b => oadd (wk a b) (gn (u + 1) n b)) (tbl mp mq S wk law gn (u + 1)) n x)) (fun _ z _ => (mq - z.toNat : Nat)) ?_ N _ _ _ ⟨rfl, 0, rfl, by omega, i1, fun x hx => ⟨i2 x hx, fun a ha => by have := tbl_bO hS8 hx hV a ha; omega⟩⟩ (by omega)
      rintro g2 y z κ ⟨rfl, n, rfl, hn, l1, l3⟩ rec2
      have hdκ := DS_of hd (σ' := κ) (fun i hi => l1 i (by omega) (by omega) (by omega))
      rw [chkT_pos hT (by rw [l1 78 (by decide) (by decide) (by decide)]; exact h0), l1 (T + 3) (by omega) (by omega) (by omega), h3, Ok_ite]
      refine ⟨fun q3 => ?_, fun q3 => ?_⟩
      · have hnm : n = mq := by omega
        subst hnm
        rw [Ok_bndO]
        refine (keepLawful_ok (s := u) (law := law) (F := VV mp n S wk law (fun s y => osum (fun k => gn s k (dg mp n y k)) 0 n) (S - u)) hN hdκ ⟨hu1, by omega⟩ (fun x hx => by rw [l1 61 (by decide) (by decide) (by decide)]; exact hl x hx) (fun x hx => by rw [VV_back hm (by omega) x hx]; exact (l3 x hx).1)).mono ?_
        rintro κ2 ⟨m1, m2⟩
        rw [Ok_chkI]
        exact ⟨by omega, rec _ _ ⟨u, by omega, hu1, by omega, fun w => by omega, fun i a b c => by rw [m1 i a]; exact l1 i a b c, m2⟩ (by omega)⟩
      · have hnm : n < mq := by omega
        have hgκ := DG_of h (σ' := κ) (fun i hi => l1 i (by omega) (by omega) (by omega))
        rw [Ok_chkI, Ok_bndO, show (u : Int) + 1 = ((u + 1 : Nat) : Int) from rfl]
        refine ⟨by omega, (layWeights_ok (s := u + 1) hN hdκ hgκ (by omega) hnm).mono ?_⟩
        rintro κ2 ⟨m1, m2⟩
        have hd2 := DS_of hdκ (σ' := κ2) (fun i hi => m1 i (by omega))
        obtain ⟨hT2, h02, h12, hm62, h32, hq52, hm2, h7832, h792⟩ := id hd2
        rw [Ok_bndO]
        refine (goBack_ok (B := 104000 + 10000 * (n : Int)) hN hT h02 h12 ⟨hm (by omega), hm6⟩ hq5 hnm (h792 n hnm) h7832 m2 (by omega) (fun x hx => by rw [m1 60 (by decide)]; exact l3 x hx)).mono ?_
        rintro κ3 ⟨p1, p2, p3⟩
        rw [Ok_chkI]
        exact ⟨by omega, rec2 _ _ _ ⟨rfl, n + 1, by omega, by omega, fun i a b c => by rw [p1 i a c, m1 i b]; exact l1 i a b c, fun x hx => ⟨(p3 x hx).1, fun a ha => by have := (p3 x hx).2 a ha; omega⟩⟩ (by omega)⟩
  · have := b2 x hx
    unfold tbl
    rw [Nat.sub_self]
    exact this
