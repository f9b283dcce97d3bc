/-! the class's best worth -/
theorem osum_snoc (g : Nat → Option Int) : ∀ (j k : Nat), osum g k (j + 1) = oadd (osum g k j) (g (k + j))
  | 0, k => by
    show oadd (g k) (some 0) = oadd (some 0) (g (k + 0))
    rw [oadd_comm]
    rfl
  | j + 1, k => by
    show oadd (g k) (osum g (k + 1) (j + 1)) = oadd (oadd (g k) (osum g (k + 1) j)) _
    rw [osum_snoc g j (k + 1), oadd_assoc, show k + 1 + j = k + (j + 1) from by omega]
/-- sums of k steps -/
def rpS (k : Nat) (x : Int) (o : Option Int) : Prop := (o = none ∧ -4000000 * (k : Int) ≤ x ∧ x ≤ -910000 + 10000 * (k : Int)) ∨ ∃ a, o = some a ∧ x = a ∧ -10000 * (k : Int) ≤ a ∧ a ≤ 10000 * (k : Int)
theorem rpS_add {k : Nat} {x z : Int} {o p : Option Int} (h : rpS k x o) (g : rpW z p) : rpS (k + 1) (x + z) (oadd o p) := by
  rcases h with ⟨e, h1, h2⟩ | ⟨a, e, e2, h1, h2⟩
  · refine Or.inl ⟨by rw [e]; exact none_oadd, ?_⟩
    rcases g with ⟨_, g1, g2⟩ | ⟨c, _, _, g1, g2⟩ <;> omega
  · rcases g with ⟨f, g1, g2⟩ | ⟨c, f, f2, g1, g2⟩
    · refine Or.inl ⟨by rw [f]; exact oadd_none, ?_⟩
      omega
    · exact Or.inr ⟨a + c, by rw [e, f]; rfl, by omega, by omega, by omega⟩
theorem startAtHome_ok {N T mq : Nat} {σ : ySt} (hN : 100000 ≤ N) (hT : T = 13 ∨ T = 33) (h3 : σ (T + 3) 1 = mq) (hq5 : mq ≤ 5) :
    Ok (cDs_startAtHome N T σ) (fun σ' => (∀ i, i ≠ 64 → σ' i = σ i) ∧ ∀ n, n < mq → σ' 64 n = σ (T + 8) n) := by
  unfold cDs_startAtHome
  rw [Ok_chk]
  refine ⟨hT, Ok_loopS1 (fun y ν => ∃ k : Nat, y = k ∧ k ≤ mq ∧ (∀ i, i ≠ 64 → ν i = σ i) ∧ ∀ n, n < k → ν 64 n = σ (T + 8) n) (fun y _ => (mq - y.toNat : Nat)) ?_ N _ _ ⟨0, rfl, by omega, fun _ _ => rfl, fun n hn => absurd hn (Nat.not_lt_zero n)⟩ (by omega)⟩
  rintro g y ν ⟨k, rfl, hk, i1, i2⟩ rec
  rw [i1 (T + 3) (by omega), h3, Ok_ite, Ok_some]
  refine ⟨fun q => ⟨i1, fun n hn => i2 n (by omega)⟩, fun q => ?_⟩
  rw [Ok_chkA, Ok_chkA, Ok_bnd, Ok_chkI, Int.toNat_natCast, i1 (T + 8) (by omega)]
  refine ⟨by omega, by omega, by omega, rec _ _ ⟨k + 1, by omega, by omega, fun i hi => by rw [yset_off i hi]; exact i1 i hi, fun n hn => ?_⟩ (by omega)⟩
  by_cases c : n = k
  · rw [c, yset_at]
  · rw [yset_ne (by omega)]
    exact i2 n (by omega)
theorem stepTo_ok {N T mp mq S s x : Nat} {σ : ySt} {wk : Nat → Nat → Option Int} {gn : Nat → Nat → Nat → Option Int} {v : Nat → Nat} (hN : 100000 ≤ N) (hd : DS σ T mp mq) (h : DG σ mp mq S wk gn) (hs : 1 ≤ s ∧ s ≤ S) (hx : x < mp ^ mq) (hv : ∀ n, n < mq → σ 64 n = v n ∧ v n < mp) :
    ∃ z, cDs_stepTo N s x σ = some z ∧ rpS mq z (osum (fun n => oadd (wk (v n) (dg mp mq x n)) (gn s n (dg mp mq x n))) 0 mq) := by
  obtain ⟨hT, h0, h1, hm6, h3, hq5, hm, h783, h79⟩ := id hd
  obtain ⟨f, hf⟩ : ∃ f : Nat → Option Int, ∀ n, f n = oadd (wk (v n) (dg mp mq x n)) (gn s n (dg mp mq x n)) := ⟨_, fun _ => rfl⟩
  have hff : (fun n => oadd (wk (v n) (dg mp mq x n)) (gn s n (dg mp mq x n))) = f := (funext hf).symm
  rw [hff]
  have key : Ok (cDs_stepTo N s x σ) (fun z => rpS mq z (osum f 0 mq)) := by
    unfold cDs_stepTo
    refine Ok_loop2 (fun a y => ∃ k : Nat, y = k ∧ k ≤ mq ∧ rpS k a (osum f 0 k)) (fun _ y => (mq - y.toNat : Nat)) ?_ N _ _ ⟨0, rfl, by omega, Or.inr ⟨0, rfl, rfl, by decide, by decide⟩⟩ (by omega)
    rintro g a y ⟨k, rfl, hk, ha⟩ rec
    rw [chkT_pos hT h0, h3, Ok_ite, Ok_some]
    refine ⟨fun q => by rw [show k = mq from by omega] at ha; exact ha, fun q => ?_⟩
    have hkm : k < mq := by omega
    have hdl : dg mp mq x k < mp := dg_lt (hm (by omega))
    obtain ⟨z, hz, hzr⟩ := step_ok (n := k) (u := v k) (v := dg mp mq x k) h hm6 hq5 hs hkm (hv k hkm).2 hdl
    rw [← hf k] at hzr
    have hn := rpS_add ha hzr
    have ho : osum f 0 (k + 1) = oadd (osum f 0 k) (f k) := by rw [osum_snoc, Nat.zero_add]
    have rg : -20000000 ≤ a + z ∧ a + z ≤ 50000 := by
      rcases hn with ⟨_, n1, n2⟩ | ⟨c, _, n1, n2, n3⟩ <;> omega
    rw [Int.toNat_natCast, placeIn_ok hd hkm hx, bndO_s, (hv k hkm).1, hz, bndO_s, Ok_chkA, Ok_chkI, Ok_chkI]
    exact ⟨by omega, by omega, by omega, rec _ _ ⟨k + 1, by omega, by omega, by rw [ho]; exact hn⟩ (by omega)⟩
  cases hc : cDs_stepTo N s x σ with
  | none =>
    rw [hc] at key
    exact absurd key (by unfold Ok; simp)
  | some z =>
    rw [hc, Ok_some] at key
    exact ⟨z, rfl, key⟩
/-- from home, it is the greatest over all first states -/
theorem VV_home {mp mq S : Nat} {wk : Nat → Nat → Option Int} {law : Nat → Nat → Bool} {gn : Nat → Nat → Nat → Option Int} {v : Nat → Nat} (hm : 0 < mq → 0 < mp) (s : Nat) (hs : s < S) (hv : ∀ n, n < mq → v n < mp) :
    om (mp ^ mq) (fun x => oadd (osum (fun n => oadd (wk (v n) (dg mp mq x n)) (gn (s + 1) n (dg mp mq x n))) 0 mq) (tbl mp mq S wk law gn (s + 1) x)) = VV mp mq S wk law (fun s y => osum (fun n => gn s n (dg mp mq y n)) 0 mq) (S - s) (enc mp v mq) := by
  have hx : enc mp v mq < mp ^ mq := enc_lt mq hv
  rw [VV_back hm hs _ hx]
  by_cases q : mq = 0
  · subst q
    show omax none (oadd (some 0) (tbl mp 0 S wk law gn (s + 1) 0)) = tbl mp 0 S wk law gn (s + 1) 0
    rw [zero_oadd]
    cases tbl mp 0 S wk law gn (s + 1) 0 <;> rfl
  · have A := stps_all (hm (by omega)) (w := fun n a b => oadd (wk a b) (gn (s + 1) n b)) (f := tbl mp mq S wk law gn (s + 1)) mq (enc mp v mq) (Nat.le_refl mq) hx
    have B := om_isM (fun x => oadd (osum (fun n => oadd (wk (v n) (dg mp mq x n)) (gn (s + 1) n (dg mp mq x n))) 0 mq) (tbl mp mq S wk law gn (s + 1) x)) (mp ^ mq)
    refine isM_uniq B (isM_congr A (fun y => ⟨fun hy => ⟨hy, fun n h1 h2 => by omega⟩, fun hy => hy.1⟩) (fun y _ => ?_))
    congr 1
    exact osum_congr mq 0 (fun n _ hn => by rw [dg_enc hv (by omega)])
theorem worthOf_ok {N T mp mq S : Nat} {σ : ySt} {wk : Nat → Nat → Option Int} {op : Nat → Nat → Nat → Bool} {gn : Nat → Nat → Nat → Option Int} {v : Nat → Nat} (hN : 100000 ≤ N) (hd : DS σ T mp mq) (h : DG σ mp mq S wk gn) (hb : BT σ mp op) (hp : σ 78 2 = 1) (hv : ∀ n, n < mq → σ (T + 8) n = v n ∧ v n < mp) (hV : ∀ j, j ≤ S → ∀ x, x < mp ^ mq → bO (13000 * (j : Int)) (VV mp mq S wk (lawC mp mq op) (fun s y => osum (fun n => gn s n (dg mp mq y n)) 0 mq) j x)) :
    Ok (cDs_worthOf N σ) (fun r => (∀ i, i ≠ 60 → i ≠ 61 → i ≠ 62 → i ≠ 63 → i ≠ 64 → r.2 i = σ i) ∧ ((∀ x, x < mp ^ mq → rpM (r.2 60 x) (tbl mp mq S wk (lawC mp mq op) gn 1 x)) ∧ ∀ x, x < mp ^ mq → ∃ B : Nat, r.2 61 x = B ∧ B < 512 ∧ ∀ s, 1 ≤ s → s ≤ 8 → Nat.testBit B s = lawC mp mq op s x) ∧ rpM r.1 (VV mp mq S wk (lawC mp mq op) (fun s y => osum (fun n => gn s n (dg mp mq y n)) 0 mq) S (enc mp v mq))) := by
  obtain ⟨hT, h0, h1, hm6, h3, hq5, hm, h783, h79⟩ := id hd
  obtain ⟨hS, hS1, hS8, hw, hg⟩ := id h
  have hS7 := pow_le hm6 hq5
  unfold cDs_worthOf
  rw [if_pos (by rw [hp]; decide), Ok_bndO]
  refine (layLawful_ok hN hd hb).mono ?_
  rintro σ3 ⟨a1, a2⟩
  have hd3 := DS_of hd (σ' := σ3) (fun i hi => a1 i (by omega))
  have hg3 := DG_of h (σ' := σ3) (fun i hi => a1 i (by omega))
  rw [Ok_bndO]
  have ly := layTable_ok (f := 1) hN (Nat.le_refl 1) hd3 hg3 a2 hV
  rw [show ((1 : Nat) : Int) = 1 from rfl] at ly
  refine ly.mono ?_
  rintro σ5 ⟨b1, b2⟩
  have hd5 := DS_of hd3 (σ' := σ5) (fun i hi => b1 i (by omega) (by omega) (by omega))
  have hg5 := DG_of hg3 (σ' := σ5) (fun i hi => b1 i (by omega) (by omega) (by omega))
  obtain ⟨_, k0, _, _, k3, _⟩ := id hd5
  rw [chkT_pos hT k0, Ok_bndO]
  refine (startAtHome_ok hN hT k3 hq5).mono ?_
  rintro σ10 ⟨c1, c2⟩
  have hd10 := DS_of hd5 (σ' := σ10) (fun i hi => c1 i (by omega))
  have hg10 := DG_of hg5 (σ' := σ10) (fun i hi => c1 i (by omega))
  have fr : ∀ i, i ≠ 60 → i ≠ 61 → i ≠ 62 → i ≠ 63 → i ≠ 64 → σ10 i = σ i := fun i e1 e2 e3 e4 e5 => by rw [c1 i e5, b1 i e1 e3 e4, a1 i e2]
  have tb : ∀ x, x < mp ^ mq → rpM (σ10 60 x) (tbl mp mq S wk (lawC mp mq op) gn 1 x) := fun x hx => by
    rw [c1 60 (by decide)]
    exact b2 hS1 x hx
  have lb : ∀ x, x < mp ^ mq → ∃ B : Nat, σ10 61 x = B ∧ B < 512 ∧ ∀ s, 1 ≤ s → s ≤ 8 → Nat.testBit B s = lawC mp mq op s x := fun x hx => by
    rw [c1 61 (by decide), b1 61 (by decide) (by decide) (by decide)]
    exact a2 x hx
  have hv10 : ∀ n, n < mq → σ10 64 n = v n ∧ v n < mp := fun n hn => by
    rw [c2 n hn, b1 (T + 8) (by omega) (by omega) (by omega), a1 (T + 8) (by omega)]
    exact hv n hn
  have hVS := VV_home (S := S) (wk := wk) (law := lawC mp mq op) (gn := gn) (v := v) hm 0 (by omega) (fun n hn => (hv n hn).2)
  rw [Nat.sub_zero] at hVS
  obtain ⟨F, hF⟩ : ∃ F : Nat → Option Int, ∀ x, F x = oadd (osum (fun n => oadd (wk (v n) (dg mp mq x n)) (gn (0 + 1) n (dg mp mq x n))) 0 mq) (tbl mp mq S wk (lawC mp mq op) gn (0 + 1) x) := ⟨_, fun _ => rfl⟩
  have hFF : (fun x => oadd (osum (fun n => oadd (wk (v n) (dg mp mq x n)) (gn (0 + 1) n (dg mp mq x n))) 0 mq) (tbl mp mq S wk (lawC mp mq op) gn (0 + 1) x)) = F := (funext hF).symm
  rw [hFF] at hVS
  rw [← hVS]
  have e783 : σ10 78 3 = ((mp ^ mq : Nat) : Int) := hd10.2.2.2.2.2.2.2.1
  refine Ok_loop2 (fun a y => ∃ k : Nat, y = k ∧ k ≤ mp ^ mq ∧ ((om k F = none ∧ -1000000 ≤ a ∧ a < -500000) ∨ ∃ c, om k F = some c ∧ a = c ∧ -200000 ≤ c ∧ c ≤ 200000)) (fun _ y => (mp ^ mq - y.toNat : Nat)) ?_ N _ _ ⟨0, rfl, by omega, Or.inl ⟨rfl, by decide, by decide⟩⟩ (by omega)
  rintro g a y ⟨k, rfl, hk, ha⟩ rec
  rw [e783, Ok_ite]
  refine ⟨fun q => ?_, fun q => ?_⟩
  · have hkm : k = mp ^ mq := by omega
    rw [← hkm, Ok_ite, Ok_some, Ok_some]
    rcases ha with ⟨e, r1, r2⟩ | ⟨c, e, e2, r1, r2⟩
    · exact ⟨fun w => by omega, fun _ => ⟨fr, by rw [hkm]; exact ⟨tb, lb⟩, Or.inl ⟨e, rfl⟩⟩⟩
    · exact ⟨fun _ => ⟨fr, by rw [hkm]; exact ⟨tb, lb⟩, Or.inr ⟨c, e, e2⟩⟩, fun w => by omega⟩
  · have hkx : k < mp ^ mq := by omega
    obtain ⟨z, hz, hzr⟩ := stepTo_ok (s := 1) (x := k) hN hd10 hg10 ⟨Nat.le_refl 1, hS1⟩ hkx hv10
    have tk := tb k hkx
    have bk : bO 104000 (tbl mp mq S wk (lawC mp mq op) gn 1 k) := fun c hc => by
      unfold tbl at hc
      by_cases cc : lawC mp mq op 1 k = true
      · rw [if_pos cc] at hc
        have := hV (S - 1) (by omega) k hkx c hc
        omega
      · rw [if_neg cc] at hc
        cases hc
    have hFk := hF k
    rw [Nat.zero_add] at hFk
    have hz2 : cDs_stepTo N 1 k σ10 = some z := hz
    generalize osum (fun n => oadd (wk (v n) (dg mp mq k n)) (gn 1 n (dg mp mq k n))) 0 mq = O at hzr hFk
    generalize tbl mp mq S wk (lawC mp mq op) gn 1 k = Q at tk bk hFk
    have new : (F k = none ∧ -22000000 ≤ σ10 60 k + z ∧ σ10 60 k + z < -500000) ∨ ∃ c, F k = some c ∧ σ10 60 k + z = c ∧ -200000 ≤ c ∧ c ≤ 200000 := by
      rcases tk with ⟨e1, e2⟩ | ⟨c, e1, e2⟩
      · refine Or.inl ⟨by rw [hFk, e1]; exact oadd_none, ?_⟩
        rcases hzr with ⟨_, r1, r2⟩ | ⟨d, _, r0, r1, r2⟩ <;> omega
      · have hc := bk c e1
        rcases hzr with ⟨e3, r1, r2⟩ | ⟨d, e3, r0, r1, r2⟩
        · exact Or.inl ⟨by rw [hFk, e3]; exact none_oadd, by omega⟩
        · exact Or.inr ⟨d + c, by rw [hFk, e1, e3]; rfl, by omega, by omega, by omega⟩
    have ho : om (k + 1) F = omax (om k F) (F k) := rfl
    have rg : -22000000 ≤ σ10 60 k + z ∧ σ10 60 k + z ≤ 200000 := by
      rcases new with ⟨_, r1, r2⟩ | ⟨c, _, r0, r1, r2⟩ <;> omega
    rw [Int.toNat_natCast, hz2, bndO_s, max_eq, bndO_s, Ok_chkA, Ok_chkI, Ok_chkI]
    refine ⟨by omega, by omega, by omega, rec _ _ ⟨k + 1, by omega, by omega, ?_⟩ (by omega)⟩
    rw [ho]
    rcases ha with ⟨e, r1, r2⟩ | ⟨c, e, e2, r1, r2⟩
    · rcases new with ⟨f1, f2, f3⟩ | ⟨d, f1, f2, f3, f4⟩
      · exact Or.inl ⟨by rw [e, f1]; rfl, by omega, by omega⟩
      · exact Or.inr ⟨d, by rw [e, f1]; rfl, by omega, f3, f4⟩
    · rcases new with ⟨f1, f2, f3⟩ | ⟨d, f1, f2, f3, f4⟩
      · exact Or.inr ⟨c, by rw [e, f1]; rfl, by omega, r1, r2⟩
      · exact Or.inr ⟨max c d, by rw [e, f1]; rfl, by omega, by omega, by omega⟩
