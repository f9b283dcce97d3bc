/-! states that can be: the class finds them -/
def ahd (m K : Nat) (gt : Nat → Nat → Bool) (law : Nat → Nat → Bool) (h : Nat) : Nat → Nat → Bool
  | 0, x => decide (x = h)
  | s + 1, x => stBs m K gt (ahd m K gt law h s) K x && law (s + 1) x
def bhd (m K S : Nat) (gt : Nat → Nat → Bool) (law : Nat → Nat → Bool) (h : Nat) : Nat → Nat → Bool
  | 0, _ => true
  | j + 1, x => stBs m K gt (fun y => ahd m K gt law h (S - j) y && bhd m K S gt law h j y) K x
def cbe (m K S : Nat) (gt : Nat → Nat → Bool) (law : Nat → Nat → Bool) (h s x : Nat) : Bool := ahd m K gt law h s x && bhd m K S gt law h (S - s) x
theorem lt_half {x : Int} {b : Bool} (h : rpM x (ob b)) : (x ≤ -500000 ↔ b = false) ∧ (x < -500000 ↔ b = false) := by
  rcases rpM_ob.mp h with ⟨e, w⟩ | ⟨e, w⟩
  · rw [e, w]
    decide
  · rw [e, w]
    decide
theorem rp_f : rpM (-1000000) (ob false) := Or.inl ⟨rfl, rfl⟩
theorem layAlive_ok {N T mp mq S : Nat} {σ : ySt} {gt : Nat → Nat → Bool} {wk : Nat → Nat → Option Int} {gn : Nat → Nat → Nat → Option Int} {op : Nat → Nat → Nat → Bool} {v : Nat → Nat} (hN : 100000 ≤ N) (hd : DS σ T mp mq) (hg : DG σ mp mq S wk gn) (hwk : ∀ u v, u < mp → v < mp → wk u v = ob (gt u v)) (hb : BT σ mp op) (hv : ∀ n, n < mq → σ (T + 8) n = v n ∧ v n < mp) :
    Ok (cDs_layAlive N 77 σ) (fun σ' => (∀ i, i ≠ 60 → i ≠ 61 → i ≠ 62 → i ≠ 63 → i ≠ 77 → σ' i = σ i) ∧ ∀ x, x < mp ^ mq → ∃ B : Nat, σ' 77 x = B ∧ B < 512 ∧ ∀ s, 1 ≤ s → s ≤ S → Nat.testBit B s = cbe mp mq S gt (lawC mp mq op) (enc mp v mq) s x) := by
  obtain ⟨hT, h0, h1, hm6, h3, hq5, hm, h783, h79⟩ := id hd
  obtain ⟨g1, g2, g3, g4, g5⟩ := id hg
  have hM := pow_le hm6 hq5
  have kd : (yKd 77).1 = 20 ∧ 77 < 150 := by decide
  have kl : (yKd 77).2 = 7776 := by decide
  have kd60 : (yKd 60).1 = 20 ∧ 60 < 150 := by decide
  have kl60 : (yKd 60).2 = 7776 := by decide
  have hx0 : enc mp v mq < mp ^ mq := enc_lt mq (fun n hn => (hv n hn).2)
  unfold cDs_layAlive
  rw [Ok_chk, Ok_bndO]
  refine ⟨kd, (layLawful_ok hN hd hb).mono ?_⟩
  rintro σ3 ⟨a1, a2⟩
  rw [Ok_chkC, show ((0 : Int).toNat) = 0 from rfl, show ((36 : Int).toNat) = 36 from rfl, Ok_bnd]
  refine ⟨by omega, ?_⟩
  generalize hσ5 : ycpy σ3 80 0 62 0 36 = σ5
  have b1 : ∀ i, i ≠ 62 → σ5 i = σ3 i := fun i hi => by rw [← hσ5]; exact ycpy_off hi
  have b2 : ∀ j, j < 36 → σ5 62 j = σ 80 j := fun j hj => by rw [← hσ5, ycpy_at hj, a1 80 (by decide)]
  have e783 : σ5 78 3 = ((mp ^ mq : Nat) : Int) := by rw [b1 78 (by decide), a1 78 (by decide)]; exact h783
  have f1 := fill_fda_ok (N := N) (a := 77) (len := 7776) (lo := 0) (hi := mp ^ mq) (z := 0) (σ := σ5) hN kd kl (Nat.zero_le _) hM (by omega) (by omega)
  rw [show ((0 : Nat) : Int) = 0 from rfl] at f1
  rw [e783, Ok_bndO]
  refine f1.mono ?_
  rintro σ8 ⟨c1, c2⟩
  have f2 := fill_fda_ok (N := N) (a := 60) (len := 7776) (lo := 0) (hi := mp ^ mq) (z := -1000000) (σ := σ8) hN kd60 kl60 (Nat.zero_le _) (by omega) (by omega) (by omega)
  rw [show ((0 : Nat) : Int) = 0 from rfl] at f2
  rw [c1 78 (by decide), e783, Ok_bndO]
  refine f2.mono ?_
  rintro σ10 ⟨d1, d2⟩
  have E10 : ∀ i, i ≠ 60 → i ≠ 61 → i ≠ 62 → i ≠ 77 → σ10 i = σ i := fun i x1 x2 x3 x4 => by rw [d1 i x1, c1 i x4, b1 i x3, a1 i x2]
  have hd10 : DS σ10 T mp mq := DS_of hd (fun i hi => E10 i (by omega) (by omega) (by omega) (by omega))
  rw [homeState_ok hN hd10 (by rw [E10 (T + 8) (by omega) (by omega) (by omega) (by omega)]; exact hv), bndO_s, Ok_chkA, Int.toNat_natCast, Ok_bnd]
  refine ⟨by omega, ?_⟩
  obtain ⟨h, hh⟩ : ∃ h, h = enc mp v mq := ⟨_, rfl⟩
  obtain ⟨law, hlaw⟩ : ∃ law, law = lawC mp mq op := ⟨_, rfl⟩
  rw [← hh, ← hlaw]
  rw [← hh] at hx0
  generalize hσ0 : yset σ10 60 h 0 = σ0
  have z1 : ∀ i, i ≠ 60 → σ0 i = σ10 i := fun i hi => by rw [← hσ0]; exact yset_off i hi
  have z60 : ∀ x, x < mp ^ mq → rpM (σ0 60 x) (ob (ahd mp mq gt law h 0 x)) := fun x hx => by
    rw [← hσ0]
    by_cases e : x = h
    · rw [e, yset_at]
      exact rpM_ob.mpr (Or.inl ⟨decide_eq_true rfl, rfl⟩)
    · rw [yset_ne (by omega), d2 x, if_pos (by omega)]
      exact rpM_ob.mpr (Or.inr ⟨decide_eq_false e, rfl⟩)
  have z77 : ∀ x, x < mp ^ mq → σ0 77 x = 0 := fun x hx => by rw [z1 77 (by decide), d1 77 (by decide), c2 x, if_pos (by omega)]
  have z61 : ∀ x, x < mp ^ mq → ∃ B : Nat, σ0 61 x = B ∧ B < 512 ∧ ∀ s, 1 ≤ s → s ≤ 8 → Nat.testBit B s = law s x := fun x hx => by
    rw [z1 61 (by decide), d1 61 (by decide), c1 61 (by decide), b1 61 (by decide), hlaw]
    exact a2 x hx
  have E0 : ∀ i, i ≠ 60 → i ≠ 61 → i ≠ 62 → i ≠ 77 → σ0 i = σ i := fun i x1 x2 x3 x4 => (z1 i x1).trans (E10 i x1 x2 x3 x4)
  have hd0 : DS σ0 T mp mq := DS_of hd (fun i hi => E0 i (by omega) (by omega) (by omega) (by omega))
  have wt0 : WT σ0 mp (fun u v => ob (gt u v)) := fun u v hu hv' => by
    rw [z1 62 (by decide), d1 62 (by decide), c1 62 (by decide), b2 _ (by omega)]
    show rpW (σ 80 (6 * u + v)) (ob (gt u v))
    rw [← hwk u v hu hv']
    rcases g4 u v hu hv' with ⟨e, w⟩ | ⟨a, e, w, x1, x2⟩
    · exact Or.inl ⟨e, by omega, by omega⟩
    · exact Or.inr ⟨a, e, w, by omega, by omega⟩
  have SUB : ∀ ν : ySt, (∀ i, i ≠ 60 → i ≠ 63 → i ≠ 77 → ν i = σ0 i) → DS ν T mp mq ∧ WT ν mp (fun u v => ob (gt u v)) ∧ ν 78 3 = ((mp ^ mq : Nat) : Int) ∧ ν 78 1 = (S : Int) := fun ν hν => ⟨DS_of hd0 (fun i hi => hν i (by omega) (by omega) (by omega)), by unfold WT; rw [hν 62 (by decide) (by decide) (by decide)]; exact wt0, by rw [hν 78 (by decide) (by decide) (by decide), E0 78 (by decide) (by decide) (by decide) (by decide)]; exact h783, by rw [hν 78 (by decide) (by decide) (by decide), E0 78 (by decide) (by decide) (by decide) (by decide)]; exact g1⟩
  refine Ok_loopS1 (fun y ν => ∃ s : Nat, y = (s : Int) + 1 ∧ s ≤ S ∧ (∀ i, i ≠ 60 → i ≠ 63 → i ≠ 77 → ν i = σ0 i) ∧ (∀ x, x < mp ^ mq → rpM (ν 60 x) (ob (ahd mp mq gt law h s x))) ∧ ∀ x, x < mp ^ mq → ∃ B : Nat, ν 77 x = B ∧ B < 2 ^ (s + 1) ∧ ∀ i, 1 ≤ i → i ≤ s → Nat.testBit B i = ahd mp mq gt law h i x) (fun y _ => (S + 1 - y.toNat : Nat)) ?_ N _ _ ⟨0, rfl, by omega, fun _ _ _ _ => rfl, z60, fun x hx => ⟨0, z77 x hx, by decide, fun i _ _ => by omega⟩⟩ (by omega)
  rintro g y ν ⟨s, rfl, hs, i1, i2, i3⟩ rec
  obtain ⟨sd, sw, s3, s1⟩ := SUB ν i1
  rw [s1, Ok_ite]
  refine ⟨fun q => ?_, fun q => ?_⟩
  · -- back from the last stroke but one
    have hsS : s = S := by omega
    subst hsS
    rw [Ok_chkI]
    refine ⟨by omega, Ok_loopS1 (fun y μ => ∃ k : Nat, y = (k : Int) ∧ k + 1 ≤ s ∧ (∀ i, i ≠ 60 → i ≠ 63 → i ≠ 77 → μ i = σ0 i) ∧ (∀ x, x < mp ^ mq → rpM (μ 60 x) (ob (ahd mp mq gt law h (k + 1) x && bhd mp mq s gt law h (s - k - 1) x))) ∧ ∀ x, x < mp ^ mq → ∃ B : Nat, μ 77 x = B ∧ B < 512 ∧ ∀ i, 1 ≤ i → i ≤ s → Nat.testBit B i = if i ≤ k then ahd mp mq gt law h i x else cbe mp mq s gt law h i x) (fun y _ => y.toNat) ?_ N _ _ ⟨s - 1, by omega, by omega, i1, fun x hx => ?_, fun x hx => ?_⟩ (by omega)⟩
    · rintro g2 y μ ⟨k, rfl, hk, j1, j2, j3⟩ rec2
      rw [Ok_ite, Ok_some]
      refine ⟨fun q2 => ⟨fun i x1 x2 x3 x4 x5 => (j1 i x1 x4 x5).trans (E0 i x1 x2 x3 x5), fun x hx => ?_⟩, fun q2 => ?_⟩
      · obtain ⟨B, u1, u2, u3⟩ := j3 x hx
        refine ⟨B, u1, u2, fun i s1' s2' => ?_⟩
        rw [u3 i s1' s2', if_neg (by omega)]
      · obtain ⟨kd', kw, k3, k1⟩ := SUB μ j1
        rw [Ok_bndO]
        refine (goAll_ok hN kd' kw j2).mono ?_
        rintro μ1 ⟨m1, m2⟩
        have bk : ∀ x, stBs mp mq gt (fun x => ahd mp mq gt law h (k + 1) x && bhd mp mq s gt law h (s - k - 1) x) mq x = bhd mp mq s gt law h (s - k) x := fun x => by
          obtain ⟨j, hj⟩ : ∃ j, s - k - 1 = j := ⟨_, rfl⟩
          rw [hj, show s - k = j + 1 by omega]
          show _ = stBs mp mq gt (fun y => ahd mp mq gt law h (s - j) y && bhd mp mq s gt law h j y) mq x
          rw [show s - j = k + 1 by omega]
        have n1 : ∀ i, i ≠ 60 → i ≠ 63 → i ≠ 77 → μ1 i = σ0 i := fun i x1 x2 x3 => (m1 i x1 x2).trans (j1 i x1 x2 x3)
        refine Ok_loopS2 (fun y z κ => y = (k : Int) ∧ ∃ x : Nat, z = x ∧ x ≤ mp ^ mq ∧ (∀ i, i ≠ 60 → i ≠ 63 → i ≠ 77 → κ i = σ0 i) ∧ (∀ u, u < mp ^ mq → rpM (κ 60 u) (ob (if u < x then ahd mp mq gt law h k u && bhd mp mq s gt law h (s - k) u else bhd mp mq s gt law h (s - k) u))) ∧ ∀ u, u < mp ^ mq → ∃ B : Nat, κ 77 u = B ∧ B < 512 ∧ ∀ i, 1 ≤ i → i ≤ s → Nat.testBit B i = if i ≤ k ∧ ¬ (i = k ∧ u < x) then ahd mp mq gt law h i u else cbe mp mq s gt law h i u) (fun _ z _ => (mp ^ mq - z.toNat : Nat)) ?_ N _ _ _ ⟨rfl, 0, rfl, by omega, n1, fun u hu => ?_, fun u hu => ?_⟩ (by omega)
        · rintro g3 y z κ ⟨rfl, x, rfl, hx, l1, l2, l3⟩ rec3
          obtain ⟨_, _, q3, _⟩ := SUB κ l1
          rw [q3, Ok_ite]
          refine ⟨fun q4 => ?_, fun q4 => ?_⟩
          · have hxe : x = mp ^ mq := by omega
            rw [Ok_chkI, show (k : Int) + (-1) = ((k - 1 : Nat) : Int) by omega]
            refine ⟨by omega, rec2 _ _ ⟨k - 1, rfl, by omega, l1, fun u hu => ?_, fun u hu => ?_⟩ (by omega)⟩
            · have := l2 u hu
              rw [if_pos (by omega)] at this
              rw [show k - 1 + 1 = k by omega, show s - (k - 1) - 1 = s - k by omega]
              exact this
            · obtain ⟨B, u1, u2, u3⟩ := l3 u hu
              refine ⟨B, u1, u2, fun i s1' s2' => ?_⟩
              rw [u3 i s1' s2']
              by_cases c : i ≤ k - 1
              · rw [if_pos c, if_pos ⟨by omega, by omega⟩]
              · rw [if_neg c, if_neg (by omega)]
          · have hxm : x < mp ^ mq := by omega
            obtain ⟨B, u1, u2, u3⟩ := l3 x hxm
            have l2x := l2 x hxm
            rw [if_neg (Nat.lt_irrefl x)] at l2x
            have hl := (lt_half l2x).2
            rw [Ok_chkA, Int.toNat_natCast]
            -- what both ways keep
            have other60 : ∀ (κ' : ySt) (b : Bool), (∀ u, u ≠ x → κ' 60 u = κ 60 u) → rpM (κ' 60 x) (ob b) → b = (ahd mp mq gt law h k x && bhd mp mq s gt law h (s - k) x) → ∀ u, u < mp ^ mq → rpM (κ' 60 u) (ob (if u < x + 1 then ahd mp mq gt law h k u && bhd mp mq s gt law h (s - k) u else bhd mp mq s gt law h (s - k) u)) := fun κ' b w1 w2 w3 u hu => by
              by_cases c : u = x
              · rw [c, if_pos (by omega), ← w3]
                exact w2
              · rw [w1 u c]
                have := l2 u hu
                by_cases c2 : u < x
                · rw [if_pos c2] at this
                  rw [if_pos (by omega)]
                  exact this
                · rw [if_neg c2] at this
                  rw [if_neg (by omega)]
                  exact this
            have other77 : ∀ (κ' : ySt), (∀ u, u ≠ x → κ' 77 u = κ 77 u) → (∃ B : Nat, κ' 77 x = B ∧ B < 512 ∧ ∀ i, 1 ≤ i → i ≤ s → Nat.testBit B i = if i ≤ k ∧ ¬ i = k then ahd mp mq gt law h i x else cbe mp mq s gt law h i x) → ∀ u, u < mp ^ mq → ∃ B : Nat, κ' 77 u = B ∧ B < 512 ∧ ∀ i, 1 ≤ i → i ≤ s → Nat.testBit B i = if i ≤ k ∧ ¬ (i = k ∧ u < x + 1) then ahd mp mq gt law h i u else cbe mp mq s gt law h i u := fun κ' w1 w2 u hu => by
              by_cases c : u = x
              · rw [c]
                obtain ⟨B', v1, v2, v3⟩ := w2
                refine ⟨B', v1, v2, fun i s1' s2' => ?_⟩
                rw [v3 i s1' s2']
                by_cases c2 : i ≤ k ∧ ¬ i = k
                · rw [if_pos c2, if_pos ⟨c2.1, fun w => c2.2 w.1⟩]
                · rw [if_neg c2, if_neg (by omega)]
              · rw [w1 u c]
                obtain ⟨B', v1, v2, v3⟩ := l3 u hu
                refine ⟨B', v1, v2, fun i s1' s2' => ?_⟩
                rw [v3 i s1' s2']
                by_cases c2 : i ≤ k ∧ ¬ (i = k ∧ u < x)
                · rw [if_pos c2, if_pos (by omega)]
                · rw [if_neg c2, if_neg (by omega)]
            have u3k := u3 k (by omega) (by omega)
            rw [if_pos (by omega)] at u3k
            refine ⟨by omega, Ok_jq1 (fun (κ' : ySt) => (∀ i, i ≠ 60 → i ≠ 63 → i ≠ 77 → κ' i = σ0 i) ∧ (∀ u, u < mp ^ mq → rpM (κ' 60 u) (ob (if u < x + 1 then ahd mp mq gt law h k u && bhd mp mq s gt law h (s - k) u else bhd mp mq s gt law h (s - k) u))) ∧ ∀ u, u < mp ^ mq → ∃ B : Nat, κ' 77 u = B ∧ B < 512 ∧ ∀ i, 1 ≤ i → i ≤ s → Nat.testBit B i = if i ≤ k ∧ ¬ (i = k ∧ u < x + 1) then ahd mp mq gt law h i u else cbe mp mq s gt law h i u) (fun κ' hκ => ?_) (fun kk hkk => ?_)⟩
            · rw [Ok_chkI]
              exact ⟨by omega, rec3 _ _ _ ⟨rfl, x + 1, by omega, by omega, hκ.1, hκ.2.1, hκ.2.2⟩ (by omega)⟩
            · refine Ok_jq (bhd mp mq s gt law h (s - k) x = false ∨ ahd mp mq gt law h k x = false) (fun w => ?_) (fun j37 hj37 => ?_)
              · have wf : (ahd mp mq gt law h k x && bhd mp mq s gt law h (s - k) x) = false := by
                  rcases w with w | w
                  · rw [w, Bool.and_false]
                  · rw [w, Bool.false_and]
                obtain ⟨cl1, cl2, cl3⟩ := clr_bit B k u2 (by omega)
                rw [kl, Ok_chkA, Ok_chkA, Ok_bnd, Ok_chkA, Ok_bnd, u1, cl1]
                refine ⟨by omega, by omega, by omega, hkk _ ⟨fun i x1 x2 x3 => by rw [yset_off i x1, yset_off i x3]; exact l1 i x1 x2 x3, other60 _ false (fun u hu => by rw [yset_ne (by omega), yset_off 60 (by decide)]) (by rw [yset_at]; exact rp_f) wf.symm, other77 _ (fun u hu => by rw [yset_off 77 (by decide), yset_ne (by omega)]) ⟨_, by rw [yset_off 77 (by decide), yset_at], cl2, fun i s1' s2' => ?_⟩⟩⟩
                rw [cl3 i (by omega), u3 i s1' s2']
                by_cases c : i = k
                · rw [c, decide_eq_false (show ¬ k ≠ k from fun w => w rfl), Bool.and_false, if_neg (show ¬ (k ≤ k ∧ ¬ k = k) from fun w => w.2 rfl)]
                  exact wf.symm
                · rw [decide_eq_true c, Bool.and_true]
                  by_cases c2 : i ≤ k
                  · rw [if_pos ⟨c2, fun w => c w.1⟩, if_pos ⟨c2, c⟩]
                  · rw [if_neg (fun w => c2 w.1), if_neg (fun w => c2 w.1)]
              · rw [Ok_ite]
                refine ⟨fun c => hj37 (Or.inl (hl.mp c)), fun c => ?_⟩
                have bt : bhd mp mq s gt law h (s - k) x = true := by
                  cases e : bhd mp mq s gt law h (s - k) x with
                  | true => rfl
                  | false => exact absurd (hl.mpr e) c
                rw [kl, Ok_chkA, u1, bit_at B k (by omega) u2, u3k, Ok_ite]
                refine ⟨by omega, fun c2 => ?_, fun c2 => ?_⟩
                · have at' : ahd mp mq gt law h k x = true := by
                    cases e : ahd mp mq gt law h k x with
                    | true => rfl
                    | false =>
                      rw [e] at c2
                      exact absurd rfl c2
                  refine hkk _ ⟨l1, other60 κ _ (fun _ _ => rfl) l2x (by rw [at', Bool.true_and]), other77 κ (fun _ _ => rfl) ⟨B, u1, u2, fun i s1' s2' => ?_⟩⟩
                  rw [u3 i s1' s2']
                  by_cases c3 : i = k
                  · rw [c3, if_pos ⟨Nat.le_refl k, fun w => absurd w.2 (Nat.lt_irrefl x)⟩, if_neg (fun w => w.2 rfl)]
                    unfold cbe
                    rw [bt, Bool.and_true]
                  · by_cases c4 : i ≤ k
                    · rw [if_pos ⟨c4, fun w => c3 w.1⟩, if_pos ⟨c4, c3⟩]
                    · rw [if_neg (fun w => c4 w.1), if_neg (fun w => c4 w.1)]
                · refine hj37 (Or.inr ?_)
                  cases e : ahd mp mq gt law h k x with
                  | false => rfl
                  | true =>
                    rw [e] at c2
                    exact absurd (show ¬ (if true = true then (1 : Int) else 0) = 0 by decide) c2
        · have := m2 u hu
          rw [bk u] at this
          rw [if_neg (Nat.not_lt_zero u)]
          exact this
        · rw [m1 77 (by decide) (by decide)]
          obtain ⟨B, u1, u2, u3⟩ := j3 u hu
          refine ⟨B, u1, u2, fun i s1' s2' => ?_⟩
          rw [u3 i s1' s2']
          by_cases c : i ≤ k
          · rw [if_pos c, if_pos ⟨c, fun w => absurd w.2 (Nat.not_lt_zero u)⟩]
          · rw [if_neg c, if_neg (fun w => c w.1)]
    · have e : ∀ b : Bool, (b && true) = b := fun b => by cases b <;> rfl
      rw [show s - 1 + 1 = s by omega, show s - (s - 1) - 1 = 0 by omega]
      show rpM (ν 60 x) (ob (ahd mp mq gt law h s x && true))
      rw [e]
      exact i2 x hx
    · obtain ⟨B, u1, u2, u3⟩ := i3 x hx
      have h512 : 2 ^ (s + 1) ≤ 512 := Nat.pow_le_pow_right (n := 2) (i := s + 1) (j := 9) (by decide) (by omega)
      refine ⟨B, u1, by omega, fun i s1' s2' => ?_⟩
      rw [u3 i s1' s2']
      by_cases c : i ≤ s - 1
      · rw [if_pos c]
      · have e : i = s := by omega
        rw [if_neg c, e]
        unfold cbe
        rw [Nat.sub_self]
        show _ = (ahd mp mq gt law h s x && true)
        rw [Bool.and_true]
  · -- forth
    have hsS : s + 1 ≤ S := by omega
    rw [Ok_bndO]
    refine (goAll_ok hN sd sw i2).mono ?_
    rintro ν1 ⟨m1, m2⟩
    have n1 : ∀ i, i ≠ 60 → i ≠ 63 → i ≠ 77 → ν1 i = σ0 i := fun i x1 x2 x3 => (m1 i x1 x2).trans (i1 i x1 x2 x3)
    have ua : ∀ x, ahd mp mq gt law h (s + 1) x = (stBs mp mq gt (ahd mp mq gt law h s) mq x && law (s + 1) x) := fun _ => rfl
    rw [show (s : Int) + 1 = ((s + 1 : Nat) : Int) from rfl]
    refine Ok_loopS2 (fun y z κ => y = ((s + 1 : Nat) : Int) ∧ ∃ x : Nat, z = x ∧ x ≤ mp ^ mq ∧ (∀ i, i ≠ 60 → i ≠ 63 → i ≠ 77 → κ i = σ0 i) ∧ (∀ u, u < mp ^ mq → rpM (κ 60 u) (ob (if u < x then ahd mp mq gt law h (s + 1) u else stBs mp mq gt (ahd mp mq gt law h s) mq u))) ∧ ∀ u, u < mp ^ mq → ∃ B : Nat, κ 77 u = B ∧ B < 2 ^ (s + 2) ∧ (¬ u < x → B < 2 ^ (s + 1)) ∧ ∀ i, 1 ≤ i → (i ≤ s ∨ (i = s + 1 ∧ u < x)) → Nat.testBit B i = ahd mp mq gt law h i u) (fun _ z _ => (mp ^ mq - z.toNat : Nat)) ?_ N _ _ _ ⟨rfl, 0, rfl, by omega, n1, fun u hu => by rw [if_neg (Nat.not_lt_zero u)]; exact m2 u hu, fun u hu => ?_⟩ (by omega)
    · rintro g3 y z κ ⟨rfl, x, rfl, hx, l1, l2, l3⟩ rec3
      obtain ⟨_, _, q3, _⟩ := SUB κ l1
      rw [q3, Ok_ite]
      refine ⟨fun q4 => ?_, fun q4 => ?_⟩
      · have hxe : x = mp ^ mq := by omega
        rw [Ok_chkI]
        refine ⟨by omega, rec _ _ ⟨s + 1, rfl, hsS, l1, fun u hu => ?_, fun u hu => ?_⟩ (by omega)⟩
        · have := l2 u hu
          rw [if_pos (by omega)] at this
          exact this
        · obtain ⟨B, u1, u2, _, u3⟩ := l3 u hu
          exact ⟨B, u1, u2, fun i s1' s2' => u3 i s1' (by omega)⟩
      · have hxm : x < mp ^ mq := by omega
        obtain ⟨B, u1, u2, u2', u3⟩ := l3 x hxm
        have u2x := u2' (Nat.lt_irrefl x)
        have l2x := l2 x hxm
        rw [if_neg (Nat.lt_irrefl x)] at l2x
        have hl := (lt_half l2x).1
        have other60 : ∀ (κ' : ySt), (∀ u, u ≠ x → κ' 60 u = κ 60 u) → rpM (κ' 60 x) (ob (ahd mp mq gt law h (s + 1) x)) → ∀ u, u < mp ^ mq → rpM (κ' 60 u) (ob (if u < x + 1 then ahd mp mq gt law h (s + 1) u else stBs mp mq gt (ahd mp mq gt law h s) mq u)) := fun κ' w1 w2 u hu => by
          by_cases c : u = x
          · rw [c, if_pos (by omega)]
            exact w2
          · rw [w1 u c]
            have := l2 u hu
            by_cases c2 : u < x
            · rw [if_pos c2] at this
              rw [if_pos (by omega)]
              exact this
            · rw [if_neg c2] at this
              rw [if_neg (by omega)]
              exact this
        have other77 : ∀ (κ' : ySt), (∀ u, u ≠ x → κ' 77 u = κ 77 u) → (∃ B : Nat, κ' 77 x = B ∧ B < 2 ^ (s + 2) ∧ ∀ i, 1 ≤ i → i ≤ s + 1 → Nat.testBit B i = ahd mp mq gt law h i x) → ∀ u, u < mp ^ mq → ∃ B : Nat, κ' 77 u = B ∧ B < 2 ^ (s + 2) ∧ (¬ u < x + 1 → B < 2 ^ (s + 1)) ∧ ∀ i, 1 ≤ i → (i ≤ s ∨ (i = s + 1 ∧ u < x + 1)) → Nat.testBit B i = ahd mp mq gt law h i u := fun κ' w1 w2 u hu => by
          by_cases c : u = x
          · rw [c]
            obtain ⟨B', v1, v2, v3⟩ := w2
            exact ⟨B', v1, v2, fun w => absurd w (by omega), fun i s1' s2' => v3 i s1' (by omega)⟩
          · rw [w1 u c]
            obtain ⟨B', v1, v2, v2', v3⟩ := l3 u hu
            exact ⟨B', v1, v2, fun w => v2' (by omega), fun i s1' s2' => v3 i s1' (by omega)⟩
        have hpw : 2 ^ (s + 2) = 2 * 2 ^ (s + 1) := by rw [Nat.pow_succ, Nat.mul_comm]
        rw [Ok_chkA, Int.toNat_natCast]
        refine ⟨by omega, Ok_jq1 (fun (κ' : ySt) => (∀ i, i ≠ 60 → i ≠ 63 → i ≠ 77 → κ' i = σ0 i) ∧ (∀ u, u < mp ^ mq → rpM (κ' 60 u) (ob (if u < x + 1 then ahd mp mq gt law h (s + 1) u else stBs mp mq gt (ahd mp mq gt law h s) mq u))) ∧ ∀ u, u < mp ^ mq → ∃ B : Nat, κ' 77 u = B ∧ B < 2 ^ (s + 2) ∧ (¬ u < x + 1 → B < 2 ^ (s + 1)) ∧ ∀ i, 1 ≤ i → (i ≤ s ∨ (i = s + 1 ∧ u < x + 1)) → Nat.testBit B i = ahd mp mq gt law h i u) (fun κ' hκ => ?_) (fun kk hkk => ?_)⟩
        · rw [Ok_chkI]
          exact ⟨by omega, rec3 _ _ _ ⟨rfl, x + 1, by omega, by omega, hκ.1, hκ.2.1, hκ.2.2⟩ (by omega)⟩
        · refine Ok_jq (ahd mp mq gt law h (s + 1) x = false) (fun w => ?_) (fun j60 hj60 => ?_)
          · rw [Ok_chkA, Ok_bnd]
            refine ⟨by omega, hkk _ ⟨fun i x1 x2 x3 => by rw [yset_off i x1]; exact l1 i x1 x2 x3, other60 _ (fun u hu => by rw [yset_ne (by omega)]) (by rw [yset_at, w]; exact rp_f), other77 _ (fun u hu => by rw [yset_off 77 (by decide)]) ⟨B, by rw [yset_off 77 (by decide)]; exact u1, u2, fun i s1' s2' => ?_⟩⟩⟩
            by_cases c : i = s + 1
            · rw [c, w]
              exact Nat.testBit_lt_two_pow u2x
            · exact u3 i s1' (by omega)
          · rw [Ok_ite]
            refine ⟨fun c => hj60 (by rw [ua, hl.mp c, Bool.false_and]), fun c => ?_⟩
            have st' : stBs mp mq gt (ahd mp mq gt law h s) mq x = true := by
              cases e : stBs mp mq gt (ahd mp mq gt law h s) mq x with
              | true => rfl
              | false => exact absurd (hl.mpr e) c
            obtain ⟨Lb, lb1, lb2, lb3⟩ := z61 x hxm
            rw [Ok_chkA, l1 61 (by decide) (by decide) (by decide), lb1, bit_at Lb (s + 1) (by omega) lb2, lb3 (s + 1) (by omega) (by omega), Ok_ite]
            refine ⟨by omega, fun c2 => ?_, fun c2 => ?_⟩
            · refine hj60 ?_
              rw [ua]
              cases e : law (s + 1) x with
              | false => rw [Bool.and_false]
              | true =>
                rw [e] at c2
                exact absurd rfl c2
            · have lt' : law (s + 1) x = true := by
                cases e : law (s + 1) x with
                | true => rfl
                | false =>
                  rw [e] at c2
                  exact absurd (show ¬ (if false = true then (1 : Int) else 0) = 1 by decide) c2
              have yes : ahd mp mq gt law h (s + 1) x = true := by rw [ua, st', lt']; rfl
              rw [kl, Ok_chkA, Ok_chkA, Ok_bnd, u1, bit_or B (s + 1) (by omega) u2x]
              refine ⟨by omega, by omega, hkk _ ⟨fun i x1 x2 x3 => by rw [yset_off i x3]; exact l1 i x1 x2 x3, other60 _ (fun u hu => by rw [yset_off 60 (by decide)]) (by rw [yset_off 60 (by decide), yes, ← st']; exact l2x), other77 _ (fun u hu => by rw [yset_ne (by omega)]) ⟨B + 2 ^ (s + 1), yset_at, by omega, fun i s1' s2' => ?_⟩⟩⟩
              by_cases c3 : i = s + 1
              · rw [c3, yes, Nat.add_comm, Nat.testBit_two_pow_add_eq, Nat.testBit_lt_two_pow u2x]
                rfl
              · rw [Nat.add_comm, Nat.testBit_two_pow_add_gt (by omega)]
                exact u3 i s1' (by omega)
    · rw [m1 77 (by decide) (by decide)]
      obtain ⟨B, u1, u2, u3⟩ := i3 u hu
      exact ⟨B, u1, by have : 2 ^ (s + 2) = 2 * 2 ^ (s + 1) := by rw [Nat.pow_succ, Nat.mul_comm]
                       omega, fun _ => u2, fun i s1' s2' => u3 i s1' (by omega)⟩
