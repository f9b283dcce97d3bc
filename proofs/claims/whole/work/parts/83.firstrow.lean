/-! the first best day of the class -/
def FS (mp mq S : Nat) (wk : Nat → Nat → Option Int) (law : Nat → Nat → Bool) (gn : Nat → Nat → Nat → Option Int) (s : Nat) (v : Nat → Nat) (x : Nat) : Option Int := oadd (osum (fun n => oadd (wk (v n) (dg mp mq x n)) (gn s n (dg mp mq x n))) 0 mq) (tbl mp mq S wk law gn s x)
def isF (m : Nat) (F : Nat → Option Int) (Z : Int) (x : Nat) : Prop := x < m ∧ F x = some Z ∧ ∀ y, y < x → F y ≠ some Z
theorem isF_uniq {m : Nat} {F : Nat → Option Int} {Z : Int} {x y : Nat} (h : isF m F Z x) (g : isF m F Z y) : x = y := by
  by_cases c : x < y
  · exact absurd h.2.1 (g.2.2 x c)
  · by_cases c2 : y < x
    · exact absurd g.2.1 (h.2.2 y c2)
    · omega
theorem enc_dg' {mp mq x : Nat} (hm : 0 < mq → 0 < mp) (hx : x < mp ^ mq) : enc mp (dg mp mq x) mq = x := by
  by_cases c : mq = 0
  · subst c
    have : x < 1 := hx
    show 0 = x
    omega
  · exact enc_dg (hm (by omega)) mq x hx
theorem tot_iff {a z Z : Int} {q : Nat} {o p : Option Int} (hq : q ≤ 5) (h : rpM a p) (hb : bO 104000 p) (g : rpS q z o) (hZ : -300000 ≤ Z) : (a + z = Z ↔ oadd o p = some Z) ∧ -22000000 ≤ a + z ∧ a + z ≤ 200000 := by
  rcases h with ⟨e1, e2⟩ | ⟨c, e1, e2⟩
  · rw [e1, oadd_none]
    rcases g with ⟨_, r1, r2⟩ | ⟨d, _, r0, r1, r2⟩
    · exact ⟨⟨fun w => by omega, fun w => by cases w⟩, by omega, by omega⟩
    · exact ⟨⟨fun w => by omega, fun w => by cases w⟩, by omega, by omega⟩
  · have hc := hb c e1
    rcases g with ⟨e3, r1, r2⟩ | ⟨d, e3, r0, r1, r2⟩
    · rw [e3, none_oadd]
      exact ⟨⟨fun w => by omega, fun w => by cases w⟩, by omega, by omega⟩
    · have e : oadd o p = some (d + c) := by rw [e1, e3]; rfl
      rw [e]
      refine ⟨⟨fun w => by congr 1; omega, fun w => ?_⟩, by omega, by omega⟩
      have : d + c = Z := by injection w
      omega
theorem firstOf_ok {N T mp mq S s : Nat} {σ : ySt} {wk : Nat → Nat → Option Int} {law : Nat → Nat → Bool} {gn : Nat → Nat → Nat → Option Int} {v : Nat → Nat} {Z : Int} (hN : 100000 ≤ N) (hd : DS σ T mp mq) (h : DG σ mp mq S wk gn) (hs : 1 ≤ s ∧ s ≤ S) (hv : ∀ n, n < mq → σ 64 n = v n ∧ v n < mp) (htb : ∀ x, x < mp ^ mq → rpM (σ 60 x) (tbl mp mq S wk law gn s x) ∧ bO 104000 (tbl mp mq S wk law gn s x)) (hZ : -300000 ≤ Z) (hex : ∃ x, x < mp ^ mq ∧ FS mp mq S wk law gn s v x = some Z) :
    Ok (cDs_firstOf N s Z σ) (fun r => ∃ x : Nat, r = x ∧ isF (mp ^ mq) (FS mp mq S wk law gn s v) Z x) := by
  obtain ⟨hT, h0, h1, hm6, h3, hq5, hm, h783, h79⟩ := id hd
  have hS8 := h.2.2.1
  have hS7 := pow_le hm6 hq5
  unfold cDs_firstOf
  refine Ok_loop1 (fun y => ∃ k : Nat, y = k ∧ k ≤ mp ^ mq ∧ ∀ j, j < k → FS mp mq S wk law gn s v j ≠ some Z) (fun y => (mp ^ mq - y.toNat : Nat)) ?_ N _ ⟨0, rfl, by omega, fun j hj => absurd hj (Nat.not_lt_zero j)⟩ (by omega)
  rintro g y ⟨k, rfl, hk, i1⟩ rec
  rw [h783, Ok_ite]
  refine ⟨fun q => ?_, fun q => ?_⟩
  · obtain ⟨x, hx, e⟩ := hex
    exact absurd e (i1 x (by omega))
  · have hkx : k < mp ^ mq := by omega
    obtain ⟨z, hz, hzr⟩ := stepTo_ok hN hd h hs hkx hv
    have t := tot_iff hq5 (htb k hkx).1 (htb k hkx).2 hzr hZ
    rw [hz, bndO_s, Int.toNat_natCast, Ok_chkA, Ok_chkI, Ok_ite, Ok_chkI, Ok_some]
    refine ⟨by omega, by omega, fun c => ⟨by omega, rec _ ⟨k + 1, by omega, by omega, fun j hj => ?_⟩ (by omega)⟩, fun c => ⟨k, rfl, hkx, t.1.mp (Classical.byContradiction c), i1⟩⟩
    by_cases cj : j = k
    · rw [cj]
      exact fun w => c (t.1.mpr w)
    · exact i1 j (by omega)
/-- the day: where all are, stroke by stroke -/
def PTH (mp mq S : Nat) (wk : Nat → Nat → Option Int) (law : Nat → Nat → Bool) (gn : Nat → Nat → Nat → Option Int) (h0 k : Nat) (pth : Nat → Nat) : Prop := pth 0 = h0 ∧ ∀ s, s < k → ∃ Z : Int, VV mp mq S wk law (fun s y => osum (fun n => gn s n (dg mp mq y n)) 0 mq) (S - s) (pth s) = some Z ∧ isF (mp ^ mq) (FS mp mq S wk law gn (s + 1) (dg mp mq (pth s))) Z (pth (s + 1))
theorem PTH_uniq {mp mq S h0 k : Nat} {wk : Nat → Nat → Option Int} {law : Nat → Nat → Bool} {gn : Nat → Nat → Nat → Option Int} {p q : Nat → Nat} (h : PTH mp mq S wk law gn h0 k p) (g : PTH mp mq S wk law gn h0 k q) : ∀ s, s ≤ k → p s = q s
  | 0, _ => by rw [h.1, g.1]
  | s + 1, hs => by
    have ih := PTH_uniq h g s (by omega)
    obtain ⟨Z, z1, z2⟩ := h.2 s (by omega)
    obtain ⟨Y, y1, y2⟩ := g.2 s (by omega)
    rw [ih] at z1 z2
    rw [z1] at y1
    have : Z = Y := by injection y1
    subst this
    exact isF_uniq z2 y2
/-- a best next exists, and behind it is what is left -/
theorem next_ex {mp mq S s x : Nat} {wk : Nat → Nat → Option Int} {law : Nat → Nat → Bool} {gn : Nat → Nat → Nat → Option Int} {Z : Int} (hm : 0 < mq → 0 < mp) (hs : s < S) (hx : x < mp ^ mq) (hZ : VV mp mq S wk law (fun s y => osum (fun n => gn s n (dg mp mq y n)) 0 mq) (S - s) x = some Z) :
    ∃ y, y < mp ^ mq ∧ FS mp mq S wk law gn (s + 1) (dg mp mq x) y = some Z := by
  have hv : ∀ n, n < mq → dg mp mq x n < mp := fun n hn => dg_lt (hm (by omega))
  have e := VV_home (S := S) (wk := wk) (law := law) (gn := gn) (v := dg mp mq x) hm s hs hv
  rw [enc_dg' hm hx, hZ] at e
  rcases (om_isM (FS mp mq S wk law gn (s + 1) (dg mp mq x)) (mp ^ mq)).2 with n | ⟨y, hy, q⟩
  · have : om (mp ^ mq) (FS mp mq S wk law gn (s + 1) (dg mp mq x)) = some Z := e
    rw [n] at this
    cases this
  · exact ⟨y, hy, q.trans e⟩
theorem FS_split {mp mq S s x : Nat} {wk : Nat → Nat → Option Int} {law : Nat → Nat → Bool} {gn : Nat → Nat → Nat → Option Int} {v : Nat → Nat} {Z : Int} (h : FS mp mq S wk law gn s v x = some Z) : ∃ a c, osum (fun n => oadd (wk (v n) (dg mp mq x n)) (gn s n (dg mp mq x n))) 0 mq = some a ∧ law s x = true ∧ VV mp mq S wk law (fun s y => osum (fun n => gn s n (dg mp mq y n)) 0 mq) (S - s) x = some c ∧ a + c = Z := by
  unfold FS at h
  cases ho : osum (fun n => oadd (wk (v n) (dg mp mq x n)) (gn s n (dg mp mq x n))) 0 mq with
  | none =>
    rw [ho, none_oadd] at h
    cases h
  | some a =>
    rw [ho] at h
    unfold tbl at h
    by_cases c : law s x = true
    · rw [if_pos c] at h
      cases hV : VV mp mq S wk law (fun s y => osum (fun n => gn s n (dg mp mq y n)) 0 mq) (S - s) x with
      | none =>
        rw [hV, oadd_none] at h
        cases h
      | some d =>
        rw [hV] at h
        have h' : some (a + d) = some Z := h
        exact ⟨a, d, rfl, c, rfl, by injection h'⟩
    · rw [if_neg c, oadd_none] at h
      cases h
theorem layFirstRow_ok {N T mp mq S c : Nat} {σ : ySt} {wk : Nat → Nat → Option Int} {law : Nat → Nat → Bool} {gn : Nat → Nat → Nat → Option Int} {v : Nat → Nat} {Z : Int} (hN : 100000 ≤ N) (hc : c = 68 ∨ c = 69 ∨ c = 70) (hd : DS σ T mp mq) (h : DG σ mp mq S wk gn) (hv : ∀ n, n < mq → σ (T + 8) n = v n ∧ v n < mp) (htb : ∀ x, x < mp ^ mq → rpM (σ 60 x) (tbl mp mq S wk law gn 1 x)) (hl : ∀ x, x < mp ^ mq → ∃ B : Nat, σ 61 x = B ∧ B < 512 ∧ ∀ s, 1 ≤ s → s ≤ 8 → Nat.testBit B s = law s x) (hV : ∀ j, j ≤ S → ∀ x, x < mp ^ mq → bO (13000 * (j : Int)) (VV mp mq S wk law (fun s y => osum (fun n => gn s n (dg mp mq y n)) 0 mq) j x)) (hZ : VV mp mq S wk law (fun s y => osum (fun n => gn s n (dg mp mq y n)) 0 mq) S (enc mp v mq) = some Z) :
    Ok (cDs_layFirstRow N Z c σ) (fun σ' => (∀ i, i ≠ 60 → i ≠ 62 → i ≠ 63 → i ≠ 64 → i ≠ c → σ' i = σ i) ∧ ∃ pth : Nat → Nat, PTH mp mq S wk law gn (enc mp v mq) S pth ∧ ∀ s n, 1 ≤ s → s ≤ S → n < mq → σ' c (s * 5 + n) = ((dg mp mq (pth s) n : Nat) : Int)) := by
  obtain ⟨hT, h0, h1, hm6, h3, hq5, hm, h783, h79⟩ := id hd
  obtain ⟨hS, hS1, hS8, hw, hg⟩ := id h
  have hS7 := pow_le hm6 hq5
  have kc : (yKd c).1 = 20 ∧ c < 150 := by rcases hc with rfl | rfl | rfl <;> decide
  have kc2 : (yKd c).2 = 45 := by rcases hc with rfl | rfl | rfl <;> decide
  have hx0 : enc mp v mq < mp ^ mq := enc_lt mq (fun n hn => (hv n hn).2)
  unfold cDs_layFirstRow
  rw [Ok_chk, chkT_pos hT h0, Ok_bndO]
  refine ⟨kc, (startAtHome_ok hN hT h3 hq5).mono ?_⟩
  rintro σ6 ⟨a1, a2⟩
  refine Ok_loopS2 (fun y z ν => ∃ s : Nat, z = (s : Int) + 1 ∧ s ≤ S ∧ (∀ i, i ≠ 60 → i ≠ 62 → i ≠ 63 → i ≠ 64 → i ≠ c → ν i = σ i) ∧ (s < S → ∀ x, x < mp ^ mq → rpM (ν 60 x) (tbl mp mq S wk law gn (s + 1) x)) ∧ ∃ pth : Nat → Nat, PTH mp mq S wk law gn (enc mp v mq) s pth ∧ pth s < mp ^ mq ∧ VV mp mq S wk law (fun s y => osum (fun n => gn s n (dg mp mq y n)) 0 mq) (S - s) (pth s) = some y ∧ (∀ n, n < mq → ν 64 n = ((dg mp mq (pth s) n : Nat) : Int)) ∧ ∀ u n, 1 ≤ u → u ≤ s → n < mq → ν c (u * 5 + n) = ((dg mp mq (pth u) n : Nat) : Int)) (fun _ z _ => (S + 1 - z.toNat : Nat)) ?_ N _ _ _ ⟨0, rfl, by omega, fun i _ _ _ x _ => a1 i x, fun _ x hx => by rw [a1 60 (by decide)]; exact htb x hx, fun _ => enc mp v mq, ⟨rfl, fun s hs => absurd hs (Nat.not_lt_zero s)⟩, hx0, hZ, fun n hn => by rw [a2 n hn, dg_enc (fun n hn => (hv n hn).2) hn]; exact (hv n hn).1, fun u n x y => by omega⟩ (by omega)
  rintro g y z ν ⟨s, rfl, hs, i1, i0, pth, i2, i3, i4, i5, i6⟩ rec
  have hdν := DS_of hd (σ' := ν) (fun i hi => i1 i (by omega) (by omega) (by omega) (by omega) (by omega))
  have hgν := DG_of h (σ' := ν) (fun i hi => i1 i (by omega) (by omega) (by omega) (by omega) (by omega))
  rw [hgν.1, Ok_ite, Ok_some]
  refine ⟨fun q => ?_, fun q => ?_⟩
  · have : s = S := by omega
    subst this
    exact ⟨i1, pth, i2, i6⟩
  · have hsS : s < S := by omega
    have by' := hV (S - s) (by omega) (pth s) i3 y i4
    have hyl : -300000 ≤ y ∧ y ≤ 300000 := by omega
    have h64 : ∀ n, n < mq → ν 64 n = ((dg mp mq (pth s) n : Nat) : Int) ∧ dg mp mq (pth s) n < mp := fun n hn => ⟨i5 n hn, dg_lt (hm (by omega))⟩
    have htν : ∀ x, x < mp ^ mq → rpM (ν 60 x) (tbl mp mq S wk law gn (s + 1) x) ∧ bO 104000 (tbl mp mq S wk law gn (s + 1) x) := fun x hx => ⟨i0 hsS x hx, tbl_bO hS8 hx hV⟩
    have hex := next_ex hm hsS i3 i4
    rw [show (s : Int) + 1 = ((s + 1 : Nat) : Int) from rfl, Ok_bndO]
    refine (firstOf_ok (s := s + 1) hN hdν hgν (by omega) h64 htν hyl.1 hex).mono ?_
    rintro _ ⟨x, rfl, hF⟩
    obtain ⟨z, hz, hzr⟩ := stepTo_ok (s := s + 1) hN hdν hgν (by omega) hF.1 h64
    obtain ⟨d, e, d1, d2, d3, d4⟩ := FS_split hF.2.1
    rw [d1] at hzr
    have hzd : z = d ∧ -50000 ≤ d ∧ d ≤ 50000 := by
      rcases hzr with ⟨w, _⟩ | ⟨d', w, w2, w3, w4⟩
      · cases w
      · have : d = d' := by injection w
        omega
    rw [hz, bndO_s, Ok_chkI]
    refine ⟨by omega, ?_⟩
    obtain ⟨pt, hpt⟩ : ∃ pt : Nat → Nat, pt = fun u => if u = s + 1 then x else pth u := ⟨_, rfl⟩
    have p1 : pt (s + 1) = x := by rw [hpt]; exact if_pos rfl
    have p2 : ∀ u, u ≤ s → pt u = pth u := fun u hu => by rw [hpt]; exact if_neg (by omega)
    have hP : PTH mp mq S wk law gn (enc mp v mq) (s + 1) pt := by
      refine ⟨by rw [p2 0 (by omega)]; exact i2.1, fun u hu => ?_⟩
      by_cases cu : u = s
      · rw [cu, p1, p2 s (Nat.le_refl s)]
        exact ⟨y, i4, hF⟩
      · rw [p2 u (by omega), p2 (u + 1) (by omega)]
        exact i2.2 u (by omega)
    refine Ok_loopS2 (fun a b μ => a = ((s + 1 : Nat) : Int) ∧ ∃ k : Nat, b = k ∧ k ≤ mq ∧ (∀ i, i ≠ 60 → i ≠ 62 → i ≠ 63 → i ≠ 64 → i ≠ c → μ i = σ i) ∧ (∀ n, n < k → μ 64 n = ((dg mp mq x n : Nat) : Int)) ∧ (∀ u n, 1 ≤ u → u ≤ s → n < mq → μ c (u * 5 + n) = ((dg mp mq (pth u) n : Nat) : Int)) ∧ ∀ n, n < k → μ c ((s + 1) * 5 + n) = ((dg mp mq x n : Nat) : Int)) (fun _ b _ => (mq - b.toNat : Nat)) ?_ N _ _ _ ⟨rfl, 0, rfl, by omega, i1, fun n hn => absurd hn (Nat.not_lt_zero n), i6, fun n hn => absurd hn (Nat.not_lt_zero n)⟩ (by omega)
    rintro g2 a b μ ⟨rfl, k, rfl, hk, j1, j2, j3, j4⟩ rec2
    have hdμ := DS_of hd (σ' := μ) (fun i hi => j1 i (by omega) (by omega) (by omega) (by omega) (by omega))
    rw [chkT_pos hT hdμ.2.1, hdμ.2.2.2.2.1, Ok_ite]
    refine ⟨fun q2 => ?_, fun q2 => ?_⟩
    · have hkm : k = mq := by omega
      subst hkm
      have hgμ := DG_of h (σ' := μ) (fun i hi => j1 i (by omega) (by omega) (by omega) (by omega) (by omega))
      rw [Ok_chkI, show ((s + 1 : Nat) : Int) + 1 = ((s + 1 + 1 : Nat) : Int) from rfl, Ok_bndO]
      refine ⟨by omega, (layTable_ok (f := s + 1 + 1) hN (by omega) hdμ hgμ (fun x hx => by rw [j1 61 (by decide) (by decide) (by decide) (by decide) (by omega)]; exact hl x hx) hV).mono ?_⟩
      rintro μ2 ⟨m1, m2⟩
      rw [Ok_chkI]
      refine ⟨by omega, rec _ _ _ ⟨s + 1, rfl, by omega, fun i x1 x2 x3 x4 x5 => (m1 i x1 x2 x3).trans (j1 i x1 x2 x3 x4 x5), fun w => m2 (by omega), pt, hP, by rw [p1]; exact hF.1, ?_, fun n hn => by rw [p1, m1 64 (by decide) (by decide) (by decide)]; exact j2 n hn, fun u n u1 u2 hn => ?_⟩ (by omega)⟩
      · rw [p1, d3]
        congr 1
        omega
      · rw [m1 c (by omega) (by omega) (by omega)]
        by_cases cu : u = s + 1
        · rw [cu, p1]
          exact j4 n hn
        · rw [p2 u (by omega)]
          exact j3 u n u1 (by omega) hn
    · have hkm : k < mq := by omega
      have ix : ((((s + 1 : Nat) : Int)) * 5 + (k : Int)).toNat = (s + 1) * 5 + k := by omega
      rw [placeIn_ok hdμ hkm hF.1, bndO_s, Int.toNat_natCast, ix, kc2, Ok_chkA, Ok_bnd, yset_at, Ok_chkI, Ok_chkI, Ok_chkA, Ok_chkA, Ok_bnd, Ok_chkI]
      refine ⟨by omega, by omega, by omega, by omega, by omega, by omega, rec2 _ _ _ ⟨rfl, k + 1, by omega, by omega, fun i x1 x2 x3 x4 x5 => by rw [yset_off i x5, yset_off i x4]; exact j1 i x1 x2 x3 x4 x5, fun n hn => ?_, fun u n u1 u2 hn => ?_, fun n hn => ?_⟩ (by omega)⟩
      · rw [yset_off 64 (by omega)]
        by_cases cn : n = k
        · rw [cn, yset_at]
        · rw [yset_ne (by omega)]
          exact j2 n (by omega)
      · rw [yset_ne (by omega), yset_off c (by omega)]
        exact j3 u n u1 u2 hn
      · by_cases cn : n = k
        · rw [cn, yset_at]
        · rw [yset_ne (by omega), yset_off c (by omega)]
          exact j4 n (by omega)
