/-! the first best day of the reference -/
theorem QF_of2 {σ τ τ' : ySt} {T b mp mq me md L S : Nat} {what t hr fs fp : Int} {Mn : Nat → Nat → Int} (h : QF σ τ T b mp mq me md L S what t hr fs fp Mn) (e : ∀ i, i < 126 → τ' i = τ i) : QF σ τ' T b mp mq me md L S what t hr fs fp Mn := by
  unfold QF at h ⊢
  rw [e 92 (by decide), e 95 (by decide), e 97 (by decide), e 99 (by decide), e 111 (by decide), e 112 (by decide), e 114 (by decide), e 115 (by decide), e 116 (by decide), e 117 (by decide), e 124 (by decide), e 125 (by decide)]
  exact h
theorem osum_add (f g : Nat → Option Int) : ∀ (j k : Nat), osum (fun n => oadd (f n) (g n)) k j = oadd (osum f k j) (osum g k j)
  | 0, _ => rfl
  | j + 1, k => by
    show oadd (oadd (f k) (g k)) (osum (fun n => oadd (f n) (g n)) (k + 1) j) = oadd (oadd (f k) (osum f (k + 1) j)) (oadd (g k) (osum g (k + 1) j))
    rw [osum_add f g j (k + 1)]
    generalize osum f (k + 1) j = A
    generalize osum g (k + 1) j = B
    rw [oadd_assoc, oadd_assoc, ← oadd_assoc (g k) A B, oadd_comm (g k) A, oadd_assoc A]
theorem mo_walked_ok {N T b mp mq me md L S : Nat} {σ τ : ySt} {what t hr fs fp : Int} {Mn : Nat → Nat → Int} {v d : Nat → Nat} (hN : 100000 ≤ N) (h : QF σ τ T b mp mq me md L S what t hr fs fp Mn) (hv : ∀ n, n < mq → τ 131 n = v n ∧ v n < mp) (hd : ∀ n, n < mq → τ 126 n = d n ∧ d n < mp) :
    Ok (mo_walked N τ) (fun r => (r = -1000000 ∧ osum (fun n => wkM what hr Mn (v n) (d n)) 0 mq = none) ∨ (0 ≤ r ∧ r ≤ 5000 ∧ osum (fun n => wkM what hr Mn (v n) (d n)) 0 mq = some (if what = 2 then -r else 0))) := by
  obtain ⟨⟨p1, p2, p3, p4, p5, p6, p7⟩, ⟨p8, p8a⟩, ⟨p9, p10⟩, _, ⟨p49, p49a⟩, ⟨p99, p99a⟩, pe, ph, p11, po⟩ := id h
  obtain ⟨f, hf⟩ : ∃ f : Nat → Option Int, ∀ n, f n = wkM what hr Mn (v n) (d n) := ⟨_, fun _ => rfl⟩
  have hff : (fun n => wkM what hr Mn (v n) (d n)) = f := (funext hf).symm
  rw [hff]
  unfold mo_walked
  refine Ok_loop2 (fun x y => ∃ k : Nat, y = k ∧ k ≤ mq ∧ 0 ≤ x ∧ x ≤ 999 * (k : Int) ∧ osum f 0 k = some (if what = 2 then -x else 0)) (fun _ y => (mq - y.toNat : Nat)) ?_ N _ _ ⟨0, rfl, by omega, by decide, by decide, by show some (0 : Int) = _; split <;> rfl⟩ (by omega)
  rintro g x y ⟨k, rfl, hk, x0, x1, ho⟩ rec
  rw [QF_p h, bndO_s, Ok_ite, Ok_some]
  refine ⟨fun q => ?_, fun q => ?_⟩
  · have : k = mq := by omega
    subst this
    exact Or.inr ⟨x0, by omega, ho⟩
  · have hkm : k < mq := by omega
    obtain ⟨v1, v2⟩ := hv k hkm
    obtain ⟨d1, d2⟩ := hd k hkm
    have ix : (6 * ((v k : Nat) : Int) + ((d k : Nat) : Int)).toNat = 6 * v k + d k := by omega
    have hm := p11 (v k) (d k) v2 d2
    have hg : mo_gets ((v k : Nat) : Int) ((d k : Nat) : Int) τ = some (if Mn (v k) (d k) > hr then 0 else 1) := by
      unfold mo_gets
      rw [chkI_pos (by omega), chkI_pos (by omega), chkA_pos (by omega), ix, hm.1, p9]
      split <;> rfl
    have hs : osum f 0 (k + 1) = oadd (osum f 0 k) (f k) := by rw [osum_snoc, Nat.zero_add]
    rw [Int.toNat_natCast, v1, d1, hg, bndO_s, Ok_chkA, Ok_chkA, Ok_ite]
    refine ⟨by omega, by omega, fun c => ?_, fun c => ?_⟩
    · have hle : ¬ Mn (v k) (d k) > hr := fun w => by rw [if_pos w] at c; exact c rfl
      rw [Ok_chkA, Ok_chkI, Ok_chkA, Ok_chkI, Ok_chkA, ix, hm.1, Ok_chkI, Ok_chkI]
      refine ⟨by omega, by omega, by omega, by omega, by omega, by omega, by omega, rec _ _ ⟨k + 1, by omega, by omega, by omega, by omega, ?_⟩ (by omega)⟩
      rw [hs, ho, hf k]
      unfold wkM
      rw [if_pos (show Mn (v k) (d k) ≤ hr by omega)]
      by_cases w2 : what = 2
      · rw [if_pos w2, if_pos w2, if_pos w2]
        show some (-x + -(Mn (v k) (d k))) = some (-(x + Mn (v k) (d k)))
        rw [show -x + -(Mn (v k) (d k)) = -(x + Mn (v k) (d k)) from by omega]
      · rw [if_neg w2, if_neg w2, if_neg w2]
        rfl
    · have hgt : Mn (v k) (d k) > hr := Classical.byContradiction fun w => by rw [if_neg w] at c; exact c (by decide)
      rw [Ok_some]
      refine Or.inl ⟨rfl, osum_none mq 0 k (by omega) (by omega) ?_⟩
      rw [hf k]
      unfold wkM
      rw [if_neg (by omega)]
theorem mo_nextBest_ok {N T b mp mq me md L S a s : Nat} {σ τ : ySt} {what t hr fs fp Z : Int} {Mn Mc : Nat → Nat → Int} (hN : 100000 ≤ N) (h : QF σ τ T b mp mq me md L S what t hr fs fp Mn) (hM : ∀ u v, u < mp → v < mp → Mn u v = Mc u v) (hE : ∀ k, k < me → eW σ T k < mq) (ht : ∀ j x, j ≤ S → x < mp ^ mq → rpM (τ 128 (7776 * (S - j) + x)) (VV mp mq S (wkM what hr Mc) (lawB σ T L md mp mq fs fp) (fun s y => osum (fun n => gnV σ T me what t s n (dg mp mq y n)) 0 mq) j x) ∧ bO (13000 * (j : Int)) (VV mp mq S (wkM what hr Mc) (lawB σ T L md mp mq fs fp) (fun s y => osum (fun n => gnV σ T me what t s n (dg mp mq y n)) 0 mq) j x)) (ha : a < mp ^ mq) (hs : s < S) (hZ : VV mp mq S (wkM what hr Mc) (lawB σ T L md mp mq fs fp) (fun s y => osum (fun n => gnV σ T me what t s n (dg mp mq y n)) 0 mq) (S - s) a = some Z) :
    Ok (mo_nextBest N a ((s : Int) + 1) τ) (fun r => (∀ i, i ≠ 126 → i ≠ 127 → i ≠ 131 → r.2 i = τ i) ∧ ∃ x : Nat, r.1 = x ∧ isF (mp ^ mq) (FS mp mq S (wkM what hr Mc) (lawB σ T L md mp mq fs fp) (fun s n p => gnV σ T me what t s n p) (s + 1) (dg mp mq a)) Z x) := by
  obtain ⟨⟨p1, p2, p3, p4, p5, p6, p7⟩, ⟨p8, p8a⟩, ⟨p9, p10⟩, ⟨pS, pS1⟩, ⟨p49, p49a⟩, ⟨p99, p99a⟩, pe, ph, p11, po⟩ := id h
  have hS7 := pow_le p4 p6
  obtain ⟨F, hF⟩ : ∃ F, F = FS mp mq S (wkM what hr Mc) (lawB σ T L md mp mq fs fp) (fun s n p => gnV σ T me what t s n p) (s + 1) (dg mp mq a) := ⟨_, rfl⟩
  have hex := next_ex (law := lawB σ T L md mp mq fs fp) (gn := fun s n p => gnV σ T me what t s n p) p7 hs ha hZ
  rw [← hF] at hex ⊢
  unfold mo_nextBest
  rw [Ok_bndO]
  refine (mo_layState_ok hN p1 p2 p3 p4 p5 p6 ha).mono ?_
  rintro τ2 ⟨a1, a2, a3⟩
  refine Ok_loopS1 (fun y ν => ∃ k : Nat, y = k ∧ k ≤ mq ∧ (∀ i, i ≠ 126 → i ≠ 127 → i ≠ 131 → ν i = τ i) ∧ (∀ n, n < mq → ν 126 n = ((dg mp mq a n : Nat) : Int)) ∧ ∀ n, n < k → ν 131 n = ((dg mp mq a n : Nat) : Int)) (fun y _ => (mq - y.toNat : Nat)) ?_ N _ _ ⟨0, rfl, by omega, fun i x y _ => a1 i x y, a2, fun n hn => absurd hn (Nat.not_lt_zero n)⟩ (by omega)
  rintro g y ν ⟨k, rfl, hk, i1, i2, i3⟩ rec
  have hqν := QF_of2 h (τ' := ν) (fun i hi => i1 i (by omega) (by omega) (by omega))
  rw [QF_p hqν, bndO_s, Ok_ite]
  refine ⟨fun q => ?_, fun q => ?_⟩
  · have hkm : k = mq := by omega
    subst hkm
    refine Ok_loopS1 (fun y μ => ∃ x : Nat, y = x ∧ x ≤ mp ^ k ∧ (∀ i, i ≠ 126 → i ≠ 127 → i ≠ 131 → μ i = τ i) ∧ (∀ n, n < k → μ 131 n = ((dg mp k a n : Nat) : Int)) ∧ ∀ j, j < x → F j ≠ some Z) (fun y _ => (mp ^ k - y.toNat : Nat)) ?_ N _ _ ⟨0, rfl, by omega, i1, i3, fun j hj => absurd hj (Nat.not_lt_zero j)⟩ (by omega)
    rintro g2 y μ ⟨x, rfl, hx, j1, j2, j3⟩ rec2
    have hqμ := QF_of2 h (τ' := μ) (fun i hi => j1 i (by omega) (by omega) (by omega))
    rw [QF_n hN hqμ, bndO_s, Ok_ite]
    refine ⟨fun q2 => ?_, fun q2 => ?_⟩
    · obtain ⟨x', hx', e⟩ := hex
      exact absurd e (j3 x' (by omega))
    · have hxx : x < mp ^ k := by omega
      obtain ⟨⟨m1, m2, m3, m4, m5, m6, m7⟩, _⟩ := id hqμ
      rw [Ok_bndO]
      refine (mo_layState_ok hN m1 m2 m3 m4 m5 m6 hxx).mono ?_
      rintro κ ⟨l1, l2, l3⟩
      have frκ : ∀ i, i ≠ 126 → i ≠ 127 → i ≠ 131 → κ i = τ i := fun i x1 x2 x3 => by rw [l1 i x1 x2]; exact j1 i x1 x2 x3
      have hqκ := QF_of2 h (τ' := κ) (fun i hi => frκ i (by omega) (by omega) (by omega))
      obtain ⟨⟨r1, r2, r3, r4, r5, r6, r7⟩, ⟨r8, r8a⟩, ⟨r9, r10⟩, _, ⟨r49, r49a⟩, ⟨r99, r99a⟩, re, rh, r11, ro⟩ := id hqκ
      have k131 : ∀ n, n < k → κ 131 n = ((dg mp k a n : Nat) : Int) ∧ dg mp k a n < mp := fun n hn => ⟨by rw [l1 131 (by decide) (by decide)]; exact j2 n hn, dg_lt (p7 (by omega))⟩
      have k126 : ∀ n, n < k → κ 126 n = ((dg mp k x n : Nat) : Int) ∧ dg mp k x n < mp := fun n hn => ⟨l2 n hn, dg_lt (p7 (by omega))⟩
      have k128 : κ 128 = τ 128 := frκ 128 (by decide) (by decide) (by decide)
      have go : F x ≠ some Z → Ok (chkI ((x : Int) + 1) (g2 ((x : Int) + 1) κ)) (fun r => (∀ i, i ≠ 126 → i ≠ 127 → i ≠ 131 → r.2 i = τ i) ∧ ∃ x : Nat, r.1 = x ∧ isF (mp ^ k) F Z x) := fun hne => by
        rw [Ok_chkI]
        refine ⟨by omega, rec2 _ _ ⟨x + 1, by omega, by omega, frκ, fun n hn => (k131 n hn).1, fun j hj => ?_⟩ (by omega)⟩
        by_cases cj : j = x
        · rw [cj]
          exact hne
        · exact j3 j (by omega)
      rw [Ok_bndO]
      refine (mo_walked_ok hN hqκ k131 k126).mono ?_
      intro r18 hr18
      have hFx : F x = oadd (oadd (osum (fun n => wkM what hr Mn (dg mp k a n) (dg mp k x n)) 0 k) (wnV σ T me k what t ((s + 1 : Nat) : Int) (fun n => ((dg mp k x n : Nat) : Int)))) (tbl mp k S (wkM what hr Mc) (lawB σ T L md mp k fs fp) (fun s n p => gnV σ T me what t s n p) (s + 1) x) := by
        rw [hF]
        unfold FS
        rw [osum_add (fun n => wkM what hr Mc (dg mp k a n) (dg mp k x n)) (fun n => gnV σ T me what t ((s + 1 : Nat) : Int) n ((dg mp k x n : Nat) : Int)) k 0, ← worth_split (v := fun n => ((dg mp k x n : Nat) : Int)) p8a hE]
        congr 2
        exact osum_congr k 0 (fun n _ hn => (wkM_congr (hM _ _ (k131 n (by omega)).2 (k126 n (by omega)).2)).symm)
      refine Ok_jq1 (fun (y : Int) => (y = -1000000 ∧ F x = none) ∨ ∃ w r c : Int, r18 = r ∧ 0 ≤ r ∧ r ≤ 5000 ∧ osum (fun n => wkM what hr Mn (dg mp k a n) (dg mp k x n)) 0 k = some (if what = 2 then -r else 0) ∧ lawB σ T L md mp k fs fp (s + 1) x = true ∧ wnV σ T me k what t ((s + 1 : Nat) : Int) (fun n => ((dg mp k x n : Nat) : Int)) = some w ∧ y = w ∧ -1000 ≤ w ∧ w ≤ 8000 ∧ c = 0) (fun y19 hy => ?_) (fun kk hkk => ?_)
      · rw [Ok_bnd, Ok_ite]
        refine ⟨fun c => go ?_, fun c => ?_⟩
        · rcases hy with ⟨_, e⟩ | ⟨w, r, c', e1, e2, e3, e4, e5, e6, e7, e8, e9, e10⟩
          · rw [e]
            exact fun w => by cases w
          · omega
        · rcases hy with ⟨e, _⟩ | ⟨w, r, c', e1, e2, e3, e4, e5, e6, e7, e8, e9, e10⟩
          · exact absurd e c
          · have tt := ht (S - (s + 1)) x (by omega) hxx
            have t0 := ht (S - s) a (by omega) ha
            rw [show S - (S - (s + 1)) = s + 1 from by omega] at tt
            rw [hZ, show S - (S - s) = s from by omega] at t0
            have hz0 : τ 128 (7776 * s + a) = Z := by
              rcases t0.1 with ⟨w', _⟩ | ⟨d, w', w2⟩
              · cases w'
              · have : Z = d := by injection w'
                rw [w2, this]
            have hzb := t0.2 Z rfl
            have htb : tbl mp k S (wkM what hr Mc) (lawB σ T L md mp k fs fp) (fun s n p => gnV σ T me what t s n p) (s + 1) x = VV mp k S (wkM what hr Mc) (lawB σ T L md mp k fs fp) (fun s y => osum (fun n => gnV σ T me what t s n (dg mp k y n)) 0 k) (S - (s + 1)) x := by
              unfold tbl
              rw [if_pos e5]
            rw [e4, e6, htb] at hFx
            generalize VV mp k S (wkM what hr Mc) (lawB σ T L md mp k fs fp) (fun s y => osum (fun n => gnV σ T me what t s n (dg mp k y n)) 0 k) (S - (s + 1)) x = Q at tt hFx
            have ix : (7776 * ((s : Int) + 1) + (x : Int)).toNat = 7776 * (s + 1) + x := by omega
            have ix2 : (7776 * ((s : Int) + 1 - 1) + (a : Int)).toNat = 7776 * s + a := by omega
            have rgT : -1000000 ≤ τ 128 (7776 * (s + 1) + x) ∧ τ 128 (7776 * (s + 1) + x) ≤ 104000 := by
              rcases tt.1 with ⟨_, w2⟩ | ⟨d, w', w2⟩
              · omega
              · have := tt.2 d w'
                omega
            rw [k128, ix, Ok_chkI, Ok_chkI, Ok_chkA, Ok_ite]
            refine ⟨by omega, by omega, by omega, fun c2 => ?_, fun c2 => go ?_⟩
            · obtain ⟨d, ed, ed2⟩ : ∃ d, Q = some d ∧ τ 128 (7776 * (s + 1) + x) = d := by
                rcases tt.1 with ⟨_, w2⟩ | ⟨d, w', w2⟩
                · exact absurd w2 c2
                · exact ⟨d, w', w2⟩
              rw [ed] at hFx
              have hFx' : F x = some ((if what = 2 then -r else 0) + w + d) := hFx
              rw [ed2, Ok_chkI, Ok_chkI, Ok_chkA, Ok_chkI]
              refine ⟨by omega, by omega, by omega, by omega, Ok_jq1 (fun (y : Int) => y = if what = 2 then r else 0) (fun y32 hy2 => ?_) (fun kk2 hkk2 => ?_)⟩
              · have hyr : 0 ≤ y32 ∧ y32 ≤ 5000 := by
                  rw [hy2]
                  split <;> omega
                have hsum : (if what = 2 then -r else 0) + w + d = y19 + d - y32 := by
                  rw [hy2, e7]
                  split <;> omega
                rw [hsum] at hFx'
                rw [ix2, hz0, Ok_chkI, Ok_chkI, Ok_chkI, Ok_chkI, Ok_chkA, Ok_ite, Ok_some]
                refine ⟨by omega, by omega, by omega, by omega, by omega, fun c3 => go ?_, fun c3 => ?_⟩
                · rw [hFx']
                  exact fun w' => c3 (by injection w')
                · refine ⟨frκ, x, rfl, hxx, ?_, j3⟩
                  rw [hFx', Classical.byContradiction c3]
              · rw [frκ 92 (by decide) (by decide) (by decide), p8, Ok_ite]
                exact ⟨fun c3 => hkk2 _ (by rw [if_neg c3]), fun c3 => hkk2 _ (by rw [e1, if_pos (Classical.byContradiction c3)])⟩
            · have e0 := Classical.byContradiction c2
              rcases tt.1 with ⟨w', _⟩ | ⟨d, w', w2⟩
              · rw [hFx, w', oadd_none]
                exact fun w => by cases w
              · have := tt.2 d w'
                omega
      · rw [Ok_bnd, Ok_ite]
        refine ⟨fun c => hkk _ (Or.inl ⟨rfl, ?_⟩), fun c => ?_⟩
        · rcases hr18 with ⟨_, e⟩ | ⟨e1, e2, _⟩
          · rw [hFx, e, none_oadd, none_oadd]
          · omega
        · rcases hr18 with ⟨e, _⟩ | ⟨e1, e2, e3⟩
          · exact absurd e c
          · rw [show (s : Int) + 1 = ((s + 1 : Nat) : Int) from rfl, Ok_bndO]
            refine (mo_isLawful_ok hN r1 r2 r3 r4 r6 (by omega) ro l3).mono ?_
            intro r44 hr44
            rcases hr44 with ⟨w1, lw⟩ | ⟨w1, lw⟩
            · have hlb := lawB_iff.mpr lw
              rw [w1, if_pos (by decide), Ok_bndO]
              have hwn : WN σ κ T b mp k me what t (fun n => ((dg mp k x n : Nat) : Int)) := ⟨r1, r2, r99, r99a, r5, r6, r49, r49a, r8, r8a, re, rh, l2⟩
              refine (mo_worthNow_ok (s := ((s + 1 : Nat) : Int)) hN hwn).mono ?_
              rintro w ⟨w2, w3⟩
              refine hkk _ ?_
              rcases w2 with ⟨z1, z2⟩ | ⟨z, z1, z2⟩
              · exact Or.inl ⟨z2, by rw [hFx, z1, oadd_none, none_oadd]⟩
              · exact Or.inr ⟨z, r18, 0, rfl, e1, e2, e3, hlb, z1, z2, (w3 z z1).1, (w3 z z1).2, rfl⟩
            · have hlb : ¬ lawB σ T L md mp k fs fp (s + 1) x = true := fun w => lw (lawB_iff.mp w)
              rw [w1, if_neg (fun w => w rfl)]
              refine hkk _ (Or.inl ⟨rfl, ?_⟩)
              rw [hFx]
              unfold tbl
              rw [if_neg hlb, oadd_none]
  · have hkm : k < mq := by omega
    rw [Ok_chkA, Ok_chkA, Int.toNat_natCast, Ok_bnd, Ok_chkI]
    refine ⟨by omega, by omega, by omega, rec _ _ ⟨k + 1, by omega, by omega, fun i x1 x2 x3 => by rw [yset_off i x3]; exact i1 i x1 x2 x3, fun n hn => by rw [yset_off 126 (by decide)]; exact i2 n hn, fun n hn => ?_⟩ (by omega)⟩
    by_cases cn : n = k
    · rw [cn, yset_at]
      exact i2 k hkm
    · rw [yset_ne (by omega)]
      exact i3 n (by omega)
