/-! the worth of a told plan, in both -/
def sv (σ : ySt) (T L md P mp mq me hr a s : Nat) : Option Int := if fi (wrB σ T L md P mq s) mp = -1 then osum (fun n => oadd (wkM (a : Int) (hr : Int) (fun u v => σ (T + 15) (6 * u + v)) (pv σ P (s - 1) n) (pv σ P s n)) (gnV σ T me (a : Int) ((1 : Nat) : Int) s n ((pv σ P s n : Nat) : Int))) 0 mq else none
def valZ (σ : ySt) (T L md P mp mq me hr S a : Nat) : Int := if (decide (0 < (a : Int)) && late σ T me S ((1 : Nat) : Int)) = true then -1000000 else rZ (osum (fun s => sv σ T L md P mp mq me hr a s) 1 S)
theorem sv_late {σ : ySt} {T L md P mp mq me hr a s : Nat} (hH : σ T 16 = hr) (h : fi (ltB σ T P s) mq ≠ -1) : sv σ T L md P mp mq me hr a s = none := by
  unfold sv
  split
  · have : ¬ ∀ k, k < mq → ltB σ T P s k = false := fun w => h ((fi_none mq).mpr w)
    obtain ⟨n, hn⟩ := Classical.not_forall.mp this
    obtain ⟨hn1, hn2⟩ := Classical.not_imp.mp hn
    have hl : ltB σ T P s n = true := by
      cases e : ltB σ T P s n with
      | true => rfl
      | false => exact absurd e hn2
    refine osum_none mq 0 n (Nat.zero_le n) (by omega) ?_
    have := of_decide_eq_true hl
    unfold wkM
    rw [if_neg (show ¬ σ (T + 15) (6 * pv σ P (s - 1) n + pv σ P s n) ≤ (hr : Int) by omega)]
    exact none_oadd
  · rfl
theorem sv_none {σ : ySt} {T L md P mp mq me hr a s : Nat} (hH : σ T 16 = hr) (h : fi (ltB σ T P s) mq ≠ -1 ∨ fi (wrB σ T L md P mq s) mp ≠ -1) : sv σ T L md P mp mq me hr a s = none := by
  rcases h with h | h
  · exact sv_late hH h
  · unfold sv
    rw [if_neg h]
theorem rpS_le {k j : Nat} {x : Int} {o : Option Int} (h : rpS k x o) (hk : k ≤ j) : rpS j x o := by
  rcases h with ⟨e, h1, h2⟩ | ⟨a, e, e2, h1, h2⟩
  · exact Or.inl ⟨e, by omega, by omega⟩
  · exact Or.inr ⟨a, e, e2, by omega, by omega⟩
theorem FT_of {σ σ' : ySt} {T mp md L : Nat} {W : Nat → Int} (ft : FT σ T mp md L W) (x : ∀ i, T ≤ i → i ≤ T + 19 → σ' i = σ i) : FT σ' T mp md L W := by
  unfold FT rgt at ft ⊢
  rw [x (T + 15) (by omega) (by omega), x (T + 16) (by omega) (by omega), x (T + 7) (by omega) (by omega), x (T + 18) (by omega) (by omega), x (T + 10) (by omega) (by omega)]
  exact ft
theorem bndR_id {x : Option (Int × ySt)} : (bndR x fun r s => some (r, s)) = x := by
  cases x <;> rfl
theorem worthOfPlan_ok {N T P mp mq md me L S hr a : Nat} {W : Nat → Int} {σ : ySt} (hN : 100000 ≤ N) (hTW : TW σ T mp mq me) (ft : FT σ T mp md L W) (h58 : σ 58 0 = (T : Int) + 1) (hS : σ T 17 = S) (hH : σ T 16 = hr) (hp : PC σ P mp mq) (ha : a < 3) :
    Ok (cAn_worthOfPlan N a P σ) (fun r => r.1 = valZ σ T L md P mp mq me hr S a ∧ ∀ i, i ≠ P → (i < 78 ∨ 82 < i) → r.2 i = σ i) := by
  obtain ⟨hT, h1, hm6, h3, hq5, hm, h14, hme, he, hh, h16, h17, h15⟩ := id hTW
  have hP := hp.1
  unfold cAn_worthOfPlan
  have hS8 : S * 1 = S := Nat.mul_one S
  have hH1 : hr / 1 = hr := Nat.div_one hr
  rw [Ok_chk, chkT_pos hT h58, Ok_bndO]
  refine ⟨hP, (lay_ok (what := (a : Int)) (t := 1) (op := fun s p h => decide (opn σ T L md (-1) (-1) s p h ≠ 0)) hN hTW (by omega) hS hH (by omega) (bits_pl ft)).mono ?_⟩
  rintro σ5 ⟨fr, _, hd, _⟩
  rw [hS8, hH1] at hd
  obtain ⟨d1, d2, d3, d4⟩ := hd (by omega)
  have f5 : ∀ i, (i < 78 ∨ 82 < i) → σ5 i = σ i := fun i hi => fr i (by omega) (by omega) (by omega) (by omega) (by omega)
  have eP : ∀ i, i = P ∨ i = P + 1 → σ5 i = σ i := fun i hi => f5 i (by omega)
  have eT5 : ∀ i, T ≤ i → i ≤ T + 19 → σ5 i = σ i := fun i x y => f5 i (by omega)
  have n1 : ∀ (x : Int), x = valZ σ T L md P mp mq me hr S a → Ok (some x) (fun r => Ok (some (r, σ5)) (fun r => r.1 = valZ σ T L md P mp mq me hr S a ∧ ∀ i, i ≠ P → (i < 78 ∨ 82 < i) → r.2 i = σ i)) := fun x h2 => by
    rw [Ok_some, Ok_some]
    exact ⟨h2, fun i _ hi => f5 i hi⟩
  rw [Ok_bndO]
  unfold cPl_worthOn
  have a0 : decide ((a : Int) ≠ 0) = decide (0 < (a : Int)) := decide_eq_decide.mpr (by omega)
  rw [Ok_chk, d4, a0, Ok_ite]
  refine ⟨hP, fun c => ?_, fun c => n1 _ ?_⟩
  rotate_left
  · unfold valZ
    by_cases lt : (decide (0 < (a : Int)) && late σ T me S ((1 : Nat) : Int)) = true
    · rw [if_pos lt]
    · rw [if_neg lt] at c
      exact absurd (by decide) c
  have lt : ¬ (decide (0 < (a : Int)) && late σ T me S ((1 : Nat) : Int)) = true := fun w => c (by rw [if_pos w])
  have vz : valZ σ T L md P mp mq me hr S a = rZ (osum (fun s => sv σ T L md P mp mq me hr a s) 1 S) := by
    unfold valZ
    rw [if_neg lt]
  have gap : ∀ s, 1 ≤ s → s ≤ S → (fi (ltB σ T P s) mq ≠ -1 ∨ fi (wrB σ T L md P mq s) mp ≠ -1) → (-1000000 : Int) = valZ σ T L md P mp mq me hr S a := fun s s1 s2 h => by
    rw [vz, osum_none S 1 s s1 (by omega) (sv_none hH h)]
    rfl
  have eP5 : σ5 (P + 1) = σ (P + 1) := eP _ (Or.inr rfl)
  have hp5 := PC_of hp eP5
  have n78 : σ5 78 0 = (T : Int) + 1 := d1.2.1
  refine Ok_loop2 (fun x y => ∃ k : Nat, y = (k : Int) + 1 ∧ k ≤ S ∧ rpS (5 * k) x (osum (fun s => sv σ T L md P mp mq me hr a s) 1 k)) (fun _ y => (S + 1 - y.toNat : Nat)) ?_ N _ _ ⟨0, rfl, by omega, Or.inr ⟨0, rfl, rfl, by omega, by omega⟩⟩ (by omega)
  rintro g x y ⟨k, rfl, hk, i1⟩ rec
  rw [d2.1, Ok_ite]
  refine ⟨fun q => ?_, fun q => ?_⟩
  · rw [show S = k by omega] at vz
    rw [Ok_ite]
    rcases i1 with ⟨o1, o2, o3⟩ | ⟨z, o1, o2, o3, o4⟩
    · refine ⟨fun c3 => absurd c3 (by omega), fun _ => n1 _ ?_⟩
      rw [show S = k by omega, vz, o1]
      rfl
    · refine ⟨fun _ => n1 _ ?_, fun c3 => absurd c3 (by omega)⟩
      rw [show S = k by omega, vz, o1, o2]
      rfl
  · have hkS : k + 1 ≤ S := by omega
    have h178 := d2.2.2.1
    rw [chkT_pos hT n78, show (k : Int) + 1 = ((k + 1 : Nat) : Int) from rfl, firstLate_ok hN hT (by rw [eT5 (T + 3) (by omega) (by omega)]; exact h3) hq5 hm6 hp5 (by omega), bndO_s, ltB_of eP5 eT5, Ok_ite]
    refine ⟨fun c3 => n1 _ (gap (k + 1) (by omega) hkS (Or.inl c3)), fun c3 => ?_⟩
    rw [chkT_pos hT n78, firstWrong_ok hN hT (by rw [eT5 (T + 1) (by omega) (by omega)]; exact h1) hm6 (by rw [eT5 (T + 3) (by omega) (by omega)]; exact h3) hq5 (FT_of ft eT5) hP (by omega), bndO_s, wrB_of eP5 eT5, Ok_ite]
    refine ⟨fun c4 => ?_, fun c4 => n1 _ (gap (k + 1) (by omega) hkS (Or.inr c4))⟩
    have svk : sv σ T L md P mp mq me hr a (k + 1) = osum (fun n => oadd (wkM (a : Int) (hr : Int) (fun u v => σ (T + 15) (6 * u + v)) (pv σ P (k + 1 - 1) n) (pv σ P (k + 1) n)) (gnV σ T me (a : Int) ((1 : Nat) : Int) ((k + 1 : Nat) : Int) n ((pv σ P (k + 1) n : Nat) : Int))) 0 mq := by
      unfold sv
      rw [if_pos c4]
    refine Ok_loop3 (fun x y z => y = ((k + 1 : Nat) : Int) ∧ ∃ n : Nat, z = n ∧ n ≤ mq ∧ rpS (5 * k + n) x (oadd (osum (fun s => sv σ T L md P mp mq me hr a s) 1 k) (osum (fun n => oadd (wkM (a : Int) (hr : Int) (fun u v => σ (T + 15) (6 * u + v)) (pv σ P (k + 1 - 1) n) (pv σ P (k + 1) n)) (gnV σ T me (a : Int) ((1 : Nat) : Int) ((k + 1 : Nat) : Int) n ((pv σ P (k + 1) n : Nat) : Int))) 0 n))) (fun _ _ z => (mq - z.toNat : Nat)) ?_ N _ _ _ ⟨rfl, 0, rfl, by omega, ?_⟩ (by omega)
    · rintro g2 x y z ⟨rfl, n, rfl, hn, i2⟩ rec2
      rw [chkT_pos hT n78, eT5 (T + 3) (by omega) (by omega), h3, Ok_ite]
      refine ⟨fun q2 => ?_, fun q2 => ?_⟩
      · rw [show n = mq by omega, ← svk] at i2
        rw [Ok_chkI]
        refine ⟨by omega, rec _ _ ⟨k + 1, rfl, hkS, ?_⟩ (by omega)⟩
        rw [osum_snoc, show 1 + k = k + 1 by omega]
        exact rpS_le i2 (by omega)
      · have hnm : n < mq := by omega
        obtain ⟨u1, u2⟩ := hp5.2 (k + 1 - 1) n (by omega) hnm
        obtain ⟨v1, v2⟩ := hp5.2 (k + 1) n (by omega) hnm
        have e1 : ((((k + 1 : Nat) : Int) - 1) * 5 + (n : Int)).toNat = 5 * (k + 1 - 1) + n := by omega
        have e2 : (((k + 1 : Nat) : Int) * 5 + (n : Int)).toNat = 5 * (k + 1) + n := by omega
        obtain ⟨z, z1, z2⟩ := step_ok (s := k + 1) (n := n) (u := pv σ5 P (k + 1 - 1) n) (v := pv σ5 P (k + 1) n) d2 hm6 hq5 (by omega) hnm u2 v2
        have key := rpS_add i2 z2
        have rg : -200000000 ≤ x + z ∧ x + z ≤ 1000000 := by
          rcases key with ⟨_, y1, y2⟩ | ⟨_, _, y0, y1, y2⟩ <;> omega
        unfold cPl_placeAt
        rw [Ok_chkI, chk_pos hP, chkI_pos (by omega), chkI_pos (by omega), chkA_pos (by omega), bndO_s, e1, u1, chk_pos hP, chkI_pos (by omega), chkI_pos (by omega), chkA_pos (by omega), bndO_s, e2, v1, z1, bndO_s, Ok_chkI, Ok_chkI]
        refine ⟨by omega, by omega, by omega, rec2 _ _ _ ⟨rfl, n + 1, by omega, by omega, ?_⟩ (by omega)⟩
        rw [pv_of eP5, pv_of eP5, oadd_assoc] at key
        rw [osum_snoc, Nat.zero_add]
        exact key
    · show rpS (5 * k + 0) x (oadd _ (some 0))
      rw [oadd_zero]
      exact i1
/-- laid plainly: what the reference asks -/
theorem QF_LY {T b mp mq md mw me L S hr a : Nat} {W : Nat → Int} {σ τ : ySt} (h : TD σ τ T b mp mq md mw me L W) (hTW : TW σ T mp mq me) (ly : LY σ τ T b mp md L) (hS : σ T 17 = S) (hH : σ T 16 = hr) (ha : a < 3) (h50 : τ 92 50 = (a : Int)) : QF σ τ T b mp mq me md L S (a : Int) ((1 : Nat) : Int) (hr : Int) (-1) (-1) (fun u v => σ (T + 15) (6 * u + v)) := by
  obtain ⟨hT, h1, hm6, h3, hq5, hm, h14, hme, he, hh, h16, h17, h15⟩ := id hTW
  obtain ⟨_, h05, h40, hb, g1, g2, g3, w, wn, ft, g5, g6, g7, g8, g9, ru, hru, huu⟩ := id h
  obtain ⟨⟨q47, q48, q49, q51, q52, q53⟩, l2, l3⟩ := ly
  refine ⟨⟨h40, hb, g1.2.2, hm6, g2.2.2, hq5, hm⟩, ⟨h50, by omega, by omega⟩, ⟨by rw [q47, ← g6.1.1]; exact hH, by omega⟩, ⟨by rw [q48, ← g6.2.1]; exact hS, by omega, by omega⟩, ⟨by rw [q49]; rfl, by omega, by omega⟩, ⟨g5.2.2.1, hme⟩, g5.2.2.2, g8, fun u v hu hv => ⟨l2 u v hu hv, (h15 _ (by omega)).1⟩, fun s p m s1 s2 hp' hm' => ?_⟩
  rw [l3 s p m s1 s2 hp' hm']
  unfold opn
  rw [if_neg (show ¬ ((s : Int) = -1 ∨ (p : Int) = -1) by omega)]
theorem lwf_pl {σ : ySt} {T L md mp mq P s : Nat} (hm6 : mp ≤ 6) (hs : s ≤ 8) (hp : PC σ P mp mq) : lwf σ T L md mp mq (-1) (-1) s (enc mp (pv σ P s) mq) ↔ fi (wrB σ T L md P mq s) mp = -1 := by
  have e : ∀ p : Nat, cnt (fun n => ((dg mp mq (enc mp (pv σ P s) mq) n : Nat) : Int)) mq p = cnt (fun n => σ (P + 1) (5 * s + n)) mq p := fun p => cnt_congr mq p (fun n hn => by
    rw [dg_enc (fun n hn => (hp.2 s n hs hn).2) hn, (hp.2 s n hs hn).1])
  rw [fi_none]
  unfold lwf wrB opn
  have key : ∀ p, p < mp → ((if ((s : Int) = -1 ∨ (p : Int) = -1) then (1 : Int) else if rgt σ T L md p ((cnt (fun n => ((dg mp mq (enc mp (pv σ P s) mq) n : Nat) : Int)) mq p).toNat : Nat) s = 0 then 0 else 1) ≠ 0 ↔ decide (rgt σ T L md p (cnt (fun n => σ (P + 1) (5 * s + n)) mq p) s = 0) = false) := fun p hp' => by
    rw [if_neg (by omega), e p]
    have hc := cnt_rg (fun n => σ (P + 1) (5 * s + n)) mq p
    rw [show (((cnt (fun n => σ (P + 1) (5 * s + n)) mq p).toNat : Nat) : Int) = cnt (fun n => σ (P + 1) (5 * s + n)) mq p by omega]
    by_cases c : rgt σ T L md p (cnt (fun n => σ (P + 1) (5 * s + n)) mq p) s = 0
    · simp [c]
    · simp [c]
  exact ⟨fun h p hp' => (key p hp').mp (h p hp'), fun h p hp' => (key p hp').mpr (h p hp')⟩
theorem mo_value_ok {N T b mp mq md mw me L S hr a P : Nat} {W : Nat → Int} {σ τ : ySt} (hN : 100000 ≤ N) (h : TD σ τ T b mp mq md mw me L W) (hTW : TW σ T mp mq me) (hS : σ T 17 = S) (hH : σ T 16 = hr) (hp : PL σ τ T P mp mq) (ha : a < 3) :
    Ok (mo_value N a τ) (fun r => FrQ r.2 τ ∧ r.1 = valZ σ T L md P mp mq me hr S a) := by
  obtain ⟨hT, h1, hm6, h3, hq5, hm, h14, hme, he, hh, h16, h17, h15⟩ := id hTW
  have hP := hp.1.1
  have n10 : ¬ (1 : Int) = 0 := by decide
  have hE : ∀ k, k < me → eW σ T k < mq := fun k hk => by
    have := (he k hk).1
    unfold eW
    omega
  unfold mo_value
  rw [mo_isWhat_eq, bndO_s, if_pos (show 0 ≤ (a : Int) ∧ (a : Int) ≤ 2 by omega), if_pos n10, bndO_2, Ok_bndO]
  refine (plain_lay hN h).mono ?_
  rintro τ1 ⟨f1, ly, k1⟩
  rw [Ok_bnd]
  generalize hτ2 : yset τ1 92 50 (a : Int) = τ2
  have t1 : ∀ i, i ≠ 92 → τ2 i = τ1 i := fun i hi => by rw [← hτ2, yset_off i hi]
  have t92 : ∀ k, k ≠ 50 → τ2 92 k = τ1 92 k := fun k hk => by rw [← hτ2, yset_ne (by omega)]
  have f2 : FrQ τ2 τ := by rw [← hτ2]; exact FrQ_tr f1 (FrQ_set (by omega))
  have td := TD_FrQ h f2
  have ly2 : LY σ τ2 T b mp md L := by
    unfold LY QP at ly ⊢
    rw [t92 47 (by decide), t92 48 (by decide), t92 49 (by decide), t92 51 (by decide), t92 52 (by decide), t92 53 (by decide), t1 100 (by decide), t1 101 (by decide), t1 124 (by decide), t1 125 (by decide)]
    exact ly
  have qf := QF_LY (a := a) td hTW ly2 hS hH ha (by rw [← hτ2, yset_at])
  have pl2 : PL σ τ2 T P mp mq := ⟨hp.1, hp.2.1, hp.2.2.1, by rw [f2.1 136 (by decide) (by omega)]; exact hp.2.2.2⟩
  obtain ⟨⟨p1, p2, p3, p4, p5, p6, p7⟩, ⟨p8, p8a⟩, ⟨p9, p10⟩, ⟨pS, pS1⟩, ⟨p49, p49a⟩, ⟨p99, p99a⟩, pe, ph, p11, po⟩ := id qf
  refine Ok_loop1 (fun y => ∃ k : Nat, y = k ∧ k ≤ me ∧ bany (fun k => decide ((S : Int) < σ (T + 13) k * ((1 : Nat) : Int))) k = false) (fun y => (me - y.toNat : Nat)) ?_ N _ ⟨0, rfl, by omega, rfl⟩ (by omega)
  rintro g y ⟨k, rfl, hk, i1⟩ rec
  rw [p1, Ok_chkA, Int.toNat_natCast, p99]
  refine ⟨by omega, Ok_jq ((decide (0 < (a : Int)) && late σ T me S ((1 : Nat) : Int)) = false) (fun lt => ?_) (fun jj hjj => ?_)⟩
  · have vz : valZ σ T L md P mp mq me hr S a = rZ (osum (fun s => sv σ T L md P mp mq me hr a s) 1 S) := by
      unfold valZ
      rw [lt]
      rfl
    have gap : ∀ s, 1 ≤ s → s ≤ S → sv σ T L md P mp mq me hr a s = none → (-1000000 : Int) = valZ σ T L md P mp mq me hr S a := fun s s1 s2 h => by
      rw [vz, osum_none S 1 s s1 (by omega) h]
      rfl
    refine Ok_loopS2 (fun x y ν => ∃ k : Nat, y = (k : Int) + 1 ∧ k ≤ S ∧ (∀ i, i ≠ 126 → i ≠ 127 → i ≠ 131 → ν i = τ2 i) ∧ osum (fun s => sv σ T L md P mp mq me hr a s) 1 k = some x ∧ -50000 * (k : Int) ≤ x ∧ x ≤ 50000 * (k : Int)) (fun _ y _ => (S + 1 - y.toNat : Nat)) ?_ N _ _ _ ⟨0, rfl, by omega, fun _ _ _ _ => rfl, rfl, by omega, by omega⟩ (by omega)
    rintro g2 x y ν ⟨j, rfl, hj, j1, j2, j3, j4⟩ rec2
    have fν : FrQ ν τ := FrQ_tr f2 ⟨fun i x1 x2 => j1 i (by omega) (by omega) (by omega), fun k _ => by rw [j1 92 (by decide) (by decide) (by decide)]⟩
    rw [j1 92 (by decide) (by decide) (by decide), pS, Ok_ite, Ok_some]
    refine ⟨fun q => ⟨fν, by rw [vz, show S = j by omega, j2]; rfl⟩, fun q => ?_⟩
    have hjS : j + 1 ≤ S := by omega
    have tdν := TD_FrQ h fν
    have plν : PL σ ν T P mp mq := ⟨hp.1, hp.2.1, hp.2.2.1, by rw [fν.1 136 (by decide) (by omega)]; exact hp.2.2.2⟩
    rw [show (j : Int) + 1 = ((j + 1 : Nat) : Int) from rfl, Ok_bndO]
    refine (planned_ok (s := j + 1) hN tdν plν (by omega)).mono ?_
    rintro ν1 ⟨a1, a2, a3⟩
    have b1 : ∀ i, i ≠ 126 → i ≠ 127 → i ≠ 131 → ν1 i = τ2 i := fun i x1 x2 x3 => (a1 i x1 x2 x3).trans (j1 i x1 x2 x3)
    have fν1 : FrQ ν1 τ := FrQ_tr f2 ⟨fun i x1 x2 => b1 i (by omega) (by omega) (by omega), fun k _ => by rw [b1 92 (by decide) (by decide) (by decide)]⟩
    have qf1 := QF_of2 qf (τ' := ν1) (fun i hi => b1 i (by omega) (by omega) (by omega))
    have pvd : ∀ s n, s ≤ 8 → n < mq → pv σ P s n < mp := fun s n hs hn => (hp.1.2 s n hs hn).2
    have svk : sv σ T L md P mp mq me hr a (j + 1) = if fi (wrB σ T L md P mq (j + 1)) mp = -1 then oadd (osum (fun n => wkM (a : Int) (hr : Int) (fun u v => σ (T + 15) (6 * u + v)) (pv σ P j n) (pv σ P (j + 1) n)) 0 mq) (wnV σ T me mq (a : Int) ((1 : Nat) : Int) ((j + 1 : Nat) : Int) (fun n => ((pv σ P (j + 1) n : Nat) : Int))) else none := by
      unfold sv
      rw [osum_add, worth_split (v := fun n => ((pv σ P (j + 1) n : Nat) : Int)) (by omega) hE]
      rfl
    rw [Ok_bndO]
    refine (mo_walked_ok (v := pv σ P j) (d := pv σ P (j + 1)) hN qf1 (fun n hn => ⟨(a2 n hn).1, pvd _ _ (by omega) hn⟩) (fun n hn => ⟨(a2 n hn).2, pvd _ _ (by omega) hn⟩)).mono ?_
    rintro r hr'
    obtain ⟨ow, how⟩ : ∃ ow, ow = osum (fun n => wkM (a : Int) (hr : Int) (fun u v => σ (T + 15) (6 * u + v)) (pv σ P j n) (pv σ P (j + 1) n)) 0 mq := ⟨_, rfl⟩
    rw [← how] at hr' svk
    refine Ok_jq1 (fun y => (y = -1000000 ∧ sv σ T L md P mp mq me hr a (j + 1) = none) ∨ (-1000 ≤ y ∧ y ≤ 8000 ∧ r ≠ -1000000 ∧ fi (wrB σ T L md P mq (j + 1)) mp = -1 ∧ wnV σ T me mq (a : Int) ((1 : Nat) : Int) ((j + 1 : Nat) : Int) (fun n => ((pv σ P (j + 1) n : Nat) : Int)) = some y)) (fun y hy => ?_) (fun kk hkk => ?_)
    · rw [Ok_ite, Ok_some]
      refine ⟨fun c => ?_, fun c => ?_⟩
      · rcases hy with ⟨y1, _⟩ | ⟨y1, y2, y3, y4, y5⟩
        · exact absurd y1 c
        · rcases hr' with ⟨r1, _⟩ | ⟨r1, r2, r3⟩
          · exact absurd r1 y3
          · rw [if_pos y4, r3, y5] at svk
            refine Ok_jq1 (fun z => z = if (a : Int) = 2 then r else 0) (fun z hz => ?_) (fun ll hll => ?_)
            · have hz2 : 0 ≤ z ∧ z ≤ 5000 := by
                rw [hz]
                split <;> omega
              rw [Ok_chkI, Ok_chkI, Ok_chkI]
              refine ⟨by omega, by omega, by omega, rec2 _ _ _ ⟨j + 1, rfl, hjS, b1, ?_, by omega, by omega⟩ (by omega)⟩
              rw [osum_snoc, show 1 + j = j + 1 by omega, j2, svk]
              show some (x + ((if (a : Int) = 2 then -r else 0) + y)) = some (x + (y - z))
              congr 1
              by_cases c2 : (a : Int) = 2
              · rw [if_pos c2] at hz ⊢
                omega
              · rw [if_neg c2] at hz ⊢
                omega
            · rw [Ok_ite]
              exact ⟨fun c2 => hll 0 (by rw [if_neg c2]), fun c2 => hll r (by rw [if_pos (Classical.byContradiction c2)])⟩
      · have c' : y = -1000000 := Classical.byContradiction c
        rcases hy with ⟨y1, y2⟩ | ⟨y1, y2, y3, y4, y5⟩
        · exact ⟨fν1, gap (j + 1) (by omega) hjS y2⟩
        · omega
    · refine Ok_jq (sv σ T L md P mp mq me hr a (j + 1) = none) (fun w => hkk _ (Or.inl ⟨rfl, w⟩)) (fun ll hll => ?_)
      rw [Ok_ite]
      refine ⟨fun c => ?_, fun c => ?_⟩
      · apply hll
        rcases hr' with ⟨r1, r2⟩ | ⟨r1, r2, r3⟩
        · rw [svk, r2]
          split
          · exact none_oadd
          · rfl
        · omega
      · have hx : enc mp (pv σ P (j + 1)) mq < mp ^ mq := enc_lt mq (fun n hn => pvd _ _ (by omega) hn)
        rw [Ok_bndO]
        refine (mo_isLawful_ok (x := enc mp (pv σ P (j + 1)) mq) (s := j + 1) hN qf1.1.1 p2 qf1.1.2.2.1 p4 p6 (by omega) qf1.2.2.2.2.2.2.2.2.2 (fun p hp' => ?_)).mono ?_
        · rw [a3 p hp']
          exact cnt_congr mq p (fun n hn => by rw [dg_enc (fun n hn => pvd _ _ (by omega) hn) hn])
        · rintro r2 hr2
          rw [lwf_pl hm6 (by omega) hp.1] at hr2
          rw [Ok_ite]
          refine ⟨fun c2 => ?_, fun c2 => ?_⟩
          · have law : fi (wrB σ T L md P mq (j + 1)) mp = -1 := by
              rcases hr2 with ⟨_, w⟩ | ⟨w, _⟩
              · exact w
              · exact absurd w c2
            have wn : WN σ ν1 T b mp mq me (a : Int) ((1 : Nat) : Int) (fun n => ((pv σ P (j + 1) n : Nat) : Int)) := by
              obtain ⟨⟨v1, v2, v3, v4, v5, v6, v7⟩, ⟨v8, v8a⟩, ⟨v9, v10⟩, ⟨vS, vS1⟩, ⟨v49, v49a⟩, ⟨v99, v99a⟩, ve, vh, v11, vo⟩ := id qf1
              exact ⟨v1, v2, v99, v99a, v5, v6, v49, v49a, v8, v8a, ve, vh, fun n hn => (a2 n hn).2⟩
            rw [Ok_bndO]
            refine (mo_worthNow_ok (s := ((j + 1 : Nat) : Int)) hN wn).mono ?_
            rintro r3 ⟨w1, w2⟩
            apply hkk
            rcases w1 with ⟨o1, o2⟩ | ⟨z, o1, o2⟩
            · refine Or.inl ⟨o2, ?_⟩
              rw [svk, if_pos law, o1]
              exact oadd_none
            · have := w2 z o1
              rw [o2]
              exact Or.inr ⟨this.1, this.2, c, law, o1⟩
          · apply hll
            rw [svk, if_neg]
            rcases hr2 with ⟨w, _⟩ | ⟨_, w⟩
            · omega
            · exact w
  · have late_no : k = me → (decide (0 < (a : Int)) && late σ T me S ((1 : Nat) : Int)) = false := fun e => by
      rw [e] at i1
      unfold late
      rw [i1]
      simp
    rw [Ok_ite]
    refine ⟨fun q => hjj (late_no (by omega)), fun q => ?_⟩
    rw [Ok_ite]
    refine ⟨fun q2 => hjj (by rw [decide_eq_false (by omega)]; rfl), fun q2 => ?_⟩
    have hkm : k < me := by omega
    obtain ⟨_, _, ⟨t13, _⟩, _⟩ := pe k hkm
    have ix : (8 * (b : Int) + (k : Int)).toNat = 8 * b + k := by omega
    rw [Ok_chkI, Ok_chkI, Ok_chkA, ix, ← t13, pS, Ok_ite]
    refine ⟨by omega, by omega, by omega, fun c => ?_, fun c => ?_⟩
    · rw [Ok_chkI]
      refine ⟨by omega, rec _ ⟨k + 1, by omega, by omega, ?_⟩ (by omega)⟩
      show (bany (fun k => decide ((S : Int) < σ (T + 13) k * ((1 : Nat) : Int))) k || decide ((S : Int) < σ (T + 13) k * ((1 : Nat) : Int))) = false
      rw [i1, decide_eq_false (show ¬ (S : Int) < σ (T + 13) k * ((1 : Nat) : Int) by omega)]
      rfl
    · rw [Ok_some]
      refine ⟨f2, ?_⟩
      unfold valZ
      rw [if_pos]
      rw [decide_eq_true (show 0 < (a : Int) by omega), show late σ T me S ((1 : Nat) : Int) = true from (bany_iff me).mpr ⟨k, hkm, decide_eq_true (by omega)⟩]
      rfl
theorem C_value {N T b mp mq md mw me L S hr P : Nat} {W : Nat → Int} {σ τ : ySt} (hN : 100000 ≤ N) (h : QI σ τ T b mp mq md mw me L S hr W) (hp : PL σ τ T P mp mq) (a : Int) :
    Ok (cE_value N a σ) (fun r => Ok (mo_value N a τ) (fun r' => r'.1 = r.1 ∧ FrQ r'.2 τ ∧ ∀ i, i ≠ P → (i < 78 ∨ 82 < i) → r.2 i = σ i)) := by
  obtain ⟨hTD, hTW, h58, hS, hH, hca⟩ := id h
  obtain ⟨_, h05, h40, hb, g1, g2, g3, ⟨w1, w2, w3⟩, wn, ft, _, g6, _⟩ := id hTD
  have hP := hp.1.1
  unfold cE_value
  rw [cE_isSort_eq, bndO_s]
  by_cases ca : 0 ≤ a ∧ a ≤ 2
  · obtain ⟨n, rfl⟩ : ∃ n : Nat, a = n := ⟨a.toNat, by omega⟩
    rw [if_pos ca, if_neg (show ¬ (1 : Int) = 0 by decide), chkP_pos hP hp.2.1, Ok_bndR]
    refine (worthOfPlan_ok hN hTW ft h58 hS hH hp.1 (show n < 3 by omega)).mono ?_
    rintro ⟨r, σ'⟩ ⟨b1, b2⟩
    dsimp only at b1 b2 ⊢
    rw [Ok_some]
    refine (mo_value_ok hN hTD hTW hS hH hp (show n < 3 by omega)).mono ?_
    rintro ⟨r', τ'⟩ ⟨c1, c2⟩
    dsimp only at c1 c2 ⊢
    exact ⟨by rw [c2, b1], c1, b2⟩
  · rw [if_neg ca, if_pos rfl, Ok_some]
    unfold mo_value
    rw [mo_isWhat_eq, bndO_s, if_neg ca, if_neg (fun w => w rfl), Ok_some]
    exact ⟨rfl, FrQ_rfl τ, fun _ _ _ => rfl⟩
