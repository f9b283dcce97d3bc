/-! a told plan judged: the reference, and both -/
def KJ (ν τ : ySt) : Prop := (∀ i, i ≠ 92 → i ≠ 126 → i ≠ 127 → i ≠ 131 → ν i = τ i) ∧ ∀ k, (k < 68 ∨ 70 < k) → ν 92 k = τ 92 k
theorem KJ_rfl (τ : ySt) : KJ τ τ := ⟨fun _ _ _ _ _ => rfl, fun _ _ => rfl⟩
theorem KJ_tr {τ τ' τ'' : ySt} (h : KJ τ' τ) (g : KJ τ'' τ') : KJ τ'' τ := ⟨fun i a c d e => (g.1 i a c d e).trans (h.1 i a c d e), fun k a => (g.2 k a).trans (h.2 k a)⟩
theorem KJ_FrQ {τ τ' : ySt} (h : KJ τ' τ) : FrQ τ' τ := ⟨fun i a c => h.1 i a (by omega) (by omega) (by omega), fun k a => h.2 k (by omega)⟩
theorem KJ_LY {σ τ τ' : ySt} {T b mp md L : Nat} (h : KJ τ' τ) (ly : LY σ τ T b mp md L) : LY σ τ' T b mp md L := by
  unfold LY QP at ly ⊢
  rw [h.2 47 (by omega), h.2 48 (by omega), h.2 49 (by omega), h.2 51 (by omega), h.2 52 (by omega), h.2 53 (by omega), h.1 100 (by decide) (by decide) (by decide) (by decide), h.1 101 (by decide) (by decide) (by decide) (by decide), h.1 124 (by decide) (by decide) (by decide) (by decide), h.1 125 (by decide) (by decide) (by decide) (by decide)]
  exact ly
theorem mo_layPlanned_ok {N b mp mq s : Nat} {τ : ySt} {v d : Nat → Nat} (hN : 100000 ≤ N) (h40 : τ 92 40 = b) (hb : b < 2) (h97 : τ 97 b = mq) (hmq : mq ≤ 5) (hmp : mp ≤ 6) (hs : 1 ≤ s ∧ s ≤ 8) (hv : ∀ n, n < mq → (if s = 1 then τ 111 (5 * b + n) else τ 136 (8 * n + (s - 2))) = ((v n : Nat) : Int)) (hd : ∀ n, n < mq → τ 136 (8 * n + (s - 1)) = ((d n : Nat) : Int) ∧ d n < mp) :
    Ok (mo_layPlanned N s τ) (fun τ' => (∀ i, i ≠ 126 → i ≠ 127 → i ≠ 131 → τ' i = τ i) ∧ (∀ n, n < mq → τ' 131 n = ((v n : Nat) : Int) ∧ τ' 126 n = ((d n : Nat) : Int)) ∧ ∀ p : Nat, p < 6 → τ' 127 p = cnt (fun n => ((d n : Nat) : Int)) mq p) := by
  unfold mo_layPlanned
  refine Ok_loopS1 (fun x ρ => ∃ k : Nat, x = k ∧ k ≤ 6 ∧ (∀ i, i ≠ 127 → ρ i = τ i) ∧ ∀ p, p < k → ρ 127 p = 0) (fun x _ => (6 - x.toNat : Nat)) ?_ N _ _ ⟨0, rfl, by omega, fun _ _ => rfl, fun p hp => absurd hp (Nat.not_lt_zero p)⟩ (by omega)
  rintro g x ρ ⟨m, rfl, hm, i1, i2⟩ rec
  rw [Ok_ite]
  refine ⟨fun q => ?_, fun q => ?_⟩
  · refine Ok_loopS1 (fun x ν => ∃ k : Nat, x = k ∧ k ≤ mq ∧ (∀ i, i ≠ 126 → i ≠ 127 → i ≠ 131 → ν i = τ i) ∧ (∀ n, n < k → ν 131 n = ((v n : Nat) : Int) ∧ ν 126 n = ((d n : Nat) : Int)) ∧ ∀ p : Nat, p < 6 → ν 127 p = cnt (fun n => ((d n : Nat) : Int)) k p) (fun x _ => (mq - x.toNat : Nat)) ?_ N _ _ ⟨0, rfl, by omega, fun i _ h _ => i1 i h, fun n hn => absurd hn (Nat.not_lt_zero n), fun p hp => i2 p (by omega)⟩ (by omega)
    rintro g2 x ν ⟨n, rfl, hn, j1, j2, j3⟩ rec2
    have e40 : ν 92 40 = b := by rw [j1 92 (by decide) (by decide) (by decide)]; exact h40
    rw [mo_personMany_ok e40 hb (show ν 97 b = (mq : Int) by rw [j1 97 (by decide) (by decide) (by decide)]; exact h97), bndO_s, Ok_ite, Ok_some]
    refine ⟨fun q2 => by rw [show mq = n by omega]; exact ⟨j1, j2, j3⟩, fun q2 => ?_⟩
    have hnm : n < mq := by omega
    obtain ⟨d1, d2⟩ := hd n hnm
    have vv := hv n hnm
    have hj := j3 (d n) (by omega)
    have hc := cnt_rg (fun n => ((d n : Nat) : Int)) n (d n)
    have ix : (8 * (n : Int) + (s : Int) - 1).toNat = 8 * n + (s - 1) := by omega
    have f136 : ν 136 = τ 136 := j1 136 (by decide) (by decide) (by decide)
    refine Ok_jq1 (fun y => y = ((v n : Nat) : Int)) (fun y hy => ?_) (fun kk hkk => ?_)
    · subst hy
      rw [Ok_chkA, Int.toNat_natCast, Ok_bnd, Ok_chkI, Ok_chkI, Ok_chkI, Ok_chkA, Ok_chkA, ix, Ok_bnd, yset_off 136 (by decide), f136, d1]
      refine ⟨by omega, by omega, by omega, by omega, by omega, by omega, ?_⟩
      generalize hν2 : yset (yset ν 131 n ((v n : Nat) : Int)) 126 n ((d n : Nat) : Int) = ν2
      have k126 : ν2 126 n = ((d n : Nat) : Int) := by rw [← hν2, yset_at]
      have k127 : ν2 127 = ν 127 := by rw [← hν2, yset_off 127 (by decide), yset_off 127 (by decide)]
      have kE : ∀ i, i ≠ 126 → i ≠ 131 → ν2 i = ν i := fun i x1 x2 => by rw [← hν2, yset_off i x1, yset_off i x2]
      rw [Ok_chkA, k126, Ok_chkA, Int.toNat_natCast, k127, Ok_chkI, Ok_chkA, Ok_bnd, Ok_chkI]
      refine ⟨by omega, by omega, by omega, by omega, by omega, rec2 _ _ ⟨n + 1, by omega, by omega, fun i x1 x2 x3 => by rw [yset_off i x2, kE i x1 x3]; exact j1 i x1 x2 x3, fun n' hn' => ?_, ?_⟩ (by omega)⟩
      · rw [yset_off 131 (by decide), yset_off 126 (by decide)]
        by_cases c : n' = n
        · rw [c, k126, ← hν2, yset_off 131 (by decide), yset_at]
          exact ⟨rfl, rfl⟩
        · rw [← hν2, yset_off 131 (by decide), yset_ne (by omega), yset_ne (by omega), yset_off 126 (by decide)]
          exact j2 n' (by omega)
      · rw [← k127]
        exact there_step (f := fun n => ((d n : Nat) : Int)) (m := n) (u := d n) rfl (by rw [k127]; exact j3)
    · rw [Ok_ite]
      refine ⟨fun c => ?_, fun c => ?_⟩
      · have ix2 : (8 * (n : Int) + (s : Int) - 2).toNat = 8 * n + (s - 2) := by omega
        rw [if_neg (by omega)] at vv
        rw [Ok_chkI, Ok_chkI, Ok_chkI, Ok_chkA, ix2, f136]
        exact ⟨by omega, by omega, by omega, by omega, hkk _ vv⟩
      · have ix2 : (5 * (b : Int) + (n : Int)).toNat = 5 * b + n := by omega
        rw [if_pos (by omega)] at vv
        rw [e40, Ok_chkI, Ok_chkI, Ok_chkA, ix2, j1 111 (by decide) (by decide) (by decide)]
        exact ⟨by omega, by omega, by omega, hkk _ vv⟩
  · rw [Ok_chkA, Ok_bnd, Ok_chkI, Int.toNat_natCast]
    refine ⟨by omega, by omega, rec _ _ ⟨m + 1, by omega, by omega, fun i hi => by rw [yset_off i hi]; exact i1 i hi, fun p hp => ?_⟩ (by omega)⟩
    by_cases c : p = m
    · rw [c, yset_at]
    · rw [yset_ne (by omega)]
      exact i2 p (by omega)
/-- the told plan, in both -/
def PL (σ τ : ySt) (T P mp mq : Nat) : Prop := PC σ P mp mq ∧ σ 0 8 = (P : Int) + 1 ∧ (∀ n, n < mq → σ (P + 1) n = σ (T + 8) n) ∧ ∀ s n, 1 ≤ s → s ≤ 8 → n < mq → τ 136 (8 * n + (s - 1)) = σ (P + 1) (5 * s + n)
theorem planned_ok {N T b mp mq md mw me L P s : Nat} {W : Nat → Int} {σ τ : ySt} (hN : 100000 ≤ N) (h : TD σ τ T b mp mq md mw me L W) (hp : PL σ τ T P mp mq) (hs : 1 ≤ s ∧ s ≤ 8) :
    Ok (mo_layPlanned N s τ) (fun τ' => (∀ i, i ≠ 126 → i ≠ 127 → i ≠ 131 → τ' i = τ i) ∧ (∀ n, n < mq → τ' 131 n = ((pv σ P (s - 1) n : Nat) : Int) ∧ τ' 126 n = ((pv σ P s n : Nat) : Int)) ∧ ∀ p : Nat, p < 6 → τ' 127 p = cnt (fun n => ((pv σ P s n : Nat) : Int)) mq p) := by
  obtain ⟨hT, h05, h40, hb, g1, g2, g3, w, wn, ft, g5, g6, g7, g8, g9, ru, hru, huu⟩ := id h
  obtain ⟨p1, p2, p3, p4⟩ := hp
  refine mo_layPlanned_ok (mp := mp) hN h40 hb g2.2.2 g2.2.1 g1.2.1 hs (fun n hn => ?_) (fun n hn => ?_)
  · obtain ⟨u1, u2⟩ := p1.2 (s - 1) n (by omega) hn
    by_cases c : s = 1
    · rw [if_pos c, ← (g8 n hn).1.1, ← p3 n hn, ← u1, c]
      congr 1
      omega
    · rw [if_neg c, ← u1, ← p4 (s - 1) n (by omega) (by omega) hn]
      rfl
  · obtain ⟨u1, u2⟩ := p1.2 s n (by omega) hn
    rw [p4 s n hs.1 hs.2 hn]
    exact ⟨u1, u2⟩
def KW (ν τ : ySt) : Prop := (∀ i, i ≠ 92 → ν i = τ i) ∧ ∀ k, (k < 68 ∨ 70 < k) → ν 92 k = τ 92 k
theorem KW_KJ {ν τ τ0 : ySt} (h : KJ τ τ0) (g : KW ν τ) : KJ ν τ0 := KJ_tr h ⟨fun i x1 _ _ _ => g.1 i x1, g.2⟩
def j3 (τ : ySt) : Int × Int × Int := (τ 92 68, τ 92 69, τ 92 70)
theorem nJ_0 {J : Int × Int × Int} {a s : Int} {f : Nat → Bool} : nJ J a s (fi f 0) = J := if_neg (fun w => w.2 rfl)
theorem nJ_no {J : Int × Int × Int} {a s : Int} {f : Nat → Bool} {x : Nat} (h : f x = false) : nJ J a s (fi f (x + 1)) = nJ J a s (fi f x) := by
  have e : fi f (x + 1) = fi f x := by
    show (if fi f x = -1 then (if f x = true then (x : Int) else -1) else fi f x) = fi f x
    rw [h]
    split
    · rename_i c
      rw [c]
      rfl
    · rfl
  rw [e]
theorem wrong_step {a s : Int} {x : Nat} {f : Nat → Bool} {J : Int × Int × Int} {κ τ : ySt} (ha : a = 1 ∨ a = 2 ∨ a = 3) (hJ : 0 ≤ J.1) (hk : KW κ τ) (e : j3 κ = nJ J a s (fi f x)) (hf : f x = true) : Ok (mo_wrongIs a s x κ) (fun κ' => KW κ' τ ∧ j3 κ' = nJ J a s (fi f (x + 1))) := by
  have e1 : κ 92 68 = (nJ J a s (fi f x)).1 := by rw [← e]; rfl
  have e0 : 0 ≤ (nJ J a s (fi f x)).1 := by
    unfold nJ
    split
    · show 0 ≤ a
      omega
    · exact hJ
  rw [nJ_step (show a ≠ 0 by omega)]
  unfold mo_wrongIs
  rw [Ok_ite, Ok_some]
  refine ⟨fun c => ?_, fun c => ⟨hk, by rw [if_neg (fun w => c (by omega)), e]⟩⟩
  rw [Ok_bnd, Ok_bnd, Ok_bnd, Ok_some, if_pos ⟨hf, by omega⟩]
  refine ⟨⟨fun i hi => by rw [yset_off i hi, yset_off i hi, yset_off i hi]; exact hk.1 i hi, fun k hk' => by rw [yset_ne (by omega), yset_ne (by omega), yset_ne (by omega)]; exact hk.2 k hk'⟩, ?_⟩
  unfold j3
  rw [yset_ne (by omega), yset_ne (by omega), yset_at, yset_ne (by omega), yset_at, yset_at]
theorem nJ_pos {J : Int × Int × Int} {a s z : Int} (ha : 0 ≤ a) (h : 0 ≤ J.1) : 0 ≤ (nJ J a s z).1 := by
  unfold nJ
  split
  · exact ha
  · exact h
theorem jd_pos {σ : ySt} {T L md P mp mq me : Nat} : ∀ s : Nat, 0 ≤ (jd σ T L md P mp mq me s).1
  | 0 => Int.le_refl 0
  | s + 1 => nJ_pos (by decide) (nJ_pos (by decide) (nJ_pos (by decide) (jd_pos s)))
theorem done_ok {T b mp mq md mw me L P k s : Nat} {W : Nat → Int} {σ τ : ySt} (h : TD σ τ T b mp mq md mw me L W) (h49 : τ 92 49 = 1) (hv : ∀ n, n < mq → τ 126 n = ((pv σ P s n : Nat) : Int)) (hp : PC σ P mp mq) (hs : s ≤ 8) (hk : k < me) : mo_isDone k s τ = some (if σ (T + 13) k = s ∧ σ (P + 1) (5 * s + (σ (T + 11) k).toNat) = σ (T + 12) k then 1 else 0) := by
  obtain ⟨hT, h05, h40, hb, g1, g2, g3, w, wn, ft, g5, g6, g7, g8, g9, ru, hru, huu⟩ := id h
  have e : mo_isDone k s (yset τ 92 50 0) = mo_isDone k s τ := by
    unfold mo_isDone
    rw [yset_ne (j := 40) (by omega), yset_ne (j := 49) (by omega), yset_off 116 (by decide), yset_off 114 (by decide), yset_off 126 (by decide), yset_off 115 (by decide)]
  have wn1 : WN σ (yset τ 92 50 0) T b mp mq me 0 1 (fun n => ((pv σ P s n : Nat) : Int)) := by
    refine ⟨by rw [yset_ne (by omega)]; exact h40, hb, by rw [yset_off 99 (by decide)]; exact g5.2.2.1, g5.2.1, by rw [yset_off 97 (by decide)]; exact g2.2.2, g2.2.1, by rw [yset_ne (by omega)]; exact h49, by omega, by rw [yset_at], by omega, ?_, ?_, ?_⟩
    · rw [yset_off 114 (by decide), yset_off 115 (by decide), yset_off 116 (by decide), yset_off 117 (by decide)]
      exact g5.2.2.2
    · rw [yset_off 111 (by decide), yset_off 112 (by decide)]
      exact g8
    · rw [yset_off 126 (by decide)]
      exact hv
  have hw : (σ (T + 11) k).toNat < mq := by
    have := (g5.2.2.2 k hk).1
    omega
  rw [← e, mo_isDone_ok (s := (s : Int)) wn1 hk, (hp.2 s _ hs hw).1]
  unfold eX eD eW
  rw [Int.mul_one]
  by_cases c1 : σ (T + 13) k = s <;> by_cases c2 : ((pv σ P s (σ (T + 11) k).toNat : Nat) : Int) = σ (T + 12) k <;> simp [c1, c2]
theorem mo_judgePlan_ok {N T b mp mq md mw me L S P : Nat} {W : Nat → Int} {σ τ : ySt} (hN : 100000 ≤ N) (h : TD σ τ T b mp mq md mw me L W) (hS : σ T 17 = S) (hp : PL σ τ T P mp mq) :
    Ok (mo_judgePlan N τ) (fun τ' => FrQ τ' τ ∧ τ' 92 50 = τ 92 50 ∧ j3 τ' = jd σ T L md P mp mq me S) := by
  obtain ⟨hT, h05, h40, hb, g1, g2, g3, w, wn, ft, g5, g6, g7, g8, g9, ru, hru, huu⟩ := id h
  have hmp := g1.2.1
  have hmq := g2.2.1
  have hme := g5.2.1
  have hS8 : 1 ≤ S ∧ S ≤ 8 := by
    have := g6.2
    omega
  unfold mo_judgePlan
  rw [bndO_2, Ok_bndO]
  refine (plain_lay hN h).mono ?_
  rintro τ1 ⟨f1, ly, k1⟩
  rw [Ok_bnd, Ok_bnd, Ok_bnd]
  have KF : ∀ ν, KJ ν τ1 → TD σ ν T b mp mq md mw me L W ∧ LY σ ν T b mp md L ∧ PL σ ν T P mp mq := fun ν hν => ⟨TD_FrQ h (FrQ_tr f1 (KJ_FrQ hν)), KJ_LY hν ly, hp.1, hp.2.1, hp.2.2.1, by rw [(FrQ_tr f1 (KJ_FrQ hν)).1 136 (by decide) (by omega)]; exact hp.2.2.2⟩
  have fin : ∀ ν, KJ ν τ1 → j3 ν = jd σ T L md P mp mq me S → FrQ ν τ ∧ ν 92 50 = τ 92 50 ∧ j3 ν = jd σ T L md P mp mq me S := fun ν kj e => ⟨FrQ_tr f1 (KJ_FrQ kj), by rw [kj.2 50 (by omega)]; exact k1 50 (by omega), e⟩
  refine Ok_loopS1 (fun y ν => ∃ k : Nat, y = (k : Int) + 1 ∧ k ≤ S ∧ KJ ν τ1 ∧ j3 ν = jd σ T L md P mp mq me k) (fun y _ => (S + 1 - y.toNat : Nat)) ?_ N _ _ ⟨0, rfl, by omega, ⟨fun i x1 _ _ _ => by rw [yset_off i x1, yset_off i x1, yset_off i x1], fun k hk => by rw [yset_ne (by omega), yset_ne (by omega), yset_ne (by omega)]⟩, by unfold j3; rw [yset_ne (by omega), yset_ne (by omega), yset_at, yset_ne (by omega), yset_at, yset_at]; rfl⟩ (by omega)
  rintro g y ν ⟨k, rfl, hk, kj, i2⟩ rec
  obtain ⟨td, lyν, plν⟩ := KF ν kj
  have i21 : ν 92 68 = (jd σ T L md P mp mq me k).1 := by rw [← i2]; rfl
  have e48 : ν 92 48 = (S : Int) := by
    rw [lyν.1.2.1]
    have := td.2.2.2.2.2.2.2.2.2.2.2.1.2.1
    rw [← this]
    exact hS
  rw [e48, Ok_ite, Ok_some]
  refine ⟨fun q => fin ν kj (by rw [i2, show S = k by omega]), fun q => ?_⟩
  rw [Ok_ite, Ok_some]
  refine ⟨fun c => fin ν kj (by rw [i2, jd_stay (by rw [← i21]; exact c) S hk]), fun c => ?_⟩
  have hkS : k + 1 ≤ S := by omega
  have hJ0 := jd_pos (σ := σ) (T := T) (L := L) (md := md) (P := P) (mp := mp) (mq := mq) (me := me) k
  rw [show (k : Int) + 1 = ((k + 1 : Nat) : Int) from rfl, Ok_bndO]
  refine (planned_ok (s := k + 1) hN td plν (by omega)).mono ?_
  rintro ν1 ⟨a1, a2, a3⟩
  have a3' : ∀ p : Nat, p < 6 → ν1 127 p = cnt (fun n => σ (P + 1) (5 * (k + 1) + n)) mq p := fun p hp' => by
    rw [a3 p hp']
    exact cnt_congr mq p (fun n hn => (hp.1.2 (k + 1) n (by omega) hn).1.symm)
  have w0 : KJ ν1 τ1 := KJ_tr kj ⟨fun i _ x2 x3 x4 => a1 i x2 x3 x4, fun k _ => by rw [a1 92 (by decide) (by decide) (by decide)]⟩
  have n1 : j3 ν1 = jd σ T L md P mp mq me k := by unfold j3; rw [a1 92 (by decide) (by decide) (by decide)]; exact i2
  obtain ⟨J0, hJ0e⟩ : ∃ J0, J0 = jd σ T L md P mp mq me k := ⟨_, rfl⟩
  rw [← hJ0e] at n1 hJ0
  refine Ok_loopS2 (fun y z κ => y = ((k + 1 : Nat) : Int) ∧ ∃ x : Nat, z = x ∧ x ≤ mq ∧ KW κ ν1 ∧ j3 κ = nJ J0 1 ((k + 1 : Nat) : Int) (fi (ltB σ T P (k + 1)) x)) (fun _ z _ => (mq - z.toNat : Nat)) ?_ N _ _ _ ⟨rfl, 0, rfl, by omega, ⟨fun _ _ => rfl, fun _ _ => rfl⟩, by rw [nJ_0]; exact n1⟩ (by omega)
  rintro g1 y z κ ⟨rfl, x, rfl, hx, b1, b2⟩ rec1
  obtain ⟨tdκ, lyκ, plκ⟩ := KF κ (KW_KJ w0 b1)
  rw [mo_personMany_ok tdκ.2.2.1 hb tdκ.2.2.2.2.2.1.2.2, bndO_s, Ok_ite]
  refine ⟨fun q1 => ?_, fun q1 => ?_⟩
  · rw [show x = mq by omega] at b2
    obtain ⟨J1, hJ1e⟩ : ∃ J1, J1 = nJ J0 1 ((k + 1 : Nat) : Int) (fi (ltB σ T P (k + 1)) mq) := ⟨_, rfl⟩
    have hJ1 : 0 ≤ J1.1 := by rw [hJ1e]; exact nJ_pos (by decide) hJ0
    rw [← hJ1e] at b2
    refine Ok_loopS2 (fun y z κ => y = ((k + 1 : Nat) : Int) ∧ ∃ x : Nat, z = x ∧ x ≤ mp ∧ KW κ ν1 ∧ j3 κ = nJ J1 2 ((k + 1 : Nat) : Int) (fi (wrB σ T L md P mq (k + 1)) x)) (fun _ z _ => (mp - z.toNat : Nat)) ?_ N _ _ _ ⟨rfl, 0, rfl, by omega, b1, by rw [nJ_0]; exact b2⟩ (by omega)
    rintro g2 y z κ2 ⟨rfl, x2, rfl, hx2, c1, c2⟩ rec2
    obtain ⟨td2, ly2, pl2⟩ := KF κ2 (KW_KJ w0 c1)
    rw [mo_placeMany_ok td2.2.2.1 hb td2.2.2.2.2.1.2.2, bndO_s, Ok_ite]
    refine ⟨fun q2 => ?_, fun q2 => ?_⟩
    · rw [show x2 = mp by omega] at c2
      obtain ⟨J2, hJ2e⟩ : ∃ J2, J2 = nJ J1 2 ((k + 1 : Nat) : Int) (fi (wrB σ T L md P mq (k + 1)) mp) := ⟨_, rfl⟩
      have hJ2 : 0 ≤ J2.1 := by rw [hJ2e]; exact nJ_pos (by decide) hJ1
      rw [← hJ2e] at c2
      refine Ok_loopS2 (fun y z κ => y = ((k + 1 : Nat) : Int) ∧ ∃ x : Nat, z = x ∧ x ≤ me ∧ KW κ ν1 ∧ j3 κ = nJ J2 3 ((k + 1 : Nat) : Int) (fi (unB σ T P (k + 1)) x)) (fun _ z _ => (me - z.toNat : Nat)) ?_ N _ _ _ ⟨rfl, 0, rfl, by omega, c1, by rw [nJ_0]; exact c2⟩ (by omega)
      rintro g3 y z κ3 ⟨rfl, x3, rfl, hx3, d1, d2⟩ rec3
      obtain ⟨td3, ly3, pl3⟩ := KF κ3 (KW_KJ w0 d1)
      obtain ⟨_, _, t40, _, _, _, _, _, _, _, t5, _⟩ := id td3
      rw [t40, Ok_chkA, Int.toNat_natCast, t5.2.2.1, Ok_ite]
      refine ⟨by omega, fun q3 => ?_, fun q3 => ?_⟩
      · rw [show x3 = me by omega] at d2
        rw [Ok_chkI]
        refine ⟨by omega, rec _ _ ⟨k + 1, rfl, hkS, KW_KJ w0 d1, ?_⟩ (by omega)⟩
        rw [d2, hJ2e, hJ1e, hJ0e]
        rfl
      · have hx3m : x3 < me := by omega
        obtain ⟨_, _, ⟨t13, _⟩, _⟩ := t5.2.2.2 x3 hx3m
        have ix : (8 * (b : Int) + (x3 : Int)).toNat = 8 * b + x3 := by omega
        rw [Ok_chkI, Ok_chkI, Ok_chkA, ix, ← t13]
        refine ⟨by omega, by omega, by omega, Ok_jq1 (fun κ' => KW κ' ν1 ∧ j3 κ' = nJ J2 3 ((k + 1 : Nat) : Int) (fi (unB σ T P (k + 1)) (x3 + 1))) (fun κ' hκ' => ?_) (fun kk hkk => ?_)⟩
        · rw [Ok_chkI]
          exact ⟨by omega, rec3 _ _ _ ⟨rfl, x3 + 1, by omega, by omega, hκ'.1, hκ'.2⟩ (by omega)⟩
        · rw [Ok_ite]
          refine ⟨fun c3 => hkk _ ⟨d1, ?_⟩, fun c3 => ?_⟩
          · rw [nJ_no (by unfold unB; rw [decide_eq_false c3]; rfl)]
            exact d2
          · have c3' : σ (T + 13) x3 = ((k + 1 : Nat) : Int) := Classical.byContradiction c3
            rw [done_ok (s := k + 1) td3 ly3.1.2.2.1 (fun n hn => by rw [d1.1 126 (by decide)]; exact (a2 n hn).2) hp.1 (by omega) hx3m, bndO_s]
            by_cases c4 : σ (P + 1) (5 * (k + 1) + (σ (T + 11) x3).toNat) = σ (T + 12) x3
            · have e5 : (if σ (T + 13) x3 = ((k + 1 : Nat) : Int) ∧ σ (P + 1) (5 * (k + 1) + (σ (T + 11) x3).toNat) = σ (T + 12) x3 then (1 : Int) else 0) = 1 := if_pos ⟨c3', c4⟩
              rw [e5, if_pos (show ¬ (1 : Int) = 0 by decide)]
              refine hkk _ ⟨d1, ?_⟩
              rw [nJ_no (by unfold unB; rw [decide_eq_true c4, decide_eq_true c3']; rfl)]
              exact d2
            · have e5 : (if σ (T + 13) x3 = ((k + 1 : Nat) : Int) ∧ σ (P + 1) (5 * (k + 1) + (σ (T + 11) x3).toNat) = σ (T + 12) x3 then (1 : Int) else 0) = 0 := if_neg (fun w => c4 w.2)
              rw [e5, if_neg (show ¬ ¬ (0 : Int) = 0 from fun w => w rfl), Ok_bndO]
              refine (wrong_step (Or.inr (Or.inr rfl)) hJ2 d1 d2 (by unfold unB; rw [decide_eq_false c4, decide_eq_true c3']; rfl)).mono ?_
              rintro κ' hκ'
              exact hkk _ hκ'
    · have hx2m : x2 < mp := by omega
      have hc := cnt_rg (fun n => σ (P + 1) (5 * (k + 1) + n)) mq x2
      obtain ⟨zz, hz⟩ : ∃ zz : Nat, cnt (fun n => σ (P + 1) (5 * (k + 1) + n)) mq x2 = zz := ⟨(cnt (fun n => σ (P + 1) (5 * (k + 1) + n)) mq x2).toNat, by omega⟩
      have e127 : κ2 127 x2 = (zz : Int) := by rw [c1.1 127 (by decide), a3' x2 (by omega), hz]
      have ix : (48 * (((k + 1 : Nat) : Int) - 1) + 8 * (x2 : Int) + (zz : Int)).toNat = 48 * ((k + 1) - 1) + 8 * x2 + zz := by omega
      rw [Ok_chkI, Ok_chkI, Ok_chkI, Ok_chkI, Ok_chkA, Int.toNat_natCast, e127, Ok_chkI, Ok_chkA, ix, ly2.2.2 (k + 1) x2 zz (by omega) (by omega) hx2m (by omega)]
      refine ⟨by omega, by omega, by omega, by omega, by omega, by omega, by omega, Ok_jq1 (fun κ' => KW κ' ν1 ∧ j3 κ' = nJ J1 2 ((k + 1 : Nat) : Int) (fi (wrB σ T L md P mq (k + 1)) (x2 + 1))) (fun κ' hκ' => ?_) (fun kk hkk => ?_)⟩
      · rw [Ok_chkI]
        exact ⟨by omega, rec2 _ _ _ ⟨rfl, x2 + 1, by omega, by omega, hκ'.1, hκ'.2⟩ (by omega)⟩
      · by_cases c4 : rgt σ T L md x2 zz ((k + 1 : Nat) : Int) = 0
        · rw [if_pos c4, if_neg (fun w => w rfl), Ok_bndO]
          refine (wrong_step (Or.inr (Or.inl rfl)) hJ1 c1 c2 (by unfold wrB; rw [hz]; exact decide_eq_true c4)).mono ?_
          rintro κ' hκ'
          exact hkk _ hκ'
        · rw [if_neg c4, if_pos (show ¬ (1 : Int) = 0 by decide)]
          refine hkk _ ⟨c1, ?_⟩
          rw [nJ_no (by unfold wrB; rw [hz]; exact decide_eq_false c4)]
          exact c2
  · have hxm : x < mq := by omega
    obtain ⟨u1, u2⟩ := hp.1.2 k x (by omega) hxm
    obtain ⟨v1, v2⟩ := hp.1.2 (k + 1) x (by omega) hxm
    rw [Ok_chkA, Ok_chkA, Int.toNat_natCast, b1.1 131 (by decide), b1.1 126 (by decide), (a2 x hxm).1, (a2 x hxm).2, show k + 1 - 1 = k from rfl, mo_gets_ok tdκ lyκ u2 v2, bndO_s]
    refine ⟨by omega, by omega, Ok_jq1 (fun κ' => KW κ' ν1 ∧ j3 κ' = nJ J0 1 ((k + 1 : Nat) : Int) (fi (ltB σ T P (k + 1)) (x + 1))) (fun κ' hκ' => ?_) (fun kk hkk => ?_)⟩
    · rw [Ok_chkI]
      exact ⟨by omega, rec1 _ _ _ ⟨rfl, x + 1, by omega, by omega, hκ'.1, hκ'.2⟩ (by omega)⟩
    · by_cases c4 : σ (T + 15) (6 * pv σ P k x + pv σ P (k + 1) x) > σ T 16
      · rw [if_pos c4, if_neg (fun w => w rfl), Ok_bndO]
        refine (wrong_step (Or.inl rfl) hJ0 b1 b2 (decide_eq_true c4)).mono ?_
        rintro κ' hκ'
        exact hkk _ hκ'
      · rw [if_neg c4, if_pos (show ¬ (1 : Int) = 0 by decide)]
        refine hkk _ ⟨b1, ?_⟩
        rw [nJ_no (show ltB σ T P (k + 1) x = false from decide_eq_false c4)]
        exact b2
theorem chkP_pos {α : Type} {z : Int} {P : Nat} {k : Nat → Option α} (hP : P = 54 ∨ P = 56) (h : z = (P : Int) + 1) : chkP z k = k P := by
  unfold chkP
  rw [if_pos (by omega), show z.toNat - 1 = P from by omega]
theorem C_judge {N T b mp mq md mw me L P : Nat} {W : Nat → Int} {σ τ : ySt} (hN : 100000 ≤ N) (h : TD σ τ T b mp mq md mw me L W) (hTW : TW σ T mp mq me) (hp : PL σ τ T P mp mq) (a : Int) :
    Ok (cE_judge N a σ) (fun r => Ok (mo_judge N a τ) (fun r' => r'.1 = r.1 ∧ FrQ r'.2 τ ∧ r'.2 92 50 = τ 92 50 ∧ (∀ i, i ≠ P → r.2 i = σ i))) := by
  obtain ⟨hT, h05, h40, hb, g1, g2, g3, w, wn, ft, g5, g6, g7, g8, g9, ru, hru, huu⟩ := id h
  have hP := hp.1.1
  obtain ⟨S, hS⟩ : ∃ S : Nat, σ T 17 = S := ⟨(σ T 17).toNat, by have := g6.2; omega⟩
  have none_ : Ok (some ((-1 : Int), σ)) (fun r => Ok (some ((-1 : Int), τ)) (fun r' => r'.1 = r.1 ∧ FrQ r'.2 τ ∧ r'.2 92 50 = τ 92 50 ∧ (∀ i, i ≠ P → r.2 i = σ i))) := by
    rw [Ok_some, Ok_some]
    exact ⟨rfl, FrQ_rfl τ, rfl, fun _ _ => rfl⟩
  unfold cE_judge mo_judge
  rw [mo_isIn_eq, bndO_s]
  by_cases c : 0 ≤ a ∧ a ≤ 2
  · rw [if_neg (show ¬ a < 0 by omega), if_pos c.2, if_pos c, if_pos (show ¬ (1 : Int) = 0 by decide), chkP_pos hP hp.2.1, chkT_pos hT h05, Ok_bndO]
    refine (judgeIn_ok hN hTW ft hS hp.1).mono ?_
    rintro σ1 ⟨f1, e1⟩
    have e08 : σ1 0 8 = (P : Int) + 1 := by rw [f1 0 (by omega)]; exact hp.2.1
    rw [chkP_pos hP e08, chkP_pos hP e08, chkP_pos hP e08, Ok_swap, Ok_bndO]
    refine (mo_judgePlan_ok hN h hS hp).mono ?_
    rintro τ1 ⟨k1, k2, k3⟩
    have e : j3 τ1 = (σ1 P 1, σ1 P 2, σ1 P 3) := by rw [k3, e1]
    have x1 : τ1 92 68 = σ1 P 1 := congrArg (fun q => q.1) e
    have x2 : τ1 92 69 = σ1 P 2 := congrArg (fun q => q.2.1) e
    have x3 : τ1 92 70 = σ1 P 3 := congrArg (fun q => q.2.2) e
    rw [x1, x2, x3, Ok_swap]
    by_cases c0 : a = 0
    · rw [if_neg (fun w => w c0), if_neg (fun w => w c0), Ok_some, Ok_some]
      exact ⟨rfl, k1, k2, f1⟩
    · rw [if_pos c0, if_pos c0]
      by_cases c1 : a = 1
      · rw [if_neg (fun w => w c1), if_neg (fun w => w c1), Ok_some, Ok_some]
        exact ⟨rfl, k1, k2, f1⟩
      · rw [if_pos c1, if_pos c1, Ok_some, Ok_some]
        exact ⟨rfl, k1, k2, f1⟩
  · rw [if_neg c, if_neg (show ¬ ¬ (0 : Int) = 0 from fun w => w rfl)]
    by_cases c1 : a < 0
    · rw [if_pos c1]
      exact none_
    · rw [if_neg c1, if_neg (show ¬ a ≤ 2 by omega)]
      exact none_
