/-! both find the same best -/
theorem stps_congr {m K : Nat} {w w' : Nat → Nat → Option Int} {f f' : Nat → Option Int} (hm : 0 < K → 0 < m) (hw : ∀ u v, u < m → v < m → w u v = w' u v) (hf : ∀ y, y < m ^ K → f y = f' y) : ∀ (k x : Nat), k ≤ K → x < m ^ K → stps m K (fun _ => w) f k x = stps m K (fun _ => w') f' k x
  | 0, x, _, hx => hf x hx
  | k + 1, x, hk, hx => by
    have hm0 := hm (by omega)
    show om m _ = om m _
    refine om_congr m (fun q hq => ?_)
    show oadd (w (dg m K x k) q) _ = oadd (w' (dg m K x k) q) _
    rw [hw _ _ (dg_lt hm0) hq, stps_congr hm hw hf k _ (by omega) (sdx_lt hm0 hq)]
theorem VV_congr {m K S : Nat} {wk wk' : Nat → Nat → Option Int} {law law' : Nat → Nat → Bool} {g g' : Nat → Nat → Option Int} (hm : 0 < K → 0 < m) (hw : ∀ u v, u < m → v < m → wk u v = wk' u v) (hl : ∀ s x, 1 ≤ s → s ≤ S → x < m ^ K → law s x = law' s x) (hg : ∀ s x, 1 ≤ s → s ≤ S → x < m ^ K → g s x = g' s x) : ∀ (j x : Nat), j ≤ S → x < m ^ K → VV m K S wk law g j x = VV m K S wk' law' g' j x
  | 0, _, _, _ => rfl
  | j + 1, x, hj, hx => by
    show stps m K (fun _ => wk) _ K x = stps m K (fun _ => wk') _ K x
    refine stps_congr hm hw (fun y hy => ?_) K x (Nat.le_refl K) hx
    rw [hl (S - j) y (by omega) (by omega) hy, hg (S - j) y (by omega) (by omega) hy, VV_congr hm hw hl hg j y (by omega) hy]
theorem law_eq {σ : ySt} {T L md mp mq : Nat} {fs fp : Int} (s x : Nat) : lawC mp mq (fun s p h => decide (opn σ T L md fs fp s p h ≠ 0)) s x = lawB σ T L md mp mq fs fp s x := by
  unfold lawC lawB cn
  congr 1
  congr 1
  funext p
  show (!(decide (opn σ T L md fs fp s p (cnt (fun n => ((dg mp mq x n : Nat) : Int)) mq p).toNat ≠ 0))) = decide (opn σ T L md fs fp s p (cnt (fun n => ((dg mp mq x n : Nat) : Int)) mq p).toNat = 0)
  generalize opn σ T L md fs fp s p (cnt (fun n => ((dg mp mq x n : Nat) : Int)) mq p).toNat = z
  by_cases c : z = 0
  · simp [c]
  · simp [c]
theorem wkM_congr {what hr : Int} {D M : Nat → Nat → Int} {u v : Nat} (h : D u v = M u v) : wkM what hr D u v = wkM what hr M u v := by
  unfold wkM
  rw [h]
def rZ (o : Option Int) : Int := match o with
  | none => -1000000
  | some a => a
theorem rpM_Z {x : Int} {o : Option Int} (h : rpM x o) : x = rZ o := by
  rcases h with ⟨e, h⟩ | ⟨a, e, h⟩
  · rw [e, h]
    rfl
  · rw [e, h]
    rfl
/-- the best from home, as a number -/
def bestZ (σ : ySt) (T mp mq me md L S : Nat) (what t hr fs fp : Int) (Mc : Nat → Nat → Int) : Int :=
  if decide (0 < what) && late σ T me S t then -1000000 else rZ (VV mp mq S (wkM what hr Mc) (lawB σ T L md mp mq fs fp) (fun s y => osum (fun n => gnV σ T me what t s n (dg mp mq y n)) 0 mq) S (enc mp (homeV σ T) mq))
/-- the reference's table -/
def MB (σ τ : ySt) (T b mp mq me md L S : Nat) (what t hr fs fp : Int) (Mc : Nat → Nat → Int) : Prop :=
  ∃ Mn : Nat → Nat → Int, (∀ u v, u < mp → v < mp → Mn u v = Mc u v) ∧ QF σ τ T b mp mq me md L S what t hr fs fp Mn ∧ ∀ j x, j ≤ S → x < mp ^ mq → rpM (τ 128 (7776 * (S - j) + x)) (VV mp mq S (wkM what hr Mc) (lawB σ T L md mp mq fs fp) (fun s y => osum (fun n => gnV σ T me what t s n (dg mp mq y n)) 0 mq) j x) ∧ bO (13000 * (j : Int)) (VV mp mq S (wkM what hr Mc) (lawB σ T L md mp mq fs fp) (fun s y => osum (fun n => gnV σ T me what t s n (dg mp mq y n)) 0 mq) j x)
theorem find_Z {N T b mp mq md mw me L S t hr : Nat} {W : Nat → Int} {σ τ : ySt} {what fs fp : Int} {Mc : Nat → Nat → Int} (hN : 100000 ≤ N) (h : TD σ τ T b mp mq md mw me L W) (hTW : TW σ T mp mq me) (hwh : 0 ≤ what ∧ what ≤ 2) (h47 : τ 92 47 = (hr : Int)) (hhr : hr ≤ 999) (h48 : τ 92 48 = (S : Int)) (hS : 1 ≤ S ∧ S ≤ 8) (h49 : τ 92 49 = (t : Int)) (ht : 1 ≤ t ∧ t ≤ 8) (h51 : τ 92 51 = fs) (h52 : τ 92 52 = fp) (hA : τ 92 53 < 0 ∨ ∃ A B M : Nat, τ 92 53 = A ∧ τ 92 54 = B ∧ τ 92 55 = M ∧ A < 6 ∧ B < 6 ∧ A ≠ B ∧ M ≤ 1000000)
    (hMc : ∀ D : Nat → Nat → Int, MT 6 (Vq τ b) D → ∀ u v, u < mp → v < mp → D u v = Mc u v) :
    Ok (mo_findBest N what τ) (fun r' => FrQ r'.2 τ ∧ (∀ k, k ≠ 50 → r'.2 92 k = τ 92 k) ∧ r'.1 = bestZ σ T mp mq me md L S what t hr fs fp Mc ∧ (¬ (decide (0 < what) && late σ T me S t) = true → MB σ r'.2 T b mp mq me md L S what t hr fs fp Mc)) := by
  obtain ⟨hT, h1, hm6, h3, hq5, hm, h14, hme, he, hh, h16, h17, h15⟩ := id hTW
  refine (mo_findBest_ok hN h hwh h47 (by omega) h48 hS h49 (by omega) h51 h52 hA).mono ?_
  rintro ⟨r', τ'⟩ ⟨f1, k1, Mn, hMT, hR⟩
  dsimp only at f1 k1 hR ⊢
  have hM := hMc Mn hMT
  unfold bestZ
  by_cases lt : (decide (0 < what) && late σ T me S t) = true
  · rw [if_pos lt] at hR
    rw [if_pos lt]
    exact ⟨f1, k1, hR, fun w => absurd lt w⟩
  · rw [if_neg lt] at hR
    rw [if_neg lt]
    obtain ⟨qf, cm, hr'⟩ := hR
    have hE : ∀ k, k < me → eW σ T k < mq := fun k hk => by
      have := (he k hk).1
      unfold eW
      omega
    have hVV : ∀ j x, j ≤ S → x < mp ^ mq → VV mp mq S (wkM what hr Mn) (lawB σ T L md mp mq fs fp) (fun s y => wnV σ T me mq what t s (fun n => ((dg mp mq y n : Nat) : Int))) j x = VV mp mq S (wkM what hr Mc) (lawB σ T L md mp mq fs fp) (fun s y => osum (fun n => gnV σ T me what t s n (dg mp mq y n)) 0 mq) j x := fun j x hj hx => VV_congr hm (fun u v hu hv => wkM_congr (hM u v hu hv)) (fun _ _ _ _ _ => rfl) (fun s y _ _ _ => (worth_split hwh hE).symm) j x hj hx
    have hv : ∀ n, n < mq → homeV σ T n < mp := fun n hn => by
      have := (hh n hn).1
      unfold homeV
      omega
    have hx0 : enc mp (homeV σ T) mq < mp ^ mq := enc_lt mq hv
    rw [hVV S _ (Nat.le_refl S) hx0] at hr'
    refine ⟨f1, k1, rpM_Z hr', fun _ => ⟨Mn, hM, qf, fun j x hj hx => ?_⟩⟩
    have := cm (S - j) (by omega) (by omega) x hx
    rw [show S - (S - j) = j from by omega, hVV j x hj hx] at this
    exact this
/-- the class's table -/
def CB (r : ySt) (σ : ySt) (T mp mq me md L S : Nat) (what t hr fs fp : Int) (Mc : Nat → Nat → Int) : Prop :=
  (∀ x, x < mp ^ mq → rpM (r 60 x) (tbl mp mq S (wkM what hr Mc) (lawB σ T L md mp mq fs fp) (fun s n p => gnV σ T me what t s n p) 1 x)) ∧ ∀ x, x < mp ^ mq → ∃ B : Nat, r 61 x = B ∧ B < 512 ∧ ∀ s, 1 ≤ s → s ≤ 8 → Nat.testBit B s = lawB σ T L md mp mq fs fp s x
theorem worth_Z {N T b mp mq md mw me L S t hr : Nat} {W : Nat → Int} {σ σ1 τ : ySt} {what fs fp : Int} {Mc : Nat → Nat → Int} (hN : 100000 ≤ N) (hTW : TW σ T mp mq me) (hS : 1 ≤ S ∧ S ≤ 8) (hwh : 0 ≤ what ∧ what ≤ 2)
    (hbd : ¬ (decide (0 < what) && late σ T me S t) = true → MB σ τ T b mp mq me md L S what t hr fs fp Mc) (fr : σ1 (T + 8) = σ (T + 8)) (hd : DS σ1 T mp mq) (hg : DG σ1 mp mq S (wkM what hr Mc) (fun s n p => gnV σ T me what t s n p)) (hb : BT σ1 mp (fun s p h => decide (opn σ T L md fs fp s p h ≠ 0))) (hf : σ1 78 2 = if decide (what ≠ 0) && late σ T me S t then 0 else 1) :
    Ok (cDs_worthOf N σ1) (fun r => r.1 = bestZ σ T mp mq me md L S what t hr fs fp Mc ∧ (∀ i, i ≠ 60 → i ≠ 61 → i ≠ 62 → i ≠ 63 → i ≠ 64 → r.2 i = σ1 i) ∧ (¬ (decide (0 < what) && late σ T me S t) = true → CB r.2 σ T mp mq me md L S what t hr fs fp Mc)) := by
  obtain ⟨hT, h1, hm6, h3, hq5, hm, h14, hme, he, hh, h16, h17, h15⟩ := id hTW
  have wn : decide (what ≠ 0) = decide (0 < what) := by
    by_cases c : what = 0
    · rw [c]
      rfl
    · rw [decide_eq_true c, decide_eq_true (by omega)]
  rw [wn] at hf
  unfold bestZ
  by_cases lt : (decide (0 < what) && late σ T me S t) = true
  · rw [if_pos lt] at hf
    rw [if_pos lt]
    unfold cDs_worthOf
    rw [if_neg (fun w => w hf), Ok_some]
    exact ⟨rfl, fun _ _ _ _ _ _ => rfl, fun w => absurd lt w⟩
  · rw [if_neg lt] at hf
    rw [if_neg lt]
    obtain ⟨Mn, _, _, hbo⟩ := hbd lt
    have hlaw : lawC mp mq (fun s p h => decide (opn σ T L md fs fp s p h ≠ 0)) = lawB σ T L md mp mq fs fp := by
      funext s x
      exact law_eq s x
    have hv : ∀ n, n < mq → σ1 (T + 8) n = ((homeV σ T n : Nat) : Int) ∧ homeV σ T n < mp := fun n hn => by
      have := (hh n hn).1
      rw [fr]
      unfold homeV
      omega
    have bnd' : ∀ j, j ≤ S → ∀ x, x < mp ^ mq → bO (13000 * (j : Int)) (VV mp mq S (wkM what hr Mc) (lawC mp mq (fun s p h => decide (opn σ T L md fs fp s p h ≠ 0))) (fun s y => osum (fun n => gnV σ T me what t s n (dg mp mq y n)) 0 mq) j x) := fun j hj x hx => by
      rw [hlaw]
      exact (hbo j x hj hx).2
    refine (worthOf_ok hN hd hg hb hf hv bnd').mono ?_
    rintro ⟨r, σ2⟩ ⟨g1, g2, g3⟩
    dsimp only at g1 g2 g3 ⊢
    rw [hlaw] at g2 g3
    exact ⟨rpM_Z g3, g1, fun _ => g2⟩
