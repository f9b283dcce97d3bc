/-! the rule: what stands on both sides while it is read -/
theorem bhE_op {N n p s : Nat} {r : Int} {ρ : ySt} {t : Nat → Int} (hN : 100000 ≤ N) (h : TM ρ t n p) (g : FM ρ 0 (-1)) (h44 : ρ 92 44 = s) (hs : s < 90) (hr : rk (tkK t n p) = r) (h1 : 1 ≤ r) :
    Ok (bhE N r ρ) (fun q => q.1 = 1 ∧ TM q.2 t n (tkE t n p) ∧ FM q.2 0 (-1) ∧ eqM q.2 (yset (yset (yset ρ 121 s r) 122 s (opc (tkK t n p))) 92 44 (s + 1))) := by
  have k1 := @rk_1 (tkK t n p)
  have k2 := @rk_2 (tkK t n p)
  unfold bhE
  rw [Ok_ite]
  refine ⟨fun q => by omega, fun _ => ?_⟩
  refine Ok_jq1 (fun y => y = opc (tkK t n p)) (fun y hy => ?_) (fun x hx => ?_)
  · rw [mo_pushE_eq h44 hs, bndO_s, hy, Ok_bndO]
    refine (TM_go hN (TM_set (TM_set (TM_set h (by omega) (by decide)) (by omega) (by decide)) (by omega) (by decide))).mono ?_
    rintro τ1 ⟨d1, d2, d3, d4⟩
    rw [Ok_some]
    refine ⟨rfl, d2, ⟨?_, ?_⟩, eqM_of d1⟩
    · dsimp only
      rw [d3, yset_ne (by omega), yset_ne (by omega), yset_ne (by omega)]; exact g.1
    · dsimp only
      rw [d4, yset_ne (by omega), yset_ne (by omega), yset_ne (by omega)]; exact g.2
  · rw [Ok_ite]
    refine ⟨fun q2 => ?_, fun q2 => hx _ ?_⟩
    · rw [Ok_ite]
      refine ⟨fun q1 => ?_, fun q1 => hx _ ?_⟩
      · have k3 : tkK t n p ≠ 114 ∧ tkK t n p ≠ 115 ∧ 4 ≤ tkK t n p ∧ tkK t n p < 100 := by
          have := @rk_4 (tkK t n p)
          have := @rk_5 (tkK t n p)
          have := @rk_6 (tkK t n p)
          have := rk_rg (tkK t n p)
          omega
        rw [TM_sign h ⟨k3.2.2.1, k3.2.2.2⟩, bndO_s]
        refine hx _ ?_
        unfold opc
        rw [if_neg k3.1, if_neg k3.2.1]
      · unfold opc
        rw [if_pos (by omega)]
    · unfold opc
      rw [if_neg (by omega), if_pos (by omega)]
theorem bhE_end {N n p s b : Nat} {ρ : ySt} {t : Nat → Int} (hN : 100000 ≤ N) (h : TM ρ t n p) (g : FM ρ 0 (-1)) (h44 : ρ 92 44 = s) (h1 : 1 ≤ s) (hs : s < 90) (h43 : ρ 92 43 = b) (hb : b ≤ 1000) :
    Ok (bhE N 0 ρ) (fun q => q.1 = 0 ∧ ((ρ 121 (s - 1) ≠ 7 ∧ q.2 = yset ρ 92 44 ((s - 1 : Nat) : Int)) ∨ (ρ 121 (s - 1) = 7 ∧ eqM q.2 (yset (yset ρ 92 44 ((s - 1 : Nat) : Int)) 92 43 ((b : Int) - 1)) ∧ ((tkK t n p = 41 ∧ TM q.2 t n (tkE t n p) ∧ FM q.2 0 (-1)) ∨ (tkK t n p ≠ 41 ∧ TM q.2 t n p ∧ FM q.2 (bdK t n p) (tkA t n p)))))) := by
  have a1 : ρ 92 44 - 1 = ((s - 1 : Nat) : Int) := by omega
  unfold bhE
  rw [Ok_ite]
  refine ⟨fun _ => ?_, fun q => by omega⟩
  have y44 : yset ρ 92 44 ((s - 1 : Nat) : Int) 92 44 = ((s - 1 : Nat) : Int) := yset_at
  have y121 : yset ρ 92 44 ((s - 1 : Nat) : Int) 121 = ρ 121 := yset_off 121 (by decide)
  have y43 : yset ρ 92 44 ((s - 1 : Nat) : Int) 92 43 = b := by rw [yset_ne (by omega)]; exact h43
  rw [a1, Ok_chkI, Ok_bnd, y44, Ok_chkA, Int.toNat_natCast, y121, y43]
  refine ⟨by omega, by omega, ?_⟩
  rw [Ok_ite]
  refine ⟨fun q => ?_, fun q => ?_⟩
  · rw [Ok_some]
    exact ⟨rfl, Or.inl ⟨q, rfl⟩⟩
  · have tm : TM (yset (yset ρ 92 44 ((s - 1 : Nat) : Int)) 92 43 ((b : Int) - 1)) t n p := TM_set (TM_set h (by omega) (by decide)) (by omega) (by decide)
    have fm : FM (yset (yset ρ 92 44 ((s - 1 : Nat) : Int)) 92 43 ((b : Int) - 1)) 0 (-1) := FM_set (FM_set g (by omega)) (by omega)
    rw [Ok_chkI, Ok_bnd, TM_is tm (by decide), bndO_s, Ok_bndO]
    refine ⟨by omega, (mo_must_ok hN tm fm.1 _).mono ?_⟩
    rintro τ1 ⟨d1, d2⟩
    rw [Ok_some]
    refine ⟨rfl, Or.inr ⟨Classical.not_not.mp q, eqM_of d1, ?_⟩⟩
    rcases d2 with ⟨k, ⟨f4, f5⟩, tm1⟩ | ⟨k, tm1, f1⟩
    · refine Or.inl ⟨?_, tm1, f4, f5.trans fm.2⟩
      by_cases c : tkK t n p = 41
      · exact c
      · rw [if_neg c] at k
        exact absurd rfl k
    · refine Or.inr ⟨?_, tm1, f1⟩
      intro c
      rw [if_pos c] at k
      omega
/-- how deep the pile is behind so many pieces -/
def dl (x : Int) : Int := if 0 ≤ x then 1 else if x = -117 then 1 else if x = -109 then 1 else if x = -100 then 1 else if x = -118 then 1 else if x = -116 then 0 else -1
def dp (c : Nat → Int) : Nat → Int
  | 0 => 0
  | i + 1 => dp c i + dl (c i)
def WF (c : Nat → Int) (L : Nat) : Prop := ∀ i, i < L → (dl (c i) = 1 → dp c i ≤ 39) ∧ (dl (c i) = 0 → 1 ≤ dp c i) ∧ (dl (c i) = -1 → 2 ≤ dp c i)
theorem dp_congr {c c' : Nat → Int} : ∀ L : Nat, (∀ i, i < L → c i = c' i) → dp c L = dp c' L
  | 0, _ => rfl
  | L + 1, h => by
    unfold dp
    rw [dp_congr L (fun i hi => h i (by omega)), h L (by omega)]
theorem WF_congr {c c' : Nat → Int} {L : Nat} (h : ∀ i, i < L → c i = c' i) (w : WF c L) : WF c' L := by
  intro i hi
  rw [← h i hi, ← dp_congr i (fun j hj => h j (by omega))]
  exact w i hi
/-- one piece more -/
def up1 (c : Nat → Int) (L : Nat) (x : Int) : Nat → Int := fun i => if i = L then x else c i
theorem dp_put {c : Nat → Int} {L : Nat} {x : Int} {c' : Nat → Int} (h : ∀ i, i < L → c' i = c i) (hx : c' L = x) : dp c' (L + 1) = dp c L + dl x := by
  show dp c' L + dl (c' L) = _
  rw [hx, dp_congr L h]
theorem WF_put {c : Nat → Int} {L : Nat} {x : Int} {c' : Nat → Int} (w : WF c L) (h : ∀ i, i < L → c' i = c i) (hx : c' L = x) (h1 : dl x = 1 → dp c L ≤ 39) (h0 : dl x = 0 → 1 ≤ dp c L) (h2 : dl x = -1 → 2 ≤ dp c L) : WF c' (L + 1) := by
  intro i hi
  by_cases q : i < L
  · exact WF_congr (fun j hj => (h j hj).symm) w i q
  · have : i = L := by omega
    subst this
    rw [hx, dp_congr i h]
    exact ⟨h1, h0, h2⟩
theorem cRu_put_eq {o L : Nat} {σ : ySt} (ho : o = 30 ∨ o = 50) (h : σ o 2 = L) (hL : L < 400) (x : Int) : cRu_put o x σ = some (1, yset (yset σ (o + 1) L x) o 2 (L + 1)) := by
  apply Ok_eq
  unfold cRu_put
  have h' : yset σ (o + 1) L x o 2 = L := by rw [yset_ne (by omega)]; exact h
  rw [Ok_chk, Ok_ite]
  refine ⟨ho, fun _ => ?_, fun q => by omega⟩
  rw [Ok_chkA, h, Int.toNat_natCast, Ok_bnd, Ok_chkI, h', Ok_bnd, Ok_some]
  exact ⟨by omega, by omega, rfl⟩
/-- what both sides hold: written (M), waiting (e), of L pieces in all -/
def PS (σ τ : ySt) (o bk s lv b U L M e : Nat) : Prop :=
  bk < 2 ∧ τ 92 41 = bk ∧ σ o 2 = L ∧ σ o 3 = U ∧ τ 102 bk = U ∧ τ 92 42 = ((400 * bk + M : Nat) : Int) ∧ τ 92 44 = ((s + e : Nat) : Int) ∧ τ 92 43 = ((b + nt (τ 121) s e : Nat) : Int) ∧ L = M + e ∧ (∀ i, i < M → CE (σ (o + 1) i) (τ 119 (400 * bk + i)) (τ 120 (400 * bk + i))) ∧ (∀ j, j < e → OE (σ (o + 1) (M + j)) (τ 122 (s + e - 1 - j))) ∧ (∀ j, j < e → (lv : Int) ≤ τ 121 (s + j) ∧ τ 121 (s + j) ≤ 6) ∧ WF (σ (o + 1)) L
/-- what reading a rule leaves alone -/
def FrP (s : Nat) (τ' τ : ySt) : Prop := ∀ j, j < s → τ' 121 j = τ 121 j ∧ τ' 122 j = τ 122 j
def FrC (o : Nat) (σ' σ : ySt) : Prop := ∀ i, i ≠ 1 → i ≠ o → i ≠ o + 1 → σ' i = σ i
def FrM (bk : Nat) (τ' τ : ySt) : Prop := (∀ i, i ≠ 92 → i ≠ 102 → i ≠ 119 → i ≠ 120 → i ≠ 121 → i ≠ 122 → τ' i = τ i) ∧ (∀ j, j ≠ bk → τ' 102 j = τ 102 j) ∧ (∀ j, (j < 400 * bk ∨ 400 * bk + 400 ≤ j) → τ' 119 j = τ 119 j ∧ τ' 120 j = τ 120 j) ∧ (∀ k, (k < 4 ∨ 10 < k) → k ≠ 42 → k ≠ 43 → k ≠ 44 → τ' 92 k = τ 92 k)
theorem FrP_rfl (s : Nat) (τ : ySt) : FrP s τ τ := fun _ _ => ⟨rfl, rfl⟩
theorem FrP_tr {s s' : Nat} {τ τ' τ'' : ySt} (h : FrP s τ' τ) (g : FrP s' τ'' τ') (hs : s ≤ s') : FrP s τ'' τ := fun j hj => ⟨(g j (by omega)).1.trans (h j hj).1, (g j (by omega)).2.trans (h j hj).2⟩
theorem FrC_rfl (o : Nat) (σ : ySt) : FrC o σ σ := fun _ _ _ _ => rfl
theorem FrC_tr {o : Nat} {σ σ' σ'' : ySt} (h : FrC o σ' σ) (g : FrC o σ'' σ') : FrC o σ'' σ := fun i h1 h2 h3 => (g i h1 h2 h3).trans (h i h1 h2 h3)
theorem FrC_eqC {o : Nat} {σ σ' : ySt} (h : eqC σ' σ) : FrC o σ' σ := fun i h1 _ _ => h i h1
theorem FrC_put {o L : Nat} {σ : ySt} {x y : Int} : FrC o (yset (yset σ (o + 1) L x) o 2 y) σ := by
  intro i h1 h2 h3
  rw [yset_off i h2, yset_off i h3]
theorem FrM_rfl (bk : Nat) (τ : ySt) : FrM bk τ τ := ⟨fun _ _ _ _ _ _ _ => rfl, fun _ _ => rfl, fun _ _ => ⟨rfl, rfl⟩, fun _ _ _ _ _ => rfl⟩
theorem FrM_tr {bk : Nat} {τ τ' τ'' : ySt} (h : FrM bk τ' τ) (g : FrM bk τ'' τ') : FrM bk τ'' τ :=
  ⟨fun i a b c d e f => (g.1 i a b c d e f).trans (h.1 i a b c d e f), fun j a => (g.2.1 j a).trans (h.2.1 j a), fun j a => ⟨(g.2.2.1 j a).1.trans (h.2.2.1 j a).1, (g.2.2.1 j a).2.trans (h.2.2.1 j a).2⟩, fun k a b c d => (g.2.2.2 k a b c d).trans (h.2.2.2 k a b c d)⟩
theorem FrM_eqM {bk : Nat} {τ τ' : ySt} (h : eqM τ' τ) : FrM bk τ' τ :=
  ⟨fun i a _ _ _ _ _ => h.1 i a, fun j _ => by rw [h.1 102 (by decide)], fun j _ => by rw [h.1 119 (by decide), h.1 120 (by decide)]; exact ⟨rfl, rfl⟩, fun k a _ _ _ => h.2 k a⟩
theorem FrM_92 {bk k : Nat} {z : Int} {τ : ySt} (hk : k = 42 ∨ k = 43 ∨ k = 44) : FrM bk (yset τ 92 k z) τ :=
  ⟨fun i a _ _ _ _ _ => yset_off i a, fun j _ => yset_ne (by omega), fun j _ => ⟨yset_ne (by omega), yset_ne (by omega)⟩, fun j a b c d => yset_ne (by omega)⟩
theorem FrM_p {bk i j : Nat} {z : Int} {τ : ySt} (hi : i = 121 ∨ i = 122) : FrM bk (yset τ i j z) τ :=
  ⟨fun k a b c d e f => yset_off k (by omega), fun j _ => yset_ne (by omega), fun j _ => ⟨yset_ne (by omega), yset_ne (by omega)⟩, fun j a b c d => yset_ne (by omega)⟩
theorem FrM_c {bk i j : Nat} {z : Int} {τ : ySt} (hi : i = 119 ∨ i = 120) (hj : 400 * bk ≤ j ∧ j < 400 * bk + 400) : FrM bk (yset τ i j z) τ :=
  ⟨fun k a b c d e f => yset_off k (by omega), fun j _ => yset_ne (by omega), fun j _ => ⟨yset_ne (by omega), yset_ne (by omega)⟩, fun j a b c d => yset_ne (by omega)⟩
theorem FrM_u {bk : Nat} {z : Int} {τ : ySt} : FrM bk (yset τ 102 bk z) τ :=
  ⟨fun k a b c d e f => yset_off k b, fun j a => yset_ne (by omega), fun j _ => ⟨yset_ne (by omega), yset_ne (by omega)⟩, fun j a b c d => yset_ne (by omega)⟩
/-- the reference's walk -/
def moeF (N : Nat) (k9 : Int → ySt → Option ySt) (x7 : Int) (σ8 : ySt) : Option ySt :=
  bndO (mo_isGood σ8) fun r11 =>
  if r11 = 0 then
    some σ8
  else
    if (σ8 92 44) ≤ 0 then
      some σ8
    else
      bnd (fun (y14 : Int) (σ15 : ySt) =>
        k9 y14 σ15) fun j16 =>
      if x7 = 0 then
        bndR (mo_behindUnit N σ8) fun r19 σ20 =>
        j16 r19 σ20
      else
        bndR (mo_unit N σ8) fun r22 σ23 =>
        j16 r22 σ23
theorem mo_e_eq (N : Nat) (σ : ySt) : mo_e N σ = bnd (yset σ 92 44 0) fun σ1 =>
    bnd (yset σ1 92 43 0) fun σ3 =>
    bndO (mo_pushE 8 0 σ3) fun σ6 => loopS1 (moeF N) N 1 σ6 := rfl
def RE (N m : Nat) (x : Int) (τ : ySt) (x' : Int) (τ' : ySt) : Prop := ∀ k, loopS1 (moeF N) (k + m) x τ = loopS1 (moeF N) k x' τ'
theorem RE_rfl {N : Nat} {x : Int} {τ : ySt} : RE N 0 x τ x τ := fun _ => rfl
theorem RE_tr {N m m' : Nat} {x x' x'' : Int} {τ τ' τ'' : ySt} (h : RE N m x τ x' τ') (g : RE N m' x' τ' x'' τ'') : RE N (m + m') x τ x'' τ'' := by
  intro k
  rw [show k + (m + m') = k + m' + m from by omega, h, g]
theorem RE_unit {N : Nat} {τ τ' : ySt} {r : Int} (g : τ 92 4 = 0) (h : 0 < τ 92 44) (e : mo_unit N τ = some (r, τ')) : RE N 1 1 τ r τ' := by
  intro k
  show moeF N (loopS1 (moeF N) k) 1 τ = _
  unfold moeF
  rw [mo_isGood_eq, bndO_s, if_pos g, if_neg (by decide), if_neg (by omega)]
  simp only [bnd]
  rw [if_neg (by decide), e]
  rfl
theorem RE_beh {N : Nat} {τ τ' : ySt} {r : Int} (g : τ 92 4 = 0) (h : 0 < τ 92 44) (e : mo_behindUnit N τ = some (r, τ')) : RE N 1 0 τ r τ' := by
  intro k
  show moeF N (loopS1 (moeF N) k) 0 τ = _
  unfold moeF
  rw [mo_isGood_eq, bndO_s, if_pos g, if_neg (by decide), if_neg (by omega)]
  simp only [bnd]
  rw [if_pos trivial, e]
  rfl
