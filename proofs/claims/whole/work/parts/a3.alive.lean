/-! states that can be: steps of all, and the class's home -/
def ob (b : Bool) : Option Int := if b = true then some 0 else none
theorem ob_add (a b : Bool) : oadd (ob a) (ob b) = ob (a && b) := by cases a <;> cases b <;> rfl
theorem ob_max (a b : Bool) : omax (ob a) (ob b) = ob (a || b) := by cases a <;> cases b <;> rfl
theorem ob_om (f g : Nat → Bool) : ∀ m : Nat, om m (fun q => oadd (ob (f q)) (ob (g q))) = ob (bany (fun q => f q && g q) m)
  | 0 => rfl
  | m + 1 => by
    show omax (om m (fun q => oadd (ob (f q)) (ob (g q)))) (oadd (ob (f m)) (ob (g m))) = ob (bany (fun q => f q && g q) m || (f m && g m))
    rw [ob_om f g m, ob_add, ob_max]
theorem bO_ob (b : Bool) : bO 0 (ob b) := by
  intro a h
  cases b with
  | true =>
    have : a = 0 := by
      have h' : some (0 : Int) = some a := h
      injection h' with h'
      exact h'.symm
    omega
  | false => cases h
theorem rpM_ob {x : Int} {b : Bool} : rpM x (ob b) ↔ (b = true ∧ x = 0) ∨ (b = false ∧ x = -1000000) := by
  unfold rpM
  cases b with
  | true =>
    constructor
    · rintro (⟨h, _⟩ | ⟨a, h, e⟩)
      · cases h
      · have h' : some (0 : Int) = some a := h
        injection h' with h'
        exact Or.inl ⟨rfl, by omega⟩
    · rintro (⟨_, e⟩ | ⟨h, _⟩)
      · exact Or.inr ⟨0, rfl, e⟩
      · cases h
  | false =>
    constructor
    · rintro (⟨_, e⟩ | ⟨a, h, e⟩)
      · exact Or.inr ⟨rfl, e⟩
      · cases h
    · rintro (⟨h, _⟩ | ⟨_, e⟩)
      · cases h
      · exact Or.inl ⟨rfl, e⟩
/-- one goes; all go -/
def stB (m K : Nat) (gt : Nat → Nat → Bool) (n : Nat) (f : Nat → Bool) (x : Nat) : Bool := bany (fun q => gt (dg m K x n) q && f (sdx m K x n q)) m
def stBs (m K : Nat) (gt : Nat → Nat → Bool) (f : Nat → Bool) : Nat → Nat → Bool
  | 0 => f
  | k + 1 => stB m K gt k (stBs m K gt f k)
theorem bany_congr {f g : Nat → Bool} : ∀ m : Nat, (∀ k, k < m → f k = g k) → bany f m = bany g m
  | 0, _ => rfl
  | m + 1, h => by
    show (bany f m || f m) = (bany g m || g m)
    rw [bany_congr m (fun k hk => h k (by omega)), h m (by omega)]
theorem stB_stp {m K n x : Nat} {gt : Nat → Nat → Bool} {f : Nat → Bool} : stp m K (fun u v => ob (gt u v)) n (fun x => ob (f x)) x = ob (stB m K gt n f x) := ob_om (fun q => gt (dg m K x n) q) (fun q => f (sdx m K x n q)) m
theorem stB_congr {m K n x : Nat} {gt gt' : Nat → Nat → Bool} {f f' : Nat → Bool} (hm : 0 < m) (hg : ∀ u v, u < m → v < m → gt u v = gt' u v) (hf : ∀ y, y < m ^ K → f y = f' y) : stB m K gt n f x = stB m K gt' n f' x := bany_congr m (fun q hq => by rw [hg _ _ (dg_lt hm) hq, hf _ (sdx_lt hm hq)])
theorem stBs_congr {m K : Nat} {gt gt' : Nat → Nat → Bool} {f f' : Nat → Bool} (hm : 0 < K → 0 < m) (hg : ∀ u v, u < m → v < m → gt u v = gt' u v) (hf : ∀ y, y < m ^ K → f y = f' y) : ∀ (k x : Nat), k ≤ K → x < m ^ K → stBs m K gt f k x = stBs m K gt' f' k x
  | 0, x, _, hx => hf x hx
  | k + 1, x, hk, hx => stB_congr (hm (by omega)) hg (fun y hy => stBs_congr hm hg hf k y (by omega) hy)
theorem goAll_ok {N T mp mq : Nat} {σ : ySt} {gt : Nat → Nat → Bool} {f : Nat → Bool} (hN : 100000 ≤ N) (h : DS σ T mp mq) (hw : WT σ mp (fun u v => ob (gt u v))) (hf : ∀ x, x < mp ^ mq → rpM (σ 60 x) (ob (f x))) :
    Ok (cDs_goAll N σ) (fun σ' => (∀ i, i ≠ 60 → i ≠ 63 → σ' i = σ i) ∧ ∀ x, x < mp ^ mq → rpM (σ' 60 x) (ob (stBs mp mq gt f mq x))) := by
  obtain ⟨hT, h0, h1, hm6, h3, hq5, hm, h783, h79⟩ := id h
  unfold cDs_goAll
  refine Ok_loopS1 (fun y ν => ∃ k : Nat, y = k ∧ k ≤ mq ∧ (∀ i, i ≠ 60 → i ≠ 63 → ν i = σ i) ∧ ∀ x, x < mp ^ mq → rpM (ν 60 x) (ob (stBs mp mq gt f k x))) (fun y _ => (mq - y.toNat : Nat)) ?_ N _ _ ⟨0, rfl, by omega, fun _ _ _ => rfl, hf⟩ (by omega)
  rintro g y ν ⟨k, rfl, hk, i1, i2⟩ rec
  have n0 : ν 78 0 = (T : Int) + 1 := by rw [i1 78 (by decide) (by decide)]; exact h0
  rw [chkT_pos hT n0, i1 (T + 3) (by omega) (by omega), h3, Ok_ite, Ok_some]
  refine ⟨fun q => by rw [show mq = k by omega] at i2 ⊢; exact ⟨i1, i2⟩, fun q => ?_⟩
  have key := goBack_ok (N := N) (T := T) (m := mp) (K := mq) (n := k) (σ := ν) (w := fun u v => ob (gt u v)) (f := fun x => ob (stBs mp mq gt f k x)) (B := 0) hN hT n0 (by rw [i1 (T + 1) (by omega) (by omega)]; exact h1) ⟨hm (by omega), hm6⟩ hq5 (by omega) (by rw [i1 79 (by decide) (by decide)]; exact h79 k (by omega)) (by rw [i1 78 (by decide) (by decide)]; exact h783) (by unfold WT; rw [i1 62 (by decide) (by decide)]; exact hw) (by omega) (fun x hx => ⟨i2 x hx, bO_ob _⟩)
  rw [Ok_bndO]
  refine key.mono ?_
  rintro σ' ⟨a1, a2, a3⟩
  rw [Ok_chkI]
  refine ⟨by omega, rec _ _ ⟨k + 1, by omega, by omega, fun i x y => (a1 i x y).trans (i1 i x y), fun x hx => ?_⟩ (by omega)⟩
  have := (a3 x hx).1
  rw [stB_stp] at this
  exact this
theorem homeState_ok {N T mp mq : Nat} {σ : ySt} {v : Nat → Nat} (hN : 100000 ≤ N) (h : DS σ T mp mq) (hv : ∀ n, n < mq → σ (T + 8) n = v n ∧ v n < mp) : cDs_homeState N σ = some ((enc mp v mq : Nat) : Int) := by
  obtain ⟨hT, h0, h1, hm6, h3, hq5, hm, h783, h79⟩ := id h
  have hS := pow_le hm6 hq5
  apply Ok_eq
  unfold cDs_homeState
  refine Ok_loop2 (fun x y => ∃ k : Nat, y = k ∧ k ≤ mq ∧ x = ((enc mp v k * mp ^ (mq - k) : Nat) : Int)) (fun _ y => (mq - y.toNat : Nat)) ?_ N _ _ ⟨0, rfl, by omega, by show (0 : Int) = ((0 * mp ^ (mq - 0) : Nat) : Int); rw [Nat.zero_mul]; rfl⟩ (by omega)
  rintro g x y ⟨k, rfl, hk, rfl⟩ rec
  rw [chkT_pos hT h0, h3, Ok_ite, Ok_some]
  refine ⟨fun q => ?_, fun q => ?_⟩
  · have e : k = mq := by omega
    rw [e, Nat.sub_self, Nat.pow_zero, Nat.mul_one]
  · have hkm : k < mq := by omega
    have hm0 := hm (by omega)
    obtain ⟨v1, v2⟩ := hv k hkm
    have hU := pow_le (k := mq - 1 - k) hm6 (by omega)
    have hU0 : 0 < mp ^ (mq - 1 - k) := Nat.pow_pos hm0
    have e : mp ^ (mq - k) = mp * mp ^ (mq - 1 - k) := by
      rw [show mq - k = (mq - 1 - k) + 1 by omega, Nat.pow_succ, Nat.mul_comm]
    have step : enc mp v k * mp ^ (mq - k) + mp ^ (mq - 1 - k) * v k = enc mp v (k + 1) * mp ^ (mq - (k + 1)) := by
      rw [e, show mq - (k + 1) = mq - 1 - k by omega]
      show enc mp v k * (mp * mp ^ (mq - 1 - k)) + mp ^ (mq - 1 - k) * v k = (enc mp v k * mp + v k) * mp ^ (mq - 1 - k)
      rw [Nat.add_mul, Nat.mul_assoc, Nat.mul_comm (v k)]
    have lt : enc mp v (k + 1) < mp ^ (k + 1) := enc_lt (k + 1) (fun n hn => (hv n (by omega)).2)
    have lt2 : enc mp v (k + 1) * mp ^ (mq - (k + 1)) ≤ mp ^ mq := by
      have : mp ^ mq = mp ^ (k + 1) * mp ^ (mq - (k + 1)) := by rw [← Nat.pow_add]; congr 1; omega
      rw [this]
      exact Nat.mul_le_mul_right _ (by omega)
    have mul_le : mp ^ (mq - 1 - k) * v k ≤ 7776 * 6 := Nat.mul_le_mul hU (by omega)
    have cm : ((mp ^ (mq - 1 - k) : Nat) : Int) * ((v k : Nat) : Int) = ((mp ^ (mq - 1 - k) * v k : Nat) : Int) := by rw [Int.natCast_mul]
    rw [Ok_chkA, Int.toNat_natCast, chkT_pos hT h0, Ok_chkA, h79 k hkm, v1, cm, Ok_chkI, Ok_chkI, Ok_chkI]
    have sum : ((enc mp v k * mp ^ (mq - k) : Nat) : Int) + ((mp ^ (mq - 1 - k) * v k : Nat) : Int) = ((enc mp v (k + 1) * mp ^ (mq - (k + 1)) : Nat) : Int) := by
      rw [← step]
      omega
    rw [sum]
    exact ⟨by omega, by omega, by omega, by omega, by omega, rec _ _ ⟨k + 1, by omega, by omega, rfl⟩ (by omega)⟩
