/-! best of all: values that may not be (none), sums and greatest -/
def oadd : Option Int → Option Int → Option Int
  | some a, some b => some (a + b)
  | _, _ => none
def omax : Option Int → Option Int → Option Int
  | none, b => b
  | some a, none => some a
  | some a, some b => some (max a b)
def ole : Option Int → Option Int → Prop
  | none, _ => True
  | some _, none => False
  | some a, some b => a ≤ b
theorem oadd_none {a : Option Int} : oadd a none = none := by cases a <;> rfl
theorem none_oadd {a : Option Int} : oadd none a = none := by cases a <;> rfl
theorem oadd_comm (a b : Option Int) : oadd a b = oadd b a := by
  cases a <;> cases b
  · rfl
  · rfl
  · rfl
  · rename_i x y
    show some (x + y) = some (y + x)
    rw [Int.add_comm]
theorem oadd_assoc (a b c : Option Int) : oadd (oadd a b) c = oadd a (oadd b c) := by
  cases a <;> cases b <;> cases c
  all_goals first
    | rfl
    | (rename_i x y z
       show some (x + y + z) = some (x + (y + z))
       rw [Int.add_assoc])
theorem oadd_zero (a : Option Int) : oadd a (some 0) = a := by
  cases a
  · rfl
  · rename_i x
    show some (x + 0) = some x
    rw [Int.add_zero]
theorem zero_oadd (a : Option Int) : oadd (some 0) a = a := by rw [oadd_comm, oadd_zero]
theorem ole_rfl (a : Option Int) : ole a a := by
  cases a
  · trivial
  · exact Int.le_refl _
theorem ole_tr {a b c : Option Int} (h : ole a b) (g : ole b c) : ole a c := by
  cases a <;> cases b <;> cases c
  all_goals first
    | trivial
    | exact absurd h id
    | exact absurd g id
    | exact Int.le_trans h g
theorem ole_anti {a b : Option Int} (h : ole a b) (g : ole b a) : a = b := by
  cases a <;> cases b
  · rfl
  · exact absurd g id
  · exact absurd h id
  · rename_i x y
    have h1 : x ≤ y := h
    have h2 : y ≤ x := g
    congr 1
    omega
theorem ole_max1 (a b : Option Int) : ole a (omax a b) := by
  cases a <;> cases b
  · trivial
  · trivial
  · exact Int.le_refl _
  · rename_i x y
    show x ≤ max x y
    omega
theorem ole_max2 (a b : Option Int) : ole b (omax a b) := by
  cases a <;> cases b
  · trivial
  · exact Int.le_refl _
  · trivial
  · rename_i x y
    show y ≤ max x y
    omega
theorem omax_or (a b : Option Int) : omax a b = a ∨ omax a b = b := by
  cases a <;> cases b
  · exact Or.inl rfl
  · exact Or.inr rfl
  · exact Or.inl rfl
  · rename_i x y
    by_cases h : x ≤ y
    · exact Or.inr (by show some (max x y) = some y; congr 1; omega)
    · exact Or.inl (by show some (max x y) = some x; congr 1; omega)
theorem oadd_mono {a b c : Option Int} (h : ole a b) : ole (oadd c a) (oadd c b) := by
  cases a <;> cases b <;> cases c
  all_goals first
    | trivial
    | exact absurd h id
    | (rename_i x y z
       have h1 : x ≤ y := h
       show z + x ≤ z + y
       omega)
theorem oadd_max (c a b : Option Int) : oadd c (omax a b) = omax (oadd c a) (oadd c b) := by
  cases a <;> cases b <;> cases c
  all_goals first
    | rfl
    | (rename_i x y z
       show some (z + max x y) = some (max (z + x) (z + y))
       congr 1
       omega)
/-- the greatest of the first m -/
def om : Nat → (Nat → Option Int) → Option Int
  | 0, _ => none
  | m + 1, f => omax (om m f) (f m)
theorem om_congr {f g : Nat → Option Int} : ∀ m : Nat, (∀ q, q < m → f q = g q) → om m f = om m g
  | 0, _ => rfl
  | m + 1, h => by
    unfold om
    rw [om_congr m (fun q hq => h q (by omega)), h m (by omega)]
theorem om_add (c : Option Int) (f : Nat → Option Int) : ∀ m : Nat, oadd c (om m f) = om m (fun q => oadd c (f q))
  | 0 => oadd_none
  | m + 1 => by
    unfold om
    rw [oadd_max, om_add c f m]
/-- M is the greatest of F over S -/
def isM (S : Nat → Prop) (F : Nat → Option Int) (M : Option Int) : Prop := (∀ y, S y → ole (F y) M) ∧ (M = none ∨ ∃ y, S y ∧ F y = M)
theorem isM_uniq {S : Nat → Prop} {F : Nat → Option Int} {M M' : Option Int} (h : isM S F M) (g : isM S F M') : M = M' := by
  apply ole_anti
  · rcases h.2 with e | ⟨y, hy, e⟩
    · rw [e]; trivial
    · rw [← e]; exact g.1 y hy
  · rcases g.2 with e | ⟨y, hy, e⟩
    · rw [e]; trivial
    · rw [← e]; exact h.1 y hy
theorem isM_congr {S S' : Nat → Prop} {F F' : Nat → Option Int} {M : Option Int} (h : isM S F M) (hs : ∀ y, S' y ↔ S y) (hf : ∀ y, S y → F' y = F y) : isM S' F' M := by
  refine ⟨fun y hy => ?_, ?_⟩
  · have := (hs y).mp hy
    rw [hf y this]
    exact h.1 y this
  · rcases h.2 with e | ⟨y, hy, e⟩
    · exact Or.inl e
    · exact Or.inr ⟨y, (hs y).mpr hy, by rw [hf y hy]; exact e⟩
theorem om_isM (f : Nat → Option Int) : ∀ m : Nat, isM (fun q => q < m) f (om m f)
  | 0 => ⟨fun y hy => absurd hy (Nat.not_lt_zero y), Or.inl rfl⟩
  | m + 1 => by
    have ih := om_isM f m
    unfold om
    refine ⟨fun y hy => ?_, ?_⟩
    · by_cases c : y < m
      · exact ole_tr (ih.1 y c) (ole_max1 _ _)
      · rw [show y = m from by omega]
        exact ole_max2 _ _
    · rcases omax_or (om m f) (f m) with e | e
      · rw [e]
        rcases ih.2 with e2 | ⟨y, hy, e2⟩
        · exact Or.inl e2
        · exact Or.inr ⟨y, by omega, e2⟩
      · rw [e]
        exact Or.inr ⟨m, by omega, rfl⟩
/-- the greatest of greatest ones -/
theorem isM_om {m : Nat} {S : Nat → Nat → Prop} {F : Nat → Nat → Option Int} {g : Nat → Option Int} (h : ∀ q, q < m → isM (S q) (F q) (g q)) {T : Nat → Prop} {G : Nat → Option Int} (h1 : ∀ y, T y → ∃ q, q < m ∧ S q y ∧ G y = F q y) (h2 : ∀ q y, q < m → S q y → T y ∧ G y = F q y) : isM T G (om m g) := by
  have hm := om_isM g m
  refine ⟨fun y hy => ?_, ?_⟩
  · obtain ⟨q, hq, hs, e⟩ := h1 y hy
    rw [e]
    exact ole_tr ((h q hq).1 y hs) (hm.1 q hq)
  · rcases hm.2 with e | ⟨q, hq, e⟩
    · exact Or.inl e
    · rcases (h q hq).2 with e2 | ⟨y, hy, e2⟩
      · exact Or.inl (by rw [← e]; exact e2)
      · obtain ⟨t1, t2⟩ := h2 q y hq hy
        exact Or.inr ⟨y, t1, by rw [t2, e2, e]⟩
theorem isM_add {S : Nat → Prop} {F : Nat → Option Int} {M : Option Int} (h : isM S F M) (c : Option Int) : isM S (fun y => oadd c (F y)) (oadd c M) := by
  refine ⟨fun y hy => oadd_mono (h.1 y hy), ?_⟩
  rcases h.2 with e | ⟨y, hy, e⟩
  · exact Or.inl (by rw [e]; exact oadd_none)
  · exact Or.inr ⟨y, hy, by show oadd c (F y) = _; rw [e]⟩
/-- all of K at places below m as one number -/
def enc (m : Nat) (v : Nat → Nat) : Nat → Nat
  | 0 => 0
  | k + 1 => enc m v k * m + v k
def dg (m K x n : Nat) : Nat := x / m ^ (K - 1 - n) % m
def updd (v : Nat → Nat) (n q : Nat) : Nat → Nat := fun k => if k = n then q else v k
def sdx (m K x n q : Nat) : Nat := enc m (updd (dg m K x) n q) K
theorem enc_congr {m : Nat} {v w : Nat → Nat} : ∀ k : Nat, (∀ n, n < k → v n = w n) → enc m v k = enc m w k
  | 0, _ => rfl
  | k + 1, h => by
    unfold enc
    rw [enc_congr k (fun n hn => h n (by omega)), h k (by omega)]
theorem enc_lt {m : Nat} {v : Nat → Nat} : ∀ k : Nat, (∀ n, n < k → v n < m) → enc m v k < m ^ k
  | 0, _ => by simp [enc]
  | k + 1, h => by
    have ih := enc_lt k (fun n hn => h n (by omega))
    have hk := h k (by omega)
    unfold enc
    rw [Nat.pow_succ]
    have : (enc m v k + 1) * m ≤ m ^ k * m := Nat.mul_le_mul_right m ih
    rw [Nat.add_mul, Nat.one_mul] at this
    omega
theorem enc_div {m : Nat} {v : Nat → Nat} {K : Nat} (hv : ∀ n, n < K → v n < m) : ∀ j : Nat, j ≤ K → enc m v K / m ^ j = enc m v (K - j)
  | 0, _ => by rw [Nat.pow_zero, Nat.div_one, Nat.sub_zero]
  | j + 1, h => by
    have hk := hv (K - (j + 1)) (by omega)
    have hm : 0 < m := by omega
    rw [Nat.pow_succ, ← Nat.div_div_eq_div_mul, enc_div hv j (by omega), show K - j = (K - (j + 1)) + 1 from by omega]
    show (enc m v (K - (j + 1)) * m + v (K - (j + 1))) / m = _
    rw [Nat.add_comm, Nat.add_mul_div_right _ _ hm, Nat.div_eq_of_lt hk, Nat.zero_add]
theorem dg_enc {m : Nat} {v : Nat → Nat} {K n : Nat} (hv : ∀ n, n < K → v n < m) (hn : n < K) : dg m K (enc m v K) n = v n := by
  unfold dg
  rw [enc_div hv (K - 1 - n) (by omega), show K - (K - 1 - n) = n + 1 from by omega]
  show (enc m v n * m + v n) % m = v n
  rw [Nat.add_comm, Nat.add_mul_mod_self_right, Nat.mod_eq_of_lt (hv n hn)]
theorem dg_lt {m K x n : Nat} (hm : 0 < m) : dg m K x n < m := Nat.mod_lt _ hm
theorem enc_dg {m : Nat} (hm : 0 < m) : ∀ (K x : Nat), x < m ^ K → enc m (dg m K x) K = x
  | 0, x, h => by
    rw [Nat.pow_zero] at h
    show 0 = x
    omega
  | K + 1, x, h => by
    have h1 : x / m < m ^ K := by
      rw [Nat.pow_succ] at h
      exact Nat.div_lt_of_lt_mul (by rw [Nat.mul_comm]; exact h)
    show enc m (dg m (K + 1) x) K * m + dg m (K + 1) x K = x
    have e : enc m (dg m (K + 1) x) K = enc m (dg m K (x / m)) K := enc_congr K (fun n hn => by
      unfold dg
      rw [show K + 1 - 1 - n = (K - 1 - n) + 1 from by omega, Nat.pow_succ, Nat.mul_comm, ← Nat.div_div_eq_div_mul])
    have e2 : dg m (K + 1) x K = x % m := by
      unfold dg
      rw [show K + 1 - 1 - K = 0 from by omega, Nat.pow_zero, Nat.div_one]
    rw [e, e2, enc_dg hm K (x / m) h1, Nat.mul_comm]
    exact Nat.div_add_mod x m
theorem enc_upd {m : Nat} {v : Nat → Nat} {n q : Nat} : ∀ K : Nat, n < K → enc m (updd v n q) K + v n * m ^ (K - 1 - n) = enc m v K + q * m ^ (K - 1 - n)
  | 0, h => absurd h (Nat.not_lt_zero n)
  | K + 1, h => by
    by_cases c : n = K
    · subst c
      have e : enc m (updd v n q) n = enc m v n := enc_congr n (fun k hk => by unfold updd; rw [if_neg (by omega)])
      show enc m (updd v n q) n * m + updd v n q n + _ = enc m v n * m + v n + _
      rw [e, show n + 1 - 1 - n = 0 from by omega, Nat.pow_zero, Nat.mul_one, Nat.mul_one]
      unfold updd
      rw [if_pos rfl]
      omega
    · have ih := enc_upd (m := m) (v := v) (n := n) (q := q) K (by omega)
      show enc m (updd v n q) K * m + updd v n q K + _ = enc m v K * m + v K + _
      have e : updd v n q K = v K := by unfold updd; rw [if_neg (by omega)]
      rw [e, show K + 1 - 1 - n = (K - 1 - n) + 1 from by omega, Nat.pow_succ]
      have h2 : (enc m (updd v n q) K + v n * m ^ (K - 1 - n)) * m = (enc m v K + q * m ^ (K - 1 - n)) * m := by rw [ih]
      rw [Nat.add_mul, Nat.add_mul] at h2
      rw [← Nat.mul_assoc, ← Nat.mul_assoc]
      omega
theorem sdx_lt {m K x n q : Nat} (hm : 0 < m) (hq : q < m) : sdx m K x n q < m ^ K := enc_lt K (fun k _ => by
  unfold updd
  split
  · exact hq
  · exact dg_lt hm)
theorem dg_sdx {m K x n q k : Nat} (hm : 0 < m) (hq : q < m) (hk : k < K) : dg m K (sdx m K x n q) k = if k = n then q else dg m K x k := by
  unfold sdx
  rw [dg_enc (fun j _ => by
    unfold updd
    split
    · exact hq
    · exact dg_lt hm) hk]
  rfl
/-- one goes: the best of where -/
def stp (m K : Nat) (w : Nat → Nat → Option Int) (n : Nat) (f : Nat → Option Int) (x : Nat) : Option Int := om m (fun q => oadd (w (dg m K x n) q) (f (sdx m K x n q)))
/-- all below k have gone -/
def stps (m K : Nat) (w : Nat → Nat → Nat → Option Int) (f : Nat → Option Int) : Nat → Nat → Option Int
  | 0 => f
  | k + 1 => stp m K (w k) k (stps m K w f k)
/-- sums over persons k .. k + j - 1 -/
def osum (g : Nat → Option Int) : Nat → Nat → Option Int
  | _, 0 => some 0
  | k, j + 1 => oadd (g k) (osum g (k + 1) j)
theorem osum_congr {g h : Nat → Option Int} : ∀ (j k : Nat), (∀ n, k ≤ n → n < k + j → g n = h n) → osum g k j = osum h k j
  | 0, _, _ => rfl
  | j + 1, k, e => by
    unfold osum
    rw [e k (by omega) (by omega), osum_congr j (k + 1) (fun n h1 h2 => e n (by omega) (by omega))]
/-- what each one's standing adds may be added at the end or on the way -/
theorem stps_gain {m K : Nat} (hm : 0 < m) {w : Nat → Nat → Option Int} {g : Nat → Nat → Option Int} {f : Nat → Option Int} : ∀ (k x : Nat), k ≤ K → x < m ^ K →
    stps m K (fun _ => w) (fun y => oadd (osum (fun n => g n (dg m K y n)) 0 K) (f y)) k x = oadd (osum (fun n => g n (dg m K x n)) k (K - k)) (stps m K (fun n a b => oadd (w a b) (g n b)) f k x)
  | 0, x, _, _ => by rw [Nat.sub_zero]; rfl
  | k + 1, x, hk, hx => by
    show om m _ = oadd _ (om m _)
    rw [om_add]
    apply om_congr
    intro q hq
    rw [stps_gain hm k (sdx m K x k q) (by omega) (sdx_lt hm hq)]
    have e1 : osum (fun n => g n (dg m K (sdx m K x k q) n)) k (K - k) = oadd (g k q) (osum (fun n => g n (dg m K x n)) (k + 1) (K - (k + 1))) := by
      rw [show K - k = (K - (k + 1)) + 1 from by omega]
      show oadd (g k (dg m K (sdx m K x k q) k)) (osum (fun n => g n (dg m K (sdx m K x k q) n)) (k + 1) (K - (k + 1))) = _
      rw [dg_sdx hm hq (by omega), if_pos rfl, osum_congr _ (k + 1) (fun n h1 h2 => by rw [dg_sdx hm hq (by omega), if_neg (by omega)])]
    rw [e1]
    generalize osum (fun n => g n (dg m K x n)) (k + 1) (K - (k + 1)) = R
    generalize stps m K (fun n a b => oadd (w a b) (g n b)) f k (sdx m K x k q) = C
    show oadd (w (dg m K x k) q) (oadd (oadd (g k q) R) C) = oadd R (oadd (oadd (w (dg m K x k) q) (g k q)) C)
    rw [oadd_assoc (g k q) R C, ← oadd_assoc R, oadd_comm R (oadd (w (dg m K x k) q) (g k q)), oadd_assoc, oadd_assoc]
/-- when all have gone, it is the greatest over all places of all -/
theorem stps_all {m K : Nat} (hm : 0 < m) {w : Nat → Nat → Nat → Option Int} {f : Nat → Option Int} : ∀ (k x : Nat), k ≤ K → x < m ^ K →
    isM (fun y => y < m ^ K ∧ ∀ n, k ≤ n → n < K → dg m K y n = dg m K x n) (fun y => oadd (osum (fun n => w n (dg m K x n) (dg m K y n)) 0 k) (f y)) (stps m K w f k x)
  | 0, x, _, hx => by
    have only : ∀ y, (y < m ^ K ∧ ∀ n, 0 ≤ n → n < K → dg m K y n = dg m K x n) → y = x := fun y hy => by
      rw [← enc_dg hm K y hy.1, ← enc_dg hm K x hx]
      exact enc_congr K (fun n hn => hy.2 n (by omega) hn)
    refine ⟨fun y hy => ?_, Or.inr ⟨x, ⟨hx, fun _ _ _ => rfl⟩, ?_⟩⟩
    · rw [only y hy]
      show ole (oadd (some 0) (f x)) (f x)
      rw [zero_oadd]
      exact ole_rfl _
    · show oadd (some 0) (f x) = f x
      exact zero_oadd _
  | k + 1, x, hk, hx => by
    have split : ∀ (g : Nat → Option Int) (j k : Nat), osum g k (j + 1) = oadd (osum g k j) (g (k + j)) := by
      intro g j
      induction j with
      | zero =>
        intro k
        show oadd (g k) (some 0) = oadd (some 0) (g (k + 0))
        rw [oadd_comm]
        rfl
      | succ j ih =>
        intro k
        show oadd (g k) (osum g (k + 1) (j + 1)) = oadd (oadd (g k) (osum g (k + 1) j)) _
        rw [ih (k + 1), oadd_assoc, show k + 1 + j = k + (j + 1) from by omega]
    refine isM_om (S := fun q y => y < m ^ K ∧ ∀ n, k ≤ n → n < K → dg m K y n = dg m K (sdx m K x k q) n) (F := fun q y => oadd (w k (dg m K x k) q) (oadd (osum (fun n => w n (dg m K (sdx m K x k q) n) (dg m K y n)) 0 k) (f y))) (fun q hq => isM_add (stps_all hm k (sdx m K x k q) (by omega) (sdx_lt hm hq)) _) (fun y hy => ?_) (fun q y hq hy => ?_)
    · have hq : dg m K y k < m := dg_lt hm
      refine ⟨dg m K y k, hq, ⟨hy.1, fun n h1 h2 => ?_⟩, ?_⟩
      · rw [dg_sdx hm hq h2]
        by_cases c : n = k
        · rw [if_pos c, c]
        · rw [if_neg c]
          exact hy.2 n (by omega) h2
      · rw [split, Nat.zero_add, ← oadd_assoc, oadd_comm (osum _ 0 k)]
        congr 2
        exact osum_congr k 0 (fun n h1 h2 => by rw [dg_sdx hm hq (by omega), if_neg (by omega)])
    · have e : dg m K y k = q := by rw [hy.2 k (Nat.le_refl k) (by omega), dg_sdx hm hq (by omega), if_pos rfl]
      refine ⟨⟨hy.1, fun n h1 h2 => ?_⟩, ?_⟩
      · rw [hy.2 n (by omega) h2, dg_sdx hm hq h2, if_neg (by omega)]
      · rw [split, Nat.zero_add, e, ← oadd_assoc, oadd_comm (osum _ 0 k)]
        congr 2
        exact osum_congr k 0 (fun n h1 h2 => by rw [dg_sdx hm hq (by omega), if_neg (by omega)])
