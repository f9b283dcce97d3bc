/-! what a stroke is worth -/
def isum (f : Nat → Int) : Nat → Int
  | 0 => 0
  | m + 1 => isum f m + f m
def bany (f : Nat → Bool) : Nat → Bool
  | 0 => false
  | m + 1 => bany f m || f m
theorem bany_iff {f : Nat → Bool} : ∀ m : Nat, bany f m = true ↔ ∃ k, k < m ∧ f k = true
  | 0 => ⟨fun h => by
      have h' : false = true := h
      exact absurd h' (by decide), fun ⟨k, h, _⟩ => absurd h (Nat.not_lt_zero k)⟩
  | m + 1 => by
    unfold bany
    rw [Bool.or_eq_true, bany_iff m]
    constructor
    · rintro (⟨k, h1, h2⟩ | h)
      · exact ⟨k, by omega, h2⟩
      · exact ⟨m, by omega, h⟩
    · rintro ⟨k, h1, h2⟩
      by_cases c : k = m
      · exact Or.inr (by rw [← c]; exact h2)
      · exact Or.inl ⟨k, by omega, h2⟩
theorem isum_congr {f g : Nat → Int} : ∀ m : Nat, (∀ k, k < m → f k = g k) → isum f m = isum g m
  | 0, _ => rfl
  | m + 1, h => by
    unfold isum
    rw [isum_congr m (fun k hk => h k (by omega)), h m (by omega)]
theorem isum_rg {f : Nat → Int} {c d : Int} (hc : c ≤ 0) (hd : 0 ≤ d) : ∀ m : Nat, (∀ k, k < m → c ≤ f k ∧ f k ≤ d) → c * m ≤ isum f m ∧ isum f m ≤ d * m
  | 0, _ => ⟨by show c * ((0 : Nat) : Int) ≤ 0; omega, by show (0 : Int) ≤ d * ((0 : Nat) : Int); omega⟩
  | m + 1, h => by
    have ih := isum_rg hc hd m (fun k hk => h k (by omega))
    have hm := h m (by omega)
    unfold isum
    rw [Int.natCast_succ, Int.mul_add, Int.mul_add, Int.mul_one, Int.mul_one]
    omega
theorem isum_add (f g : Nat → Int) : ∀ m : Nat, isum (fun k => f k + g k) m = isum f m + isum g m
  | 0 => rfl
  | m + 1 => by
    unfold isum
    rw [isum_add f g m]
    omega
theorem isum_zero : ∀ m : Nat, isum (fun _ => 0) m = 0
  | 0 => rfl
  | m + 1 => by
    unfold isum
    rw [isum_zero m]
    rfl
theorem isum_swap (f : Nat → Nat → Int) (m : Nat) : ∀ k : Nat, isum (fun a => isum (fun b => f a b) k) m = isum (fun b => isum (fun a => f a b) m) k
  | 0 => isum_zero m
  | k + 1 => by
    show isum (fun a => isum (fun b => f a b) k + f a k) m = isum (fun b => isum (fun a => f a b) m) k + isum (fun a => f a k) m
    rw [isum_add, isum_swap f m k]
theorem isum_one {c : Int} {i : Nat} : ∀ m : Nat, i < m → isum (fun a => if i = a then c else 0) m = c
  | 0, h => absurd h (Nat.not_lt_zero i)
  | m + 1, h => by
    unfold isum
    by_cases e : i = m
    · rw [if_pos e]
      have : isum (fun a => if i = a then c else 0) m = isum (fun _ => 0) m := isum_congr m (fun a ha => if_neg (by omega))
      rw [this, isum_zero]
      omega
    · rw [if_neg e, isum_one m (by omega)]
      omega
/-- the errands' persons, whether due at this stroke, and done -/
def eW (σ : ySt) (T k : Nat) : Nat := (σ (T + 11) k).toNat
def eD (σ : ySt) (T : Nat) (t s : Int) (k : Nat) : Bool := decide (σ (T + 13) k * t = s)
def eX (σ : ySt) (T : Nat) (t s : Int) (v : Nat → Int) (k : Nat) : Bool := eD σ T t s k && decide (v (eW σ T k) = σ (T + 12) k)
def awy (σ : ySt) (T : Nat) (v : Nat → Int) (n : Nat) : Bool := decide (v n ≠ σ (T + 8) n)
def cmp (σ : ySt) (T me : Nat) (t s : Int) (v : Nat → Int) (n : Nat) : Bool := awy σ T v n && !(bany (fun k => decide (eW σ T k = n) && eX σ T t s v k) me)
/-- the reference's worth of a stroke -/
def wnV (σ : ySt) (T me mq : Nat) (what t s : Int) (v : Nat → Int) : Option Int :=
  if decide (0 < what) && bany (fun k => eD σ T t s k && !(eX σ T t s v k)) me then none
  else some (isum (fun k => if decide (what = 0) && eX σ T t s v k then σ (T + 14) k else 0) me - isum (fun n => (if decide (what = 0) && awy σ T v n then σ (T + 9) n else 0) + (if decide (what = 1) && cmp σ T me t s v n then 1 else 0)) mq)
/-- one person's part of it -/
def gnV (σ : ySt) (T me : Nat) (what t s : Int) (n : Nat) (p : Int) : Option Int :=
  if what = 0 then some (isum (fun k => if decide (eW σ T k = n) && (eD σ T t s k && decide (p = σ (T + 12) k)) then σ (T + 14) k else 0) me - (if p ≠ σ (T + 8) n then σ (T + 9) n else 0))
  else if bany (fun k => decide (eW σ T k = n) && (eD σ T t s k && !(decide (p = σ (T + 12) k)))) me then none
  else some (if decide (what = 1) && (decide (p ≠ σ (T + 8) n) && !(bany (fun k => decide (eW σ T k = n) && (eD σ T t s k && decide (p = σ (T + 12) k))) me)) then -1 else 0)
theorem osum_some {f : Nat → Int} : ∀ (j k : Nat), osum (fun n => some (f n)) k j = some (isum (fun n => f (k + n)) j)
  | 0, _ => rfl
  | j + 1, k => by
    have h : isum (fun n => f (k + n)) (j + 1) = f k + isum (fun n => f (k + 1 + n)) j := by
      have aux : ∀ (j k : Nat), isum (fun n => f (k + n)) (j + 1) = f k + isum (fun n => f (k + 1 + n)) j := by
        intro j
        induction j with
        | zero =>
          intro k
          show (0 : Int) + f (k + 0) = f k + 0
          rw [Nat.add_zero]
          omega
        | succ j ih =>
          intro k
          show isum (fun n => f (k + n)) (j + 1) + f (k + (j + 1)) = f k + (isum (fun n => f (k + 1 + n)) j + f (k + 1 + j))
          rw [ih k, show k + (j + 1) = k + 1 + j from by omega]
          omega
      exact aux j k
    show oadd (some (f k)) (osum (fun n => some (f n)) (k + 1) j) = _
    rw [osum_some j (k + 1), h]
    rfl
theorem osum_none {g : Nat → Option Int} : ∀ (j k n : Nat), k ≤ n → n < k + j → g n = none → osum g k j = none
  | 0, k, n, h1, h2, _ => by omega
  | j + 1, k, n, h1, h2, h3 => by
    show oadd (g k) (osum g (k + 1) j) = none
    by_cases c : n = k
    · rw [← c, h3]
      exact none_oadd
    · rw [osum_none j (k + 1) n (by omega) (by omega) h3]
      exact oadd_none
/-- persons' parts together are the stroke's worth -/
theorem worth_split {σ : ySt} {T me mq : Nat} {what t s : Int} {v : Nat → Int} (hw : 0 ≤ what ∧ what ≤ 2) (hq : ∀ k, k < me → eW σ T k < mq) : osum (fun n => gnV σ T me what t s n (v n)) 0 mq = wnV σ T me mq what t s v := by
  by_cases w0 : what = 0
  · unfold wnV gnV
    subst w0
    have e1 : (fun n => if (0 : Int) = 0 then some (isum (fun k => if decide (eW σ T k = n) && (eD σ T t s k && decide (v n = σ (T + 12) k)) then σ (T + 14) k else 0) me - (if v n ≠ σ (T + 8) n then σ (T + 9) n else 0)) else if bany (fun k => decide (eW σ T k = n) && (eD σ T t s k && !(decide (v n = σ (T + 12) k)))) me then none else some (if decide ((0 : Int) = 1) && (decide (v n ≠ σ (T + 8) n) && !(bany (fun k => decide (eW σ T k = n) && (eD σ T t s k && decide (v n = σ (T + 12) k))) me)) then -1 else 0)) = fun n => some (isum (fun k => if decide (eW σ T k = n) && (eD σ T t s k && decide (v n = σ (T + 12) k)) then σ (T + 14) k else 0) me - (if v n ≠ σ (T + 8) n then σ (T + 9) n else 0)) := by
      funext n
      rw [if_pos rfl]
    rw [e1, osum_some, if_neg (by simp)]
    congr 1
    have hk : ∀ k, k < me → isum (fun n => if decide (eW σ T k = n) && (eD σ T t s k && decide (v n = σ (T + 12) k)) then σ (T + 14) k else 0) mq = if decide ((0 : Int) = 0) && eX σ T t s v k then σ (T + 14) k else 0 := by
      intro k hk
      have := isum_one (c := if decide ((0 : Int) = 0) && eX σ T t s v k then σ (T + 14) k else 0) mq (hq k hk)
      rw [← this]
      apply isum_congr
      intro n hn
      by_cases c : eW σ T k = n
      · subst c
        rw [if_pos rfl]
        unfold eX
        simp
      · rw [if_neg c]
        simp [c]
    have e2 : isum (fun n => isum (fun k => if decide (eW σ T k = n) && (eD σ T t s k && decide (v n = σ (T + 12) k)) then σ (T + 14) k else 0) me) mq = isum (fun k => if decide ((0 : Int) = 0) && eX σ T t s v k then σ (T + 14) k else 0) me := by
      rw [isum_swap]
      exact isum_congr me hk
    have e3 : isum (fun n => isum (fun k => if decide (eW σ T k = 0 + n) && (eD σ T t s k && decide (v (0 + n) = σ (T + 12) k)) then σ (T + 14) k else 0) me - (if v (0 + n) ≠ σ (T + 8) (0 + n) then σ (T + 9) (0 + n) else 0)) mq = isum (fun n => isum (fun k => if decide (eW σ T k = n) && (eD σ T t s k && decide (v n = σ (T + 12) k)) then σ (T + 14) k else 0) me + -(if v n ≠ σ (T + 8) n then σ (T + 9) n else 0)) mq := isum_congr mq (fun n _ => by rw [Nat.zero_add]; omega)
    have e4 : isum (fun n => -(if v n ≠ σ (T + 8) n then σ (T + 9) n else 0)) mq + isum (fun n => (if decide ((0 : Int) = 0) && awy σ T v n then σ (T + 9) n else 0) + (if decide ((0 : Int) = 1) && cmp σ T me t s v n then 1 else 0)) mq = 0 := by
      rw [← isum_add]
      refine Eq.trans (isum_congr mq (g := fun _ => 0) (fun n _ => ?_)) (isum_zero mq)
      unfold awy
      by_cases c : v n = σ (T + 8) n
      · simp [c]
      · simp [c]
        omega
    rw [e3, isum_add, e2]
    omega
  · unfold wnV
    have wp : 0 < what := by omega
    have d0 : decide (what = 0) = false := by simp [w0]
    by_cases c : bany (fun k => eD σ T t s k && !(eX σ T t s v k)) me = true
    · rw [if_pos (by simp [wp, c])]
      obtain ⟨k, hk, h1⟩ := (bany_iff me).mp c
      refine osum_none mq 0 (eW σ T k) (by omega) (by have := hq k hk; omega) ?_
      unfold gnV
      rw [if_neg w0, if_pos]
      refine (bany_iff me).mpr ⟨k, hk, ?_⟩
      unfold eX at h1
      simp at h1 ⊢
      refine ⟨h1.1, ?_⟩
      rcases h1.2 with h2 | h2
      · rw [h1.1] at h2
        exact absurd h2 (by decide)
      · exact h2
    · rw [if_neg (by simp [c])]
      have hno : ∀ n, bany (fun k => decide (eW σ T k = n) && (eD σ T t s k && !(decide (v n = σ (T + 12) k)))) me = false := by
        intro n
        apply Bool.eq_false_iff.mpr
        intro h
        obtain ⟨k, hk, h1⟩ := (bany_iff me).mp h
        apply c
        refine (bany_iff me).mpr ⟨k, hk, ?_⟩
        unfold eX
        simp at h1 ⊢
        obtain ⟨h2, h3, h4⟩ := h1
        rw [h2]
        exact ⟨h3, Or.inr h4⟩
      have e1 : (fun n => gnV σ T me what t s n (v n)) = fun n => some (if decide (what = 1) && (decide (v n ≠ σ (T + 8) n) && !(bany (fun k => decide (eW σ T k = n) && (eD σ T t s k && decide (v n = σ (T + 12) k))) me)) then -1 else 0) := by
        funext n
        unfold gnV
        rw [if_neg w0, hno n, if_neg (by decide)]
      rw [e1, osum_some]
      congr 1
      have e2 : isum (fun k => if decide (what = 0) && eX σ T t s v k then σ (T + 14) k else 0) me = 0 := by
        refine Eq.trans (isum_congr me (g := fun _ => 0) (fun k _ => ?_)) (isum_zero me)
        simp [w0]
      rw [e2]
      have e3 : ∀ n, bany (fun k => decide (eW σ T k = n) && (eD σ T t s k && decide (v n = σ (T + 12) k))) me = bany (fun k => decide (eW σ T k = n) && eX σ T t s v k) me := by
        intro n
        congr 1
        funext k
        unfold eX
        by_cases c2 : eW σ T k = n
        · rw [c2]
        · simp [c2]
      have e4 : isum (fun n => if decide (what = 1) && (decide (v (0 + n) ≠ σ (T + 8) (0 + n)) && !(bany (fun k => decide (eW σ T k = 0 + n) && (eD σ T t s k && decide (v (0 + n) = σ (T + 12) k))) me)) then (-1 : Int) else 0) mq + isum (fun n => (if decide (what = 0) && awy σ T v n then σ (T + 9) n else 0) + (if decide (what = 1) && cmp σ T me t s v n then 1 else 0)) mq = 0 := by
        rw [← isum_add]
        refine Eq.trans (isum_congr mq (g := fun _ => 0) (fun n _ => ?_)) (isum_zero mq)
        rw [Nat.zero_add, e3 n, d0]
        unfold cmp awy
        by_cases c3 : (decide (what = 1) && (decide (v n ≠ σ (T + 8) n) && !(bany (fun k => decide (eW σ T k = n) && eX σ T t s v k) me))) = true
        · rw [if_pos c3, if_pos c3]
          simp
        · rw [if_neg c3, if_neg c3]
          simp
      omega
