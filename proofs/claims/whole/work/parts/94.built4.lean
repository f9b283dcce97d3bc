/-! one way more: the class's loops -/
def bpI (g : Nat → Nat → Int) (a : Nat) : Nat → Int × Int → Int × Int
  | 0, r => r
  | k + 1, r => if (bpI g a k r).1 < g a (a + 1 + k) then (g a (a + 1 + k), ((100 * a + (a + 1 + k) : Nat) : Int)) else bpI g a k r
def bpO (g : Nat → Nat → Int) (m : Nat) : Nat → Int × Int
  | 0 => (-1000000, -1000000)
  | a + 1 => bpI g a (m - (a + 1)) (bpO g m a)
theorem bpI_rg {g : Nat → Nat → Int} {a : Nat} {r : Int × Int} (hr : -1000000 ≤ r.1 ∧ r.1 ≤ 200000) : ∀ k : Nat, (∀ j, j < k → -1000000 ≤ g a (a + 1 + j) ∧ g a (a + 1 + j) ≤ 200000) → -1000000 ≤ (bpI g a k r).1 ∧ (bpI g a k r).1 ≤ 200000
  | 0, _ => hr
  | k + 1, h => by
    have ih := bpI_rg hr k (fun j hj => h j (by omega))
    have hk := h k (by omega)
    unfold bpI
    by_cases c : (bpI g a k r).1 < g a (a + 1 + k)
    · rw [if_pos c]
      exact hk
    · rw [if_neg c]
      exact ih
theorem bpO_rg {g : Nat → Nat → Int} {m : Nat} (h : ∀ a b, a < b → b < m → -1000000 ≤ g a b ∧ g a b ≤ 200000) : ∀ a : Nat, a ≤ m → -1000000 ≤ (bpO g m a).1 ∧ (bpO g m a).1 ≤ 200000
  | 0, _ => ⟨show (-1000000 : Int) ≤ -1000000 by decide, show (-1000000 : Int) ≤ 200000 by decide⟩
  | a + 1, ha => bpI_rg (bpO_rg h a (by omega)) _ (fun j hj => h a _ (by omega) (by omega))
theorem dZ_of {σ σ' : ySt} {T mp mq me md L S hr n a b M : Nat} (e : ∀ i, T ≤ i → i ≤ T + 19 → σ' i = σ i) : dZ σ' T mp mq me md L S hr n a b M = dZ σ T mp mq me md L S hr n a b M := by
  unfold dZ bestZ late lawB opn rgt gnV eW eD homeV
  rw [e (T + 7) (by omega) (by omega), e (T + 8) (by omega) (by omega), e (T + 9) (by omega) (by omega), e (T + 10) (by omega) (by omega), e (T + 11) (by omega) (by omega), e (T + 12) (by omega) (by omega), e (T + 13) (by omega) (by omega), e (T + 14) (by omega) (by omega), e (T + 15) (by omega) (by omega), e (T + 18) (by omega) (by omega)]
theorem dZ_rg {σ : ySt} {T b0 mp mq me md L S hr n a b M : Nat} (hv : ∀ n, n < mq → homeV σ T n < mp) (hS : S ≤ 8) (h : GD σ T b0 mp mq me md L S hr n a b M) : -1000000 ≤ dZ σ T mp mq me md L S hr n a b M ∧ dZ σ T mp mq me md L S hr n a b M ≤ 200000 := by
  obtain ⟨τs, h⟩ := h
  unfold dZ bestZ
  by_cases lt : (decide (0 < (n : Int)) && late σ T me S ((1 : Nat) : Int)) = true
  · rw [if_pos lt]
    omega
  · rw [if_neg lt]
    obtain ⟨Mn, _, _, hbo⟩ := h lt
    have hb := (hbo S _ (Nat.le_refl S) (enc_lt mq hv)).2
    generalize VV mp mq S (wkM (n : Int) (hr : Int) (Db (fun u v => σ (T + 15) (6 * u + v)) a b M)) (lawB σ T L md mp mq (-1) (-1)) (fun s y => osum (fun n' => gnV σ T me (n : Int) ((1 : Nat) : Int) s n' (dg mp mq y n')) 0 mq) S (enc mp (homeV σ T) mq) = o at hb ⊢
    cases o with
    | none => exact ⟨show (-1000000 : Int) ≤ -1000000 by decide, show (-1000000 : Int) ≤ 200000 by decide⟩
    | some z =>
      have := hb z rfl
      show -1000000 ≤ z ∧ z ≤ 200000
      omega
def CL (σ : ySt) (T mp mq me md L S hr : Nat) : Prop := ∀ n : Nat, n < 3 → ∀ M : Nat, 1 ≤ M → M ≤ 999 → σ 74 n = (M : Int) → σ 75 n = (bpO (fun a b => dZ σ T mp mq me md L S hr n a b M) mp mp).1 ∧ σ 76 n = (bpO (fun a b => dZ σ T mp mq me md L S hr n a b M) mp mp).2
