/-! values: ints, longs, references (0: none; i + 1: the cell i); a store: what each place of each cell holds -/
abbrev yV : Type := Int ⊕ (Int ⊕ Nat)
abbrev ySt : Type := Nat → Nat → Int
abbrev yE : Type := Nat × va_G × (Nat → ClassId)
def yLay : List (Nat × Nat) := [(11, 0), (8, 0), (22, 1600), (1, 0), (20, 40), (20, 40), (20, 40), (20, 40), (20, 40), (4, 0), (20, 5), (20, 5), (24, 3), (9, 0), (5, 0), (21, 6), (5, 0), (21, 5), (5, 0), (21, 3), (23, 6), (20, 5), (20, 5), (20, 3), (20, 8), (20, 8), (20, 8), (20, 8), (20, 36), (20, 36), (7, 0), (20, 400), (20, 40), (9, 0), (5, 0), (21, 6), (5, 0), (21, 5), (5, 0), (21, 3), (23, 6), (20, 5), (20, 5), (20, 3), (20, 8), (20, 8), (20, 8), (20, 8), (20, 36), (20, 36), (7, 0), (20, 400), (20, 40), (10, 0), (6, 0), (20, 45), (6, 0), (20, 45), (0, 0), (3, 0), (20, 7776), (20, 7776), (20, 36), (20, 6), (20, 5), (23, 3), (20, 3), (25, 3), (20, 45), (20, 45), (20, 45), (23, 3), (20, 3), (20, 3), (20, 3), (20, 3), (20, 3), (20, 7776), (2, 0), (20, 5), (20, 36), (20, 270), (20, 36), (4, 0), (20, 5), (20, 5), (4, 0), (20, 5), (20, 5), (4, 0), (20, 5), (20, 5), (12, 0), (22, 1620), (22, 1600), (20, 2), (20, 2), (20, 2), (20, 2), (20, 2), (20, 2), (20, 2), (20, 2), (23, 2), (23, 2), (23, 2), (23, 12), (21, 12), (21, 10), (21, 6), (20, 72), (20, 10), (20, 10), (20, 12), (20, 16), (20, 16), (20, 16), (20, 16), (20, 2), (20, 800), (20, 800), (20, 90), (20, 90), (20, 70), (20, 36), (23, 432), (20, 5), (20, 6), (20, 70000), (20, 7776), (20, 7776), (20, 5), (23, 70000), (23, 70000), (23, 7776), (23, 7776), (20, 80), (23, 5), (20, 5), (20, 5), (20, 64), (20, 40), (20, 40), (20, 40), (20, 40), (20, 40), (20, 3), (20, 3), (20, 15), (20, 15)]
def yFl : List (List Nat) := [[3, 3, 3, 3, 3, 3, 3, 3, 3, 3, 3, 3, 3, 1, 2], [3, 3, 3, 3, 3, 0, 0], [3, 0, 1, 0, 3, 3, 3, 3, 0, 0], [3, 3, 3, 3, 3], [3, 3, 0, 0, 1], [3, 0], [3, 0, 0, 0], [3, 3, 0, 0], [3, 0, 0, 0, 2, 0, 0, 0, 0], [3, 3, 3, 3, 3, 3, 3, 3, 3, 3, 3, 3, 3, 3, 0, 0, 0, 0], [3, 3, 1, 1, 1], [3, 3, 3, 3, 3, 3, 3, 3, 3, 3], [3, 3, 0, 0, 0, 0, 0, 0, 0, 0, 2, 3, 3, 3, 3, 3, 3, 3, 3, 3, 3, 3, 3, 3, 3, 3, 3, 3, 3, 3, 3, 3, 3, 3, 3, 3, 3, 3, 3, 3, 0, 0, 0, 0, 0, 3, 3, 0, 0, 0, 0, 0, 0, 0, 0, 0, 3, 3, 3, 3, 3, 3, 3, 3, 3, 3, 3, 3, 0, 0, 0, 3, 3, 0, 0, 3, 3, 3, 3, 3, 3, 0, 0, 3, 3, 3, 3]]
def yKd (i : Nat) : Nat × Nat := yLay.getD i (99, 0)
def yft (c k : Nat) : Nat := (yFl.getD c []).getD k 0
def yNf (c : Nat) : Nat := (yFl.getD c []).length
def yCz (b : Nat) : yV → Value
  | .inl z => .int (Int32.ofInt z)
  | .inr (.inl z) => .long (Int64.ofInt z)
  | .inr (.inr 0) => .null
  | .inr (.inr (r + 1)) => .ref (b + r)
def yI (z : Int) : Prop := -2147483648 ≤ z ∧ z < 2147483648
def yJ (z : Int) : Prop := -9223372036854775808 ≤ z ∧ z < 9223372036854775808
def yOk : yV → Prop
  | .inl z => yI z
  | .inr (.inl z) => yJ z
  | .inr (.inr _) => True
/-- a place's value, by its kind: 0 int, 1 boolean, 2 long, 3 reference -/
def yFv (t : Nat) (z : Int) : yV := if t = 2 then .inr (.inl z) else if t = 3 then .inr (.inr z.toNat) else .inl z
def yFs (b c : Nat) (f : Nat → Int) : List Value := (List.range (yNf c)).map fun k => yCz b (yFv (yft c k) (f k))
def yRf (b : Nat) (z : Int) : Option Nat := if z.toNat = 0 then none else some (b + (z.toNat - 1))
def yAr (b k n : Nat) (f : Nat → Int) : vp_A := (n, if k = 21 then .inr (.inl fun j => Int64.ofInt (f j)) else if k = 24 ∨ k = 25 then .inr (.inr (.inr (.inr fun j => yRf b (f j)))) else .inl fun j => Int32.ofInt (f j))
def yEnt (E : yE) (S : ySt) (i : Nat) : va_E := if (yKd i).1 < 20 then .inr ((yKd i).1, yFs E.1 (yKd i).1 (S i)) else .inl (E.2.2 ((yKd i).1 - 20), yAr E.1 (yKd i).1 (yKd i).2 (S i))
def yWs (E : yE) (n : Nat) (S : ySt) : va_W := (List.range n).map fun i => (E.1 + i, yEnt E S i)
def yTy (i k : Nat) : Nat := if (yKd i).1 < 20 then yft (yKd i).1 k else if (yKd i).1 = 21 then 2 else if (yKd i).1 = 24 ∨ (yKd i).1 = 25 then 3 else 0
def yTys (E : yE) : List (ClassId × FieldType) := [(E.2.2 0, .int), (E.2.2 1, .long), (E.2.2 2, .byte), (E.2.2 3, .boolean), (E.2.2 4, .object "EvenTown$Earnest"), (E.2.2 5, .array .int)]
def yOkS (n : Nat) (S : ySt) : Prop := ∀ i k, i < n → yOk (yFv (yTy i k) (S i k))
def yRp (E : yE) (n : Nat) (S : ySt) (H : Heap) : Prop := va_P E.2.1 vwCl (yWs E n S) H ∧ H.size = E.1 + n ∧ yOkS n S
def yset (S : ySt) (i k : Nat) (z : Int) : ySt := fun a j => if a = i ∧ j = k then z else S a j
theorem yWs_len (E : yE) (n : Nat) (S : ySt) : (yWs E n S).length = n := by simp [yWs]
theorem yWs_get {E : yE} {n i : Nat} {S : ySt} (h : i < n) : (yWs E n S)[i]? = some (E.1 + i, yEnt E S i) := by simp [yWs, h]
theorem yWs_D (E : yE) (n : Nat) (S : ySt) : va_D (fun q => E.1 ≤ q) (yWs E n S) := by
  have key : ∀ (k : Nat) (q : Nat × va_E), (yWs E n S)[k]? = some q → q.1 = E.1 + k := by
    intro k q h
    have hk : k < n := by
      have := (List.getElem?_eq_some_iff.mp h).1
      rwa [yWs_len] at this
    rw [yWs_get hk] at h
    cases h
    rfl
  refine ⟨fun i j p q hi hj e => ?_, fun k q h => ?_⟩
  · have h1 := key i p hi
    have h2 := key j q hj
    omega
  · have h1 := key k q h
    show E.1 ≤ q.1
    omega
theorem yWs_set {E : yE} {n i : Nat} {S S' : ySt} (h : ∀ a, a ≠ i → S' a = S a) : (yWs E n S).set i (E.1 + i, yEnt E S' i) = yWs E n S' := by
  apply List.ext_getElem?
  intro k
  by_cases hk : k < n
  · rw [yWs_get hk]
    by_cases e : i = k
    · subst e
      rw [List.getElem?_set_self (by rw [yWs_len]; exact hk)]
    · rw [List.getElem?_set_ne e, yWs_get hk]
      have := h k (fun q => e q.symm)
      unfold yEnt
      rw [this]
  · rw [List.getElem?_eq_none (by rw [List.length_set, yWs_len]; omega), List.getElem?_eq_none (by rw [yWs_len]; omega)]
theorem yWs_push {E : yE} {n : Nat} {S : ySt} : yWs E n S ++ [(E.1 + n, yEnt E S n)] = yWs E (n + 1) S := by
  simp [yWs, List.range_succ]
theorem yset_off {S : ySt} {i k : Nat} {z : Int} : ∀ a, a ≠ i → yset S i k z a = S a := by
  intro a h
  funext j
  simp [yset, h]
theorem yset_at {S : ySt} {i k : Nat} {z : Int} : yset S i k z i k = z := by simp [yset]
theorem yset_ne {S : ySt} {i k a j : Nat} {z : Int} (h : a ≠ i ∨ j ≠ k) : yset S i k z a j = S a j := by
  unfold yset
  rw [if_neg]
  intro q
  rcases h with h | h
  · exact h q.1
  · exact h q.2
theorem yEnt_o {E : yE} {S : ySt} {i c : Nat} (h : yKd i = (c, 0)) (hc : c < 20) : yEnt E S i = .inr (c, yFs E.1 c (S i)) := by
  unfold yEnt
  rw [h]
  exact if_pos hc
theorem yEnt_a {E : yE} {S : ySt} {i k n : Nat} (h : yKd i = (k, n)) (hk : 20 ≤ k) : yEnt E S i = .inl (E.2.2 (k - 20), yAr E.1 k n (S i)) := by
  unfold yEnt
  rw [h]
  exact if_neg (by omega)
theorem yFs_get {b c k : Nat} {f : Nat → Int} (h : k < yNf c) : (yFs b c f)[k]? = some (yCz b (yFv (yft c k) (f k))) := by simp [yFs, h]
theorem yFs_len {b c : Nat} {f : Nat → Int} : (yFs b c f).length = yNf c := by simp [yFs]
theorem yFs_set {b c k : Nat} {f : Nat → Int} {z : Int} {g : Nat → Int} (hg : g k = z) (ho : ∀ j, j ≠ k → g j = f j) : (yFs b c f).set k (yCz b (yFv (yft c k) z)) = yFs b c g := by
  apply List.ext_getElem?
  intro j
  by_cases hj : j < yNf c
  · rw [yFs_get hj]
    by_cases e : k = j
    · subst e
      rw [List.getElem?_set_self (by rw [yFs_len]; exact hj), hg]
    · rw [List.getElem?_set_ne e, yFs_get hj, ho j (fun q => e q.symm)]
  · rw [List.getElem?_eq_none (by rw [List.length_set, yFs_len]; omega), List.getElem?_eq_none (by rw [yFs_len]; omega)]
theorem yOkS_get {n i k : Nat} {S : ySt} (h : yOkS n S) (hi : i < n) {t : Nat} (ht : yTy i k = t) : yOk (yFv t (S i k)) := by
  rw [← ht]
  exact h i k hi
theorem yTy_o {i c k : Nat} (h : yKd i = (c, 0)) (hc : c < 20) : yTy i k = yft c k := by
  unfold yTy
  rw [h]
  exact if_pos hc
theorem yOkS_set {n i k : Nat} {S : ySt} (h : yOkS n S) {z : Int} (hz : yOk (yFv (yTy i k) z)) : yOkS n (yset S i k z) := by
  intro a j ha
  by_cases e : a = i ∧ j = k
  · obtain ⟨rfl, rfl⟩ := e
    rw [yset_at]
    exact hz
  · rw [yset_ne (by
      by_cases q : a = i
      · exact Or.inr (fun w => e ⟨q, w⟩)
      · exact Or.inl q)]
    exact h a j ha
theorem yI_toInt {z : Int} (h : yI z) : (Int32.ofInt z).toInt = z := Int32.toInt_ofInt_of_le h.1 h.2
theorem yI_lt {a b : Int} (ha : yI a) (hb : yI b) : Int32.ofInt a < Int32.ofInt b ↔ a < b := by
  rw [Int32.lt_iff_toInt_lt, yI_toInt ha, yI_toInt hb]
theorem yI_le {a b : Int} (ha : yI a) (hb : yI b) : Int32.ofInt a ≤ Int32.ofInt b ↔ a ≤ b := by
  rw [Int32.le_iff_toInt_le, yI_toInt ha, yI_toInt hb]
theorem yI_eq {a b : Int} (ha : yI a) (hb : yI b) : Int32.ofInt a = Int32.ofInt b ↔ a = b := by
  rw [← Int32.toInt_inj, yI_toInt ha, yI_toInt hb]
theorem yI_0 : yI 0 := ⟨by decide, by decide⟩
theorem yI_nat {z : Int} (h : yI z) : (Int32.ofInt z).toNatClampNeg = z.toNat := Int32.toNatClampNeg_ofInt_of_le h.1 h.2
theorem yI_in {z : Int} {n : Nat} (h : yI z) (h0 : 0 ≤ z) (h1 : z < n) : vp_in (Int32.ofInt z) n := by
  rw [vp_in_iff, yI_toInt h]
  exact ⟨h0, h1⟩
theorem yI_bmod (z : Int) : yI (z.bmod 4294967296) := by
  have h1 := Int.le_bmod (x := z) (m := 4294967296) (by decide)
  have h2 := Int.bmod_lt (x := z) (m := 4294967296) (by decide)
  exact ⟨by omega, by omega⟩
theorem yI_of32 (x : Int32) : yI x.toInt := ⟨by have := x.le_toInt; omega, by have := x.toInt_lt; omega⟩
theorem yJ_of64 (x : Int64) : yJ x.toInt := ⟨by have := x.le_toInt; omega, by have := x.toInt_lt; omega⟩
theorem yJ_toInt {z : Int} (h : yJ z) : (Int64.ofInt z).toInt = z := Int64.toInt_ofInt_of_le h.1 h.2
/-- what the machine's own words are, as whole numbers -/
def w32 (z : Int) : Int := (Int32.ofInt z).toInt
def w64 (z : Int) : Int := (Int64.ofInt z).toInt
def b32and (a b : Int) : Int := (Int32.ofInt a &&& Int32.ofInt b).toInt
def b32or (a b : Int) : Int := (Int32.ofInt a ||| Int32.ofInt b).toInt
def b32xor (a b : Int) : Int := (Int32.ofInt a ^^^ Int32.ofInt b).toInt
def b32shl (a b : Int) : Int := (Int32.ofInt a <<< (Int32.ofInt b &&& 31)).toInt
def b32shr (a b : Int) : Int := (Int32.ofInt a >>> (Int32.ofInt b &&& 31)).toInt
def b64and (a b : Int) : Int := (Int64.ofInt a &&& Int64.ofInt b).toInt
def b64or (a b : Int) : Int := (Int64.ofInt a ||| Int64.ofInt b).toInt
def b64shl (a b : Int) : Int := (Int64.ofInt a <<< ((Int32.ofInt b).toInt64 &&& 63)).toInt
def b64shr (a b : Int) : Int := (Int64.ofInt a >>> ((Int32.ofInt b).toInt64 &&& 63)).toInt
def b32i2b (a : Int) : Int := ((Int32.ofInt a).toInt8.toInt32).toInt
def b32i2c (a : Int) : Int := (((Int32.ofInt a).toUInt32 % 65536).toInt32).toInt
def bi2l (a : Int) : Int := ((Int32.ofInt a).toInt64).toInt
def blcmp (a b : Int) : Int := if a > b then 1 else if a = b then 0 else -1
