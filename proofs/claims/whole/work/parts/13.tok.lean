/-! numbers of the machine -/
theorem toInt32_id {z : Int} (h : -2147483648 ≤ z ∧ z < 2147483648) : (Int32.ofInt z).toInt = z := yI_toInt h
theorem i32_nat (x : Int) : (Int32.ofInt x).toBitVec.toNat = (x % 4294967296).toNat := by
  have : (Int32.ofInt x).toBitVec = BitVec.ofInt 32 x := rfl
  rw [this, BitVec.toNat_ofInt]
  rfl
theorem i32_toInt_of (b : BitVec 32) (h : b.toNat < 2147483648) : (Int32.ofBitVec b).toInt = (b.toNat : Int) := by
  show b.toInt = _
  rw [BitVec.toInt_eq_toNat_of_lt (by omega)]
theorem b32and_255 (x : Int) : b32and x 255 = x % 256 := by
  unfold b32and
  have e : (Int32.ofInt x &&& Int32.ofInt 255) = Int32.ofBitVec ((Int32.ofInt x).toBitVec &&& 255#32) := rfl
  have hn : ((Int32.ofInt x).toBitVec &&& 255#32).toNat = (x % 256).toNat := by
    rw [BitVec.toNat_and, i32_nat]
    have h1 : (255#32).toNat = 2 ^ 8 - 1 := rfl
    rw [h1, Nat.and_two_pow_sub_one_eq_mod]
    omega
  rw [e, i32_toInt_of _ (by rw [hn]; omega), hn]
  omega
theorem b32i2b_id {x : Int} (h : -128 ≤ x ∧ x < 128) : b32i2b x = x := by
  unfold b32i2b
  rw [Int8.toInt_toInt32, Int32.toInt8_ofInt, Int8.toInt_ofInt_of_le (by omega) (by omega)]
theorem b32i2b_rg (x : Int) : -128 ≤ b32i2b x ∧ b32i2b x < 128 := by
  unfold b32i2b
  rw [Int8.toInt_toInt32]
  have h1 := Int8.le_toInt (Int32.ofInt x).toInt8
  have h2 := Int8.toInt_lt (Int32.ofInt x).toInt8
  omega
theorem b32i2c_id {x : Int} (h : 0 ≤ x ∧ x < 256) : b32i2c x = x := by
  obtain ⟨k, rfl⟩ : ∃ k : Nat, x = k := ⟨x.toNat, by omega⟩
  have key : ∀ k : Fin 256, b32i2c ((k : Nat) : Int) = ((k : Nat) : Int) := by decide +kernel
  exact key ⟨k, by omega⟩
theorem blcmp_0 {a b : Int} : blcmp a b = 0 ↔ a = b := by
  unfold blcmp
  split
  · constructor <;> intro h <;> omega
  · split <;> constructor <;> intro h <;> omega
theorem bi2l_id {x : Int} (h : -2147483648 ≤ x ∧ x < 2147483648) : bi2l x = x := by
  unfold bi2l
  rw [Int32.toInt_toInt64, yI_toInt h]
theorem w64_id {x : Int} (h : -9223372036854775808 ≤ x ∧ x < 9223372036854775808) : w64 x = x := yJ_toInt h
theorem i64_nat (x : Int) : (Int64.ofInt x).toBitVec.toNat = (x % 18446744073709551616).toNat := by
  have : (Int64.ofInt x).toBitVec = BitVec.ofInt 64 x := rfl
  rw [this, BitVec.toNat_ofInt]
  rfl
theorem i64_toInt_of (b : BitVec 64) (h : b.toNat < 9223372036854775808) : (Int64.ofBitVec b).toInt = (b.toNat : Int) := by
  show b.toInt = _
  rw [BitVec.toInt_eq_toNat_of_lt (by omega)]
/-- name << 8 | c -/
theorem b64cat {a c : Int} (ha : 0 ≤ a ∧ a < 36028797018963968) (hc : 0 ≤ c ∧ c < 256) : b64or (b64shl a 8) (bi2l c) = a * 256 + c := by
  have h1 : b64shl a 8 = a * 256 := by
    unfold b64shl
    have e : (Int64.ofInt a <<< ((Int32.ofInt 8).toInt64 &&& 63)) = Int64.ofBitVec ((Int64.ofInt a).toBitVec <<< 8) := rfl
    have hn : ((Int64.ofInt a).toBitVec <<< 8).toNat = (a * 256).toNat := by
      rw [BitVec.toNat_shiftLeft, i64_nat, Nat.shiftLeft_eq]
      have : (a % 18446744073709551616).toNat = a.toNat := by omega
      rw [this]
      omega
    rw [e, i64_toInt_of _ (by rw [hn]; omega), hn]
    omega
  rw [h1, bi2l_id (by omega)]
  unfold b64or
  have e : (Int64.ofInt (a * 256) ||| Int64.ofInt c) = Int64.ofBitVec ((Int64.ofInt (a * 256)).toBitVec ||| (Int64.ofInt c).toBitVec) := rfl
  have hn : ((Int64.ofInt (a * 256)).toBitVec ||| (Int64.ofInt c).toBitVec).toNat = (a * 256 + c).toNat := by
    rw [BitVec.toNat_or, i64_nat, i64_nat]
    have q1 : (a * 256 % 18446744073709551616).toNat = a.toNat <<< 8 := by rw [Nat.shiftLeft_eq]; omega
    have q2 : (c % 18446744073709551616).toNat = c.toNat := by omega
    rw [q1, q2, ← Nat.shiftLeft_add_eq_or_of_lt (by omega : c.toNat < 2 ^ 8), Nat.shiftLeft_eq]
    omega
  rw [e, i64_toInt_of _ (by rw [hn]; omega), hn]
  omega
/-! runs of signs in a text t of n signs -/
def isL (c : Int) : Bool := decide (97 ≤ c) && decide (c ≤ 122)
def isD (c : Int) : Bool := decide (48 ≤ c) && decide (c ≤ 57)
def isB (c : Int) : Bool := decide (c = 32) || decide (c = 10)
theorem isL_iff {c : Int} : isL c = true ↔ 97 ≤ c ∧ c ≤ 122 := by simp [isL]
theorem isD_iff {c : Int} : isD c = true ↔ 48 ≤ c ∧ c ≤ 57 := by simp [isD]
theorem isB_iff {c : Int} : isB c = true ↔ c = 32 ∨ c = 10 := by simp [isB]
def rnf (q : Int → Bool) (t : Nat → Int) : Nat → Nat → Nat
  | 0, p => p
  | f + 1, p => if q (t p) = true then rnf q t f (p + 1) else p
/-- the first place from p on whose sign isn't q's; n at most -/
def rn (q : Int → Bool) (t : Nat → Int) (n p : Nat) : Nat := rnf q t (n - p) p
theorem rn_step {q : Int → Bool} {t : Nat → Int} {n p : Nat} (h : p < n) (hq : q (t p) = true) : rn q t n p = rn q t n (p + 1) := by
  unfold rn
  rw [show n - p = (n - (p + 1)) + 1 by omega]
  simp only [rnf, hq, if_true]
theorem rn_stop {q : Int → Bool} {t : Nat → Int} {n p : Nat} (h : n ≤ p ∨ q (t p) = false) : rn q t n p = p := by
  unfold rn
  rcases Nat.lt_or_ge p n with h1 | h1
  · rw [show n - p = (n - (p + 1)) + 1 by omega]
    rcases h with h | h
    · omega
    · simp [rnf, h]
  · rw [show n - p = 0 by omega]
    rfl
theorem rn_ge (q : Int → Bool) (t : Nat → Int) (n p : Nat) : p ≤ rn q t n p := by
  have key : ∀ f p, p ≤ rnf q t f p := by
    intro f
    induction f with
    | zero => intro p; exact Nat.le_refl _
    | succ f ih =>
      intro p
      simp only [rnf]
      split
      · have := ih (p + 1); omega
      · exact Nat.le_refl _
  exact key _ _
theorem rn_le {q : Int → Bool} {t : Nat → Int} {n p : Nat} (h : p ≤ n) : rn q t n p ≤ n := by
  have key : ∀ f p, rnf q t f p ≤ p + f := by
    intro f
    induction f with
    | zero => intro p; exact Nat.le_refl _
    | succ f ih =>
      intro p
      simp only [rnf]
      split
      · have := ih (p + 1); omega
      · omega
  have := key (n - p) p
  unfold rn
  omega
theorem rn_in {q : Int → Bool} {t : Nat → Int} {n p : Nat} : ∀ k, p ≤ k → k < rn q t n p → q (t k) = true := by
  have key : ∀ f p k, p ≤ k → k < rnf q t f p → q (t k) = true := by
    intro f
    induction f with
    | zero => intro p k h1 h2; simp only [rnf] at h2; omega
    | succ f ih =>
      intro p k h1 h2
      simp only [rnf] at h2
      split at h2
      next hq =>
        rcases Nat.eq_or_lt_of_le h1 with e | e
        · rw [← e]; exact hq
        · exact ih (p + 1) k e h2
      · omega
  exact key _ _
theorem rn_out {q : Int → Bool} {t : Nat → Int} {n p : Nat} (h : rn q t n p < n) : q (t (rn q t n p)) = false := by
  have key : ∀ f p, rnf q t f p < p + f → q (t (rnf q t f p)) = false := by
    intro f
    induction f with
    | zero => intro p h; simp only [rnf] at h; omega
    | succ f ih =>
      intro p h
      simp only [rnf] at h ⊢
      by_cases hq : q (t p) = true
      · rw [if_pos hq] at h ⊢
        exact ih (p + 1) (by omega)
      · rw [if_neg hq]
        simpa using hq
  refine key (n - p) p ?_
  have := rn_ge q t n p
  unfold rn at h this
  omega
/-! words as lists of letters, and their two codes -/
def tw (t : Nat → Int) (p e : Nat) : List Int := (List.range (e - p)).map fun j => t (p + j)
theorem tw_snoc {t : Nat → Int} {p e : Nat} (h : p ≤ e) : tw t p (e + 1) = tw t p e ++ [t e] := by
  unfold tw
  rw [show e + 1 - p = (e - p) + 1 by omega, List.range_succ, List.map_append]
  simp only [List.map_cons, List.map_nil]
  rw [show p + (e - p) = e by omega]
theorem tw_nil (t : Nat → Int) (p : Nat) : tw t p p = [] := by simp [tw]
theorem tw_len (t : Nat → Int) (p e : Nat) : (tw t p e).length = e - p := by simp [tw]
def isWd (w : List Int) : Prop := (∀ c ∈ w, 97 ≤ c ∧ c ≤ 122) ∧ w.length ≤ 8
theorem revRecOn {α : Type} {motive : List α → Prop} (w : List α) (nil : motive []) (append_singleton : ∀ (w : List α) (c : α), motive w → motive (w ++ [c])) : motive w := by
  have key : ∀ l : List α, motive l.reverse := by
    intro l
    induction l with
    | nil => exact nil
    | cons c l ih => rw [List.reverse_cons]; exact append_singleton _ c ih
  have := key w.reverse
  rwa [List.reverse_reverse] at this
def enc8 (w : List Int) : Int := w.foldl (fun a c => a * 256 + c) 0
def enc5 (w : List Int) : Int := w.foldl (fun a c => a * 32 + (c - 96)) 0
theorem enc8_snoc (w : List Int) (c : Int) : enc8 (w ++ [c]) = enc8 w * 256 + c := by simp [enc8]
theorem enc5_snoc (w : List Int) (c : Int) : enc5 (w ++ [c]) = enc5 w * 32 + (c - 96) := by simp [enc5]
theorem enc8_rg : ∀ (w : List Int), (∀ c ∈ w, 97 ≤ c ∧ c ≤ 122) → 0 ≤ enc8 w ∧ enc8 w < 256 ^ w.length := by
  intro w
  induction w using revRecOn with
  | nil => intro _; exact ⟨by decide, by decide⟩
  | append_singleton w c ih =>
    intro h
    have h1 := ih (fun x hx => h x (List.mem_append_left _ hx))
    have h2 := h c (List.mem_append_right _ (List.mem_singleton.mpr rfl))
    rw [enc8_snoc, List.length_append, List.length_singleton, Int.pow_succ]
    omega
theorem enc5_rg : ∀ (w : List Int), (∀ c ∈ w, 97 ≤ c ∧ c ≤ 122) → 0 ≤ enc5 w ∧ enc5 w < 32 ^ w.length := by
  intro w
  induction w using revRecOn with
  | nil => intro _; exact ⟨by decide, by decide⟩
  | append_singleton w c ih =>
    intro h
    have h1 := ih (fun x hx => h x (List.mem_append_left _ hx))
    have h2 := h c (List.mem_append_right _ (List.mem_singleton.mpr rfl))
    rw [enc5_snoc, List.length_append, List.length_singleton, Int.pow_succ]
    omega
theorem enc8_inj : ∀ (w v : List Int), (∀ c ∈ w, 97 ≤ c ∧ c ≤ 122) → (∀ c ∈ v, 97 ≤ c ∧ c ≤ 122) → enc8 w = enc8 v → w = v := by
  intro w
  induction w using revRecOn with
  | nil =>
    intro v _ hv h
    induction v using revRecOn with
    | nil => rfl
    | append_singleton v c _ =>
      have h1 := enc8_rg v (fun x hx => hv x (List.mem_append_left _ hx))
      have h2 := hv c (List.mem_append_right _ (List.mem_singleton.mpr rfl))
      rw [enc8_snoc] at h
      have : enc8 [] = 0 := rfl
      omega
  | append_singleton w c ih =>
    intro v hw hv h
    have g1 := enc8_rg w (fun x hx => hw x (List.mem_append_left _ hx))
    have g2 := hw c (List.mem_append_right _ (List.mem_singleton.mpr rfl))
    induction v using revRecOn with
    | nil =>
      rw [enc8_snoc] at h
      have : enc8 [] = 0 := rfl
      omega
    | append_singleton v d _ =>
      have h1 := enc8_rg v (fun x hx => hv x (List.mem_append_left _ hx))
      have h2 := hv d (List.mem_append_right _ (List.mem_singleton.mpr rfl))
      rw [enc8_snoc, enc8_snoc] at h
      have e1 : c = d := by omega
      have e2 : enc8 w = enc8 v := by omega
      rw [ih v (fun x hx => hw x (List.mem_append_left _ hx)) (fun x hx => hv x (List.mem_append_left _ hx)) e2, e1]
theorem enc5_inj : ∀ (w v : List Int), (∀ c ∈ w, 97 ≤ c ∧ c ≤ 122) → (∀ c ∈ v, 97 ≤ c ∧ c ≤ 122) → enc5 w = enc5 v → w = v := by
  intro w
  induction w using revRecOn with
  | nil =>
    intro v _ hv h
    induction v using revRecOn with
    | nil => rfl
    | append_singleton v c _ =>
      have h1 := enc5_rg v (fun x hx => hv x (List.mem_append_left _ hx))
      have h2 := hv c (List.mem_append_right _ (List.mem_singleton.mpr rfl))
      rw [enc5_snoc] at h
      have : enc5 [] = 0 := rfl
      omega
  | append_singleton w c ih =>
    intro v hw hv h
    have g1 := enc5_rg w (fun x hx => hw x (List.mem_append_left _ hx))
    have g2 := hw c (List.mem_append_right _ (List.mem_singleton.mpr rfl))
    induction v using revRecOn with
    | nil =>
      rw [enc5_snoc] at h
      have : enc5 [] = 0 := rfl
      omega
    | append_singleton v d _ =>
      have h1 := enc5_rg v (fun x hx => hv x (List.mem_append_left _ hx))
      have h2 := hv d (List.mem_append_right _ (List.mem_singleton.mpr rfl))
      rw [enc5_snoc, enc5_snoc] at h
      have e1 : c = d := by omega
      have e2 : enc5 w = enc5 v := by omega
      rw [ih v (fun x hx => hw x (List.mem_append_left _ hx)) (fun x hx => hv x (List.mem_append_left _ hx)) e2, e1]
/-- the words that stand for themselves, in their order -/
def resv : List (List Int) := [[112, 108, 97, 99, 101], [101, 109, 112, 116, 121], [119, 97, 121], [109, 105, 110, 117, 116, 101, 115], [112, 101, 114, 115, 111, 110], [97, 116], [104, 105, 114, 101], [100, 111, 103], [101, 114, 114, 97, 110, 100], [115, 116, 114, 111, 107, 101], [119, 111, 114, 116, 104], [104, 111, 117, 114], [115, 116, 114, 111, 107, 101, 115], [114, 117, 108, 101], [111, 114], [97, 110, 100], [110, 111, 116], [104, 101, 114, 101], [100, 111, 103, 115]]
def kdF (w : List Int) : List (List Int) → Int → Int
  | [], _ => 3
  | r :: l, k => if w = r then k else kdF w l (k + 1)
/-- a word's kind: 100 + its place among those, or 3 -/
def kdW (w : List Int) : Int := kdF w resv 100
theorem resv_wd : ∀ r ∈ resv, ∀ c ∈ r, 97 ≤ c ∧ c ≤ 122 := by decide +kernel
theorem kdF_rg (w : List Int) : ∀ (l : List (List Int)) (k : Int), 0 ≤ k → kdF w l k = 3 ∨ (k ≤ kdF w l k ∧ kdF w l k < k + l.length)
  | [], k, _ => Or.inl rfl
  | r :: l, k, hk => by
    unfold kdF
    split
    · exact Or.inr ⟨Int.le_refl _, by simp only [List.length_cons]; omega⟩
    · rcases kdF_rg w l (k + 1) (by omega) with h | h
      · exact Or.inl h
      · exact Or.inr ⟨by omega, by simp only [List.length_cons]; omega⟩
theorem kdW_rg (w : List Int) : kdW w = 3 ∨ (100 ≤ kdW w ∧ kdW w < 119) := by
  have h := kdF_rg w resv 100 (by decide)
  have e : (resv.length : Int) = 19 := by decide
  unfold kdW
  omega
theorem kdF_3 (w : List Int) : ∀ (l : List (List Int)) (k : Int), 3 < k → (kdF w l k = 3 ↔ w ∉ l)
  | [], k, _ => by simp [kdF]
  | r :: l, k, hk => by
    unfold kdF
    split
    next e => simp [e]; omega
    next e => rw [kdF_3 w l (k + 1) (by omega)]; simp [e]
theorem kdW_3 (w : List Int) : kdW w = 3 ↔ w ∉ resv := kdF_3 w resv 100 (by decide)
theorem kdF_at (w : List Int) : ∀ (l : List (List Int)) (k : Int) (j : Nat), 3 < k → l.Nodup → (kdF w l k = k + j ↔ l[j]? = some w)
  | [], k, j, hk, _ => by simp [kdF]; omega
  | r :: l, k, j, hk, hn => by
    have hn2 := List.nodup_cons.mp hn
    unfold kdF
    cases j with
    | zero =>
      simp only [List.getElem?_cons_zero, Option.some.injEq]
      split
      next e => simp [e]
      next e =>
        constructor
        · intro h
          rcases kdF_rg w l (k + 1) (by omega) with q | q <;> omega
        · intro h; exact absurd h.symm e
    | succ j =>
      simp only [List.getElem?_cons_succ]
      split
      next e =>
        constructor
        · intro h; omega
        · intro h; exact absurd (e ▸ List.mem_of_getElem? h) hn2.1
      next e =>
        rw [← kdF_at w l (k + 1) j (by omega) hn2.2]
        constructor <;> intro h <;> omega
theorem kd_place {w : List Int} (hw : ∀ c ∈ w, 97 ≤ c ∧ c ≤ 122) : kdW w = 100 ↔ enc8 w = 482854658917 := by
  have h := kdF_at w resv 100 0 (by decide) (by decide +kernel)
  have e : resv[0]? = some [112, 108, 97, 99, 101] := rfl
  rw [e] at h
  have e8 : enc8 [112, 108, 97, 99, 101] = 482854658917 := by decide +kernel
  constructor
  · intro q
    have := Option.some.inj (h.mp q)
    rw [← this]; exact e8
  · intro q
    exact h.mpr (congrArg some (enc8_inj _ _ (resv_wd _ (List.mem_of_getElem? e)) hw (e8.trans q.symm)))
theorem kd_empty {w : List Int} (hw : ∀ c ∈ w, 97 ≤ c ∧ c ≤ 122) : kdW w = 101 ↔ enc8 w = 435627783289 := by
  have h := kdF_at w resv 100 1 (by decide) (by decide +kernel)
  have e : resv[1]? = some [101, 109, 112, 116, 121] := rfl
  rw [e] at h
  have e8 : enc8 [101, 109, 112, 116, 121] = 435627783289 := by decide +kernel
  constructor
  · intro q
    have := Option.some.inj (h.mp q)
    rw [← this]; exact e8
  · intro q
    exact h.mpr (congrArg some (enc8_inj _ _ (resv_wd _ (List.mem_of_getElem? e)) hw (e8.trans q.symm)))
theorem kd_way {w : List Int} (hw : ∀ c ∈ w, 97 ≤ c ∧ c ≤ 122) : kdW w = 102 ↔ enc8 w = 7823737 := by
  have h := kdF_at w resv 100 2 (by decide) (by decide +kernel)
  have e : resv[2]? = some [119, 97, 121] := rfl
  rw [e] at h
  have e8 : enc8 [119, 97, 121] = 7823737 := by decide +kernel
  constructor
  · intro q
    have := Option.some.inj (h.mp q)
    rw [← this]; exact e8
  · intro q
    exact h.mpr (congrArg some (enc8_inj _ _ (resv_wd _ (List.mem_of_getElem? e)) hw (e8.trans q.symm)))
theorem kd_minutes {w : List Int} (hw : ∀ c ∈ w, 97 ≤ c ∧ c ≤ 122) : kdW w = 103 ↔ enc8 w = 30796695599342963 := by
  have h := kdF_at w resv 100 3 (by decide) (by decide +kernel)
  have e : resv[3]? = some [109, 105, 110, 117, 116, 101, 115] := rfl
  rw [e] at h
  have e8 : enc8 [109, 105, 110, 117, 116, 101, 115] = 30796695599342963 := by decide +kernel
  constructor
  · intro q
    have := Option.some.inj (h.mp q)
    rw [← this]; exact e8
  · intro q
    exact h.mpr (congrArg some (enc8_inj _ _ (resv_wd _ (List.mem_of_getElem? e)) hw (e8.trans q.symm)))
theorem kd_person {w : List Int} (hw : ∀ c ∈ w, 97 ≤ c ∧ c ≤ 122) : kdW w = 104 ↔ enc8 w = 123581014175598 := by
  have h := kdF_at w resv 100 4 (by decide) (by decide +kernel)
  have e : resv[4]? = some [112, 101, 114, 115, 111, 110] := rfl
  rw [e] at h
  have e8 : enc8 [112, 101, 114, 115, 111, 110] = 123581014175598 := by decide +kernel
  constructor
  · intro q
    have := Option.some.inj (h.mp q)
    rw [← this]; exact e8
  · intro q
    exact h.mpr (congrArg some (enc8_inj _ _ (resv_wd _ (List.mem_of_getElem? e)) hw (e8.trans q.symm)))
theorem kd_at_ {w : List Int} (hw : ∀ c ∈ w, 97 ≤ c ∧ c ≤ 122) : kdW w = 105 ↔ enc8 w = 24948 := by
  have h := kdF_at w resv 100 5 (by decide) (by decide +kernel)
  have e : resv[5]? = some [97, 116] := rfl
  rw [e] at h
  have e8 : enc8 [97, 116] = 24948 := by decide +kernel
  constructor
  · intro q
    have := Option.some.inj (h.mp q)
    rw [← this]; exact e8
  · intro q
    exact h.mpr (congrArg some (enc8_inj _ _ (resv_wd _ (List.mem_of_getElem? e)) hw (e8.trans q.symm)))
theorem kd_hire {w : List Int} (hw : ∀ c ∈ w, 97 ≤ c ∧ c ≤ 122) : kdW w = 106 ↔ enc8 w = 1751741029 := by
  have h := kdF_at w resv 100 6 (by decide) (by decide +kernel)
  have e : resv[6]? = some [104, 105, 114, 101] := rfl
  rw [e] at h
  have e8 : enc8 [104, 105, 114, 101] = 1751741029 := by decide +kernel
  constructor
  · intro q
    have := Option.some.inj (h.mp q)
    rw [← this]; exact e8
  · intro q
    exact h.mpr (congrArg some (enc8_inj _ _ (resv_wd _ (List.mem_of_getElem? e)) hw (e8.trans q.symm)))
theorem kd_dog {w : List Int} (hw : ∀ c ∈ w, 97 ≤ c ∧ c ≤ 122) : kdW w = 107 ↔ enc8 w = 6582119 := by
  have h := kdF_at w resv 100 7 (by decide) (by decide +kernel)
  have e : resv[7]? = some [100, 111, 103] := rfl
  rw [e] at h
  have e8 : enc8 [100, 111, 103] = 6582119 := by decide +kernel
  constructor
  · intro q
    have := Option.some.inj (h.mp q)
    rw [← this]; exact e8
  · intro q
    exact h.mpr (congrArg some (enc8_inj _ _ (resv_wd _ (List.mem_of_getElem? e)) hw (e8.trans q.symm)))
theorem kd_errand {w : List Int} (hw : ∀ c ∈ w, 97 ≤ c ∧ c ≤ 122) : kdW w = 108 ↔ enc8 w = 111542219664996 := by
  have h := kdF_at w resv 100 8 (by decide) (by decide +kernel)
  have e : resv[8]? = some [101, 114, 114, 97, 110, 100] := rfl
  rw [e] at h
  have e8 : enc8 [101, 114, 114, 97, 110, 100] = 111542219664996 := by decide +kernel
  constructor
  · intro q
    have := Option.some.inj (h.mp q)
    rw [← this]; exact e8
  · intro q
    exact h.mpr (congrArg some (enc8_inj _ _ (resv_wd _ (List.mem_of_getElem? e)) hw (e8.trans q.symm)))
theorem kd_stroke {w : List Int} (hw : ∀ c ∈ w, 97 ≤ c ∧ c ≤ 122) : kdW w = 109 ↔ enc8 w = 126943973305189 := by
  have h := kdF_at w resv 100 9 (by decide) (by decide +kernel)
  have e : resv[9]? = some [115, 116, 114, 111, 107, 101] := rfl
  rw [e] at h
  have e8 : enc8 [115, 116, 114, 111, 107, 101] = 126943973305189 := by decide +kernel
  constructor
  · intro q
    have := Option.some.inj (h.mp q)
    rw [← this]; exact e8
  · intro q
    exact h.mpr (congrArg some (enc8_inj _ _ (resv_wd _ (List.mem_of_getElem? e)) hw (e8.trans q.symm)))
theorem kd_worth {w : List Int} (hw : ∀ c ∈ w, 97 ≤ c ∧ c ≤ 122) : kdW w = 110 ↔ enc8 w = 512970880104 := by
  have h := kdF_at w resv 100 10 (by decide) (by decide +kernel)
  have e : resv[10]? = some [119, 111, 114, 116, 104] := rfl
  rw [e] at h
  have e8 : enc8 [119, 111, 114, 116, 104] = 512970880104 := by decide +kernel
  constructor
  · intro q
    have := Option.some.inj (h.mp q)
    rw [← this]; exact e8
  · intro q
    exact h.mpr (congrArg some (enc8_inj _ _ (resv_wd _ (List.mem_of_getElem? e)) hw (e8.trans q.symm)))
theorem kd_hour {w : List Int} (hw : ∀ c ∈ w, 97 ≤ c ∧ c ≤ 122) : kdW w = 111 ↔ enc8 w = 1752135026 := by
  have h := kdF_at w resv 100 11 (by decide) (by decide +kernel)
  have e : resv[11]? = some [104, 111, 117, 114] := rfl
  rw [e] at h
  have e8 : enc8 [104, 111, 117, 114] = 1752135026 := by decide +kernel
  constructor
  · intro q
    have := Option.some.inj (h.mp q)
    rw [← this]; exact e8
  · intro q
    exact h.mpr (congrArg some (enc8_inj _ _ (resv_wd _ (List.mem_of_getElem? e)) hw (e8.trans q.symm)))
theorem kd_strokes {w : List Int} (hw : ∀ c ∈ w, 97 ≤ c ∧ c ≤ 122) : kdW w = 112 ↔ enc8 w = 32497657166128499 := by
  have h := kdF_at w resv 100 12 (by decide) (by decide +kernel)
  have e : resv[12]? = some [115, 116, 114, 111, 107, 101, 115] := rfl
  rw [e] at h
  have e8 : enc8 [115, 116, 114, 111, 107, 101, 115] = 32497657166128499 := by decide +kernel
  constructor
  · intro q
    have := Option.some.inj (h.mp q)
    rw [← this]; exact e8
  · intro q
    exact h.mpr (congrArg some (enc8_inj _ _ (resv_wd _ (List.mem_of_getElem? e)) hw (e8.trans q.symm)))
theorem kd_rule {w : List Int} (hw : ∀ c ∈ w, 97 ≤ c ∧ c ≤ 122) : kdW w = 113 ↔ enc8 w = 1920298085 := by
  have h := kdF_at w resv 100 13 (by decide) (by decide +kernel)
  have e : resv[13]? = some [114, 117, 108, 101] := rfl
  rw [e] at h
  have e8 : enc8 [114, 117, 108, 101] = 1920298085 := by decide +kernel
  constructor
  · intro q
    have := Option.some.inj (h.mp q)
    rw [← this]; exact e8
  · intro q
    exact h.mpr (congrArg some (enc8_inj _ _ (resv_wd _ (List.mem_of_getElem? e)) hw (e8.trans q.symm)))
theorem kd_or_ {w : List Int} (hw : ∀ c ∈ w, 97 ≤ c ∧ c ≤ 122) : kdW w = 114 ↔ enc8 w = 28530 := by
  have h := kdF_at w resv 100 14 (by decide) (by decide +kernel)
  have e : resv[14]? = some [111, 114] := rfl
  rw [e] at h
  have e8 : enc8 [111, 114] = 28530 := by decide +kernel
  constructor
  · intro q
    have := Option.some.inj (h.mp q)
    rw [← this]; exact e8
  · intro q
    exact h.mpr (congrArg some (enc8_inj _ _ (resv_wd _ (List.mem_of_getElem? e)) hw (e8.trans q.symm)))
theorem kd_and_ {w : List Int} (hw : ∀ c ∈ w, 97 ≤ c ∧ c ≤ 122) : kdW w = 115 ↔ enc8 w = 6385252 := by
  have h := kdF_at w resv 100 15 (by decide) (by decide +kernel)
  have e : resv[15]? = some [97, 110, 100] := rfl
  rw [e] at h
  have e8 : enc8 [97, 110, 100] = 6385252 := by decide +kernel
  constructor
  · intro q
    have := Option.some.inj (h.mp q)
    rw [← this]; exact e8
  · intro q
    exact h.mpr (congrArg some (enc8_inj _ _ (resv_wd _ (List.mem_of_getElem? e)) hw (e8.trans q.symm)))
theorem kd_not_ {w : List Int} (hw : ∀ c ∈ w, 97 ≤ c ∧ c ≤ 122) : kdW w = 116 ↔ enc8 w = 7237492 := by
  have h := kdF_at w resv 100 16 (by decide) (by decide +kernel)
  have e : resv[16]? = some [110, 111, 116] := rfl
  rw [e] at h
  have e8 : enc8 [110, 111, 116] = 7237492 := by decide +kernel
  constructor
  · intro q
    have := Option.some.inj (h.mp q)
    rw [← this]; exact e8
  · intro q
    exact h.mpr (congrArg some (enc8_inj _ _ (resv_wd _ (List.mem_of_getElem? e)) hw (e8.trans q.symm)))
theorem kd_here {w : List Int} (hw : ∀ c ∈ w, 97 ≤ c ∧ c ≤ 122) : kdW w = 117 ↔ enc8 w = 1751478885 := by
  have h := kdF_at w resv 100 17 (by decide) (by decide +kernel)
  have e : resv[17]? = some [104, 101, 114, 101] := rfl
  rw [e] at h
  have e8 : enc8 [104, 101, 114, 101] = 1751478885 := by decide +kernel
  constructor
  · intro q
    have := Option.some.inj (h.mp q)
    rw [← this]; exact e8
  · intro q
    exact h.mpr (congrArg some (enc8_inj _ _ (resv_wd _ (List.mem_of_getElem? e)) hw (e8.trans q.symm)))
theorem kd_dogs {w : List Int} (hw : ∀ c ∈ w, 97 ≤ c ∧ c ≤ 122) : kdW w = 118 ↔ enc8 w = 1685022579 := by
  have h := kdF_at w resv 100 18 (by decide) (by decide +kernel)
  have e : resv[18]? = some [100, 111, 103, 115] := rfl
  rw [e] at h
  have e8 : enc8 [100, 111, 103, 115] = 1685022579 := by decide +kernel
  constructor
  · intro q
    have := Option.some.inj (h.mp q)
    rw [← this]; exact e8
  · intro q
    exact h.mpr (congrArg some (enc8_inj _ _ (resv_wd _ (List.mem_of_getElem? e)) hw (e8.trans q.symm)))
