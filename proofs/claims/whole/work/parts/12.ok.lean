/-! a function of the store answers, and its answer satisfies P -/
def Ok {α : Type} (x : Option α) (P : α → Prop) : Prop := ∃ a, x = some a ∧ P a
theorem Ok.mono {α : Type} {x : Option α} {P Q : α → Prop} (h : Ok x P) (hq : ∀ a, P a → Q a) : Ok x Q := by
  obtain ⟨a, h1, h2⟩ := h
  exact ⟨a, h1, hq a h2⟩
theorem Ok_some {α : Type} {a : α} {P : α → Prop} : Ok (some a) P ↔ P a := ⟨fun ⟨b, h1, h2⟩ => by cases h1; exact h2, fun h => ⟨a, rfl, h⟩⟩
theorem Ok_bnd {α β : Type} {a : α} {f : α → Option β} {P : β → Prop} : Ok (bnd a f) P ↔ Ok (f a) P := ⟨fun h => h, fun h => h⟩
theorem Ok_chk {α : Type} {c : Prop} {i : Decidable c} {k : Option α} {P : α → Prop} : Ok (@chk α c i k) P ↔ c ∧ Ok k P := by
  unfold chk
  by_cases h : c
  · simp [h]
  · simp [h, Ok]
theorem Ok_chkI {α : Type} {z : Int} {k : Option α} {P : α → Prop} : Ok (chkI z k) P ↔ (-2147483648 ≤ z ∧ z < 2147483648) ∧ Ok k P := by
  unfold chkI
  by_cases h : -2147483648 ≤ z ∧ z < 2147483648
  · simp [h]
  · simp [h, Ok]
theorem Ok_chkA {α : Type} {n : Nat} {z : Int} {k : Option α} {P : α → Prop} : Ok (chkA n z k) P ↔ (0 ≤ z ∧ z < (n : Int)) ∧ Ok k P := by
  unfold chkA
  by_cases h : 0 ≤ z ∧ z < (n : Int)
  · simp [h]
  · simp [h, Ok]
theorem Ok_chkC {α : Type} {a b : Nat} {sp dp n : Int} {k : Option α} {P : α → Prop} : Ok (chkC a b sp dp n k) P ↔ (0 ≤ sp ∧ 0 ≤ dp ∧ 0 ≤ n ∧ sp + n ≤ (a : Int) ∧ dp + n ≤ (b : Int)) ∧ Ok k P := by
  unfold chkC
  by_cases h : 0 ≤ sp ∧ 0 ≤ dp ∧ 0 ≤ n ∧ sp + n ≤ (a : Int) ∧ dp + n ≤ (b : Int)
  · simp [h]
  · simp [h, Ok]
theorem Ok_chkT {α : Type} {z : Int} {k : Nat → Option α} {P : α → Prop} : Ok (chkT z k) P ↔ (z = 14 ∨ z = 34) ∧ Ok (k (z.toNat - 1)) P := by
  unfold chkT
  by_cases h : z = 14 ∨ z = 34
  · simp [h]
  · simp [h, Ok]
theorem Ok_chkP {α : Type} {z : Int} {k : Nat → Option α} {P : α → Prop} : Ok (chkP z k) P ↔ (z = 55 ∨ z = 57) ∧ Ok (k (z.toNat - 1)) P := by
  unfold chkP
  by_cases h : z = 55 ∨ z = 57
  · simp [h]
  · simp [h, Ok]
theorem Ok_chkB {α : Type} {z : Int} {k : Nat → Option α} {P : α → Prop} : Ok (chkB z k) P ↔ (z = 0 ∨ z = 1 ∨ z = 2) ∧ Ok (k (83 + 3 * z.toNat)) P := by
  unfold chkB
  by_cases h : z = 0 ∨ z = 1 ∨ z = 2
  · simp [h]
  · simp [h, Ok]
theorem Ok_chkW {α : Type} {z : Int} {k : Nat → Option α} {P : α → Prop} : Ok (chkW z k) P ↔ (z = 0 ∨ z = 1 ∨ z = 2) ∧ Ok (k (68 + z.toNat)) P := by
  unfold chkW
  by_cases h : z = 0 ∨ z = 1 ∨ z = 2
  · simp [h]
  · simp [h, Ok]
theorem Ok_bndO {α β : Type} {x : Option α} {f : α → Option β} {P : β → Prop} : Ok (bndO x f) P ↔ Ok x (fun a => Ok (f a) P) := by
  cases x with
  | none => exact ⟨fun ⟨_, h, _⟩ => (Option.some_ne_none _ h.symm).elim, fun ⟨_, h, _⟩ => (Option.some_ne_none _ h.symm).elim⟩
  | some a => exact (Ok_some (a := a) (P := fun a => Ok (f a) P)).symm
theorem Ok_bndR {β : Type} {x : Option (Int × ySt)} {f : Int → ySt → Option β} {P : β → Prop} : Ok (bndR x f) P ↔ Ok x (fun a => Ok (f a.1 a.2) P) := by
  cases x with
  | none => exact ⟨fun ⟨_, h, _⟩ => (Option.some_ne_none _ h.symm).elim, fun ⟨_, h, _⟩ => (Option.some_ne_none _ h.symm).elim⟩
  | some a => exact (Ok_some (a := a) (P := fun a => Ok (f a.1 a.2) P)).symm
theorem Ok_ite {α : Type} {c : Prop} {i : Decidable c} {a b : Option α} {P : α → Prop} : Ok (@ite _ c i a b) P ↔ (c → Ok a P) ∧ (¬ c → Ok b P) := by
  by_cases h : c
  · simp [h]
  · simp [h]
theorem Ok_of {α : Type} {x : Option α} {a : α} {P : α → Prop} (h : x = some a) (hp : P a) : Ok x P := ⟨a, h, hp⟩
theorem Ok_eq {α : Type} {x : Option α} {a : α} (h : Ok x (fun b => b = a)) : x = some a := by
  obtain ⟨b, h1, h2⟩ := h
  rw [h1, h2]
theorem Ok_loopS0 {β : Type} {F : (ySt → Option β) → ySt → Option β} {P : β → Prop} (I : ySt → Prop) (μ : ySt → Nat) (step : ∀ (k : ySt → Option β) (σ : ySt), I σ → (∀ (τ : ySt), I τ → μ τ < μ σ → Ok (k τ) P) → Ok (F k σ) P) : ∀ (n : Nat) (σ : ySt), I σ → μ σ < n → Ok (loopS0 F n σ) P
  | 0, _, _, h => absurd h (Nat.not_lt_zero _)
  | n + 1, σ, hI, h => step (loopS0 F n) σ hI (fun τ hy hl => Ok_loopS0 I μ step n τ hy (by omega))
theorem Ok_loop1 {β : Type} {F : (Int → Option β) → Int → Option β} {P : β → Prop} (I : Int → Prop) (μ : Int → Nat) (step : ∀ (k : Int → Option β) (x0 : Int), I x0 → (∀ (y0 : Int), I y0 → μ y0 < μ x0 → Ok (k y0) P) → Ok (F k x0) P) : ∀ (n : Nat) (x0 : Int), I x0 → μ x0 < n → Ok (loop1 F n x0) P
  | 0, _, _, h => absurd h (Nat.not_lt_zero _)
  | n + 1, x0, hI, h => step (loop1 F n) x0 hI (fun y0 hy hl => Ok_loop1 I μ step n y0 hy (by omega))
theorem Ok_loopS1 {β : Type} {F : (Int → ySt → Option β) → Int → ySt → Option β} {P : β → Prop} (I : Int → ySt → Prop) (μ : Int → ySt → Nat) (step : ∀ (k : Int → ySt → Option β) (x0 : Int) (σ : ySt), I x0 σ → (∀ (y0 : Int) (τ : ySt), I y0 τ → μ y0 τ < μ x0 σ → Ok (k y0 τ) P) → Ok (F k x0 σ) P) : ∀ (n : Nat) (x0 : Int) (σ : ySt), I x0 σ → μ x0 σ < n → Ok (loopS1 F n x0 σ) P
  | 0, _, _, _, h => absurd h (Nat.not_lt_zero _)
  | n + 1, x0, σ, hI, h => step (loopS1 F n) x0 σ hI (fun y0 τ hy hl => Ok_loopS1 I μ step n y0 τ hy (by omega))
theorem Ok_loop2 {β : Type} {F : (Int → Int → Option β) → Int → Int → Option β} {P : β → Prop} (I : Int → Int → Prop) (μ : Int → Int → Nat) (step : ∀ (k : Int → Int → Option β) (x0 : Int) (x1 : Int), I x0 x1 → (∀ (y0 : Int) (y1 : Int), I y0 y1 → μ y0 y1 < μ x0 x1 → Ok (k y0 y1) P) → Ok (F k x0 x1) P) : ∀ (n : Nat) (x0 : Int) (x1 : Int), I x0 x1 → μ x0 x1 < n → Ok (loop2 F n x0 x1) P
  | 0, _, _, _, h => absurd h (Nat.not_lt_zero _)
  | n + 1, x0, x1, hI, h => step (loop2 F n) x0 x1 hI (fun y0 y1 hy hl => Ok_loop2 I μ step n y0 y1 hy (by omega))
theorem Ok_loopS2 {β : Type} {F : (Int → Int → ySt → Option β) → Int → Int → ySt → Option β} {P : β → Prop} (I : Int → Int → ySt → Prop) (μ : Int → Int → ySt → Nat) (step : ∀ (k : Int → Int → ySt → Option β) (x0 : Int) (x1 : Int) (σ : ySt), I x0 x1 σ → (∀ (y0 : Int) (y1 : Int) (τ : ySt), I y0 y1 τ → μ y0 y1 τ < μ x0 x1 σ → Ok (k y0 y1 τ) P) → Ok (F k x0 x1 σ) P) : ∀ (n : Nat) (x0 : Int) (x1 : Int) (σ : ySt), I x0 x1 σ → μ x0 x1 σ < n → Ok (loopS2 F n x0 x1 σ) P
  | 0, _, _, _, _, h => absurd h (Nat.not_lt_zero _)
  | n + 1, x0, x1, σ, hI, h => step (loopS2 F n) x0 x1 σ hI (fun y0 y1 τ hy hl => Ok_loopS2 I μ step n y0 y1 τ hy (by omega))
theorem Ok_loop3 {β : Type} {F : (Int → Int → Int → Option β) → Int → Int → Int → Option β} {P : β → Prop} (I : Int → Int → Int → Prop) (μ : Int → Int → Int → Nat) (step : ∀ (k : Int → Int → Int → Option β) (x0 : Int) (x1 : Int) (x2 : Int), I x0 x1 x2 → (∀ (y0 : Int) (y1 : Int) (y2 : Int), I y0 y1 y2 → μ y0 y1 y2 < μ x0 x1 x2 → Ok (k y0 y1 y2) P) → Ok (F k x0 x1 x2) P) : ∀ (n : Nat) (x0 : Int) (x1 : Int) (x2 : Int), I x0 x1 x2 → μ x0 x1 x2 < n → Ok (loop3 F n x0 x1 x2) P
  | 0, _, _, _, _, h => absurd h (Nat.not_lt_zero _)
  | n + 1, x0, x1, x2, hI, h => step (loop3 F n) x0 x1 x2 hI (fun y0 y1 y2 hy hl => Ok_loop3 I μ step n y0 y1 y2 hy (by omega))
theorem Ok_loopS3 {β : Type} {F : (Int → Int → Int → ySt → Option β) → Int → Int → Int → ySt → Option β} {P : β → Prop} (I : Int → Int → Int → ySt → Prop) (μ : Int → Int → Int → ySt → Nat) (step : ∀ (k : Int → Int → Int → ySt → Option β) (x0 : Int) (x1 : Int) (x2 : Int) (σ : ySt), I x0 x1 x2 σ → (∀ (y0 : Int) (y1 : Int) (y2 : Int) (τ : ySt), I y0 y1 y2 τ → μ y0 y1 y2 τ < μ x0 x1 x2 σ → Ok (k y0 y1 y2 τ) P) → Ok (F k x0 x1 x2 σ) P) : ∀ (n : Nat) (x0 : Int) (x1 : Int) (x2 : Int) (σ : ySt), I x0 x1 x2 σ → μ x0 x1 x2 σ < n → Ok (loopS3 F n x0 x1 x2 σ) P
  | 0, _, _, _, _, _, h => absurd h (Nat.not_lt_zero _)
  | n + 1, x0, x1, x2, σ, hI, h => step (loopS3 F n) x0 x1 x2 σ hI (fun y0 y1 y2 τ hy hl => Ok_loopS3 I μ step n y0 y1 y2 τ hy (by omega))
theorem Ok_loop4 {β : Type} {F : (Int → Int → Int → Int → Option β) → Int → Int → Int → Int → Option β} {P : β → Prop} (I : Int → Int → Int → Int → Prop) (μ : Int → Int → Int → Int → Nat) (step : ∀ (k : Int → Int → Int → Int → Option β) (x0 : Int) (x1 : Int) (x2 : Int) (x3 : Int), I x0 x1 x2 x3 → (∀ (y0 : Int) (y1 : Int) (y2 : Int) (y3 : Int), I y0 y1 y2 y3 → μ y0 y1 y2 y3 < μ x0 x1 x2 x3 → Ok (k y0 y1 y2 y3) P) → Ok (F k x0 x1 x2 x3) P) : ∀ (n : Nat) (x0 : Int) (x1 : Int) (x2 : Int) (x3 : Int), I x0 x1 x2 x3 → μ x0 x1 x2 x3 < n → Ok (loop4 F n x0 x1 x2 x3) P
  | 0, _, _, _, _, _, h => absurd h (Nat.not_lt_zero _)
  | n + 1, x0, x1, x2, x3, hI, h => step (loop4 F n) x0 x1 x2 x3 hI (fun y0 y1 y2 y3 hy hl => Ok_loop4 I μ step n y0 y1 y2 y3 hy (by omega))
theorem Ok_loopS4 {β : Type} {F : (Int → Int → Int → Int → ySt → Option β) → Int → Int → Int → Int → ySt → Option β} {P : β → Prop} (I : Int → Int → Int → Int → ySt → Prop) (μ : Int → Int → Int → Int → ySt → Nat) (step : ∀ (k : Int → Int → Int → Int → ySt → Option β) (x0 : Int) (x1 : Int) (x2 : Int) (x3 : Int) (σ : ySt), I x0 x1 x2 x3 σ → (∀ (y0 : Int) (y1 : Int) (y2 : Int) (y3 : Int) (τ : ySt), I y0 y1 y2 y3 τ → μ y0 y1 y2 y3 τ < μ x0 x1 x2 x3 σ → Ok (k y0 y1 y2 y3 τ) P) → Ok (F k x0 x1 x2 x3 σ) P) : ∀ (n : Nat) (x0 : Int) (x1 : Int) (x2 : Int) (x3 : Int) (σ : ySt), I x0 x1 x2 x3 σ → μ x0 x1 x2 x3 σ < n → Ok (loopS4 F n x0 x1 x2 x3 σ) P
  | 0, _, _, _, _, _, _, h => absurd h (Nat.not_lt_zero _)
  | n + 1, x0, x1, x2, x3, σ, hI, h => step (loopS4 F n) x0 x1 x2 x3 σ hI (fun y0 y1 y2 y3 τ hy hl => Ok_loopS4 I μ step n y0 y1 y2 y3 τ hy (by omega))
theorem Ok_loop5 {β : Type} {F : (Int → Int → Int → Int → Int → Option β) → Int → Int → Int → Int → Int → Option β} {P : β → Prop} (I : Int → Int → Int → Int → Int → Prop) (μ : Int → Int → Int → Int → Int → Nat) (step : ∀ (k : Int → Int → Int → Int → Int → Option β) (x0 : Int) (x1 : Int) (x2 : Int) (x3 : Int) (x4 : Int), I x0 x1 x2 x3 x4 → (∀ (y0 : Int) (y1 : Int) (y2 : Int) (y3 : Int) (y4 : Int), I y0 y1 y2 y3 y4 → μ y0 y1 y2 y3 y4 < μ x0 x1 x2 x3 x4 → Ok (k y0 y1 y2 y3 y4) P) → Ok (F k x0 x1 x2 x3 x4) P) : ∀ (n : Nat) (x0 : Int) (x1 : Int) (x2 : Int) (x3 : Int) (x4 : Int), I x0 x1 x2 x3 x4 → μ x0 x1 x2 x3 x4 < n → Ok (loop5 F n x0 x1 x2 x3 x4) P
  | 0, _, _, _, _, _, _, h => absurd h (Nat.not_lt_zero _)
  | n + 1, x0, x1, x2, x3, x4, hI, h => step (loop5 F n) x0 x1 x2 x3 x4 hI (fun y0 y1 y2 y3 y4 hy hl => Ok_loop5 I μ step n y0 y1 y2 y3 y4 hy (by omega))
theorem Ok_loopS5 {β : Type} {F : (Int → Int → Int → Int → Int → ySt → Option β) → Int → Int → Int → Int → Int → ySt → Option β} {P : β → Prop} (I : Int → Int → Int → Int → Int → ySt → Prop) (μ : Int → Int → Int → Int → Int → ySt → Nat) (step : ∀ (k : Int → Int → Int → Int → Int → ySt → Option β) (x0 : Int) (x1 : Int) (x2 : Int) (x3 : Int) (x4 : Int) (σ : ySt), I x0 x1 x2 x3 x4 σ → (∀ (y0 : Int) (y1 : Int) (y2 : Int) (y3 : Int) (y4 : Int) (τ : ySt), I y0 y1 y2 y3 y4 τ → μ y0 y1 y2 y3 y4 τ < μ x0 x1 x2 x3 x4 σ → Ok (k y0 y1 y2 y3 y4 τ) P) → Ok (F k x0 x1 x2 x3 x4 σ) P) : ∀ (n : Nat) (x0 : Int) (x1 : Int) (x2 : Int) (x3 : Int) (x4 : Int) (σ : ySt), I x0 x1 x2 x3 x4 σ → μ x0 x1 x2 x3 x4 σ < n → Ok (loopS5 F n x0 x1 x2 x3 x4 σ) P
  | 0, _, _, _, _, _, _, _, h => absurd h (Nat.not_lt_zero _)
  | n + 1, x0, x1, x2, x3, x4, σ, hI, h => step (loopS5 F n) x0 x1 x2 x3 x4 σ hI (fun y0 y1 y2 y3 y4 τ hy hl => Ok_loopS5 I μ step n y0 y1 y2 y3 y4 τ hy (by omega))
/-- a tail that several ways share -/
theorem Ok_jp {β γ : Type} (C : Prop) {x : Option β} {f : Option β → Option γ} {P : β → Prop} {Q : γ → Prop} (hb : C → Ok x P) (hf : ∀ x' : Option β, (C → Ok x' P) → Ok (f x') Q) : Ok (bnd x f) Q := hf x hb
theorem Ok_jp1 {α β γ : Type} (C : α → Prop) {x : α → Option β} {f : (α → Option β) → Option γ} {P : β → Prop} {Q : γ → Prop} (hb : ∀ a, C a → Ok (x a) P) (hf : ∀ x' : α → Option β, (∀ a, C a → Ok (x' a) P) → Ok (f x') Q) : Ok (bnd x f) Q := hf x hb
theorem Ok_jp2 {α α' β γ : Type} (C : α → α' → Prop) {x : α → α' → Option β} {f : (α → α' → Option β) → Option γ} {P : β → Prop} {Q : γ → Prop} (hb : ∀ a b, C a b → Ok (x a b) P) (hf : ∀ x' : α → α' → Option β, (∀ a b, C a b → Ok (x' a b) P) → Ok (f x') Q) : Ok (bnd x f) Q := hf x hb
theorem Ok_jp3 {α α' α'' β γ : Type} (C : α → α' → α'' → Prop) {x : α → α' → α'' → Option β} {f : (α → α' → α'' → Option β) → Option γ} {P : β → Prop} {Q : γ → Prop} (hb : ∀ a b c, C a b c → Ok (x a b c) P) (hf : ∀ x' : α → α' → α'' → Option β, (∀ a b c, C a b c → Ok (x' a b c) P) → Ok (f x') Q) : Ok (bnd x f) Q := hf x hb
theorem ite01_0 {c : Prop} {i : Decidable c} : ((@ite Int c i 1 0) = 0) ↔ ¬ c := by
  by_cases h : c
  · simp [h]
  · simp [h]
theorem Ok_jq {β : Type} (C : Prop) {x : Option β} {f : Option β → Option β} {P : β → Prop} (hb : C → Ok x P) (hf : ∀ x' : Option β, (C → Ok x' P) → Ok (f x') P) : Ok (bnd x f) P := hf x hb
theorem Ok_jq1 {α β : Type} (C : α → Prop) {x : α → Option β} {f : (α → Option β) → Option β} {P : β → Prop} (hb : ∀ a, C a → Ok (x a) P) (hf : ∀ x' : α → Option β, (∀ a, C a → Ok (x' a) P) → Ok (f x') P) : Ok (bnd x f) P := hf x hb
theorem Ok_jq2 {α α' β : Type} (C : α → α' → Prop) {x : α → α' → Option β} {f : (α → α' → Option β) → Option β} {P : β → Prop} (hb : ∀ a b, C a b → Ok (x a b) P) (hf : ∀ x' : α → α' → Option β, (∀ a b, C a b → Ok (x' a b) P) → Ok (f x') P) : Ok (bnd x f) P := hf x hb
theorem Ok_jq3 {α α' α'' β : Type} (C : α → α' → α'' → Prop) {x : α → α' → α'' → Option β} {f : (α → α' → α'' → Option β) → Option β} {P : β → Prop} (hb : ∀ a b c, C a b c → Ok (x a b c) P) (hf : ∀ x' : α → α' → α'' → Option β, (∀ a b c, C a b c → Ok (x' a b c) P) → Ok (f x') P) : Ok (bnd x f) P := hf x hb
