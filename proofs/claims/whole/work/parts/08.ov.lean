def yCrT : List (List (Nat × Int)) := [[(0, 2), (1, 4), (2, 59), (3, 10), (4, 13), (7, 54)], [(0, 3)], [], [(0, 5), (1, 6), (2, 7), (3, 8), (4, 9)], [], [], [], [], [], [(0, 11), (1, 12)], [], [], [(0, 84), (1, 87), (2, 90)], [(0, 15), (1, 17), (2, 19), (3, 21), (4, 22), (5, 23), (6, 24), (7, 25), (8, 26), (9, 27), (10, 28), (11, 29), (12, 30), (13, 31)], [(0, 16)], [], [(0, 18)], [], [(0, 20)], [], [], [], [], [], [], [], [], [], [], [], [(0, 32), (1, 33)], [], [], [(0, 35), (1, 37), (2, 39), (3, 41), (4, 42), (5, 43), (6, 44), (7, 45), (8, 46), (9, 47), (10, 48), (11, 49), (12, 50), (13, 51)], [(0, 36)], [], [(0, 38)], [], [(0, 40)], [], [], [], [], [], [], [], [], [], [], [], [(0, 52), (1, 53)], [], [], [(0, 2)], [(0, 56)], [], [(0, 58)], [], [(1, 79), (2, 60), (3, 66), (4, 67), (5, 68), (6, 72), (7, 73), (8, 74), (9, 75), (10, 76), (11, 77), (12, 78)], [(0, 61), (1, 62), (2, 63), (3, 64), (4, 65)], [], [], [], [], [], [], [], [(0, 69), (1, 70), (2, 71)], [], [], [], [], [], [], [], [], [], [], [(4, 80), (5, 81), (6, 82), (7, 83)], [], [], [], [], [(0, 85), (1, 86)], [], [], [(0, 88), (1, 89)], [], [], [(0, 91), (1, 92)], [], [], [(0, 94), (1, 95), (11, 96), (12, 97), (13, 98), (14, 99), (15, 100), (16, 101), (17, 102), (18, 103), (19, 104), (20, 105), (21, 106), (22, 107), (23, 108), (24, 109), (25, 110), (26, 111), (27, 112), (28, 113), (29, 114), (30, 115), (31, 116), (32, 117), (33, 118), (34, 119), (35, 120), (36, 121), (37, 122), (38, 123), (39, 124), (45, 125), (46, 126), (56, 127), (57, 128), (58, 129), (59, 130), (60, 131), (61, 132), (62, 133), (63, 134), (64, 135), (65, 136), (66, 137), (67, 138), (71, 139), (72, 140), (75, 141), (76, 142), (77, 143), (78, 144), (79, 145), (80, 146), (83, 147), (84, 148), (85, 149), (86, 150)], [], [], [], [], [], [], [], [], [], [], [], [], [], [], [], [], [], [], [], [], [], [], [], [], [], [], [], [], [], [], [], [], [], [], [], [], [], [], [], [], [], [], [], [], [], [], [], [], [], [], [], [], [], [], [], [], []]
def yLk (k : Nat) : List (Nat × Int) → Int
  | [] => 0
  | q :: l => if q.1 = k then q.2 else yLk k l
def yCr (i k : Nat) : Int := yLk k (yCrT.getD i [])
/-- the store, with the references that never change laid over it -/
def ov (σ : ySt) : ySt := fun i k => if yCr i k = 0 then σ i k else yCr i k
theorem ov_set {σ : ySt} {i k : Nat} {z : Int} (h : yCr i k = 0) : yset (ov σ) i k z = ov (yset σ i k z) := by
  funext a j
  unfold yset ov
  by_cases e : a = i ∧ j = k
  · obtain ⟨rfl, rfl⟩ := e
    simp [h]
  · simp [e]
theorem ov_at {σ : ySt} {i k : Nat} (h : yCr i k = 0) : ov σ i k = σ i k := if_pos h
def bnd {α β : Type} (a : α) (f : α → β) : β := f a
def chk {α : Type} (c : Prop) [Decidable c] (k : Option α) : Option α := if c then k else none
def chkI {α : Type} (z : Int) (k : Option α) : Option α := if -2147483648 ≤ z ∧ z < 2147483648 then k else none
def chkA {α : Type} (len : Nat) (j : Int) (k : Option α) : Option α := if 0 ≤ j ∧ j < (len : Int) then k else none
def bndO {α β : Type} (x : Option α) (f : α → Option β) : Option β := match x with
  | none => none
  | some a => f a
def chkT {α : Type} (z : Int) (k : Nat → Option α) : Option α := if z = 14 ∨ z = 34 then k (z.toNat - 1) else none
def chkP {α : Type} (z : Int) (k : Nat → Option α) : Option α := if z = 55 ∨ z = 57 then k (z.toNat - 1) else none
def chkB {α : Type} (j : Int) (k : Nat → Option α) : Option α := if j = 0 ∨ j = 1 ∨ j = 2 then k (83 + 3 * j.toNat) else none
def chkW {α : Type} (j : Int) (k : Nat → Option α) : Option α := if j = 0 ∨ j = 1 ∨ j = 2 then k (68 + j.toNat) else none
theorem chk_some {α : Type} {c : Prop} [Decidable c] {k : Option α} {x : α} (h : chk c k = some x) : c ∧ k = some x := by
  unfold chk at h
  split at h
  · exact ⟨by assumption, h⟩
  · cases h
theorem chkI_some {α : Type} {z : Int} {k : Option α} {x : α} (h : chkI z k = some x) : yI z ∧ k = some x := by
  unfold chkI at h
  split at h
  · exact ⟨by assumption, h⟩
  · cases h
theorem chkA_some {α : Type} {len : Nat} {j : Int} {k : Option α} {x : α} (h : chkA len j k = some x) : (0 ≤ j ∧ j < (len : Int)) ∧ k = some x := by
  unfold chkA at h
  split at h
  · exact ⟨by assumption, h⟩
  · cases h
theorem bndO_some {α β : Type} {x : Option α} {f : α → Option β} {b : β} (h : bndO x f = some b) : ∃ a, x = some a ∧ f a = some b := by
  cases x with
  | none => cases h
  | some a => exact ⟨a, rfl, h⟩
theorem chkT_some {α : Type} {z : Int} {k : Nat → Option α} {x : α} (h : chkT z k = some x) : ∃ T : Nat, (T = 13 ∨ T = 33) ∧ z.toNat = T + 1 ∧ k T = some x := by
  unfold chkT at h
  split at h
  · exact ⟨_, by omega, by omega, h⟩
  · cases h
theorem chkP_some {α : Type} {z : Int} {k : Nat → Option α} {x : α} (h : chkP z k = some x) : ∃ T : Nat, (T = 54 ∨ T = 56) ∧ z.toNat = T + 1 ∧ k T = some x := by
  unfold chkP at h
  split at h
  · exact ⟨_, by omega, by omega, h⟩
  · cases h
theorem chkB_some {α : Type} {j : Int} {k : Nat → Option α} {x : α} (h : chkB j k = some x) : ∃ T : Nat, (T = 9 ∨ T = 83 ∨ T = 86 ∨ T = 89) ∧ (∀ σ : ySt, (ov σ 12 j.toNat).toNat = T + 1) ∧ 0 ≤ j ∧ j < 3 ∧ k T = some x := by
  unfold chkB at h
  split at h
  next q => rcases q with q | q | q <;> subst q <;> exact ⟨_, by decide, fun _ => rfl, by decide, by decide, h⟩
  · cases h
theorem chkW_some {α : Type} {j : Int} {k : Nat → Option α} {x : α} (h : chkW j k = some x) : ∃ T : Nat, (T = 68 ∨ T = 69 ∨ T = 70) ∧ (∀ σ : ySt, (ov σ 67 j.toNat).toNat = T + 1) ∧ 0 ≤ j ∧ j < 3 ∧ k T = some x := by
  unfold chkW at h
  split at h
  next q => rcases q with q | q | q <;> subst q <;> exact ⟨_, by decide, fun _ => rfl, by decide, by decide, h⟩
  · cases h
theorem y_rv (T : Nat) : yFv 3 ((T : Int) + 1) = .inr (.inr (T + 1)) := by
  have : ((T : Int) + 1).toNat = T + 1 := by omega
  simp [yFv, this]
/-- arrays of numbers -/
def yArr (kd a : Nat) : Prop := (yKd a).1 = kd ∧ a < 150
theorem yArr_kd {kd a : Nat} (h : (yKd a).1 = kd ∧ a < 150) : yKd a = (kd, (yKd a).2) := by rw [← h.1]
theorem yArr_cr {a : Nat} (h : 20 ≤ (yKd a).1 ∧ (yKd a).1 < 24) (h2 : a < 150) (k : Nat) : yCr a k = 0 := by
  have key : ∀ a : Fin 150, 20 ≤ (yKd a).1 ∧ (yKd a).1 < 24 → yCrT.getD a [] = [] := by decide +kernel
  unfold yCr
  rw [key ⟨a, h2⟩ h]
  rfl
def loop0 {β : Type} (F : Option β → Option β) : Nat → Option β
  | 0 => none
  | n + 1 => F (loop0 F n)
def loop1 {β : Type} (F : (Int → Option β) → Int → Option β) : Nat → Int → Option β
  | 0, _ => none
  | n + 1, x0 => F (loop1 F n) x0
def loop2 {β : Type} (F : (Int → Int → Option β) → Int → Int → Option β) : Nat → Int → Int → Option β
  | 0, _, _ => none
  | n + 1, x0, x1 => F (loop2 F n) x0 x1
def loop3 {β : Type} (F : (Int → Int → Int → Option β) → Int → Int → Int → Option β) : Nat → Int → Int → Int → Option β
  | 0, _, _, _ => none
  | n + 1, x0, x1, x2 => F (loop3 F n) x0 x1 x2
def loop4 {β : Type} (F : (Int → Int → Int → Int → Option β) → Int → Int → Int → Int → Option β) : Nat → Int → Int → Int → Int → Option β
  | 0, _, _, _, _ => none
  | n + 1, x0, x1, x2, x3 => F (loop4 F n) x0 x1 x2 x3
def loop5 {β : Type} (F : (Int → Int → Int → Int → Int → Option β) → Int → Int → Int → Int → Int → Option β) : Nat → Int → Int → Int → Int → Int → Option β
  | 0, _, _, _, _, _ => none
  | n + 1, x0, x1, x2, x3, x4 => F (loop5 F n) x0 x1 x2 x3 x4
def loopS0 {β : Type} (F : (ySt → Option β) → ySt → Option β) : Nat → ySt → Option β
  | 0, _ => none
  | n + 1, σ => F (loopS0 F n) σ
def loopS1 {β : Type} (F : (Int → ySt → Option β) → Int → ySt → Option β) : Nat → Int → ySt → Option β
  | 0, _, _ => none
  | n + 1, x0, σ => F (loopS1 F n) x0 σ
def loopS2 {β : Type} (F : (Int → Int → ySt → Option β) → Int → Int → ySt → Option β) : Nat → Int → Int → ySt → Option β
  | 0, _, _, _ => none
  | n + 1, x0, x1, σ => F (loopS2 F n) x0 x1 σ
def loopS3 {β : Type} (F : (Int → Int → Int → ySt → Option β) → Int → Int → Int → ySt → Option β) : Nat → Int → Int → Int → ySt → Option β
  | 0, _, _, _, _ => none
  | n + 1, x0, x1, x2, σ => F (loopS3 F n) x0 x1 x2 σ
def loopS4 {β : Type} (F : (Int → Int → Int → Int → ySt → Option β) → Int → Int → Int → Int → ySt → Option β) : Nat → Int → Int → Int → Int → ySt → Option β
  | 0, _, _, _, _, _ => none
  | n + 1, x0, x1, x2, x3, σ => F (loopS4 F n) x0 x1 x2 x3 σ
def loopS5 {β : Type} (F : (Int → Int → Int → Int → Int → ySt → Option β) → Int → Int → Int → Int → Int → ySt → Option β) : Nat → Int → Int → Int → Int → Int → ySt → Option β
  | 0, _, _, _, _, _, _ => none
  | n + 1, x0, x1, x2, x3, x4, σ => F (loopS5 F n) x0 x1 x2 x3 x4 σ
theorem bnd_j {α β : Type} {a : α} {f : α → Option β} {x : β} {P : Prop} (Q : α → Prop) (hq : Q a) (k : ∀ j, Q j → f j = some x → P) (h : bnd a f = some x) : P := k a hq h
theorem bnd_i {α β : Type} {a : α} {f : α → Option β} {x : β} (h : bnd a f = some x) : ∃ z, z = a ∧ f z = some x := ⟨a, rfl, h⟩
def bndR {β : Type} (x : Option (Int × ySt)) (f : Int → ySt → Option β) : Option β := match x with
  | none => none
  | some a => f a.1 a.2
theorem bndR_some {β : Type} {x : Option (Int × ySt)} {f : Int → ySt → Option β} {b : β} (h : bndR x f = some b) : ∃ r σ, x = some (r, σ) ∧ f r σ = some b := by
  cases x with
  | none => cases h
  | some a => exact ⟨a.1, a.2, rfl, h⟩
theorem ov_set1 {σ σ1 : ySt} {i k : Nat} {z : Int} (e : σ1 = yset σ i k z) (h : yCr i k = 0) : yset (ov σ) i k z = ov σ1 := by
  rw [e]
  exact ov_set h
/-- System.arraycopy -/
def ycpy (σ : ySt) (s sp d dp n : Nat) : ySt := fun i k => if i = d ∧ dp ≤ k ∧ k < dp + n then σ s (sp + (k - dp)) else σ i k
def chkC {α : Type} (ls ld : Nat) (sp dp n : Int) (k : Option α) : Option α := if 0 ≤ sp ∧ 0 ≤ dp ∧ 0 ≤ n ∧ sp + n ≤ (ls : Int) ∧ dp + n ≤ (ld : Int) then k else none
theorem chkC_some {α : Type} {ls ld : Nat} {sp dp n : Int} {k : Option α} {x : α} (h : chkC ls ld sp dp n k = some x) : (0 ≤ sp ∧ 0 ≤ dp ∧ 0 ≤ n ∧ sp + n ≤ (ls : Int) ∧ dp + n ≤ (ld : Int)) ∧ k = some x := by
  unfold chkC at h
  split at h
  · exact ⟨by assumption, h⟩
  · cases h
theorem ov_cpy1 {σ σ1 : ySt} {s sp d dp n : Nat} (e : σ1 = ycpy σ s sp d dp n) (h1 : ∀ k, yCr s k = 0) (h2 : ∀ k, yCr d k = 0) : ycpy (ov σ) s sp d dp n = ov σ1 := by
  subst e
  funext i k
  unfold ycpy ov
  by_cases q : i = d ∧ dp ≤ k ∧ k < dp + n
  · obtain ⟨rfl, q⟩ := q
    simp [q, h1, h2]
  · simp [q]
theorem yLen_ok {a : Nat} (h : a < 150) : yIb ((yKd a).2 : Int) = true := by
  have key : ∀ a : Fin 150, yIb ((yKd a).2 : Int) = true := by decide +kernel
  exact key ⟨a, h⟩
theorem loop0_ind {β : Type} {F : Option β → Option β} {P : Prop} {res : β} (step : ∀ k, (k = some res → P) → F k = some res → P) : ∀ n, loop0 F n = some res → P
  | 0, h => by cases h
  | n + 1, h => step _ (loop0_ind step n) h
theorem loop1_ind {β : Type} {F : (Int → Option β) → Int → Option β} {P : Int → Prop} {res : β} (step : ∀ k, (∀ x0, k x0 = some res → P x0) → ∀ x0, F k x0 = some res → P x0) : ∀ n x0, loop1 F n x0 = some res → P x0
  | 0, _, h => by cases h
  | n + 1, x0, h => step _ (loop1_ind step n) x0 h
theorem loop2_ind {β : Type} {F : (Int → Int → Option β) → Int → Int → Option β} {P : Int → Int → Prop} {res : β} (step : ∀ k, (∀ x0 x1, k x0 x1 = some res → P x0 x1) → ∀ x0 x1, F k x0 x1 = some res → P x0 x1) : ∀ n x0 x1, loop2 F n x0 x1 = some res → P x0 x1
  | 0, _, _, h => by cases h
  | n + 1, x0, x1, h => step _ (loop2_ind step n) x0 x1 h
theorem loop3_ind {β : Type} {F : (Int → Int → Int → Option β) → Int → Int → Int → Option β} {P : Int → Int → Int → Prop} {res : β} (step : ∀ k, (∀ x0 x1 x2, k x0 x1 x2 = some res → P x0 x1 x2) → ∀ x0 x1 x2, F k x0 x1 x2 = some res → P x0 x1 x2) : ∀ n x0 x1 x2, loop3 F n x0 x1 x2 = some res → P x0 x1 x2
  | 0, _, _, _, h => by cases h
  | n + 1, x0, x1, x2, h => step _ (loop3_ind step n) x0 x1 x2 h
theorem loop4_ind {β : Type} {F : (Int → Int → Int → Int → Option β) → Int → Int → Int → Int → Option β} {P : Int → Int → Int → Int → Prop} {res : β} (step : ∀ k, (∀ x0 x1 x2 x3, k x0 x1 x2 x3 = some res → P x0 x1 x2 x3) → ∀ x0 x1 x2 x3, F k x0 x1 x2 x3 = some res → P x0 x1 x2 x3) : ∀ n x0 x1 x2 x3, loop4 F n x0 x1 x2 x3 = some res → P x0 x1 x2 x3
  | 0, _, _, _, _, h => by cases h
  | n + 1, x0, x1, x2, x3, h => step _ (loop4_ind step n) x0 x1 x2 x3 h
theorem loop5_ind {β : Type} {F : (Int → Int → Int → Int → Int → Option β) → Int → Int → Int → Int → Int → Option β} {P : Int → Int → Int → Int → Int → Prop} {res : β} (step : ∀ k, (∀ x0 x1 x2 x3 x4, k x0 x1 x2 x3 x4 = some res → P x0 x1 x2 x3 x4) → ∀ x0 x1 x2 x3 x4, F k x0 x1 x2 x3 x4 = some res → P x0 x1 x2 x3 x4) : ∀ n x0 x1 x2 x3 x4, loop5 F n x0 x1 x2 x3 x4 = some res → P x0 x1 x2 x3 x4
  | 0, _, _, _, _, _, h => by cases h
  | n + 1, x0, x1, x2, x3, x4, h => step _ (loop5_ind step n) x0 x1 x2 x3 x4 h
theorem loopS0_ind {β : Type} {F : (ySt → Option β) → ySt → Option β} {P : ySt → Prop} {res : β} (step : ∀ k, (∀ σ, k σ = some res → P σ) → ∀ σ, F k σ = some res → P σ) : ∀ n σ, loopS0 F n σ = some res → P σ
  | 0, _, h => by cases h
  | n + 1, σ, h => step _ (loopS0_ind step n) σ h
theorem loopS1_ind {β : Type} {F : (Int → ySt → Option β) → Int → ySt → Option β} {P : Int → ySt → Prop} {res : β} (step : ∀ k, (∀ x0 σ, k x0 σ = some res → P x0 σ) → ∀ x0 σ, F k x0 σ = some res → P x0 σ) : ∀ n x0 σ, loopS1 F n x0 σ = some res → P x0 σ
  | 0, _, _, h => by cases h
  | n + 1, x0, σ, h => step _ (loopS1_ind step n) x0 σ h
theorem loopS2_ind {β : Type} {F : (Int → Int → ySt → Option β) → Int → Int → ySt → Option β} {P : Int → Int → ySt → Prop} {res : β} (step : ∀ k, (∀ x0 x1 σ, k x0 x1 σ = some res → P x0 x1 σ) → ∀ x0 x1 σ, F k x0 x1 σ = some res → P x0 x1 σ) : ∀ n x0 x1 σ, loopS2 F n x0 x1 σ = some res → P x0 x1 σ
  | 0, _, _, _, h => by cases h
  | n + 1, x0, x1, σ, h => step _ (loopS2_ind step n) x0 x1 σ h
theorem loopS3_ind {β : Type} {F : (Int → Int → Int → ySt → Option β) → Int → Int → Int → ySt → Option β} {P : Int → Int → Int → ySt → Prop} {res : β} (step : ∀ k, (∀ x0 x1 x2 σ, k x0 x1 x2 σ = some res → P x0 x1 x2 σ) → ∀ x0 x1 x2 σ, F k x0 x1 x2 σ = some res → P x0 x1 x2 σ) : ∀ n x0 x1 x2 σ, loopS3 F n x0 x1 x2 σ = some res → P x0 x1 x2 σ
  | 0, _, _, _, _, h => by cases h
  | n + 1, x0, x1, x2, σ, h => step _ (loopS3_ind step n) x0 x1 x2 σ h
theorem loopS4_ind {β : Type} {F : (Int → Int → Int → Int → ySt → Option β) → Int → Int → Int → Int → ySt → Option β} {P : Int → Int → Int → Int → ySt → Prop} {res : β} (step : ∀ k, (∀ x0 x1 x2 x3 σ, k x0 x1 x2 x3 σ = some res → P x0 x1 x2 x3 σ) → ∀ x0 x1 x2 x3 σ, F k x0 x1 x2 x3 σ = some res → P x0 x1 x2 x3 σ) : ∀ n x0 x1 x2 x3 σ, loopS4 F n x0 x1 x2 x3 σ = some res → P x0 x1 x2 x3 σ
  | 0, _, _, _, _, _, h => by cases h
  | n + 1, x0, x1, x2, x3, σ, h => step _ (loopS4_ind step n) x0 x1 x2 x3 σ h
theorem loopS5_ind {β : Type} {F : (Int → Int → Int → Int → Int → ySt → Option β) → Int → Int → Int → Int → Int → ySt → Option β} {P : Int → Int → Int → Int → Int → ySt → Prop} {res : β} (step : ∀ k, (∀ x0 x1 x2 x3 x4 σ, k x0 x1 x2 x3 x4 σ = some res → P x0 x1 x2 x3 x4 σ) → ∀ x0 x1 x2 x3 x4 σ, F k x0 x1 x2 x3 x4 σ = some res → P x0 x1 x2 x3 x4 σ) : ∀ n x0 x1 x2 x3 x4 σ, loopS5 F n x0 x1 x2 x3 x4 σ = some res → P x0 x1 x2 x3 x4 σ
  | 0, _, _, _, _, _, _, h => by cases h
  | n + 1, x0, x1, x2, x3, x4, σ, h => step _ (loopS5_ind step n) x0 x1 x2 x3 x4 σ h
section YO
variable {E : yE} {M : yM} {R : Room} {Qf : List Frame → Array Value → State → State → Prop} {pc n kc ks : Nat} {L : List (Nat × yV)} {st : List yV} {S : ySt}
theorem y_pick {L1 : List (Nat × yV)} (js : List Nat) (hj : js.filterMap (fun j => L[j]?) = L1) (h : Y E M R Qf pc L1 st S n kc ks) : Y E M R Qf pc L st S n kc ks := by
  subst hj
  intro p l e s m args below meth c H locs ls C P F hl hL hs
  refine h p l e s m args below meth c H locs ls C P F (lv_sub hl js ?_) (fun q hq => ?_) hs
  · unfold lv_pick yLs
    rw [List.map_filterMap]
    refine congrArg (fun f => List.filterMap f js) (funext fun j => ?_)
    simp
  · obtain ⟨j, -, hj⟩ := List.mem_filterMap.mp hq
    exact hL q (List.mem_of_getElem? hj)
theorem yo_iald (i len : Nat) {j z : Int} (hi : i < n) (hk : yKd i = (20, len)) (h1 : 0 ≤ j ∧ j < (len : Int)) (hv : S i j.toNat = z) (hd : decode M.2.1 pc = .ok (.iaload, 1)) (h : Y E M R Qf (pc + 1) L (.inl z :: st) S n kc ks) : Y E M R Qf pc L (.inl j :: .inr (.inr (i + 1)) :: st) S n kc ks := by
  subst hv
  exact y_iald i len hi hk h1.1 h1.2 hd h
theorem yo_bald (i len : Nat) {j z : Int} (hi : i < n) (hk : yKd i = (22, len)) (h1 : 0 ≤ j ∧ j < (len : Int)) (hv : S i j.toNat = z) (hd : decode M.2.1 pc = .ok (.baload, 1)) (h : Y E M R Qf (pc + 1) L (.inl z :: st) S n kc ks) : Y E M R Qf pc L (.inl j :: .inr (.inr (i + 1)) :: st) S n kc ks := by
  subst hv
  exact y_bald i len hi hk h1.1 h1.2 hd h
theorem yo_zald (i len : Nat) {j z : Int} (hi : i < n) (hk : yKd i = (23, len)) (h1 : 0 ≤ j ∧ j < (len : Int)) (hv : S i j.toNat = z) (hd : decode M.2.1 pc = .ok (.baload, 1)) (h : Y E M R Qf (pc + 1) L (.inl z :: st) S n kc ks) : Y E M R Qf pc L (.inl j :: .inr (.inr (i + 1)) :: st) S n kc ks := by
  subst hv
  exact y_zald i len hi hk h1.1 h1.2 hd h
theorem yo_lald (i len : Nat) {j z : Int} (hi : i < n) (hk : yKd i = (21, len)) (h1 : 0 ≤ j ∧ j < (len : Int)) (hv : S i j.toNat = z) (hd : decode M.2.1 pc = .ok (.laload, 1)) (h : Y E M R Qf (pc + 1) L (.inr (.inl z) :: st) S n kc ks) : Y E M R Qf pc L (.inl j :: .inr (.inr (i + 1)) :: st) S n kc ks := by
  subst hv
  exact y_lald i len hi hk h1.1 h1.2 hd h
theorem yo_iast (i len : Nat) {j z : Int} {S1 : ySt} (hi : i < n) (hk : yKd i = (20, len)) (h1 : 0 ≤ j ∧ j < (len : Int)) (hv : yset S i j.toNat z = S1) (hd : decode M.2.1 pc = .ok (.iastore, 1)) (h : Y E M R Qf (pc + 1) L st S1 n kc ks) : Y E M R Qf pc L (.inl z :: .inl j :: .inr (.inr (i + 1)) :: st) S n kc ks := by
  subst hv
  exact y_iast i len hi hk h1.1 h1.2 hd h
theorem yo_last (i len : Nat) {j z : Int} {S1 : ySt} (hi : i < n) (hk : yKd i = (21, len)) (h1 : 0 ≤ j ∧ j < (len : Int)) (hv : yset S i j.toNat z = S1) (hd : decode M.2.1 pc = .ok (.lastore, 1)) (h : Y E M R Qf (pc + 1) L st S1 n kc ks) : Y E M R Qf pc L (.inr (.inl z) :: .inl j :: .inr (.inr (i + 1)) :: st) S n kc ks := by
  subst hv
  exact y_last i len hi hk h1.1 h1.2 hd h
theorem yo_bast (i len : Nat) {j z : Int} {S1 : ySt} (hi : i < n) (hk : yKd i = (22, len)) (h1 : 0 ≤ j ∧ j < (len : Int)) (hv : yset S i j.toNat (b32i2b z) = S1) (hd : decode M.2.1 pc = .ok (.bastore, 1)) (h : Y E M R Qf (pc + 1) L st S1 n kc ks) : Y E M R Qf pc L (.inl z :: .inl j :: .inr (.inr (i + 1)) :: st) S n kc ks := by
  subst hv
  exact y_bast i len hi hk h1.1 h1.2 hd h
theorem yo_zast (i len : Nat) {j z : Int} {S1 : ySt} (hi : i < n) (hk : yKd i = (23, len)) (h1 : 0 ≤ j ∧ j < (len : Int)) (hz : z = 0 ∨ z = 1) (hv : yset S i j.toNat z = S1) (hd : decode M.2.1 pc = .ok (.bastore, 1)) (h : Y E M R Qf (pc + 1) L st S1 n kc ks) : Y E M R Qf pc L (.inl z :: .inl j :: .inr (.inr (i + 1)) :: st) S n kc ks := by
  subst hv
  exact y_zast i len hi hk h1.1 h1.2 hz hd h
theorem yo_putI (i k9 k idx : Nat) {z : Int} {S1 : ySt} (hi : i < n) (hk : yKd i = (k9, 0)) (hc : k9 < 13) (hkn : k < yNf k9) (hw : Cond.fieldLink M.1.cls idx (yT k9 k).1 (yT k9 k).2.1 (yT k9 k).2.2.1 ∈ GW) (hfin : (yT k9 k).2.2.2 = false) (hd : decode M.2.1 pc = .ok (.putfield idx, 3)) (ht : yft k9 k = 0) (hty : yty k9 k = .int) (hv : yset S i k z = S1) (h : Y E M R Qf (pc + 3) L st S1 n kc ks) : Y E M R Qf pc L (.inl z :: .inr (.inr (i + 1)) :: st) S n kc ks := by
  subst hv
  exact y_putf i k9 k idx (z := z) hi hk hc hkn hw hfin hd (by rw [ht]; rfl) (fun b _ => by rw [hty]; exact ⟨rfl, rfl⟩) h
theorem yo_putZ (i k9 k idx : Nat) {z : Int} {S1 : ySt} (hi : i < n) (hk : yKd i = (k9, 0)) (hc : k9 < 13) (hkn : k < yNf k9) (hw : Cond.fieldLink M.1.cls idx (yT k9 k).1 (yT k9 k).2.1 (yT k9 k).2.2.1 ∈ GW) (hfin : (yT k9 k).2.2.2 = false) (hd : decode M.2.1 pc = .ok (.putfield idx, 3)) (ht : yft k9 k = 1) (hty : yty k9 k = .boolean) (hz : z = 0 ∨ z = 1) (hv : yset S i k z = S1) (h : Y E M R Qf (pc + 3) L st S1 n kc ks) : Y E M R Qf pc L (.inl z :: .inr (.inr (i + 1)) :: st) S n kc ks := by
  subst hv
  exact y_putf i k9 k idx (z := z) hi hk hc hkn hw hfin hd (by rw [ht]; rfl) (fun b _ => by rw [hty]; rcases hz with q | q <;> subst q <;> exact ⟨rfl, rfl⟩) h
theorem yo_putJ (i k9 k idx : Nat) {z : Int} {S1 : ySt} (hi : i < n) (hk : yKd i = (k9, 0)) (hc : k9 < 13) (hkn : k < yNf k9) (hw : Cond.fieldLink M.1.cls idx (yT k9 k).1 (yT k9 k).2.1 (yT k9 k).2.2.1 ∈ GW) (hfin : (yT k9 k).2.2.2 = false) (hd : decode M.2.1 pc = .ok (.putfield idx, 3)) (ht : yft k9 k = 2) (hty : yty k9 k = .long) (hv : yset S i k z = S1) (h : Y E M R Qf (pc + 3) L st S1 n kc ks) : Y E M R Qf pc L (.inr (.inl z) :: .inr (.inr (i + 1)) :: st) S n kc ks := by
  subst hv
  exact y_putf i k9 k idx (z := z) hi hk hc hkn hw hfin hd (by rw [ht]; rfl) (fun b _ => by rw [hty]; exact ⟨rfl, rfl⟩) h
theorem yo_putR (i k9 k idx T : Nat) {C : String} {S1 : ySt} (hi : i < n) (hk : yKd i = (k9, 0)) (hc : k9 < 13) (hkn : k < yNf k9) (hw : Cond.fieldLink M.1.cls idx (yT k9 k).1 (yT k9 k).2.1 (yT k9 k).2.2.1 ∈ GW) (hfin : (yT k9 k).2.2.2 = false) (hd : decode M.2.1 pc = .ok (.putfield idx, 3)) (ht : yft k9 k = 3) (hty : yty k9 k = .object C) (hv : yset S i k ((T : Int) + 1) = S1) (h : Y E M R Qf (pc + 3) L st S1 n kc ks) : Y E M R Qf pc L (.inr (.inr (T + 1)) :: .inr (.inr (i + 1)) :: st) S n kc ks := by
  subst hv
  exact y_putf i k9 k idx (z := (T : Int) + 1) hi hk hc hkn hw hfin hd (by rw [ht]; exact y_rv T) (fun b _ => by rw [hty]; exact ⟨rfl, rfl⟩) h
end YO
