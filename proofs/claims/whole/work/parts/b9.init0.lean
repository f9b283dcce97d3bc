def yUp : List (Nat × Nat × Int) → ySt → ySt
  | [], S => S
  | q :: l, S => yset (yUp l S) q.1 q.2.1 q.2.2
theorem Fr0.yUp {n : Nat} {S : ySt} (h : Fr0 n S) : ∀ {l : List (Nat × Nat × Int)}, l.all (fun q => Nat.blt q.1 n) = true → Fr0 n (yUp l S)
  | [], _ => h
  | q :: l, hl => by
    simp only [List.all_cons, Bool.and_eq_true] at hl
    exact (Fr0.yUp h hl.2).set (Nat.blt_eq.mp hl.1)
/-- what the list says of a place -/
def lkL (i k : Nat) : List (Nat × Nat × Int) → Option Int
  | [] => none
  | q :: l => if q.1 = i ∧ q.2.1 = k then some q.2.2 else lkL i k l
theorem lkL_some {i k : Nat} {z : Int} {S : ySt} : ∀ {l : List (Nat × Nat × Int)}, lkL i k l = some z → yUp l S i k = z
  | [], h => by cases h
  | q :: l, h => by
    unfold lkL at h
    show yset (yUp l S) q.1 q.2.1 q.2.2 i k = z
    by_cases e : q.1 = i ∧ q.2.1 = k
    · rw [if_pos e] at h
      cases h
      rw [e.1, e.2, yset_at]
    · rw [if_neg e] at h
      rw [yset_ne (by
        by_cases w : i = q.1
        · exact Or.inr (fun w2 => e ⟨w.symm, w2.symm⟩)
        · exact Or.inl w)]
      exact lkL_some h
theorem lkL_none {i k : Nat} {S : ySt} : ∀ {l : List (Nat × Nat × Int)}, lkL i k l = none → yUp l S i k = S i k
  | [], _ => rfl
  | q :: l, h => by
    unfold lkL at h
    show yset (yUp l S) q.1 q.2.1 q.2.2 i k = S i k
    by_cases e : q.1 = i ∧ q.2.1 = k
    · rw [if_pos e] at h; cases h
    · rw [if_neg e] at h
      rw [yset_ne (by
        by_cases w : i = q.1
        · exact Or.inr (fun w2 => e ⟨w.symm, w2.symm⟩)
        · exact Or.inl w)]
      exact lkL_none h
theorem yUp_cell {i : Nat} {S : ySt} {l : List (Nat × Nat × Int)} (h : l.all (fun q => !Nat.beq q.1 i) = true) : yUp l S i = S i := by
  funext k
  refine lkL_none ?_
  induction l with
  | nil => rfl
  | cons q l ih =>
    simp only [List.all_cons, Bool.and_eq_true, Bool.not_eq_true'] at h
    unfold lkL
    rw [if_neg (fun w => by
      have h2 := h.1
      rw [w.1, Nat.beq_refl] at h2
      cases h2)]
    exact ih h.2
theorem yUp_app {S : ySt} {l2 : List (Nat × Nat × Int)} : ∀ {l1 : List (Nat × Nat × Int)}, yUp (l1 ++ l2) S = yUp l1 (yUp l2 S)
  | [] => rfl
  | q :: l => by
    show yset (yUp (l ++ l2) S) _ _ _ = yset (yUp l (yUp l2 S)) _ _ _
    rw [yUp_app (l1 := l)]
theorem yLk_mem {k : Nat} : ∀ {l : List (Nat × Int)}, yLk k l ≠ 0 → (k, yLk k l) ∈ l
  | [], h => absurd rfl h
  | q :: l, h => by
    unfold yLk at h ⊢
    by_cases e : q.1 = k
    · rw [if_pos e] at h ⊢
      rw [← e]
      exact List.mem_cons_self
    · rw [if_neg e] at h ⊢
      exact List.mem_cons_of_mem _ (yLk_mem h)
theorem ovp_self {T : Nat} {σ : ySt} (h : ∀ i, T ≤ i → i < T + 20 → ∀ q ∈ yCrT.getD i [], σ i q.1 = q.2) : ovp T σ = σ := by
  funext i k
  unfold ovp
  by_cases e : T ≤ i ∧ i < T + 20
  · rw [if_pos e]
    unfold ov
    by_cases e2 : yCr i k = 0
    · rw [if_pos e2]
    · rw [if_neg e2]
      exact (h i e.1 e.2 _ (yLk_mem e2)).symm
  · rw [if_neg e]
theorem yUp_tw {T : Nat} {S : ySt} {l : List (Nat × Nat × Int)} (h : ∀ j, j < 20 → (yCrT.getD (T + j) []).all (fun q => lkL (T + j) q.1 l == some q.2) = true) : ∀ i, T ≤ i → i < T + 20 → ∀ q ∈ yCrT.getD i [], yUp l S i q.1 = q.2 := by
  intro i h1 h2 q hq
  obtain ⟨j, rfl⟩ : ∃ j, i = T + j := ⟨i - T, by omega⟩
  have h3 := List.all_eq_true.mp (h j (by omega)) q hq
  exact lkL_some (beq_iff_eq.mp h3)
section YI
variable {E : yE} {M : yM} {R : Room} {Qf : List Frame → Array Value → State → State → Prop} {pc n kc ks : Nat} {L : List (Nat × yV)} {st : List yV} {S : ySt}
theorem yi_putF (i k9 k idx T : Nat) {z : Int} (hi : i < n) (hk : yKd i = (k9, 0)) (hc : k9 < 13) (hkn : k < yNf k9) (hw : Cond.fieldLink M.1.cls idx (yT k9 k).1 (yT k9 k).2.1 (yT k9 k).2.2.1 ∈ GW) (hfin : (yT k9 k).2.2.2 = true) (hin : M.1.name = "<init>") (hown2 : (yT k9 k).1 = M.1.cls) (hd : decode M.2.1 pc = .ok (.putfield idx, 3)) (ht : yft k9 k = 3) (hz : z.toNat = T + 1) (hn : ∀ b : Nat, narrow (yty k9 k) (.ref b) = .ref b ∧ fits (yty k9 k) (.ref b) = true) (h : Y E M R Qf (pc + 3) L st (yset S i k z) n kc ks) : Y E M R Qf pc L (.inr (.inr (T + 1)) :: .inr (.inr (i + 1)) :: st) S n kc ks :=
  y_putF i k9 k idx (z := z) hi hk hc hkn hw hfin hin hown2 hd (by rw [ht]; show (Sum.inr (Sum.inr z.toNat) : yV) = _; rw [hz]) (fun b _ => hn (b + T)) h
theorem yi_putR (i k9 k idx T : Nat) {z : Int} (hi : i < n) (hk : yKd i = (k9, 0)) (hc : k9 < 13) (hkn : k < yNf k9) (hw : Cond.fieldLink M.1.cls idx (yT k9 k).1 (yT k9 k).2.1 (yT k9 k).2.2.1 ∈ GW) (hfin : (yT k9 k).2.2.2 = false) (hd : decode M.2.1 pc = .ok (.putfield idx, 3)) (ht : yft k9 k = 3) (hz : z.toNat = T + 1) (hn : ∀ b : Nat, narrow (yty k9 k) (.ref b) = .ref b ∧ fits (yty k9 k) (.ref b) = true) (h : Y E M R Qf (pc + 3) L st (yset S i k z) n kc ks) : Y E M R Qf pc L (.inr (.inr (T + 1)) :: .inr (.inr (i + 1)) :: st) S n kc ks :=
  y_putf i k9 k idx (z := z) hi hk hc hkn hw hfin hd (by rw [ht]; show (Sum.inr (Sum.inr z.toNat) : yV) = _; rw [hz]) (fun b _ => hn (b + T)) h
theorem y_mna2 (idx : Nat) (hk : yKd n = (25, 3)) (hk1 : ∀ j, j < 3 → yKd (n + 1 + j) = (20, 45)) (hz : Fr0 n S) (hcl : Cond.classLink M.1.cls idx "[[I" ∈ GW) (harr : Cond.arrayClass .int ∈ GW) (hR : kc + (1 + 3) ≤ R.cells ∧ ks + (3 + 3 * 45) ≤ R.slots) (hyn : n + 10 < 2147483648) (hd : decode M.2.1 pc = .ok (.multianewarray idx 2, 4)) (h : Y E M R Qf (pc + 4) L (.inr (.inr (n + 1)) :: st) (yset (yset (yset S n 0 ((n : Int) + 2)) n 1 ((n : Int) + 3)) n 2 ((n : Int) + 4)) (n + 4) (kc + 1 + 3) (ks + 3 + 3 * 45)) : Y E M R Qf pc L (.inl 45 :: .inl 3 :: st) S n kc ks := by
  refine y_mna idx hk hk1 hz hcl harr hR hyn hd ?_
  have e : yMna S n = yset (yset (yset S n 0 ((n : Int) + 2)) n 1 ((n : Int) + 3)) n 2 ((n : Int) + 4) := by
    funext a k
    unfold yMna yset
    by_cases e1 : a = n
    · subst e1
      by_cases q0 : k = 0
      · subst q0; simp
      · by_cases q1 : k = 1
        · subst q1; simp; omega
        · by_cases q2 : k = 2
          · subst q2; simp; omega
          · rw [if_neg (by omega), if_neg (by omega), if_neg (by omega), if_neg (by omega)]
    · rw [if_neg (fun w => e1 w.1), if_neg (fun w => e1 w.1), if_neg (fun w => e1 w.1), if_neg (fun w => e1 w.1)]
  rw [e]
  exact h
end YI
