section YCP
variable {E : yE} {M : yM} {R : Room} {Qf : List Frame → Array Value → State → State → Prop} {pc n kc ks : Nat} {L : List (Nat × yV)} {st : List yV} {S : ySt}
theorem yI_0le {z : Int} (h : yI z) (h0 : 0 ≤ z) : ¬ Int32.ofInt z < 0 := fun q => by
  have := (yI_lt h yI_0).mp q
  omega
theorem y_acopy (i li d ld : Nat) {sp dp k : Int} {S1 : ySt} {idx : Nat} (hi : i < n) (hk : yKd i = (20, li)) (hi2 : d < n) (hk2 : yKd d = (20, ld)) (hc : 0 ≤ sp ∧ 0 ≤ dp ∧ 0 ≤ k ∧ sp + k ≤ (li : Int) ∧ dp + k ≤ (ld : Int))
    (w1 : Cond.methodLink M.1.cls idx arraycopyName ∈ GW) (w2 : Cond.native arraycopyName ∈ GW) (w3 : Cond.static arraycopyName ∈ GW) (w4 : Cond.initialized "java/lang/System" ∈ GW) (hd : decode M.2.1 pc = .ok (.invokestatic idx, 3)) (hv : ycpy S i sp.toNat d dp.toNat k.toNat = S1)
    (hR : 1 ≤ R.frames ∧ 40 ≤ R.locals) (hlen : yWords st ≤ 8) (h : Y E M R Qf (pc + 3) L st S1 n kc ks) : Y E M R Qf pc L (.inl k :: .inl dp :: .inr (.inr (d + 1)) :: .inl sp :: .inr (.inr (i + 1)) :: st) S n kc ks := by
  subst hv
  intro p l e s m args below meth c H locs ls C P F hl hL hs
  obtain ⟨hx, hb, hml, hown, hts, hK, -⟩ := id C
  have hk1 : yI k := y_hd hs
  have hdp : yI dp := y_hd (y_tl hs)
  have hsp : yI sp := y_hd (y_tl (y_tl (y_tl hs)))
  have hst : ∀ v ∈ st, yOk v := y_tl (y_tl (y_tl (y_tl (y_tl hs))))
  have hcs : H[E.1 + i]? = some (arrV (E.2.2 0) li (fun q => Value.int (Int32.ofInt (S i q)))) := P.1 i _ (y_arr hi hk (by omega))
  have hcd : H[E.1 + d]? = some (arrV (E.2.2 0) ld (fun q => Value.int (Int32.ofInt (S d q)))) := P.1 d _ (y_arr hi2 hk2 (by omega))
  obtain ⟨-, k0, hkc, cm0, hkk0⟩ := (hK.2 0 _ rfl).1 li (fun j => .int (Int32.ofInt (S i j)))
  obtain ⟨-, k1, hkc1, cm1, hkk1⟩ := (hK.2 0 _ rfl).1 ld (fun j => .int (Int32.ofInt (S d j)))
  obtain ⟨e1, e2, e3, e4, e5⟩ := hc
  intro T hT X
  obtain ⟨vm', X', step⟩ := X.arraycopy hx hown (hts _ w1) (hts _ w2) (hts _ w3) (hts _ w4) (src := E.1 + i) (dst := E.1 + d) (cs := arrV (E.2.2 0) li (fun q => Value.int (Int32.ofInt (S i q)))) (cd := arrV (E.2.2 0) ld (fun q => Value.int (Int32.ofInt (S d q)))) (srcPos := Int32.ofInt sp) (destPos := Int32.ofInt dp) (n := Int32.ofInt k) (by rw [hT]; exact hcs) (by rw [hT]; exact hcd)
    (fun _ h => by cases h) (fun _ h => by cases h) (fun h => by cases h) (fun h => by cases h) hkc hkc1 hkk0 hkk1 (by simp [refKind]) (yI_0le hsp e1) (yI_0le hdp e2) (yI_0le hk1 e3)
    (by rw [yI_toInt hsp, yI_toInt hk1, arrV_size]; omega) (by rw [yI_toInt hdp, yI_toInt hk1, arrV_size]; omega)
    (fun vm₁ _ q hq => by
      rw [yI_nat hk1] at hq
      rw [yI_nat hsp]
      have e : (arrV (E.2.2 0) li (fun q => Value.int (Int32.ofInt (S i q)))).slots.getD (sp.toNat + q) .null = .int (Int32.ofInt (S i (sp.toNat + q))) := by
        rw [Array.getD_eq_getD_getElem?, arrV_read _ _ (by omega)]
        rfl
      rw [e]
      exact ⟨rfl, trivial⟩)
    (g := F0 m pc ls (.int (Int32.ofInt k) :: .int (Int32.ofInt dp) :: .ref (E.1 + d) :: .int (Int32.ofInt sp) :: .ref (E.1 + i) :: st.map (yCz E.1))) rfl (by rw [hml]; exact hl.1) (rest := st.map (yCz E.1)) rfl (by rw [hb]; exact hd) hR.1 (by
      have := y_rest (E := E) hlen
      have h9 : nativeFrameWords "java/lang/System" "arraycopy" 5 + 11 ≤ 32 := by decide +kernel
      show 2 * 0 + _ + _ ≤ _
      omega)
  have e6 : copied (arrV (E.2.2 0) li (fun q => Value.int (Int32.ofInt (S i q)))) (arrV (E.2.2 0) ld (fun q => Value.int (Int32.ofInt (S d q)))) (Int32.ofInt sp) (Int32.ofInt dp) (Int32.ofInt k) = arrV (E.2.2 0) ld (fun q => Value.int (Int32.ofInt (ycpy S i sp.toNat d dp.toNat k.toNat d q))) := by
    have h7 := va_copied (fun z => Value.int z) (E.2.2 0) (E.2.2 0) (fun q => Int32.ofInt (S i q)) (fun q => Int32.ofInt (S d q)) (n0 := li) (n1 := ld) (sp := sp.toNat) (dp := dp.toNat) (n := k.toNat) (by omega)
    unfold copied
    rw [yI_nat hsp, yI_nat hdp, yI_nat hk1]
    refine h7.trans (congrArg (arrV (E.2.2 0) ld) (funext fun q => ?_))
    unfold va_cpy ycpy
    by_cases w : dp.toNat ≤ q ∧ q < dp.toNat + k.toNat
    · rw [if_pos w, if_pos ⟨rfl, w⟩]
    · rw [if_neg w, if_neg (fun z => w z.2)]
  rw [e6] at X' step
  have hl1 : E.1 + d < H.size := (Array.getElem?_eq_some_iff.mp hcd).1
  have oq : ∀ q : Nat, q ≠ E.1 + d → (H.setIfInBounds (E.1 + d) (arrV (E.2.2 0) ld (fun q => Value.int (Int32.ofInt (ycpy S i sp.toNat d dp.toNat k.toNat d q)))))[q]? = H[q]? := fun q hq => by simp [Array.getElem?_setIfInBounds, Ne.symm hq]
  have hoff : ∀ a, a ≠ d → ycpy S i sp.toNat d dp.toNat k.toNat a = S a := fun a ha => by
    funext q
    unfold ycpy
    simp [ha]
  have hok : yOkS n (ycpy S i sp.toNat d dp.toNat k.toNat) := by
    intro a q ha
    unfold ycpy
    by_cases w : a = d ∧ dp.toNat ≤ q ∧ q < dp.toNat + k.toNat
    · rw [if_pos w, w.1]
      have h1 := P.2.2 i (sp.toNat + (q - dp.toNat)) hi
      have t1 : ∀ q, yTy i q = 0 := fun q => by unfold yTy; rw [hk]; rfl
      have t2 : ∀ q, yTy d q = 0 := fun q => by unfold yTy; rw [hk2]; rfl
      rw [t1] at h1
      rw [t2]
      exact h1
    · rw [if_neg w]
      exact P.2.2 a q ha
  have hheap : ((T.setVm vm').setCell (E.1 + d) (arrV (E.2.2 0) ld (fun q => Value.int (Int32.ofInt (ycpy S i sp.toNat d dp.toNat k.toNat d q))))).heap = H.setIfInBounds (E.1 + d) (arrV (E.2.2 0) ld (fun q => Value.int (Int32.ofInt (ycpy S i sp.toNat d dp.toNat k.toNat d q)))) := by rw [← hT]; rfl
  obtain ⟨t, a1, b1⟩ := h p l e s m args below meth c _ _ ls C (yRp_upd P hi2 hoff (by
      rw [yEnt_a hk2 (by omega)]
      show (H.setIfInBounds (E.1 + d) (arrV (E.2.2 0) ld (fun q => Value.int (Int32.ofInt (ycpy S i sp.toNat d dp.toNat k.toNat d q)))))[E.1 + d]? = some (arrV (E.2.2 0) ld (fun q => Value.int (Int32.ofInt (ycpy S i sp.toNat d dp.toNat k.toNat d q))))
      simp [Array.getElem?_setIfInBounds, hl1]) (by simp) oq hok) ⟨by simp; exact F.1, fun q g1 g2 => by
      rw [oq q (fun e => g2 (by rw [e]; exact Nat.le_add_right _ _))]
      exact F.2.1 q g1 g2, fun q hq => by
      rcases List.mem_append.mp hq with h | h
      · exact F.2.2 q h
      · obtain ⟨z, -, hz⟩ := List.mem_map.mp h
        rw [← hz]
        exact Nat.le_add_right _ _⟩ hl hL hst _ hheap X'
  exact ⟨t, step t a1, b1⟩
end YCP
