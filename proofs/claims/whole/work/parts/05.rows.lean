def yNest : List Cond := [(Jvm.Cond.methodLinkNest "EvenTown" (11 : Nat) ({ cls := "EvenTown$Tape", name := "<init>", desc := "()V" } : Jvm.MethodName) "EvenTown"), (Jvm.Cond.methodLinkNest "EvenTown" (18 : Nat) ({ cls := "EvenTown$Counts", name := "<init>", desc := "()V" } : Jvm.MethodName) "EvenTown"), (Jvm.Cond.methodLinkNest "EvenTown" (25 : Nat) ({ cls := "EvenTown$Earnest", name := "<init>", desc := "()V" } : Jvm.MethodName) "EvenTown"), (Jvm.Cond.methodLinkNest "EvenTown$Town" (60 : Nat) ({ cls := "EvenTown$Rule", name := "<init>", desc := "()V" } : Jvm.MethodName) "EvenTown"), (Jvm.Cond.methodLinkNest "EvenTown" (55 : Nat) ({ cls := "EvenTown$Plan", name := "<init>", desc := "()V" } : Jvm.MethodName) "EvenTown"), (Jvm.Cond.methodLinkNest "EvenTown$Answers" (11 : Nat) ({ cls := "EvenTown$Days", name := "<init>", desc := "()V" } : Jvm.MethodName) "EvenTown"), (Jvm.Cond.methodLinkNest "EvenTown$TownReader" (182 : Nat) ({ cls := "EvenTown$Rule", name := "readEither", desc := "(LEvenTown$Tape;I)Z" } : Jvm.MethodName) "EvenTown")]
def yTl : List Nat := [102, 10]
def yTb : List (List Int32) := [[112, 108, 97, 99, 101, 32, 101, 109, 112, 116, 121, 32, 119, 97, 121, 32, 109, 105, 110, 117, 116, 101, 115, 32, 112, 101, 114, 115, 111, 110, 32, 97, 116, 32, 104, 105, 114, 101, 32, 100, 111, 103, 32, 101, 114, 114, 97, 110, 100, 32, 115, 116, 114, 111, 107, 101, 32, 119, 111, 114, 116, 104, 32, 104, 111, 117, 114, 32, 115, 116, 114, 111, 107, 101, 115, 32, 114, 117, 108, 101, 32, 111, 114, 32, 97, 110, 100, 32, 110, 111, 116, 32, 104, 101, 114, 101, 32, 100, 111, 103, 115, 32], [59, 40, 41, 60, 62, 61, 43, 45, 42, 47]]
/-- what of the world below never changes: texts, two statics, links among nest mates -/
def yTx (E : yE) (U : State) : Prop :=
  (∃ adK adV : Nat → Nat, vk_S 2 yTl yTb adK adV (fun q => E.1 ≤ q) U U.heap ∧ vk_R "EvenTown$Tape" 71 "place empty way minutes person at hire dog errand stroke worth hour strokes rule or and not here dogs " (adK 0) U ∧ vk_R "EvenTown$Tape" 58 ";()<>=+-*/" (adK 1) U) ∧
  va_Z "java/lang/String" "COMPACT_STRINGS" "Z" (.int 1) (fun q => E.1 ≤ q) U U.heap ∧ va_Zq "jdk/internal/util/Preconditions" "SIOOBE_FORMATTER" "Ljava/util/function/BiFunction;" (fun q => E.1 ≤ q) U U.heap ∧
  (∀ w ∈ yNest, va_Nw w U) ∧ va_AO "EvenTown$Earnest" U ∧ (Cond.arrayOver (.array .int)).before #[] U = true
theorem yNest_warm {s U : State} (hW : s.WarmedH U.vm) (h : ∀ w ∈ yNest, va_Nw w s) : ∀ w ∈ yNest, va_Nw w U := by
  intro w hw
  have h1 := h w hw
  simp only [yNest, List.mem_cons, List.not_mem_nil, or_false] at hw
  rcases hw with q | q | q | q | q | q | q <;> subst q <;> exact va_Nw.warmM hW h1
theorem yNest_same {u U : State} (hv : u.vm = U.vm) (h : ∀ w ∈ yNest, va_Nw w u) : ∀ w ∈ yNest, va_Nw w U := by
  intro w hw
  have h1 := h w hw
  simp only [yNest, List.mem_cons, List.not_mem_nil, or_false] at hw
  rcases hw with q | q | q | q | q | q | q <;> subst q <;> exact va_Nw.same rfl hv h1
theorem yAO_moved {u U : State} (hvm : u.vm.Alike U.vm) (h : (Cond.arrayOver (.array .int)).before #[] u = true) : (Cond.arrayOver (.array .int)).before #[] U = true := by
  have h2 := Cond.overAtom_setVm hvm (.arrayOver (.array .int)) rfl h
  exact h2
theorem yTx_kept {E : yE} {s U : State} (h : yTx E s) (hW : s.WarmedH U.vm) (hF : ∀ a : Nat, a < s.heap.size → ¬ E.1 ≤ a → U.heap[a]? = s.heap[a]?) : yTx E U := by
  obtain ⟨⟨adK, adV, h1, h2, h3⟩, h4, h5, h6, h7, h8⟩ := h
  exact ⟨⟨adK, adV, (h1.moved hW.alike).kept hF, h2.warm hW, h3.warm hW⟩, (h4.moved hW.alike).kept hF, (h5.moved hW.alike).kept hF, yNest_warm hW h6, h7.moved hW.alike, yAO_moved hW.alike h8⟩
theorem yTx_same {E : yE} {s U : State} (h : yTx E s) (hv : U.vm = s.vm) (hh : U.heap = s.heap) : yTx E U := by
  obtain ⟨⟨adK, adV, h1, h2, h3⟩, h4, h5, h6, h7, h8⟩ := h
  have hA : s.vm.Alike U.vm := by rw [hv]; exact Vm.Alike.refl _
  rw [yTx, hh]
  exact ⟨⟨adK, adV, h1.moved hA, h2.same hv, h3.same hv⟩, h4.moved hA, h5.moved hA, yNest_same hv.symm h6, h7.moved hA, yAO_moved hA h8⟩
abbrev yM : Type := MethodName × ByteArray × Nat × Option FieldType
/-- what holds in a frame of the method M, of the machine -/
def yCx (E : yE) (M : yM) (p : Program) (s : State) (m : MethodId) (args : Array Value) (meth : Method) (c : Code) : Prop :=
  p.tables.exec = Jvm.exec ∧ c.code = M.2.1 ∧ c.maxLocals = M.2.2.1 ∧ s.vm.findClass M.1.cls = some m.cls ∧ (∀ w ∈ GW, w.before args s = true) ∧ va_K E.2.1 vwCl (yTys E) s ∧ meth.sig.returnType = M.2.2.2 ∧ meth.locks = false ∧ (M.1.name = "<init>" → meth.name = "<init>") ∧ E.1 ≤ s.heap.size ∧ yTx E s
def yLs (b : Nat) (L : List (Nat × yV)) : List (Nat × Value) := L.map fun q => (q.1, yCz b q.2)
/-- from here, with these locals, this stack and this store, the machine comes to Qf -/
def Y (E : yE) (M : yM) (R : Room) (Qf : List Frame → Array Value → State → State → Prop) (pc : Nat) (L : List (Nat × yV)) (st : List yV) (S : ySt) (n kc ks : Nat) : Prop :=
  ∀ (p : Program) (l : Launch) (e : Env) (s : State) (m : MethodId) (args : Array Value) (below : List Frame) (meth : Method) (c : Code) (H : Heap) (locs : List Loc) (ls : Array Slot),
    yCx E M p s m args meth c → yRp E n S H → va_S (fun q => E.1 ≤ q) s.heap H locs → lv_has ls M.2.2.1 (yLs E.1 L) → (∀ q ∈ L, yOk q.2) → (∀ v ∈ st, yOk v) →
    W p l e R s m args below meth c H locs kc ks (Qf below args s) (F0 m pc ls (st.map (yCz E.1)))
theorem y_ok1 {v : yV} {st : List yV} (h : yOk v) (hs : ∀ u ∈ st, yOk u) : ∀ u ∈ v :: st, yOk u := List.forall_mem_cons.mpr ⟨h, hs⟩
theorem y_tl {v : yV} {st : List yV} (hs : ∀ u ∈ v :: st, yOk u) : ∀ u ∈ st, yOk u := (List.forall_mem_cons.mp hs).2
theorem y_hd {v : yV} {st : List yV} (hs : ∀ u ∈ v :: st, yOk u) : yOk v := (List.forall_mem_cons.mp hs).1
theorem y_loc {b nL j i : Nat} {ls : Array Slot} {L : List (Nat × yV)} {v : yV} (hl : lv_has ls nL (yLs b L)) (hj : L[j]? = some (i, v)) : ls[i]? = some (.val (yCz b v)) :=
  lv_at hl j (by simp [yLs, hj])
theorem y_lok {L : List (Nat × yV)} {j i : Nat} {v : yV} (hL : ∀ q ∈ L, yOk q.2) (hj : L[j]? = some (i, v)) : yOk v := hL _ (List.mem_of_getElem? hj)
def yIb (z : Int) : Bool := decide (-2147483648 ≤ z) && decide (z < 2147483648)
theorem yIb_ok {z : Int} (h : yIb z = true) : yI z := by
  simp only [yIb, Bool.and_eq_true, decide_eq_true_eq] at h
  exact h
def yCat : yV → Nat
  | .inr (.inl _) => 2
  | _ => 1
theorem yCat_ok (b : Nat) (v : yV) : (yCz b v).category = yCat v := by
  rcases v with z | z | r
  · rfl
  · rfl
  · cases r <;> rfl
def yStr (L : List (Nat × yV)) (i : Nat) (v : yV) : List (Nat × yV) := (i, v) :: L.filter (fun q => !(q.1 == i) && !(q.1 + 1 == i && yCat q.2 == 2))
def yStr2 (L : List (Nat × yV)) (i : Nat) (v : yV) : List (Nat × yV) := (i, v) :: L.filter (fun q => !(q.1 == i) && (!(q.1 == i + 1) && !(q.1 + 1 == i && yCat q.2 == 2)))
theorem yStr_ls (b : Nat) (L : List (Nat × yV)) (i : Nat) (v : yV) : (i, yCz b v) :: (yLs b L).filter (fun q => !(q.1 == i) && !(q.1 + 1 == i && q.2.category == 2)) = yLs b (yStr L i v) := by
  simp [yLs, yStr, List.filter_map, Function.comp_def, yCat_ok]
theorem yStr2_ls (b : Nat) (L : List (Nat × yV)) (i : Nat) (v : yV) : (i, yCz b v) :: (yLs b L).filter (fun q => !(q.1 == i) && (!(q.1 == i + 1) && !(q.1 + 1 == i && q.2.category == 2))) = yLs b (yStr2 L i v) := by
  simp [yLs, yStr2, List.filter_map, Function.comp_def, yCat_ok]
theorem yStr_ok {L : List (Nat × yV)} {i : Nat} {v : yV} (hL : ∀ q ∈ L, yOk q.2) (hv : yOk v) : ∀ q ∈ yStr L i v, yOk q.2 := by
  intro q hq
  rcases List.mem_cons.mp hq with e | e
  · rw [e]; exact hv
  · exact hL q (List.mem_filter.mp e).1
theorem yStr2_ok {L : List (Nat × yV)} {i : Nat} {v : yV} (hL : ∀ q ∈ L, yOk q.2) (hv : yOk v) : ∀ q ∈ yStr2 L i v, yOk q.2 := by
  intro q hq
  rcases List.mem_cons.mp hq with e | e
  · rw [e]; exact hv
  · exact hL q (List.mem_filter.mp e).1
theorem w32_c (z : Int) : Int32.ofInt (w32 z) = Int32.ofInt z := Int32.ofInt_toInt _
theorem w64_c (z : Int) : Int64.ofInt (w64 z) = Int64.ofInt z := Int64.ofInt_toInt _
section YR
variable {E : yE} {M : yM} {R : Room} {Qf : List Frame → Array Value → State → State → Prop} {pc n kc ks : Nat} {L : List (Nat × yV)} {st : List yV} {S : ySt}
theorem y_iconst {k : Int} (hd : decode M.2.1 pc = .ok (.iconst k, 1)) (hk : yIb k = true) (h : Y E M R Qf (pc + 1) L (.inl k :: st) S n kc ks) : Y E M R Qf pc L (st) S n kc ks := by
  intro p l e s m args below meth c H locs ls C P F hl hL hs
  obtain ⟨hx, hb, hml, hown, hts, hK, -⟩ := id C
  exact lv_iconst hx hb hd rfl (h p l e s m args below meth c H locs ls C P F hl hL (y_ok1 (yIb_ok hk) hs))
theorem y_bipush {k : Int} (hd : decode M.2.1 pc = .ok (.bipush k, 2)) (hv : (Int8.ofInt k).toInt32 = Int32.ofInt k) (hk : yIb k = true) (h : Y E M R Qf (pc + 2) L (.inl k :: st) S n kc ks) : Y E M R Qf pc L (st) S n kc ks := by
  intro p l e s m args below meth c H locs ls C P F hl hL hs
  obtain ⟨hx, hb, hml, hown, hts, hK, -⟩ := id C
  exact lv_bipush hx hb hd hv (h p l e s m args below meth c H locs ls C P F hl hL (y_ok1 (yIb_ok hk) hs))
theorem y_sipush {k : Int} (hd : decode M.2.1 pc = .ok (.sipush k, 3)) (hv : (Int16.ofInt k).toInt32 = Int32.ofInt k) (hk : yIb k = true) (h : Y E M R Qf (pc + 3) L (.inl k :: st) S n kc ks) : Y E M R Qf pc L (st) S n kc ks := by
  intro p l e s m args below meth c H locs ls C P F hl hL hs
  obtain ⟨hx, hb, hml, hown, hts, hK, -⟩ := id C
  exact lv_sipush hx hb hd hv (h p l e s m args below meth c H locs ls C P F hl hL (y_ok1 (yIb_ok hk) hs))
theorem y_lconst {k : Fin 2} {z : Int} (hd : decode M.2.1 pc = .ok (.lconst k, 1)) (hv : Int64.ofNat (k : Nat) = Int64.ofInt z) (hk : yIb z = true) (h : Y E M R Qf (pc + 1) L (.inr (.inl z) :: st) S n kc ks) : Y E M R Qf pc L (st) S n kc ks := by
  intro p l e s m args below meth c H locs ls C P F hl hL hs
  obtain ⟨hx, hb, hml, hown, hts, hK, -⟩ := id C
  have hz := yIb_ok hk
  exact lv_lconst hx hb hd hv (h p l e s m args below meth c H locs ls C P F hl hL (y_ok1 (show yJ z from ⟨by have := hz.1; omega, by have := hz.2; omega⟩) hs))
theorem y_ldc {k : Int} {v : Int32} {i : Nat} (hd : decode M.2.1 pc = .ok (.ldc i, 2)) (hw : Cond.constant M.1.cls i v ∈ GW) (hv : v = Int32.ofInt k) (hk : yIb k = true) (h : Y E M R Qf (pc + 2) L (.inl k :: st) S n kc ks) : Y E M R Qf pc L (st) S n kc ks := by
  intro p l e s m args below meth c H locs ls C P F hl hL hs
  obtain ⟨hx, hb, hml, hown, hts, hK, -⟩ := id C
  subst hv
  exact lv_ldc hx hb hown (hts _ hw) hd (h p l e s m args below meth c H locs ls C P F hl hL (y_ok1 (yIb_ok hk) hs))
theorem y_ldcw {k : Int} {v : Int32} {i : Nat} (hd : decode M.2.1 pc = .ok (.ldc_w i, 3)) (hw : Cond.constant M.1.cls i v ∈ GW) (hv : v = Int32.ofInt k) (hk : yIb k = true) (h : Y E M R Qf (pc + 3) L (.inl k :: st) S n kc ks) : Y E M R Qf pc L (st) S n kc ks := by
  intro p l e s m args below meth c H locs ls C P F hl hL hs
  obtain ⟨hx, hb, hml, hown, hts, hK, -⟩ := id C
  subst hv
  exact lv_ldcw hx hb hown (hts _ hw) hd (h p l e s m args below meth c H locs ls C P F hl hL (y_ok1 (yIb_ok hk) hs))
theorem y_ldc2 {k : Int} {v : Int64} {i : Nat} (hd : decode M.2.1 pc = .ok (.ldc2_w i, 3)) (hw : Cond.constantLong M.1.cls i v ∈ GW) (hv : v = Int64.ofInt k) (hk : decide (-9223372036854775808 ≤ k) && decide (k < 9223372036854775808) = true) (h : Y E M R Qf (pc + 3) L (.inr (.inl k) :: st) S n kc ks) : Y E M R Qf pc L (st) S n kc ks := by
  intro p l e s m args below meth c H locs ls C P F hl hL hs
  obtain ⟨hx, hb, hml, hown, hts, hK, -⟩ := id C
  subst hv
  simp only [Bool.and_eq_true, decide_eq_true_eq] at hk
  exact lv_ldc2 hx hb hown (hts _ hw) hd (h p l e s m args below meth c H locs ls C P F hl hL (y_ok1 (show yJ k from hk) hs))
theorem y_iload_n {i : Fin 4} {z : Int} (hd : decode M.2.1 pc = .ok (.iload_n i, 1)) (j : Nat) (hj : L[j]? = some ((i : Nat), .inl z)) (h : Y E M R Qf (pc + 1) L (.inl z :: st) S n kc ks) : Y E M R Qf pc L (st) S n kc ks := by
  intro p l e s m args below meth c H locs ls C P F hl hL hs
  obtain ⟨hx, hb, hml, hown, hts, hK, -⟩ := id C
  exact lv_iload_n hx hb hd rfl (y_loc hl hj) (h p l e s m args below meth c H locs ls C P F hl hL (y_ok1 (y_lok hL hj) hs))
theorem y_iload {i : Nat} {z : Int} (hd : decode M.2.1 pc = .ok (.iload i, 2)) (j : Nat) (hj : L[j]? = some (i, .inl z)) (h : Y E M R Qf (pc + 2) L (.inl z :: st) S n kc ks) : Y E M R Qf pc L (st) S n kc ks := by
  intro p l e s m args below meth c H locs ls C P F hl hL hs
  obtain ⟨hx, hb, hml, hown, hts, hK, -⟩ := id C
  exact lv_iload hx hb hd (y_loc hl hj) (h p l e s m args below meth c H locs ls C P F hl hL (y_ok1 (y_lok hL hj) hs))
theorem y_lload_n {i : Fin 4} {z : Int} (hd : decode M.2.1 pc = .ok (.lload_n i, 1)) (j : Nat) (hj : L[j]? = some ((i : Nat), .inr (.inl z))) (h : Y E M R Qf (pc + 1) L (.inr (.inl z) :: st) S n kc ks) : Y E M R Qf pc L (st) S n kc ks := by
  intro p l e s m args below meth c H locs ls C P F hl hL hs
  obtain ⟨hx, hb, hml, hown, hts, hK, -⟩ := id C
  exact lv_lload_n hx hb hd rfl (y_loc hl hj) (h p l e s m args below meth c H locs ls C P F hl hL (y_ok1 (y_lok hL hj) hs))
theorem y_lload {i : Nat} {z : Int} (hd : decode M.2.1 pc = .ok (.lload i, 2)) (j : Nat) (hj : L[j]? = some (i, .inr (.inl z))) (h : Y E M R Qf (pc + 2) L (.inr (.inl z) :: st) S n kc ks) : Y E M R Qf pc L (st) S n kc ks := by
  intro p l e s m args below meth c H locs ls C P F hl hL hs
  obtain ⟨hx, hb, hml, hown, hts, hK, -⟩ := id C
  exact lv_lload hx hb hd (y_loc hl hj) (h p l e s m args below meth c H locs ls C P F hl hL (y_ok1 (y_lok hL hj) hs))
theorem y_aload_n {i : Fin 4} {z : Nat} (hd : decode M.2.1 pc = .ok (.aload_n i, 1)) (j : Nat) (hj : L[j]? = some ((i : Nat), .inr (.inr (z + 1)))) (h : Y E M R Qf (pc + 1) L (.inr (.inr (z + 1)) :: st) S n kc ks) : Y E M R Qf pc L (st) S n kc ks := by
  intro p l e s m args below meth c H locs ls C P F hl hL hs
  obtain ⟨hx, hb, hml, hown, hts, hK, -⟩ := id C
  exact lv_aload_n hx hb hd rfl (y_loc hl hj) (h p l e s m args below meth c H locs ls C P F hl hL (y_ok1 (y_lok hL hj) hs))
theorem y_aload {i : Nat} {z : Nat} (hd : decode M.2.1 pc = .ok (.aload i, 2)) (j : Nat) (hj : L[j]? = some (i, .inr (.inr (z + 1)))) (h : Y E M R Qf (pc + 2) L (.inr (.inr (z + 1)) :: st) S n kc ks) : Y E M R Qf pc L (st) S n kc ks := by
  intro p l e s m args below meth c H locs ls C P F hl hL hs
  obtain ⟨hx, hb, hml, hown, hts, hK, -⟩ := id C
  exact lv_aload hx hb hd (y_loc hl hj) (h p l e s m args below meth c H locs ls C P F hl hL (y_ok1 (y_lok hL hj) hs))
theorem y_istore_n {i : Fin 4} {z : Int} {L1 : List (Nat × yV)} (hd : decode M.2.1 pc = .ok (.istore_n i, 1)) (hi : decide ((i : Nat) < M.2.2.1) = true) (hLL : yStr L (i : Nat) (.inl z) = L1) (h : Y E M R Qf (pc + 1) L1 (st) S n kc ks) : Y E M R Qf pc L (.inl z :: st) S n kc ks := by
  intro p l e s m args below meth c H locs ls C P F hl hL hs
  obtain ⟨hx, hb, hml, hown, hts, hK, -⟩ := id C
  subst hLL
  exact lv_istore_n hx hb hd rfl hl (by simpa using hi) (yStr_ls E.1 L _ (.inl z)) (fun ls1 hl1 => h p l e s m args below meth c H locs ls1 C P F hl1 (yStr_ok hL (y_hd hs)) (y_tl hs))
theorem y_istore {i : Nat} {z : Int} {L1 : List (Nat × yV)} (hd : decode M.2.1 pc = .ok (.istore i, 2)) (hi : decide (i < M.2.2.1) = true) (hLL : yStr L i (.inl z) = L1) (h : Y E M R Qf (pc + 2) L1 (st) S n kc ks) : Y E M R Qf pc L (.inl z :: st) S n kc ks := by
  intro p l e s m args below meth c H locs ls C P F hl hL hs
  obtain ⟨hx, hb, hml, hown, hts, hK, -⟩ := id C
  subst hLL
  exact lv_istore hx hb hd hl (by simpa using hi) (yStr_ls E.1 L _ (.inl z)) (fun ls1 hl1 => h p l e s m args below meth c H locs ls1 C P F hl1 (yStr_ok hL (y_hd hs)) (y_tl hs))
theorem y_astore_n {i : Fin 4} {z : Nat} {L1 : List (Nat × yV)} (hd : decode M.2.1 pc = .ok (.astore_n i, 1)) (hi : decide ((i : Nat) < M.2.2.1) = true) (hLL : yStr L (i : Nat) (.inr (.inr (z + 1))) = L1) (h : Y E M R Qf (pc + 1) L1 (st) S n kc ks) : Y E M R Qf pc L (.inr (.inr (z + 1)) :: st) S n kc ks := by
  intro p l e s m args below meth c H locs ls C P F hl hL hs
  obtain ⟨hx, hb, hml, hown, hts, hK, -⟩ := id C
  subst hLL
  exact lv_astore_n hx hb hd rfl hl (by simpa using hi) (yStr_ls E.1 L _ (.inr (.inr (z + 1)))) (fun ls1 hl1 => h p l e s m args below meth c H locs ls1 C P F hl1 (yStr_ok hL (y_hd hs)) (y_tl hs))
theorem y_astore {i : Nat} {z : Nat} {L1 : List (Nat × yV)} (hd : decode M.2.1 pc = .ok (.astore i, 2)) (hi : decide (i < M.2.2.1) = true) (hLL : yStr L i (.inr (.inr (z + 1))) = L1) (h : Y E M R Qf (pc + 2) L1 (st) S n kc ks) : Y E M R Qf pc L (.inr (.inr (z + 1)) :: st) S n kc ks := by
  intro p l e s m args below meth c H locs ls C P F hl hL hs
  obtain ⟨hx, hb, hml, hown, hts, hK, -⟩ := id C
  subst hLL
  exact lv_astore hx hb hd hl (by simpa using hi) (yStr_ls E.1 L _ (.inr (.inr (z + 1)))) (fun ls1 hl1 => h p l e s m args below meth c H locs ls1 C P F hl1 (yStr_ok hL (y_hd hs)) (y_tl hs))
theorem y_lstore_n {i : Fin 4} {z : Int} {L1 : List (Nat × yV)} (hd : decode M.2.1 pc = .ok (.lstore_n i, 1)) (hi : decide ((i : Nat) + 1 < M.2.2.1) = true) (hLL : yStr2 L (i : Nat) (.inr (.inl z)) = L1) (h : Y E M R Qf (pc + 1) L1 (st) S n kc ks) : Y E M R Qf pc L (.inr (.inl z) :: st) S n kc ks := by
  intro p l e s m args below meth c H locs ls C P F hl hL hs
  obtain ⟨hx, hb, hml, hown, hts, hK, -⟩ := id C
  subst hLL
  exact lv_lstore_n hx hb hd rfl hl (by simpa using hi) (yStr2_ls E.1 L _ (.inr (.inl z))) (fun ls1 hl1 => h p l e s m args below meth c H locs ls1 C P F hl1 (yStr2_ok hL (y_hd hs)) (y_tl hs))
theorem y_lstore {i : Nat} {z : Int} {L1 : List (Nat × yV)} (hd : decode M.2.1 pc = .ok (.lstore i, 2)) (hi : decide (i + 1 < M.2.2.1) = true) (hLL : yStr2 L i (.inr (.inl z)) = L1) (h : Y E M R Qf (pc + 2) L1 (st) S n kc ks) : Y E M R Qf pc L (.inr (.inl z) :: st) S n kc ks := by
  intro p l e s m args below meth c H locs ls C P F hl hL hs
  obtain ⟨hx, hb, hml, hown, hts, hK, -⟩ := id C
  subst hLL
  exact lv_lstore hx hb hd hl (by simpa using hi) (yStr2_ls E.1 L _ (.inr (.inl z))) (fun ls1 hl1 => h p l e s m args below meth c H locs ls1 C P F hl1 (yStr2_ok hL (y_hd hs)) (y_tl hs))
theorem y_iinc {i : Nat} {k z : Int} {L1 : List (Nat × yV)} (hd : decode M.2.1 pc = .ok (.iinc i k, 3)) (j : Nat) (hj : L[j]? = some (i, .inl z)) (hr : yI (z + k)) (hi : decide (i < M.2.2.1) = true) (hLL : yStr L i (.inl (z + k)) = L1) (h : Y E M R Qf (pc + 3) L1 (st) S n kc ks) : Y E M R Qf pc L (st) S n kc ks := by
  intro p l e s m args below meth c H locs ls C P F hl hL hs
  obtain ⟨hx, hb, hml, hown, hts, hK, -⟩ := id C
  subst hLL
  exact lv_iinc hx hb hd hl (k := j) (x := Int32.ofInt z) (v := Int32.ofInt (z + k)) (by simp [yLs, hj, yCz]) (Int32.ofInt_add z k).symm (by simpa using hi) (yStr_ls E.1 L i (.inl (z + k))) (fun ls1 hl1 => h p l e s m args below meth c H locs ls1 C P F hl1 (yStr_ok hL hr) hs)
theorem y_iadd {a b : Int} (hd : decode M.2.1 pc = .ok (.iadd, 1)) (hr : yI (a + b)) (h : Y E M R Qf (pc + 1) L (.inl (a + b) :: st) S n kc ks) : Y E M R Qf pc L (.inl b :: .inl a :: st) S n kc ks := by
  intro p l e s m args below meth c H locs ls C P F hl hL hs
  obtain ⟨hx, hb, hml, hown, hts, hK, -⟩ := id C
  have ha : yI a := y_hd (y_tl hs)
  have hB : yI b := y_hd hs
  have k := h p l e s m args below meth c H locs ls C P F hl hL (y_ok1 (v := .inl (a + b)) hr (y_tl (y_tl hs)))
  refine lv_iadd hx hb hd ?_
  rw [show Int32.ofInt a + Int32.ofInt b = Int32.ofInt (a + b) from (Int32.ofInt_add a b).symm]
  exact k
theorem y_iaddW {a b : Int} (hd : decode M.2.1 pc = .ok (.iadd, 1)) (h : Y E M R Qf (pc + 1) L (.inl (w32 (a + b)) :: st) S n kc ks) : Y E M R Qf pc L (.inl b :: .inl a :: st) S n kc ks := by
  intro p l e s m args below meth c H locs ls C P F hl hL hs
  obtain ⟨hx, hb, hml, hown, hts, hK, -⟩ := id C
  have ha : yI a := y_hd (y_tl hs)
  have hB : yI b := y_hd hs
  have k := h p l e s m args below meth c H locs ls C P F hl hL (y_ok1 (v := .inl (w32 (a + b))) (yI_of32 _) (y_tl (y_tl hs)))
  refine lv_iadd hx hb hd ?_
  rw [show Int32.ofInt a + Int32.ofInt b = Int32.ofInt (w32 (a + b)) from by rw [w32_c]; exact (Int32.ofInt_add a b).symm]
  exact k
theorem y_isub {a b : Int} (hd : decode M.2.1 pc = .ok (.isub, 1)) (hr : yI (a - b)) (h : Y E M R Qf (pc + 1) L (.inl (a - b) :: st) S n kc ks) : Y E M R Qf pc L (.inl b :: .inl a :: st) S n kc ks := by
  intro p l e s m args below meth c H locs ls C P F hl hL hs
  obtain ⟨hx, hb, hml, hown, hts, hK, -⟩ := id C
  have ha : yI a := y_hd (y_tl hs)
  have hB : yI b := y_hd hs
  have k := h p l e s m args below meth c H locs ls C P F hl hL (y_ok1 (v := .inl (a - b)) hr (y_tl (y_tl hs)))
  refine lv_isub hx hb hd ?_
  rw [show Int32.ofInt a - Int32.ofInt b = Int32.ofInt (a - b) from (Int32.ofInt_sub a b).symm]
  exact k
theorem y_isubW {a b : Int} (hd : decode M.2.1 pc = .ok (.isub, 1)) (h : Y E M R Qf (pc + 1) L (.inl (w32 (a - b)) :: st) S n kc ks) : Y E M R Qf pc L (.inl b :: .inl a :: st) S n kc ks := by
  intro p l e s m args below meth c H locs ls C P F hl hL hs
  obtain ⟨hx, hb, hml, hown, hts, hK, -⟩ := id C
  have ha : yI a := y_hd (y_tl hs)
  have hB : yI b := y_hd hs
  have k := h p l e s m args below meth c H locs ls C P F hl hL (y_ok1 (v := .inl (w32 (a - b))) (yI_of32 _) (y_tl (y_tl hs)))
  refine lv_isub hx hb hd ?_
  rw [show Int32.ofInt a - Int32.ofInt b = Int32.ofInt (w32 (a - b)) from by rw [w32_c]; exact (Int32.ofInt_sub a b).symm]
  exact k
theorem y_imul {a b : Int} (hd : decode M.2.1 pc = .ok (.imul, 1)) (hr : yI (a * b)) (h : Y E M R Qf (pc + 1) L (.inl (a * b) :: st) S n kc ks) : Y E M R Qf pc L (.inl b :: .inl a :: st) S n kc ks := by
  intro p l e s m args below meth c H locs ls C P F hl hL hs
  obtain ⟨hx, hb, hml, hown, hts, hK, -⟩ := id C
  have ha : yI a := y_hd (y_tl hs)
  have hB : yI b := y_hd hs
  have k := h p l e s m args below meth c H locs ls C P F hl hL (y_ok1 (v := .inl (a * b)) hr (y_tl (y_tl hs)))
  refine lv_imul hx hb hd ?_
  rw [show Int32.ofInt a * Int32.ofInt b = Int32.ofInt (a * b) from (Int32.ofInt_mul a b).symm]
  exact k
theorem y_imulW {a b : Int} (hd : decode M.2.1 pc = .ok (.imul, 1)) (h : Y E M R Qf (pc + 1) L (.inl (w32 (a * b)) :: st) S n kc ks) : Y E M R Qf pc L (.inl b :: .inl a :: st) S n kc ks := by
  intro p l e s m args below meth c H locs ls C P F hl hL hs
  obtain ⟨hx, hb, hml, hown, hts, hK, -⟩ := id C
  have ha : yI a := y_hd (y_tl hs)
  have hB : yI b := y_hd hs
  have k := h p l e s m args below meth c H locs ls C P F hl hL (y_ok1 (v := .inl (w32 (a * b))) (yI_of32 _) (y_tl (y_tl hs)))
  refine lv_imul hx hb hd ?_
  rw [show Int32.ofInt a * Int32.ofInt b = Int32.ofInt (w32 (a * b)) from by rw [w32_c]; exact (Int32.ofInt_mul a b).symm]
  exact k
theorem y_idiv {a b : Int} (hd : decode M.2.1 pc = .ok (.idiv, 1)) (h0 : b ≠ 0) (hr : yI (a.tdiv b)) (h : Y E M R Qf (pc + 1) L (.inl (a.tdiv b) :: st) S n kc ks) : Y E M R Qf pc L (.inl b :: .inl a :: st) S n kc ks := by
  intro p l e s m args below meth c H locs ls C P F hl hL hs
  obtain ⟨hx, hb, hml, hown, hts, hK, -⟩ := id C
  have ha : yI a := y_hd (y_tl hs)
  have hB : yI b := y_hd hs
  have k := h p l e s m args below meth c H locs ls C P F hl hL (y_ok1 (v := .inl (a.tdiv b)) hr (y_tl (y_tl hs)))
  refine lv_idiv hx hb hd (fun q => h0 ((yI_eq hB yI_0).mp q)) ?_
  rw [show Int32.ofInt a / Int32.ofInt b = Int32.ofInt (a.tdiv b) from (Int32.ofInt_tdiv (by have := ha.1; simpa using this) (by have := ha.2; have h9 : Int32.maxValue.toInt = 2147483647 := rfl; omega) (by have := hB.1; simpa using this) (by have := hB.2; have h9 : Int32.maxValue.toInt = 2147483647 := rfl; omega)).symm]
  exact k
theorem y_idivW {a b : Int} (hd : decode M.2.1 pc = .ok (.idiv, 1)) (h0 : b ≠ 0) (h : Y E M R Qf (pc + 1) L (.inl (w32 (a.tdiv b)) :: st) S n kc ks) : Y E M R Qf pc L (.inl b :: .inl a :: st) S n kc ks := by
  intro p l e s m args below meth c H locs ls C P F hl hL hs
  obtain ⟨hx, hb, hml, hown, hts, hK, -⟩ := id C
  have ha : yI a := y_hd (y_tl hs)
  have hB : yI b := y_hd hs
  have k := h p l e s m args below meth c H locs ls C P F hl hL (y_ok1 (v := .inl (w32 (a.tdiv b))) (yI_of32 _) (y_tl (y_tl hs)))
  refine lv_idiv hx hb hd (fun q => h0 ((yI_eq hB yI_0).mp q)) ?_
  rw [show Int32.ofInt a / Int32.ofInt b = Int32.ofInt (w32 (a.tdiv b)) from by rw [w32_c]; exact (Int32.ofInt_tdiv (by have := ha.1; simpa using this) (by have := ha.2; have h9 : Int32.maxValue.toInt = 2147483647 := rfl; omega) (by have := hB.1; simpa using this) (by have := hB.2; have h9 : Int32.maxValue.toInt = 2147483647 := rfl; omega)).symm]
  exact k
theorem y_irem {a b : Int} (hd : decode M.2.1 pc = .ok (.irem, 1)) (h0 : b ≠ 0) (hr : yI (a.tmod b)) (h : Y E M R Qf (pc + 1) L (.inl (a.tmod b) :: st) S n kc ks) : Y E M R Qf pc L (.inl b :: .inl a :: st) S n kc ks := by
  intro p l e s m args below meth c H locs ls C P F hl hL hs
  obtain ⟨hx, hb, hml, hown, hts, hK, -⟩ := id C
  have ha : yI a := y_hd (y_tl hs)
  have hB : yI b := y_hd hs
  have k := h p l e s m args below meth c H locs ls C P F hl hL (y_ok1 (v := .inl (a.tmod b)) hr (y_tl (y_tl hs)))
  refine lv_irem hx hb hd (fun q => h0 ((yI_eq hB yI_0).mp q)) ?_
  rw [show Int32.ofInt a - Int32.ofInt a / Int32.ofInt b * Int32.ofInt b = Int32.ofInt (a.tmod b) from by rw [← Int32.ofInt_tdiv (by have := ha.1; simpa using this) (by have := ha.2; have h9 : Int32.maxValue.toInt = 2147483647 := rfl; omega) (by have := hB.1; simpa using this) (by have := hB.2; have h9 : Int32.maxValue.toInt = 2147483647 := rfl; omega), ← Int32.ofInt_mul, ← Int32.ofInt_sub, Int.tmod_def, Int.mul_comm b]]
  exact k
theorem y_iand {a b : Int} (hd : decode M.2.1 pc = .ok (.iand, 1)) (h : Y E M R Qf (pc + 1) L (.inl (b32and a b) :: st) S n kc ks) : Y E M R Qf pc L (.inl b :: .inl a :: st) S n kc ks := by
  intro p l e s m args below meth c H locs ls C P F hl hL hs
  obtain ⟨hx, hb, hml, hown, hts, hK, -⟩ := id C
  have ha : yI a := y_hd (y_tl hs)
  have hB : yI b := y_hd hs
  have k := h p l e s m args below meth c H locs ls C P F hl hL (y_ok1 (v := .inl (b32and a b)) (yI_of32 _) (y_tl (y_tl hs)))
  refine lv_iand hx hb hd ?_
  rw [show Int32.ofInt a &&& Int32.ofInt b = Int32.ofInt (b32and a b) from by simp [b32and]]
  exact k
theorem y_ior {a b : Int} (hd : decode M.2.1 pc = .ok (.ior, 1)) (h : Y E M R Qf (pc + 1) L (.inl (b32or a b) :: st) S n kc ks) : Y E M R Qf pc L (.inl b :: .inl a :: st) S n kc ks := by
  intro p l e s m args below meth c H locs ls C P F hl hL hs
  obtain ⟨hx, hb, hml, hown, hts, hK, -⟩ := id C
  have ha : yI a := y_hd (y_tl hs)
  have hB : yI b := y_hd hs
  have k := h p l e s m args below meth c H locs ls C P F hl hL (y_ok1 (v := .inl (b32or a b)) (yI_of32 _) (y_tl (y_tl hs)))
  refine lv_ior hx hb hd ?_
  rw [show Int32.ofInt a ||| Int32.ofInt b = Int32.ofInt (b32or a b) from by simp [b32or]]
  exact k
theorem y_ixor {a b : Int} (hd : decode M.2.1 pc = .ok (.ixor, 1)) (h : Y E M R Qf (pc + 1) L (.inl (b32xor a b) :: st) S n kc ks) : Y E M R Qf pc L (.inl b :: .inl a :: st) S n kc ks := by
  intro p l e s m args below meth c H locs ls C P F hl hL hs
  obtain ⟨hx, hb, hml, hown, hts, hK, -⟩ := id C
  have ha : yI a := y_hd (y_tl hs)
  have hB : yI b := y_hd hs
  have k := h p l e s m args below meth c H locs ls C P F hl hL (y_ok1 (v := .inl (b32xor a b)) (yI_of32 _) (y_tl (y_tl hs)))
  refine lv_ixor hx hb hd ?_
  rw [show Int32.ofInt a ^^^ Int32.ofInt b = Int32.ofInt (b32xor a b) from by simp [b32xor]]
  exact k
theorem y_ishl {a b : Int} (hd : decode M.2.1 pc = .ok (.ishl, 1)) (h : Y E M R Qf (pc + 1) L (.inl (b32shl a b) :: st) S n kc ks) : Y E M R Qf pc L (.inl b :: .inl a :: st) S n kc ks := by
  intro p l e s m args below meth c H locs ls C P F hl hL hs
  obtain ⟨hx, hb, hml, hown, hts, hK, -⟩ := id C
  have ha : yI a := y_hd (y_tl hs)
  have hB : yI b := y_hd hs
  have k := h p l e s m args below meth c H locs ls C P F hl hL (y_ok1 (v := .inl (b32shl a b)) (yI_of32 _) (y_tl (y_tl hs)))
  refine lv_ishl hx hb hd ?_
  rw [show Int32.ofInt a <<< (Int32.ofInt b &&& 31) = Int32.ofInt (b32shl a b) from by simp [b32shl]]
  exact k
theorem y_ishr {a b : Int} (hd : decode M.2.1 pc = .ok (.ishr, 1)) (h : Y E M R Qf (pc + 1) L (.inl (b32shr a b) :: st) S n kc ks) : Y E M R Qf pc L (.inl b :: .inl a :: st) S n kc ks := by
  intro p l e s m args below meth c H locs ls C P F hl hL hs
  obtain ⟨hx, hb, hml, hown, hts, hK, -⟩ := id C
  have ha : yI a := y_hd (y_tl hs)
  have hB : yI b := y_hd hs
  have k := h p l e s m args below meth c H locs ls C P F hl hL (y_ok1 (v := .inl (b32shr a b)) (yI_of32 _) (y_tl (y_tl hs)))
  refine lv_ishr hx hb hd ?_
  rw [show Int32.ofInt a >>> (Int32.ofInt b &&& 31) = Int32.ofInt (b32shr a b) from by simp [b32shr]]
  exact k
theorem y_ineg {a : Int} (hd : decode M.2.1 pc = .ok (.ineg, 1)) (hr : yI (-a)) (h : Y E M R Qf (pc + 1) L (.inl (-a) :: st) S n kc ks) : Y E M R Qf pc L (.inl a :: st) S n kc ks := by
  intro p l e s m args below meth c H locs ls C P F hl hL hs
  obtain ⟨hx, hb, hml, hown, hts, hK, -⟩ := id C
  have k := h p l e s m args below meth c H locs ls C P F hl hL (y_ok1 (v := .inl (-a)) hr (y_tl hs))
  refine lv_ineg hx hb hd ?_
  rw [show -Int32.ofInt a = Int32.ofInt (-a) from (Int32.ofInt_neg a).symm]
  exact k
theorem y_i2l {a : Int} (hd : decode M.2.1 pc = .ok (.i2l, 1)) (h : Y E M R Qf (pc + 1) L (.inr (.inl (bi2l a)) :: st) S n kc ks) : Y E M R Qf pc L (.inl a :: st) S n kc ks := by
  intro p l e s m args below meth c H locs ls C P F hl hL hs
  obtain ⟨hx, hb, hml, hown, hts, hK, -⟩ := id C
  have ha := y_hd hs
  have k := h p l e s m args below meth c H locs ls C P F hl hL (y_ok1 (v := .inr (.inl (bi2l a))) (yJ_of64 _) (y_tl hs))
  exact lv_i2l hx hb hd (v := Int64.ofInt (bi2l a)) (Int64.ofInt_toInt _).symm k
theorem y_i2b {a : Int} (hd : decode M.2.1 pc = .ok (.i2b, 1)) (h : Y E M R Qf (pc + 1) L (.inl (b32i2b a) :: st) S n kc ks) : Y E M R Qf pc L (.inl a :: st) S n kc ks := by
  intro p l e s m args below meth c H locs ls C P F hl hL hs
  obtain ⟨hx, hb, hml, hown, hts, hK, -⟩ := id C
  have ha := y_hd hs
  have k := h p l e s m args below meth c H locs ls C P F hl hL (y_ok1 (v := .inl (b32i2b a)) (yI_of32 _) (y_tl hs))
  exact lv_i2b hx hb hd (v := Int32.ofInt (b32i2b a)) (Int32.ofInt_toInt _).symm k
theorem y_i2c {a : Int} (hd : decode M.2.1 pc = .ok (.i2c, 1)) (h : Y E M R Qf (pc + 1) L (.inl (b32i2c a) :: st) S n kc ks) : Y E M R Qf pc L (.inl a :: st) S n kc ks := by
  intro p l e s m args below meth c H locs ls C P F hl hL hs
  obtain ⟨hx, hb, hml, hown, hts, hK, -⟩ := id C
  have ha := y_hd hs
  have k := h p l e s m args below meth c H locs ls C P F hl hL (y_ok1 (v := .inl (b32i2c a)) (yI_of32 _) (y_tl hs))
  exact lv_i2c hx hb hd (v := Int32.ofInt (b32i2c a)) (Int32.ofInt_toInt _).symm k
theorem y_laddW {a b : Int} (hd : decode M.2.1 pc = .ok (.ladd, 1)) (h : Y E M R Qf (pc + 1) L (.inr (.inl (w64 (a + b))) :: st) S n kc ks) : Y E M R Qf pc L (.inr (.inl b) :: .inr (.inl a) :: st) S n kc ks := by
  intro p l e s m args below meth c H locs ls C P F hl hL hs
  obtain ⟨hx, hb, hml, hown, hts, hK, -⟩ := id C
  have k := h p l e s m args below meth c H locs ls C P F hl hL (y_ok1 (v := .inr (.inl (w64 (a + b)))) (yJ_of64 _) (y_tl (y_tl hs)))
  refine lv_ladd hx hb hd ?_
  rw [show Int64.ofInt a + Int64.ofInt b = Int64.ofInt (w64 (a + b)) from by rw [w64_c]; exact (Int64.ofInt_add a b).symm]
  exact k
theorem y_lmulW {a b : Int} (hd : decode M.2.1 pc = .ok (.lmul, 1)) (h : Y E M R Qf (pc + 1) L (.inr (.inl (w64 (a * b))) :: st) S n kc ks) : Y E M R Qf pc L (.inr (.inl b) :: .inr (.inl a) :: st) S n kc ks := by
  intro p l e s m args below meth c H locs ls C P F hl hL hs
  obtain ⟨hx, hb, hml, hown, hts, hK, -⟩ := id C
  have k := h p l e s m args below meth c H locs ls C P F hl hL (y_ok1 (v := .inr (.inl (w64 (a * b)))) (yJ_of64 _) (y_tl (y_tl hs)))
  refine lv_lmul hx hb hd ?_
  rw [show Int64.ofInt a * Int64.ofInt b = Int64.ofInt (w64 (a * b)) from by rw [w64_c]; exact (Int64.ofInt_mul a b).symm]
  exact k
theorem y_land {a b : Int} (hd : decode M.2.1 pc = .ok (.land, 1)) (h : Y E M R Qf (pc + 1) L (.inr (.inl (b64and a b)) :: st) S n kc ks) : Y E M R Qf pc L (.inr (.inl b) :: .inr (.inl a) :: st) S n kc ks := by
  intro p l e s m args below meth c H locs ls C P F hl hL hs
  obtain ⟨hx, hb, hml, hown, hts, hK, -⟩ := id C
  have k := h p l e s m args below meth c H locs ls C P F hl hL (y_ok1 (v := .inr (.inl (b64and a b))) (yJ_of64 _) (y_tl (y_tl hs)))
  refine lv_land hx hb hd ?_
  rw [show Int64.ofInt a &&& Int64.ofInt b = Int64.ofInt (b64and a b) from by simp [b64and]]
  exact k
theorem y_lor {a b : Int} (hd : decode M.2.1 pc = .ok (.lor, 1)) (h : Y E M R Qf (pc + 1) L (.inr (.inl (b64or a b)) :: st) S n kc ks) : Y E M R Qf pc L (.inr (.inl b) :: .inr (.inl a) :: st) S n kc ks := by
  intro p l e s m args below meth c H locs ls C P F hl hL hs
  obtain ⟨hx, hb, hml, hown, hts, hK, -⟩ := id C
  have k := h p l e s m args below meth c H locs ls C P F hl hL (y_ok1 (v := .inr (.inl (b64or a b))) (yJ_of64 _) (y_tl (y_tl hs)))
  refine lv_lor hx hb hd ?_
  rw [show Int64.ofInt a ||| Int64.ofInt b = Int64.ofInt (b64or a b) from by simp [b64or]]
  exact k
theorem y_lshl {a b : Int} (hd : decode M.2.1 pc = .ok (.lshl, 1)) (h : Y E M R Qf (pc + 1) L (.inr (.inl (b64shl a b)) :: st) S n kc ks) : Y E M R Qf pc L (.inl b :: .inr (.inl a) :: st) S n kc ks := by
  intro p l e s m args below meth c H locs ls C P F hl hL hs
  obtain ⟨hx, hb, hml, hown, hts, hK, -⟩ := id C
  have k := h p l e s m args below meth c H locs ls C P F hl hL (y_ok1 (v := .inr (.inl (b64shl a b))) (yJ_of64 _) (y_tl (y_tl hs)))
  exact lv_lshl hx hb hd (v := Int64.ofInt (b64shl a b)) (by simp [b64shl]) k
theorem y_lshr {a b : Int} (hd : decode M.2.1 pc = .ok (.lshr, 1)) (h : Y E M R Qf (pc + 1) L (.inr (.inl (b64shr a b)) :: st) S n kc ks) : Y E M R Qf pc L (.inl b :: .inr (.inl a) :: st) S n kc ks := by
  intro p l e s m args below meth c H locs ls C P F hl hL hs
  obtain ⟨hx, hb, hml, hown, hts, hK, -⟩ := id C
  have k := h p l e s m args below meth c H locs ls C P F hl hL (y_ok1 (v := .inr (.inl (b64shr a b))) (yJ_of64 _) (y_tl (y_tl hs)))
  exact lv_lshr hx hb hd (v := Int64.ofInt (b64shr a b)) (by simp [b64shr]) k
theorem y_lcmp {a b : Int} (hd : decode M.2.1 pc = .ok (.lcmp, 1)) (h : Y E M R Qf (pc + 1) L (.inl (blcmp a b) :: st) S n kc ks) : Y E M R Qf pc L (.inr (.inl b) :: .inr (.inl a) :: st) S n kc ks := by
  intro p l e s m args below meth c H locs ls C P F hl hL hs
  obtain ⟨hx, hb, hml, hown, hts, hK, -⟩ := id C
  have hB : yJ b := y_hd hs
  have ha : yJ a := y_hd (y_tl hs)
  have k := h p l e s m args below meth c H locs ls C P F hl hL (y_ok1 (v := .inl (blcmp a b)) (show yI (blcmp a b) from by unfold blcmp; split <;> (try split) <;> exact ⟨by decide, by decide⟩) (y_tl (y_tl hs)))
  refine W.lcmp hx hb (x := Int64.ofInt a) (y := Int64.ofInt b) hd ?_
  rw [show lg_cmp (Int64.ofInt a) (Int64.ofInt b) = Int32.ofInt (blcmp a b) from ?_]
  · exact k
  · have e1 : (Int64.ofInt a > Int64.ofInt b) ↔ a > b := by
      show Int64.ofInt b < Int64.ofInt a ↔ _
      rw [Int64.lt_iff_toInt_lt, yJ_toInt ha, yJ_toInt hB]
    have e2 : (Int64.ofInt a = Int64.ofInt b) ↔ a = b := by
      rw [← Int64.toInt_inj, yJ_toInt ha, yJ_toInt hB]
    unfold lg_cmp blcmp
    by_cases q1 : a > b
    · rw [if_pos (e1.mpr q1), if_pos q1]; rfl
    · rw [if_neg (fun q => q1 (e1.mp q)), if_neg q1]
      by_cases q2 : a = b
      · rw [if_pos (e2.mpr q2), if_pos q2]; rfl
      · rw [if_neg (fun q => q2 (e2.mp q)), if_neg q2]; rfl
theorem y_dup {v : yV} (hd : decode M.2.1 pc = .ok (.dup, 1)) (hc : yCat v = 1) (h : Y E M R Qf (pc + 1) L (v :: v :: st) S n kc ks) : Y E M R Qf pc L (v :: st) S n kc ks := by
  intro p l e s m args below meth c H locs ls C P F hl hL hs
  obtain ⟨hx, hb, hml, hown, hts, hK, -⟩ := id C
  exact lv_dup hx hb hd (by rw [yCat_ok]; exact hc) (h p l e s m args below meth c H locs ls C P F hl hL (y_ok1 (y_hd hs) hs))
theorem y_pop {v : yV} (hd : decode M.2.1 pc = .ok (.pop, 1)) (hc : yCat v = 1) (h : Y E M R Qf (pc + 1) L st S n kc ks) : Y E M R Qf pc L (v :: st) S n kc ks := by
  intro p l e s m args below meth c H locs ls C P F hl hL hs
  obtain ⟨hx, hb, hml, hown, hts, hK, -⟩ := id C
  exact lv_pop hx hb hd (by rw [yCat_ok]; exact hc) (h p l e s m args below meth c H locs ls C P F hl hL (y_tl hs))
theorem y_dup2 {v u : yV} (hd : decode M.2.1 pc = .ok (.dup2, 1)) (hc : yCat v = 1) (hc2 : yCat u = 1) (h : Y E M R Qf (pc + 1) L (v :: u :: v :: u :: st) S n kc ks) : Y E M R Qf pc L (v :: u :: st) S n kc ks := by
  intro p l e s m args below meth c H locs ls C P F hl hL hs
  obtain ⟨hx, hb, hml, hown, hts, hK, -⟩ := id C
  exact lv_dup2_11 hx hb hd (by rw [yCat_ok]; exact hc) (by rw [yCat_ok]; exact hc2) (h p l e s m args below meth c H locs ls C P F hl hL (y_ok1 (y_hd hs) (y_ok1 (y_hd (y_tl hs)) hs)))
theorem y_icmp_eq {a b : Int} {off : Int} {tgt : Nat} (hd : decode M.2.1 pc = .ok (.if_icmp .eq off, 3)) (ht : (pc : Int) + off = (tgt : Int)) (h1 : a = b → Y E M R Qf tgt L st S n kc ks) (h2 : ¬ (a = b) → Y E M R Qf (pc + 3) L st S n kc ks) : Y E M R Qf pc L (.inl b :: .inl a :: st) S n kc ks := by
  intro p l e s m args below meth c H locs ls C P F hl hL hs
  obtain ⟨hx, hb, hml, hown, hts, hK, -⟩ := id C
  have ha : yI a := y_hd (y_tl hs)
  have hB : yI b := y_hd hs
  refine lv_icmp_eq (x := Int32.ofInt a) (y := Int32.ofInt b) hx hb hd ht (fun q => ?_) (fun q => ?_)
  · exact h1 ((yI_eq ha hB).mp q) p l e s m args below meth c H locs ls C P F hl hL (y_tl (y_tl hs))
  · exact h2 (fun w => q ((yI_eq ha hB).mpr w)) p l e s m args below meth c H locs ls C P F hl hL (y_tl (y_tl hs))
theorem y_icmp_eq_t {a b : Int} {off : Int} {tgt : Nat} (hd : decode M.2.1 pc = .ok (.if_icmp .eq off, 3)) (ht : (pc : Int) + off = (tgt : Int)) (hc : a = b) (h1 : Y E M R Qf tgt L st S n kc ks) : Y E M R Qf pc L (.inl b :: .inl a :: st) S n kc ks := y_icmp_eq hd ht (fun _ => h1) (fun q => absurd hc q)
theorem y_icmp_eq_f {a b : Int} {off : Int} (hd : decode M.2.1 pc = .ok (.if_icmp .eq off, 3)) (hc : ¬ (a = b)) (ht : 0 ≤ (pc : Int) + off) (h1 : Y E M R Qf (pc + 3) L st S n kc ks) : Y E M R Qf pc L (.inl b :: .inl a :: st) S n kc ks := y_icmp_eq (tgt := ((pc : Int) + off).toNat) hd (by omega) (fun q => absurd q hc) (fun _ => h1)
theorem y_if_eq {a : Int} {off : Int} {tgt : Nat} (hd : decode M.2.1 pc = .ok (.ifCond .eq off, 3)) (ht : (pc : Int) + off = (tgt : Int)) (h1 : a = 0 → Y E M R Qf tgt L st S n kc ks) (h2 : ¬ (a = 0) → Y E M R Qf (pc + 3) L st S n kc ks) : Y E M R Qf pc L (.inl a :: st) S n kc ks := by
  intro p l e s m args below meth c H locs ls C P F hl hL hs
  obtain ⟨hx, hb, hml, hown, hts, hK, -⟩ := id C
  have ha : yI a := y_hd hs
  refine lv_if_eq (x := Int32.ofInt a) hx hb hd ht (fun q => ?_) (fun q => ?_)
  · exact h1 ((yI_eq ha yI_0).mp q) p l e s m args below meth c H locs ls C P F hl hL (y_tl hs)
  · exact h2 (fun w => q ((yI_eq ha yI_0).mpr w)) p l e s m args below meth c H locs ls C P F hl hL (y_tl hs)
theorem y_if_eq_t {a : Int} {off : Int} {tgt : Nat} (hd : decode M.2.1 pc = .ok (.ifCond .eq off, 3)) (ht : (pc : Int) + off = (tgt : Int)) (hc : a = 0) (h1 : Y E M R Qf tgt L st S n kc ks) : Y E M R Qf pc L (.inl a :: st) S n kc ks := y_if_eq hd ht (fun _ => h1) (fun q => absurd hc q)
theorem y_if_eq_f {a : Int} {off : Int} (hd : decode M.2.1 pc = .ok (.ifCond .eq off, 3)) (hc : ¬ (a = 0)) (ht : 0 ≤ (pc : Int) + off) (h1 : Y E M R Qf (pc + 3) L st S n kc ks) : Y E M R Qf pc L (.inl a :: st) S n kc ks := y_if_eq (tgt := ((pc : Int) + off).toNat) hd (by omega) (fun q => absurd q hc) (fun _ => h1)
theorem y_icmp_ne {a b : Int} {off : Int} {tgt : Nat} (hd : decode M.2.1 pc = .ok (.if_icmp .ne off, 3)) (ht : (pc : Int) + off = (tgt : Int)) (h1 : ¬ a = b → Y E M R Qf tgt L st S n kc ks) (h2 : ¬ (¬ a = b) → Y E M R Qf (pc + 3) L st S n kc ks) : Y E M R Qf pc L (.inl b :: .inl a :: st) S n kc ks := by
  intro p l e s m args below meth c H locs ls C P F hl hL hs
  obtain ⟨hx, hb, hml, hown, hts, hK, -⟩ := id C
  have ha : yI a := y_hd (y_tl hs)
  have hB : yI b := y_hd hs
  refine lv_icmp_ne (x := Int32.ofInt a) (y := Int32.ofInt b) hx hb hd ht (fun q => ?_) (fun q => ?_)
  · exact h1 (fun w => q ((yI_eq ha hB).mpr w)) p l e s m args below meth c H locs ls C P F hl hL (y_tl (y_tl hs))
  · exact h2 (fun w => w ((yI_eq ha hB).mp q)) p l e s m args below meth c H locs ls C P F hl hL (y_tl (y_tl hs))
theorem y_icmp_ne_t {a b : Int} {off : Int} {tgt : Nat} (hd : decode M.2.1 pc = .ok (.if_icmp .ne off, 3)) (ht : (pc : Int) + off = (tgt : Int)) (hc : ¬ a = b) (h1 : Y E M R Qf tgt L st S n kc ks) : Y E M R Qf pc L (.inl b :: .inl a :: st) S n kc ks := y_icmp_ne hd ht (fun _ => h1) (fun q => absurd hc q)
theorem y_icmp_ne_f {a b : Int} {off : Int} (hd : decode M.2.1 pc = .ok (.if_icmp .ne off, 3)) (hc : ¬ (¬ a = b)) (ht : 0 ≤ (pc : Int) + off) (h1 : Y E M R Qf (pc + 3) L st S n kc ks) : Y E M R Qf pc L (.inl b :: .inl a :: st) S n kc ks := y_icmp_ne (tgt := ((pc : Int) + off).toNat) hd (by omega) (fun q => absurd q hc) (fun _ => h1)
theorem y_if_ne {a : Int} {off : Int} {tgt : Nat} (hd : decode M.2.1 pc = .ok (.ifCond .ne off, 3)) (ht : (pc : Int) + off = (tgt : Int)) (h1 : ¬ a = 0 → Y E M R Qf tgt L st S n kc ks) (h2 : ¬ (¬ a = 0) → Y E M R Qf (pc + 3) L st S n kc ks) : Y E M R Qf pc L (.inl a :: st) S n kc ks := by
  intro p l e s m args below meth c H locs ls C P F hl hL hs
  obtain ⟨hx, hb, hml, hown, hts, hK, -⟩ := id C
  have ha : yI a := y_hd hs
  refine lv_if_ne (x := Int32.ofInt a) hx hb hd ht (fun q => ?_) (fun q => ?_)
  · exact h1 (fun w => q ((yI_eq ha yI_0).mpr w)) p l e s m args below meth c H locs ls C P F hl hL (y_tl hs)
  · exact h2 (fun w => w ((yI_eq ha yI_0).mp q)) p l e s m args below meth c H locs ls C P F hl hL (y_tl hs)
theorem y_if_ne_t {a : Int} {off : Int} {tgt : Nat} (hd : decode M.2.1 pc = .ok (.ifCond .ne off, 3)) (ht : (pc : Int) + off = (tgt : Int)) (hc : ¬ a = 0) (h1 : Y E M R Qf tgt L st S n kc ks) : Y E M R Qf pc L (.inl a :: st) S n kc ks := y_if_ne hd ht (fun _ => h1) (fun q => absurd hc q)
theorem y_if_ne_f {a : Int} {off : Int} (hd : decode M.2.1 pc = .ok (.ifCond .ne off, 3)) (hc : ¬ (¬ a = 0)) (ht : 0 ≤ (pc : Int) + off) (h1 : Y E M R Qf (pc + 3) L st S n kc ks) : Y E M R Qf pc L (.inl a :: st) S n kc ks := y_if_ne (tgt := ((pc : Int) + off).toNat) hd (by omega) (fun q => absurd q hc) (fun _ => h1)
theorem y_icmp_lt {a b : Int} {off : Int} {tgt : Nat} (hd : decode M.2.1 pc = .ok (.if_icmp .lt off, 3)) (ht : (pc : Int) + off = (tgt : Int)) (h1 : a < b → Y E M R Qf tgt L st S n kc ks) (h2 : ¬ (a < b) → Y E M R Qf (pc + 3) L st S n kc ks) : Y E M R Qf pc L (.inl b :: .inl a :: st) S n kc ks := by
  intro p l e s m args below meth c H locs ls C P F hl hL hs
  obtain ⟨hx, hb, hml, hown, hts, hK, -⟩ := id C
  have ha : yI a := y_hd (y_tl hs)
  have hB : yI b := y_hd hs
  refine lv_icmp_lt (x := Int32.ofInt a) (y := Int32.ofInt b) hx hb hd ht (fun q => ?_) (fun q => ?_)
  · exact h1 ((yI_lt ha hB).mp q) p l e s m args below meth c H locs ls C P F hl hL (y_tl (y_tl hs))
  · exact h2 (fun w => q ((yI_lt ha hB).mpr w)) p l e s m args below meth c H locs ls C P F hl hL (y_tl (y_tl hs))
theorem y_icmp_lt_t {a b : Int} {off : Int} {tgt : Nat} (hd : decode M.2.1 pc = .ok (.if_icmp .lt off, 3)) (ht : (pc : Int) + off = (tgt : Int)) (hc : a < b) (h1 : Y E M R Qf tgt L st S n kc ks) : Y E M R Qf pc L (.inl b :: .inl a :: st) S n kc ks := y_icmp_lt hd ht (fun _ => h1) (fun q => absurd hc q)
theorem y_icmp_lt_f {a b : Int} {off : Int} (hd : decode M.2.1 pc = .ok (.if_icmp .lt off, 3)) (hc : ¬ (a < b)) (ht : 0 ≤ (pc : Int) + off) (h1 : Y E M R Qf (pc + 3) L st S n kc ks) : Y E M R Qf pc L (.inl b :: .inl a :: st) S n kc ks := y_icmp_lt (tgt := ((pc : Int) + off).toNat) hd (by omega) (fun q => absurd q hc) (fun _ => h1)
theorem y_if_lt {a : Int} {off : Int} {tgt : Nat} (hd : decode M.2.1 pc = .ok (.ifCond .lt off, 3)) (ht : (pc : Int) + off = (tgt : Int)) (h1 : a < 0 → Y E M R Qf tgt L st S n kc ks) (h2 : ¬ (a < 0) → Y E M R Qf (pc + 3) L st S n kc ks) : Y E M R Qf pc L (.inl a :: st) S n kc ks := by
  intro p l e s m args below meth c H locs ls C P F hl hL hs
  obtain ⟨hx, hb, hml, hown, hts, hK, -⟩ := id C
  have ha : yI a := y_hd hs
  refine lv_if_lt (x := Int32.ofInt a) hx hb hd ht (fun q => ?_) (fun q => ?_)
  · exact h1 ((yI_lt ha yI_0).mp q) p l e s m args below meth c H locs ls C P F hl hL (y_tl hs)
  · exact h2 (fun w => q ((yI_lt ha yI_0).mpr w)) p l e s m args below meth c H locs ls C P F hl hL (y_tl hs)
theorem y_if_lt_t {a : Int} {off : Int} {tgt : Nat} (hd : decode M.2.1 pc = .ok (.ifCond .lt off, 3)) (ht : (pc : Int) + off = (tgt : Int)) (hc : a < 0) (h1 : Y E M R Qf tgt L st S n kc ks) : Y E M R Qf pc L (.inl a :: st) S n kc ks := y_if_lt hd ht (fun _ => h1) (fun q => absurd hc q)
theorem y_if_lt_f {a : Int} {off : Int} (hd : decode M.2.1 pc = .ok (.ifCond .lt off, 3)) (hc : ¬ (a < 0)) (ht : 0 ≤ (pc : Int) + off) (h1 : Y E M R Qf (pc + 3) L st S n kc ks) : Y E M R Qf pc L (.inl a :: st) S n kc ks := y_if_lt (tgt := ((pc : Int) + off).toNat) hd (by omega) (fun q => absurd q hc) (fun _ => h1)
theorem y_icmp_ge {a b : Int} {off : Int} {tgt : Nat} (hd : decode M.2.1 pc = .ok (.if_icmp .ge off, 3)) (ht : (pc : Int) + off = (tgt : Int)) (h1 : a ≥ b → Y E M R Qf tgt L st S n kc ks) (h2 : ¬ (a ≥ b) → Y E M R Qf (pc + 3) L st S n kc ks) : Y E M R Qf pc L (.inl b :: .inl a :: st) S n kc ks := by
  intro p l e s m args below meth c H locs ls C P F hl hL hs
  obtain ⟨hx, hb, hml, hown, hts, hK, -⟩ := id C
  have ha : yI a := y_hd (y_tl hs)
  have hB : yI b := y_hd hs
  refine lv_icmp_ge (x := Int32.ofInt a) (y := Int32.ofInt b) hx hb hd ht (fun q => ?_) (fun q => ?_)
  · exact h1 ((yI_le hB ha).mp q) p l e s m args below meth c H locs ls C P F hl hL (y_tl (y_tl hs))
  · exact h2 (fun w => q ((yI_le hB ha).mpr w)) p l e s m args below meth c H locs ls C P F hl hL (y_tl (y_tl hs))
theorem y_icmp_ge_t {a b : Int} {off : Int} {tgt : Nat} (hd : decode M.2.1 pc = .ok (.if_icmp .ge off, 3)) (ht : (pc : Int) + off = (tgt : Int)) (hc : a ≥ b) (h1 : Y E M R Qf tgt L st S n kc ks) : Y E M R Qf pc L (.inl b :: .inl a :: st) S n kc ks := y_icmp_ge hd ht (fun _ => h1) (fun q => absurd hc q)
theorem y_icmp_ge_f {a b : Int} {off : Int} (hd : decode M.2.1 pc = .ok (.if_icmp .ge off, 3)) (hc : ¬ (a ≥ b)) (ht : 0 ≤ (pc : Int) + off) (h1 : Y E M R Qf (pc + 3) L st S n kc ks) : Y E M R Qf pc L (.inl b :: .inl a :: st) S n kc ks := y_icmp_ge (tgt := ((pc : Int) + off).toNat) hd (by omega) (fun q => absurd q hc) (fun _ => h1)
theorem y_if_ge {a : Int} {off : Int} {tgt : Nat} (hd : decode M.2.1 pc = .ok (.ifCond .ge off, 3)) (ht : (pc : Int) + off = (tgt : Int)) (h1 : a ≥ 0 → Y E M R Qf tgt L st S n kc ks) (h2 : ¬ (a ≥ 0) → Y E M R Qf (pc + 3) L st S n kc ks) : Y E M R Qf pc L (.inl a :: st) S n kc ks := by
  intro p l e s m args below meth c H locs ls C P F hl hL hs
  obtain ⟨hx, hb, hml, hown, hts, hK, -⟩ := id C
  have ha : yI a := y_hd hs
  refine lv_if_ge (x := Int32.ofInt a) hx hb hd ht (fun q => ?_) (fun q => ?_)
  · exact h1 ((yI_le yI_0 ha).mp q) p l e s m args below meth c H locs ls C P F hl hL (y_tl hs)
  · exact h2 (fun w => q ((yI_le yI_0 ha).mpr w)) p l e s m args below meth c H locs ls C P F hl hL (y_tl hs)
theorem y_if_ge_t {a : Int} {off : Int} {tgt : Nat} (hd : decode M.2.1 pc = .ok (.ifCond .ge off, 3)) (ht : (pc : Int) + off = (tgt : Int)) (hc : a ≥ 0) (h1 : Y E M R Qf tgt L st S n kc ks) : Y E M R Qf pc L (.inl a :: st) S n kc ks := y_if_ge hd ht (fun _ => h1) (fun q => absurd hc q)
theorem y_if_ge_f {a : Int} {off : Int} (hd : decode M.2.1 pc = .ok (.ifCond .ge off, 3)) (hc : ¬ (a ≥ 0)) (ht : 0 ≤ (pc : Int) + off) (h1 : Y E M R Qf (pc + 3) L st S n kc ks) : Y E M R Qf pc L (.inl a :: st) S n kc ks := y_if_ge (tgt := ((pc : Int) + off).toNat) hd (by omega) (fun q => absurd q hc) (fun _ => h1)
theorem y_icmp_gt {a b : Int} {off : Int} {tgt : Nat} (hd : decode M.2.1 pc = .ok (.if_icmp .gt off, 3)) (ht : (pc : Int) + off = (tgt : Int)) (h1 : a > b → Y E M R Qf tgt L st S n kc ks) (h2 : ¬ (a > b) → Y E M R Qf (pc + 3) L st S n kc ks) : Y E M R Qf pc L (.inl b :: .inl a :: st) S n kc ks := by
  intro p l e s m args below meth c H locs ls C P F hl hL hs
  obtain ⟨hx, hb, hml, hown, hts, hK, -⟩ := id C
  have ha : yI a := y_hd (y_tl hs)
  have hB : yI b := y_hd hs
  refine lv_icmp_gt (x := Int32.ofInt a) (y := Int32.ofInt b) hx hb hd ht (fun q => ?_) (fun q => ?_)
  · exact h1 ((yI_lt hB ha).mp q) p l e s m args below meth c H locs ls C P F hl hL (y_tl (y_tl hs))
  · exact h2 (fun w => q ((yI_lt hB ha).mpr w)) p l e s m args below meth c H locs ls C P F hl hL (y_tl (y_tl hs))
theorem y_icmp_gt_t {a b : Int} {off : Int} {tgt : Nat} (hd : decode M.2.1 pc = .ok (.if_icmp .gt off, 3)) (ht : (pc : Int) + off = (tgt : Int)) (hc : a > b) (h1 : Y E M R Qf tgt L st S n kc ks) : Y E M R Qf pc L (.inl b :: .inl a :: st) S n kc ks := y_icmp_gt hd ht (fun _ => h1) (fun q => absurd hc q)
theorem y_icmp_gt_f {a b : Int} {off : Int} (hd : decode M.2.1 pc = .ok (.if_icmp .gt off, 3)) (hc : ¬ (a > b)) (ht : 0 ≤ (pc : Int) + off) (h1 : Y E M R Qf (pc + 3) L st S n kc ks) : Y E M R Qf pc L (.inl b :: .inl a :: st) S n kc ks := y_icmp_gt (tgt := ((pc : Int) + off).toNat) hd (by omega) (fun q => absurd q hc) (fun _ => h1)
theorem y_if_gt {a : Int} {off : Int} {tgt : Nat} (hd : decode M.2.1 pc = .ok (.ifCond .gt off, 3)) (ht : (pc : Int) + off = (tgt : Int)) (h1 : a > 0 → Y E M R Qf tgt L st S n kc ks) (h2 : ¬ (a > 0) → Y E M R Qf (pc + 3) L st S n kc ks) : Y E M R Qf pc L (.inl a :: st) S n kc ks := by
  intro p l e s m args below meth c H locs ls C P F hl hL hs
  obtain ⟨hx, hb, hml, hown, hts, hK, -⟩ := id C
  have ha : yI a := y_hd hs
  refine lv_if_gt (x := Int32.ofInt a) hx hb hd ht (fun q => ?_) (fun q => ?_)
  · exact h1 ((yI_lt yI_0 ha).mp q) p l e s m args below meth c H locs ls C P F hl hL (y_tl hs)
  · exact h2 (fun w => q ((yI_lt yI_0 ha).mpr w)) p l e s m args below meth c H locs ls C P F hl hL (y_tl hs)
theorem y_if_gt_t {a : Int} {off : Int} {tgt : Nat} (hd : decode M.2.1 pc = .ok (.ifCond .gt off, 3)) (ht : (pc : Int) + off = (tgt : Int)) (hc : a > 0) (h1 : Y E M R Qf tgt L st S n kc ks) : Y E M R Qf pc L (.inl a :: st) S n kc ks := y_if_gt hd ht (fun _ => h1) (fun q => absurd hc q)
theorem y_if_gt_f {a : Int} {off : Int} (hd : decode M.2.1 pc = .ok (.ifCond .gt off, 3)) (hc : ¬ (a > 0)) (ht : 0 ≤ (pc : Int) + off) (h1 : Y E M R Qf (pc + 3) L st S n kc ks) : Y E M R Qf pc L (.inl a :: st) S n kc ks := y_if_gt (tgt := ((pc : Int) + off).toNat) hd (by omega) (fun q => absurd q hc) (fun _ => h1)
theorem y_icmp_le {a b : Int} {off : Int} {tgt : Nat} (hd : decode M.2.1 pc = .ok (.if_icmp .le off, 3)) (ht : (pc : Int) + off = (tgt : Int)) (h1 : a ≤ b → Y E M R Qf tgt L st S n kc ks) (h2 : ¬ (a ≤ b) → Y E M R Qf (pc + 3) L st S n kc ks) : Y E M R Qf pc L (.inl b :: .inl a :: st) S n kc ks := by
  intro p l e s m args below meth c H locs ls C P F hl hL hs
  obtain ⟨hx, hb, hml, hown, hts, hK, -⟩ := id C
  have ha : yI a := y_hd (y_tl hs)
  have hB : yI b := y_hd hs
  refine lv_icmp_le (x := Int32.ofInt a) (y := Int32.ofInt b) hx hb hd ht (fun q => ?_) (fun q => ?_)
  · exact h1 ((yI_le ha hB).mp q) p l e s m args below meth c H locs ls C P F hl hL (y_tl (y_tl hs))
  · exact h2 (fun w => q ((yI_le ha hB).mpr w)) p l e s m args below meth c H locs ls C P F hl hL (y_tl (y_tl hs))
theorem y_icmp_le_t {a b : Int} {off : Int} {tgt : Nat} (hd : decode M.2.1 pc = .ok (.if_icmp .le off, 3)) (ht : (pc : Int) + off = (tgt : Int)) (hc : a ≤ b) (h1 : Y E M R Qf tgt L st S n kc ks) : Y E M R Qf pc L (.inl b :: .inl a :: st) S n kc ks := y_icmp_le hd ht (fun _ => h1) (fun q => absurd hc q)
theorem y_icmp_le_f {a b : Int} {off : Int} (hd : decode M.2.1 pc = .ok (.if_icmp .le off, 3)) (hc : ¬ (a ≤ b)) (ht : 0 ≤ (pc : Int) + off) (h1 : Y E M R Qf (pc + 3) L st S n kc ks) : Y E M R Qf pc L (.inl b :: .inl a :: st) S n kc ks := y_icmp_le (tgt := ((pc : Int) + off).toNat) hd (by omega) (fun q => absurd q hc) (fun _ => h1)
theorem y_if_le {a : Int} {off : Int} {tgt : Nat} (hd : decode M.2.1 pc = .ok (.ifCond .le off, 3)) (ht : (pc : Int) + off = (tgt : Int)) (h1 : a ≤ 0 → Y E M R Qf tgt L st S n kc ks) (h2 : ¬ (a ≤ 0) → Y E M R Qf (pc + 3) L st S n kc ks) : Y E M R Qf pc L (.inl a :: st) S n kc ks := by
  intro p l e s m args below meth c H locs ls C P F hl hL hs
  obtain ⟨hx, hb, hml, hown, hts, hK, -⟩ := id C
  have ha : yI a := y_hd hs
  refine lv_if_le (x := Int32.ofInt a) hx hb hd ht (fun q => ?_) (fun q => ?_)
  · exact h1 ((yI_le ha yI_0).mp q) p l e s m args below meth c H locs ls C P F hl hL (y_tl hs)
  · exact h2 (fun w => q ((yI_le ha yI_0).mpr w)) p l e s m args below meth c H locs ls C P F hl hL (y_tl hs)
theorem y_if_le_t {a : Int} {off : Int} {tgt : Nat} (hd : decode M.2.1 pc = .ok (.ifCond .le off, 3)) (ht : (pc : Int) + off = (tgt : Int)) (hc : a ≤ 0) (h1 : Y E M R Qf tgt L st S n kc ks) : Y E M R Qf pc L (.inl a :: st) S n kc ks := y_if_le hd ht (fun _ => h1) (fun q => absurd hc q)
theorem y_if_le_f {a : Int} {off : Int} (hd : decode M.2.1 pc = .ok (.ifCond .le off, 3)) (hc : ¬ (a ≤ 0)) (ht : 0 ≤ (pc : Int) + off) (h1 : Y E M R Qf (pc + 3) L st S n kc ks) : Y E M R Qf pc L (.inl a :: st) S n kc ks := y_if_le (tgt := ((pc : Int) + off).toNat) hd (by omega) (fun q => absurd q hc) (fun _ => h1)
theorem y_goto {off : Int} {tgt : Nat} (hd : decode M.2.1 pc = .ok (.goto off, 3)) (ht : (pc : Int) + off = (tgt : Int)) (h : Y E M R Qf tgt L st S n kc ks) : Y E M R Qf pc L st S n kc ks := by
  intro p l e s m args below meth c H locs ls C P F hl hL hs
  obtain ⟨hx, hb, hml, hown, hts, hK, -⟩ := id C
  exact lv_goto hx hb hd ht (h p l e s m args below meth c H locs ls C P F hl hL hs)
theorem y_lookup {dflt : Int} {ps : Array (Int × Int)} {len : Nat} {a off : Int} {tgt : Nat} (hd : decode M.2.1 pc = .ok (.lookupswitch dflt ps, len)) (hp : (ps.toList.zip (ps.toList.drop 1)).all (fun (a, next) => a.1 < next.1) = true) (ho : Op.lookupswitch.offset ps.toList dflt a = off) (ht : (pc : Int) + off = (tgt : Int)) (h : Y E M R Qf tgt L st S n kc ks) : Y E M R Qf pc L (.inl a :: st) S n kc ks := by
  intro p l e s m args below meth c H locs ls C P F hl hL hs
  obtain ⟨hx, hb, hml, hown, hts, hK, -⟩ := id C
  have ha : yI a := y_hd hs
  exact lv_lookup hx hb hd hp (by rw [yI_toInt ha]; exact ho) ht (h p l e s m args below meth c H locs ls C P F hl hL (y_tl hs))
theorem y_tableOut {dflt lo hi : Int} {offs : Array Int} {len : Nat} {a : Int} {tgt : Nat} (hd : decode M.2.1 pc = .ok (.tableswitch dflt lo hi offs, len)) (ho : a < lo ∨ hi < a) (ht : (pc : Int) + dflt = (tgt : Int)) (h : Y E M R Qf tgt L st S n kc ks) : Y E M R Qf pc L (.inl a :: st) S n kc ks := by
  intro p l e s m args below meth c H locs ls C P F hl hL hs
  obtain ⟨hx, hb, hml, hown, hts, hK, -⟩ := id C
  have ha : yI a := y_hd hs
  exact lv_tableOut hx hb hd (by rw [yI_toInt ha]; exact ho) ht (h p l e s m args below meth c H locs ls C P F hl hL (y_tl hs))
theorem y_tableIn {dflt lo hi : Int} {offs : Array Int} {len : Nat} {a off : Int} {tgt : Nat} (hd : decode M.2.1 pc = .ok (.tableswitch dflt lo hi offs, len)) (h1 : ¬ a < lo) (h2 : ¬ hi < a) (ho : offs[(a - lo).toNat]? = some off) (ht : (pc : Int) + off = (tgt : Int)) (h : Y E M R Qf tgt L st S n kc ks) : Y E M R Qf pc L (.inl a :: st) S n kc ks := by
  intro p l e s m args below meth c H locs ls C P F hl hL hs
  obtain ⟨hx, hb, hml, hown, hts, hK, -⟩ := id C
  have ha : yI a := y_hd hs
  exact lv_tableIn hx hb hd (by rw [yI_toInt ha]; exact h1) (by rw [yI_toInt ha]; exact h2) (by rw [yI_toInt ha]; exact ho) ht (h p l e s m args below meth c H locs ls C P F hl hL (y_tl hs))
end YR
