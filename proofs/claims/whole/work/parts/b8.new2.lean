theorem yRp_of {E : yE} {n : Nat} {S : ySt} {H : Heap} (h : ∀ i, i < n → va_at E.2.1 vwCl (E.1 + i, yEnt E S i) H) (z : H.size = E.1 + n) (ok : yOkS n S) : yRp E n S H := by
  refine ⟨fun k q hk => ?_, z, ok⟩
  have hl : k < n := by
    have := (List.getElem?_eq_some_iff.mp hk).1
    rwa [yWs_len] at this
  rw [yWs_get hl] at hk
  cases hk
  exact h k hl
theorem yRp_at {E : yE} {n : Nat} {S : ySt} {H : Heap} (P : yRp E n S H) {i : Nat} (hi : i < n) : va_at E.2.1 vwCl (E.1 + i, yEnt E S i) H := P.1 i _ (yWs_get hi)
/-- the references to the three rows behind n -/
def yMna (S : ySt) (n : Nat) : ySt := fun a k => if a = n ∧ k < 3 then (n : Int) + 2 + k else S a k
section YN2
variable {E : yE} {M : yM} {R : Room} {Qf : List Frame → Array Value → State → State → Prop} {pc n kc ks : Nat} {L : List (Nat × yV)} {st : List yV} {S : ySt}
theorem y_anew (len idx : Nat) (hk : yKd n = (24, len)) (hz : ∀ k, S n k = 0) (hcl : Cond.classLink M.1.cls idx "EvenTown$Earnest" ∈ GW) (hlen : decide (len ≤ 100000) = true) (hR : kc + 1 ≤ R.cells ∧ ks + len ≤ R.slots) (hd : decode M.2.1 pc = .ok (.anewarray idx, 3)) (h : Y E M R Qf (pc + 3) L (.inr (.inr (n + 1)) :: st) S (n + 1) (kc + 1) (ks + len)) : Y E M R Qf pc L (.inl (len : Int) :: st) S n kc ks := by
  intro p l e s m args below meth c H locs ls C P F hl hL hs
  obtain ⟨hx, hb, hml, hown, hts, hK, hret, hlocks, hin, hbs, hTx⟩ := id C
  have hlen2 : len ≤ 100000 := of_decide_eq_true hlen
  have hyl : yI (len : Int) := ⟨by omega, by omega⟩
  have hN : (Int32.ofInt (len : Int)).toNatClampNeg = len := by rw [yI_nat hyl]; rfl
  refine W.anew hx hb hown (hts _ hcl) (va_AO.use hTx.2.2.2.2.1) rfl hd (n := Int32.ofInt (len : Int)) (rest := st.map (yCz E.1)) rfl (by show ¬ Int32.ofInt (len : Int) < 0; rw [show (0 : Int32) = Int32.ofInt 0 from rfl, yI_lt hyl yI_0]; omega) (by rw [hN]; omega) hR.1 (by rw [hN]; exact hR.2) fun cA kA comp f1 f2 f3 f4 => ?_
  rw [hN]
  obtain ⟨kA', comp', g1, g2, g3, g4⟩ := (hK.2 4 _ rfl).2
  have hcA : cA = E.2.2 4 := Option.some.inj (f1.symm.trans g4)
  subst hcA
  generalize hH1 : H.push ({ cls := E.2.2 4, slots := Array.replicate len .null, vm := .none } : Cell) = H1
  have z1 : H1.size = H.size + 1 := by rw [← hH1, Array.size_push]
  have e1 : H1[H.size]? = some (arrV (E.2.2 4) len (fun _ => .null)) := by rw [← hH1, Array.getElem?_push_size, ← arrV_new]
  have o2 : ∀ q : Nat, q < H.size → H1[q]? = H[q]? := fun q hq => by rw [← hH1, Array.getElem?_push, if_neg (Nat.ne_of_lt hq)]
  have hh : H.size = E.1 + n := P.2.1
  show W p l e R s m args below meth c H1 locs (kc + 1) (ks + len) (Qf below args s) (F0 m (pc + 3) ls (.ref H.size :: st.map (yCz E.1)))
  rw [hh]
  rw [hh] at e1
  refine h p l e s m args below meth c H1 locs ls C (yNew_fin P ?_ z1 o2 hz) (va_S.grow F (by rw [z1]; omega) o2) hl hL (y_ok1 trivial (y_tl hs))
  rw [yEnt_a hk (by omega)]
  show H1[E.1 + n]? = some (arrV (E.2.2 4) len (fun j => va_rf (yRf E.1 (S n j))))
  rw [e1]
  refine congrArg (fun f => some (arrV (E.2.2 4) len f)) (funext fun j => ?_)
  rw [hz j]
  rfl
theorem y_mna (idx : Nat) (hk : yKd n = (25, 3)) (hk1 : ∀ j, j < 3 → yKd (n + 1 + j) = (20, 45)) (hz : Fr0 n S) (hcl : Cond.classLink M.1.cls idx "[[I" ∈ GW) (harr : Cond.arrayClass .int ∈ GW) (hR : kc + (1 + 3) ≤ R.cells ∧ ks + (3 + 3 * 45) ≤ R.slots) (hyn : n + 10 < 2147483648) (hd : decode M.2.1 pc = .ok (.multianewarray idx 2, 4)) (h : Y E M R Qf (pc + 4) L (.inr (.inr (n + 1)) :: st) (yMna S n) (n + 4) (kc + 1 + 3) (ks + 3 + 3 * 45)) : Y E M R Qf pc L (.inl 45 :: .inl 3 :: st) S n kc ks := by
  intro p l e s m args below meth c H locs ls C P F hl hL hs
  obtain ⟨hx, hb, hml, hown, hts, hK, hret, hlocks, hin, hbs, hTx⟩ := id C
  intro T hT Xs
  obtain ⟨vm₁, cA, comp, -, fA, fC, hO, -, X', step⟩ := Xs.multianewarray2F (ty := .int) (n := 3) (k := 45) (rest := st.map (yCz E.1)) hx hown (hts _ hcl) hTx.2.2.2.2.2 (hts _ harr) (g := F0 m pc ls ((.inl 45 :: .inl 3 :: st : List yV).map (yCz E.1))) rfl (by rw [hb]; exact hd) rfl (by decide) (by decide) (by decide) (by decide) (by decide) rfl rfl hR.1 hR.2
  have h1 : comp = E.2.2 0 := Option.some.inj (fC.symm.trans (hK.2 0 _ rfl).2)
  have h2 : cA = E.2.2 5 := Option.some.inj (fA.symm.trans (hK.2 5 _ rfl).2)
  subst h1
  subst h2
  change Stand p l e R s m args below meth c (Jvm.Free.Multi.fill (T.setVm vm₁) (E.2.2 5) (E.2.2 0) 3 45 (defaultValue .int) 3) locs (kc + 1 + 3) (ks + 3 + 3 * 45) at X'
  change ∀ target, Steps p.tables e below ((Jvm.Free.Multi.fill (T.setVm vm₁) (E.2.2 5) (E.2.2 0) 3 45 (defaultValue .int) 3).setTop _) target → _ at step
  have hTh : (T.setVm vm₁).heap = H := hT
  obtain ⟨f1, f2, -, -⟩ := Jvm.Free.Multi.fill_facts (T.setVm vm₁) (E.2.2 5) (E.2.2 0) 3 45 (defaultValue .int) 3
  have hold : ∀ x : Nat, x < H.size → (Jvm.Free.Multi.fill (T.setVm vm₁) (E.2.2 5) (E.2.2 0) 3 45 (defaultValue .int) 3).heap[x]? = H[x]? := fun x hx => by
    have := Jvm.Free.Multi.fill_old (T.setVm vm₁) (E.2.2 5) (E.2.2 0) 3 45 (defaultValue .int) (a := x) (by rw [hTh]; exact hx) 3
    rw [hTh] at this
    exact this
  have hrow : ∀ j : Nat, j < 3 → (Jvm.Free.Multi.fill (T.setVm vm₁) (E.2.2 5) (E.2.2 0) 3 45 (defaultValue .int) 3).heap[H.size + 1 + j]? = some (arrV (E.2.2 0) 45 (fun _ => defaultValue .int)) := fun j hj => by
    have := Jvm.Free.Multi.fill_inner (T.setVm vm₁) (E.2.2 5) (E.2.2 0) 3 45 (defaultValue .int) 3 j hj
    rw [hTh] at this
    rw [this, ← arrV_new]
    rfl
  rw [hTh] at f1 f2
  generalize Jvm.Free.Multi.fill (T.setVm vm₁) (E.2.2 5) (E.2.2 0) 3 45 (defaultValue .int) 3 = FF at X' step f1 f2 hold hrow
  have hh : H.size = E.1 + n := P.2.1
  have hRp : yRp E (n + 4) (yMna S n) FF.heap := by
    refine yRp_of (fun i hi => ?_) (by rw [f1, hh]; omega) (fun i k hi => ?_)
    · by_cases q : i < n
      · have hS : yMna S n i = S i := by
          funext k
          exact if_neg (fun w => by omega)
        have := (yRp_at P q).kept (H1 := FF.heap) (hold (E.1 + i) (by rw [hh]; omega))
        unfold yEnt at this ⊢
        rw [hS]
        exact this
      · by_cases q2 : i = n
        · subst q2
          rw [yEnt_a hk (by omega)]
          show FF.heap[E.1 + i]? = some (arrV (E.2.2 5) 3 (fun j => va_rf (yRf E.1 (yMna S i i j))))
          rw [← hh, f2]
          have ho : ∀ N9 : Nat, Jvm.Free.Multi.outerC (E.2.2 5) 3 H.size N9 = arrV (E.2.2 5) 3 (fun j => va_rf (if j < N9 then some (H.size + 1 + j) else none)) := by
            intro N9
            induction N9 with
            | zero =>
              show ({ cls := E.2.2 5, slots := Array.replicate 3 .null, vm := .none } : Cell) = _
              rw [arrV_new]
              refine congrArg (arrV (E.2.2 5) 3) (funext fun j => ?_)
              simp [va_rf]
            | succ i9 ih =>
              show (Jvm.Free.Multi.outerC (E.2.2 5) 3 H.size i9).setSlot i9 (.ref (H.size + 1 + i9)) = _
              rw [ih, arrV_store]
              refine congrArg (arrV (E.2.2 5) 3) (funext fun j => ?_)
              by_cases e : j = i9
              · subst e
                simp [updV, va_rf]
              · by_cases h9 : j < i9
                · simp [updV, e, h9, Nat.lt_succ_of_lt h9]
                · simp [updV, e, h9, show ¬ j < i9 + 1 by omega]
          rw [ho 3]
          refine congrArg (fun f => some (arrV (E.2.2 5) 3 f)) (funext fun j => congrArg va_rf ?_)
          unfold yMna
          by_cases q3 : j < 3
          · rw [if_pos q3, if_pos ⟨rfl, q3⟩]
            unfold yRf
            rw [if_neg (by omega)]
            congr 1
            omega
          · rw [if_neg q3, if_neg (fun w => q3 w.2), hz i (Nat.le_refl _) j]
            rfl
        · obtain ⟨j, rfl⟩ : ∃ j, i = n + 1 + j := ⟨i - (n + 1), by omega⟩
          have hj : j < 3 := by omega
          rw [yEnt_a (hk1 j hj) (by omega)]
          show FF.heap[E.1 + (n + 1 + j)]? = some (arrV (E.2.2 0) 45 (fun q => Value.int (Int32.ofInt (yMna S n (n + 1 + j) q))))
          rw [show E.1 + (n + 1 + j) = H.size + 1 + j by omega, hrow j hj]
          refine congrArg (fun f => some (arrV (E.2.2 0) 45 f)) (funext fun q9 => ?_)
          unfold yMna
          rw [if_neg (fun w => by omega), hz _ (by omega) q9]
          rfl
    · unfold yMna
      by_cases q : i = n ∧ k < 3
      · rw [if_pos q]
        obtain ⟨rfl, q2⟩ := q
        unfold yTy
        rw [hk]
        trivial
      · rw [if_neg q]
        by_cases q2 : i < n
        · exact P.2.2 i k q2
        · rw [hz i (by omega) k]
          exact yOk_0 _
  obtain ⟨t2, a1, b1⟩ := h p l e s m args below meth c FF.heap locs ls C hRp (va_S.grow F (by rw [f1]; omega) hold) hl hL (y_ok1 trivial (y_tl (y_tl hs))) FF rfl X'
  refine ⟨t2, step t2 ?_, b1⟩
  have hTs : T.heap.size = E.1 + n := by rw [hT]; exact hh
  rw [hTs]
  exact a1
theorem y_aast (i v len k9 : Nat) {j : Int} (hi : i < n) (hk : yKd i = (24, len)) (hv : v < n) (hkv : yKd v = (4, 0)) (h0 : 0 ≤ j) (h1 : j < len) (hd : decode M.2.1 pc = .ok (.aastore, 1)) (h : Y E M R Qf (pc + 1) L st (yset S i j.toNat ((v : Int) + 1)) n kc ks) : Y E M R Qf pc L (.inr (.inr (v + 1)) :: .inl j :: .inr (.inr (i + 1)) :: st) S n kc ks := by
  intro p l e s m args below meth c H locs ls C P F hl hL hs
  obtain ⟨hx, hb, hml, hown, hts, hK, -⟩ := id C
  have hj : yI j := y_hd (y_tl hs)
  have hin := yI_in hj h0 h1
  have hlt : (Int32.ofInt j).toNatClampNeg < len := Nat.not_le.mp fun q => hin (Or.inr q)
  have hn0 : ¬ Int32.ofInt j < 0 := fun q => hin (Or.inl q)
  obtain ⟨r', hr', cellV, g1, g2, g3, -⟩ := P.1 v _ (y_own hv hkv (by omega))
  have hcls := (hK.1 4 _ (yCl_ok (by omega))).2
  obtain ⟨kA, comp, k1, k2, k3, -⟩ := (hK.2 4 _ rfl).2
  have hcomp : comp = E.2.1.1 4 := Option.some.inj (k3.symm.trans hcls.1)
  subst hcomp
  obtain ⟨kC, hkC, -⟩ := hcls.2
  have hcell : H[E.1 + i]? = some (arrV (E.2.2 4) len (fun q => va_rf (yRf E.1 (S i q)))) := P.1 i _ (y_arr hi hk (by omega))
  refine W.aast hx hb hcell (fun q h => by cases h) (fun h => by cases h) k1 k2 rfl hkC ⟨hn0, by show _ < (arrV _ _ _).slots.size; rw [arrV_size]; exact hlt⟩ g1 (fun q h => by rw [g3] at h; cases h) (by rw [g2]; exact hkC) (by rw [g2]; exact va_assign hcls) rfl rfl hd fun H1 e1 e2 e3 => ?_
  refine h p l e s m args below meth c H1 _ ls C (yRp_upd P hi yset_off ?_ e2 e3 (yOkS_set P.2.2 (by rw [show yTy i j.toNat = 3 from by unfold yTy; rw [hk]; rfl]; trivial))) (F.put e2 e3 (Nat.le_add_right _ _)) hl hL (y_tl (y_tl (y_tl hs)))
  rw [yEnt_a hk (by omega)]
  show H1[E.1 + i]? = some (arrV (E.2.2 4) len (fun q => va_rf (yRf E.1 (yset S i j.toNat ((v : Int) + 1) i q))))
  rw [e1, arrV_store, yI_nat hj]
  refine congrArg (fun f => some (arrV (E.2.2 4) len f)) (funext fun q => ?_)
  by_cases e : q = j.toNat
  · subst e
    simp only [updV, if_true, yset_at]
    unfold yRf
    rw [if_neg (by omega)]
    show Value.ref (E.1 + v) = Value.ref _
    congr 1
  · simp only [updV, if_neg e, yset_ne (Or.inr e)]
theorem y_objI {idx i : Nat} (hlink : Cond.methodLink M.1.cls idx Lib.objectInit ∈ GW) (hinst : Cond.instanceMethod Lib.objectInit ∈ GW) (hcode : Cond.code Lib.objectInit ⟨#[0xb1]⟩ 1 none ∈ GW) (hR : 1 ≤ R.frames ∧ 20 ≤ R.locals) (hlen : yWords st ≤ 8) (hd : decode M.2.1 pc = .ok (.invokespecial idx, 3)) (h : Y E M R Qf (pc + 3) L st S n kc ks) : Y E M R Qf pc L (.inr (.inr (i + 1)) :: st) S n kc ks := by
  intro p l e s m args below meth c H locs ls C P F hl hL hs
  obtain ⟨hx, hb, hml, hown, hts, hK, -⟩ := id C
  have hrm : 2 * (F0 m pc ls ((.inr (.inr (i + 1)) :: st : List yV).map (yCz E.1))).monitorRoom + ((st.map (yCz E.1)).map fun v => v.category).sum ≤ 8 := lv_room (y_rest hlen)
  refine W.objInit hx hb hown (hts _ hlink) (hts _ hinst) (hts _ hcode) (g := F0 m pc ls ((.inr (.inr (i + 1)) :: st : List yV).map (yCz E.1))) (a := E.1 + i) (rest := st.map (yCz E.1)) rfl (by rw [hml]; exact hl.1) rfl hd hR.1 ?_ (h p l e s m args below meth c H locs ls C P F hl hL (y_tl hs))
  have := hR.2
  omega
theorem y_callI {M2 : yM} {d2 mc ms idx np : Nat} {as : List yV} {S' : ySt} {st0 : List yV} (i : Nat) (hM : Con E M2 d2 mc ms (.inr (.inr (i + 1)) :: as) n S none S') (hc : Cond.code M2.1 M2.2.1 M2.2.2.1 none ∈ GW) (hr : M2.2.2.2 = none) (hnm : M2.1.name = "<init>") (hk : Cond.methodLink M.1.cls idx M2.1 ∈ GW) (hi : Cond.instanceMethod M2.1 ∈ GW) (hini : Cond.initialized M2.1.cls ∈ GW) (hcls : M2.1.cls ≠ "java/lang/invoke/MethodHandle" ∧ M2.1.cls ≠ "java/lang/invoke/VarHandle") (hpn : (parseMethodDescriptor M2.1.desc).map (fun d => d.parameters.length) = some np) (hR : d2 + 1 ≤ R.frames ∧ 8 + (M2.2.2.1 + 11) + 64 * d2 ≤ R.locals ∧ kc + mc ≤ R.cells ∧ ks + ms ≤ R.slots) (hn : as.length = np) (hlen : yWords st ≤ 8) (hd : decode M.2.1 pc = .ok (.invokespecial idx, 3)) (hst : as.reverse ++ .inr (.inr (i + 1)) :: st = st0)
    (h : Y E M R Qf (pc + 3) L st S' (n + mc) (kc + mc) (ks + ms)) : Y E M R Qf pc L st0 S n kc ks := by
  subst hst
  intro p l e s m args below meth c H locs ls C P F hl hL hs
  obtain ⟨hx, hb, hml, hown, hts, hK, hret, hlocks, hin, hbs, hTx⟩ := id C
  have hst2 : ((as.reverse ++ .inr (.inr (i + 1)) :: st).map (yCz E.1)) = (as.map (yCz E.1)).reverse ++ .ref (E.1 + i) :: st.map (yCz E.1) := by simp [yCz]
  have hsr : ∀ v ∈ st, yOk v := fun v hv => hs v (List.mem_append_right _ (List.mem_cons_of_mem _ hv))
  have hsa : ∀ v ∈ (.inr (.inr (i + 1)) : yV) :: as, yOk v := fun v hv => (List.mem_cons.mp hv).elim (fun q => q ▸ trivial) (fun q => hs v (List.mem_append_left _ (List.mem_reverse.mpr q)))
  have hwd : yWd M2 = Cond.code M2.1 M2.2.1 M2.2.2.1 none :: GW := by unfold yWd; rw [hr]
  have hM2 := hM l
  rw [hwd] at hM2
  have run := va_runI (b := E.1 + i) (As := as.map (yCz E.1)) (rest := st.map (yCz E.1)) (g := F0 m pc ls ((as.reverse ++ .inr (.inr (i + 1)) :: st).map (yCz E.1))) (l := l) (e := e) (below := below) (meth := meth) (locs := locs) (cells := kc) (slots := ks) (H := H) (Ts := GW) (own := M.1.cls) (index := idx) ⟨hx, hb, hml, hown, hts⟩ hM2
    ⟨callB_of (Ts := GW) (own := M.1.cls) (index := idx) np hts (gw_GoodIn (fun w hw => (List.mem_cons.mp hw).elim (fun e => e ▸ hc) id)) rfl rfl rfl (hts _ hini) (hts _ hk) ⟨hcls.1, hcls.2, hpn⟩ ⟨hR.1, hR.2.1⟩, hnm, hts _ hi⟩
    ⟨yPc_blind, fun U hU hW => ⟨rfl, by rw [hU]; exact P, va_K.moved hW.alike hK, yTx_kept hTx hW (fun a h1 h2 => by rw [hU]; exact F.2.1 a h1 h2), hsa⟩⟩ rfl (by rw [List.length_map]; exact hn) hl.1 hst2 (lv_room (y_rest hlen)) hd ⟨hR.2.2.1, hR.2.2.2⟩
  exact y_after C F hl hL hsr run h
theorem y_callIN {M2 : yM} {d2 mc ms idx np : Nat} {as : List yV} {S' : ySt} {st0 : List yV} {host : String} (i : Nat) (hM : Con E M2 d2 mc ms (.inr (.inr (i + 1)) :: as) n S none S') (hc : Cond.code M2.1 M2.2.1 M2.2.2.1 none ∈ GW) (hr : M2.2.2.2 = none) (hnm : M2.1.name = "<init>") (hk : Cond.methodLinkNest M.1.cls idx M2.1 host ∈ yNest) (hi : Cond.instanceMethod M2.1 ∈ GW) (hini : Cond.initialized M2.1.cls ∈ GW) (hcls : M2.1.cls ≠ "java/lang/invoke/MethodHandle" ∧ M2.1.cls ≠ "java/lang/invoke/VarHandle") (hpn : (parseMethodDescriptor M2.1.desc).map (fun d => d.parameters.length) = some np) (hR : d2 + 1 ≤ R.frames ∧ 8 + (M2.2.2.1 + 11) + 64 * d2 ≤ R.locals ∧ kc + mc ≤ R.cells ∧ ks + ms ≤ R.slots) (hn : as.length = np) (hlen : yWords st ≤ 8) (hd : decode M.2.1 pc = .ok (.invokespecial idx, 3)) (hst : as.reverse ++ .inr (.inr (i + 1)) :: st = st0)
    (h : Y E M R Qf (pc + 3) L st S' (n + mc) (kc + mc) (ks + ms)) : Y E M R Qf pc L st0 S n kc ks := by
  subst hst
  intro p l e s m args below meth c H locs ls C P F hl hL hs
  obtain ⟨hx, hb, hml, hown, hts, hK, hret, hlocks, hin, hbs, hTx⟩ := id C
  have hst2 : ((as.reverse ++ .inr (.inr (i + 1)) :: st).map (yCz E.1)) = (as.map (yCz E.1)).reverse ++ .ref (E.1 + i) :: st.map (yCz E.1) := by simp [yCz]
  have hsr : ∀ v ∈ st, yOk v := fun v hv => hs v (List.mem_append_right _ (List.mem_cons_of_mem _ hv))
  have hsa : ∀ v ∈ (.inr (.inr (i + 1)) : yV) :: as, yOk v := fun v hv => (List.mem_cons.mp hv).elim (fun q => q ▸ trivial) (fun q => hs v (List.mem_append_left _ (List.mem_reverse.mpr q)))
  have hwd : yWd M2 = Cond.code M2.1 M2.2.1 M2.2.2.1 none :: GW := by unfold yWd; rw [hr]
  have hM2 := hM l
  rw [hwd] at hM2
  have run := va_runIN (b := E.1 + i) (As := as.map (yCz E.1)) (rest := st.map (yCz E.1)) (g := F0 m pc ls ((as.reverse ++ .inr (.inr (i + 1)) :: st).map (yCz E.1))) (l := l) (e := e) (below := below) (meth := meth) (locs := locs) (cells := kc) (slots := ks) (H := H) (Ts := GW) (own := M.1.cls) (index := idx) ⟨hx, hb, hml, hown, hts⟩ hM2
    ⟨va_cnB (Ts := GW) (own := M.1.cls) (host := host) (index := idx) np hts (gw_GoodIn (fun w hw => (List.mem_cons.mp hw).elim (fun e => e ▸ hc) id)) rfl rfl rfl (hTx.2.2.2.1 _ hk) (hts _ hini) ⟨hcls.1, hcls.2, hpn⟩ ⟨hR.1, hR.2.1⟩, hnm, hts _ hi⟩
    ⟨yPc_blind, fun U hU hW => ⟨rfl, by rw [hU]; exact P, va_K.moved hW.alike hK, yTx_kept hTx hW (fun a h1 h2 => by rw [hU]; exact F.2.1 a h1 h2), hsa⟩⟩ rfl (by rw [List.length_map]; exact hn) hl.1 hst2 (lv_room (y_rest hlen)) hd ⟨hR.2.2.1, hR.2.2.2⟩
  exact y_after C F hl hL hsr run h
end YN2
