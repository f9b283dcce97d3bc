def yQc (E : yE) (n : Nat) (r : Option yV) (S : ySt) : Array Value → State → Outcome → State → Prop := fun _ st o t =>
  o = .returned (r.map (yCz E.1)) ∧ (∀ v ∈ r.toList, yOk v) ∧ yRp E n S t.heap ∧ va_K E.2.1 vwCl (yTys E) t ∧ va_F (fun q => E.1 ≤ q) st t
def yQf (E : yE) (n mc ms : Nat) (r : Option yV) (S : ySt) : List Frame → Array Value → State → State → Prop := fun below args s =>
  MQ below (yQc E n r S) args s mc ms (fun q => E.1 ≤ q)
def yRm (d mc ms : Nat) : Room := { frames := d, cells := mc, slots := ms, locals := 64 * d }
def yWd (M : yM) : List Cond := Cond.code M.1 M.2.1 M.2.2.1 M.2.2.2 :: GW
def yPc (E : yE) (args : List yV) (n : Nat) (S : ySt) : Array Value → State → Prop := va_Pc (args.map (yCz E.1)) (fun U => yRp E n S U.heap ∧ va_K E.2.1 vwCl (yTys E) U ∧ yTx E U ∧ ∀ v ∈ args, yOk v)
/-- the method M's contract at these arguments and this store: its answer, its store, what it makes, how deep it goes -/
def Con (E : yE) (M : yM) (d mc ms : Nat) (args : List yV) (n : Nat) (S : ySt) (r : Option yV) (S' : ySt) : Prop :=
  ∀ l : Launch, Met l M.1 (yWd M) (yRm d mc ms) (yPc E args n S) (yQc E (n + mc) r S') mc ms (fun q => E.1 ≤ q)
def yArgs : Nat → List yV → List (Nat × yV)
  | _, [] => []
  | i, v :: vs => (i, v) :: yArgs (if yCat v = 2 then i + 2 else i + 1) vs
theorem yArgs_ls (b : Nat) : ∀ (vs : List yV) (i : Nat), lv_args i (vs.map (yCz b)) = yLs b (yArgs i vs)
  | [], _ => rfl
  | v :: vs, i => by
    show (i, yCz b v) :: lv_args (if (yCz b v).category = 2 then i + 2 else i + 1) (vs.map (yCz b)) = (i, yCz b v) :: yLs b (yArgs (if yCat v = 2 then i + 2 else i + 1) vs)
    rw [yCat_ok, yArgs_ls b vs]
theorem yArgs_ok : ∀ (vs : List yV) (i : Nat), (∀ v ∈ vs, yOk v) → ∀ q ∈ yArgs i vs, yOk q.2
  | [], _, _, q, hq => by cases hq
  | v :: vs, i, h, q, hq => by
    rcases List.mem_cons.mp hq with e | e
    · rw [e]; exact h v List.mem_cons_self
    · exact yArgs_ok vs _ (fun u hu => h u (List.mem_cons_of_mem _ hu)) q e
def yWords : List yV → Nat
  | [] => 0
  | v :: vs => yCat v + yWords vs
theorem yWords_ok (b : Nat) : ∀ vs : List yV, (lg_sl (vs.map (yCz b))).length = yWords vs
  | [] => rfl
  | v :: vs => by
    have ih := yWords_ok b vs
    have h : lg_sl ((v :: vs).map (yCz b)) = (if (yCz b v).category = 2 then [.val (yCz b v), .second] else [.val (yCz b v)]) ++ lg_sl (vs.map (yCz b)) := rfl
    rw [h, List.length_append, ih, yCat_ok]
    rcases v with z | z | r <;> rfl
theorem Con.ofY {E : yE} {M : yM} {d mc ms n : Nat} {args : List yV} {S S' : ySt} {r : Option yV} (hp : plainFor M.1 = true) (ha : yWords args ≤ M.2.2.1)
    (h : (∀ v ∈ args, yOk v) → yOkS n S → Y E M (yRm d mc ms) (yQf E (n + mc) mc ms r S') 0 (yArgs 0 args) [] S n 0 0) : Con E M d mc ms args n S r S' := by
  intro l
  refine MetFree.of_bodySF (code := M.2.1) (maxLocals := M.2.2.1) (ret := M.2.2.2) hp ?_ ?_
  · intro aa s m h hn
    obtain ⟨meth, c, h1, h2, h3, h4, h5, h6, -, -⟩ := Cond.code_spec hn (atoms_spec (ws := yWd M) h _ List.mem_cons_self)
    exact ⟨meth, c, h1, h2, h3, h4, h5, h6⟩
  · intro p e s m aa below meth c s₁ B hml hv _
    obtain ⟨rfl, hR, hK, hTx, hok⟩ := hv
    have hts := atoms_spec (ws := yWd M) B.pre
    have hl := lv_entry (args.map (yCz E.1)) (n := M.2.2.1) (by rw [yWords_ok]; exact ha)
    rw [yArgs_ls] at hl
    have hh0 : s₁.heap = s.heap := by rw [B.state]; rfl
    have K : W p l e (yRm d mc ms) s m (args.map (yCz E.1)).toArray below meth c s₁.heap [] 0 0 (yQf E (n + mc) mc ms r S' below (args.map (yCz E.1)).toArray s) (entryFrame m (args.map (yCz E.1)).toArray M.2.2.1) := by
      rw [hh0, lg_entry_eq]
      exact h hok hR.2.2 p l e s m _ below meth c s.heap [] _ ⟨B.exec, B.bytes, hml, findClass_of_methodNamed B.named, fun w hw => hts w (List.mem_cons_of_mem _ hw), hK, B.returns, B.notSynchronized, fun q => by rw [(name_of_methodNamed B.named B.method).1]; exact q, by rw [hR.2.1]; exact Nat.le_add_right _ _, hTx⟩ hR va_S.rf hl (yArgs_ok _ _ hok) (fun v hv => by cases hv)
    obtain ⟨t, a1, o, b1, b2, b3⟩ := K s₁ rfl (Stand.of_body B)
    exact ⟨t, o, a1, b1, b2, ⟨b3.1, b3.2⟩⟩
section YE
variable {E : yE} {M : yM} {R : Room} {pc n kc ks : Nat} {L : List (Nat × yV)} {st : List yV} {S : ySt}
theorem y_iret {z : Int} (hd : decode M.2.1 pc = .ok (.ireturn, 1)) (hr : M.2.2.2 = some .int) : Y E M R (yQf E n kc ks (some (.inl z)) S) pc L ([.inl z]) S n kc ks := by
  intro p l e s m args below meth c H locs ls C P F hl hL hs
  obtain ⟨hx, hb, hml, hown, hts, hK, hret, hlocks, hin, hbs, hTx⟩ := id C
  exact W.iret hx hb (hret.trans hr) (fun t ht hW => ⟨rfl, hs, by rw [ht]; exact P, va_K.moved hW.alike hK, F.F ht⟩) F.2.2 hd (hlocks := hlocks)
theorem y_zret {z : Int} (hd : decode M.2.1 pc = .ok (.ireturn, 1)) (hr : M.2.2.2 = some .boolean) (hz : z = 0 ∨ z = 1) : Y E M R (yQf E n kc ks (some (.inl z)) S) pc L ([.inl z]) S n kc ks := by
  intro p l e s m args below meth c H locs ls C P F hl hL hs
  obtain ⟨hx, hb, hml, hown, hts, hK, hret, hlocks, hin, hbs, hTx⟩ := id C
  exact W.zret hx hb (hret.trans hr) (show narrow .boolean (.int (Int32.ofInt z)) = _ from by rcases hz with q | q <;> subst q <;> rfl) (fun t ht hW => ⟨rfl, hs, by rw [ht]; exact P, va_K.moved hW.alike hK, F.F ht⟩) F.2.2 hd (hlocks := hlocks)
theorem y_lret {z : Int} (hd : decode M.2.1 pc = .ok (.lreturn, 1)) (hr : M.2.2.2 = some .long) : Y E M R (yQf E n kc ks (some (.inr (.inl z))) S) pc L ([.inr (.inl z)]) S n kc ks := by
  intro p l e s m args below meth c H locs ls C P F hl hL hs
  obtain ⟨hx, hb, hml, hown, hts, hK, hret, hlocks, hin, hbs, hTx⟩ := id C
  exact W.lret hx hb (hret.trans hr) (fun t ht hW => ⟨rfl, hs, by rw [ht]; exact P, va_K.moved hW.alike hK, F.F ht⟩) F.2.2 hd (hlocks := hlocks)
theorem y_vret (hd : decode M.2.1 pc = .ok (.return_, 1)) (hr : M.2.2.2 = none) : Y E M R (yQf E n kc ks none S) pc L [] S n kc ks := by
  intro p l e s m args below meth c H locs ls C P F hl hL hs
  obtain ⟨hx, hb, hml, hown, hts, hK, hret, hlocks, hin, hbs, hTx⟩ := id C
  exact W.vret hx hb (hret.trans hr) (fun t ht hW => ⟨rfl, by intro v hv; exact absurd hv List.not_mem_nil, by rw [ht]; exact P, va_K.moved hW.alike hK, F.F ht⟩) F.2.2 hd (hlocks := hlocks)
theorem gw_all {w : Cond} (h : w ∈ GW) : goodWord w = true := (List.mem_filter.mp h).2
theorem gw_GoodIn {ws : List Cond} (h : ∀ w ∈ ws, w ∈ GW) : GoodIn GW ws := fun w hw => ⟨h w hw, good_of_word (gw_all (h w hw))⟩
theorem yWd_in {M2 : yM} (hc : Cond.code M2.1 M2.2.1 M2.2.2.1 M2.2.2.2 ∈ GW) : ∀ w ∈ yWd M2, w ∈ GW := fun w hw => (List.mem_cons.mp hw).elim (fun e => e ▸ hc) id
theorem yPc_blind {E : yE} {args : List yV} {n : Nat} {S : ySt} : FrameBlind (yPc E args n S) := fun a U g mk q => ⟨q.1, q.2.1, va_K.moved (u := U) (U := U.calling g mk a) (Vm.Alike.refl U.vm) q.2.2.1, yTx_same q.2.2.2.1 rfl rfl, q.2.2.2.2⟩
theorem y_rest0 (b : Nat) : ∀ st : List yV, ((st.map (yCz b)).map fun v => v.category).sum = yWords st
  | [] => rfl
  | v :: st => by
    have ih := y_rest0 b st
    simp only [List.map_cons, List.sum_cons, yWords]
    rw [ih, yCat_ok]
theorem y_rest {E : yE} {st : List yV} (h : yWords st ≤ 8) : ((st.map (yCz E.1)).map fun v => v.category).sum ≤ 8 := by
  rw [y_rest0]
  exact h
variable {Qf : List Frame → Array Value → State → State → Prop}
theorem y_after {p : Program} {l : Launch} {e : Env} {s : State} {m : MethodId} {args : Array Value} {below : List Frame} {meth : Method} {c : Code} {H : Heap} {locs : List Loc} {ls : Array Slot} {n2 mc ms : Nat} {st0 : List Value} {a : Array Value} {r : Option yV} {S' : ySt}
    (C : yCx E M p s m args meth c) (F : va_S (fun q => E.1 ≤ q) s.heap H locs) (hl : lv_has ls M.2.2.1 (yLs E.1 L)) (hL : ∀ q ∈ L, yOk q.2) (hs : ∀ v ∈ st, yOk v)
    (run : va_Run p l e R s m args below meth c H locs kc ks mc ms (F0 m pc ls st0) (st.map (yCz E.1)) (yQc E n2 r S' a) (fun q => E.1 ≤ q))
    (h : Y E M R Qf (pc + 3) L (r.toList ++ st) S' n2 (kc + mc) (ks + ms)) : W p l e R s m args below meth c H locs kc ks (Qf below args s) (F0 m pc ls st0) := by
  intro T hT X
  obtain ⟨v, st₀, t, T', L2, h0, X', hL2, e1, e2, ⟨hv, hr, hR, hK1, hF⟩, stp⟩ := run T hT X
  cases hv
  have hS : va_S (fun q => E.1 ≤ q) s.heap T'.heap (locs ++ L2) := ⟨Nat.le_trans F.1 (by rw [e1]; exact (by have := hF.1; rwa [h0] at this)), fun q h1 h2 => by
      rw [e1, hF.2 q (by rw [h0]; exact Nat.lt_of_lt_of_le h1 F.1) h2, h0]
      exact F.2.1 q h1 h2, fun q hq => by
      rcases List.mem_append.mp hq with w | w
      · exact F.2.2 q w
      · exact hL2 q w⟩
  obtain ⟨t2, a1, b1⟩ := h p l e s m args below meth c T'.heap (locs ++ L2) ls C (by rw [e1]; exact hR) hS hl hL (fun v hv => (List.mem_append.mp hv).elim (hr v) (hs v)) T' rfl X'
  refine ⟨t2, stp t2 ?_, b1⟩
  have e3 : (Option.map (yCz E.1) r).toList ++ st.map (yCz E.1) = (r.toList ++ st).map (yCz E.1) := by cases r <;> rfl
  rw [e3]
  exact a1
theorem y_callV {M2 : yM} {d2 mc ms idx np : Nat} {as : List yV} {r : Option yV} {S' : ySt} {st0 : List yV} (i k9 : Nat) (hM : Con E M2 d2 mc ms (.inr (.inr (i + 1)) :: as) n S r S') (hc : Cond.code M2.1 M2.2.1 M2.2.2.1 M2.2.2.2 ∈ GW) (hk : Cond.methodLink M.1.cls idx M2.1 ∈ GW) (hi : Cond.instanceMethod M2.1 ∈ GW) (hse : Cond.selects M2.1.cls M2.1 M2.1 ∈ GW) (hini : Cond.initialized M2.1.cls ∈ GW) (hil : i < n) (hkd : yKd i = (k9, 0)) (hk9 : k9 < 13) (hC : yC k9 = M2.1.cls) (hcls : M2.1.cls ≠ "java/lang/invoke/MethodHandle" ∧ M2.1.cls ≠ "java/lang/invoke/VarHandle") (hpn : (parseMethodDescriptor M2.1.desc).map (fun d => d.parameters.length) = some np) (hR : d2 + 1 ≤ R.frames ∧ 8 + (M2.2.2.1 + 11) + 64 * d2 ≤ R.locals ∧ kc + mc ≤ R.cells ∧ ks + ms ≤ R.slots) (hn : as.length = np) (hlen : yWords st ≤ 8) (hd : decode M.2.1 pc = .ok (.invokevirtual idx, 3)) (hst : as.reverse ++ .inr (.inr (i + 1)) :: st = st0)
    (h : Y E M R Qf (pc + 3) L (r.toList ++ st) S' (n + mc) (kc + mc) (ks + ms)) : Y E M R Qf pc L st0 S n kc ks := by
  subst hst
  intro p l e s m args below meth c H locs ls C P F hl hL hs
  obtain ⟨hx, hb, hml, hown, hts, hK, hret, hlocks, hin, hbs, hTx⟩ := id C
  have hst2 : ((as.reverse ++ .inr (.inr (i + 1)) :: st).map (yCz E.1)) = (as.map (yCz E.1)).reverse ++ .ref (E.1 + i) :: st.map (yCz E.1) := by simp [yCz]
  have hsr : ∀ v ∈ st, yOk v := fun v hv => hs v (List.mem_append_right _ (List.mem_cons_of_mem _ hv))
  have hsa : ∀ v ∈ (.inr (.inr (i + 1)) : yV) :: as, yOk v := fun v hv => (List.mem_cons.mp hv).elim (fun q => q ▸ trivial) (fun q => hs v (List.mem_append_left _ (List.mem_reverse.mpr q)))
  obtain ⟨cell, g1, g2, g3⟩ := va_recv hK P.1 (yCl_ok hk9) (y_own hil hkd (by omega))
  have run := va_runV (C := M2.1.cls) (b := E.1 + i) (As := as.map (yCz E.1)) (rest := st.map (yCz E.1)) (g := F0 m pc ls ((as.reverse ++ .inr (.inr (i + 1)) :: st).map (yCz E.1))) (l := l) (e := e) (below := below) (meth := meth) (locs := locs) (cells := kc) (slots := ks) (H := H) (Ts := GW) (own := M.1.cls) (index := idx) ⟨hx, hb, hml, hown, hts⟩ (hM l)
    (cwV (Ts := GW) (own := M.1.cls) (C := M2.1.cls) (index := idx) np hts (gw_GoodIn (fun w hw => by
      rcases List.mem_append.mp hw with q | q
      · simp only [List.mem_cons, List.not_mem_nil, or_false] at q
        rcases q with q | q | q | q <;> subst q <;> assumption
      · exact yWd_in hc w q)) rfl rfl rfl ⟨rfl, hcls.1, hcls.2, hpn⟩ ⟨hR.1, hR.2.1⟩)
    ⟨yPc_blind, ⟨cell, g1, g2, by rw [← hC]; exact g3⟩, fun U hU hW => ⟨rfl, by rw [hU]; exact P, va_K.moved hW.alike hK, yTx_kept hTx hW (fun a h1 h2 => by rw [hU]; exact F.2.1 a h1 h2), hsa⟩⟩ rfl (by rw [List.length_map]; exact hn) hl.1 hst2 (lv_room (y_rest hlen)) hd ⟨hR.2.2.1, hR.2.2.2⟩
  exact y_after C F hl hL hsr run h
theorem y_callVN {M2 : yM} {d2 mc ms idx np : Nat} {as : List yV} {r : Option yV} {S' : ySt} {st0 : List yV} {host : String} (i k9 : Nat) (hM : Con E M2 d2 mc ms (.inr (.inr (i + 1)) :: as) n S r S') (hc : Cond.code M2.1 M2.2.1 M2.2.2.1 M2.2.2.2 ∈ GW) (hk : Cond.methodLinkNest M.1.cls idx M2.1 host ∈ yNest) (hi : Cond.instanceMethod M2.1 ∈ GW) (hse : Cond.selects M2.1.cls M2.1 M2.1 ∈ GW) (hini : Cond.initialized M2.1.cls ∈ GW) (hil : i < n) (hkd : yKd i = (k9, 0)) (hk9 : k9 < 13) (hC : yC k9 = M2.1.cls) (hcls : M2.1.cls ≠ "java/lang/invoke/MethodHandle" ∧ M2.1.cls ≠ "java/lang/invoke/VarHandle") (hpn : (parseMethodDescriptor M2.1.desc).map (fun d => d.parameters.length) = some np) (hR : d2 + 1 ≤ R.frames ∧ 8 + (M2.2.2.1 + 11) + 64 * d2 ≤ R.locals ∧ kc + mc ≤ R.cells ∧ ks + ms ≤ R.slots) (hn : as.length = np) (hlen : yWords st ≤ 8) (hd : decode M.2.1 pc = .ok (.invokevirtual idx, 3)) (hst : as.reverse ++ .inr (.inr (i + 1)) :: st = st0)
    (h : Y E M R Qf (pc + 3) L (r.toList ++ st) S' (n + mc) (kc + mc) (ks + ms)) : Y E M R Qf pc L st0 S n kc ks := by
  subst hst
  intro p l e s m args below meth c H locs ls C P F hl hL hs
  obtain ⟨hx, hb, hml, hown, hts, hK, hret, hlocks, hin, hbs, hTx⟩ := id C
  have hst2 : ((as.reverse ++ .inr (.inr (i + 1)) :: st).map (yCz E.1)) = (as.map (yCz E.1)).reverse ++ .ref (E.1 + i) :: st.map (yCz E.1) := by simp [yCz]
  have hsa : ∀ v ∈ (.inr (.inr (i + 1)) : yV) :: as, yOk v := fun v hv => (List.mem_cons.mp hv).elim (fun q => q ▸ trivial) (fun q => hs v (List.mem_append_left _ (List.mem_reverse.mpr q)))
  have hsr : ∀ v ∈ st, yOk v := fun v hv => hs v (List.mem_append_right _ (List.mem_cons_of_mem _ hv))
  obtain ⟨cell, g1, g2, g3⟩ := va_recv hK P.1 (yCl_ok hk9) (y_own hil hkd (by omega))
  have run := va_runVN (C := M2.1.cls) (b := E.1 + i) (As := as.map (yCz E.1)) (rest := st.map (yCz E.1)) (g := F0 m pc ls ((as.reverse ++ .inr (.inr (i + 1)) :: st).map (yCz E.1))) (l := l) (e := e) (below := below) (meth := meth) (locs := locs) (cells := kc) (slots := ks) (H := H) (Ts := GW) (own := M.1.cls) (index := idx) ⟨hx, hb, hml, hown, hts⟩ (hM l)
    ⟨va_cnB (Ts := GW) (own := M.1.cls) (host := host) (index := idx) np hts (gw_GoodIn (yWd_in hc)) rfl rfl rfl (hTx.2.2.2.1 _ hk) (hts _ hini) ⟨hcls.1, hcls.2, hpn⟩ ⟨hR.1, hR.2.1⟩, hts _ hi, hts _ hse⟩
    ⟨yPc_blind, ⟨cell, g1, g2, by rw [← hC]; exact g3⟩, fun U hU hW => ⟨rfl, by rw [hU]; exact P, va_K.moved hW.alike hK, yTx_kept hTx hW (fun a h1 h2 => by rw [hU]; exact F.2.1 a h1 h2), hsa⟩⟩ rfl (by rw [List.length_map]; exact hn) hl.1 hst2 (lv_room (y_rest hlen)) hd ⟨hR.2.2.1, hR.2.2.2⟩
  exact y_after C F hl hL hsr run h
theorem y_callS {M2 : yM} {d2 mc ms idx np : Nat} {as : List yV} {r : Option yV} {S' : ySt} {st0 : List yV} (hM : Con E M2 d2 mc ms (as) n S r S') (hc : Cond.code M2.1 M2.2.1 M2.2.2.1 M2.2.2.2 ∈ GW) (hk : Cond.methodLink M.1.cls idx M2.1 ∈ GW) (hi : Cond.static M2.1 ∈ GW) (hini : Cond.initialized M2.1.cls ∈ GW) (hcls : M2.1.cls ≠ "java/lang/invoke/MethodHandle" ∧ M2.1.cls ≠ "java/lang/invoke/VarHandle") (hpn : (parseMethodDescriptor M2.1.desc).map (fun d => d.parameters.length) = some np) (hR : d2 + 1 ≤ R.frames ∧ 8 + (M2.2.2.1 + 11) + 64 * d2 ≤ R.locals ∧ kc + mc ≤ R.cells ∧ ks + ms ≤ R.slots) (hn : as.length = np) (hlen : yWords st ≤ 8) (hd : decode M.2.1 pc = .ok (.invokestatic idx, 3)) (hst : as.reverse ++ st = st0)
    (h : Y E M R Qf (pc + 3) L (r.toList ++ st) S' (n + mc) (kc + mc) (ks + ms)) : Y E M R Qf pc L st0 S n kc ks := by
  subst hst
  intro p l e s m args below meth c H locs ls C P F hl hL hs
  obtain ⟨hx, hb, hml, hown, hts, hK, hret, hlocks, hin, hbs, hTx⟩ := id C
  have hst2 : ((as.reverse ++ st).map (yCz E.1)) = (as.map (yCz E.1)).reverse ++ st.map (yCz E.1) := by simp
  have hsr : ∀ v ∈ st, yOk v := fun v hv => hs v (List.mem_append_right _ hv)
  have hsa : ∀ v ∈ as, yOk v := fun v hv => hs v (List.mem_append_left _ (List.mem_reverse.mpr hv))
  have run := va_runS (As := as.map (yCz E.1)) (rest := st.map (yCz E.1)) (g := F0 m pc ls ((as.reverse ++ st).map (yCz E.1))) (l := l) (e := e) (below := below) (meth := meth) (locs := locs) (cells := kc) (slots := ks) (H := H) (Ts := GW) (own := M.1.cls) (index := idx) ⟨hx, hb, hml, hown, hts⟩ (hM l)
    ⟨callB_of (Ts := GW) (own := M.1.cls) (index := idx) np hts (gw_GoodIn (yWd_in hc)) rfl rfl rfl (hts _ hini) (hts _ hk) ⟨hcls.1, hcls.2, hpn⟩ ⟨hR.1, hR.2.1⟩, hts _ hi⟩
    ⟨yPc_blind, fun U hU hW => ⟨rfl, by rw [hU]; exact P, va_K.moved hW.alike hK, yTx_kept hTx hW (fun a h1 h2 => by rw [hU]; exact F.2.1 a h1 h2), hsa⟩⟩ rfl (by rw [List.length_map]; exact hn) hl.1 hst2 (lv_room (y_rest hlen)) hd ⟨hR.2.2.1, hR.2.2.2⟩
  exact y_after C F hl hL hsr run h
end YE
