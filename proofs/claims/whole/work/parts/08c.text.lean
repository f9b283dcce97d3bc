section TXT
def tQ (r : Option Value) : Array Value → State → Outcome → State → Prop := fun _ st o t => o = .returned r ∧ t.heap = st.heap
def tA (b : Nat) : Nat → Prop := fun q => b ≤ q
/-- a text at aK, its bytes at aV -/
def tF (b aK aV len : Nat) (f : Nat → Value) (U : State) : Prop :=
  va_O "java/lang/String" aK (tA b) U U.heap ∧ va_OF "java/lang/String" "coder" "B" (.int 0) aK (tA b) U U.heap ∧ va_OF "java/lang/String" "value" "[B" (.ref aV) aK (tA b) U U.heap ∧ va_T .byte aV len f (tA b) U U.heap ∧
  va_Z "java/lang/String" "COMPACT_STRINGS" "Z" (.int 1) (tA b) U U.heap ∧ va_Zq "jdk/internal/util/Preconditions" "SIOOBE_FORMATTER" "Ljava/util/function/BiFunction;" (tA b) U U.heap
theorem tF_kept {b aK aV len : Nat} {f : Nat → Value} {s U : State} (h : tF b aK aV len f s) (hW : s.vm.Alike U.vm) (hF : ∀ a : Nat, a < s.heap.size → ¬ b ≤ a → U.heap[a]? = s.heap[a]?) : tF b aK aV len f U := by
  obtain ⟨h1, h2, h3, h4, h5, h6⟩ := h
  exact ⟨(h1.moved hW).kept hF, (h2.moved hW).kept hF, (h3.moved hW).kept hF, (h4.moved hW).kept hF, (h5.moved hW).kept hF, (h6.moved hW).kept hF⟩
def tP (args : List Value) (b aK aV len : Nat) (f : Nat → Value) : Array Value → State → Prop := va_Pc args (tF b aK aV len f)
theorem tP_blind {args : List Value} {b aK aV len : Nat} {f : Nat → Value} : FrameBlind (tP args b aK aV len f) := fun a U g mk q => ⟨q.1, tF_kept q.2 (Vm.Alike.refl U.vm) (fun _ _ _ => rfl)⟩
def sMet (M : yM) (d : Nat) (Pc : Array Value → State → Prop) (r : Option Value) : Prop := ∀ l : Launch, Met l M.1 (yWd M) (yRm d 0 0) Pc (tQ r) 0 0 (fun _ => False)
/-- in a frame of M -/
def sCx (M : yM) (p : Program) (s : State) (m : MethodId) (args : Array Value) (meth : Method) (c : Code) : Prop :=
  p.tables.exec = Jvm.exec ∧ c.code = M.2.1 ∧ c.maxLocals = M.2.2.1 ∧ s.vm.findClass M.1.cls = some m.cls ∧ (∀ w ∈ GW, w.before args s = true) ∧ meth.sig.returnType = M.2.2.2 ∧ meth.locks = false
theorem sMet.of {M : yM} {d b aK aV len : Nat} {f : Nat → Value} {args : List Value} {r : Option Value} (hp : plainFor M.1 = true) (ha : (lg_sl args).length ≤ M.2.2.1)
    (h : ∀ (p : Program) (l : Launch) (e : Env) (s : State) (m : MethodId) (below : List Frame) (meth : Method) (c : Code) (ls : Array Slot), sCx M p s m args.toArray meth c → tF b aK aV len f s → lv_has ls M.2.2.1 (lv_args 0 args) → W p l e (yRm d 0 0) s m args.toArray below meth c s.heap [] 0 0 (MQ below (tQ r) args.toArray s 0 0 (fun _ => False)) (F0 m 0 ls [])) : sMet M d (tP args b aK aV len f) r := by
  intro l
  refine MetFree.of_bodySF (code := M.2.1) (maxLocals := M.2.2.1) (ret := M.2.2.2) hp ?_ ?_
  · intro aa s m h hn
    obtain ⟨meth, c, h1, h2, h3, h4, h5, h6, -, -⟩ := Cond.code_spec hn (atoms_spec (ws := yWd M) h _ List.mem_cons_self)
    exact ⟨meth, c, h1, h2, h3, h4, h5, h6⟩
  · intro p e s m aa below meth c s₁ B hml hv _
    obtain ⟨rfl, hF⟩ := hv
    have hts := atoms_spec (ws := yWd M) B.pre
    have hl := lv_entry args (n := M.2.2.1) ha
    have hh0 : s₁.heap = s.heap := by rw [B.state]; rfl
    have K : W p l e (yRm d 0 0) s m args.toArray below meth c s₁.heap [] 0 0 (MQ below (tQ r) args.toArray s 0 0 (fun _ => False)) (entryFrame m args.toArray M.2.2.1) := by
      rw [hh0, lg_entry_eq]
      exact h p l e s m below meth c _ ⟨B.exec, B.bytes, hml, findClass_of_methodNamed B.named, fun w hw => hts w (List.mem_cons_of_mem _ hw), B.returns, B.notSynchronized⟩ hF hl
    obtain ⟨t, a1, o, b1, b2, b3⟩ := K s₁ rfl (Stand.of_body B)
    exact ⟨t, o, a1, b1, b2, ⟨b3.1, b3.2⟩⟩
variable {p : Program} {l : Launch} {e : Env} {R : Room} {s : State} {m : MethodId} {args : Array Value} {below : List Frame} {meth : Method} {c : Code} {H : Heap} {locs : List Loc} {cells slots : Nat} {Q : State → Prop}
theorem t_after {g : JFrame} {rest : List Value} {r : Option Value} {a : Array Value} (hr : CallRun p l e R s m args below meth c H locs cells slots 0 0 g rest (tQ r a) (fun _ => False)) (kk : W p l e R s m args below meth c H locs cells slots Q { g with pc := g.pc + 3, stack := r.toList ++ rest }) : W p l e R s m args below meth c H locs cells slots Q g := by
  intro T hT X
  obtain ⟨v, st₀, t, T', L, h0, X', hL, e1, ⟨hv, hh⟩, st⟩ := hr T hT X
  cases hv
  obtain ⟨t2, a1, b1⟩ := kk T' (by rw [e1, hh, h0]) (Stand.forget X' (fun q h => (hL q h).elim))
  exact ⟨t2, st t2 a1, b1⟩
/-- a call of a static method that only reads -/
theorem t_callS {M M2 : yM} {d2 idx np pc b aK aV len : Nat} {f : Nat → Value} {as rest : List Value} {ls : Array Slot} {r : Option Value} {st0 : List Value} (C : sCx M p s m args meth c) (hT : tF b aK aV len f s) (hH : ∀ a : Nat, a < s.heap.size → ¬ b ≤ a → H[a]? = s.heap[a]?) (hM : sMet M2 d2 (tP as b aK aV len f) r) (hc : Cond.code M2.1 M2.2.1 M2.2.2.1 M2.2.2.2 ∈ GW) (hk : Cond.methodLink M.1.cls idx M2.1 ∈ GW) (hi : Cond.static M2.1 ∈ GW) (hini : Cond.initialized M2.1.cls ∈ GW)
    (hcls : M2.1.cls ≠ "java/lang/invoke/MethodHandle" ∧ M2.1.cls ≠ "java/lang/invoke/VarHandle") (hpn : (parseMethodDescriptor M2.1.desc).map (fun d => d.parameters.length) = some np) (hR : d2 + 1 ≤ R.frames ∧ 8 + (M2.2.2.1 + 11) + 64 * d2 ≤ R.locals) (hf : cells ≤ R.cells ∧ slots ≤ R.slots) (hn : as.length = np) (hlen : (rest.map fun v => v.category).sum ≤ 8) (hls : ls.size = M.2.2.1) (hd : decode M.2.1 pc = .ok (.invokestatic idx, 3)) (hst : as.reverse ++ rest = st0)
    (kk : W p l e R s m args below meth c H locs cells slots Q (F0 m (pc + 3) ls (r.toList ++ rest))) : W p l e R s m args below meth c H locs cells slots Q (F0 m pc ls st0) := by
  subst hst
  obtain ⟨hx, hb, hml, hown, hts, -⟩ := C
  exact t_after (W.runS (As := as) (rest := rest) (g := F0 m pc ls (as.reverse ++ rest)) (Ts := GW) (own := M.1.cls) (index := idx) ⟨hx, hb, hml, hown, hts⟩ (hM l)
    ⟨callB_of (Ts := GW) (own := M.1.cls) (index := idx) np hts (gw_GoodIn (yWd_in hc)) rfl rfl rfl (hts _ hini) (hts _ hk) ⟨hcls.1, hcls.2, hpn⟩ ⟨hR.1, hR.2⟩, hts _ hi⟩
    ⟨tP_blind, fun U hU hW => ⟨rfl, tF_kept hT hW.alike (fun a h1 h2 => by rw [hU]; exact hH a h1 h2)⟩⟩ rfl hn hls rfl (lv_room hlen) hd hf) kk
theorem t_callV {M M2 : yM} {d2 idx np pc b aK aV len : Nat} {f : Nat → Value} {as rest : List Value} {ls : Array Slot} {r : Option Value} {st0 : List Value} (C : sCx M p s m args meth c) (hT : tF b aK aV len f s) (hH : ∀ a : Nat, a < s.heap.size → ¬ b ≤ a → H[a]? = s.heap[a]?) (hM : sMet M2 d2 (tP (.ref aK :: as) b aK aV len f) r) (hc : Cond.code M2.1 M2.2.1 M2.2.2.1 M2.2.2.2 ∈ GW) (hk : Cond.methodLink M.1.cls idx M2.1 ∈ GW) (hi : Cond.instanceMethod M2.1 ∈ GW) (hse : Cond.selects M2.1.cls M2.1 M2.1 ∈ GW) (hini : Cond.initialized M2.1.cls ∈ GW) (hS : M2.1.cls = "java/lang/String")
    (hcls : M2.1.cls ≠ "java/lang/invoke/MethodHandle" ∧ M2.1.cls ≠ "java/lang/invoke/VarHandle") (hpn : (parseMethodDescriptor M2.1.desc).map (fun d => d.parameters.length) = some np) (hR : d2 + 1 ≤ R.frames ∧ 8 + (M2.2.2.1 + 11) + 64 * d2 ≤ R.locals) (hf : cells ≤ R.cells ∧ slots ≤ R.slots) (hn : as.length = np) (hlen : (rest.map fun v => v.category).sum ≤ 8) (hls : ls.size = M.2.2.1) (hd : decode M.2.1 pc = .ok (.invokevirtual idx, 3)) (hst : as.reverse ++ .ref aK :: rest = st0)
    (kk : W p l e R s m args below meth c H locs cells slots Q (F0 m (pc + 3) ls (r.toList ++ rest))) : W p l e R s m args below meth c H locs cells slots Q (F0 m pc ls st0) := by
  subst hst
  obtain ⟨hx, hb, hml, hown, hts, -⟩ := C
  obtain ⟨cell, g1, g2, g3, g4⟩ := hT.1
  have hlt : aK < s.heap.size := (Array.getElem?_eq_some_iff.mp g1).1
  exact t_after (W.runV (C := M2.1.cls) (b := aK) (As := as) (rest := rest) (g := F0 m pc ls (as.reverse ++ .ref aK :: rest)) (Ts := GW) (own := M.1.cls) (index := idx) ⟨hx, hb, hml, hown, hts⟩ (hM l)
    (cwV (Ts := GW) (own := M.1.cls) (C := M2.1.cls) (index := idx) np hts (gw_GoodIn (fun w hw => by
      rcases List.mem_append.mp hw with q | q
      · simp only [List.mem_cons, List.not_mem_nil, or_false] at q
        rcases q with q | q | q | q <;> subst q <;> assumption
      · exact yWd_in hc w q)) rfl rfl rfl ⟨rfl, hcls.1, hcls.2, hpn⟩ ⟨hR.1, hR.2⟩)
    ⟨tP_blind, ⟨cell, by rw [hH aK hlt g4]; exact g1, g2, by rw [hS]; exact g3⟩, fun U hU hW => ⟨rfl, tF_kept hT hW.alike (fun a h1 h2 => by rw [hU]; exact hH a h1 h2)⟩⟩ rfl hn hls rfl (lv_room hlen) hd hf) kk
end TXT
abbrev N_coder : yM := (yJ0_coder_7d493, cJ0_coder_7d493, 1, some .byte)
abbrev N_isLatin1 : yM := (yJ0_isLatin1_aae02, cJ0_isLatin1_aae02, 1, some .boolean)
abbrev N_length : yM := (yJ0_length_8abf5, cJ0_length_8abf5, 1, some .int)
abbrev N_pcheck : yM := (yJ3_checkIndex_8e157, cJ3_checkIndex_8e157, 3, some .int)
abbrev N_scheck : yM := (yJ0_checkIndex_df160, cJ0_checkIndex_df160, 2, none)
abbrev N_lcharAt : yM := (yJ1_charAt_3b067, cJ1_charAt_3b067, 2, some .char)
abbrev N_charAt : yM := (yJ0_charAt_5068e, cJ0_charAt_5068e, 2, some .char)
abbrev N_canEncode : yM := (yJ1_canEncode_9a6ad, cJ1_canEncode_9a6ad, 1, some .boolean)
abbrev N_max : yM := (yJ9_max_7cf53, cJ9_max_7cf53, 2, some .int)
abbrev N_min : yM := (yJ9_min_7cf53, cJ9_min_7cf53, 2, some .int)
abbrev N_ixChar : yM := (yJ1_indexOfChar_4cfef, cJ1_indexOfChar_4cfef, 6, some .int)
abbrev N_lix : yM := (yJ1_indexOf_4cfef, cJ1_indexOf_4cfef, 4, some .int)
abbrev N_ix2 : yM := (yJ0_indexOf_7cf53, cJ0_indexOf_7cf53, 3, some .int)
abbrev N_ix1 : yM := (yJ0_indexOf_0f7a4, cJ0_indexOf_0f7a4, 2, some .int)
theorem t_coder {b aK aV len : Nat} {f : Nat → Value} : sMet N_coder 0 (tP [.ref aK] b aK aV len f) (some (.int 0)) := by
  refine sMet.of (by decide +kernel) (by simp [lg_sl, Value.category]) ?_
  intro p l e s m below meth c ls C hT hl
  obtain ⟨hx, hb, hml, hown, hts, hret, hlocks⟩ := id C
  have hl : lv_has ls 1 [(0, .ref aK)] := hl
  refine va_gets hx hb hT.2.2.2.2.1 va_S.rf hown (hts _ q3_111) (fun _ h => h) (show decode cJ0_coder_7d493 0 = .ok (.getstatic 38, 3) by decide +kernel) ?_
  refine lv_if_eq hx hb (show decode cJ0_coder_7d493 3 = .ok (.ifCond .eq 10, 3) by decide +kernel) (tgt := 13) rfl (fun q => absurd q (by decide)) (fun _ => ?_)
  refine lv_aload_n hx hb (show decode cJ0_coder_7d493 6 = .ok (.aload_n 0, 1) by decide +kernel) rfl (lv_at hl 0 rfl) ?_
  refine vk_getf hx hb hT.2.1 va_S.rf hown (hts _ q9_4) (fun _ h => h) (show decode cJ0_coder_7d493 7 = .ok (.getfield 15, 3) by decide +kernel) ?_
  refine lv_goto (tgt := 14) hx hb (show decode cJ0_coder_7d493 10 = .ok (.goto 4, 3) by decide +kernel) rfl ?_
  exact W.zret (ty := .byte) hx hb hret (rfl) (fun t ht hW => ⟨rfl, by rw [ht]⟩) (fun _ h => by cases h) (show decode cJ0_coder_7d493 14 = .ok (.ireturn, 1) by decide +kernel) (hlocks := hlocks)
theorem t_isLatin1 {b aK aV len : Nat} {f : Nat → Value} : sMet N_isLatin1 0 (tP [.ref aK] b aK aV len f) (some (.int 1)) := by
  refine sMet.of (by decide +kernel) (by simp [lg_sl, Value.category]) ?_
  intro p l e s m below meth c ls C hT hl
  obtain ⟨hx, hb, hml, hown, hts, hret, hlocks⟩ := id C
  have hl : lv_has ls 1 [(0, .ref aK)] := hl
  refine va_gets hx hb hT.2.2.2.2.1 va_S.rf hown (hts _ q3_111) (fun _ h => h) (show decode cJ0_isLatin1_aae02 0 = .ok (.getstatic 38, 3) by decide +kernel) ?_
  refine lv_if_eq hx hb (show decode cJ0_isLatin1_aae02 3 = .ok (.ifCond .eq 14, 3) by decide +kernel) (tgt := 17) rfl (fun q => absurd q (by decide)) (fun _ => ?_)
  refine lv_aload_n hx hb (show decode cJ0_isLatin1_aae02 6 = .ok (.aload_n 0, 1) by decide +kernel) rfl (lv_at hl 0 rfl) ?_
  refine vk_getf hx hb hT.2.1 va_S.rf hown (hts _ q9_4) (fun _ h => h) (show decode cJ0_isLatin1_aae02 7 = .ok (.getfield 15, 3) by decide +kernel) ?_
  refine lv_if_ne hx hb (show decode cJ0_isLatin1_aae02 10 = .ok (.ifCond .ne 7, 3) by decide +kernel) (tgt := 17) rfl (fun q => absurd rfl q) (fun _ => ?_)
  refine lv_iconst (v := 1) hx hb (show decode cJ0_isLatin1_aae02 13 = .ok (.iconst 1, 1) by decide +kernel) rfl ?_
  refine lv_goto (tgt := 18) hx hb (show decode cJ0_isLatin1_aae02 14 = .ok (.goto 4, 3) by decide +kernel) rfl ?_
  exact W.zret (ty := .boolean) hx hb hret (rfl) (fun t ht hW => ⟨rfl, by rw [ht]⟩) (fun _ h => by cases h) (show decode cJ0_isLatin1_aae02 18 = .ok (.ireturn, 1) by decide +kernel) (hlocks := hlocks)
theorem t_length {b aK aV len : Nat} {f : Nat → Value} (hlen : len < 256) : sMet N_length 1 (tP [.ref aK] b aK aV len f) (some (.int (nI len))) := by
  refine sMet.of (by decide +kernel) (by simp [lg_sl, Value.category]) ?_
  intro p l e s m below meth c ls C hT hl
  obtain ⟨hx, hb, hml, hown, hts, hret, hlocks⟩ := id C
  have hl : lv_has ls 1 [(0, .ref aK)] := hl
  refine lv_aload_n hx hb (show decode cJ0_length_8abf5 0 = .ok (.aload_n 0, 1) by decide +kernel) rfl (lv_at hl 0 rfl) ?_
  refine vk_getf hx hb hT.2.2.1 va_S.rf hown (hts _ q9_3) (fun _ h => h) (show decode cJ0_length_8abf5 1 = .ok (.getfield 9, 3) by decide +kernel) ?_
  refine va_tlen (v := nI len) hx hb hT.2.2.2.1 va_S.rf rfl (show decode cJ0_length_8abf5 4 = .ok (.arraylength, 1) by decide +kernel) ?_
  refine lv_aload_n hx hb (show decode cJ0_length_8abf5 5 = .ok (.aload_n 0, 1) by decide +kernel) rfl (lv_at hl 0 rfl) ?_
  refine t_callV (np := 0) (as := []) (rest := [.int (nI len)]) C hT (fun _ _ _ => rfl) (t_coder) q3_110 q3_107 q3_108 q3_109 q1_16 rfl (by decide) (by decide +kernel) ⟨by decide, by decide⟩ ⟨Nat.le_refl _, Nat.le_refl _⟩ rfl (by simp [Value.category]) hl.1 (show decode cJ0_length_8abf5 6 = .ok (.invokevirtual 335, 3) by decide +kernel) rfl ?_
  refine lv_ishr (x := nI len) (y := 0) hx hb (show decode cJ0_length_8abf5 9 = .ok (.ishr, 1) by decide +kernel) ?_
  rw [show (nI len >>> ((0 : Int32) &&& 31)) = nI len from by simp]
  exact W.iret hx hb hret (fun t ht hW => ⟨rfl, by rw [ht]⟩) (fun _ h => by cases h) (show decode cJ0_length_8abf5 10 = .ok (.ireturn, 1) by decide +kernel) (hlocks := hlocks)
theorem t_pcheck {b aK aV len : Nat} {f : Nat → Value} {x z : Int32} {y : Nat} (h0 : ¬ x < 0) (h1 : x < z) : sMet N_pcheck 0 (tP [.int x, .int z, .ref y] b aK aV len f) (some (.int x)) := by
  refine sMet.of (by decide +kernel) (by simp [lg_sl, Value.category]) ?_
  intro p l e s m below meth c ls C hT hl
  obtain ⟨hx, hb, hml, hown, hts, hret, hlocks⟩ := id C
  have hl : lv_has ls 3 [(0, .int x), (1, .int z), (2, .ref y)] := hl
  refine lv_iload_n hx hb (show decode cJ3_checkIndex_8e157 0 = .ok (.iload_n 0, 1) by decide +kernel) rfl (lv_at hl 0 rfl) ?_
  refine lv_if_lt hx hb (show decode cJ3_checkIndex_8e157 1 = .ok (.ifCond .lt 8, 3) by decide +kernel) (tgt := 9) rfl (fun q => absurd q h0) (fun _ => ?_)
  refine lv_iload_n hx hb (show decode cJ3_checkIndex_8e157 4 = .ok (.iload_n 0, 1) by decide +kernel) rfl (lv_at hl 0 rfl) ?_
  refine lv_iload_n hx hb (show decode cJ3_checkIndex_8e157 5 = .ok (.iload_n 1, 1) by decide +kernel) rfl (lv_at hl 1 rfl) ?_
  refine lv_icmp_lt hx hb (show decode cJ3_checkIndex_8e157 6 = .ok (.if_icmp .lt 10, 3) by decide +kernel) (tgt := 16) rfl (fun _ => ?_) (fun q => absurd h1 q)
  refine lv_iload_n hx hb (show decode cJ3_checkIndex_8e157 16 = .ok (.iload_n 0, 1) by decide +kernel) rfl (lv_at hl 0 rfl) ?_
  exact W.iret hx hb hret (fun t ht hW => ⟨rfl, by rw [ht]⟩) (fun _ h => by cases h) (show decode cJ3_checkIndex_8e157 17 = .ok (.ireturn, 1) by decide +kernel) (hlocks := hlocks)
theorem t_pcheck0 {b aK aV len : Nat} {f : Nat → Value} {x z : Int32} (h0 : ¬ x < 0) (h1 : x < z) : sMet N_pcheck 0 (tP [.int x, .int z, .null] b aK aV len f) (some (.int x)) := by
  refine sMet.of (by decide +kernel) (by simp [lg_sl, Value.category]) ?_
  intro p l e s m below meth c ls C hT hl
  obtain ⟨hx, hb, hml, hown, hts, hret, hlocks⟩ := id C
  have hl : lv_has ls 3 [(0, .int x), (1, .int z), (2, .null)] := hl
  refine lv_iload_n hx hb (show decode cJ3_checkIndex_8e157 0 = .ok (.iload_n 0, 1) by decide +kernel) rfl (lv_at hl 0 rfl) ?_
  refine lv_if_lt hx hb (show decode cJ3_checkIndex_8e157 1 = .ok (.ifCond .lt 8, 3) by decide +kernel) (tgt := 9) rfl (fun q => absurd q h0) (fun _ => ?_)
  refine lv_iload_n hx hb (show decode cJ3_checkIndex_8e157 4 = .ok (.iload_n 0, 1) by decide +kernel) rfl (lv_at hl 0 rfl) ?_
  refine lv_iload_n hx hb (show decode cJ3_checkIndex_8e157 5 = .ok (.iload_n 1, 1) by decide +kernel) rfl (lv_at hl 1 rfl) ?_
  refine lv_icmp_lt hx hb (show decode cJ3_checkIndex_8e157 6 = .ok (.if_icmp .lt 10, 3) by decide +kernel) (tgt := 16) rfl (fun _ => ?_) (fun q => absurd h1 q)
  refine lv_iload_n hx hb (show decode cJ3_checkIndex_8e157 16 = .ok (.iload_n 0, 1) by decide +kernel) rfl (lv_at hl 0 rfl) ?_
  exact W.iret hx hb hret (fun t ht hW => ⟨rfl, by rw [ht]⟩) (fun _ h => by cases h) (show decode cJ3_checkIndex_8e157 17 = .ok (.ireturn, 1) by decide +kernel) (hlocks := hlocks)
theorem t_scheck {b aK aV len : Nat} {f : Nat → Value} {x z : Int32} (h0 : ¬ x < 0) (h1 : x < z) : sMet N_scheck 1 (tP [.int x, .int z] b aK aV len f) (none) := by
  refine sMet.of (by decide +kernel) (by simp [lg_sl, Value.category]) ?_
  intro p l e s m below meth c ls C hT hl
  obtain ⟨hx, hb, hml, hown, hts, hret, hlocks⟩ := id C
  have hl : lv_has ls 2 [(0, .int x), (1, .int z)] := hl
  refine lv_iload_n hx hb (show decode cJ0_checkIndex_df160 0 = .ok (.iload_n 0, 1) by decide +kernel) rfl (lv_at hl 0 rfl) ?_
  refine lv_iload_n hx hb (show decode cJ0_checkIndex_df160 1 = .ok (.iload_n 1, 1) by decide +kernel) rfl (lv_at hl 1 rfl) ?_
  rcases hT.2.2.2.2.2 with hZ | ⟨y, hZ⟩
  · refine va_gets hx hb hZ va_S.rf hown (hts _ q3_127) (fun _ h => h) (show decode cJ0_checkIndex_df160 2 = .ok (.getstatic 1053, 3) by decide +kernel) ?_
    refine t_callS (np := 3) (as := [.int x, .int z, .null]) (rest := []) C hT (fun _ _ _ => rfl) (t_pcheck0 h0 h1) q3_131 q3_129 q3_130 q1_18 (by decide) (by decide +kernel) ⟨by decide, by decide⟩ ⟨Nat.le_refl _, Nat.le_refl _⟩ rfl (by simp [Value.category]) hl.1 (show decode cJ0_checkIndex_df160 5 = .ok (.invokestatic 1059, 3) by decide +kernel) rfl ?_
    refine lv_pop hx hb (show decode cJ0_checkIndex_df160 8 = .ok (.pop, 1) by decide +kernel) rfl ?_
    exact W.vret hx hb hret (fun t ht hW => ⟨rfl, by rw [ht]⟩) (fun _ h => by cases h) (show decode cJ0_checkIndex_df160 9 = .ok (.return_, 1) by decide +kernel) (hlocks := hlocks)
  · refine va_gets hx hb hZ va_S.rf hown (hts _ q3_127) (fun _ h => h) (show decode cJ0_checkIndex_df160 2 = .ok (.getstatic 1053, 3) by decide +kernel) ?_
    refine t_callS (np := 3) (as := [.int x, .int z, .ref y]) (rest := []) C hT (fun _ _ _ => rfl) (t_pcheck h0 h1) q3_131 q3_129 q3_130 q1_18 (by decide) (by decide +kernel) ⟨by decide, by decide⟩ ⟨Nat.le_refl _, Nat.le_refl _⟩ rfl (by simp [Value.category]) hl.1 (show decode cJ0_checkIndex_df160 5 = .ok (.invokestatic 1059, 3) by decide +kernel) rfl ?_
    refine lv_pop hx hb (show decode cJ0_checkIndex_df160 8 = .ok (.pop, 1) by decide +kernel) rfl ?_
    exact W.vret hx hb hret (fun t ht hW => ⟨rfl, by rw [ht]⟩) (fun _ h => by cases h) (show decode cJ0_checkIndex_df160 9 = .ok (.return_, 1) by decide +kernel) (hlocks := hlocks)
theorem t_i2c9 (y : Int32) : ((y &&& 255).toUInt32 % 65536).toInt32 = y &&& 255 := by
  apply Int32.toBitVec_inj.mp
  have h : ((y &&& 255).toUInt32 % 65536).toInt32.toBitVec = (y.toBitVec &&& 255#32) % 65536#32 := rfl
  rw [h]
  have h2 : (y &&& 255).toBitVec = y.toBitVec &&& 255#32 := rfl
  rw [h2]
  apply BitVec.eq_of_toNat_eq
  rw [BitVec.toNat_umod, BitVec.toNat_and]
  have h3 : y.toBitVec.toNat &&& (255#32).toNat ≤ (255#32).toNat := Nat.and_le_right
  have h4 : (255#32).toNat = 255 := rfl
  have h5 : (65536#32).toNat = 65536 := rfl
  rw [h5]
  omega
theorem t_nc (y : Int32) : narrow .char (.int (y &&& 255)) = .int (y &&& 255) := by
  refine congrArg Value.int ?_
  apply Int32.toBitVec_inj.mp
  have h : ((y &&& 255).toUInt32.toUInt16.toUInt32.toInt32).toBitVec = ((y.toBitVec &&& 255#32).setWidth 16).setWidth 32 := rfl
  have h2 : (y &&& 255).toBitVec = y.toBitVec &&& 255#32 := rfl
  rw [h, h2]
  apply BitVec.eq_of_toNat_eq
  rw [BitVec.toNat_setWidth, BitVec.toNat_setWidth, BitVec.toNat_and]
  have h3 : y.toBitVec.toNat &&& (255#32).toNat ≤ (255#32).toNat := Nat.and_le_right
  have h4 : (255#32).toNat = 255 := rfl
  omega
theorem t_lcharAt {b aK aV len : Nat} {f : Nat → Value} {x : Int32} {y : Int32} (h0 : ¬ x < 0) (h1 : x < nI len) (hin : vp_in x len) (hy : f x.toNatClampNeg = .int y) (hlen : len < 256) : sMet N_lcharAt 2 (tP [.ref aV, .int x] b aK aV len f) (some (.int (y &&& 255))) := by
  refine sMet.of (by decide +kernel) (by simp [lg_sl, Value.category]) ?_
  intro p l e s m below meth c ls C hT hl
  obtain ⟨hx, hb, hml, hown, hts, hret, hlocks⟩ := id C
  have hl : lv_has ls 2 [(0, .ref aV), (1, .int x)] := hl
  refine lv_iload_n hx hb (show decode cJ1_charAt_3b067 0 = .ok (.iload_n 1, 1) by decide +kernel) rfl (lv_at hl 1 rfl) ?_
  refine lv_aload_n hx hb (show decode cJ1_charAt_3b067 1 = .ok (.aload_n 0, 1) by decide +kernel) rfl (lv_at hl 0 rfl) ?_
  refine va_tlen (v := nI len) hx hb hT.2.2.2.1 va_S.rf rfl (show decode cJ1_charAt_3b067 2 = .ok (.arraylength, 1) by decide +kernel) ?_
  refine t_callS (np := 2) (as := [.int x, .int (nI len)]) (rest := []) C hT (fun _ _ _ => rfl) (t_scheck h0 h1) q3_126 q3_124 q3_125 q1_16 (by decide) (by decide +kernel) ⟨by decide, by decide⟩ ⟨Nat.le_refl _, Nat.le_refl _⟩ rfl (by simp [Value.category]) hl.1 (show decode cJ1_charAt_3b067 3 = .ok (.invokestatic 9, 3) by decide +kernel) rfl ?_
  refine lv_aload_n hx hb (show decode cJ1_charAt_3b067 6 = .ok (.aload_n 0, 1) by decide +kernel) rfl (lv_at hl 0 rfl) ?_
  refine lv_iload_n hx hb (show decode cJ1_charAt_3b067 7 = .ok (.iload_n 1, 1) by decide +kernel) rfl (lv_at hl 1 rfl) ?_
  refine va_tb hx hb hT.2.2.2.1 va_S.rf hin hy (show decode cJ1_charAt_3b067 8 = .ok (.baload, 1) by decide +kernel) ?_
  refine lv_sipush (v := 255) hx hb (show decode cJ1_charAt_3b067 9 = .ok (.sipush 255, 3) by decide +kernel) rfl ?_
  refine lv_iand hx hb (show decode cJ1_charAt_3b067 12 = .ok (.iand, 1) by decide +kernel) ?_
  refine lv_i2c hx hb (show decode cJ1_charAt_3b067 13 = .ok (.i2c, 1) by decide +kernel) (v := y &&& 255) (t_i2c9 y) ?_
  exact W.zret (ty := .char) hx hb hret (t_nc y) (fun t ht hW => ⟨rfl, by rw [ht]⟩) (fun _ h => by cases h) (show decode cJ1_charAt_3b067 14 = .ok (.ireturn, 1) by decide +kernel) (hlocks := hlocks)
theorem t_charAt {b aK aV len : Nat} {f : Nat → Value} {x : Int32} {y : Int32} (h0 : ¬ x < 0) (h1 : x < nI len) (hin : vp_in x len) (hy : f x.toNatClampNeg = .int y) (hlen : len < 256) : sMet N_charAt 3 (tP [.ref aK, .int x] b aK aV len f) (some (.int (y &&& 255))) := by
  refine sMet.of (by decide +kernel) (by simp [lg_sl, Value.category]) ?_
  intro p l e s m below meth c ls C hT hl
  obtain ⟨hx, hb, hml, hown, hts, hret, hlocks⟩ := id C
  have hl : lv_has ls 2 [(0, .ref aK), (1, .int x)] := hl
  refine lv_aload_n hx hb (show decode cJ0_charAt_5068e 0 = .ok (.aload_n 0, 1) by decide +kernel) rfl (lv_at hl 0 rfl) ?_
  refine t_callV (np := 0) (as := []) (rest := []) C hT (fun _ _ _ => rfl) (t_isLatin1) q3_120 q3_117 q3_118 q3_119 q1_16 rfl (by decide) (by decide +kernel) ⟨by decide, by decide⟩ ⟨Nat.le_refl _, Nat.le_refl _⟩ rfl (by simp [Value.category]) hl.1 (show decode cJ0_charAt_5068e 1 = .ok (.invokevirtual 492, 3) by decide +kernel) rfl ?_
  refine lv_if_eq hx hb (show decode cJ0_charAt_5068e 4 = .ok (.ifCond .eq 12, 3) by decide +kernel) (tgt := 16) rfl (fun q => absurd q (by decide)) (fun _ => ?_)
  refine lv_aload_n hx hb (show decode cJ0_charAt_5068e 7 = .ok (.aload_n 0, 1) by decide +kernel) rfl (lv_at hl 0 rfl) ?_
  refine vk_getf hx hb hT.2.2.1 va_S.rf hown (hts _ q9_3) (fun _ h => h) (show decode cJ0_charAt_5068e 8 = .ok (.getfield 9, 3) by decide +kernel) ?_
  refine lv_iload_n hx hb (show decode cJ0_charAt_5068e 11 = .ok (.iload_n 1, 1) by decide +kernel) rfl (lv_at hl 1 rfl) ?_
  refine t_callS (np := 2) (as := [.ref aV, .int x]) (rest := []) C hT (fun _ _ _ => rfl) (t_lcharAt h0 h1 hin hy hlen) q3_123 q3_121 q3_122 q1_17 (by decide) (by decide +kernel) ⟨by decide, by decide⟩ ⟨Nat.le_refl _, Nat.le_refl _⟩ rfl (by simp [Value.category]) hl.1 (show decode cJ0_charAt_5068e 12 = .ok (.invokestatic 495, 3) by decide +kernel) rfl ?_
  exact W.zret (ty := .char) hx hb hret (t_nc y) (fun t ht hW => ⟨rfl, by rw [ht]⟩) (fun _ h => by cases h) (show decode cJ0_charAt_5068e 15 = .ok (.ireturn, 1) by decide +kernel) (hlocks := hlocks)
theorem t_canEncode {b aK aV len : Nat} {f : Nat → Value} {x : Int32} (h0 : ¬ x < 0) (h1 : ¬ 255 < x) : sMet N_canEncode 0 (tP [.int x] b aK aV len f) (some (.int 1)) := by
  refine sMet.of (by decide +kernel) (by simp [lg_sl, Value.category]) ?_
  intro p l e s m below meth c ls C hT hl
  obtain ⟨hx, hb, hml, hown, hts, hret, hlocks⟩ := id C
  have hl : lv_has ls 1 [(0, .int x)] := hl
  refine lv_iload_n hx hb (show decode cJ1_canEncode_9a6ad 0 = .ok (.iload_n 0, 1) by decide +kernel) rfl (lv_at hl 0 rfl) ?_
  refine lv_if_lt hx hb (show decode cJ1_canEncode_9a6ad 1 = .ok (.ifCond .lt 14, 3) by decide +kernel) (tgt := 15) rfl (fun q => absurd q h0) (fun _ => ?_)
  refine lv_iload_n hx hb (show decode cJ1_canEncode_9a6ad 4 = .ok (.iload_n 0, 1) by decide +kernel) rfl (lv_at hl 0 rfl) ?_
  refine lv_sipush (v := 255) hx hb (show decode cJ1_canEncode_9a6ad 5 = .ok (.sipush 255, 3) by decide +kernel) rfl ?_
  refine lv_icmp_gt hx hb (show decode cJ1_canEncode_9a6ad 8 = .ok (.if_icmp .gt 7, 3) by decide +kernel) (tgt := 15) rfl (fun q => absurd q h1) (fun _ => ?_)
  refine lv_iconst (v := 1) hx hb (show decode cJ1_canEncode_9a6ad 11 = .ok (.iconst 1, 1) by decide +kernel) rfl ?_
  refine lv_goto (tgt := 16) hx hb (show decode cJ1_canEncode_9a6ad 12 = .ok (.goto 4, 3) by decide +kernel) rfl ?_
  exact W.zret (ty := .boolean) hx hb hret (rfl) (fun t ht hW => ⟨rfl, by rw [ht]⟩) (fun _ h => by cases h) (show decode cJ1_canEncode_9a6ad 16 = .ok (.ireturn, 1) by decide +kernel) (hlocks := hlocks)
theorem t_max {b aK aV len : Nat} {f : Nat → Value} {x z : Int32} (h0 : ¬ x < z) : sMet N_max 0 (tP [.int x, .int z] b aK aV len f) (some (.int x)) := by
  refine sMet.of (by decide +kernel) (by simp [lg_sl, Value.category]) ?_
  intro p l e s m below meth c ls C hT hl
  obtain ⟨hx, hb, hml, hown, hts, hret, hlocks⟩ := id C
  have hl : lv_has ls 2 [(0, .int x), (1, .int z)] := hl
  refine lv_iload_n hx hb (show decode cJ9_max_7cf53 0 = .ok (.iload_n 0, 1) by decide +kernel) rfl (lv_at hl 0 rfl) ?_
  refine lv_iload_n hx hb (show decode cJ9_max_7cf53 1 = .ok (.iload_n 1, 1) by decide +kernel) rfl (lv_at hl 1 rfl) ?_
  refine lv_icmp_lt hx hb (show decode cJ9_max_7cf53 2 = .ok (.if_icmp .lt 7, 3) by decide +kernel) (tgt := 9) rfl (fun q => absurd q h0) (fun _ => ?_)
  refine lv_iload_n hx hb (show decode cJ9_max_7cf53 5 = .ok (.iload_n 0, 1) by decide +kernel) rfl (lv_at hl 0 rfl) ?_
  refine lv_goto (tgt := 10) hx hb (show decode cJ9_max_7cf53 6 = .ok (.goto 4, 3) by decide +kernel) rfl ?_
  exact W.iret hx hb hret (fun t ht hW => ⟨rfl, by rw [ht]⟩) (fun _ h => by cases h) (show decode cJ9_max_7cf53 10 = .ok (.ireturn, 1) by decide +kernel) (hlocks := hlocks)
theorem t_min {b aK aV len : Nat} {f : Nat → Value} {x z : Int32} (h0 : ¬ z < x) : sMet N_min 0 (tP [.int x, .int z] b aK aV len f) (some (.int x)) := by
  refine sMet.of (by decide +kernel) (by simp [lg_sl, Value.category]) ?_
  intro p l e s m below meth c ls C hT hl
  obtain ⟨hx, hb, hml, hown, hts, hret, hlocks⟩ := id C
  have hl : lv_has ls 2 [(0, .int x), (1, .int z)] := hl
  refine lv_iload_n hx hb (show decode cJ9_min_7cf53 0 = .ok (.iload_n 0, 1) by decide +kernel) rfl (lv_at hl 0 rfl) ?_
  refine lv_iload_n hx hb (show decode cJ9_min_7cf53 1 = .ok (.iload_n 1, 1) by decide +kernel) rfl (lv_at hl 1 rfl) ?_
  refine lv_icmp_gt hx hb (show decode cJ9_min_7cf53 2 = .ok (.if_icmp .gt 7, 3) by decide +kernel) (tgt := 9) rfl (fun q => absurd q h0) (fun _ => ?_)
  refine lv_iload_n hx hb (show decode cJ9_min_7cf53 5 = .ok (.iload_n 0, 1) by decide +kernel) rfl (lv_at hl 0 rfl) ?_
  refine lv_goto (tgt := 10) hx hb (show decode cJ9_min_7cf53 6 = .ok (.goto 4, 3) by decide +kernel) rfl ?_
  exact W.iret hx hb hret (fun t ht hW => ⟨rfl, by rw [ht]⟩) (fun _ h => by cases h) (show decode cJ9_min_7cf53 10 = .ok (.ireturn, 1) by decide +kernel) (hlocks := hlocks)
/-- the first place of a byte, from j on; -1: none -/
def tIx (g : Nat → Int32) (c : Int32) (len : Nat) : Nat → Nat → Int32
  | 0, _ => -1
  | k + 1, j => if g j = c then nI j else tIx g c len k (j + 1)
theorem t_ixChar {b aK aV len : Nat} {g : Nat → Int32} {x y : Int32} (hy : x.toInt8.toInt32 = y) (hlen : len < 256) : sMet N_ixChar 0 (tP [.ref aV, .int x, .int 0, .int (nI len)] b aK aV len (fun j => .int (g j))) (some (.int (tIx g y len len 0))) := by
  refine sMet.of (by decide +kernel) (by simp [lg_sl, Value.category]) ?_
  intro p l e s m below meth c ls C hT hl
  obtain ⟨hx, hb, hml, hown, hts, hret, hlocks⟩ := id C
  have hl : lv_has ls 6 [(0, .ref aV), (1, .int x), (2, .int 0), (3, .int (nI len))] := hl
  refine lv_iload_n hx hb (show decode cJ1_indexOfChar_4cfef 0 = .ok (.iload_n 1, 1) by decide +kernel) rfl (lv_at hl 1 rfl) ?_
  refine lv_i2b (v := y) hx hb (show decode cJ1_indexOfChar_4cfef 1 = .ok (.i2b, 1) by decide +kernel) hy ?_
  refine lv_istore (lv' := [(4, .int y), (0, .ref aV), (1, .int x), (2, .int 0), (3, .int (nI len))]) hx hb (show decode cJ1_indexOfChar_4cfef 2 = .ok (.istore 4, 2) by decide +kernel) hl (by decide) rfl (fun ls hl => ?_)
  refine lv_iload_n hx hb (show decode cJ1_indexOfChar_4cfef 4 = .ok (.iload_n 2, 1) by decide +kernel) rfl (lv_at hl 3 rfl) ?_
  refine lv_istore (lv' := [(5, .int 0), (4, .int y), (0, .ref aV), (1, .int x), (2, .int 0), (3, .int (nI len))]) hx hb (show decode cJ1_indexOfChar_4cfef 5 = .ok (.istore 5, 2) by decide +kernel) hl (by decide) rfl (fun ls hl => ?_)
  have key : ∀ (k j : Nat) (ls : Array Slot), j + k = len → lv_has ls 6 [(5, .int (nI j)), (4, .int y), (0, .ref aV), (1, .int x), (2, .int 0), (3, .int (nI len))] → W p l e (yRm 0 0 0) s m [Value.ref aV, .int x, .int 0, .int (nI len)].toArray below meth c s.heap [] 0 0 (MQ below (tQ (some (.int (tIx g y len k j)))) [Value.ref aV, .int x, .int 0, .int (nI len)].toArray s 0 0 (fun _ => False)) (F0 m 7 ls []) := by
    intro k
    induction k with
    | zero =>
      intro j ls hj hl
      refine lv_iload hx hb (show decode cJ1_indexOfChar_4cfef 7 = .ok (.iload 5, 2) by decide +kernel) (lv_at hl 0 rfl) ?_
      refine lv_iload_n hx hb (show decode cJ1_indexOfChar_4cfef 9 = .ok (.iload_n 3, 1) by decide +kernel) rfl (lv_at hl 5 rfl) ?_
      refine lv_icmp_ge hx hb (show decode cJ1_indexOfChar_4cfef 10 = .ok (.if_icmp .ge 21, 3) by decide +kernel) (tgt := 31) rfl (fun _ => ?_) (fun q => absurd (show nI len ≤ nI j from nI_le (by omega) (by omega)) q)
      refine lv_iconst (v := -1) hx hb (show decode cJ1_indexOfChar_4cfef 31 = .ok (.iconst (-1), 1) by decide +kernel) rfl ?_
      exact W.iret hx hb hret (fun t ht hW => ⟨rfl, by rw [ht]⟩) (fun _ h => by cases h) (show decode cJ1_indexOfChar_4cfef 32 = .ok (.ireturn, 1) by decide +kernel) (hlocks := hlocks)
    | succ k ih =>
      intro j ls hj hl
      refine lv_iload hx hb (show decode cJ1_indexOfChar_4cfef 7 = .ok (.iload 5, 2) by decide +kernel) (lv_at hl 0 rfl) ?_
      refine lv_iload_n hx hb (show decode cJ1_indexOfChar_4cfef 9 = .ok (.iload_n 3, 1) by decide +kernel) rfl (lv_at hl 5 rfl) ?_
      refine lv_icmp_ge hx hb (show decode cJ1_indexOfChar_4cfef 10 = .ok (.if_icmp .ge 21, 3) by decide +kernel) (tgt := 31) rfl (fun q => absurd q (nI_ge (by omega) (by omega))) (fun _ => ?_)
      refine lv_aload_n hx hb (show decode cJ1_indexOfChar_4cfef 13 = .ok (.aload_n 0, 1) by decide +kernel) rfl (lv_at hl 2 rfl) ?_
      refine lv_iload hx hb (show decode cJ1_indexOfChar_4cfef 14 = .ok (.iload 5, 2) by decide +kernel) (lv_at hl 0 rfl) ?_
      refine va_tb hx hb hT.2.2.2.1 va_S.rf (vp_in_nI (by omega) (by omega)) (v := .int (g j)) (by rw [nI_clamp (by omega)]) (show decode cJ1_indexOfChar_4cfef 16 = .ok (.baload, 1) by decide +kernel) ?_
      refine lv_iload hx hb (show decode cJ1_indexOfChar_4cfef 17 = .ok (.iload 4, 2) by decide +kernel) (lv_at hl 1 rfl) ?_
      unfold tIx
      refine lv_icmp_ne hx hb (show decode cJ1_indexOfChar_4cfef 19 = .ok (.if_icmp .ne 6, 3) by decide +kernel) (tgt := 25) rfl (fun q => ?_) (fun q => ?_)
      · rw [if_neg q]
        refine lv_iinc (k := 0) (v := nI (j + 1)) (lv' := [(5, .int (nI (j + 1))), (4, .int y), (0, .ref aV), (1, .int x), (2, .int 0), (3, .int (nI len))]) hx hb (show decode cJ1_indexOfChar_4cfef 25 = .ok (.iinc 5 1, 3) by decide +kernel) hl rfl (nI_1 j) (by decide) rfl (fun ls hl => ?_)
        refine lv_goto (tgt := 7) hx hb (show decode cJ1_indexOfChar_4cfef 28 = .ok (.goto (-21), 3) by decide +kernel) rfl ?_
        exact ih (j + 1) ls (by omega) hl
      · rw [if_pos q]
        refine lv_iload hx hb (show decode cJ1_indexOfChar_4cfef 22 = .ok (.iload 5, 2) by decide +kernel) (lv_at hl 0 rfl) ?_
        exact W.iret hx hb hret (fun t ht hW => ⟨rfl, by rw [ht]⟩) (fun _ h => by cases h) (show decode cJ1_indexOfChar_4cfef 24 = .ok (.ireturn, 1) by decide +kernel) (hlocks := hlocks)
  exact key len 0 ls (by omega) hl
theorem t_lix {b aK aV len : Nat} {g : Nat → Int32} {x y : Int32} (hy : x.toInt8.toInt32 = y) (h0 : ¬ x < 0) (h1 : ¬ 255 < x) (hlen : len < 256) (hpos : 0 < len) : sMet N_lix 1 (tP [.ref aV, .int x, .int 0, .int (nI len)] b aK aV len (fun j => .int (g j))) (some (.int (tIx g y len len 0))) := by
  refine sMet.of (by decide +kernel) (by simp [lg_sl, Value.category]) ?_
  intro p l e s m below meth c ls C hT hl
  obtain ⟨hx, hb, hml, hown, hts, hret, hlocks⟩ := id C
  have hl : lv_has ls 4 [(0, .ref aV), (1, .int x), (2, .int 0), (3, .int (nI len))] := hl
  refine lv_iload_n hx hb (show decode cJ1_indexOf_4cfef 0 = .ok (.iload_n 1, 1) by decide +kernel) rfl (lv_at hl 1 rfl) ?_
  refine t_callS (np := 1) (as := [.int x]) (rest := []) C hT (fun _ _ _ => rfl) (t_canEncode h0 h1) q3_173 q3_171 q3_172 q1_17 (by decide) (by decide +kernel) ⟨by decide, by decide⟩ ⟨Nat.le_refl _, Nat.le_refl _⟩ rfl (by simp [Value.category]) hl.1 (show decode cJ1_indexOf_4cfef 1 = .ok (.invokestatic 88, 3) by decide +kernel) rfl ?_
  refine lv_if_ne hx hb (show decode cJ1_indexOf_4cfef 4 = .ok (.ifCond .ne 5, 3) by decide +kernel) (tgt := 9) rfl (fun _ => ?_) (fun q => absurd q (by decide))
  refine lv_iload_n hx hb (show decode cJ1_indexOf_4cfef 9 = .ok (.iload_n 2, 1) by decide +kernel) rfl (lv_at hl 2 rfl) ?_
  refine lv_iconst (v := 0) hx hb (show decode cJ1_indexOf_4cfef 10 = .ok (.iconst 0, 1) by decide +kernel) rfl ?_
  refine t_callS (np := 2) (as := [.int 0, .int 0]) (rest := []) C hT (fun _ _ _ => rfl) (t_max (by decide)) q3_176 q3_174 q3_175 q1_11 (by decide) (by decide +kernel) ⟨by decide, by decide⟩ ⟨Nat.le_refl _, Nat.le_refl _⟩ rfl (by simp [Value.category]) hl.1 (show decode cJ1_indexOf_4cfef 11 = .ok (.invokestatic 92, 3) by decide +kernel) rfl ?_
  refine lv_istore_n (lv' := [(2, .int 0), (0, .ref aV), (1, .int x), (3, .int (nI len))]) hx hb (show decode cJ1_indexOf_4cfef 14 = .ok (.istore_n 2, 1) by decide +kernel) rfl hl (by decide) rfl (fun ls hl => ?_)
  refine lv_iload_n hx hb (show decode cJ1_indexOf_4cfef 15 = .ok (.iload_n 3, 1) by decide +kernel) rfl (lv_at hl 3 rfl) ?_
  refine lv_aload_n hx hb (show decode cJ1_indexOf_4cfef 16 = .ok (.aload_n 0, 1) by decide +kernel) rfl (lv_at hl 1 rfl) ?_
  refine va_tlen (v := nI len) hx hb hT.2.2.2.1 va_S.rf rfl (show decode cJ1_indexOf_4cfef 17 = .ok (.arraylength, 1) by decide +kernel) ?_
  refine t_callS (np := 2) (as := [.int (nI len), .int (nI len)]) (rest := []) C hT (fun _ _ _ => rfl) (t_min (fun q => Int32.lt_irrefl q)) q2_116 q3_177 q2_115 q1_11 (by decide) (by decide +kernel) ⟨by decide, by decide⟩ ⟨Nat.le_refl _, Nat.le_refl _⟩ rfl (by simp [Value.category]) hl.1 (show decode cJ1_indexOf_4cfef 18 = .ok (.invokestatic 38, 3) by decide +kernel) rfl ?_
  refine lv_istore_n (lv' := [(3, .int (nI len)), (2, .int 0), (0, .ref aV), (1, .int x)]) hx hb (show decode cJ1_indexOf_4cfef 21 = .ok (.istore_n 3, 1) by decide +kernel) rfl hl (by decide) rfl (fun ls hl => ?_)
  refine lv_iload_n hx hb (show decode cJ1_indexOf_4cfef 22 = .ok (.iload_n 2, 1) by decide +kernel) rfl (lv_at hl 1 rfl) ?_
  refine lv_iload_n hx hb (show decode cJ1_indexOf_4cfef 23 = .ok (.iload_n 3, 1) by decide +kernel) rfl (lv_at hl 0 rfl) ?_
  refine lv_icmp_lt hx hb (show decode cJ1_indexOf_4cfef 24 = .ok (.if_icmp .lt 5, 3) by decide +kernel) (tgt := 29) rfl (fun _ => ?_) (fun q => absurd (show (0 : Int32) < nI len from nI_lt (a := 0) hpos (by omega)) q)
  refine lv_aload_n hx hb (show decode cJ1_indexOf_4cfef 29 = .ok (.aload_n 0, 1) by decide +kernel) rfl (lv_at hl 2 rfl) ?_
  refine lv_iload_n hx hb (show decode cJ1_indexOf_4cfef 30 = .ok (.iload_n 1, 1) by decide +kernel) rfl (lv_at hl 3 rfl) ?_
  refine lv_iload_n hx hb (show decode cJ1_indexOf_4cfef 31 = .ok (.iload_n 2, 1) by decide +kernel) rfl (lv_at hl 1 rfl) ?_
  refine lv_iload_n hx hb (show decode cJ1_indexOf_4cfef 32 = .ok (.iload_n 3, 1) by decide +kernel) rfl (lv_at hl 0 rfl) ?_
  refine t_callS (np := 4) (as := [.ref aV, .int x, .int 0, .int (nI len)]) (rest := []) C hT (fun _ _ _ => rfl) (t_ixChar hy hlen) q3_180 q3_178 q3_179 q1_17 (by decide) (by decide +kernel) ⟨by decide, by decide⟩ ⟨Nat.le_refl _, Nat.le_refl _⟩ rfl (by simp [Value.category]) hl.1 (show decode cJ1_indexOf_4cfef 33 = .ok (.invokestatic 95, 3) by decide +kernel) rfl ?_
  exact W.iret hx hb hret (fun t ht hW => ⟨rfl, by rw [ht]⟩) (fun _ h => by cases h) (show decode cJ1_indexOf_4cfef 36 = .ok (.ireturn, 1) by decide +kernel) (hlocks := hlocks)
theorem t_ix2 {b aK aV len : Nat} {g : Nat → Int32} {x y : Int32} (hy : x.toInt8.toInt32 = y) (h0 : ¬ x < 0) (h1 : ¬ 255 < x) (hlen : len < 256) (hpos : 0 < len) : sMet N_ix2 2 (tP [.ref aK, .int x, .int 0] b aK aV len (fun j => .int (g j))) (some (.int (tIx g y len len 0))) := by
  refine sMet.of (by decide +kernel) (by simp [lg_sl, Value.category]) ?_
  intro p l e s m below meth c ls C hT hl
  obtain ⟨hx, hb, hml, hown, hts, hret, hlocks⟩ := id C
  have hl : lv_has ls 3 [(0, .ref aK), (1, .int x), (2, .int 0)] := hl
  refine lv_aload_n hx hb (show decode cJ0_indexOf_7cf53 0 = .ok (.aload_n 0, 1) by decide +kernel) rfl (lv_at hl 0 rfl) ?_
  refine t_callV (np := 0) (as := []) (rest := []) C hT (fun _ _ _ => rfl) (t_isLatin1) q3_120 q3_117 q3_118 q3_119 q1_16 rfl (by decide) (by decide +kernel) ⟨by decide, by decide⟩ ⟨Nat.le_refl _, Nat.le_refl _⟩ rfl (by simp [Value.category]) hl.1 (show decode cJ0_indexOf_7cf53 1 = .ok (.invokevirtual 492, 3) by decide +kernel) rfl ?_
  refine lv_if_eq hx hb (show decode cJ0_indexOf_7cf53 4 = .ok (.ifCond .eq 19, 3) by decide +kernel) (tgt := 23) rfl (fun q => absurd q (by decide)) (fun _ => ?_)
  refine lv_aload_n hx hb (show decode cJ0_indexOf_7cf53 7 = .ok (.aload_n 0, 1) by decide +kernel) rfl (lv_at hl 0 rfl) ?_
  refine vk_getf hx hb hT.2.2.1 va_S.rf hown (hts _ q9_3) (fun _ h => h) (show decode cJ0_indexOf_7cf53 8 = .ok (.getfield 9, 3) by decide +kernel) ?_
  refine lv_iload_n hx hb (show decode cJ0_indexOf_7cf53 11 = .ok (.iload_n 1, 1) by decide +kernel) rfl (lv_at hl 1 rfl) ?_
  refine lv_iload_n hx hb (show decode cJ0_indexOf_7cf53 12 = .ok (.iload_n 2, 1) by decide +kernel) rfl (lv_at hl 2 rfl) ?_
  refine lv_aload_n hx hb (show decode cJ0_indexOf_7cf53 13 = .ok (.aload_n 0, 1) by decide +kernel) rfl (lv_at hl 0 rfl) ?_
  refine t_callV (np := 0) (as := []) (rest := [.int 0, .int x, .ref aV]) C hT (fun _ _ _ => rfl) (t_length hlen) q3_106 q3_167 q3_104 q3_105 q1_16 rfl (by decide) (by decide +kernel) ⟨by decide, by decide⟩ ⟨Nat.le_refl _, Nat.le_refl _⟩ rfl (by simp [Value.category]) hl.1 (show decode cJ0_indexOf_7cf53 14 = .ok (.invokevirtual 505, 3) by decide +kernel) rfl ?_
  refine t_callS (np := 4) (as := [.ref aV, .int x, .int 0, .int (nI len)]) (rest := []) C hT (fun _ _ _ => rfl) (t_lix hy h0 h1 hlen hpos) q3_170 q3_168 q3_169 q1_17 (by decide) (by decide +kernel) ⟨by decide, by decide⟩ ⟨Nat.le_refl _, Nat.le_refl _⟩ rfl (by simp [Value.category]) hl.1 (show decode cJ0_indexOf_7cf53 17 = .ok (.invokestatic 637, 3) by decide +kernel) rfl ?_
  refine lv_goto (tgt := 36) hx hb (show decode cJ0_indexOf_7cf53 20 = .ok (.goto 16, 3) by decide +kernel) rfl ?_
  exact W.iret hx hb hret (fun t ht hW => ⟨rfl, by rw [ht]⟩) (fun _ h => by cases h) (show decode cJ0_indexOf_7cf53 36 = .ok (.ireturn, 1) by decide +kernel) (hlocks := hlocks)
theorem t_ix1 {b aK aV len : Nat} {g : Nat → Int32} {x y : Int32} (hy : x.toInt8.toInt32 = y) (h0 : ¬ x < 0) (h1 : ¬ 255 < x) (hlen : len < 256) (hpos : 0 < len) : sMet N_ix1 3 (tP [.ref aK, .int x] b aK aV len (fun j => .int (g j))) (some (.int (tIx g y len len 0))) := by
  refine sMet.of (by decide +kernel) (by simp [lg_sl, Value.category]) ?_
  intro p l e s m below meth c ls C hT hl
  obtain ⟨hx, hb, hml, hown, hts, hret, hlocks⟩ := id C
  have hl : lv_has ls 2 [(0, .ref aK), (1, .int x)] := hl
  refine lv_aload_n hx hb (show decode cJ0_indexOf_0f7a4 0 = .ok (.aload_n 0, 1) by decide +kernel) rfl (lv_at hl 0 rfl) ?_
  refine lv_iload_n hx hb (show decode cJ0_indexOf_0f7a4 1 = .ok (.iload_n 1, 1) by decide +kernel) rfl (lv_at hl 1 rfl) ?_
  refine lv_iconst (v := 0) hx hb (show decode cJ0_indexOf_0f7a4 2 = .ok (.iconst 0, 1) by decide +kernel) rfl ?_
  refine t_callV (np := 2) (as := [.int x, .int 0]) (rest := []) C hT (fun _ _ _ => rfl) (t_ix2 hy h0 h1 hlen hpos) q3_166 q3_163 q3_164 q3_165 q1_16 rfl (by decide) (by decide +kernel) ⟨by decide, by decide⟩ ⟨Nat.le_refl _, Nat.le_refl _⟩ rfl (by simp [Value.category]) hl.1 (show decode cJ0_indexOf_0f7a4 3 = .ok (.invokevirtual 633, 3) by decide +kernel) rfl ?_
  exact W.iret hx hb hret (fun t ht hW => ⟨rfl, by rw [ht]⟩) (fun _ h => by cases h) (show decode cJ0_indexOf_0f7a4 6 = .ok (.ireturn, 1) by decide +kernel) (hlocks := hlocks)
/-! what the two texts answer -/
def yWd0 : List Int := [112, 108, 97, 99, 101, 32, 101, 109, 112, 116, 121, 32, 119, 97, 121, 32, 109, 105, 110, 117, 116, 101, 115, 32, 112, 101, 114, 115, 111, 110, 32, 97, 116, 32, 104, 105, 114, 101, 32, 100, 111, 103, 32, 101, 114, 114, 97, 110, 100, 32, 115, 116, 114, 111, 107, 101, 32, 119, 111, 114, 116, 104, 32, 104, 111, 117, 114, 32, 115, 116, 114, 111, 107, 101, 115, 32, 114, 117, 108, 101, 32, 111, 114, 32, 97, 110, 100, 32, 110, 111, 116, 32, 104, 101, 114, 101, 32, 100, 111, 103, 115, 32]
def yIx1 (c : Int) : Int := if c = 59 then 0 else if c = 40 then 1 else if c = 41 then 2 else if c = 60 then 3 else if c = 62 then 4 else if c = 61 then 5 else if c = 43 then 6 else if c = 45 then 7 else if c = 42 then 8 else if c = 47 then 9 else -1
theorem y_strF {E : yE} {U : State} {i : Nat} {aK aV : Nat → Nat} (h : vk_S 2 yTl yTb aK aV (fun q => E.1 ≤ q) U U.heap) (hi : i < 2) (h4 : va_Z "java/lang/String" "COMPACT_STRINGS" "Z" (.int 1) (fun q => E.1 ≤ q) U U.heap) (h5 : va_Zq "jdk/internal/util/Preconditions" "SIOOBE_FORMATTER" "Ljava/util/function/BiFunction;" (fun q => E.1 ≤ q) U U.heap) : tF E.1 (aK i) (aV i) (yTl.getD i 0) (fun j => .int ((yTb.getD i []).getD j 0)) U :=
  ⟨(h.1 i hi).1, (h.1 i hi).2.1, (h.1 i hi).2.2.1, (h.1 i hi).2.2.2, h4, h5⟩
section YTX
variable {E : yE} {M : yM} {R : Room} {Qf : List Frame → Array Value → State → State → Prop} {pc n kc ks : Nat} {L : List (Nat × yV)} {st : List yV} {S : ySt}
theorem y_sCx {p : Program} {s : State} {m : MethodId} {args : Array Value} {meth : Method} {c : Code} (C : yCx E M p s m args meth c) : sCx M p s m args meth c := ⟨C.1, C.2.1, C.2.2.1, C.2.2.2.1, C.2.2.2.2.1, C.2.2.2.2.2.2.1, C.2.2.2.2.2.2.2.1⟩
/-- ldc WORDS; length() -/
theorem y_strlen (hM : M.1.cls = "EvenTown$Tape") (hd : decode M.2.1 pc = .ok (.ldc 71, 2)) (hd2 : decode M.2.1 (pc + 2) = .ok (.invokevirtual 73, 3)) (hR : 6 ≤ R.frames ∧ 400 ≤ R.locals ∧ kc ≤ R.cells ∧ ks ≤ R.slots) (hlen : yWords st ≤ 6)
    (h : Y E M R Qf (pc + 5) L (.inl 102 :: st) S n kc ks) : Y E M R Qf pc L st S n kc ks := by
  intro p l e s m args below meth c H locs ls C P F hl hL hs
  obtain ⟨hx, hb, hml, hown, hts, hK, hret, hlocks, hin, hbs, hTx⟩ := id C
  obtain ⟨⟨aK, aV, h1, h2, h3⟩, h4, h5, -⟩ := hTx
  have hT := y_strF (i := 0) h1 (by decide) h4 h5
  refine va_ldcS hx hb (own := "EvenTown$Tape") (q := aK 0) (by rw [← hM]; exact hown) h2 hd ?_
  refine t_callV (np := 0) (as := []) (rest := st.map (yCz E.1)) (y_sCx C) hT (fun a q1 q2 => F.2.1 a q1 q2) (t_length (f := fun j => .int ((yTb.getD 0 []).getD j 0)) (by decide)) q3_106 (by rw [hM]; exact q3_103) q3_104 q3_105 q1_16 rfl (by decide) (by decide +kernel) ⟨by omega, by show 8 + (1 + 11) + 64 * 1 ≤ _; omega⟩ ⟨hR.2.2.1, hR.2.2.2⟩ rfl (by rw [y_rest0]; omega) hl.1 hd2 rfl ?_
  exact h p l e s m args below meth c H locs ls C P F hl hL (y_ok1 (v := .inl 102) ⟨by decide, by decide⟩ hs)
/-- ldc WORDS; iload; charAt(..) -/
theorem y_strchr {i : Nat} {z : Int} (hM : M.1.cls = "EvenTown$Tape") (hd : decode M.2.1 pc = .ok (.ldc 71, 2)) (hd2 : decode M.2.1 (pc + 2) = .ok (.iload i, 2)) (hd3 : decode M.2.1 (pc + 4) = .ok (.invokevirtual 76, 3)) (hR : 6 ≤ R.frames ∧ 400 ≤ R.locals ∧ kc ≤ R.cells ∧ ks ≤ R.slots) (hlen : yWords st ≤ 6) (j : Nat) (hj : L[j]? = some (i, .inl z)) (hz : 0 ≤ z ∧ z < (102 : Nat))
    (h : Y E M R Qf (pc + 7) L (.inl (yWd0.getD z.toNat 0) :: st) S n kc ks) : Y E M R Qf pc L st S n kc ks := by
  intro p l e s m args below meth c H locs ls C P F hl hL hs
  obtain ⟨hx, hb, hml, hown, hts, hK, hret, hlocks, hin, hbs, hTx⟩ := id C
  obtain ⟨⟨aK, aV, h1, h2, h3⟩, h4, h5, -⟩ := hTx
  have hT := y_strF (i := 0) h1 (by decide) h4 h5
  have hzI : yI z := y_lok hL hj
  have hin2 : vp_in (Int32.ofInt z) 102 := yI_in hzI hz.1 hz.2
  have key : ∀ k : Fin 102, (((yTb.getD 0 []).getD k 0) &&& 255) = Int32.ofInt (yWd0.getD k 0) ∧ yIb (yWd0.getD k 0) = true := by decide +kernel
  have hk := key ⟨z.toNat, by omega⟩
  refine va_ldcS hx hb (own := "EvenTown$Tape") (q := aK 0) (by rw [← hM]; exact hown) h2 hd ?_
  refine lv_iload hx hb hd2 (y_loc hl hj) ?_
  refine t_callV (np := 1) (as := [.int (Int32.ofInt z)]) (rest := st.map (yCz E.1)) (y_sCx C) hT (fun a q1 q2 => F.2.1 a q1 q2) (t_charAt (x := Int32.ofInt z) (y := (yTb.getD 0 []).getD z.toNat 0) (yI_0le hzI hz.1) (by
      have e9 : nI (yTl.getD 0 0) = Int32.ofInt 102 := by decide
      rw [e9, yI_lt hzI (yIb_ok (by decide))]; exact hz.2) hin2 (by rw [yI_nat hzI]) (by decide)) q3_116 (by rw [hM]; exact q3_113) q3_114 q3_115 q1_16 rfl (by decide) (by decide +kernel) ⟨by omega, by show 8 + (2 + 11) + 64 * 3 ≤ _; omega⟩ ⟨hR.2.2.1, hR.2.2.2⟩ rfl (by rw [y_rest0]; omega) hl.1 hd3 rfl ?_
  have h9 := h p l e s m args below meth c H locs ls C P F hl hL (y_ok1 (v := .inl (yWd0.getD z.toNat 0)) (yIb_ok hk.2) hs)
  have e99 : ((yTb.getD 0 []).getD z.toNat 0 &&& 255) = Int32.ofInt (yWd0.getD z.toNat 0) := hk.1
  show W p l e R s m args below meth c H locs kc ks (Qf below args s) (F0 m (pc + 7) ls (.int ((yTb.getD 0 []).getD z.toNat 0 &&& 255) :: st.map (yCz E.1)))
  rw [e99]
  exact h9
/-- ldc ";()<>=+-*/"; iload; indexOf(..) -/
theorem y_stridx {i : Fin 4} {z : Int} (hM : M.1.cls = "EvenTown$Tape") (hd : decode M.2.1 pc = .ok (.ldc 58, 2)) (hd2 : decode M.2.1 (pc + 2) = .ok (.iload_n i, 1)) (hd3 : decode M.2.1 (pc + 3) = .ok (.invokevirtual 60, 3)) (hR : 6 ≤ R.frames ∧ 400 ≤ R.locals ∧ kc ≤ R.cells ∧ ks ≤ R.slots) (hlen : yWords st ≤ 6) (j : Nat) (hj : L[j]? = some ((i : Nat), .inl z)) (hz : 0 ≤ z ∧ z < (256 : Nat))
    (h : Y E M R Qf (pc + 6) L (.inl (yIx1 z) :: st) S n kc ks) : Y E M R Qf pc L st S n kc ks := by
  intro p l e s m args below meth c H locs ls C P F hl hL hs
  obtain ⟨hx, hb, hml, hown, hts, hK, hret, hlocks, hin, hbs, hTx⟩ := id C
  obtain ⟨⟨aK, aV, h1, h2, h3⟩, h4, h5, -⟩ := hTx
  have hT := y_strF (i := 1) h1 (by decide) h4 h5
  have hzI : yI z := y_lok hL hj
  have key : ∀ k : Fin 256, tIx (fun q => (yTb.getD 1 []).getD q 0) ((Int32.ofInt (k : Nat)).toInt8.toInt32) 10 10 0 = Int32.ofInt (yIx1 (k : Nat)) ∧ yIb (yIx1 (k : Nat)) = true := by decide +kernel
  have ez : ((z.toNat : Nat) : Int) = z := by omega
  have hk := key ⟨z.toNat, by omega⟩
  simp only [ez] at hk
  refine va_ldcS hx hb (own := "EvenTown$Tape") (q := aK 1) (by rw [← hM]; exact hown) h3 hd ?_
  refine lv_iload_n hx hb hd2 rfl (y_loc hl hj) ?_
  refine t_callV (np := 1) (as := [.int (Int32.ofInt z)]) (rest := st.map (yCz E.1)) (y_sCx C) hT (fun a q1 q2 => F.2.1 a q1 q2) (t_ix1 (g := fun q => (yTb.getD 1 []).getD q 0) (x := Int32.ofInt z) rfl (yI_0le hzI hz.1) (fun q => by
      have := (yI_lt (a := 255) (yIb_ok (by decide)) hzI).mp q
      omega) (by decide) (by decide)) q3_162 (by rw [hM]; exact q3_159) q3_160 q3_161 q1_16 rfl (by decide) (by decide +kernel) ⟨by omega, by show 8 + (2 + 11) + 64 * 3 ≤ _; omega⟩ ⟨hR.2.2.1, hR.2.2.2⟩ rfl (by rw [y_rest0]; omega) hl.1 hd3 rfl ?_
  have h9 := h p l e s m args below meth c H locs ls C P F hl hL (y_ok1 (v := .inl (yIx1 z)) (yIb_ok hk.2) hs)
  show W p l e R s m args below meth c H locs kc ks (Qf below args s) (F0 m (pc + 6) ls (.int (tIx (fun q => (yTb.getD 1 []).getD q 0) ((Int32.ofInt z).toInt8.toInt32) 10 10 0) :: st.map (yCz E.1)))
  rw [hk.1]
  exact h9
end YTX
