/-! the classes' tables, by number -/
def yT (c : Nat) : u_T := match c with
  | 0 => TX0
  | 1 => TX1
  | 2 => TX2
  | 3 => TX3
  | 4 => TX4
  | 5 => TX5
  | 6 => TX6
  | 7 => TX7
  | 8 => TX8
  | 9 => TX9
  | 10 => TX10
  | 11 => TX11
  | _ => TX12
def yC (c : Nat) : String := match c with
  | 0 => RX0
  | 1 => RX1
  | 2 => RX2
  | 3 => RX3
  | 4 => RX4
  | 5 => RX5
  | 6 => RX6
  | 7 => RX7
  | 8 => RX8
  | 9 => RX9
  | 10 => RX10
  | 11 => RX11
  | _ => RX12
def yty (c : Nat) : Nat → FieldType := match c with
  | 0 => tyX0
  | 1 => tyX1
  | 2 => tyX2
  | 3 => tyX3
  | 4 => tyX4
  | 5 => tyX5
  | 6 => tyX6
  | 7 => tyX7
  | 8 => tyX8
  | 9 => tyX9
  | 10 => tyX10
  | 11 => tyX11
  | _ => tyX12
theorem yCl_ok {c : Nat} (hc : c < 13) : vwCl[c]? = some (yC c, yT c, yNf c) := by
  have : ∀ c : Fin 13, vwCl[(c : Nat)]? = some (yC c, yT c, yNf c) := fun c => match c with
    | 0 => rfl
    | 1 => rfl
    | 2 => rfl
    | 3 => rfl
    | 4 => rfl
    | 5 => rfl
    | 6 => rfl
    | 7 => rfl
    | 8 => rfl
    | 9 => rfl
    | 10 => rfl
    | 11 => rfl
    | 12 => rfl
  exact this ⟨c, hc⟩
theorem yIn_ok {c : Nat} (hc : c < 13) : ∀ w ∈ u_ws (yC c) (yT c) (yNf c), w ∈ GW := by
  have : ∀ c : Fin 13, ∀ w ∈ u_ws (yC c) (yT c) (yNf c), w ∈ GW := fun c => match c with
    | 0 => inG0
    | 1 => inG1
    | 2 => inG2
    | 3 => inG3
    | 4 => inG4
    | 5 => inG5
    | 6 => inG6
    | 7 => inG7
    | 8 => inG8
    | 9 => inG9
    | 10 => inG10
    | 11 => inG11
    | 12 => inG12
  exact this ⟨c, hc⟩
theorem yty_ok {c : Nat} (hc : c < 13) : ∀ k, k < yNf c → parseFieldDescriptor (yT c k).2.2.1 = some (yty c k) := by
  have : ∀ c : Fin 13, ∀ k, k < yNf c → parseFieldDescriptor (yT c k).2.2.1 = some (yty c k) := fun c => match c with
    | 0 => tyX0_ok
    | 1 => tyX1_ok
    | 2 => tyX2_ok
    | 3 => tyX3_ok
    | 4 => tyX4_ok
    | 5 => tyX5_ok
    | 6 => tyX6_ok
    | 7 => tyX7_ok
    | 8 => tyX8_ok
    | 9 => tyX9_ok
    | 10 => tyX10_ok
    | 11 => tyX11_ok
    | 12 => tyX12_ok
  exact this ⟨c, hc⟩
theorem ynm_ok {c : Nat} (hc : c < 13) : ∀ a, a < yNf c → ∀ b, b < yNf c → a ≠ b → (yT c a).2.1 ≠ (yT c b).2.1 := by
  have : ∀ c : Fin 13, ∀ a, a < yNf c → ∀ b, b < yNf c → a ≠ b → (yT c a).2.1 ≠ (yT c b).2.1 := fun c => match c with
    | 0 => nmX0
    | 1 => nmX1
    | 2 => nmX2
    | 3 => nmX3
    | 4 => nmX4
    | 5 => nmX5
    | 6 => nmX6
    | 7 => nmX7
    | 8 => nmX8
    | 9 => nmX9
    | 10 => nmX10
    | 11 => nmX11
    | 12 => nmX12
  exact this ⟨c, hc⟩
theorem y_own {E : yE} {n i : Nat} {S : ySt} {c : Nat} (hi : i < n) (hk : yKd i = (c, 0)) (hc : c < 20) : (yWs E n S)[i]? = some (E.1 + i, .inr (c, yFs E.1 c (S i))) := by
  rw [yWs_get hi, yEnt_o hk hc]
theorem y_arr {E : yE} {n i : Nat} {S : ySt} {k len : Nat} (hi : i < n) (hk : yKd i = (k, len)) (hc : 20 ≤ k) : (yWs E n S)[i]? = some (E.1 + i, .inl (E.2.2 (k - 20), yAr E.1 k len (S i))) := by
  rw [yWs_get hi, yEnt_a hk hc]
section YH
variable {E : yE} {M : yM} {R : Room} {Qf : List Frame → Array Value → State → State → Prop} {pc n kc ks : Nat} {L : List (Nat × yV)} {st : List yV} {S : ySt}
/-- a field read: the class k9, its field k, the object i -/
theorem y_getf (i k9 k idx : Nat) (hi : i < n) (hk : yKd i = (k9, 0)) (hc : k9 < 13) (hkn : k < yNf k9) (hw : Cond.fieldLink M.1.cls idx (yT k9 k).1 (yT k9 k).2.1 (yT k9 k).2.2.1 ∈ GW) (hd : decode M.2.1 pc = .ok (.getfield idx, 3)) {v : yV} (hv : yFv (yft k9 k) (S i k) = v) (h : Y E M R Qf (pc + 3) L (v :: st) S n kc ks) : Y E M R Qf pc L (.inr (.inr (i + 1)) :: st) S n kc ks := by
  intro p l e s m args below meth c H locs ls C P F hl hL hs
  obtain ⟨hx, hb, hml, hown, hts, hK, -⟩ := id C
  subst hv
  have hok := yOkS_get P.2.2 hi (yTy_o hk (by omega) (k := k))
  exact va_get (D := E.2.1) (ci := k9) (C := yC k9) (T := yT k9) (N := yNf k9) hx hb hts (yIn_ok hc) hown hK P.1 i (y_own hi hk (by omega)) (yCl_ok hc) k hkn (hts _ hw) (fun _ h9 => h9) (yFs_get hkn) hd (h p l e s m args below meth c H locs ls C P F hl hL (y_ok1 hok (y_tl hs)))
theorem yRp_upd {E : yE} {n i : Nat} {S S' : ySt} {H H1 : Heap} (P : yRp E n S H) (hi : i < n) (hS : ∀ a, a ≠ i → S' a = S a) (he : va_at E.2.1 vwCl (E.1 + i, yEnt E S' i) H1) (z : H1.size = H.size) (oq : ∀ q : Nat, q ≠ E.1 + i → H1[q]? = H[q]?) (hok : yOkS n S') : yRp E n S' H1 := by
  refine ⟨?_, z.trans P.2.1, hok⟩
  have h := P.1.set (yWs_D E n S) (yWs_get hi) he oq
  rwa [yWs_set hS] at h
theorem y_putf (i k9 k idx : Nat) {z : Int} {v : yV} (hi : i < n) (hk : yKd i = (k9, 0)) (hc : k9 < 13) (hkn : k < yNf k9) (hw : Cond.fieldLink M.1.cls idx (yT k9 k).1 (yT k9 k).2.1 (yT k9 k).2.2.1 ∈ GW) (hfin : (yT k9 k).2.2.2 = false) (hd : decode M.2.1 pc = .ok (.putfield idx, 3)) (hv : yFv (yft k9 k) z = v) (hn : ∀ b : Nat, yOk v → narrow (yty k9 k) (yCz b v) = yCz b v ∧ fits (yty k9 k) (yCz b v) = true) (h : Y E M R Qf (pc + 3) L st (yset S i k z) n kc ks) : Y E M R Qf pc L (v :: .inr (.inr (i + 1)) :: st) S n kc ks := by
  intro p l e s m args below meth c H locs ls C P F hl hL hs
  obtain ⟨hx, hb, hml, hown, hts, hK, -⟩ := id C
  subst hv
  have hv := y_hd hs
  obtain ⟨hn1, hn2⟩ := hn E.1 hv
  have hap := va_apart (own := M.1.cls) hts (yIn_ok hc) (yty k9) (yty_ok hc) (ynm_ok hc) hK (yCl_ok hc)
  obtain ⟨r, h1, cell, q1, q2, q3, q4⟩ := P.1 i _ (y_own hi hk (by omega))
  cases (h1.symm.trans (yCl_ok hc))
  obtain ⟨hS, hfc, kC, hkC, hkind⟩ := hK.1 k9 _ (yCl_ok hc)
  obtain ⟨cf, kf, fi, f, hfd, hsl⟩ := hS k hkn
  have hlay := hts _ (yIn_ok hc _ (u_in_lay hkn))
  unfold u_lay at hlay
  rw [if_neg (by rw [hfin]; decide)] at hlay
  have hst := (u_facts hfc hkC (u_lays hts (yIn_ok hc) hkn) hfd).1
  have fin9 : ∀ (H1 : Heap) (locs1 : List Loc), H1[E.1 + i]? = some (cell.setSlot f.slot (yCz E.1 (yFv (yft k9 k) z))) → H1.size = H.size → (∀ q, q ≠ E.1 + i → H1[q]? = H[q]?) → va_S (fun q => E.1 ≤ q) s.heap H1 locs1 → W p l e R s m args below meth c H1 locs1 kc ks (Qf below args s) (F0 m (pc + 3) ls (st.map (yCz E.1))) := by
    intro H1 locs1 e1 e2 e3 hS1
    refine h p l e s m args below meth c H1 locs1 ls C (yRp_upd P hi yset_off ?_ e2 e3 (yOkS_set P.2.2 (by rw [yTy_o hk (by omega)]; exact hv))) hS1 hl hL (y_tl (y_tl hs))
    rw [yEnt_o hk (by omega), ← yFs_set (f := S i) (z := z) yset_at (fun j hj => yset_ne (Or.inr hj))]
    refine ⟨_, yCl_ok hc, t_OB.to (V := updV (vp_V (yFs E.1 k9 (S i))) k (yCz E.1 (yFv (yft k9 k) z))) ⟨_, e1, q2, q3, ?_⟩ (fun j _ => vp_updV_set (by rw [yFs_len]; exact hkn) _ j)⟩
    rw [hsl]
    exact t_set q4 hap hkn _
  have h6 := u_store hfc hkC hkind hlay hfd (yty_ok hc k hkn) hn1 hn2
  exact W.putK hx hb (f := f) ⟨hown, hts _ hw, ⟨_, _, _, hfd⟩, hst⟩ (by rw [q2]; exact h6) q1 q3 (by rw [hsl]; exact k2_hasslot (q4 k hkn)) rfl rfl hd (fun H1 e1 e2 e3 => fin9 H1 _ e1 e2 e3 (F.put e2 e3 (Nat.le_add_right _ _)))
theorem y_putF (i k9 k idx : Nat) {z : Int} {v : yV} (hi : i < n) (hk : yKd i = (k9, 0)) (hc : k9 < 13) (hkn : k < yNf k9) (hw : Cond.fieldLink M.1.cls idx (yT k9 k).1 (yT k9 k).2.1 (yT k9 k).2.2.1 ∈ GW) (hfin : (yT k9 k).2.2.2 = true) (hin : M.1.name = "<init>") (hown2 : (yT k9 k).1 = M.1.cls) (hd : decode M.2.1 pc = .ok (.putfield idx, 3)) (hv : yFv (yft k9 k) z = v) (hn : ∀ b : Nat, yOk v → narrow (yty k9 k) (yCz b v) = yCz b v ∧ fits (yty k9 k) (yCz b v) = true) (h : Y E M R Qf (pc + 3) L st (yset S i k z) n kc ks) : Y E M R Qf pc L (v :: .inr (.inr (i + 1)) :: st) S n kc ks := by
  intro p l e s m args below meth c H locs ls C P F hl hL hs
  obtain ⟨hx, hb, hml, hown, hts, hK, -⟩ := id C
  subst hv
  have hv := y_hd hs
  obtain ⟨hn1, hn2⟩ := hn E.1 hv
  have hap := va_apart (own := M.1.cls) hts (yIn_ok hc) (yty k9) (yty_ok hc) (ynm_ok hc) hK (yCl_ok hc)
  obtain ⟨r, h1, cell, q1, q2, q3, q4⟩ := P.1 i _ (y_own hi hk (by omega))
  cases (h1.symm.trans (yCl_ok hc))
  obtain ⟨hS, hfc, kC, hkC, hkind⟩ := hK.1 k9 _ (yCl_ok hc)
  obtain ⟨cf, kf, fi, f, hfd, hsl⟩ := hS k hkn
  have hlay := hts _ (yIn_ok hc _ (u_in_lay hkn))
  unfold u_lay at hlay
  rw [if_pos hfin] at hlay
  have hst := (u_facts hfc hkC (u_lays hts (yIn_ok hc) hkn) hfd).1
  have fin9 : ∀ (H1 : Heap) (locs1 : List Loc), H1[E.1 + i]? = some (cell.setSlot f.slot (yCz E.1 (yFv (yft k9 k) z))) → H1.size = H.size → (∀ q, q ≠ E.1 + i → H1[q]? = H[q]?) → va_S (fun q => E.1 ≤ q) s.heap H1 locs1 → W p l e R s m args below meth c H1 locs1 kc ks (Qf below args s) (F0 m (pc + 3) ls (st.map (yCz E.1))) := by
    intro H1 locs1 e1 e2 e3 hS1
    refine h p l e s m args below meth c H1 locs1 ls C (yRp_upd P hi yset_off ?_ e2 e3 (yOkS_set P.2.2 (by rw [yTy_o hk (by omega)]; exact hv))) hS1 hl hL (y_tl (y_tl hs))
    rw [yEnt_o hk (by omega), ← yFs_set (f := S i) (z := z) yset_at (fun j hj => yset_ne (Or.inr hj))]
    refine ⟨_, yCl_ok hc, t_OB.to (V := updV (vp_V (yFs E.1 k9 (S i))) k (yCz E.1 (yFv (yft k9 k) z))) ⟨_, e1, q2, q3, ?_⟩ (fun j _ => vp_updV_set (by rw [yFs_len]; exact hkn) _ j)⟩
    rw [hsl]
    exact t_set q4 hap hkn _
  have hcf : m.cls = cf := by
    obtain ⟨_, _, c', _, _, _, -, -, hf', -, -, -, how, -⟩ := Cond.laysFinal_spec hlay
    have e1 : c' = cf := by have := hfd.symm.trans hf'; simp at this; exact this.1.symm
    rw [hown2] at how
    rw [← e1]; exact Option.some.inj (hown.symm.trans how)
  have h6 := u_fits hfc hkC hkind (Or.inr hlay) hfd (yty_ok hc k hkn) hn1 hn2
  exact W.putFinK hx hb hown (hts _ hw) hfd hst hcf (C.2.2.2.2.2.2.2.2.1 hin) (by rw [q2]; exact h6) q1 q3 (by rw [hsl]; exact k2_hasslot (q4 k hkn)) rfl rfl hd (fun H1 e1 e2 e3 => fin9 H1 _ e1 e2 e3 (F.put e2 e3 (Nat.le_add_right _ _)))
theorem y_iald (i len : Nat) {j : Int} (hi : i < n) (hk : yKd i = (20, len)) (h0 : 0 ≤ j) (h1 : j < len) (hd : decode M.2.1 pc = .ok (.iaload, 1)) (h : Y E M R Qf (pc + 1) L (.inl (S i j.toNat) :: st) S n kc ks) : Y E M R Qf pc L (.inl j :: .inr (.inr (i + 1)) :: st) S n kc ks := by
  intro p l e s m args below meth c H locs ls C P F hl hL hs
  obtain ⟨hx, hb, hml, hown, hts, hK, -⟩ := id C
  have hj : yI j := y_hd hs
  have hok := yOkS_get (k := j.toNat) P.2.2 hi (show yTy i j.toNat = 0 from by unfold yTy; rw [hk]; rfl)
  have k := h p l e s m args below meth c H locs ls C P F hl hL (y_ok1 (v := .inl (S i j.toNat)) hok (y_tl (y_tl hs)))
  refine va_iald (f := fun q => Int32.ofInt (S i q)) hx hb hK P.1 i 0 (by rw [y_arr hi hk (by omega)]; rfl) rfl (yI_in hj h0 h1) hd ?_
  rw [yI_nat hj]
  exact k
theorem y_bald (i len : Nat) {j : Int} (hi : i < n) (hk : yKd i = (22, len)) (h0 : 0 ≤ j) (h1 : j < len) (hd : decode M.2.1 pc = .ok (.baload, 1)) (h : Y E M R Qf (pc + 1) L (.inl (S i j.toNat) :: st) S n kc ks) : Y E M R Qf pc L (.inl j :: .inr (.inr (i + 1)) :: st) S n kc ks := by
  intro p l e s m args below meth c H locs ls C P F hl hL hs
  obtain ⟨hx, hb, hml, hown, hts, hK, -⟩ := id C
  have hj : yI j := y_hd hs
  have hok := yOkS_get (k := j.toNat) P.2.2 hi (show yTy i j.toNat = 0 from by unfold yTy; rw [hk]; rfl)
  have k := h p l e s m args below meth c H locs ls C P F hl hL (y_ok1 (v := .inl (S i j.toNat)) hok (y_tl (y_tl hs)))
  refine va_bald (f := fun q => Int32.ofInt (S i q)) hx hb hK P.1 i 2 (by rw [y_arr hi hk (by omega)]; rfl) rfl (yI_in hj h0 h1) hd ?_
  rw [yI_nat hj]
  exact k
theorem y_zald (i len : Nat) {j : Int} (hi : i < n) (hk : yKd i = (23, len)) (h0 : 0 ≤ j) (h1 : j < len) (hd : decode M.2.1 pc = .ok (.baload, 1)) (h : Y E M R Qf (pc + 1) L (.inl (S i j.toNat) :: st) S n kc ks) : Y E M R Qf pc L (.inl j :: .inr (.inr (i + 1)) :: st) S n kc ks := by
  intro p l e s m args below meth c H locs ls C P F hl hL hs
  obtain ⟨hx, hb, hml, hown, hts, hK, -⟩ := id C
  have hj : yI j := y_hd hs
  have hok := yOkS_get (k := j.toNat) P.2.2 hi (show yTy i j.toNat = 0 from by unfold yTy; rw [hk]; rfl)
  have k := h p l e s m args below meth c H locs ls C P F hl hL (y_ok1 (v := .inl (S i j.toNat)) hok (y_tl (y_tl hs)))
  refine va_zald (f := fun q => Int32.ofInt (S i q)) hx hb hK P.1 i 3 (by rw [y_arr hi hk (by omega)]; rfl) rfl (yI_in hj h0 h1) hd ?_
  rw [yI_nat hj]
  exact k
theorem y_lald (i len : Nat) {j : Int} (hi : i < n) (hk : yKd i = (21, len)) (h0 : 0 ≤ j) (h1 : j < len) (hd : decode M.2.1 pc = .ok (.laload, 1)) (h : Y E M R Qf (pc + 1) L (.inr (.inl (S i j.toNat)) :: st) S n kc ks) : Y E M R Qf pc L (.inl j :: .inr (.inr (i + 1)) :: st) S n kc ks := by
  intro p l e s m args below meth c H locs ls C P F hl hL hs
  obtain ⟨hx, hb, hml, hown, hts, hK, -⟩ := id C
  have hj : yI j := y_hd hs
  have hok := yOkS_get (k := j.toNat) P.2.2 hi (show yTy i j.toNat = 2 from by unfold yTy; rw [hk]; rfl)
  have k := h p l e s m args below meth c H locs ls C P F hl hL (y_ok1 (v := .inr (.inl (S i j.toNat))) hok (y_tl (y_tl hs)))
  refine va_lald (f := fun q => Int64.ofInt (S i q)) hx hb hK P.1 i 1 (by rw [y_arr hi hk (by omega)]; rfl) rfl (yI_in hj h0 h1) hd ?_
  rw [yI_nat hj]
  exact k
theorem yRf_cz (b : Nat) (z : Int) : va_rf (yRf b z) = yCz b (.inr (.inr z.toNat)) := by
  unfold yRf
  cases e : z.toNat with
  | zero => rfl
  | succ r => simp [va_rf, yCz]
theorem y_aald (i kd len : Nat) {j : Int} (hi : i < n) (hk : yKd i = (kd, len)) (hkd : kd = 24 ∨ kd = 25) (h0 : 0 ≤ j) (h1 : j < len) (hd : decode M.2.1 pc = .ok (.aaload, 1)) {v : yV} (hv : .inr (.inr (S i j.toNat).toNat) = v) (h : Y E M R Qf (pc + 1) L (v :: st) S n kc ks) : Y E M R Qf pc L (.inl j :: .inr (.inr (i + 1)) :: st) S n kc ks := by
  intro p l e s m args below meth c H locs ls C P F hl hL hs
  obtain ⟨hx, hb, hml, hown, hts, hK, -⟩ := id C
  subst hv
  have hj : yI j := y_hd hs
  have k := h p l e s m args below meth c H locs ls C P F hl hL (y_ok1 (v := .inr (.inr (S i j.toNat).toNat)) trivial (y_tl (y_tl hs)))
  obtain ⟨ty, hty, hK2, hP⟩ : ∃ ty : FieldType, ty.isReference = true ∧ ArrOfT s (E.2.2 (kd - 20)) ty ∧ H[E.1 + i]? = some (arrV (E.2.2 (kd - 20)) len (fun q => va_rf (yRf E.1 (S i q)))) := by
    rcases hkd with e | e
    · subst e
      exact ⟨.object "EvenTown$Earnest", rfl, (hK.2 4 _ rfl).1, P.1 i _ (y_arr hi hk (by omega))⟩
    · subst e
      exact ⟨.array .int, rfl, (hK.2 5 _ rfl).1, P.1 i _ (y_arr hi hk (by omega))⟩
  have hin := yI_in hj h0 h1
  have hlt : (Int32.ofInt j).toNatClampNeg < len := Nat.not_le.mp fun q => hin (Or.inr q)
  refine W.aald (v := yCz E.1 (.inr (.inr (S i j.toNat).toNat))) hx hb hP (hK2 len _) hty (fun q => by cases q) (by rw [arrV_size]; exact hin) (by rw [arrV_read _ _ hlt, yI_nat hj, yRf_cz]) rfl rfl hd ?_
  exact k
theorem y_iast (i len : Nat) {j z : Int} (hi : i < n) (hk : yKd i = (20, len)) (h0 : 0 ≤ j) (h1 : j < len) (hd : decode M.2.1 pc = .ok (.iastore, 1)) (h : Y E M R Qf (pc + 1) L st (yset S i j.toNat (z)) n kc ks) : Y E M R Qf pc L (.inl z :: .inl j :: .inr (.inr (i + 1)) :: st) S n kc ks := by
  intro p l e s m args below meth c H locs ls C P F hl hL hs
  obtain ⟨hx, hb, hml, hown, hts, hK, -⟩ := id C
  have hz := y_hd hs
  have hj : yI j := y_hd (y_tl hs)
  have hcell : H[E.1 + i]? = some (arrV (E.2.2 0) len (fun q => Value.int (Int32.ofInt (S i q)))) := P.1 i _ (y_arr hi hk (by omega))
  refine W.iast hx hb hcell ((hK.2 0 _ rfl).1 len _) (fun q => by cases q) (by rw [arrV_size]; exact yI_in hj h0 h1) rfl rfl hd (fun H1 e1 e2 e3 => ?_)
  refine h p l e s m args below meth c H1 _ ls C (yRp_upd P hi yset_off ?_ e2 e3 (yOkS_set P.2.2 (by rw [show yTy i j.toNat = 0 from by unfold yTy; rw [hk]; rfl]; exact hz))) (F.put e2 e3 (Nat.le_add_right _ _)) hl hL (y_tl (y_tl (y_tl hs)))
  rw [yEnt_a hk (by omega)]
  show H1[E.1 + i]? = some (arrV (E.2.2 0) len (fun q => Value.int (Int32.ofInt (yset S i j.toNat (z) i q))))
  rw [e1, arrV_store, yI_nat hj]
  refine congrArg (fun f => some (arrV (E.2.2 0) len f)) (funext fun q => ?_)
  by_cases e : q = j.toNat
  · subst e
    simp only [updV, if_true, yset_at]
    first | rfl | done
  · simp only [updV, if_neg e, yset_ne (Or.inr e)]
theorem y_last (i len : Nat) {j z : Int} (hi : i < n) (hk : yKd i = (21, len)) (h0 : 0 ≤ j) (h1 : j < len) (hd : decode M.2.1 pc = .ok (.lastore, 1)) (h : Y E M R Qf (pc + 1) L st (yset S i j.toNat (z)) n kc ks) : Y E M R Qf pc L (.inr (.inl z) :: .inl j :: .inr (.inr (i + 1)) :: st) S n kc ks := by
  intro p l e s m args below meth c H locs ls C P F hl hL hs
  obtain ⟨hx, hb, hml, hown, hts, hK, -⟩ := id C
  have hz := y_hd hs
  have hj : yI j := y_hd (y_tl hs)
  have hcell : H[E.1 + i]? = some (arrV (E.2.2 1) len (fun q => Value.long (Int64.ofInt (S i q)))) := P.1 i _ (y_arr hi hk (by omega))
  refine W.last hx hb hcell ((hK.2 1 _ rfl).1 len _) (fun q => by cases q) (by rw [arrV_size]; exact yI_in hj h0 h1) rfl rfl hd (fun H1 e1 e2 e3 => ?_)
  refine h p l e s m args below meth c H1 _ ls C (yRp_upd P hi yset_off ?_ e2 e3 (yOkS_set P.2.2 (by rw [show yTy i j.toNat = 2 from by unfold yTy; rw [hk]; rfl]; exact hz))) (F.put e2 e3 (Nat.le_add_right _ _)) hl hL (y_tl (y_tl (y_tl hs)))
  rw [yEnt_a hk (by omega)]
  show H1[E.1 + i]? = some (arrV (E.2.2 1) len (fun q => Value.long (Int64.ofInt (yset S i j.toNat (z) i q))))
  rw [e1, arrV_store, yI_nat hj]
  refine congrArg (fun f => some (arrV (E.2.2 1) len f)) (funext fun q => ?_)
  by_cases e : q = j.toNat
  · subst e
    simp only [updV, if_true, yset_at]
    first | rfl | done
  · simp only [updV, if_neg e, yset_ne (Or.inr e)]
theorem y_bast (i len : Nat) {j z : Int} (hi : i < n) (hk : yKd i = (22, len)) (h0 : 0 ≤ j) (h1 : j < len) (hd : decode M.2.1 pc = .ok (.bastore, 1)) (h : Y E M R Qf (pc + 1) L st (yset S i j.toNat (b32i2b z)) n kc ks) : Y E M R Qf pc L (.inl z :: .inl j :: .inr (.inr (i + 1)) :: st) S n kc ks := by
  intro p l e s m args below meth c H locs ls C P F hl hL hs
  obtain ⟨hx, hb, hml, hown, hts, hK, -⟩ := id C
  have hz := y_hd hs
  have hj : yI j := y_hd (y_tl hs)
  have hcell : H[E.1 + i]? = some (arrV (E.2.2 2) len (fun q => Value.int (Int32.ofInt (S i q)))) := P.1 i _ (y_arr hi hk (by omega))
  refine W.bast hx hb hcell ((hK.2 2 _ rfl).1 len _) (fun q => by cases q) (by rw [arrV_size]; exact yI_in hj h0 h1) rfl rfl hd (fun H1 e1 e2 e3 => ?_)
  refine h p l e s m args below meth c H1 _ ls C (yRp_upd P hi yset_off ?_ e2 e3 (yOkS_set P.2.2 (by rw [show yTy i j.toNat = 0 from by unfold yTy; rw [hk]; rfl]; exact yI_of32 _))) (F.put e2 e3 (Nat.le_add_right _ _)) hl hL (y_tl (y_tl (y_tl hs)))
  rw [yEnt_a hk (by omega)]
  show H1[E.1 + i]? = some (arrV (E.2.2 2) len (fun q => Value.int (Int32.ofInt (yset S i j.toNat (b32i2b z) i q))))
  rw [e1, arrV_store, yI_nat hj]
  refine congrArg (fun f => some (arrV (E.2.2 2) len f)) (funext fun q => ?_)
  by_cases e : q = j.toNat
  · subst e
    simp only [updV, if_true, yset_at]
    exact congrArg Value.int (Int32.ofInt_toInt _).symm
  · simp only [updV, if_neg e, yset_ne (Or.inr e)]
theorem y_zast (i len : Nat) {j z : Int} (hi : i < n) (hk : yKd i = (23, len)) (h0 : 0 ≤ j) (h1 : j < len) (hz2 : z = 0 ∨ z = 1) (hd : decode M.2.1 pc = .ok (.bastore, 1)) (h : Y E M R Qf (pc + 1) L st (yset S i j.toNat (z)) n kc ks) : Y E M R Qf pc L (.inl z :: .inl j :: .inr (.inr (i + 1)) :: st) S n kc ks := by
  intro p l e s m args below meth c H locs ls C P F hl hL hs
  obtain ⟨hx, hb, hml, hown, hts, hK, -⟩ := id C
  have hz := y_hd hs
  have hj : yI j := y_hd (y_tl hs)
  have hcell : H[E.1 + i]? = some (arrV (E.2.2 3) len (fun q => Value.int (Int32.ofInt (S i q)))) := P.1 i _ (y_arr hi hk (by omega))
  refine W.zast hx hb hcell ((hK.2 3 _ rfl).1 len _) (fun q => by cases q) (by rw [arrV_size]; exact yI_in hj h0 h1) rfl rfl hd (fun H1 e1 e2 e3 => ?_)
  refine h p l e s m args below meth c H1 _ ls C (yRp_upd P hi yset_off ?_ e2 e3 (yOkS_set P.2.2 (by rw [show yTy i j.toNat = 0 from by unfold yTy; rw [hk]; rfl]; exact hz))) (F.put e2 e3 (Nat.le_add_right _ _)) hl hL (y_tl (y_tl (y_tl hs)))
  rw [yEnt_a hk (by omega)]
  show H1[E.1 + i]? = some (arrV (E.2.2 3) len (fun q => Value.int (Int32.ofInt (yset S i j.toNat (z) i q))))
  rw [e1, arrV_store, yI_nat hj]
  refine congrArg (fun f => some (arrV (E.2.2 3) len f)) (funext fun q => ?_)
  by_cases e : q = j.toNat
  · subst e
    simp only [updV, if_true, yset_at]
    rcases hz2 with e | e <;> subst e <;> rfl
  · simp only [updV, if_neg e, yset_ne (Or.inr e)]
theorem y_alen (i kd len : Nat) (hi : i < n) (hk : yKd i = (kd, len)) (hkd : 20 ≤ kd) (hk2 : kd < 26) (hlen : yIb (len : Int) = true) (hd : decode M.2.1 pc = .ok (.arraylength, 1)) (h : Y E M R Qf (pc + 1) L (.inl (len : Int) :: st) S n kc ks) : Y E M R Qf pc L (.inr (.inr (i + 1)) :: st) S n kc ks := by
  intro p l e s m args below meth c H locs ls C P F hl hL hs
  obtain ⟨hx, hb, hml, hown, hts, hK, -⟩ := id C
  have k := h p l e s m args below meth c H locs ls C P F hl hL (y_ok1 (v := .inl (len : Int)) (yIb_ok hlen) (y_tl hs))
  obtain ⟨ty, ht⟩ : ∃ ty, (yTys E)[kd - 20]? = some (E.2.2 (kd - 20), ty) := by
    rcases (show kd = 20 ∨ kd = 21 ∨ kd = 22 ∨ kd = 23 ∨ kd = 24 ∨ kd = 25 by omega) with e | e | e | e | e | e <;> subst e <;> exact ⟨_, rfl⟩
  exact va_alen hx hb hK P.1 i (kd - 20) (y_arr hi hk hkd) ht (v := Int32.ofInt (len : Int)) (Int32.ofInt_eq_ofNat (n := len)).symm hd k
end YH
