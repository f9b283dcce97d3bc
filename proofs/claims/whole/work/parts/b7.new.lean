/-! new cells: objects and arrays, in the order of yLay -/
def dvB (ft : FieldType) (t : Nat) : Bool := match ft with
  | .int | .boolean | .byte | .char | .short => t == 0 || t == 1
  | .long => t == 2
  | .object _ | .array _ => t == 3
  | _ => false
theorem dvB_ok {ft : FieldType} {t b : Nat} (h : dvB ft t = true) : defaultValue ft = yCz b (yFv t 0) := by
  cases ft <;> simp [dvB] at h
  case int => rcases h with rfl | rfl <;> rfl
  case boolean => rcases h with rfl | rfl <;> rfl
  case byte => rcases h with rfl | rfl <;> rfl
  case char => rcases h with rfl | rfl <;> rfl
  case short => rcases h with rfl | rfl <;> rfl
  case long => subst h; rfl
  case object => subst h; rfl
  case array => subst h; rfl
theorem dvB_all {c : Nat} (hc : c < 13) {j : Nat} (hj : j < yNf c) : dvB (yty c j) (yft c j) = true := by
  have key : ∀ c : Fin 13, ∀ j : Fin (yNf c), dvB (yty c j) (yft c j) = true := by decide +kernel
  exact key ⟨c, hc⟩ ⟨j, hj⟩
theorem yOk_0 (t : Nat) : yOk (yFv t 0) := by
  unfold yFv
  split
  · exact show yJ 0 from ⟨by decide, by decide⟩
  · split
    · trivial
    · exact yI_0
theorem yNew_fin {E : yE} {n : Nat} {S : ySt} {H H1 : Heap} (P : yRp E n S H) (e : va_at E.2.1 vwCl (E.1 + n, yEnt E S n) H1) (z : H1.size = H.size + 1) (o : ∀ q : Nat, q < H.size → H1[q]? = H[q]?) (hz : ∀ k, S n k = 0) : yRp E (n + 1) S H1 := by
  refine ⟨?_, by rw [z, P.2.1]; rfl, fun i k hi => ?_⟩
  · rw [← yWs_push]
    refine (P.1.kept (fun k x hx => o x.1 ((P.1 k x hx).lt))).app (fun k x hx => ?_)
    have hk : k < 1 := (List.getElem?_eq_some_iff.mp hx).1
    rw [show k = 0 by omega] at hx
    cases hx
    exact e
  · by_cases h : i < n
    · exact P.2.2 i k h
    · rw [show i = n by omega, hz k]
      exact yOk_0 _
theorem va_S.grow {A : Nat → Prop} {H0 H H1 : Heap} {locs : List Loc} (h : va_S A H0 H locs) (z : H.size ≤ H1.size) (o : ∀ q : Nat, q < H.size → H1[q]? = H[q]?) : va_S A H0 H1 locs :=
  ⟨Nat.le_trans h.1 z, fun x h1 h2 => (o x (Nat.lt_of_lt_of_le h1 h.1)).trans (h.2.1 x h1 h2), h.2.2⟩
/-- the cells from n on hold nothing -/
def Fr0 (n : Nat) (S : ySt) : Prop := ∀ a, n ≤ a → ∀ k, S a k = 0
theorem Fr0.set {n : Nat} {S : ySt} (h : Fr0 n S) {i k : Nat} {z : Int} (hi : i < n) : Fr0 n (yset S i k z) := fun a ha j => by
  rw [yset_ne (Or.inl (by omega))]
  exact h a ha j
theorem Fr0.up {n m : Nat} {S : ySt} (h : Fr0 n S) (hm : n ≤ m) : Fr0 m S := fun a ha j => h a (Nat.le_trans hm ha) j
section YN
variable {E : yE} {M : yM} {R : Room} {Qf : List Frame → Array Value → State → State → Prop} {pc n kc ks : Nat} {L : List (Nat × yV)} {st : List yV} {S : ySt}
theorem y_new (k9 idx : Nat) (hk : yKd n = (k9, 0)) (hc : k9 < 13) (hz : ∀ k, S n k = 0) (hcl : Cond.classLink M.1.cls idx (yC k9) ∈ GW) (hinst : Cond.instantiable (yC k9) (yNf k9) ∈ GW) (hini : Cond.initialized (yC k9) ∈ GW) (hR : kc + 1 ≤ R.cells ∧ ks + yNf k9 ≤ R.slots) (hd : decode M.2.1 pc = .ok (.new idx, 3)) (h : Y E M R Qf (pc + 3) L (.inr (.inr (n + 1)) :: st) S (n + 1) (kc + 1) (ks + yNf k9)) : Y E M R Qf pc L st S n kc ks := by
  intro p l e s m args below meth c H locs ls C P F hl hL hs
  obtain ⟨hx, hb, hml, hown, hts, hK, -⟩ := id C
  have hKn := hK.1 k9 _ (yCl_ok hc)
  refine W.newcK hx hb hown (hts _ hcl) (hts _ hinst) (hts _ hini) rfl hd hR.1 hR.2 hKn.2.1 P.2.1 fun H1 kC hkC e1 z1 o1 => ?_
  have o2 : ∀ q : Nat, q < H.size → H1[q]? = H[q]? := fun q hq => o1 q (by rw [← P.2.1]; exact hq)
  refine h p l e s m args below meth c H1 locs ls C (yNew_fin P ?_ (by rw [z1, P.2.1]) o2 hz) (va_S.grow F (by rw [z1, P.2.1]; omega) o2) hl hL (y_ok1 trivial hs)
  rw [yEnt_o hk (by omega)]
  refine ⟨_, yCl_ok hc, (u_born (yty k9) hts (yIn_ok hc) hKn hkC e1 (yty_ok hc)).to (fun j hj => ?_)⟩
  have hj2 : j < yNf k9 := hj
  show defaultValue (yty k9 j) = (yFs E.1 k9 (S n)).getD j .null
  rw [List.getD_eq_getElem?_getD, yFs_get hj2, hz j]
  exact dvB_ok (dvB_all hc hj2)
theorem y_newI (len : Nat) (hk : yKd n = (20, len)) (hz : ∀ k, S n k = 0) (harr : Cond.arrayClass .int ∈ GW) (hlen : decide (len ≤ 100000) = true) (hR : kc + 1 ≤ R.cells ∧ ks + len ≤ R.slots) (hd : decode M.2.1 pc = .ok (.newarray .int, 2)) (h : Y E M R Qf (pc + 2) L (.inr (.inr (n + 1)) :: st) S (n + 1) (kc + 1) (ks + len)) : Y E M R Qf pc L (.inl (len : Int) :: st) S n kc ks := by
  intro p l e s m args below meth c H locs ls C P F hl hL hs
  obtain ⟨hx, hb, hml, hown, hts, hK, -⟩ := id C
  have hlen2 : len ≤ 100000 := of_decide_eq_true hlen
  have hyl : yI (len : Int) := ⟨by omega, by omega⟩
  refine va_newaK (atype := .int) hx hb (hts _ harr) rfl hd rfl (by show ¬ Int32.ofInt (len : Int) < 0; rw [show (0 : Int32) = Int32.ofInt 0 from rfl, yI_lt hyl yI_0]; omega) (N := len) (by show (Int32.ofInt (len : Int)).toNatClampNeg = len; rw [yI_nat hyl]; rfl) (show len * 4 ≤ 536870912 by omega) hR.1 hR.2 P.2.1 fun H1 cA e1 z1 o1 hAr hNm => ?_
  have hcA : cA = E.2.2 0 := Option.some.inj (hNm.symm.trans (hK.2 0 _ rfl).2)
  subst hcA
  have o2 : ∀ q : Nat, q < H.size → H1[q]? = H[q]? := fun q hq => o1 q (by rw [← P.2.1]; exact hq)
  refine h p l e s m args below meth c H1 locs ls C (yNew_fin P ?_ (by rw [z1, P.2.1]) o2 hz) (va_S.grow F (by rw [z1, P.2.1]; omega) o2) hl hL (y_ok1 trivial (y_tl hs))
  rw [yEnt_a hk (by omega)]
  show H1[E.1 + n]? = some (arrV (E.2.2 0) len (fun j => Value.int (Int32.ofInt (S n j))))
  rw [e1]
  refine congrArg (fun f => some (arrV (E.2.2 0) len f)) (funext fun j => ?_)
  rw [hz j]
  rfl
theorem y_newJ (len : Nat) (hk : yKd n = (21, len)) (hz : ∀ k, S n k = 0) (harr : Cond.arrayClass .long ∈ GW) (hlen : decide (len ≤ 100000) = true) (hR : kc + 1 ≤ R.cells ∧ ks + len ≤ R.slots) (hd : decode M.2.1 pc = .ok (.newarray .long, 2)) (h : Y E M R Qf (pc + 2) L (.inr (.inr (n + 1)) :: st) S (n + 1) (kc + 1) (ks + len)) : Y E M R Qf pc L (.inl (len : Int) :: st) S n kc ks := by
  intro p l e s m args below meth c H locs ls C P F hl hL hs
  obtain ⟨hx, hb, hml, hown, hts, hK, -⟩ := id C
  have hlen2 : len ≤ 100000 := of_decide_eq_true hlen
  have hyl : yI (len : Int) := ⟨by omega, by omega⟩
  refine va_newaK (atype := .long) hx hb (hts _ harr) rfl hd rfl (by show ¬ Int32.ofInt (len : Int) < 0; rw [show (0 : Int32) = Int32.ofInt 0 from rfl, yI_lt hyl yI_0]; omega) (N := len) (by show (Int32.ofInt (len : Int)).toNatClampNeg = len; rw [yI_nat hyl]; rfl) (show len * 8 ≤ 536870912 by omega) hR.1 hR.2 P.2.1 fun H1 cA e1 z1 o1 hAr hNm => ?_
  have hcA : cA = E.2.2 1 := Option.some.inj (hNm.symm.trans (hK.2 1 _ rfl).2)
  subst hcA
  have o2 : ∀ q : Nat, q < H.size → H1[q]? = H[q]? := fun q hq => o1 q (by rw [← P.2.1]; exact hq)
  refine h p l e s m args below meth c H1 locs ls C (yNew_fin P ?_ (by rw [z1, P.2.1]) o2 hz) (va_S.grow F (by rw [z1, P.2.1]; omega) o2) hl hL (y_ok1 trivial (y_tl hs))
  rw [yEnt_a hk (by omega)]
  show H1[E.1 + n]? = some (arrV (E.2.2 1) len (fun j => Value.long (Int64.ofInt (S n j))))
  rw [e1]
  refine congrArg (fun f => some (arrV (E.2.2 1) len f)) (funext fun j => ?_)
  rw [hz j]
  rfl
theorem y_newB (len : Nat) (hk : yKd n = (22, len)) (hz : ∀ k, S n k = 0) (harr : Cond.arrayClass .byte ∈ GW) (hlen : decide (len ≤ 100000) = true) (hR : kc + 1 ≤ R.cells ∧ ks + len ≤ R.slots) (hd : decode M.2.1 pc = .ok (.newarray .byte, 2)) (h : Y E M R Qf (pc + 2) L (.inr (.inr (n + 1)) :: st) S (n + 1) (kc + 1) (ks + len)) : Y E M R Qf pc L (.inl (len : Int) :: st) S n kc ks := by
  intro p l e s m args below meth c H locs ls C P F hl hL hs
  obtain ⟨hx, hb, hml, hown, hts, hK, -⟩ := id C
  have hlen2 : len ≤ 100000 := of_decide_eq_true hlen
  have hyl : yI (len : Int) := ⟨by omega, by omega⟩
  refine va_newaK (atype := .byte) hx hb (hts _ harr) rfl hd rfl (by show ¬ Int32.ofInt (len : Int) < 0; rw [show (0 : Int32) = Int32.ofInt 0 from rfl, yI_lt hyl yI_0]; omega) (N := len) (by show (Int32.ofInt (len : Int)).toNatClampNeg = len; rw [yI_nat hyl]; rfl) (show len * 1 ≤ 536870912 by omega) hR.1 hR.2 P.2.1 fun H1 cA e1 z1 o1 hAr hNm => ?_
  have hcA : cA = E.2.2 2 := Option.some.inj (hNm.symm.trans (hK.2 2 _ rfl).2)
  subst hcA
  have o2 : ∀ q : Nat, q < H.size → H1[q]? = H[q]? := fun q hq => o1 q (by rw [← P.2.1]; exact hq)
  refine h p l e s m args below meth c H1 locs ls C (yNew_fin P ?_ (by rw [z1, P.2.1]) o2 hz) (va_S.grow F (by rw [z1, P.2.1]; omega) o2) hl hL (y_ok1 trivial (y_tl hs))
  rw [yEnt_a hk (by omega)]
  show H1[E.1 + n]? = some (arrV (E.2.2 2) len (fun j => Value.int (Int32.ofInt (S n j))))
  rw [e1]
  refine congrArg (fun f => some (arrV (E.2.2 2) len f)) (funext fun j => ?_)
  rw [hz j]
  rfl
theorem y_newZ (len : Nat) (hk : yKd n = (23, len)) (hz : ∀ k, S n k = 0) (harr : Cond.arrayClass .boolean ∈ GW) (hlen : decide (len ≤ 100000) = true) (hR : kc + 1 ≤ R.cells ∧ ks + len ≤ R.slots) (hd : decode M.2.1 pc = .ok (.newarray .boolean, 2)) (h : Y E M R Qf (pc + 2) L (.inr (.inr (n + 1)) :: st) S (n + 1) (kc + 1) (ks + len)) : Y E M R Qf pc L (.inl (len : Int) :: st) S n kc ks := by
  intro p l e s m args below meth c H locs ls C P F hl hL hs
  obtain ⟨hx, hb, hml, hown, hts, hK, -⟩ := id C
  have hlen2 : len ≤ 100000 := of_decide_eq_true hlen
  have hyl : yI (len : Int) := ⟨by omega, by omega⟩
  refine va_newaK (atype := .boolean) hx hb (hts _ harr) rfl hd rfl (by show ¬ Int32.ofInt (len : Int) < 0; rw [show (0 : Int32) = Int32.ofInt 0 from rfl, yI_lt hyl yI_0]; omega) (N := len) (by show (Int32.ofInt (len : Int)).toNatClampNeg = len; rw [yI_nat hyl]; rfl) (show len * 1 ≤ 536870912 by omega) hR.1 hR.2 P.2.1 fun H1 cA e1 z1 o1 hAr hNm => ?_
  have hcA : cA = E.2.2 3 := Option.some.inj (hNm.symm.trans (hK.2 3 _ rfl).2)
  subst hcA
  have o2 : ∀ q : Nat, q < H.size → H1[q]? = H[q]? := fun q hq => o1 q (by rw [← P.2.1]; exact hq)
  refine h p l e s m args below meth c H1 locs ls C (yNew_fin P ?_ (by rw [z1, P.2.1]) o2 hz) (va_S.grow F (by rw [z1, P.2.1]; omega) o2) hl hL (y_ok1 trivial (y_tl hs))
  rw [yEnt_a hk (by omega)]
  show H1[E.1 + n]? = some (arrV (E.2.2 3) len (fun j => Value.int (Int32.ofInt (S n j))))
  rw [e1]
  refine congrArg (fun f => some (arrV (E.2.2 3) len f)) (funext fun j => ?_)
  rw [hz j]
  rfl
end YN
