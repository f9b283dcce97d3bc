/-! both sides read a whole text -/
theorem cLn_eq {N : Nat} {β : Type} {x : Option (Int × ySt)} {J : Int → ySt → Option β} : (bndR x fun r34 σ35 => bnd J fun j38 => if r34 = 0 then j38 0 σ35 else bndR (cTp_pass N 59 σ35) fun r42 σ43 => if r42 = 0 then j38 0 σ43 else j38 1 σ43) = bndR (cLn N x) J := by
  unfold cLn
  cases x with
  | none => rfl
  | some a =>
    obtain ⟨r, s⟩ := a
    simp only [bndR_s, bnd]
    by_cases c : r = 0
    · rw [if_pos c, if_pos c, bndR_s]
    · rw [if_neg c, if_neg c]
      cases cTp_pass N 59 s with
      | none => rfl
      | some z =>
        obtain ⟨r2, s2⟩ := z
        simp only [bndR_s]
        by_cases c2 : r2 = 0
        · rw [if_pos c2, if_pos c2, bndR_s]
        · rw [if_neg c2, if_neg c2, bndR_s]
def rlE (N : Nat) (x17 : Int) (σ19 : ySt) : Option (Int × ySt) :=
  if x17 = 0 then
    chk (x17 = 0 ∨ x17 = 1) <|
    some (x17, σ19)
  else
    chkT (σ19 53 1) fun T24 =>
    bndO (cTw_finish N T24 σ19) fun σ28 =>
    chk (x17 = 0 ∨ x17 = 1) <|
    some (x17, σ28)
def rlF (N : Nat) (k20 : Int → Int → ySt → Option (Int × ySt)) (x17 x18 : Int) (σ19 : ySt) : Option (Int × ySt) :=
  bnd (rlE N x17 σ19) fun j21 =>
  if x18 ≥ 1600 then
    j21
  else
    if x17 = 0 then
      j21
    else
      if (σ19 1 3) = 0 then
        j21
      else
        bndR (cRd_readLine N σ19) fun r34 σ35 =>
        bnd (fun (y36 : Int) (σ37 : ySt) =>
          chkI (x18 + 1) <|
          k20 y36 (x18 + 1) σ37) fun j38 =>
        if r34 = 0 then
          j38 0 σ35
        else
          bndR (cTp_pass N 59 σ35) fun r42 σ43 =>
          if r42 = 0 then
            j38 0 σ43
          else
            j38 1 σ43
theorem cRd_readInto_eq (N : Nat) (a : Nat) (σ : ySt) : cRd_readInto N a σ =
  chk (a = 13 ∨ a = 33) (
  bnd (yset σ 53 1 ((a : Nat) + 1 : Int)) fun σ2 =>
  chkT (σ2 53 1) fun T4 =>
  bndO (cTw_clear N T4 σ2) fun σ8 =>
  bnd (yset σ8 53 2 0) fun σ9 =>
  bnd (yset σ9 53 3 0) fun σ11 =>
  bnd (yset σ11 53 4 0) fun σ13 =>
  bndO (cTp_begin N σ13) fun σ16 => loopS2 (rlF N) N 1 0 σ16) := rfl
def twE (N : Nat) (σ10 : ySt) : Option (Int × ySt) :=
  bndO (mo_isGood σ10) fun r16 =>
  if ¬ r16 = 0 then
    bnd (yset σ10 92 40 (σ10 92 41)) fun σ18 =>
    bnd (yset σ18 92 81 0) fun σ20 =>
    loopS1 (fun k24 x22 σ23 =>
      if x22 ≥ 3 then
        bndO (mo_begin N σ23) fun σ27 =>
        chkA 2 (σ27 92 40) <|
        some ((σ27 97 ((σ27 92 40)).toNat), σ27)
      else
        chkA 3 x22 <|
        bnd (yset σ23 146 (x22).toNat (-1)) fun σ30 =>
        chkI (x22 + 1) <|
        k24 (x22 + 1) σ30) N 0 σ20
  else
    some ((-1), σ10)
def twF (N : Nat) (k11 : ySt → Option (Int × ySt)) (σ10 : ySt) : Option (Int × ySt) :=
  bndO (mo_isGood σ10) fun r13 =>
  bnd (twE N σ10) fun j14 =>
  if r13 = 0 then
    j14
  else
    if (σ10 92 8) = 0 then
      j14
    else
      bndO (mo_readLine N σ10) fun σ36 =>
      k11 σ36
theorem mo_town_eq (N : Nat) (σ : ySt) : mo_town N σ =
  bndO (mo_takeTape N σ) fun σ2 =>
  chkI (1 - (σ2 92 40)) <|
  bnd (yset σ2 92 41 (1 - (σ2 92 40))) fun σ4 =>
  bndO (mo_clearBank N σ4) fun σ7 =>
  bndO (mo_goOn N σ7) fun σ9 =>
  loopS0 (twF N) N σ9 := rfl
/-- both loops side by side -/
theorem rl_lock {N n T b : Nat} {t : Nat → Int} (hN : 100000 ≤ N) (hT : T = 13 ∨ T = 33) (hb : b < 2) : ∀ (k f f' p mp mq md mw me L f1 f2 f3 : Nat) (σ τ : ySt), mp + mq + md + mw + me + f1 + f2 + f3 + k = 60 → k + 2 ≤ f → k + 2 ≤ f' → RT σ τ t n p → LT σ τ T b mp mq md mw me L f1 f2 f3 → FLG τ b f1 f2 f3 →
    ∃ z σ' τ', loopS2 (rlF N) f 1 ((mp + mq + md + mw + me + f1 + f2 + f3 : Nat) : Int) σ = rlE N z σ' ∧ loopS0 (twF N) f' τ = twE N τ' ∧ FrT T σ' σ ∧ FrB b τ' τ ∧ ((z = 1 ∧ ∃ q mp mq md mw me L f1 f2 f3 : Nat, RT σ' τ' t n q ∧ tkK t n q = 0 ∧ LT σ' τ' T b mp mq md mw me L f1 f2 f3 ∧ FLG τ' b f1 f2 f3) ∨ (z = 0 ∧ RB σ' τ' t n)) := by
  intro k
  induction k with
  | zero =>
    intro f f' p mp mq md mw me L f1 f2 f3 σ τ hk hf hf' rt lt fg
    obtain ⟨⟨g1, g2, g3, g4, g5, g6, g7, g8, g9, g0⟩, _, _, _, hfl, _⟩ := id lt
    have := g1.2.1
    have := g2.2.1
    have := g3.2.1
    have := g4.2.2.1
    have := g5.2.1
    omega
  | succ k ih =>
    intro f f' p mp mq md mw me L f1 f2 f3 σ τ hk hf hf' rt lt fg
    obtain ⟨⟨g1, g2, g3, g4, g5, g6, g7, g8, g9, g0⟩, _, _, _, hfl, _⟩ := id lt
    have m1 := g1.2.1
    have m2 := g2.2.1
    have m3 := g3.2.1
    have m4 := g4.2.2.1
    have m5 := g5.2.1
    obtain ⟨f, rfl⟩ : ∃ z, f = z + 1 := ⟨f - 1, by omega⟩
    obtain ⟨f', rfl⟩ : ∃ z, f' = z + 1 := ⟨f' - 1, by omega⟩
    generalize hs : mp + mq + md + mw + me + f1 + f2 + f3 = s at *
    have hk3 : σ 1 3 = tkK t n p := rt.1.2.2.2.2.2.2.1
    have h8 := (TM_tok rt.2.1).1
    have gg : τ 92 4 = 0 := rt.2.2.2.1
    show ∃ z σ' τ', rlF N (loopS2 (rlF N) f) 1 (s : Int) σ = rlE N z σ' ∧ twF N (loopS0 (twF N) f') τ = twE N τ' ∧ _
    by_cases c : tkK t n p = 0
    · refine ⟨1, σ, τ, ?_, ?_, FrT_rfl T σ, FrB_rfl b τ, Or.inl ⟨rfl, p, mp, mq, md, mw, me, L, f1, f2, f3, rt, c, lt, fg⟩⟩
      · unfold rlF
        rw [bnd, if_neg (by omega), if_neg (by decide), if_pos (by omega)]
      · unfold twF
        rw [mo_isGood_eq, bndO_s, bnd, if_pos gg, if_neg (by decide), if_pos (h8.mpr c)]
    · obtain ⟨⟨r, σ1⟩, hc, τ1, hm, fT, fB, d⟩ := L_line hN hT hb rt lt fg
      rw [hs] at d
      dsimp only at fT d
      have ec : rlF N (loopS2 (rlF N) f) 1 (s : Int) σ = loopS2 (rlF N) f r ((s : Int) + 1) σ1 := by
        unfold rlF
        rw [bnd, if_neg (by omega), if_neg (by decide), if_neg (by omega), cLn_eq, hc, bndR_s]
        unfold chkI
        rw [if_pos (by omega)]
      have em : twF N (loopS0 (twF N) f') τ = loopS0 (twF N) f' τ1 := by
        unfold twF
        rw [mo_isGood_eq, bndO_s, bnd, if_pos gg, if_neg (by decide), if_neg (fun q => c (h8.mp q)), hm, bndO_s]
      rw [ec, em]
      rcases d with ⟨r1, q, mp', mq', md', mw', me', L', f1', f2', f3', rt', lt', fg', hs'⟩ | ⟨r0, rb⟩
      · have := ih f f' q mp' mq' md' mw' me' L' f1' f2' f3' σ1 τ1 (by omega) (by omega) (by omega) rt' lt' fg'
        rw [hs', show (((s + 1 : Nat)) : Int) = (s : Int) + 1 from rfl] at this
        rw [r1]
        obtain ⟨z, σ', τ', a1, a2, a3, a4, a5⟩ := this
        exact ⟨z, σ', τ', a1, a2, FrT_tr fT a3, FrB_tr fB a4, a5⟩
      · obtain ⟨f, rfl⟩ : ∃ z, f = z + 1 := ⟨f - 1, by omega⟩
        obtain ⟨f', rfl⟩ : ∃ z, f' = z + 1 := ⟨f' - 1, by omega⟩
        refine ⟨0, σ1, τ1, ?_, ?_, fT, fB, Or.inr ⟨rfl, rb⟩⟩
        · show rlF N (loopS2 (rlF N) f) r ((s : Int) + 1) σ1 = _
          unfold rlF
          rw [r0, bnd, if_neg (by omega), if_pos rfl]
        · show twF N (loopS0 (twF N) f') τ1 = _
          unfold twF
          rw [mo_isGood_eq, bndO_s, bnd, if_neg rb.2.2.2, if_pos rfl]
