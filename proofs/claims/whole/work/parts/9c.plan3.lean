/-! a told plan read: the loops, and the call -/
theorem cnt_upd {f g : Nat → Int} {c : Nat} {p : Int} (h1 : f c ≠ p) (h2 : g c = p) (h3 : ∀ j, j ≠ c → g j = f j) : ∀ m : Nat, c < m → cnt g m p = cnt f m p + 1
  | 0, h => absurd h (Nat.not_lt_zero c)
  | m + 1, h => by
    show cnt g m p + (if g m = p then 1 else 0) = cnt f m p + (if f m = p then 1 else 0) + 1
    by_cases e : c = m
    · subst e
      rw [if_pos h2, if_neg h1, cnt_congr c p (fun k hk => h3 k (by omega))]
      omega
    · rw [cnt_upd h1 h2 h3 m (by omega), h3 m (fun w => e w.symm)]
      omega
def eqN3 (τ' τ : ySt) : Prop := (∀ i, i ≠ 92 → i ≠ 136 → i ≠ 137 → τ' i = τ i) ∧ ∀ k, (k < 4 ∨ 10 < k) → τ' 92 k = τ 92 k
theorem eqN3_tr {τ τ' τ'' : ySt} (h : eqN3 τ' τ) (g : eqN3 τ'' τ') : eqN3 τ'' τ := ⟨fun i a b c => (g.1 i a b c).trans (h.1 i a b c), fun k a => (g.2 k a).trans (h.2 k a)⟩
theorem eqN3_of {τ τ' : ySt} (h : eqN τ' τ) : eqN3 τ' τ := ⟨h.1, h.2.2⟩
/-- what the reading of a plan comes to -/
def RZ (σ τ : ySt) (P mp mq : Nat) (hm : Nat → Int) (A D : Int × ySt) : Prop := D.1 = A.1 ∧ eqP P A.2 σ ∧ eqN3 D.2 τ ∧ A.2 1 6 = D.2 92 4 ∧ A.2 1 7 = D.2 92 5 ∧ ((0 ≤ A.1 ∧ (∀ n, n < mq → A.2 (P + 1) n = hm n) ∧ ∀ n s, n < mq → 1 ≤ s → s ≤ 8 → D.2 136 (8 * n + (s - 1)) = A.2 (P + 1) (5 * s + n) ∧ 0 ≤ A.2 (P + 1) (5 * s + n) ∧ A.2 (P + 1) (5 * s + n) < mp) ∨ (A.1 = -1 ∧ ∀ j, j < 40 → D.2 136 j = τ 136 j))
theorem pl_loop {N n T P b mp mq S : Nat} {t hm : Nat → Int} (hN : 100000 ≤ N) (hT : T = 13 ∨ T = 33) (hP : P = 54 ∨ P = 56) (hb : b < 2) (hmp : mp ≤ 6) (hmq : mq ≤ 5) (hS : 1 ≤ S ∧ S ≤ 8) : ∀ (k x f f' B p : Nat) (σ τ : ySt), x + k = 7 → k + 2 ≤ f → k + 2 ≤ f' → cnt (τ 137) mq 1 = x → RT σ τ t n p → SP σ τ T P b mp mq S B hm →
    Ok (loopS2 (clF N P T) f B x σ) (fun A => Ok (loopS1 (mlG N) f' x τ) (fun D => RZ σ τ P mp mq hm A D)) := by
  intro k
  induction k with
  | zero =>
    intro x f f' B p σ τ h1 h2 h3 h4
    have := cnt_rg (τ 137) mq 1
    omega
  | succ k ih =>
    intro x f f' B p σ τ hk hf hf' hcn rt sp
    obtain ⟨f, rfl⟩ : ∃ z, f = z + 1 := ⟨f - 1, by omega⟩
    obtain ⟨f', rfl⟩ : ∃ z, f' = z + 1 := ⟨f' - 1, by omega⟩
    have hk3 : σ 1 3 = tkK t n p := rt.1.2.2.2.2.2.2.1
    have h8 := (TM_tok rt.2.1).1
    have gg : τ 92 4 = 0 := rt.2.2.2.1
    obtain ⟨nrp, nrq, c95, c97, h40, h41, hS1, hS2, pn, hB, hbits⟩ := id sp
    show Ok (clF N P T (loopS2 (clF N P T) f) B x σ) (fun A => Ok (mlG N (loopS1 (mlG N) f') x τ) (fun D => RZ σ τ P mp mq hm A D))
    unfold mlG
    rw [mo_isGood_eq, bndO_s, bnd, if_pos gg, if_neg (by decide)]
    by_cases c : tkK t n p = 0
    · rw [if_pos (h8.mpr c)]
      unfold clF
      rw [if_neg (by omega), if_pos (by rw [hk3]; exact c), Ok_some]
      unfold mlE
      rw [mo_isGood_eq, bndO_s, if_pos gg, if_pos (by decide)]
      refine Ok_loopS2 (fun y z ν => y = (x : Int) ∧ ∃ j : Nat, z = j ∧ j ≤ 40 ∧ (∀ i, i ≠ 136 → ν i = τ i) ∧ ∀ m, ν 136 m = if m < j then τ 136 (40 + m) else τ 136 m) (fun _ z _ => (40 - z.toNat : Nat)) ?_ N _ _ _ ⟨rfl, 0, rfl, by omega, fun _ _ => rfl, fun m => by rw [if_neg (Nat.not_lt_zero m)]⟩ (by omega)
      rintro g y z ν ⟨rfl, j, rfl, hj, j1, j2⟩ rec
      rw [Ok_ite, Ok_some]
      refine ⟨fun q => ?_, fun q => ?_⟩
      · unfold RZ
        dsimp only
        refine ⟨rfl, eqP_rfl P σ, ⟨fun i _ x2 _ => j1 i x2, fun k _ => by rw [j1 92 (by decide)]⟩, ?_, ?_, Or.inl ⟨by omega, pn.1, fun n' s hn' s1 s2 => ?_⟩⟩
        · rw [j1 92 (by decide), rt.2.2.1.1, gg]
        · rw [j1 92 (by decide), rt.2.2.1.2, rt.2.2.2.2]
        · have := pn.2 n' s hn' s1 s2
          rw [j2, if_pos (by omega), show 40 + (8 * n' + (s - 1)) = 40 + 8 * n' + (s - 1) by omega, ← this.1]
          exact ⟨rfl, this.2⟩
      · have ix : (40 + (j : Int)).toNat = 40 + j := by omega
        rw [Ok_chkI, Ok_chkA, Ok_chkA, ix, Int.toNat_natCast, Ok_bnd, Ok_chkI]
        refine ⟨by omega, by omega, by omega, by omega, rec _ _ _ ⟨rfl, j + 1, by omega, by omega, fun i hi => by rw [yset_off i hi]; exact j1 i hi, fun m => ?_⟩ (by omega)⟩
        by_cases cm : m = j
        · rw [cm, yset_at, if_pos (by omega), j2, if_neg (by omega)]
        · rw [yset_ne (by omega), j2 m]
          by_cases c2 : m < j
          · rw [if_pos c2, if_pos (by omega)]
          · rw [if_neg c2, if_neg (by omega)]
    · rw [if_neg (fun w => c (h8.mp w))]
      refine L_pline hN hT hP hb hmp hmq hS (by omega) rt sp c (fun c σ' τ' q hc h0 rt' eP eN pn' e137 => ?_) (fun σ' τ' rb eP eN => ?_)
      · have sp' : SP σ' τ' T P b mp mq S (B ||| 2 ^ c) hm := by
          have hsh := shl_0 c (by omega)
          refine ⟨NR_eq nrp (eP _ (by omega) (by omega)) (eP _ (by omega) (by omega)) (eN.1 107 (by decide) (by decide) (by decide)), NR_eq nrq (eP _ (by omega) (by omega)) (eP _ (by omega) (by omega)) (eN.1 108 (by decide) (by decide) (by decide)), by rw [eN.1 95 (by decide) (by decide) (by decide)]; exact c95, by rw [eN.1 97 (by decide) (by decide) (by decide)]; exact c97, by rw [eN.2.2 40 (by omega)]; exact h40, by rw [eN.2.2 41 (by omega)]; exact h41, by rw [eP T (by omega) (by omega)]; exact hS1, by rw [eN.1 101 (by decide) (by decide) (by decide)]; exact hS2, pn', Nat.or_lt_two_pow (n := 5) hB hsh.2, fun d hd => ?_⟩
          rw [e137, Nat.testBit_or, Nat.testBit_two_pow]
          by_cases cd : d = c
          · rw [if_pos cd]
            exact Or.inr ⟨rfl, by simp [cd]⟩
          · rw [if_neg cd]
            have hcd : ¬ c = d := fun w => cd w.symm
            rcases hbits d hd with ⟨z1, z2⟩ | ⟨z1, z2⟩
            · exact Or.inl ⟨z1, by simp [z2, hcd]⟩
            · exact Or.inr ⟨z1, by simp [z2]⟩
        have := ih (x + 1) f f' (B ||| 2 ^ c) q σ' τ' (by omega) (by omega) (by omega) (by rw [cnt_upd (f := τ 137) (c := c) (by rw [h0]; decide) (by rw [e137, if_pos rfl]) (fun j hj => by rw [e137, if_neg hj]) mq hc, hcn]; rfl) rt' sp'
        rw [show ((x + 1 : Nat) : Int) = (x : Int) + 1 from rfl] at this
        refine this.mono ?_
        rintro A hA
        refine hA.mono ?_
        rintro D ⟨d1, d2, d3, d4, d5, d6⟩
        refine ⟨d1, eqP_tr eP d2, eqN3_tr (eqN3_of eN) d3, d4, d5, ?_⟩
        rcases d6 with w | ⟨w1, w2⟩
        · exact Or.inl w
        · exact Or.inr ⟨w1, fun j hj => (w2 j hj).trans (eN.2.1 j hj)⟩
      · obtain ⟨f', rfl⟩ : ∃ z, f' = z + 1 := ⟨f' - 1, by omega⟩
        show Ok (mlG N (loopS1 (mlG N) f') ((x : Int) + 1) τ') _
        unfold mlG mlE
        rw [mo_isGood_eq, bndO_s, bnd, if_neg rb.2.2.2, if_pos rfl, bndO_s, if_neg (fun w => w rfl), Ok_some]
        exact ⟨rfl, eP, eqN3_of eN, rb.2.1, rb.2.2.1, Or.inr ⟨rfl, eN.2.1⟩⟩
/-- a plan and the next one -/
def P2 (P Q : Nat) : Prop := (P = 54 ∧ Q = 56) ∨ (P = 56 ∧ Q = 54)
theorem C_plan {N T b mp mq md mw me L P Q n : Nat} {W : Nat → Int} {σ τ : ySt} (hN : 100000 ≤ N) (h : TD σ τ T b mp mq md mw me L W) (fd : FD σ τ n) (hp : PL σ τ T P mp mq) (hPQ : P2 P Q) (h09 : σ 0 9 = (Q : Int) + 1) (hft : σ 1 6 = τ 92 4 ∧ σ 1 7 = τ 92 5) :
    Ok (cE_plan N σ) (fun r => Ok (mo_plan N τ) (fun r' => r'.1 = r.1 ∧ (∀ i, i ≠ 0 → i ≠ 1 → i ≠ Q + 1 → r.2 i = σ i) ∧ (∀ k, k ≠ 8 → k ≠ 9 → r.2 0 k = σ 0 k) ∧ (∀ i, i ≠ 92 → i ≠ 94 → i ≠ 136 → i ≠ 137 → r'.2 i = τ i) ∧ (∀ k, (k < 2 ∨ 10 < k) → k ≠ 41 → r'.2 92 k = τ 92 k) ∧ (∃ n', FD r.2 r'.2 n') ∧ (r.2 1 6 = r'.2 92 4 ∧ r.2 1 7 = r'.2 92 5) ∧ ∃ P' Q' : Nat, P2 P' Q' ∧ PL r.2 r'.2 T P' mp mq ∧ r.2 0 9 = (Q' : Int) + 1)) := by
  obtain ⟨hT, h05, h40, hb, g1, g2, g3, ⟨w1, w2, w3⟩, wn, ft, g5, g6, g7, g8, g9, ru, hru, huu⟩ := id h
  obtain ⟨t1, t2, t3, t4, t5, t6⟩ := id fd
  have hmp := g1.2.1
  have hmq := g2.2.1
  have hQ : Q = 54 ∨ Q = 56 := by
    rcases hPQ with ⟨_, e⟩ | ⟨_, e⟩ <;> omega
  have hPQ' : P2 Q P := by
    rcases hPQ with ⟨e1, e2⟩ | ⟨e1, e2⟩
    · exact Or.inr ⟨e2, e1⟩
    · exact Or.inl ⟨e2, e1⟩
  have hne : P ≠ Q ∧ P ≠ Q + 1 ∧ P + 1 ≠ Q + 1 := by
    rcases hPQ with ⟨e1, e2⟩ | ⟨e1, e2⟩ <;> omega
  obtain ⟨S, hS⟩ : ∃ S : Nat, σ T 17 = S := ⟨(σ T 17).toNat, by have := g6.2; omega⟩
  have hS8 : 1 ≤ S ∧ S ≤ 8 := by
    have := g6.2
    omega
  have hS2 : τ 101 b = S := by rw [← g6.2.1]; exact hS
  unfold cE_plan
  rw [mo_plan_eq, t1, t2]
  by_cases c4 : (n : Int) ≤ 400
  · rw [if_pos c4, if_pos c4, chkP_pos hQ h09, chkT_pos hT h05, cPl_readFrom_eq, chk_pos hQ, chk_pos hT]
    -- the class begins
    have hc : Ok (bndO (cPl_stayHome N Q T σ) fun σ4 => cTp_begin N σ4) (fun σ6 => TC σ6 (σ 2) n 0 ∧ FC σ6 0 (-1) ∧ eqP Q σ6 σ ∧ ∀ s m, s ≤ 8 → m < mq → σ6 (Q + 1) (5 * s + m) = σ (T + 8) m) := by
      rw [Ok_bndO]
      refine (cPl_stayHome_ok hN hQ hT g2.1.1 hmq).mono ?_
      rintro ρ ⟨p1, p2⟩
      unfold cTp_begin
      rw [Ok_bnd, Ok_bnd, Ok_bnd, Ok_bndO]
      have u1 : yset (yset (yset ρ 1 6 0) 1 7 (-1)) 1 8 0 2 = σ 2 := by rw [yset_off 2 (by omega), yset_off 2 (by omega), yset_off 2 (by omega), p1 2 (by omega)]
      have u2 : yset (yset (yset ρ 1 6 0) 1 7 (-1)) 1 8 0 1 1 = n := by rw [yset_ne (by omega), yset_ne (by omega), yset_ne (by omega), p1 1 (by omega)]; exact t1
      have u3 : yset (yset (yset ρ 1 6 0) 1 7 (-1)) 1 8 0 1 8 = ((0 : Nat) : Int) := yset_at
      refine (TC_first hN t3 (Nat.zero_le n) t4 u1 u2 u3).mono ?_
      rintro σ16 ⟨s, k, w, v, e, rfl, tc⟩
      rw [Ok_some]
      have so : ∀ i, i ≠ 1 → tkS (yset (yset (yset ρ 1 6 0) 1 7 (-1)) 1 8 0) s k w v e i = ρ i := fun i hi => by rw [tkS_ne hi, yset_off i hi, yset_off i hi, yset_off i hi]
      exact ⟨tc, ⟨by rw [tkS_6, yset_ne (by omega), yset_ne (by omega), yset_at], by rw [tkS_7, yset_ne (by omega), yset_at]⟩, fun i x1 x2 => by rw [so i x1, p1 i x2], fun s' m hs' hm => by rw [so _ (by omega)]; exact p2 s' m hs' hm⟩
    -- the reference begins
    have hm : Ok (bndO (mo_takeTape N τ) fun σ3 => bnd (yset σ3 92 41 (σ3 92 40)) fun σ4 => bndO (mo_stayHome N 40 σ4) fun σ7 => loopS1 (fun k10 x8 σ9 => if x8 ≥ 5 then mo_goOn N σ9 else chkA 5 x8 <| bnd (yset σ9 137 (x8).toNat 0) fun σ44 => chkI (x8 + 1) <| k10 (x8 + 1) σ44) N 0 σ7) (fun τ9 => TM τ9 (σ 2) n 0 ∧ FM τ9 0 (-1) ∧ (∀ i, i ≠ 92 → i ≠ 94 → i ≠ 136 → i ≠ 137 → τ9 i = τ i) ∧ (∀ j, j < 40 → τ9 136 j = τ 136 j) ∧ (∀ k, (k < 2 ∨ 10 < k) → k ≠ 41 → τ9 92 k = τ 92 k) ∧ τ9 92 2 = 0 ∧ τ9 92 41 = b ∧ (∀ m s, m < 5 → s < 8 → τ9 136 (40 + 8 * m + s) = if m < mq then τ 111 (5 * b + m) else 0) ∧ ∀ m, m < 5 → τ9 137 m = 0) := by
      rw [Ok_bndO]
      refine (mo_takeTape_ok hN t3 t2 t5).mono ?_
      rintro τ2 ⟨a1, a2, a3, a4, a5, a6, a7, a8, a9⟩
      rw [Ok_bnd, Ok_bndO]
      have e40 : τ2 92 40 = b := by rw [a9 40 (by omega) (by omega) (by omega) (by omega) (by omega)]; exact h40
      have key := mo_stayHome_ok (a := 40) (b := b) (mq := mq) (τ := yset τ2 92 41 (τ2 92 40)) hN (Or.inr rfl) (by rw [yset_ne (by omega)]; exact e40) hb (by rw [yset_off 97 (by decide), a1 97 (by decide) (by decide)]; exact g2.2.2) hmq
      rw [show ((40 : Nat) : Int) = 40 from rfl] at key
      refine key.mono ?_
      rintro τ3 ⟨b1, b2, b3⟩
      refine Ok_loopS1 (fun y ν => ∃ k : Nat, y = k ∧ k ≤ 5 ∧ (∀ i, i ≠ 137 → ν i = τ3 i) ∧ ∀ m, m < k → ν 137 m = 0) (fun y _ => (5 - y.toNat : Nat)) ?_ N _ _ ⟨0, rfl, by omega, fun _ _ => rfl, fun m hm => absurd hm (Nat.not_lt_zero m)⟩ (by omega)
      rintro g y ν ⟨k, rfl, hk, i1, i2⟩ rec
      rw [Ok_ite]
      refine ⟨fun q => ?_, fun q => ?_⟩
      · have e92 : ν 92 = yset τ2 92 41 (τ2 92 40) 92 := by rw [i1 92 (by decide), b1 92 (by decide)]
        have z : ∀ k, k ≠ 41 → ν 92 k = τ2 92 k := fun k hk => by rw [e92, yset_ne (by omega)]
        have e94 : ν 94 = τ2 94 := by rw [i1 94 (by decide), b1 94 (by decide), yset_off 94 (by decide)]
        refine (TM_first (p := 0) (t := σ 2) hN t3 (Nat.zero_le n) t4 (by rw [e94]; exact a3) (fun j hj => by rw [e94, a2 j hj, t6 j hj]) (by rw [z 3 (by omega)]; exact a5) (by rw [z 7 (by omega)]; exact a8)).mono ?_
        rintro τ9 ⟨s, e, k, v, w, rfl, tm⟩
        have om := @offM_tk ν s e k v w
        refine ⟨tm, ⟨by rw [tmS_4, z 4 (by omega)]; exact a6, by rw [tmS_5, z 5 (by omega)]; exact a7⟩, fun i x1 x2 x3 x4 => by rw [om.1 i x1, i1 i x4, b1 i x3, yset_off i x1, a1 i x1 x2], fun j hj => by rw [om.1 136 (by decide), i1 136 (by decide), b3 j (Or.inl hj), yset_off 136 (by decide), a1 136 (by decide) (by decide)], fun k x1 x2 => by rw [om.2 k (by omega), z k x2, a9 k (by omega) (by omega) (by omega) (by omega) (by omega)], by rw [om.2 2 (by omega), z 2 (by omega)]; exact a4, by rw [om.2 41 (by omega), e92, yset_at]; exact e40, fun m s' hm' hs' => ?_, fun m hm' => by rw [om.1 137 (by decide)]; exact i2 m (by omega)⟩
        rw [om.1 136 (by decide), i1 136 (by decide), b2 m s' hm' hs', yset_off 111 (by decide), a1 111 (by decide) (by decide)]
      · rw [Ok_chkA, Int.toNat_natCast, Ok_bnd, Ok_chkI]
        refine ⟨by omega, by omega, rec _ _ ⟨k + 1, by omega, by omega, fun i hi => by rw [yset_off i hi]; exact i1 i hi, fun m hm' => ?_⟩ (by omega)⟩
        by_cases cm : m = k
        · rw [cm, yset_at]
        · rw [yset_ne (by omega)]
          exact i2 m (by omega)
    obtain ⟨σ6, hcq, k1, k2, k3, k4⟩ := hc
    obtain ⟨τ9, hmq', l1, l2, l3, l4, l5, l6, l7, l8, l9⟩ := hm
    have ec : (bndO (cPl_stayHome N Q T σ) fun σ4 => bndO (cTp_begin N σ4) fun σ6 => loopS2 (clF N Q T) N 0 0 σ6) = loopS2 (clF N Q T) N 0 0 σ6 := by
      rw [show (bndO (cPl_stayHome N Q T σ) fun σ4 => bndO (cTp_begin N σ4) fun σ6 => loopS2 (clF N Q T) N 0 0 σ6) = bndO (bndO (cPl_stayHome N Q T σ) fun σ4 => cTp_begin N σ4) fun σ6 => loopS2 (clF N Q T) N 0 0 σ6 from bndO_bndO.symm, hcq, bndO_s]
    have push : ∀ (x : Option ySt) (f : Nat), x = some τ9 → True := fun _ _ _ => trivial
    have lp : ∀ (f : Nat) (y : Int) (ν : ySt), loopS1 (fun k10 x8 σ9 => if x8 ≥ 5 then bndO (mo_goOn N σ9) fun σ13 => loopS1 (mlG N) N 0 σ13 else chkA 5 x8 <| bnd (yset σ9 137 (x8).toNat 0) fun σ44 => chkI (x8 + 1) <| k10 (x8 + 1) σ44) f y ν = bndO (loopS1 (fun k10 x8 σ9 => if x8 ≥ 5 then mo_goOn N σ9 else chkA 5 x8 <| bnd (yset σ9 137 (x8).toNat 0) fun σ44 => chkI (x8 + 1) <| k10 (x8 + 1) σ44) f y ν) fun σ13 => loopS1 (mlG N) N 0 σ13 := by
      intro f
      induction f with
      | zero => intro y ν; rfl
      | succ f ih =>
        intro y ν
        show (if y ≥ 5 then bndO (mo_goOn N ν) fun σ13 => loopS1 (mlG N) N 0 σ13 else chkA 5 y <| bnd (yset ν 137 (y).toNat 0) fun σ44 => chkI (y + 1) <| loopS1 _ f (y + 1) σ44) = bndO (if y ≥ 5 then mo_goOn N ν else chkA 5 y <| bnd (yset ν 137 (y).toNat 0) fun σ44 => chkI (y + 1) <| loopS1 _ f (y + 1) σ44) fun σ13 => loopS1 (mlG N) N 0 σ13
        by_cases q : y ≥ 5
        · rw [if_pos q, if_pos q]
        · rw [if_neg q, if_neg q]
          unfold chkA
          by_cases q2 : 0 ≤ y ∧ y < ((5 : Nat) : Int)
          · rw [if_pos q2, if_pos q2, bnd, bnd]
            unfold chkI
            by_cases q3 : -2147483648 ≤ y + 1 ∧ y + 1 < 2147483648
            · rw [if_pos q3, if_pos q3]
              exact ih _ _
            · rw [if_neg q3, if_neg q3]
              rfl
          · rw [if_neg q2, if_neg q2]
            rfl
    have em : (bndO (mo_takeTape N τ) fun σ3 => bnd (yset σ3 92 41 (σ3 92 40)) fun σ4 => bndO (mo_stayHome N 40 σ4) fun σ7 => loopS1 (fun k10 x8 σ9 => if x8 ≥ 5 then bndO (mo_goOn N σ9) fun σ13 => loopS1 (mlG N) N 0 σ13 else chkA 5 x8 <| bnd (yset σ9 137 (x8).toNat 0) fun σ44 => chkI (x8 + 1) <| k10 (x8 + 1) σ44) N 0 σ7) = loopS1 (mlG N) N 0 τ9 := by
      simp only [lp]
      have : ∀ (x : Option ySt) (f : ySt → Option (Int × ySt)), x = some τ9 → bndO x f = f τ9 := fun x f e => by rw [e, bndO_s]
      refine Eq.trans ?_ (this _ (fun σ => loopS1 (mlG N) N 0 σ) hmq')
      cases mo_takeTape N τ with
      | none => rfl
      | some a =>
        simp only [bndO_s, bnd]
        cases mo_stayHome N 40 (yset a 92 41 (a 92 40)) <;> rfl
    rw [ec, em]
    have h8 : ∀ m, m < mq → τ 111 (5 * b + m) = σ (T + 8) m ∧ 0 ≤ σ (T + 8) m ∧ σ (T + 8) m < mp := fun m hm => ⟨(g8 m hm).1.1.symm, (g8 m hm).1.2⟩
    have sp : SP σ6 τ9 T Q b mp mq S 0 (σ (T + 8)) := by
      refine ⟨NR_eq g1.1 (k3 _ (by omega) (by omega)) (k3 _ (by omega) (by omega)) (l3 107 (by decide) (by decide) (by decide) (by decide)), NR_eq g2.1 (k3 _ (by omega) (by omega)) (k3 _ (by omega) (by omega)) (l3 108 (by decide) (by decide) (by decide) (by decide)), by rw [l3 95 (by decide) (by decide) (by decide) (by decide)]; exact g1.2.2, by rw [l3 97 (by decide) (by decide) (by decide) (by decide)]; exact g2.2.2, by rw [l5 40 (by omega) (by omega)]; exact h40, l7, by rw [k3 T (by omega) (by omega)]; exact hS, by rw [l3 101 (by decide) (by decide) (by decide) (by decide)]; exact hS2, ⟨fun m hm => by have := k4 0 m (by omega) hm; rw [show 5 * 0 + m = m by omega] at this; exact this, fun m s hm s1 s2 => ?_⟩, by omega, fun c hc => Or.inl ⟨l9 c (by omega), Nat.zero_testBit c⟩⟩
      rw [k4 s m s2 hm, l8 m (s - 1) (by omega) (by omega), if_pos hm, (h8 m hm).1]
      exact ⟨rfl, (h8 m hm).2⟩
    have c0 : cnt (τ9 137) mq 1 = ((0 : Nat) : Int) := by
      have : ∀ m : Nat, m ≤ 5 → cnt (τ9 137) m 1 = 0 := by
        intro m
        induction m with
        | zero => intro _; rfl
        | succ m ih =>
          intro hm
          show cnt (τ9 137) m 1 + (if τ9 137 m = 1 then 1 else 0) = 0
          rw [ih (by omega), l9 m (by omega), if_neg (by decide)]
          rfl
      exact this mq hmq
    have main := pl_loop hN hT hQ hb hmp hmq hS8 7 0 N N 0 0 σ6 τ9 rfl (by omega) (by omega) c0 ⟨k1, l1, k2, l2⟩ sp
    rw [show ((0 : Nat) : Int) = 0 from rfl] at main
    rw [Ok_bndR]
    refine main.mono ?_
    rintro ⟨r, σa⟩ hA
    rw [Ok_swap]
    refine hA.mono ?_
    rintro ⟨r', τa⟩ ⟨d1, d2, d3, d4, d5, d6⟩
    dsimp only at d1 d2 d3 d4 d5 d6 ⊢
    have eA : ∀ i, i ≠ 1 → i ≠ Q + 1 → σa i = σ i := fun i x1 x2 => (d2 i x1 x2).trans (k3 i x1 x2)
    have eT : ∀ i, i ≠ 92 → i ≠ 94 → i ≠ 136 → i ≠ 137 → τa i = τ i := fun i x1 x2 x3 x4 => (d3.1 i x1 x3 x4).trans (l3 i x1 x2 x3 x4)
    have e92 : ∀ k, (k < 2 ∨ 10 < k) → k ≠ 41 → τa 92 k = τ 92 k := fun k x1 x2 => (d3.2 k (by omega)).trans (l5 k x1 x2)
    have fd' : ∀ σb : ySt, (∀ i, i ≠ 0 → i ≠ 1 → σb i = σa i) → σb 1 1 = 0 → FD σb τa 0 := fun σb x1 x2 => ⟨x2, by rw [d3.2 2 (by omega)]; exact l6, by omega, by rw [x1 2 (by decide) (by decide), eA 2 (by decide) (by omega)]; exact t4, by rw [d3.1 94 (by decide) (by decide) (by decide)]; exact l1.2.2.2.1, fun j hj => absurd hj (Nat.not_lt_zero j)⟩
    rw [Ok_bnd, Ok_ite]
    refine ⟨fun c => ?_, fun c => ?_⟩
    · rw [chkP_pos (P := P) hp.1.1 (by rw [yset_off 0 (by decide), eA 0 (by decide) (by omega)]; exact hp.2.1), chkP_pos hQ (by rw [yset_off 0 (by decide), eA 0 (by decide) (by omega)]; exact h09), Ok_bnd, Ok_bnd, Ok_some]
      generalize hσb : yset (yset (yset σa 1 1 0) 0 8 ((Q : Nat) + 1 : Int)) 0 9 ((P : Nat) + 1 : Int) = σb
      have b1 : ∀ i, i ≠ 0 → i ≠ 1 → σb i = σa i := fun i x1 x2 => by rw [← hσb, yset_off i x1, yset_off i x1, yset_off i x2]
      have b08 : σb 0 8 = (Q : Int) + 1 := by rw [← hσb, yset_ne (by omega), yset_at]
      have b09 : σb 0 9 = (P : Int) + 1 := by rw [← hσb, yset_at]
      have b0 : ∀ k, k ≠ 8 → k ≠ 9 → σb 0 k = σ 0 k := fun k x1 x2 => by rw [← hσb, yset_ne (by omega), yset_ne (by omega), yset_off 0 (by decide), eA 0 (by decide) (by omega)]
      have b11 : σb 1 1 = 0 := by rw [← hσb, yset_off 1 (by decide), yset_off 1 (by decide), yset_at]
      have b1k : ∀ k, k ≠ 1 → σb 1 k = σa 1 k := fun k hk => by rw [← hσb, yset_off 1 (by decide), yset_off 1 (by decide), yset_ne (by omega)]
      rcases d6 with ⟨m0, m1, m2⟩ | ⟨m0, _⟩
      · have eQ : σb (Q + 1) = σa (Q + 1) := b1 _ (by omega) (by omega)
        dsimp only
        refine ⟨d1, fun i x1 x2 x3 => by rw [b1 i x1 x2, eA i x2 x3], b0, eT, e92, ⟨0, fd' σb b1 b11⟩, ⟨by rw [b1k 6 (by decide)]; exact d4, by rw [b1k 7 (by decide)]; exact d5⟩, Q, P, hPQ', ⟨⟨hQ, fun s m hs hm => ?_⟩, b08, fun m hm => ?_, fun s m s1 s2 hm => ?_⟩, b09⟩
        · unfold pv
          rw [eQ]
          by_cases c0 : s = 0
          · rw [c0, show 5 * 0 + m = m by omega, m1 m hm]
            have := h8 m hm
            omega
          · have := (m2 m s hm (by omega) hs).2
            omega
        · rw [eQ, m1 m hm, b1 (T + 8) (by omega) (by omega), eA (T + 8) (by omega) (by omega)]
        · rw [eQ, (m2 m s hm s1 s2).1]
      · exact absurd m0 c
    · have c' : r = -1 := Classical.byContradiction c
      rcases d6 with ⟨m0, _⟩ | ⟨_, m1⟩
      · omega
      · rw [Ok_some]
        have b1 : ∀ i, i ≠ 0 → i ≠ 1 → yset σa 1 1 0 i = σa i := fun i x1 x2 => yset_off i x2
        have b0 : yset σa 1 1 0 0 = σ 0 := by rw [yset_off 0 (by decide), eA 0 (by decide) (by omega)]
        dsimp only
        refine ⟨by rw [d1, c'], fun i x1 x2 x3 => by rw [yset_off i x2, eA i x2 x3], fun k _ _ => by rw [b0], eT, e92, ⟨0, fd' _ b1 yset_at⟩, ⟨by rw [yset_ne (by omega)]; exact d4, by rw [yset_ne (by omega)]; exact d5⟩, P, Q, hPQ, ?_, by rw [b0]; exact h09⟩
        obtain ⟨p1, p2, p3, p4⟩ := hp
        have hP1 : P = 54 ∨ P = 56 := p1.1
        have eP1 : yset σa 1 1 0 (P + 1) = σ (P + 1) := by rw [yset_off _ (by omega), eA _ (by omega) (by omega)]
        refine ⟨PC_of p1 eP1, by rw [b0]; exact p2, fun m hm => by rw [eP1, yset_off _ (by omega), eA (T + 8) (by omega) (by omega)]; exact p3 m hm, fun s m s1 s2 hm => ?_⟩
        rw [eP1, m1 _ (by omega), l4 _ (by omega)]
        exact p4 s m s1 s2 hm
  · rw [if_neg c4, if_neg c4, Ok_some, Ok_some]
    exact ⟨rfl, fun _ _ _ _ => rfl, fun _ _ _ => rfl, fun _ _ _ _ _ => rfl, fun _ _ _ => rfl, ⟨n, fd⟩, hft, P, Q, hPQ, hp, h09⟩
