/-! count, and all calls over one store -/
theorem count_c {T b mp mq md mw me L nc : Nat} {W : Nat → Int} {σ τ : ySt} (h : TD σ τ T b mp mq md mw me L W) (ct : CTr σ τ nc mp) (s p m : Int) : Ok (cE_count s p m σ) (fun r => r.2 = σ ∨ (r.2 3 5 = (nc : Int) + 1 ∧ ∀ c, c < nc → r.2 4 c = σ 4 c ∧ r.2 5 c = σ 5 c ∧ r.2 6 c = σ 6 c)) := by
  obtain ⟨hT, h05, h40, hb, g1, g2, _⟩ := id h
  have n10 : ¬ (1 : Int) = 0 := by decide
  unfold cE_count
  rw [cE_isStroke_eq, bndO_s]
  by_cases cs : 1 ≤ s ∧ s ≤ 8
  · rw [if_pos cs, if_neg n10, chkT_pos hT h05, hasPlace_ok hT g1.1.1, bndO_s]
    by_cases cp : 0 ≤ p ∧ p < mp
    · rw [if_pos cp, if_neg n10, Ok_ite, Ok_some]
      refine ⟨fun _ => Or.inl rfl, fun _ => ?_⟩
      rw [Ok_ite, Ok_some]
      refine ⟨fun _ => ?_, fun _ => Or.inl rfl⟩
      by_cases c40 : nc < 40
      · rw [tell_ok ct.1 c40, bndR_s, Ok_some]
        dsimp only
        refine Or.inr ⟨yset_at, fun c hc => ?_⟩
        have o1 : ∀ i, i ≠ 3 → yset (yset (yset (yset (yset (yset σ 4 nc s) 5 nc p) 6 nc m) 7 nc (σ 3 6)) 8 nc (-1)) 3 5 ((nc : Int) + 1) i c = σ i c := fun i hi => by rw [yset_ne (by omega), yset_ne (by omega), yset_ne (by omega), yset_ne (by omega), yset_ne (by omega), yset_ne (by omega)]
        exact ⟨o1 4 (by decide), o1 5 (by decide), o1 6 (by decide)⟩
      · have e1 : cCt_tell s p m σ = some (-1, σ) := by
          unfold cCt_tell
          rw [ct.1, if_neg (by omega)]
        rw [e1, bndR_s, Ok_some]
        exact Or.inl rfl
    · rw [if_neg cp, if_pos rfl, Ok_some]
      exact Or.inl rfl
  · rw [if_neg cs, if_pos rfl, Ok_some]
    exact Or.inl rfl
theorem A_count {σ τ : ySt} (h : INV σ τ) (s p m : Int) : Ok (cE_count s p m σ) (fun r => Ok (mo_count s p m τ) (fun r' => BO σ τ r r')) := by
  obtain ⟨T, b, P, Q, mp, mq, md, mw, me, L, S, hr, nc, n, W, iv, al⟩ := h
  obtain ⟨hT, hb, hP, hQ, _, hmq⟩ := IV_T iv
  obtain ⟨⟨td0, _⟩, _, _, _, _, ea, bx, ct, fd, hf⟩ := id iv
  obtain ⟨rc, hrc, cc⟩ := count_c td0 ct s p m
  obtain ⟨r, hr1, hr'⟩ := C_count td0 ct s p m
  have er : rc = r := Option.some.inj (hrc.symm.trans hr1)
  rw [er] at cc
  refine ⟨r, hr1, hr'.mono ?_⟩
  rintro r' ⟨e1, ⟨e2, _⟩, ⟨f1, f2⟩, nc', e3⟩
  have al' : AL r.2 T L md mp mq S hr nc' := by
    rcases cc with w | ⟨w1, w2⟩
    · have : nc' = nc := by
        have := e3.1
        rw [w, ct.1] at this
        omega
      rw [w, this]
      exact al
    · have hn : nc' = nc + 1 := by
        have := e3.1
        rw [w1] at this
        omega
      have al2 := AL_of al (fun i a1 a2 => e2 i (by omega)) (by rw [e2 58 (by omega)]; exact ⟨rfl, rfl⟩) (e2 77 (by omega)) w2
      intro q
      obtain ⟨A, a1, a2, a3⟩ := al2 q
      have hp2 : 2 ^ (nc + 1) = 2 * 2 ^ nc := by rw [Nat.pow_succ, Nat.mul_comm]
      rw [hn]
      refine ⟨A, a1, by omega, ?_⟩
      have el : lawA r.2 T L md mp mq (nc + 1) A = lawA r.2 T L md mp mq nc A := by
        funext s x
        unfold lawA agB
        show (_ && !(bany _ nc || (Nat.testBit A nc && _))) = _
        rw [Nat.testBit_lt_two_pow a2, Bool.false_and, Bool.or_false]
      unfold VA at a3 ⊢
      rw [el]
      exact a3
  refine ⟨e1, ⟨T, b, P, Q, mp, mq, md, mw, me, L, S, hr, nc', n, W, sub_all iv (fun i x1 x2 _ _ _ _ _ _ _ _ _ => e2 i (by omega)) (e2 0 (by omega)) (fun i x1 x2 => f1 i (by omega) (by omega)) (f2 40 (by decide)) (f1 136 (by omega) (by omega)) (EA_e ea (fun i hi => e2 i (by omega)) (fun i hi => f1 i (by omega) (by omega)) (f2 73 (by decide)) (f2 74 (by decide))) (fun k hk => BX_e hk (bx k hk) (fun i x1 x2 => e2 i (by omega)) (fun i x1 x2 => f1 i (by omega) (by omega))) e3 (FD_e fd (by rw [e2 1 (by omega)]) (e2 2 (by omega)) (f2 2 (by decide)) (f1 93 (by omega) (by omega)) (f1 94 (by omega) (by omega))) (by rw [e2 1 (by omega), f2 4 (by decide), f2 5 (by decide)]; exact hf), al'⟩, fun i hi => e2 i (by omega), fun i hi => f1 i (by omega) (by omega)⟩
/-- one call of both over one store -/
theorem join2 {ρ : ySt} {x : Option (Int × ySt)} {y : ySt → Option (Int × ySt)} (h : INV ρ ρ) (A : ∀ τ, INV ρ τ → Ok x (fun r => Ok (y τ) (fun r' => BO ρ τ r r'))) : ∃ r ρ1 ρ2, x = some (r, ρ1) ∧ y ρ1 = some (r, ρ2) ∧ INV ρ2 ρ2 := by
  obtain ⟨⟨r, ρ1⟩, hx, _, _, _, _, hi, _⟩ := A ρ h
  obtain ⟨⟨r2, ρ3⟩, hx2, ⟨r', ρ2⟩, hy, b1, b2, b3, b4⟩ := A ρ1 (INV_r h hi)
  have e := Option.some.inj (hx2.symm.trans hx)
  injection e with e1 e2
  subst e1
  subst e2
  dsimp only at b1 b2 b4
  subst b1
  exact ⟨_, _, _, hx, hy, INV_l b2 b4⟩
theorem join1 {ρ : ySt} {x : Option Int} {y : ySt → Option (Int × ySt)} (h : INV ρ ρ) (A : Ok x (fun r => Ok (y ρ) (fun r' => BO ρ ρ (r, ρ) r'))) : ∃ r ρ2, x = some r ∧ y ρ = some (r, ρ2) ∧ INV ρ2 ρ2 := by
  obtain ⟨r, hx, ⟨r', ρ2⟩, hy, b1, b2, b3, b4⟩ := A
  dsimp only at b1 b2 b4
  subst b1
  exact ⟨_, _, hx, hy, INV_l b2 b4⟩
