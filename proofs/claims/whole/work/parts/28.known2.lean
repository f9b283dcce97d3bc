/-! a known name, and which one it is -/
theorem L_known2 {N n p o a b m : Nat} {σ τ : ySt} {t : Nat → Int} (hN : 100000 ≤ N) (h : RT σ τ t n p) (hr : NR σ o τ a b m) (ho : o = 14 ∨ o = 16 ∨ o = 18 ∨ o = 34 ∨ o = 36 ∨ o = 38) (hm : m ≤ (yKd (o + 1)).2) (hl : (yKd (o + 1)).2 ≤ 1000) :
    Ok (cTp_passKnown N o σ) (fun r => Ok (mo_told N (nf (fun k => decide (τ 92 8 = 2) && decide (τ a (b + k) = τ 92 10)) m) τ) (fun r' => eqC r.2 σ ∧ eqM r'.2 τ ∧ ((0 ≤ r.1 ∧ r.1 < m ∧ r'.1 = r.1 ∧ r.1 = nf (fun k => decide (τ 92 8 = 2) && decide (τ a (b + k) = τ 92 10)) m ∧ RT r.2 r'.2 t n (tkE t n p)) ∨ (r.1 = -1 ∧ 0 ≤ r'.1 ∧ (r'.1 = 0 ∨ r'.1 < m) ∧ RB r.2 r'.2 t n)))) := by
  obtain ⟨tc, tm, fc, fm⟩ := h
  have h10 : tkK t n p = 3 ∨ 100 ≤ tkK t n p → τ 92 10 = enc8 (tkW t n p) := tm.2.2.2.2.2.2.2.2.2.1
  have same : tkK t n p = 3 → nf (fun k => decide (σ (o + 1) k = enc5 (tkW t n p))) m = nf (fun k => decide (τ 92 8 = 2) && decide (τ a (b + k) = τ 92 10)) m := fun q => NR_find hr (tkW_wd (Or.inl q)).1 ((TM_tok tm).2.2.1.mpr q) (h10 (Or.inl q))
  have none : tkK t n p ≠ 3 → nf (fun k => decide (τ 92 8 = 2) && decide (τ a (b + k) = τ 92 10)) m = -1 := fun q => here_none (fun e => q ((TM_tok tm).2.2.1.mp e))
  have hrg := nf_rg (fun k => decide (τ 92 8 = 2) && decide (τ a (b + k) = τ 92 10)) m
  refine Ok2_of (cTp_passKnown_ok hN tc ho hr.1 hm hl) (mo_told_ok hN tm fm.1 _) ?_
  rintro ⟨r, σ'⟩ ⟨r', τ'⟩ ⟨o1, d1⟩ ⟨o2, e', d2⟩
  dsimp only at *
  refine ⟨o1.1, o2, ?_⟩
  rcases d1 with ⟨k, v, e, tc', f6, f7⟩ | ⟨k, v, e, f⟩ | ⟨k, e, f⟩
  · rw [same k] at v e
    rcases d2 with ⟨_, _, tm', g4, g5⟩ | ⟨_, w, _⟩ | ⟨q, _⟩
    · rw [if_pos v] at e'
      exact Or.inl ⟨by omega, by omega, by omega, e, tc', tm', FC_of fc f6 f7, g4, g5.trans fm.2⟩
    · omega
    · exact absurd k q
  · rw [same k] at v
    rw [if_neg (by omega)] at e'
    rcases d2 with ⟨_, w, _⟩ | ⟨_, _, tm', fm'⟩ | ⟨q, _⟩
    · omega
    · exact Or.inr ⟨e, by omega, Or.inl e', RB_of tm' f fm' (by decide)⟩
    · exact absurd k q
  · rw [none k] at e'
    rw [if_neg (by decide)] at e'
    rcases d2 with ⟨q, _⟩ | ⟨q, _⟩ | ⟨_, tm', fm'⟩
    · exact absurd q k
    · exact absurd q k
    · exact Or.inr ⟨e, by omega, Or.inl e', RB_of tm' f fm' (bdK_0 t n p)⟩
