/-! steps of both sides at once -/
theorem L_RR {β γ : Type} {x y : Option (Int × ySt)} {f : Int → ySt → Option β} {g : Int → ySt → Option γ} (Q : Int × ySt → Int × ySt → Prop) {R : β → γ → Prop} (h : Ok x (fun a => Ok y (fun b => Q a b))) (k : ∀ r σ r' τ, Q (r, σ) (r', τ) → Ok (f r σ) (fun A => Ok (g r' τ) (fun B => R A B))) : Ok (bndR x f) (fun A => Ok (bndR y g) (fun B => R A B)) := by
  rw [Ok_bndR]
  refine h.mono ?_
  rintro ⟨r, σ⟩ h2
  rw [Ok_swap, Ok_bndR]
  refine h2.mono ?_
  rintro ⟨r', τ⟩ h3
  rw [Ok_swap]
  exact k _ _ _ _ h3
theorem L_RO {β γ δ : Type} {x : Option (Int × ySt)} {y : Option δ} {f : Int → ySt → Option β} {g : δ → Option γ} (Q : Int × ySt → δ → Prop) {R : β → γ → Prop} (h : Ok x (fun a => Ok y (fun b => Q a b))) (k : ∀ r σ τ, Q (r, σ) τ → Ok (f r σ) (fun A => Ok (g τ) (fun B => R A B))) : Ok (bndR x f) (fun A => Ok (bndO y g) (fun B => R A B)) := by
  rw [Ok_bndR]
  refine h.mono ?_
  rintro ⟨r, σ⟩ h2
  rw [Ok_swap, Ok_bndO]
  refine h2.mono ?_
  intro τ h3
  rw [Ok_swap]
  exact k _ _ _ h3
theorem Ok2_of {α β : Type} {x : Option α} {y : Option β} {P : α → Prop} {P' : β → Prop} {Q : α → β → Prop} (h : Ok x P) (g : Ok y P') (k : ∀ a b, P a → P' b → Q a b) : Ok x (fun a => Ok y (fun b => Q a b)) := by
  refine h.mono (fun a ha => g.mono (fun b hb => k a b ha hb))
theorem L_pass {N n p : Nat} {σ τ : ySt} {t : Nat → Int} (hN : 100000 ≤ N) (h : RT σ τ t n p) (a : Int) :
    Ok (cTp_pass N a σ) (fun r => Ok (mo_must N (if tkK t n p = a then 1 else 0) τ) (fun τ' => eqC r.2 σ ∧ eqM τ' τ ∧ ((r.1 = 1 ∧ RT r.2 τ' t n (tkE t n p)) ∨ (r.1 = 0 ∧ RB r.2 τ' t n)))) := by
  obtain ⟨tc, tm, fc, fm⟩ := h
  refine Ok2_of (cTp_pass_ok hN tc a) (mo_must_ok hN tm fm.1 (if tkK t n p = a then 1 else 0)) ?_
  rintro ⟨r, σ'⟩ τ' ⟨o1, d1⟩ ⟨o2, d2⟩
  dsimp only at *
  refine ⟨o1.1, o2, ?_⟩
  rcases d1 with ⟨k, e, tc', f6, f7⟩ | ⟨k, e, f⟩
  · rw [if_pos k] at d2
    rcases d2 with ⟨_, ⟨g4, g5⟩, tm'⟩ | ⟨q, _⟩
    · exact Or.inl ⟨e, tc', tm', FC_of fc f6 f7, g4, g5.trans fm.2⟩
    · omega
  · rw [if_neg k] at d2
    rcases d2 with ⟨q, _⟩ | ⟨_, tm', fm'⟩
    · exact absurd rfl q
    · exact Or.inr ⟨e, RB_of tm' f fm' (bdK_0 t n p)⟩
theorem L_num {N n p : Nat} {σ τ : ySt} {t : Nat → Int} (hN : 100000 ≤ N) (h : RT σ τ t n p) (a b : Int) (ha : 0 ≤ a) :
    Ok (cTp_passNumber N a b σ) (fun r => Ok (mo_numeral N a b τ) (fun r' => eqC r.2 σ ∧ eqM r'.2 τ ∧ ((a ≤ r.1 ∧ r.1 ≤ b ∧ r'.1 = r.1 ∧ RT r.2 r'.2 t n (tkE t n p)) ∨ (r.1 = -1 ∧ r'.1 = a ∧ RB r.2 r'.2 t n)))) := by
  obtain ⟨tc, tm, fc, fm⟩ := h
  refine Ok2_of (cTp_passNumber_ok hN tc a b ha) (mo_numeral_ok hN tm fm.1 a b) ?_
  rintro ⟨r, σ'⟩ ⟨r', τ'⟩ ⟨o1, d1⟩ ⟨o2, d2⟩
  dsimp only at *
  refine ⟨o1.1, o2, ?_⟩
  rcases d1 with ⟨k, v1, v2, e, tc', f6, f7⟩ | ⟨k, v, e, f⟩ | ⟨k, e, f⟩
  · rcases d2 with ⟨_, _, _, e', tm', g4, g5⟩ | ⟨_, w, _⟩ | ⟨q, _⟩
    · exact Or.inl ⟨by omega, by omega, by omega, tc', tm', FC_of fc f6 f7, g4, g5.trans fm.2⟩
    · exact absurd ⟨v1, v2⟩ w
    · exact absurd k q
  · rcases d2 with ⟨_, w1, w2, _⟩ | ⟨_, _, e', tm', fm'⟩ | ⟨q, _⟩
    · exact absurd ⟨w1, w2⟩ v
    · exact Or.inr ⟨e, e', RB_of tm' f fm' (by decide)⟩
    · exact absurd k q
  · rcases d2 with ⟨q, _⟩ | ⟨q, _⟩ | ⟨_, e', tm', fm'⟩
    · exact absurd q k
    · exact absurd q k
    · exact Or.inr ⟨e, e', RB_of tm' f fm' (bdK_0 t n p)⟩
theorem L_known {N n p o a b m : Nat} {σ τ : ySt} {t : Nat → Int} (hN : 100000 ≤ N) (h : RT σ τ t n p) (hr : NR σ o τ a b m) (ho : o = 14 ∨ o = 16 ∨ o = 18 ∨ o = 34 ∨ o = 36 ∨ o = 38) (hm : m ≤ (yKd (o + 1)).2) (hl : (yKd (o + 1)).2 ≤ 1000) :
    Ok (cTp_passKnown N o σ) (fun r => Ok (mo_told N (nf (fun k => decide (τ 92 8 = 2) && decide (τ a (b + k) = τ 92 10)) m) τ) (fun r' => eqC r.2 σ ∧ eqM r'.2 τ ∧ ((0 ≤ r.1 ∧ r.1 < m ∧ r'.1 = r.1 ∧ RT r.2 r'.2 t n (tkE t n p)) ∨ (r.1 = -1 ∧ 0 ≤ r'.1 ∧ (r'.1 = 0 ∨ r'.1 < m) ∧ RB r.2 r'.2 t n)))) := by
  obtain ⟨tc, tm, fc, fm⟩ := h
  have h10 : tkK t n p = 3 ∨ 100 ≤ tkK t n p → τ 92 10 = enc8 (tkW t n p) := tm.2.2.2.2.2.2.2.2.2.1
  have same : tkK t n p = 3 → nf (fun k => decide (σ (o + 1) k = enc5 (tkW t n p))) m = nf (fun k => decide (τ 92 8 = 2) && decide (τ a (b + k) = τ 92 10)) m := fun q => NR_find hr (tkW_wd (Or.inl q)).1 ((TM_tok tm).2.2.1.mpr q) (h10 (Or.inl q))
  have none : tkK t n p ≠ 3 → nf (fun k => decide (τ 92 8 = 2) && decide (τ a (b + k) = τ 92 10)) m = -1 := fun q => here_none (fun e => q ((TM_tok tm).2.2.1.mp e))
  have hrg := nf_rg (fun k => decide (τ 92 8 = 2) && decide (τ a (b + k) = τ 92 10)) m
  refine Ok2_of (cTp_passKnown_ok hN tc ho hr.1 hm hl) (mo_told_ok hN tm fm.1 _) ?_
  rintro ⟨r, σ'⟩ ⟨r', τ'⟩ ⟨o1, d1⟩ ⟨o2, e', d2⟩
  dsimp only at *
  refine ⟨o1.1, o2, ?_⟩
  rcases d1 with ⟨k, v, e, tc', f6, f7⟩ | ⟨k, v, e, f⟩ | ⟨k, e, f⟩
  · rw [same k] at v e
    rcases d2 with ⟨_, _, tm', g4, g5⟩ | ⟨_, w, _⟩ | ⟨q, _⟩
    · rw [if_pos v] at e'
      exact Or.inl ⟨by omega, by omega, by omega, tc', tm', FC_of fc f6 f7, g4, g5.trans fm.2⟩
    · omega
    · exact absurd k q
  · rw [same k] at v
    rw [if_neg (by omega)] at e'
    rcases d2 with ⟨_, w, _⟩ | ⟨_, _, tm', fm'⟩ | ⟨q, _⟩
    · omega
    · exact Or.inr ⟨e, by omega, Or.inl e', RB_of tm' f fm' (by decide)⟩
    · exact absurd k q
  · rw [none k] at e'
    rw [if_neg (by decide)] at e'
    rcases d2 with ⟨q, _⟩ | ⟨q, _⟩ | ⟨_, tm', fm'⟩
    · exact absurd q k
    · exact absurd q k
    · exact Or.inr ⟨e, by omega, Or.inl e', RB_of tm' f fm' (bdK_0 t n p)⟩
