/-! what a line comes to, whatever it is -/
/-- town and bank between lines -/
def LT (σ τ : ySt) (T b mp mq md mw me L f1 f2 f3 : Nat) : Prop :=
  TB σ τ T b mp mq md mw me L ∧ σ 53 1 = (T : Int) + 1 ∧ τ 92 41 = b ∧ (σ 53 2 = f1 ∧ σ 53 3 = f2 ∧ σ 53 4 = f3) ∧ (f1 ≤ 1 ∧ f2 ≤ 1 ∧ f3 ≤ 1) ∧ (f3 = 0 → L = 0 ∧ σ (T + 17) 3 = 0 ∧ τ 102 b = 0 ∧ τ 92 42 = ((400 * b : Nat) : Int)) ∧ (f3 = 1 → 1 ≤ L) ∧ σ (T + 17) 3 = τ 102 b
def FLG (τ : ySt) (b f1 f2 f3 : Nat) : Prop := τ 103 b = f1 ∧ τ 104 b = f2 ∧ τ 105 b = f3
theorem LT_upd {σ τ σ' τ' : ySt} {T b mp mq md mw me L f1 f2 f3 mp' mq' md' mw' me' : Nat} (h : LT σ τ T b mp mq md mw me L f1 f2 f3) (g : TB σ' τ' T b mp' mq' md' mw' me' L) (e53 : σ' 53 = σ 53) (e17 : σ' (T + 17) = σ (T + 17)) (e102 : τ' 102 = τ 102) (e41 : τ' 92 41 = τ 92 41) (e42 : τ' 92 42 = τ 92 42) : LT σ' τ' T b mp' mq' md' mw' me' L f1 f2 f3 := by
  obtain ⟨_, h2, h3, h4, h5, h6, h7⟩ := h
  refine ⟨g, by rw [e53]; exact h2, by rw [e41]; exact h3, by rw [e53]; exact h4, h5, fun q => ?_, h7.1, by rw [e17, e102]; exact h7.2⟩
  rw [e17, e102, e42]
  exact h6 q
theorem LT_of {σ τ σ' τ' : ySt} {T b mp mq md mw me L f1 f2 f3 : Nat} {x y z : Int} (hT : T = 13 ∨ T = 33) (h : LT σ τ T b mp mq md mw me L f1 f2 f3) (e : eqC σ' σ) (f : eqM τ' (L3 τ b x y z)) : LT σ' τ' T b mp mq md mw me L f1 f2 f3 := by
  have fo : ∀ i, i ≠ 92 → i ≠ 103 → i ≠ 104 → i ≠ 105 → τ' i = τ i := by
    intro i h1 h2 h3 h4
    rw [f.1 i h1]
    unfold L3
    rw [yset_off i h4, yset_off i h3, yset_off i h2]
  have f2 : ∀ k, 10 < k → τ' 92 k = τ 92 k := by
    intro k hk
    rw [f.2 k (Or.inr hk)]
    unfold L3
    rw [yset_ne (by omega), yset_ne (by omega), yset_ne (by omega)]
  exact LT_upd h (TB_of h.1 (fun i h1 h2 => e i (by omega)) (fun i h1 h2 h3 h4 h5 h6 => fo i (by omega) h4 h5 h6)) (e 53 (by omega)) (e (T + 17) (by omega)) (fo 102 (by omega) (by omega) (by omega) (by omega)) (f2 41 (by omega)) (f2 42 (by omega))
theorem LT_eqM {σ τ τ' : ySt} {T b mp mq md mw me L f1 f2 f3 : Nat} (h : LT σ τ T b mp mq md mw me L f1 f2 f3) (f : eqM τ' τ) : LT σ τ' T b mp mq md mw me L f1 f2 f3 :=
  LT_upd h (TB_of h.1 (fun i h1 h2 => rfl) (fun i h1 h2 h3 h4 h5 h6 => f.1 i (by omega))) rfl rfl (f.1 102 (by omega)) (f.2 41 (by omega)) (f.2 42 (by omega))
/-- what a line comes to -/
def LQ (T b n : Nat) (t : Nat → Int) (σ τ : ySt) (s : Nat) (r : Int × ySt) (τ' : ySt) : Prop :=
  FrT T r.2 σ ∧ FrB b τ' τ ∧ ((r.1 = 1 ∧ ∃ q mp mq md mw me L f1 f2 f3 : Nat, RT r.2 τ' t n q ∧ LT r.2 τ' T b mp mq md mw me L f1 f2 f3 ∧ FLG τ' b f1 f2 f3 ∧ mp + mq + md + mw + me + f1 + f2 + f3 = s + 1) ∨ (r.1 = 0 ∧ RB r.2 τ' t n))
theorem LQ_bad {N T b n p s : Nat} {t : Nat → Int} {σ τ : ySt} {x : Option (Int × ySt)} (rt : RT σ τ t n p) (hx : Ok x (fun r => r.1 = 0 ∧ eqC r.2 σ ∧ FC r.2 (bdK t n p) (tkA t n p))) (hm : mo_readLine N τ = some (yset (yset τ 92 4 (bdK t n p)) 92 5 (tkA t n p))) :
    Ok (cLn N x) (fun r => Ok (mo_readLine N τ) (LQ T b n t σ τ s r)) := by
  unfold cLn
  rw [Ok_bndR]
  refine hx.mono ?_
  rintro ⟨r, σ'⟩ ⟨a1, a2, a3⟩
  dsimp only at a1 a2 a3 ⊢
  rw [if_pos a1, Ok_some, hm, Ok_some]
  exact ⟨FrT_eqC a2, FrB_eqM (eqM_of offM_F), Or.inr ⟨rfl, RB_of (TM_F rt.2.1) a3 ⟨by rw [yset_ne (by omega), yset_at], yset_at⟩ (bdK_0 t n p)⟩⟩
theorem Ok_chkd {x : Option (Int × ySt)} {Q : Int × ySt → Prop} (h : Ok x Q) (hq : ∀ r, Q r → r.1 = 0 ∨ r.1 = 1) : Ok (bndR x fun r s => chk (r = 0 ∨ r = 1) <| some (r, s)) Q := by
  rw [Ok_bndR]
  refine h.mono (fun r hr => ?_)
  rw [Ok_chk, Ok_some]
  exact ⟨hq r hr, hr⟩
theorem LQ_good {N T b n p s : Nat} {t : Nat → Int} {σ τ : ySt} {w : Int} {x : Option (Int × ySt)} {Y : ySt → Option ySt} {f1 f2 f3 mp' mq' md' mw' me' f1' f2' f3' : Nat} {LL : Nat → Prop} (hN : 100000 ≤ N) (hT : T = 13 ∨ T = 33) (hb : b < 2) (rt : RT σ τ t n p) (hf : f1 ≤ 1 ∧ f2 ≤ 1 ∧ f3 ≤ 1) (hs : mp' + mq' + md' + mw' + me' + f1' + f2' + f3' = s + 1)
    (w1 : fl f1 (w = 1752135026) = f1') (w2 : fl f2 (w = 32497657166128499) = f2') (w3 : fl f3 (w = 1920298085) = f3')
    (hm : mo_readLine N τ = bndO (mo_goOn N τ) fun σ7 => bndO (Y σ7) fun σ2 => ln9 N w σ2)
    (hx : ∀ τ7, eqM τ7 τ → TM τ7 t n (tkE t n p) → FM τ7 0 (-1) → Ok x (fun r => Ok (Y τ7) (fun τ' => FrT T r.2 σ ∧ FrB b τ' τ7 ∧ (τ' 92 41 = b ∧ τ' 103 b = (f1 : Int) ∧ τ' 104 b = (f2 : Int) ∧ τ' 105 b = (f3 : Int)) ∧ ((r.1 = 1 ∧ ((∃ q, RT r.2 τ' t n q ∧ ∃ L, LL L ∧ LT r.2 τ' T b mp' mq' md' mw' me' L f1' f2' f3') ∨ (∃ q, tkK t n q ≠ 59 ∧ TC r.2 t n q ∧ TM τ' t n q ∧ FM τ' (bdK t n q) (tkA t n q)))) ∨ (r.1 = 0 ∧ RB r.2 τ' t n))))) :
    Ok (cLn N (bndR x fun r s => chk (r = 0 ∨ r = 1) <| some (r, s))) (fun r => Ok (mo_readLine N τ) (LQ T b n t σ τ s r)) := by
  rw [hm, Ok_swap, Ok_bndO]
  refine (TM_go hN rt.2.1).mono ?_
  rintro τ7 ⟨d1, d2, d3, d4⟩
  have e7 := eqM_of d1
  rw [Ok_swap]
  have hx' := hx τ7 e7 d2 ⟨d3.trans rt.2.2.2.1, d4.trans rt.2.2.2.2⟩
  refine (L_fin (w := w) hN hb (by omega) (by omega) (by omega) (fun σ' τ' => ∃ L, LL L ∧ LT σ' τ' T b mp' mq' md' mw' me' L f1' f2' f3') (Ok_chkd hx' (fun r hr => by
    obtain ⟨_, _, _, _, _, h⟩ := hr
    omega))).mono ?_
  rintro ⟨r, σ'⟩ h
  refine h.mono ?_
  rintro τ' ⟨h1, h2, h3⟩
  refine ⟨h1, FrB_tr (FrB_eqM e7) h2, ?_⟩
  rcases h3 with ⟨hr, q, σ1, τ1, rt', ⟨L, _, lt⟩, ec, em⟩ | h3
  · refine Or.inl ⟨hr, q, mp', mq', md', mw', me', L, f1', f2', f3', rt', LT_of hT lt ec em, ⟨?_, ?_, ?_⟩, hs⟩
    · rw [em.1 103 (by decide), ← w1]
      unfold L3
      rw [yset_ne (by omega), yset_ne (by omega), yset_at]
    · rw [em.1 104 (by decide), ← w2]
      unfold L3
      rw [yset_ne (by omega), yset_at]
    · rw [em.1 105 (by decide), ← w3]
      unfold L3
      rw [yset_at]
  · exact Or.inr h3
