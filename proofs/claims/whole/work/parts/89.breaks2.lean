/-! breaks, in both: the call -/
theorem C_breaks {N T b mp mq md mw me L S hr : Nat} {W : Nat → Int} {σ τ : ySt} (hN : 100000 ≤ N) (h : QI σ τ T b mp mq md mw me L S hr W) (hck : CK σ T mp mq me md L S hr) (a c : Int) :
    Ok (cE_breaks N a c σ) (fun r => Ok (mo_breaks N a c τ) (fun r' => r'.1 = r.1 ∧ FrQ r'.2 τ ∧ (∀ i, (i < 60 ∨ (64 < i ∧ i < 71) ∨ (73 < i ∧ i < 78) ∨ 82 < i) → r.2 i = σ i) ∧ CK r.2 T mp mq me md L S hr)) := by
  obtain ⟨hTD, hTW, h58, hS, hH, hca⟩ := id h
  obtain ⟨hT, h1, hm6, h3, hq5, hm, h14, hme, he, hh, h16, h17, h15⟩ := id hTW
  obtain ⟨_, h05, h40, hb, g1, g2, g3, ⟨w1, w2, w3⟩, wn, ft, _, g6, _⟩ := id hTD
  have n10 : ¬ (1 : Int) = 0 := by decide
  have hv : ∀ n, n < mq → homeV σ T n < mp := fun n hn => by
    have := (hh n hn).1
    unfold homeV
    omega
  have none_ : Ok (some ((-1000000 : Int), σ)) (fun r => Ok (some ((-1000000 : Int), τ)) (fun r' => r'.1 = r.1 ∧ FrQ r'.2 τ ∧ (∀ i, (i < 60 ∨ (64 < i ∧ i < 71) ∨ (73 < i ∧ i < 78) ∨ 82 < i) → r.2 i = σ i) ∧ CK r.2 T mp mq me md L S hr)) := by
    rw [Ok_some, Ok_some]
    exact ⟨rfl, FrQ_rfl τ, fun _ _ => rfl, hck⟩
  unfold cE_breaks mo_breaks
  rw [cE_isSort_eq, bndO_s, mo_isWhat_eq, bndO_s]
  by_cases ca : 0 ≤ a ∧ a ≤ 2
  · obtain ⟨n, rfl⟩ : ∃ n : Nat, a = n := ⟨a.toNat, by omega⟩
    have hn3 : n < 3 := by omega
    rw [if_pos ca, if_neg n10, Ok_swap, Ok_bnd, if_neg n10, mo_isIn_eq, bndO_s]
    by_cases cc : -1 ≤ c ∧ c ≤ 0
    · rw [if_pos cc, if_pos n10, if_neg (show ¬ c < -1 by omega), if_pos (show c ≤ 0 by omega), Ok_bndO]
      obtain ⟨g, hg⟩ : ∃ g, g = bK σ T mp mq me md L S hr n := ⟨_, rfl⟩
      refine (mo_plain_ok h40 hb).mono ?_
      rintro τ1 ⟨f1, q1, k1⟩
      obtain ⟨q47, q48, q49, q51, q52, q53⟩ := q1
      have hT1 := TD_FrQ hTD f1
      obtain ⟨_, _, h40', _, _, _, _, _, _, _, _, g6', _⟩ := id hT1
      have t47 : τ1 92 47 = (hr : Int) := by rw [q47, ← g6'.1.1]; exact hH
      have t48 : τ1 92 48 = (S : Int) := by rw [q48, ← g6'.2.1]; exact hS
      refine Ok_loopS3 (fun x y z ν => ∃ k : Nat, z = (k : Int) + 1 ∧ k ≤ S ∧ x = (bkF g k).1 ∧ y = (bkF g k).2 ∧ FrQ ν τ ∧ (∀ j, j ≠ 50 → j ≠ 51 → ν 92 j = τ1 92 j) ∧ ∀ s, 1 ≤ s → s ≤ k → GB σ T b mp mq me md L S hr n s) (fun _ _ z _ => (S + 1 - z.toNat : Nat)) ?_ N _ _ _ _ ⟨0, rfl, by omega, rfl, rfl, f1, fun _ _ _ => rfl, fun s s1 s2 => by omega⟩ (by omega)
      rintro rec_ x y z ν ⟨k, rfl, hk, rfl, rfl, fν, i1, i2⟩ rec
      have hTν := TD_FrQ hTD fν
      obtain ⟨_, _, v40, _, _, _, _, _, _, _, _, v6, _⟩ := id hTν
      rw [v40, Int.toNat_natCast, ← v6.2.1, hS, Ok_chkA, Ok_ite]
      refine ⟨by omega, fun q => ?_, fun q => ?_⟩
      · have hkS : k = S := by omega
        subst hkS
        have cls := findBreak_ok (a := n) hN hTW ft h58 hS hH hck hn3 i2
        rw [← hg] at cls
        rw [Ok_ite, Ok_some, Ok_some]
        refine ⟨fun c1 => ?_, fun c1 => ?_⟩
        · rw [Ok_bndO]
          refine cls.mono ?_
          rintro σ7 ⟨e1, e2, e3, e4⟩
          rw [if_neg (show ¬ ¬ c = 0 by omega), Ok_chkA, Ok_some, Int.toNat_natCast]
          exact ⟨by omega, e2.symm, fν, e3, e4⟩
        · rw [Ok_bndO]
          refine cls.mono ?_
          rintro σ7 ⟨e1, e2, e3, e4⟩
          rw [if_pos (show ¬ c = 0 by omega), Ok_chkA, Ok_some, Int.toNat_natCast]
          exact ⟨by omega, e1.symm, fν, e3, e4⟩
      · rw [Ok_bnd, show (k : Int) + 1 = ((k + 1 : Nat) : Int) from rfl]
        generalize hτ2 : yset ν 92 51 ((k + 1 : Nat) : Int) = τ2
        have t51 : τ2 92 51 = ((k + 1 : Nat) : Int) := by rw [← hτ2, yset_at]
        have tk : ∀ j, j ≠ 50 → j ≠ 51 → τ2 92 j = τ1 92 j := fun j a1 a2 => by rw [← hτ2, yset_ne (by omega)]; exact i1 j a1 a2
        have f2 : FrQ τ2 τ := by
          rw [← hτ2]
          exact FrQ_tr fν (FrQ_set (by omega))
        have hT2 := TD_FrQ hTD f2
        rw [Ok_bndR]
        refine (find_Z (what := (n : Int)) (t := 1) (hr := hr) (S := S) (Mc := fun u v => σ (T + 15) (6 * u + v)) hN hT2 hTW (by omega) ((tk 47 (by decide) (by decide)).trans t47) (by omega) ((tk 48 (by decide) (by decide)).trans t48) (by omega) (by rw [tk 49 (by decide) (by decide), q49]; rfl) (by omega) t51 ((tk 52 (by decide) (by decide)).trans q52) (Or.inl (by rw [tk 53 (by decide) (by decide), q53]; decide)) (Mc_pl hT2 ((tk 53 (by decide) (by decide)).trans q53))).mono ?_
        rintro ⟨r, τ3⟩ ⟨f3, k3, e3, mb⟩
        dsimp only at f3 k3 e3 mb ⊢
        have gb : GB σ T b mp mq me md L S hr n (k + 1) := ⟨τ3, mb⟩
        have rg := bK_rg (by omega) hv gb
        have e3' : r = g (k + 1) := by rw [hg]; exact e3
        rw [← hg] at rg
        have i2' : ∀ s, 1 ≤ s → s ≤ k + 1 → GB σ T b mp mq me md L S hr n s := fun s s1 s2 => by
          by_cases cs : s = k + 1
          · rw [cs]; exact gb
          · exact i2 s s1 (by omega)
        have rgk := bkF_rg (g := g) k (fun s s1 s2 => by rw [hg]; exact bK_rg (by omega) hv (i2 s s1 s2))
        have ub : bkF g (k + 1) = if (bkF g k).1 < g (k + 1) then (g (k + 1), ((k + 1 : Nat) : Int)) else bkF g k := rfl
        refine Ok_jq2 (fun (x y : Int) => x = (bkF g (k + 1)).1 ∧ y = (bkF g (k + 1)).2) (fun x y hxy => ?_) (fun kk hkk => ?_)
        · rw [Ok_chkI]
          exact ⟨by omega, rec _ _ _ _ ⟨k + 1, rfl, by omega, hxy.1, hxy.2, FrQ_tr f2 f3, fun j a1 a2 => (k3 j a1).trans (tk j a1 a2), i2'⟩ (by omega)⟩
        · have keep : ¬ (bkF g k).1 < g (k + 1) → (bkF g k).1 = (bkF g (k + 1)).1 ∧ (bkF g k).2 = (bkF g (k + 1)).2 := fun w => by rw [ub, if_neg w]; exact ⟨rfl, rfl⟩
          have new : (bkF g k).1 < g (k + 1) → r = (bkF g (k + 1)).1 ∧ ((k + 1 : Nat) : Int) = (bkF g (k + 1)).2 := fun w => by rw [ub, if_pos w]; exact ⟨e3', rfl⟩
          rw [Ok_ite]
          refine ⟨fun c1 => hkk _ _ (keep (by omega)), fun c1 => ?_⟩
          rw [Ok_bnd, Ok_ite]
          refine ⟨fun c2 => hkk _ _ (new (by omega)), fun c2 => ?_⟩
          rw [Ok_ite]
          exact ⟨fun c3 => hkk _ _ (new (by omega)), fun c3 => hkk _ _ (keep (by omega))⟩
    · rw [if_neg cc, if_neg (fun w => w rfl), Ok_swap]
      by_cases c1 : c < -1
      · rw [if_pos c1]
        exact none_
      · rw [if_neg c1, if_neg (show ¬ c ≤ 0 by omega)]
        exact none_
  · rw [if_neg ca, if_pos rfl, Ok_swap, Ok_bnd, if_pos rfl, Ok_swap]
    exact none_
