/-! one way more, in both: the call -/
theorem C_built {N T b0 mp mq md mw me L S hr : Nat} {W : Nat → Int} {σ τ : ySt} (hN : 100000 ≤ N) (h : QI σ τ T b0 mp mq md mw me L S hr W) (hcl : CL σ T mp mq me md L S hr) (m a c : Int) :
    Ok (cE_built N m a c σ) (fun r => Ok (mo_built N m a c τ) (fun r' => r'.1 = r.1 ∧ FrQ r'.2 τ ∧ (∀ i, (i < 60 ∨ (70 < i ∧ i < 74) ∨ i = 77 ∨ 82 < i) → r.2 i = σ i) ∧ CA r.2 T mp mq me md L S hr ∧ CL r.2 T mp mq me md L S hr)) := by
  obtain ⟨hTD, hTW, h58, hS, hH, hca⟩ := id h
  obtain ⟨hT, h1, hm6, h3, hq5, hm, h14, hme, he, hh, h16, h17, h15⟩ := id hTW
  obtain ⟨_, h05, h40, hb, g1, g2, g3, ⟨w1, w2, w3⟩, wn, ft, _, g6, _⟩ := id hTD
  have n10 : ¬ (1 : Int) = 0 := by decide
  have hv : ∀ n, n < mq → homeV σ T n < mp := fun n hn => by
    have := (hh n hn).1
    unfold homeV
    omega
  have none_ : Ok (some ((-1000000 : Int), σ)) (fun r => Ok (some ((-1000000 : Int), τ)) (fun r' => r'.1 = r.1 ∧ FrQ r'.2 τ ∧ (∀ i, (i < 60 ∨ (70 < i ∧ i < 74) ∨ i = 77 ∨ 82 < i) → r.2 i = σ i) ∧ CA r.2 T mp mq me md L S hr ∧ CL r.2 T mp mq me md L S hr)) := by
    rw [Ok_some, Ok_some]
    exact ⟨rfl, FrQ_rfl τ, fun _ _ => rfl, hca, hcl⟩
  unfold cE_built mo_built
  rw [cE_isSort_eq, bndO_s, mo_isIn_eq, bndO_s]
  by_cases ca : 0 ≤ a ∧ a ≤ 2
  · obtain ⟨n, rfl⟩ : ∃ n : Nat, a = n := ⟨a.toNat, by omega⟩
    have hn3 : n < 3 := by omega
    rw [if_pos ca, if_neg n10]
    by_cases cm : 1 ≤ m ∧ m ≤ 999
    · obtain ⟨M, rfl⟩ : ∃ M : Nat, m = M := ⟨m.toNat, by omega⟩
      have hM : 1 ≤ M ∧ M ≤ 999 := by omega
      rw [if_pos cm, if_neg (show ¬ (M : Int) < 1 by omega), if_neg (show ¬ (M : Int) > 999 by omega), Ok_swap, Ok_bnd, if_neg n10, mo_isWhat_eq, bndO_s, if_pos ca, if_neg n10, mo_isIn_eq, bndO_s]
      by_cases cc : -1 ≤ c ∧ c ≤ 0
      · rw [if_pos cc, if_pos n10, if_neg (show ¬ c < -1 by omega), if_pos (show c ≤ 0 by omega), Ok_bndO]
        obtain ⟨g, hg⟩ : ∃ g : Nat → Nat → Int, ∀ x y, g x y = dZ σ T mp mq me md L S hr n x y M := ⟨_, fun _ _ => rfl⟩
        have hgg : (fun x y => dZ σ T mp mq me md L S hr n x y M) = g := funext fun x => funext fun y => (hg x y).symm
        obtain ⟨⟨_, τ0⟩, _, _, _, hb0⟩ := find_pl hN h hn3
        dsimp only at hb0
        refine (mo_plain_ok h40 hb).mono ?_
        rintro τ1 ⟨f1, q1, k1⟩
        obtain ⟨q47, q48, q49, q51, q52, q53⟩ := q1
        have hT1 := TD_FrQ hTD f1
        obtain ⟨_, _, h40', _, _, _, _, _, _, _, _, g6', _⟩ := id hT1
        have t47 : τ1 92 47 = (hr : Int) := by rw [q47, ← g6'.1.1]; exact hH
        have t48 : τ1 92 48 = (S : Int) := by rw [q48, ← g6'.2.1]; exact hS
        rw [Ok_bnd]
        refine Ok_loopS3 (fun x y z ν => ∃ k : Nat, z = (k : Int) ∧ k ≤ mp ∧ x = (bpO g mp k).1 ∧ y = (bpO g mp k).2 ∧ FrQ ν τ ∧ ν 92 55 = (M : Int) ∧ (∀ j, j ≠ 50 → j ≠ 53 → j ≠ 54 → j ≠ 55 → ν 92 j = τ1 92 j) ∧ ∀ u v, u < k → u < v → v < mp → GD σ T b0 mp mq me md L S hr n u v M) (fun _ _ z _ => (mp - z.toNat : Nat)) ?_ N _ _ _ _ ⟨0, rfl, by omega, rfl, rfl, FrQ_tr f1 (FrQ_set (by omega)), by rw [yset_at], fun j _ _ _ j4 => by rw [yset_ne (by omega)], fun u v hu => absurd hu (Nat.not_lt_zero u)⟩ (by omega)
        rintro rec_ x y z ν ⟨k, rfl, hk, rfl, rfl, fν, i55, i1, i2⟩ rec
        have hTν := TD_FrQ hTD fν
        obtain ⟨_, _, v40, vb, v1, _, _, _, _, _, _, _, _⟩ := id hTν
        rw [mo_placeMany_ok v40 vb v1.2.2, bndO_s, Ok_ite]
        refine ⟨fun q => ?_, fun q => ?_⟩
        · have hkS : k = mp := by omega
          subst hkS
          have cls := findBuilt_ok (n := n) hN hTW ft h58 hS hH hca hcl hn3 hM (fun lt => Or.inr ⟨τ0, hb0 lt⟩) (fun u v huv hvm => i2 u v (by omega) huv hvm)
          rw [hgg] at cls
          rw [Ok_ite, Ok_some, Ok_some]
          refine ⟨fun c1 => ?_, fun c1 => ?_⟩
          · rw [Ok_bndO]
            refine cls.mono ?_
            rintro σ7 ⟨e1, e2, e3, e4, e5⟩
            rw [if_neg (show ¬ ¬ c = 0 by omega), Ok_chkA, Ok_some, Int.toNat_natCast]
            exact ⟨by omega, e2.symm, fν, e3, e4, e5⟩
          · rw [Ok_bndO]
            refine cls.mono ?_
            rintro σ7 ⟨e1, e2, e3, e4, e5⟩
            rw [if_pos (show ¬ c = 0 by omega), Ok_chkA, Ok_some, Int.toNat_natCast]
            exact ⟨by omega, e1.symm, fν, e3, e4, e5⟩
        · have hkm : k < mp := by omega
          rw [Ok_chkI, show (k : Int) + 1 = ((k + 1 : Nat) : Int) from rfl]
          refine ⟨by omega, Ok_loopS4 (fun x y z w μ => z = (k : Int) ∧ ∃ j : Nat, w = ((k + 1 + j : Nat) : Int) ∧ k + 1 + j ≤ mp ∧ x = (bpI g k j (bpO g mp k)).1 ∧ y = (bpI g k j (bpO g mp k)).2 ∧ FrQ μ τ ∧ μ 92 55 = (M : Int) ∧ (∀ j, j ≠ 50 → j ≠ 53 → j ≠ 54 → j ≠ 55 → μ 92 j = τ1 92 j) ∧ ∀ u v, (u < k ∨ (u = k ∧ v < k + 1 + j)) → u < v → v < mp → GD σ T b0 mp mq me md L S hr n u v M) (fun _ _ _ w _ => (mp - w.toNat : Nat)) ?_ N _ _ _ _ _ ⟨rfl, 0, rfl, by omega, rfl, rfl, fν, i55, i1, fun u v hu huv hvm => i2 u v (by omega) huv hvm⟩ (by omega)⟩
          rintro rec2_ x y z w μ ⟨rfl, j, rfl, hj, rfl, rfl, fμ, j55, j1, j2⟩ rec2
          have hTμ := TD_FrQ hTD fμ
          obtain ⟨_, _, m40, mb0, m1, _, _, _, _, _, _, _, _⟩ := id hTμ
          rw [mo_placeMany_ok m40 mb0 m1.2.2, bndO_s, Ok_ite]
          refine ⟨fun q2 => ?_, fun q2 => ?_⟩
          · have hjm : j = mp - (k + 1) := by omega
            rw [Ok_chkI]
            refine ⟨by omega, rec _ _ _ _ ⟨k + 1, rfl, by omega, by rw [hjm]; rfl, by rw [hjm]; rfl, fμ, j55, j1, fun u v hu huv hvm => j2 u v (by omega) huv hvm⟩ (by omega)⟩
          · have hlt : k + 1 + j < mp := by omega
            rw [Ok_bnd, Ok_bnd]
            generalize hτ2 : yset (yset μ 92 53 (k : Int)) 92 54 ((k + 1 + j : Nat) : Int) = τ2
            have t53 : τ2 92 53 = (k : Int) := by rw [← hτ2, yset_ne (by omega), yset_at]
            have t54 : τ2 92 54 = ((k + 1 + j : Nat) : Int) := by rw [← hτ2, yset_at]
            have t55 : τ2 92 55 = (M : Int) := by rw [← hτ2, yset_ne (by omega), yset_ne (by omega)]; exact j55
            have tk : ∀ j, j ≠ 50 → j ≠ 53 → j ≠ 54 → j ≠ 55 → τ2 92 j = τ1 92 j := fun j a1 a2 a3 a4 => by rw [← hτ2, yset_ne (by omega), yset_ne (by omega)]; exact j1 j a1 a2 a3 a4
            have f2 : FrQ τ2 τ := by
              rw [← hτ2]
              exact FrQ_tr fμ (FrQ_tr (FrQ_set (by omega)) (FrQ_set (by omega)))
            have hT2 := TD_FrQ hTD f2
            have hD0 : ∀ u v, u < mp → v < mp → 0 ≤ σ (T + 15) (6 * u + v) := fun u v hu hv' => (h15 (6 * u + v) (by omega)).1
            rw [Ok_bndR]
            refine (find_Z (what := (n : Int)) (t := 1) (hr := hr) (S := S) (Mc := Db (fun u v => σ (T + 15) (6 * u + v)) k (k + 1 + j) M) hN hT2 hTW (by omega) ((tk 47 (by decide) (by decide) (by decide) (by decide)).trans t47) (by omega) ((tk 48 (by decide) (by decide) (by decide) (by decide)).trans t48) (by omega) (by rw [tk 49 (by decide) (by decide) (by decide) (by decide), q49]; rfl) (by omega) ((tk 51 (by decide) (by decide) (by decide) (by decide)).trans q51) ((tk 52 (by decide) (by decide) (by decide) (by decide)).trans q52) (Or.inr ⟨k, k + 1 + j, M, t53, t54, t55, by omega, by omega, by omega, by omega⟩) (Mc_built hT2 t53 t54 t55 hkm hlt (by omega) hM.2 hD0)).mono ?_
            rintro ⟨r, τ3⟩ ⟨f3, k3, e3, mb⟩
            dsimp only at f3 k3 e3 mb ⊢
            have gb : GD σ T b0 mp mq me md L S hr n k (k + 1 + j) M := ⟨τ3, mb⟩
            have rg := dZ_rg hv (by omega) gb
            have e3' : r = g k (k + 1 + j) := by rw [hg]; exact e3
            rw [← hg] at rg
            have j2' : ∀ u v, (u < k ∨ (u = k ∧ v < k + 1 + (j + 1))) → u < v → v < mp → GD σ T b0 mp mq me md L S hr n u v M := fun u v hu huv hvm => by
              by_cases cs : u = k ∧ v = k + 1 + j
              · rw [cs.1, cs.2]; exact gb
              · exact j2 u v (by omega) huv hvm
            have rO : ∀ a, a ≤ k → -1000000 ≤ (bpO g mp a).1 ∧ (bpO g mp a).1 ≤ 200000 := by
              intro a
              induction a with
              | zero => intro _; exact ⟨show (-1000000 : Int) ≤ -1000000 by decide, show (-1000000 : Int) ≤ 200000 by decide⟩
              | succ a ih =>
                intro ha
                exact bpI_rg (ih (by omega)) _ (fun i hi => by rw [hg]; exact dZ_rg hv (by omega) (j2 a _ (by omega) (by omega) (by omega)))
            have rI := bpI_rg (g := g) (a := k) (rO k (Nat.le_refl k)) j (fun i hi => by rw [hg]; exact dZ_rg hv (by omega) (j2 k (k + 1 + i) (by omega) (by omega) (by omega)))
            have ub : bpI g k (j + 1) (bpO g mp k) = if (bpI g k j (bpO g mp k)).1 < g k (k + 1 + j) then (g k (k + 1 + j), ((100 * k + (k + 1 + j) : Nat) : Int)) else bpI g k j (bpO g mp k) := rfl
            refine Ok_jq2 (fun (x y : Int) => x = (bpI g k (j + 1) (bpO g mp k)).1 ∧ y = (bpI g k (j + 1) (bpO g mp k)).2) (fun x y hxy => ?_) (fun kk hkk => ?_)
            · rw [Ok_chkI]
              exact ⟨by omega, rec2 _ _ _ _ _ ⟨rfl, j + 1, by omega, by omega, hxy.1, hxy.2, FrQ_tr f2 f3, (k3 55 (by decide)).trans t55, fun j a1 a2 a3 a4 => (k3 j a1).trans (tk j a1 a2 a3 a4), j2'⟩ (by omega)⟩
            · have keep : ¬ (bpI g k j (bpO g mp k)).1 < g k (k + 1 + j) → (bpI g k j (bpO g mp k)).1 = (bpI g k (j + 1) (bpO g mp k)).1 ∧ (bpI g k j (bpO g mp k)).2 = (bpI g k (j + 1) (bpO g mp k)).2 := fun w => by rw [ub, if_neg w]; exact ⟨rfl, rfl⟩
              have new : (bpI g k j (bpO g mp k)).1 < g k (k + 1 + j) → r = (bpI g k (j + 1) (bpO g mp k)).1 ∧ 100 * (k : Int) + ((k + 1 + j : Nat) : Int) = (bpI g k (j + 1) (bpO g mp k)).2 := fun w => by
                rw [ub, if_pos w]
                refine ⟨e3', ?_⟩
                show 100 * (k : Int) + ((k + 1 + j : Nat) : Int) = ((100 * k + (k + 1 + j) : Nat) : Int)
                omega
              rw [Ok_ite]
              refine ⟨fun c1 => hkk _ _ (keep (by omega)), fun c1 => ?_⟩
              refine Ok_jq ((bpI g k j (bpO g mp k)).1 < g k (k + 1 + j)) (fun w => ?_) (fun jj hjj => ?_)
              · rw [Ok_chkI, Ok_chkI]
                exact ⟨by omega, by omega, hkk _ _ (new w)⟩
              · rw [Ok_ite]
                refine ⟨fun c2 => hjj (by omega), fun c2 => ?_⟩
                rw [Ok_ite]
                exact ⟨fun c3 => hjj (by omega), fun c3 => hkk _ _ (keep (by omega))⟩
      · rw [if_neg cc, if_neg (fun w => w rfl), Ok_swap]
        by_cases c1 : c < -1
        · rw [if_pos c1]
          exact none_
        · rw [if_neg c1, if_neg (show ¬ c ≤ 0 by omega)]
          exact none_
    · rw [if_neg cm, Ok_swap, Ok_bnd, if_pos rfl, Ok_swap]
      by_cases m1 : m < 1
      · rw [if_pos m1]
        exact none_
      · rw [if_neg m1, if_pos (show m > 999 by omega)]
        exact none_
  · rw [if_neg ca, if_pos rfl, Ok_swap, Ok_bnd]
    by_cases cm : 1 ≤ m ∧ m ≤ 999
    · rw [if_pos cm, if_neg n10, mo_isWhat_eq, bndO_s, if_neg ca, if_pos rfl, Ok_swap]
      exact none_
    · rw [if_neg cm, if_pos rfl, Ok_swap]
      exact none_
