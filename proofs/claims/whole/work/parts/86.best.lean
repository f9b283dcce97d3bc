/-! best and bestAt, in both -/
theorem cE_isSort_eq (a : Int) (σ : ySt) : cE_isSort a σ = some (if 0 ≤ a ∧ a ≤ 2 then 1 else 0) := by
  unfold cE_isSort
  by_cases h1 : a < 0
  · rw [if_pos h1, if_neg (by omega)]
  · rw [if_neg h1]
    by_cases h2 : a ≥ 3
    · rw [if_pos h2, if_neg (by omega)]
    · rw [if_neg h2, if_pos (by omega)]
theorem mo_isWhat_eq (a : Int) (σ : ySt) : mo_isWhat a σ = some (if 0 ≤ a ∧ a ≤ 2 then 1 else 0) := by
  unfold mo_isWhat
  rw [mo_isIn_eq, bndO_s, chk_pos]
  split
  · exact Or.inr rfl
  · exact Or.inl rfl
/-- what is held for questions of the best -/
def QI (σ τ : ySt) (T b mp mq md mw me L S hr : Nat) (W : Nat → Int) : Prop := TD σ τ T b mp mq md mw me L W ∧ TW σ T mp mq me ∧ σ 58 0 = (T : Int) + 1 ∧ σ T 17 = S ∧ σ T 16 = hr ∧ CA σ T mp mq me md L S hr
/-- a plain question of the reference finds bZ -/
theorem find_pl {N T b mp mq md mw me L S hr a : Nat} {W : Nat → Int} {σ τ : ySt} (hN : 100000 ≤ N) (h : QI σ τ T b mp mq md mw me L S hr W) (ha : a < 3) :
    Ok (bndO (mo_plain τ) fun σ5 => mo_findBest N a σ5) (fun r' => FrQ r'.2 τ ∧ r'.1 = bZ σ T mp mq me md L S hr a ∧ (¬ (decide (0 < (a : Int)) && late σ T me S ((1 : Nat) : Int)) = true → MB σ r'.2 T b mp mq me md L S (a : Int) ((1 : Nat) : Int) (hr : Int) (-1) (-1) (fun u v => σ (T + 15) (6 * u + v)))) := by
  obtain ⟨hTD, hTW, h58, hS, hH, hca⟩ := h
  obtain ⟨hT, h1, hm6, h3, hq5, hm, h14, hme, he, hh, h16, h17, h15⟩ := id hTW
  rw [Ok_bndO]
  refine (mo_plain_ok hTD.2.2.1 hTD.2.2.2.1).mono ?_
  rintro τ1 ⟨f1, q1, k1⟩
  have hT1 := TD_FrQ hTD f1
  obtain ⟨_, _, h40, hb, _, _, _, ⟨w1, w2, w3⟩, _, _, _, g6, _⟩ := id hT1
  obtain ⟨q47, q48, q49, q51, q52, q53⟩ := q1
  have hV : ∀ u v, u < 6 → v < 6 → bs τ1 b u v = Vq τ1 b u v := fun u v _ _ => by
    unfold Vq
    rw [if_neg (fun w => w.1 (by rw [q53]; decide))]
  refine (find_Z (what := (a : Int)) (t := 1) (hr := hr) (S := S) (Mc := fun u v => σ (T + 15) (6 * u + v)) hN hT1 hTW (by omega) (by rw [q47, ← g6.1.1]; exact hH) (by omega) (by rw [q48, ← g6.2.1]; exact hS) (by omega) (by rw [q49]; rfl) (by omega) q51 q52 (Or.inl (by rw [q53]; decide)) (fun D hD u v hu hv => D_eq hT1 (MT_congr hD hV (fun _ _ _ _ => rfl)) hu hv)).mono ?_
  rintro r' ⟨f2, k2, e, mb⟩
  exact ⟨FrQ_tr f1 f2, e, mb⟩
theorem C_best {N T b mp mq md mw me L S hr : Nat} {W : Nat → Int} {σ τ : ySt} (hN : 100000 ≤ N) (h : QI σ τ T b mp mq md mw me L S hr W) (a : Int) :
    Ok (cE_best N a σ) (fun r => Ok (mo_best N a τ) (fun r' => r'.1 = r.1 ∧ FrQ r'.2 τ ∧ (∀ i, (i < 60 ∨ (70 < i ∧ i < 78) ∨ 82 < i) → r.2 i = σ i) ∧ CA r.2 T mp mq me md L S hr)) := by
  obtain ⟨hTD, hTW, h58, hS, hH, hca⟩ := id h
  unfold cE_best mo_best
  rw [cE_isSort_eq, mo_isWhat_eq, bndO_s, bndO_s]
  by_cases c : 0 ≤ a ∧ a ≤ 2
  · obtain ⟨n, rfl⟩ : ∃ n : Nat, a = n := ⟨a.toNat, by omega⟩
    rw [if_pos c, if_neg (show ¬ (1 : Int) = 0 by decide), if_pos (show ¬ (1 : Int) = 0 by decide), Ok_swap]
    have e : (bndO (mo_plain τ) fun σ5 => bndR (mo_findBest N n σ5) fun r7 σ8 => some (r7, σ8)) = bndO (mo_plain τ) fun σ5 => mo_findBest N n σ5 := by
      cases mo_plain τ with
      | none => rfl
      | some x =>
        show (bndR (mo_findBest N n x) fun r7 σ8 => some (r7, σ8)) = mo_findBest N n x
        cases mo_findBest N n x with
        | none => rfl
        | some y => rfl
    rw [e]
    refine (find_pl hN h (show n < 3 by omega)).mono ?_
    rintro ⟨r', τ'⟩ ⟨f, e1, mb⟩
    dsimp only at f e1 mb ⊢
    rw [Ok_bndR]
    refine (bw_ok hN hTW hTD.2.2.2.2.2.2.2.2.2.1 h58 hS hH hca (show n < 3 by omega) mb).mono ?_
    rintro ⟨r, σ'⟩ ⟨b1, b2, b3, _, _⟩
    dsimp only at b1 b2 b3 ⊢
    rw [Ok_some]
    exact ⟨by rw [e1, b1], f, b2, b3⟩
  · rw [if_neg c, if_pos rfl, if_neg (fun w => w rfl), Ok_some, Ok_some]
    exact ⟨rfl, FrQ_rfl τ, fun _ _ => rfl, hca⟩
theorem bndO_R {α γ : Type} {x : Option α} {f : α → Option (Int × ySt)} {g : Int → ySt → Option γ} : (bndO x fun a => bndR (f a) g) = bndR (bndO x f) g := by
  cases x <;> rfl
theorem PTH_le {mp mq S h0 k j : Nat} {wk : Nat → Nat → Option Int} {law : Nat → Nat → Bool} {gn : Nat → Nat → Nat → Option Int} {p : Nat → Nat} (h : PTH mp mq S wk law gn h0 k p) (hj : j ≤ k) : PTH mp mq S wk law gn h0 j p := ⟨h.1, fun s hs => h.2 s (by omega)⟩
theorem PTH_lt {mp mq S h0 k : Nat} {wk : Nat → Nat → Option Int} {law : Nat → Nat → Bool} {gn : Nat → Nat → Nat → Option Int} {p : Nat → Nat} (h : PTH mp mq S wk law gn h0 k p) (hx : h0 < mp ^ mq) : ∀ s, s ≤ k → p s < mp ^ mq
  | 0, _ => by rw [h.1]; exact hx
  | s + 1, hs => by
    obtain ⟨Z, _, z2⟩ := h.2 s (by omega)
    exact z2.1
theorem C_bestAt {N T b mp mq md mw me L S hr : Nat} {W : Nat → Int} {σ τ : ySt} (hN : 100000 ≤ N) (h : QI σ τ T b mp mq md mw me L S hr W) (a s c : Int) :
    Ok (cE_bestAt N a s c σ) (fun r => Ok (mo_bestAt N a s c τ) (fun r' => r'.1 = r.1 ∧ FrQ r'.2 τ ∧ (∀ i, (i < 60 ∨ (70 < i ∧ i < 78) ∨ 82 < i) → r.2 i = σ i) ∧ CA r.2 T mp mq me md L S hr)) := by
  obtain ⟨hTD, hTW, h58, hS, hH, hca⟩ := id h
  obtain ⟨hT, h1, hm6, h3, hq5, hm, h14, hme, he, hh, h16, h17, h15⟩ := id hTW
  obtain ⟨_, h05, h40, hb, g1, g2, g3, ⟨w1, w2, w3⟩, wn, ft, _, g6, _⟩ := id hTD
  have none_ : Ok (some ((-1 : Int), σ)) (fun r => Ok (some ((-1 : Int), τ)) (fun r' => r'.1 = r.1 ∧ FrQ r'.2 τ ∧ (∀ i, (i < 60 ∨ (70 < i ∧ i < 78) ∨ 82 < i) → r.2 i = σ i) ∧ CA r.2 T mp mq me md L S hr)) := by
    rw [Ok_some, Ok_some]
    exact ⟨rfl, FrQ_rfl τ, fun _ _ => rfl, hca⟩
  have n10 : ¬ (1 : Int) = 0 := by decide
  unfold cE_bestAt mo_bestAt
  rw [cE_isSort_eq, mo_isWhat_eq, bndO_s, bndO_s]
  by_cases ca : 0 ≤ a ∧ a ≤ 2
  · obtain ⟨n, rfl⟩ : ∃ n : Nat, a = n := ⟨a.toNat, by omega⟩
    have hn3 : n < 3 := by omega
    rw [if_pos ca, if_neg n10, if_neg n10, chkT_pos hT h05, cE_isStroke_eq, bndO_s, h40, chkA_pos (by omega), Int.toNat_natCast, mo_isIn_eq, bndO_s, ← g6.2.1, hS]
    by_cases cs : 1 ≤ s ∧ s ≤ (S : Int)
    · obtain ⟨k, rfl⟩ : ∃ k : Nat, s = k := ⟨s.toNat, by omega⟩
      rw [if_pos cs, if_neg n10, if_neg n10, chkT_pos hT h05, hasPerson_ok hT h3, bndO_s, mo_isPerson_ok h40 hb g2.2.2 hq5, bndO_s]
      by_cases cc : 0 ≤ c ∧ c < mq
      · obtain ⟨w, rfl⟩ : ∃ w : Nat, c = w := ⟨c.toNat, by omega⟩
        have hw : w < mq := by omega
        rw [if_pos cc, if_pos n10, if_pos n10, Ok_swap, bndO_R, Ok_bndR]
        have hE : ∀ k, k < me → eW σ T k < mq := fun k hk => by
          have := (he k hk).1
          unfold eW
          omega
        refine (find_pl hN h hn3).mono ?_
        rintro ⟨r', τ'⟩ ⟨f, e1, mb⟩
        dsimp only at f e1 mb ⊢
        rw [Ok_swap, Ok_bndR]
        unfold cAn_bestPlace
        rw [Ok_bndR]
        refine (bw_ok hN hTW ft h58 hS hH hca hn3 mb).mono ?_
        rintro ⟨r, σ'⟩ ⟨b1, b2, b3, b4, b5⟩
        dsimp only at b1 b2 b3 b4 b5 ⊢
        have er : r' = r := by rw [e1, b1]
        by_cases cr : r = -1000000
        · rw [if_neg (fun q => q cr), Ok_some, Ok_some, if_neg (fun q => q (er.trans cr)), Ok_some]
          exact ⟨rfl, f, b2, b3⟩
        · have ix : ((k : Int) * 5 + (w : Int)).toNat = k * 5 + w := by omega
          obtain ⟨_, row⟩ := b3 n hn3 b4
          rw [b5] at row
          obtain ⟨pth, hP, hrow⟩ := row cr
          have eT : ∀ i, T ≤ i → i ≤ T + 19 → σ' i = σ i := fun i x y => b2 i (by omega)
          have hP' : PTH mp mq S (wkM (n : Int) (hr : Int) (fun u v => σ (T + 15) (6 * u + v))) (lawB σ T L md mp mq (-1) (-1)) (fun s m p => gnV σ T me (n : Int) ((1 : Nat) : Int) s m p) (enc mp (homeV σ T) mq) S pth := (PT_of eT).mp hP
          rw [if_pos cr, chkW_pos hn3, chkI_pos (by omega), chkI_pos (by omega), chkA_pos (by omega), ix, hrow k w (by omega) (by omega) hw, Ok_some, Ok_some, if_pos (fun q => cr (er.symm.trans q))]
          have lt : ¬ (decide (0 < (n : Int)) && late σ T me S ((1 : Nat) : Int)) = true := fun q => by
            apply cr
            rw [b1]
            unfold bZ bestZ
            rw [if_pos q]
          obtain ⟨Mn, hM, qf, ht⟩ := mb lt
          obtain ⟨⟨p1, p2, p3, p4, p5, p6, p7⟩, ⟨p8, p8a⟩, ⟨p9, p10⟩, ⟨pS, pS1⟩, ⟨p49, p49a⟩, ⟨p99, p99a⟩, pe, ph, p11, po⟩ := id qf
          have hv : ∀ m, m < mq → homeV σ T m < mp := fun m hm' => by
            have := (hh m hm').1
            unfold homeV
            omega
          have hx0 : enc mp (homeV σ T) mq < mp ^ mq := enc_lt mq hv
          have lt_ := PTH_lt hP' hx0
          rw [mo_homeState_ok (v := homeV σ T) hN p1 p2 p3 p4 p5 p6 (fun m hm' => ⟨hv m hm', by
            have := (hh m hm').1
            have := (ph m hm').1
            unfold homeV
            omega⟩), bndO_s]
          refine Ok_loopS2 (fun y z ν => ∃ j : Nat, z = (j : Int) + 1 ∧ j ≤ k ∧ (∀ i, i ≠ 126 → i ≠ 127 → i ≠ 131 → ν i = τ' i) ∧ y = ((pth j : Nat) : Int)) (fun _ z _ => (k + 1 - z.toNat : Nat)) ?_ N _ _ _ ⟨0, rfl, by omega, fun _ _ _ _ => rfl, by rw [hP'.1]⟩ (by omega)
          rintro g y z ν ⟨j, rfl, hj, i1, rfl⟩ rec
          have hqν := QF_of2 qf (τ' := ν) (fun i hi => i1 i (by omega) (by omega) (by omega))
          rw [Ok_ite]
          refine ⟨fun q => ?_, fun q => ?_⟩
          · have hjk : j = k := by omega
            subst hjk
            obtain ⟨⟨m1, m2, m3, m4, m5, m6, m7⟩, _⟩ := id hqν
            rw [Ok_bndO]
            refine (mo_layState_ok hN m1 m2 m3 m4 m5 m6 (lt_ j (by omega))).mono ?_
            rintro κ ⟨l1, l2, l3⟩
            rw [Ok_chkA, Ok_some, Int.toNat_natCast]
            have fκ : ∀ i, i ≠ 126 → i ≠ 127 → i ≠ 131 → κ i = τ' i := fun i x1 x2 x3 => by rw [l1 i x1 x2]; exact i1 i x1 x2 x3
            refine ⟨by omega, l2 w hw, FrQ_tr f ⟨fun i x1 x2 => fκ i (by omega) (by omega) (by omega), fun m _ => congrFun (fκ 92 (by decide) (by decide) (by decide)) m⟩, b2, b3⟩
          · obtain ⟨Z, z1, z2⟩ := hP'.2 j (by omega)
            rw [Ok_bndR]
            refine (mo_nextBest_ok (s := j) (a := pth j) hN hqν hM hE (fun j' x hj' hx' => by rw [i1 128 (by decide) (by decide) (by decide)]; exact ht j' x hj' hx') (lt_ j (by omega)) (by omega) z1).mono ?_
            rintro ⟨x', κ⟩ ⟨l1, x, l2, l3⟩
            dsimp only at l1 l2 ⊢
            rw [Ok_chkI]
            refine ⟨by omega, rec _ _ _ ⟨j + 1, by omega, by omega, fun i x1 x2 x3 => by rw [l1 i x1 x2 x3]; exact i1 i x1 x2 x3, ?_⟩ (by omega)⟩
            rw [l2, isF_uniq l3 z2]
      · rw [if_neg cc, if_neg (fun w => w rfl), if_neg (fun w => w rfl)]
        exact none_
    · rw [if_neg cs, if_pos rfl, if_pos rfl]
      exact none_
  · rw [if_neg ca, if_pos rfl, if_pos rfl]
    exact none_
