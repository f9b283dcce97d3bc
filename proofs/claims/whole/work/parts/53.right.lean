/-! is it right: the reference's answer, and the class's bits -/
theorem CE_letter {x c z : Int} (h : CE x c z) : (c = 126 ∧ x = -116) ∨ ((c = 110 ∧ 0 ≤ z ∧ z ≤ 9999 ∧ x = z) ∨ (c = 104 ∧ x = -117) ∨ (c = 115 ∧ x = -109) ∨ (c = 112 ∧ x = -100) ∨ (c = 100 ∧ x = -118)) ∨ (OE x c ∧ c ≠ 126 ∧ (c < 97 ∨ 122 < c) ∧ dl x = -1) := by
  rcases h with h | h | h | h | h | h
  · exact Or.inr (Or.inl (Or.inl h))
  · exact Or.inr (Or.inl (Or.inr (Or.inl h)))
  · exact Or.inr (Or.inl (Or.inr (Or.inr (Or.inl h))))
  · exact Or.inr (Or.inl (Or.inr (Or.inr (Or.inr (Or.inl h)))))
  · exact Or.inr (Or.inl (Or.inr (Or.inr (Or.inr (Or.inr h)))))
  · have h' := h
    rcases h with ⟨rfl, rfl⟩ | ⟨rfl, rfl⟩ | ⟨rfl, rfl⟩ | ⟨rfl, rfl | rfl | rfl | rfl | rfl | rfl | rfl⟩
    · exact Or.inr (Or.inr ⟨h', by decide, by decide, by decide⟩)
    · exact Or.inr (Or.inr ⟨h', by decide, by decide, by decide⟩)
    · exact Or.inl ⟨rfl, rfl⟩
    all_goals exact Or.inr (Or.inr ⟨h', by decide, by decide, by decide⟩)
theorem CE_rg {x c z : Int} (h : CE x c z) : -118 ≤ x ∧ x ≤ 9999 := by
  rcases h with ⟨_, h1, h2, h3⟩ | ⟨_, h⟩ | ⟨_, h⟩ | ⟨_, h⟩ | ⟨_, h⟩ | ⟨_, h⟩ | ⟨_, h⟩ | ⟨_, h⟩ | ⟨rfl, rfl | rfl | rfl | rfl | rfl | rfl | rfl⟩
  all_goals omega
theorem mo_letter_eq (c : Int) (σ : ySt) : mo_isLetter c σ = some (if c < 97 ∨ 122 < c then 0 else 1) := by
  unfold mo_isLetter
  by_cases h : c < 97
  · rw [if_pos h, if_pos (Or.inl h)]
  · rw [if_neg h]
    by_cases g : c > 122
    · rw [if_pos g, if_pos (Or.inr g)]
    · rw [if_neg g, if_neg (by omega)]
/-- right by the town's text: not empty, or by the rule -/
def rgt (σ : ySt) (T L md : Nat) (p h s : Int) : Int := if ¬ σ (T + 7) p.toNat = 0 ∧ 0 < h then 0 else rv (σ (T + 18)) L h s p (cnt (σ (T + 10)) md p)
theorem mo_isRight_ok {N T b L mp md : Nat} {σ τ : ySt} {s : Int} {p h : Nat} (hN : 100000 ≤ N) (hb : b < 2) (h40 : τ 92 40 = b) (g7 : G7 σ τ T b mp) (hmp : mp ≤ 6) (g9 : G9 σ τ T b mp md) (ru : RU σ τ T b L) (h105 : τ 105 b = if L = 0 then 0 else 1) (hp : p < mp) (hh : h ≤ 5) (hs : 1 ≤ s ∧ s ≤ 8) :
    Ok (mo_isRight N p h s τ) (fun r => r.1 = rgt σ T L md p h s ∧ ∀ i, i ≠ 123 → r.2 i = τ i) := by
  obtain ⟨hL, h118, hL4, hce, w, hd⟩ := ru
  have e106 : τ 106 (6 * b + p) = σ (T + 7) p := (g7 p hp).1.symm
  have ix : ((6 : Int) * (b : Int) + (p : Int)).toNat = 6 * b + p := by omega
  have e113 := g9.2 p (by omega)
  unfold mo_isRight rgt
  rw [h40, ix, e106, Ok_chkI, Ok_chkI, Ok_chkA, Int.toNat_natCast, Int.toNat_natCast]
  refine ⟨by omega, by omega, by omega, ?_⟩
  refine Ok_jq (σ (T + 7) p = 0 ∨ (h : Int) ≤ 0) (fun hq => ?_) (fun j hj => ?_)
  · have hneg : ¬ (¬ σ (T + 7) p = 0 ∧ 0 < (h : Int)) := by omega
    rw [if_neg hneg, Ok_chkA, Ok_ite, h105]
    unfold rv
    refine ⟨by omega, fun q => ?_, fun q => ?_⟩
    · have hL0 : L ≠ 0 := by
        intro e
        rw [if_pos e] at q
        exact q rfl
      rw [if_neg hL0] at hd ⊢
      generalize hcd : σ (T + 18) = c at *
      generalize hg : cnt (σ (T + 10)) md p = G at *
      rw [Ok_chkI]
      refine ⟨by omega, ?_⟩
      refine Ok_loopS2 (fun x8 x9 ρ => ∃ i : Nat, x9 = ((400 * b + i : Nat) : Int) ∧ i ≤ L ∧ x8 = dp c i ∧ (∀ k, k ≠ 123 → ρ k = τ k) ∧ (∀ j : Nat, (j : Int) < dp c i → ρ 123 j = ev c h s p G i j)) (fun _ x9 _ => (400 * b + L - x9.toNat : Nat)) ?_ N _ _ _ ⟨0, by omega, by omega, rfl, fun _ _ => rfl, fun j hj => absurd hj (by show ¬ (j : Int) < 0; omega)⟩ (by omega)
      rintro k x8 x9 ρ ⟨i, rfl, hi, rfl, i1, i2⟩ rec
      rw [i1 92 (by decide), h40, Int.toNat_natCast, i1 118 (by decide), h118, Int.toNat_natCast, i1 119 (by decide), Ok_chkA, Ok_ite]
      refine ⟨by omega, fun q2 => ?_, fun q2 => ?_⟩
      · have : i = L := by omega
        subst this
        have h00 : ρ 123 0 = ev c h s p G i 0 := i2 0 (by omega)
        rw [Ok_chkA, show ((0 : Int).toNat) = 0 from rfl, h00, Ok_ite, Ok_some, Ok_some]
        exact ⟨by omega, fun q3 => ⟨by rw [if_pos q3], i1⟩, fun q3 => ⟨by rw [if_neg q3], i1⟩⟩
      have hiL : i < L := by omega
      have hw := w i hiL
      have hp0 := dp_pos w i (by omega)
      have hp1 := dp_le w i (by omega)
      have hci := hce i hiL
      have hdl : dp c (i + 1) = dp c i + dl (c i) := rfl
      rw [Ok_chkA]
      refine ⟨by omega, ?_⟩
      refine Ok_jq2 (fun y ρ' => y = dp c (i + 1) ∧ (∀ k, k ≠ 123 → ρ' k = τ k) ∧ (∀ j : Nat, (j : Int) < dp c (i + 1) → ρ' 123 j = ev c h s p G (i + 1) j)) (fun y11 ρ' hy => ?_) (fun j13 hj => ?_)
      · rw [Ok_chkI]
        exact ⟨by omega, rec _ _ _ ⟨i + 1, by omega, by omega, hy.1, hy.2.1, hy.2.2⟩ (by omega)⟩
      · rw [Ok_ite]
        rcases CE_letter hci with ⟨hc, hx⟩ | hlet | ⟨hoe, h126, hlt, hdlx⟩
        · refine ⟨fun q3 => absurd hc q3, fun _ => ?_⟩
          have e : dl (c i) = 0 := by rw [hx]; rfl
          have h1 := hw.2.1 e
          have old := i2 (dp c i - 1).toNat (by omega)
          rw [Ok_chkI, Ok_chkI, Ok_chkA, old]
          refine ⟨by omega, by omega, by omega, ?_⟩
          refine Ok_jq1 (fun y => y = if ev c h s p G i (dp c i - 1).toNat = 0 then 1 else 0) (fun y49 hy => ?_) (fun x hx => ?_)
          · rw [Ok_chkA, Ok_bnd]
            refine ⟨by omega, hj _ _ ⟨by omega, fun k hk => by rw [yset_off k hk]; exact i1 k hk, fun j hjj => ?_⟩⟩
            show _ = if dl (c i) = 1 then _ else if dl (c i) = 0 then _ else _
            rw [if_neg (by omega), if_pos e]
            by_cases c1 : (j : Int) = dp c i - 1
            · rw [if_pos c1, show (dp c i - 1).toNat = j from by omega, yset_at, hy, show (dp c i - 1).toNat = j from by omega]
            · rw [if_neg c1, yset_ne (by omega)]
              exact i2 j (by omega)
          · rw [Ok_ite]
            exact ⟨fun q4 => hx _ (by rw [if_neg q4]), fun q4 => hx _ (by rw [if_pos (Classical.not_not.mp q4)])⟩
        · have hl : ¬ (τ 119 (400 * b + i) < 97 ∨ 122 < τ 119 (400 * b + i)) ∧ τ 119 (400 * b + i) ≠ 126 := by omega
          refine ⟨fun _ => ?_, fun q3 => absurd (Classical.not_not.mp q3) hl.2⟩
          rw [mo_letter_eq, bndO_s, if_neg hl.1, Ok_ite]
          refine ⟨fun q4 => absurd q4 (by decide), fun _ => ?_⟩
          have e1 : dl (c i) = 1 := by
            rcases hlet with ⟨_, h1, h2, h3⟩ | ⟨_, h1⟩ | ⟨_, h1⟩ | ⟨_, h1⟩ | ⟨_, h1⟩
            · rw [h3]
              unfold dl
              rw [if_pos h1]
            all_goals (rw [h1]; rfl)
          have h39 := hw.1 e1
          have hwo : mo_worthOf ((400 * b + i : Nat) : Int) p h s ρ = some (lv (c i) h s p G) := by
            unfold mo_worthOf lv
            rw [chkA_pos (by omega), Int.toNat_natCast, i1 119 (by decide), i1 120 (by decide), i1 92 (by decide), i1 113 (by decide), h40, ix, e113]
            rcases hlet with ⟨hc, h1, h2, h3⟩ | ⟨hc, h1⟩ | ⟨hc, h1⟩ | ⟨hc, h1⟩ | ⟨hc, h1⟩
            · rw [hc, if_neg (by decide), if_pos rfl, chkA_pos (by omega), if_pos (by omega), h3]
            · rw [hc, if_pos rfl, h1, if_neg (by decide), if_neg (by decide), if_neg (by decide), if_pos rfl]
            · rw [hc, if_neg (by decide), if_neg (by decide), if_neg (by decide), if_pos rfl, h1, if_neg (by decide), if_neg (by decide), if_pos rfl]
            · rw [hc, if_neg (by decide), if_neg (by decide), if_pos rfl, h1, if_neg (by decide), if_pos rfl]
            · rw [hc, if_neg (by decide), if_neg (by decide), if_neg (by decide), if_neg (by decide), h1, if_neg (by decide), if_neg (by decide), if_neg (by decide), if_neg (by decide)]
              unfold chkI
              rw [if_pos (by omega), if_pos (by omega), chkA_pos (by omega)]
          rw [hwo, bndO_s, Ok_chkA, Ok_bnd, Ok_chkI]
          refine ⟨by omega, by omega, hj _ _ ⟨by omega, fun k hk => by rw [yset_off k hk]; exact i1 k hk, fun j hjj => ?_⟩⟩
          show _ = if dl (c i) = 1 then _ else _
          rw [if_pos e1]
          by_cases c1 : (j : Int) = dp c i
          · rw [if_pos c1, show (dp c i).toNat = j from by omega, yset_at]
          · rw [if_neg c1, yset_ne (by omega)]
            exact i2 j (by omega)
        · refine ⟨fun _ => ?_, fun q3 => absurd (Classical.not_not.mp q3) h126⟩
          have h2 := hw.2.2 hdlx
          have old1 := i2 (dp c i - 2).toNat (by omega)
          have old2 := i2 ((dp c i - 2).toNat + 1) (by omega)
          have ix1 : (dp c i + (-1) - 1).toNat = (dp c i - 2).toNat := by omega
          have ix2 : (dp c i + (-1)).toNat = (dp c i - 2).toNat + 1 := by omega
          rw [mo_letter_eq, bndO_s, if_pos hlt, Ok_ite]
          refine ⟨fun _ => ?_, fun q4 => absurd rfl q4⟩
          rw [Ok_chkI, Ok_chkI, Ok_chkI, Ok_chkA, Ok_chkA, ix1, ix2, old1, old2, mo_two_eq hoe h126, bndO_s, Ok_chkA, Ok_bnd]
          refine ⟨by omega, by omega, by omega, by omega, by omega, by omega, hj _ _ ⟨by omega, fun k hk => by rw [yset_off k hk]; exact i1 k hk, fun j hjj => ?_⟩⟩
          show _ = if dl (c i) = 1 then _ else if dl (c i) = 0 then _ else _
          rw [if_neg (by omega), if_neg (by omega)]
          by_cases c1 : (j : Int) = dp c i - 2
          · rw [if_pos c1, show (dp c i - 2).toNat = j from by omega, yset_at]
          · rw [if_neg c1, yset_ne (by omega)]
            exact i2 j (by omega)
    · have hL0 : L = 0 := by
        by_cases e : L = 0
        · exact e
        · rw [if_neg e] at q
          exact absurd (by decide) q
      have h2 := Int.tmod_two_eq (h : Int)
      rw [if_pos hL0, Ok_chk, Ok_chkI, Ok_ite, Ok_some, Ok_some]
      refine ⟨by decide, by omega, fun q2 => ⟨by rw [if_neg q2], fun _ _ => rfl⟩, fun q2 => ⟨by rw [if_pos (Classical.not_not.mp q2)], fun _ _ => rfl⟩⟩
  · rw [Ok_ite]
    refine ⟨fun q => hj (Or.inl q), fun q => ?_⟩
    rw [Ok_ite]
    refine ⟨fun q2 => hj (Or.inr q2), fun q2 => ?_⟩
    rw [Ok_some, if_pos ⟨q, by omega⟩]
    exact ⟨rfl, fun _ _ => rfl⟩
theorem cTw_dogsAt_ok {N T md : Nat} {σ : ySt} (hN : 100000 ≤ N) (hT : T = 13 ∨ T = 33) (h : σ (T + 5) 1 = md) (hm : md ≤ 3) (p : Int) : cTw_dogsAt N T p σ = some (cnt (σ (T + 10)) md p) := by
  apply Ok_eq
  unfold cTw_dogsAt
  rw [Ok_chk, h]
  refine ⟨hT, Ok_loop2 (fun x y => ∃ k : Nat, y = k ∧ k ≤ md ∧ x = cnt (σ (T + 10)) k p) (fun _ y => (md - y.toNat : Nat)) ?_ N _ _ ⟨0, rfl, by omega, rfl⟩ (by omega)⟩
  rintro f x y ⟨k, rfl, hk, rfl⟩ rec
  have hc := cnt_rg (σ (T + 10)) k p
  have hs : cnt (σ (T + 10)) (k + 1) p = cnt (σ (T + 10)) k p + (if σ (T + 10) k = p then 1 else 0) := rfl
  rw [Ok_ite, Ok_some]
  refine ⟨fun q => by rw [show k = md from by omega], fun q => ?_⟩
  rw [Ok_chkA, Int.toNat_natCast]
  refine ⟨by omega, Ok_jq1 (fun y => y = if σ (T + 10) k = p then 1 else 0) (fun y7 hy => ?_) (fun z hz => ?_)⟩
  · rw [Ok_chkI, Ok_chkI]
    have : y7 = 0 ∨ y7 = 1 := by
      rw [hy]
      split
      · exact Or.inr rfl
      · exact Or.inl rfl
    exact ⟨by omega, by omega, rec _ _ ⟨k + 1, by omega, by omega, by omega⟩ (by omega)⟩
  · rw [Ok_ite]
    exact ⟨fun q2 => hz _ (by rw [if_neg q2]), fun q2 => hz _ (by rw [if_pos (Classical.not_not.mp q2)])⟩
theorem bit_or (k : Nat) (s : Nat) (hs : 1 ≤ s ∧ s ≤ 8) (hk : k < 2 ^ s) : b32or (k : Int) (b32shl 1 (s : Int)) = ((k + 2 ^ s : Nat) : Int) := by
  have key : ∀ s : Fin 9, ∀ k : Fin 256, k.val < 2 ^ s.val → b32or ((k.val : Nat) : Int) (b32shl 1 ((s.val : Nat) : Int)) = ((k.val + 2 ^ s.val : Nat) : Int) := by decide +kernel
  have h8 : 2 ^ s ≤ 256 := by
    have : ∀ s : Fin 9, 2 ^ s.val ≤ 256 := by decide
    exact this ⟨s, by omega⟩
  exact key ⟨s, by omega⟩ ⟨k, by omega⟩ hk
theorem bit_at (k : Nat) (s : Nat) (hs : s ≤ 8) (hk : k < 512) : b32and (b32shr (k : Int) (s : Int)) 1 = if Nat.testBit k s then 1 else 0 := by
  have key : ∀ s : Fin 9, ∀ k : Fin 512, b32and (b32shr ((k.val : Nat) : Int) ((s.val : Nat) : Int)) 1 = if Nat.testBit k.val s.val then 1 else 0 := by decide +kernel
  exact key ⟨s, by omega⟩ ⟨k, hk⟩
