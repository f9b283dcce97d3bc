/-! best: what is kept of it -/
def bZ (σ : ySt) (T mp mq me md L S hr a : Nat) : Int := bestZ σ T mp mq me md L S (a : Int) ((1 : Nat) : Int) (hr : Int) (-1) (-1) (fun u v => σ (T + 15) (6 * u + v))
def PT (σ : ySt) (T mp mq me md L S hr a : Nat) (pth : Nat → Nat) : Prop := PTH mp mq S (wkM (a : Int) (hr : Int) (fun u v => σ (T + 15) (6 * u + v))) (lawB σ T L md mp mq (-1) (-1)) (fun s n p => gnV σ T me (a : Int) ((1 : Nat) : Int) s n p) (enc mp (homeV σ T) mq) S pth
theorem bZ_of {σ σ' : ySt} {T mp mq me md L S hr a : Nat} (e : ∀ i, T ≤ i → i ≤ T + 19 → σ' i = σ i) : bZ σ' T mp mq me md L S hr a = bZ σ T mp mq me md L S hr a := by
  unfold bZ bestZ late lawB opn rgt gnV eW eD homeV
  rw [e (T + 7) (by omega) (by omega), e (T + 8) (by omega) (by omega), e (T + 9) (by omega) (by omega), e (T + 10) (by omega) (by omega), e (T + 11) (by omega) (by omega), e (T + 12) (by omega) (by omega), e (T + 13) (by omega) (by omega), e (T + 14) (by omega) (by omega), e (T + 15) (by omega) (by omega), e (T + 18) (by omega) (by omega)]
theorem PT_of {σ σ' : ySt} {T mp mq me md L S hr a : Nat} {pth : Nat → Nat} (e : ∀ i, T ≤ i → i ≤ T + 19 → σ' i = σ i) : PT σ' T mp mq me md L S hr a pth ↔ PT σ T mp mq me md L S hr a pth := by
  unfold PT lawB opn rgt gnV eW eD homeV
  rw [e (T + 7) (by omega) (by omega), e (T + 8) (by omega) (by omega), e (T + 9) (by omega) (by omega), e (T + 10) (by omega) (by omega), e (T + 11) (by omega) (by omega), e (T + 12) (by omega) (by omega), e (T + 13) (by omega) (by omega), e (T + 14) (by omega) (by omega), e (T + 15) (by omega) (by omega), e (T + 18) (by omega) (by omega)]
def CA (σ : ySt) (T mp mq me md L S hr : Nat) : Prop := ∀ a : Nat, a < 3 → σ 65 a ≠ 0 → σ 66 a = bZ σ T mp mq me md L S hr a ∧ (σ 66 a ≠ -1000000 → ∃ pth : Nat → Nat, PT σ T mp mq me md L S hr a pth ∧ ∀ s n, 1 ≤ s → s ≤ S → n < mq → σ (68 + a) (s * 5 + n) = ((dg mp mq (pth s) n : Nat) : Int))
theorem chkW_pos {α : Type} {k : Nat → Option α} {a : Nat} (h : a < 3) : chkW ((a : Nat) : Int) k = k (68 + a) := by
  unfold chkW
  rw [if_pos (by omega), Int.toNat_natCast]
theorem bits_pl {σ : ySt} {T mp md L : Nat} {W : Nat → Int} (ft : FT σ T mp md L W) : ∀ p h, p < mp → h < 6 → ∃ B : Nat, σ (T + 16) (6 * p + h) = B ∧ B < 512 ∧ ∀ s, 1 ≤ s → s ≤ 8 → Nat.testBit B s = decide (opn σ T L md (-1) (-1) s p h ≠ 0) := by
  intro p h hp hh
  obtain ⟨B, b1, b2, b3⟩ := ft.2 p h hp hh
  refine ⟨B, b1, b2, fun s s1 s2 => ?_⟩
  rw [b3 s s1 s2]
  unfold opn
  rw [if_neg (by omega)]
  by_cases c : rgt σ T L md p h s = 0
  · simp [c]
  · simp [c]
theorem bw_ok {N T b mp mq md me L S hr a : Nat} {W : Nat → Int} {σ τ : ySt} (hN : 100000 ≤ N) (hTW : TW σ T mp mq me) (ft : FT σ T mp md L W) (h58 : σ 58 0 = (T : Int) + 1) (hS : σ T 17 = S) (hH : σ T 16 = hr) (hca : CA σ T mp mq me md L S hr) (ha : a < 3) (hbd : ¬ (decide (0 < (a : Int)) && late σ T me S ((1 : Nat) : Int)) = true → MB σ τ T b mp mq me md L S (a : Int) ((1 : Nat) : Int) (hr : Int) (-1) (-1) (fun u v => σ (T + 15) (6 * u + v))) :
    Ok (cAn_bestWorth N a σ) (fun r => r.1 = bZ σ T mp mq me md L S hr a ∧ (∀ i, (i < 60 ∨ (70 < i ∧ i < 78) ∨ 82 < i) → r.2 i = σ i) ∧ CA r.2 T mp mq me md L S hr ∧ r.2 65 a ≠ 0 ∧ r.2 66 a = r.1) := by
  obtain ⟨hT, h1, hm6, h3, hq5, hm, h14, hme, he, hh, h16, h17, h15⟩ := id hTW
  unfold cAn_bestWorth
  rw [Ok_chkA, Int.toNat_natCast]
  refine ⟨by omega, Ok_jq1 (fun (μ : ySt) => μ 66 a = bZ σ T mp mq me md L S hr a ∧ (∀ i, (i < 60 ∨ (70 < i ∧ i < 78) ∨ 82 < i) → μ i = σ i) ∧ CA μ T mp mq me md L S hr ∧ μ 65 a ≠ 0) (fun μ hμ => ?_) (fun kk hkk => ?_)⟩
  · rw [Ok_chkA, Ok_some]
    exact ⟨by omega, hμ.1, hμ.2.1, hμ.2.2.1, hμ.2.2.2, rfl⟩
  · rw [Ok_ite]
    refine ⟨fun c => hkk σ ⟨(hca a ha c).1, fun _ _ => rfl, hca, c⟩, fun c => ?_⟩
    have hS8 : S * 1 = S := Nat.mul_one S
    have hH1 : hr / 1 = hr := Nat.div_one hr
    rw [chkT_pos hT h58, Ok_bndO]
    refine (lay_ok (what := (a : Int)) (t := 1) (op := fun s p h => decide (opn σ T L md (-1) (-1) s p h ≠ 0)) hN hTW (by omega) hS hH (by omega) (bits_pl ft)).mono ?_
    rintro σ10 ⟨fr, _, hd, _⟩
    rw [hS8, hH1] at hd
    obtain ⟨d1, d2, d3, d4⟩ := hd (by omega)
    rw [Ok_bndR]
    refine (worth_Z (b := b) (W := W) (mw := 0) (τ := τ) hN hTW (by omega) (by omega) hbd (fr (T + 8) (by omega) (by omega) (by omega) (by omega) (by omega)) d1 d2 d3 d4).mono ?_
    rintro ⟨r12, σ13⟩ ⟨w1, w2, w3⟩
    dsimp only at w1 w2 w3 ⊢
    have w1' : r12 = bZ σ T mp mq me md L S hr a := w1
    rw [Ok_chkA, Ok_bnd]
    refine ⟨by omega, ?_⟩
    generalize hσ15 : yset σ13 66 a r12 = σ15
    have f15 : ∀ i, i ≠ 66 → σ15 i = σ13 i := fun i hi => by rw [← hσ15, yset_off i hi]
    have v15 : σ15 66 a = r12 := by rw [← hσ15, yset_at]
    have o15 : ∀ k, k ≠ a → σ15 66 k = σ 66 k := fun k hk => by rw [← hσ15, yset_ne (by omega), w2 66 (by decide) (by decide) (by decide) (by decide) (by decide), fr 66 (by decide) (by decide) (by decide) (by decide) (by decide)]
    have base : ∀ i, i ≠ 66 → (i < 60 ∨ (64 < i ∧ i < 78) ∨ 82 < i) → σ15 i = σ i := fun i hi hx => by
      rw [f15 i hi, w2 i (by omega) (by omega) (by omega) (by omega) (by omega), fr i (by omega) (by omega) (by omega) (by omega) (by omega)]
    rw [Ok_chkA]
    refine ⟨by omega, Ok_jq1 (fun (μ : ySt) => μ 66 a = r12 ∧ (∀ k, k ≠ a → μ 66 k = σ 66 k) ∧ (∀ i, i ≠ 66 → i ≠ 68 + a → (i < 60 ∨ (64 < i ∧ i < 78) ∨ 82 < i) → μ i = σ i) ∧ (r12 ≠ -1000000 → ∃ pth : Nat → Nat, PT σ T mp mq me md L S hr a pth ∧ ∀ s n, 1 ≤ s → s ≤ S → n < mq → μ (68 + a) (s * 5 + n) = ((dg mp mq (pth s) n : Nat) : Int))) (fun μ hμ => ?_) (fun k2 hk2 => ?_)⟩
    · obtain ⟨u1, u2, u3, u4⟩ := hμ
      rw [Ok_chkA, Ok_bnd]
      refine ⟨by omega, hkk _ ⟨by rw [yset_off 66 (by decide), u1, w1'], fun i hi => by rw [yset_off i (by omega)]; exact u3 i (by omega) (by omega) (by omega), ?_, by rw [yset_at]; decide⟩⟩
      have eT : ∀ i, T ≤ i → i ≤ T + 19 → yset μ 65 a 1 i = σ i := fun i x y => by rw [yset_off i (by omega)]; exact u3 i (by omega) (by omega) (by omega)
      intro a' ha' h65
      rw [bZ_of eT, yset_off 66 (by decide)]
      by_cases ca : a' = a
      · subst ca
        refine ⟨by rw [u1, w1'], fun hne => ?_⟩
        rw [u1] at hne
        obtain ⟨pth, q1, q2⟩ := u4 hne
        exact ⟨pth, (PT_of eT).mpr q1, fun s n s1 s2 hn => by rw [yset_off (68 + a') (by omega)]; exact q2 s n s1 s2 hn⟩
      · rw [yset_ne (by omega), u3 65 (by decide) (by omega) (by omega)] at h65
        obtain ⟨z1, z2⟩ := hca a' ha' h65
        rw [u2 a' ca]
        refine ⟨z1, fun hne => ?_⟩
        obtain ⟨pth, q1, q2⟩ := z2 hne
        exact ⟨pth, (PT_of eT).mpr q1, fun s n s1 s2 hn => by rw [yset_off (68 + a') (by omega), u3 (68 + a') (by omega) (by omega) (by omega)]; exact q2 s n s1 s2 hn⟩
    · rw [v15, Ok_ite]
      refine ⟨fun c2 => hk2 _ ⟨v15, o15, fun i x y z => base i x z, fun w => absurd c2 w⟩, fun c2 => ?_⟩
      -- the row
      have hz : ¬ (decide (0 < (a : Int)) && late σ T me S ((1 : Nat) : Int)) = true ∧ VV mp mq S (wkM (a : Int) (hr : Int) (fun u v => σ (T + 15) (6 * u + v))) (lawB σ T L md mp mq (-1) (-1)) (fun s y => osum (fun n => gnV σ T me (a : Int) ((1 : Nat) : Int) s n (dg mp mq y n)) 0 mq) S (enc mp (homeV σ T) mq) = some r12 := by
        unfold bestZ at w1
        by_cases lt : (decide (0 < (a : Int)) && late σ T me S ((1 : Nat) : Int)) = true
        · rw [if_pos lt] at w1
          exact absurd w1 c2
        · rw [if_neg lt] at w1
          refine ⟨lt, ?_⟩
          generalize VV mp mq S (wkM (a : Int) (hr : Int) (fun u v => σ (T + 15) (6 * u + v))) (lawB σ T L md mp mq (-1) (-1)) (fun s y => osum (fun n => gnV σ T me (a : Int) ((1 : Nat) : Int) s n (dg mp mq y n)) 0 mq) S (enc mp (homeV σ T) mq) = o at w1 ⊢
          cases o with
          | none => exact absurd w1 c2
          | some z =>
            have : r12 = z := w1
            rw [this]
      obtain ⟨Mn, _, _, hbo⟩ := hbd hz.1
      have d1' := DS_of d1 (σ' := σ15) (fun i hi => by rw [f15 i (by omega), w2 i (by omega) (by omega) (by omega) (by omega) (by omega)])
      have d2' := DG_of d2 (σ' := σ15) (fun i hi => by rw [f15 i (by omega), w2 i (by omega) (by omega) (by omega) (by omega) (by omega)])
      have hv : ∀ n, n < mq → σ15 (T + 8) n = ((homeV σ T n : Nat) : Int) ∧ homeV σ T n < mp := fun n hn => by
        have := (hh n hn).1
        rw [base (T + 8) (by omega) (by omega)]
        unfold homeV
        omega
      rw [Ok_chkA, chkW_pos ha, Ok_bndO]
      refine ⟨by omega, (layFirstRow_ok (c := 68 + a) hN (by omega) d1' d2' hv (fun x hx => by rw [f15 60 (by decide)]; exact (w3 hz.1).1 x hx) (fun x hx => by rw [f15 61 (by decide)]; exact (w3 hz.1).2 x hx) (fun j hj x hx => (hbo j x hj hx).2) hz.2).mono ?_⟩
      rintro σ31 ⟨g1, pth, g2, g3⟩
      exact hk2 _ ⟨by rw [g1 66 (by decide) (by decide) (by decide) (by decide) (by omega)]; exact v15, fun k hk => by rw [g1 66 (by decide) (by decide) (by decide) (by decide) (by omega)]; exact o15 k hk, fun i x y z => by rw [g1 i (by omega) (by omega) (by omega) (by omega) y]; exact base i x z, fun _ => ⟨pth, g2, g3⟩⟩
