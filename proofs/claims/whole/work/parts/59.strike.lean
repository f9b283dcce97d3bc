/-! a stroke in earnest -/
/-- how many of the first places are odd, where f says who stands where -/
def wrS (σ : ySt) (T L md mq : Nat) (f : Nat → Int) (s : Int) : Nat → Int
  | 0 => 0
  | k + 1 => wrS σ T L md mq f s k + (if rgt σ T L md k (cnt f mq k) s = 0 then 1 else 0)
theorem wrS_rg (σ : ySt) (T L md mq : Nat) (f : Nat → Int) (s : Int) : ∀ k : Nat, 0 ≤ wrS σ T L md mq f s k ∧ wrS σ T L md mq f s k ≤ k
  | 0 => ⟨Int.le_refl 0, Int.le_refl 0⟩
  | k + 1 => by
    have := wrS_rg σ T L md mq f s k
    unfold wrS
    split <;> omega
theorem wrS_congr {σ : ySt} {T L md mq : Nat} {f g : Nat → Int} {s : Int} (h : ∀ n, n < mq → f n = g n) : ∀ k : Nat, wrS σ T L md mq f s k = wrS σ T L md mq g s k
  | 0 => rfl
  | k + 1 => by
    unfold wrS
    rw [wrS_congr h k, cnt_congr mq (k : Int) h]
theorem strikeC {N T L md mp mq : Nat} {W : Nat → Int} {σ : ySt} {f : Nat → Int} {k od : Int} (hN : 100000 ≤ N) (hT : T = 13 ∨ T = 33) (h1 : σ (T + 1) 1 = mp) (hmp : mp ≤ 6) (h3 : σ (T + 3) 1 = mq) (hmq : mq ≤ 5) (ft : FT σ T mp md L W) (hk : σ 9 2 = k) (hk8 : 0 ≤ k ∧ k < 8) (hod : σ 9 3 = od) (hod2 : 0 ≤ od ∧ od ≤ 1000) (hf : ∀ n, n < mq → σ 11 n = f n) :
    Ok (cEa_strikeNow N 9 T σ) (fun r => r.1 = wrS σ T L md mq f (k + 1) mp ∧ (∀ i, i ≠ 9 → i ≠ 10 → r.2 i = σ i) ∧ (∀ j, j ≠ 2 → j ≠ 3 → r.2 9 j = σ 9 j) ∧ r.2 9 2 = k + 1 ∧ r.2 9 3 = od + wrS σ T L md mq f (k + 1) mp ∧ ∀ n, n < mq → r.2 10 n = f n) := by
  unfold cEa_strikeNow
  rw [chk_pos (Or.inl rfl), chk_pos hT, show ((0 : Int).toNat) = 0 from rfl, show ((5 : Int).toNat) = 5 from rfl, chkC_5, Ok_bnd]
  have k92 : ycpy σ (9 + 2) 0 (9 + 1) 0 5 9 = σ 9 := ycpy_off (by decide)
  rw [k92, hk, Ok_chkI, Ok_bnd]
  generalize hσ7 : yset (ycpy σ (9 + 2) 0 (9 + 1) 0 5) 9 2 (k + 1) = σ7
  have s7 : ∀ i, i ≠ 9 → i ≠ 10 → σ7 i = σ i := fun i a1 a2 => by rw [← hσ7, yset_off i a1, ycpy_off (by omega)]
  have s92 : σ7 9 2 = k + 1 := by rw [← hσ7, yset_at]
  have s9 : ∀ j, j ≠ 2 → σ7 9 j = σ 9 j := fun j hj => by rw [← hσ7, yset_ne (by omega), k92]
  have s10 : ∀ n, n < mq → σ7 10 n = f n := fun n hn => by
    rw [← hσ7, yset_ne (by omega), show (10 : Nat) = 9 + 1 from rfl, ycpy_at (by omega)]
    exact hf n hn
  refine ⟨by omega, Ok_loop2 (fun x y => ∃ p : Nat, y = p ∧ p ≤ mp ∧ x = wrS σ T L md mq f (k + 1) p) (fun _ y => (mp - y.toNat : Nat)) ?_ N _ _ ⟨0, rfl, by omega, rfl⟩ (by omega)⟩
  rintro g x y ⟨p, rfl, hp, rfl⟩ rec
  have hsk := wrS_rg σ T L md mq f (k + 1) p
  rw [s7 (T + 1) (by omega) (by omega), h1, Ok_ite]
  refine ⟨fun q => ?_, fun q => ?_⟩
  · have hpe : p = mp := by omega
    subst hpe
    rw [s9 3 (by omega), hod, Ok_chkI, Ok_bnd, Ok_some]
    exact ⟨by omega, rfl, fun i a1 a2 => by dsimp only; rw [yset_off i a1]; exact s7 i a1 a2, fun j a1 a2 => by dsimp only; rw [yset_ne (by omega)]; exact s9 j a1, by dsimp only; rw [yset_ne (by omega)]; exact s92, by dsimp only; exact yset_at, fun n hn => by dsimp only; rw [yset_ne (by omega)]; exact s10 n hn⟩
  · have hpp : p < mp := by omega
    have k5 : (yKd (9 + 1)).2 = 5 := by decide
    have hcc : cTw_crowd N T (9 + 1) ((0 : Nat) : Int) (p : Int) σ7 = some (cnt (fun n => σ7 (9 + 1) (0 + n)) mq (p : Int)) := cTw_crowd_ok hN hT (by rw [s7 (T + 3) (by omega) (by omega)]; exact h3) hmq ⟨by decide, by decide⟩ (by omega) (by omega)
    have hce : cnt (fun n => σ7 (9 + 1) (0 + n)) mq (p : Int) = cnt f mq (p : Int) := cnt_congr mq _ (fun n hn => by rw [Nat.zero_add, show 9 + 1 = 10 from rfl, s10 n hn])
    rw [hce] at hcc
    have hcg := cnt_rg f mq (p : Int)
    obtain ⟨hn, hhn⟩ : ∃ hn : Nat, cnt f mq (p : Int) = hn := ⟨(cnt f mq (p : Int)).toNat, by omega⟩
    obtain ⟨sk, hsk2⟩ : ∃ sk : Nat, k + 1 = sk := ⟨(k + 1).toNat, by omega⟩
    have hri : cTw_isRight T (p : Int) (hn : Int) (sk : Int) σ7 = some (if rgt σ T L md p hn sk = 0 then 0 else 1) := by
      have := FT_right hT hmp ft p hn sk hpp (by omega) (by omega) (by omega)
      unfold cTw_isRight at this ⊢
      rw [s7 (T + 16) (by omega) (by omega)]
      exact this
    have hw : wrS σ T L md mq f (k + 1) (p + 1) = wrS σ T L md mq f (k + 1) p + (if rgt σ T L md p hn sk = 0 then 1 else 0) := by
      show _ + (if rgt σ T L md p (cnt f mq p) (k + 1) = 0 then 1 else 0) = _
      rw [hhn, hsk2]
    have hcc' : cTw_crowd N T (9 + 1) 0 (p : Int) σ7 = some (cnt f mq (p : Int)) := hcc
    rw [hcc', bndO_s, hhn, s92, hsk2, hri, bndO_s]
    refine Ok_jq1 (fun (y : Int) => y = if rgt σ T L md p hn sk = 0 then 1 else 0) (fun y20 hy => ?_) (fun z hz => ?_)
    · have : y20 = 0 ∨ y20 = 1 := by
        rw [hy]
        split
        · exact Or.inr rfl
        · exact Or.inl rfl
      rw [← hsk2, Ok_chkI, Ok_chkI]
      refine ⟨by omega, by omega, rec _ _ ⟨p + 1, by omega, by omega, ?_⟩ (by omega)⟩
      rw [hw, hy]
    · rw [Ok_ite]
      by_cases cr : rgt σ T L md p hn sk = 0
      · rw [if_pos cr] at hz ⊢
        exact ⟨fun _ => hz _ rfl, fun w => absurd rfl w⟩
      · rw [if_neg cr] at hz ⊢
        exact ⟨fun w => absurd w (by decide), fun _ => hz _ rfl⟩
/-- all go where they are sent -/
def sdF (τ : ySt) (n : Nat) : Int := if τ 139 n < 0 then τ 138 n else τ 139 n
theorem strikeM {N T b mp mq md L : Nat} {σ τ : ySt} (hN : 100000 ≤ N) (h : RB9 σ τ T b mp md L) (h97 : τ 97 b = mq) (hmq : mq ≤ 5) (hk8 : 0 ≤ τ 92 73 ∧ τ 92 73 < 8) (hod : 0 ≤ τ 92 74 ∧ τ 92 74 ≤ 1000) (hf : ∀ n, n < mq → 0 ≤ sdF τ n ∧ sdF τ n < mp) :
    Ok (mo_strike N τ) (fun r => r.1 = wrS σ T L md mq (sdF τ) (τ 92 73 + 1) mp ∧ (∀ i, i ≠ 92 → i ≠ 123 → i ≠ 127 → i ≠ 138 → i ≠ 139 → r.2 i = τ i) ∧ (∀ k, k ≠ 73 → k ≠ 74 → r.2 92 k = τ 92 k) ∧ r.2 92 73 = τ 92 73 + 1 ∧ r.2 92 74 = τ 92 74 + wrS σ T L md mq (sdF τ) (τ 92 73 + 1) mp ∧ ∀ n, n < mq → r.2 138 n = sdF τ n ∧ r.2 139 n = -1) := by
  obtain ⟨h40, hb, h95, hmp, g7, g9, ru, h105⟩ := id h
  unfold mo_strike
  rw [Ok_ite]
  refine ⟨fun _ => ?_, fun q => by omega⟩
  rw [Ok_chkI, Ok_bnd]
  refine ⟨by omega, ?_⟩
  generalize hτ3 : yset τ 92 73 (τ 92 73 + 1) = τ3
  have t3 : ∀ i, i ≠ 92 → τ3 i = τ i := fun i hi => by rw [← hτ3, yset_off i hi]
  have t73 : τ3 92 73 = τ 92 73 + 1 := by rw [← hτ3, yset_at]
  have t92 : ∀ k, k ≠ 73 → τ3 92 k = τ 92 k := fun k hk => by rw [← hτ3, yset_ne (by omega)]
  refine Ok_loopS1 (fun x ρ => ∃ k : Nat, x = k ∧ k ≤ mq ∧ (∀ i, i ≠ 138 → i ≠ 139 → ρ i = τ3 i) ∧ (∀ n, n < k → ρ 138 n = sdF τ n ∧ ρ 139 n = -1) ∧ ∀ n, k ≤ n → ρ 138 n = τ 138 n ∧ ρ 139 n = τ 139 n) (fun x _ => (mq - x.toNat : Nat)) ?_ N _ _ ⟨0, rfl, by omega, fun _ _ _ => rfl, fun n hn => absurd hn (Nat.not_lt_zero n), fun n _ => by rw [t3 138 (by decide), t3 139 (by decide)]; exact ⟨rfl, rfl⟩⟩ (by omega)
  rintro k x ρ ⟨m, rfl, hm, i1, i3, i4⟩ rec
  have e40 : ρ 92 40 = b := by rw [i1 92 (by decide) (by decide), t92 40 (by decide)]; exact h40
  rw [mo_personMany_ok e40 hb (by rw [i1 97 (by decide) (by decide), t3 97 (by decide)]; exact h97), bndO_s, Ok_ite]
  refine ⟨fun q => ?_, fun q => ?_⟩
  · have hme : m = mq := by omega
    subst hme
    rw [Ok_bndO]
    refine (mo_layStands_ok hN e40 hb (by rw [i1 97 (by decide) (by decide), t3 97 (by decide)]; exact h97) hmq (fun n hn => by rw [(i3 n hn).1]; have := hf n hn; omega)).mono ?_
    rintro μ ⟨j1, j2⟩
    have hcs : ∀ p : Int, cnt (ρ 138) m p = cnt (sdF τ) m p := fun p => cnt_congr m p (fun n hn => (i3 n hn).1)
    refine Ok_loopS2 (fun x y ν => ∃ p : Nat, y = p ∧ p ≤ mp ∧ x = wrS σ T L md m (sdF τ) (τ 92 73 + 1) p ∧ (∀ i, i ≠ 123 → i ≠ 127 → ν i = ρ i) ∧ ν 127 = μ 127) (fun _ y _ => (mp - y.toNat : Nat)) ?_ N _ _ _ ⟨0, rfl, by omega, rfl, fun i _ a => j1 i a, rfl⟩ (by omega)
    rintro k x y ν ⟨p, rfl, hp, rfl, l1, l2⟩ rec
    have E : ∀ i, i ≠ 92 → i ≠ 123 → i ≠ 127 → i ≠ 138 → i ≠ 139 → ν i = τ i := fun i a1 a2 a3 a4 a5 => by rw [l1 i a2 a3, i1 i a4 a5, t3 i a1]
    have E92 : ν 92 = τ3 92 := by rw [l1 92 (by decide) (by decide), i1 92 (by decide) (by decide)]
    have n40 : ν 92 40 = b := by rw [E92, t92 40 (by decide)]; exact h40
    rw [mo_placeMany_ok n40 hb (by rw [E 95 (by decide) (by decide) (by decide) (by decide) (by decide)]; exact h95), bndO_s, Ok_ite]
    have hsm := wrS_rg σ T L md m (sdF τ) (τ 92 73 + 1) p
    refine ⟨fun q2 => ?_, fun q2 => ?_⟩
    · have hpe : p = mp := by omega
      subst hpe
      rw [E92, t92 74 (by decide), Ok_chkI, Ok_bnd, Ok_some]
      refine ⟨by omega, rfl, fun i a1 a2 a3 a4 a5 => by dsimp only; rw [yset_off i a1]; exact E i a1 a2 a3 a4 a5, fun k a1 a2 => by dsimp only; rw [yset_ne (by omega), E92, t92 k a1], by dsimp only; rw [yset_ne (by omega), E92]; exact t73, by dsimp only; exact yset_at, fun n hn => by dsimp only; rw [yset_ne (by omega), yset_ne (by omega), l1 138 (by decide) (by decide), l1 139 (by decide) (by decide)]; exact i3 n hn⟩
    · have hpp : p < mp := by omega
      have hcg := cnt_rg (sdF τ) m (p : Int)
      obtain ⟨hn, hhn⟩ : ∃ hn : Nat, cnt (sdF τ) m (p : Int) = hn := ⟨(cnt (sdF τ) m (p : Int)).toNat, by omega⟩
      have hw : wrS σ T L md m (sdF τ) (τ 92 73 + 1) (p + 1) = wrS σ T L md m (sdF τ) (τ 92 73 + 1) p + (if rgt σ T L md p hn (τ 92 73 + 1) = 0 then 1 else 0) := by
        show _ + (if rgt σ T L md p (cnt (sdF τ) m p) (τ 92 73 + 1) = 0 then 1 else 0) = _
        rw [hhn]
      rw [Ok_chkA, Int.toNat_natCast, l2, j2 p (by omega), hcs, hhn, E92, t73, Ok_bndR]
      refine ⟨by omega, (mo_isRight_ok (σ := σ) (T := T) (L := L) (mp := mp) (md := md) (s := τ 92 73 + 1) (h := hn) hN hb n40 (G7_of g7 rfl (E 106 (by decide) (by decide) (by decide) (by decide) (by decide))) hmp (G9_of g9 rfl (E 113 (by decide) (by decide) (by decide) (by decide) (by decide)) (Nat.le_refl _)) (RU_of ru rfl rfl (by rw [E 118 (by decide) (by decide) (by decide) (by decide) (by decide)]) (E 119 (by decide) (by decide) (by decide) (by decide) (by decide)) (E 120 (by decide) (by decide) (by decide) (by decide) (by decide))) (by rw [E 105 (by decide) (by decide) (by decide) (by decide) (by decide)]; exact h105) hpp (by omega) (by omega)).mono ?_⟩
      rintro ⟨r, ν'⟩ ⟨a1, a2⟩
      dsimp only at a1 a2 ⊢
      refine Ok_jq1 (fun (y : Int) => y = if rgt σ T L md p hn (τ 92 73 + 1) = 0 then 1 else 0) (fun y27 hy => ?_) (fun z hz => ?_)
      · have : y27 = 0 ∨ y27 = 1 := by
          rw [hy]
          split
          · exact Or.inr rfl
          · exact Or.inl rfl
        rw [Ok_chkI, Ok_chkI]
        exact ⟨by omega, by omega, rec _ _ _ ⟨p + 1, by omega, by omega, by rw [hw, hy], fun i x1 x2 => by rw [a2 i x1]; exact l1 i x1 x2, by rw [a2 127 (by decide)]; exact l2⟩ (by omega)⟩
      · rw [a1, Ok_ite]
        exact ⟨fun q6 => hz _ (by rw [if_pos q6]), fun q6 => hz _ (by rw [if_neg q6])⟩
  · have hmm := i4 m (Nat.le_refl m)
    rw [Ok_chkA, Int.toNat_natCast]
    refine ⟨by omega, Ok_jq1 (fun (ρ' : ySt) => (∀ i, i ≠ 138 → ρ' i = ρ i) ∧ ρ' 138 m = sdF τ m ∧ ∀ n, n ≠ m → ρ' 138 n = ρ 138 n) (fun ρ' hρ => ?_) (fun j hj => ?_)⟩
    · obtain ⟨o1, o2, o3⟩ := hρ
      rw [Ok_chkA, Ok_bnd, Ok_chkI]
      refine ⟨by omega, by omega, rec _ _ ⟨m + 1, by omega, by omega, fun i a2 a3 => by rw [yset_off i a3, o1 i a2]; exact i1 i a2 a3, fun n hn => ?_, fun n hn => ?_⟩ (by omega)⟩
      · by_cases c : n = m
        · subst c
          rw [yset_ne (by omega), yset_at]
          exact ⟨o2, rfl⟩
        · rw [yset_ne (by omega), yset_ne (by omega), o3 n c, o1 139 (by decide)]
          exact i3 n (by omega)
      · rw [yset_ne (by omega), yset_ne (by omega), o3 n (by omega), o1 139 (by decide)]
        exact i4 n (by omega)
    · rw [hmm.2, Ok_ite]
      refine ⟨fun q2 => hj _ ⟨fun _ _ => rfl, by unfold sdF; rw [if_pos q2]; exact hmm.1, fun _ _ => rfl⟩, fun q2 => ?_⟩
      rw [Ok_chkA, Ok_chkA, Ok_bnd]
      exact ⟨by omega, by omega, hj _ ⟨fun i hi => yset_off i hi, by unfold sdF; rw [yset_at, if_neg q2], fun n hn => yset_ne (by omega)⟩⟩
theorem C_strike {N T b mp mq md mw me L : Nat} {W : Nat → Int} {σ τ : ySt} (hN : 100000 ≤ N) (h : TD σ τ T b mp mq md mw me L W) (ea : EAr σ 9 (τ 138) (τ 139) (τ 92 73) (τ 92 74) mp mq) :
    Ok (cE_strike N σ) (fun r => Ok (mo_strike N τ) (fun r' => r'.1 = r.1 ∧ (∀ i, i ≠ 9 → i ≠ 10 → r.2 i = σ i) ∧ (∀ k, k ≠ 2 → k ≠ 3 → r.2 9 k = σ 9 k) ∧ ((∀ i, i ≠ 92 → i ≠ 123 → i ≠ 127 → i ≠ 138 → i ≠ 139 → r'.2 i = τ i) ∧ ∀ k, k ≠ 73 → k ≠ 74 → r'.2 92 k = τ 92 k) ∧ EAr r.2 9 (r'.2 138) (r'.2 139) (r'.2 92 73) (r'.2 92 74) mp mq)) := by
  have h9 := TD_RB9 h
  obtain ⟨hT, h05, h40, hb, g1, g2, g3, hw, wn, ft, _⟩ := id h
  obtain ⟨b1, b2, b3, b4, b5, b6, b7⟩ := ea
  have hmp := g1.2.1
  have hmq := g2.2.1
  unfold cE_strike
  rw [b1]
  by_cases c8 : τ 92 73 = 8
  · rw [if_neg (by omega), Ok_some]
    unfold mo_strike
    rw [if_neg (fun w => w c8), Ok_some]
    exact ⟨rfl, fun _ _ _ => rfl, fun _ _ _ => rfl, ⟨fun _ _ _ _ _ _ => rfl, fun _ _ _ => rfl⟩, b1, b2, b3, b4, b5, b6, b7⟩
  · rw [if_pos (by omega), chkT_pos hT h05, Ok_bndR]
    have hsd : ∀ n, n < mq → 0 ≤ sdF τ n ∧ sdF τ n < mp := fun n hn => by
      have := b7 n hn
      unfold sdF
      split
      · omega
      · omega
    have hod : 0 ≤ τ 92 74 ∧ τ 92 74 ≤ 1000 := by omega
    refine Ok2_of (x := cEa_strikeNow N 9 T σ) (Q := fun a r' => Ok (some (a.1, a.2)) (fun r => r'.1 = r.1 ∧ (∀ i, i ≠ 9 → i ≠ 10 → r.2 i = σ i) ∧ (∀ k, k ≠ 2 → k ≠ 3 → r.2 9 k = σ 9 k) ∧ ((∀ i, i ≠ 92 → i ≠ 123 → i ≠ 127 → i ≠ 138 → i ≠ 139 → r'.2 i = τ i) ∧ ∀ k, k ≠ 73 → k ≠ 74 → r'.2 92 k = τ 92 k) ∧ EAr r.2 9 (r'.2 138) (r'.2 139) (r'.2 92 73) (r'.2 92 74) mp mq)) (strikeC (f := sdF τ) hN hT g1.1.1 hmp g2.1.1 hmq ft b1 (by omega) b4 hod (fun n hn => (b7 n hn).2.2.2)) (strikeM hN h9 g2.2.2 hmq (by omega) hod hsd) ?_ |>.mono ?_
    · rintro ⟨r, σ'⟩ ⟨r', τ'⟩ ⟨c1, c2, c3, c4, c5, c6⟩ ⟨d1, d2, d3, d4, d5, d6⟩
      dsimp only at *
      have hsm := wrS_rg σ T L md mq (sdF τ) (τ 92 73 + 1) mp
      rw [Ok_some]
      refine ⟨by rw [c1, d1], c2, c3, ⟨d2, d3⟩, by dsimp only; rw [c4, d4], by omega, by omega, by dsimp only; rw [c5, d5], by omega, by omega, fun n hn => ?_⟩
      dsimp only
      rw [(d6 n hn).1, (d6 n hn).2, if_pos (show (-1 : Int) < 0 by decide)]
      refine ⟨c6 n hn, hsd n hn, Or.inl (by decide), ?_⟩
      rw [c2 11 (by decide) (by decide)]
      exact (b7 n hn).2.2.2
    · rintro ⟨r, σ'⟩ hh
      rw [Ok_some]
      refine hh.mono (fun r' hr' => ?_)
      rw [Ok_some] at hr'
      exact hr'
