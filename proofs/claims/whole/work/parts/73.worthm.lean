/-! the reference's worth of a stroke: its calls -/
/-- what the reference asks of its bank for a stroke's worth -/
def WN (σ τ : ySt) (T b mp mq me : Nat) (what t : Int) (v : Nat → Int) : Prop := τ 92 40 = b ∧ b < 2 ∧ τ 99 b = me ∧ me ≤ 8 ∧ τ 97 b = mq ∧ mq ≤ 5 ∧ τ 92 49 = t ∧ (1 ≤ t ∧ t ≤ 8) ∧ τ 92 50 = what ∧ (0 ≤ what ∧ what ≤ 2) ∧ (∀ k, k < me → (σ (T + 11) k = τ 114 (8 * b + k) ∧ 0 ≤ σ (T + 11) k ∧ σ (T + 11) k < mq) ∧ (σ (T + 12) k = τ 115 (8 * b + k) ∧ 0 ≤ σ (T + 12) k ∧ σ (T + 12) k < mp) ∧ (σ (T + 13) k = τ 116 (8 * b + k) ∧ 1 ≤ σ (T + 13) k ∧ σ (T + 13) k ≤ 8) ∧ (σ (T + 14) k = τ 117 (8 * b + k) ∧ 0 ≤ σ (T + 14) k ∧ σ (T + 14) k ≤ 999)) ∧ (∀ n, n < mq → (σ (T + 8) n = τ 111 (5 * b + n) ∧ 0 ≤ σ (T + 8) n ∧ σ (T + 8) n < mp) ∧ (σ (T + 9) n = τ 112 (5 * b + n) ∧ 0 ≤ σ (T + 9) n ∧ σ (T + 9) n ≤ 99)) ∧ ∀ n, n < mq → τ 126 n = v n
theorem mul_rg {a c : Int} (ha : 1 ≤ a ∧ a ≤ 8) (hc : 1 ≤ c ∧ c ≤ 8) : -2147483648 ≤ a * c ∧ a * c < 2147483648 := by
  have h1 : 0 ≤ a * c := Int.mul_nonneg (by omega) (by omega)
  have h2 : a * c ≤ 8 * 8 := Int.mul_le_mul ha.2 hc.2 (by omega) (by omega)
  omega
theorem mo_isDone_ok {T b mp mq me k : Nat} {σ τ : ySt} {what t s : Int} {v : Nat → Int} (h : WN σ τ T b mp mq me what t v) (hk : k < me) : mo_isDone k s τ = some (if eX σ T t s v k then 1 else 0) := by
  obtain ⟨h40, hb, h99, hme, h97, hmq, h49, ht, h50, hw, he, hh, hv⟩ := h
  obtain ⟨⟨a1, a2, a3⟩, ⟨b1, b2, b3⟩, ⟨c1, c2, c3⟩, _⟩ := he k hk
  have ix : (8 * (b : Int) + (k : Int)).toNat = 8 * b + k := by omega
  have hm := mul_rg ⟨c2, c3⟩ ht
  have hvw : τ 126 (eW σ T k) = v (eW σ T k) := hv _ (by unfold eW; omega)
  unfold mo_isDone
  rw [h40, ix, ← a1, ← b1, ← c1, h49, chkI_pos (by omega), chkI_pos (by omega), chkA_pos (by omega), chkI_pos hm]
  unfold eX eD
  by_cases c : σ (T + 13) k * t = s
  · rw [if_neg (fun w => w c), chkI_pos (by omega), chkI_pos (by omega), chkA_pos (by omega), chkA_pos (by omega), chkI_pos (by omega), chkI_pos (by omega), chkA_pos (by omega)]
    show (if ¬ τ 126 (eW σ T k) = σ (T + 12) k then some 0 else some 1) = _
    rw [hvw]
    by_cases d : v (eW σ T k) = σ (T + 12) k
    · rw [if_neg (fun w => w d)]
      simp [c, d]
    · rw [if_pos d]
      simp [d]
  · rw [if_pos c]
    simp [c]
theorem mo_isAway_ok {T b mp mq me n : Nat} {σ τ : ySt} {what t : Int} {v : Nat → Int} (h : WN σ τ T b mp mq me what t v) (hn : n < mq) : mo_isAway n τ = some (if awy σ T v n then 1 else 0) := by
  obtain ⟨h40, hb, h99, hme, h97, hmq, h49, ht, h50, hw, he, hh, hv⟩ := h
  obtain ⟨⟨a1, a2, a3⟩, _⟩ := hh n hn
  have ix : (5 * (b : Int) + (n : Int)).toNat = 5 * b + n := by omega
  unfold mo_isAway awy
  rw [chkA_pos (by omega), h40, chkI_pos (by omega), chkI_pos (by omega), chkA_pos (by omega), ix, ← a1, Int.toNat_natCast, hv n hn]
  by_cases c : v n = σ (T + 8) n
  · rw [if_pos c]
    simp [c]
  · rw [if_neg c]
    simp [c]
theorem mo_isCompanion_ok {N T b mp mq me n : Nat} {σ τ : ySt} {what t s : Int} {v : Nat → Int} (hN : 100000 ≤ N) (h : WN σ τ T b mp mq me what t v) (hn : n < mq) : mo_isCompanion N n s τ = some (if cmp σ T me t s v n then 1 else 0) := by
  have ha := mo_isAway_ok h hn
  obtain ⟨h40, hb, h99, hme, h97, hmq, h49, ht, h50, hw, he, hh, hv⟩ := id h
  apply Ok_eq
  unfold mo_isCompanion
  rw [ha, bndO_s]
  unfold cmp
  by_cases c : awy σ T v n = true
  · rw [if_pos c, if_pos (by decide), c]
    refine Ok_loop1 (fun x => ∃ k : Nat, x = k ∧ k ≤ me ∧ bany (fun k => decide (eW σ T k = n) && eX σ T t s v k) k = false) (fun x => (me - x.toNat : Nat)) ?_ N _ ⟨0, rfl, by omega, rfl⟩ (by omega)
    rintro f x ⟨k, rfl, hk, hb0⟩ rec
    rw [h40, Ok_chkA, Int.toNat_natCast, h99, Ok_ite, Ok_some]
    refine ⟨by omega, fun q => ?_, fun q => ?_⟩
    · rw [show k = me from by omega] at hb0
      rw [hb0]
      simp
    · have hkm : k < me := by omega
      have ix : (8 * (b : Int) + (k : Int)).toNat = 8 * b + k := by omega
      obtain ⟨⟨a1, a2, a3⟩, _⟩ := he k hkm
      have hs : bany (fun k => decide (eW σ T k = n) && eX σ T t s v k) (k + 1) = (bany (fun k => decide (eW σ T k = n) && eX σ T t s v k) k || (decide (eW σ T k = n) && eX σ T t s v k)) := rfl
      rw [Ok_chkI, Ok_chkI, Ok_chkA, ix, ← a1]
      refine ⟨by omega, by omega, by omega, Ok_jq ((decide (eW σ T k = n) && eX σ T t s v k) = false) (fun q2 => ?_) (fun j hj => ?_)⟩
      · rw [Ok_chkI]
        exact ⟨by omega, rec _ ⟨k + 1, by omega, by omega, by rw [hs, hb0, q2]; rfl⟩ (by omega)⟩
      · rw [Ok_ite]
        have ew : (σ (T + 11) k = (n : Int)) ↔ eW σ T k = n := by
          unfold eW
          omega
        refine ⟨fun q2 => hj (by rw [show decide (eW σ T k = n) = false from decide_eq_false (fun w => q2 (ew.mpr w))]; rfl), fun q2 => ?_⟩
        have q3 := ew.mp (Classical.not_not.mp q2)
        rw [mo_isDone_ok h hkm, bndO_s, Ok_ite]
        by_cases d : eX σ T t s v k = true
        · rw [if_pos d]
          refine ⟨fun w => absurd w (by decide), fun _ => ?_⟩
          rw [Ok_some]
          have : bany (fun k => decide (eW σ T k = n) && eX σ T t s v k) me = true := (bany_iff me).mpr ⟨k, hkm, by simp [q3, d]⟩
          rw [this]
          simp
        · rw [if_neg d]
          exact ⟨fun _ => hj (by simp [d]), fun w => absurd rfl w⟩
  · rw [if_neg c, if_neg (fun w => w rfl), Ok_some]
    simp [c]
/-- a value in the reference: what can't be is GAP -/
def rpM (x : Int) (o : Option Int) : Prop := (o = none ∧ x = -1000000) ∨ ∃ a, o = some a ∧ x = a
theorem mo_worthNow_ok {N T b mp mq me : Nat} {σ τ : ySt} {what t s : Int} {v : Nat → Int} (hN : 100000 ≤ N) (h : WN σ τ T b mp mq me what t v) : Ok (mo_worthNow N s τ) (fun r => rpM r (wnV σ T me mq what t s v) ∧ ∀ a, wnV σ T me mq what t s v = some a → -1000 ≤ a ∧ a ≤ 8000) := by
  obtain ⟨h40, hb, h99, hme, h97, hmq, h49, ht, h50, hw, he, hh, hv⟩ := id h
  obtain ⟨fE, hfE⟩ : ∃ fE : Nat → Int, ∀ k, fE k = if decide (what = 0) && eX σ T t s v k then σ (T + 14) k else 0 := ⟨_, fun _ => rfl⟩
  obtain ⟨fP, hfP⟩ : ∃ fP : Nat → Int, ∀ n, fP n = (if decide (what = 0) && awy σ T v n then σ (T + 9) n else 0) + (if decide (what = 1) && cmp σ T me t s v n then 1 else 0) := ⟨_, fun _ => rfl⟩
  have hV : wnV σ T me mq what t s v = if decide (0 < what) && bany (fun k => eD σ T t s k && !(eX σ T t s v k)) me then none else some (isum fE me - isum fP mq) := by
    unfold wnV
    rw [isum_congr me (fun k _ => hfE k), isum_congr mq (fun n _ => hfP n)]
  have rE : ∀ k, k < me → 0 ≤ fE k ∧ fE k ≤ 999 := fun k hk => by
    rw [hfE]
    have := (he k hk).2.2.2
    split
    · omega
    · omega
  have rP : ∀ n, n < mq → 0 ≤ fP n ∧ fP n ≤ 100 := fun n hn => by
    rw [hfP]
    have := (hh n hn).2
    split <;> split <;> omega
  have sE : ∀ k, k ≤ me → 0 ≤ isum fE k ∧ isum fE k ≤ 999 * k := fun k hk => by
    have := isum_rg (c := 0) (d := 999) (by decide) (by decide) k (fun j hj => rE j (by omega))
    omega
  have sP : ∀ k, k ≤ mq → 0 ≤ isum fP k ∧ isum fP k ≤ 100 * k := fun k hk => by
    have := isum_rg (c := 0) (d := 100) (by decide) (by decide) k (fun j hj => rP j (by omega))
    omega
  have sEm := sE me (Nat.le_refl _)
  have sPm := sP mq (Nat.le_refl _)
  rw [hV]
  unfold mo_worthNow
  refine Ok_loop2 (fun x y => ∃ k : Nat, y = k ∧ k ≤ me ∧ x = isum fE k ∧ (decide (0 < what) && bany (fun k => eD σ T t s k && !(eX σ T t s v k)) k) = false) (fun _ y => (me - y.toNat : Nat)) ?_ N _ _ ⟨0, rfl, by omega, rfl, by show (decide (0 < what) && false) = false; exact Bool.and_false _⟩ (by omega)
  rintro f x y ⟨k, rfl, hk, rfl, hno⟩ rec
  have sEk := sE k hk
  rw [h40, Ok_chkA, Int.toNat_natCast, h99, Ok_ite]
  refine ⟨by omega, fun q => ?_, fun q => ?_⟩
  · rw [show k = me from by omega] at hno ⊢
    refine Ok_loop2 (fun x y => ∃ n : Nat, y = n ∧ n ≤ mq ∧ x = isum fE me - isum fP n) (fun _ y => (mq - y.toNat : Nat)) ?_ N _ _ ⟨0, rfl, by omega, by show _ = isum fE me - 0; omega⟩ (by omega)
    rintro g x y ⟨n, rfl, hn, rfl⟩ rec2
    have sPn := sP n hn
    rw [mo_personMany_ok h40 hb h97, bndO_s, Ok_ite, Ok_some]
    refine ⟨fun q2 => ?_, fun q2 => ?_⟩
    · rw [show n = mq from by omega, if_neg (by rw [hno]; decide)]
      refine ⟨Or.inr ⟨_, rfl, rfl⟩, fun a ha => ?_⟩
      have : isum fE me - isum fP mq = a := by injection ha
      omega
    · have hnm : n < mq := by omega
      have hfn := hfP n
      have rPn := rP n hnm
      have hsn : isum fP (n + 1) = isum fP n + fP n := rfl
      obtain ⟨_, b1, b2, b3⟩ := hh n hnm
      have ix : (5 * (b : Int) + (n : Int)).toNat = 5 * b + n := by omega
      refine Ok_jq1 (fun (y : Int) => y = if decide (what = 0) && awy σ T v n then σ (T + 9) n else 0) (fun y12 hy => ?_) (fun z hz => ?_)
      · rw [← hy] at hfn
        have hy0 : 0 ≤ y12 ∧ y12 ≤ 99 := by
          rw [hy]
          split
          · omega
          · omega
        rw [Ok_chkI]
        refine ⟨by omega, Ok_jq1 (fun (y : Int) => y = if decide (what = 1) && cmp σ T me t s v n then 1 else 0) (fun y15 hy2 => ?_) (fun z hz => ?_)⟩
        · rw [← hy2] at hfn
          have : y15 = 0 ∨ y15 = 1 := by
            rw [hy2]
            split
            · exact Or.inr rfl
            · exact Or.inl rfl
          rw [Ok_chkI, Ok_chkI]
          exact ⟨by omega, by omega, rec2 _ _ ⟨n + 1, by omega, by omega, by omega⟩ (by omega)⟩
        · rw [h50, Ok_ite]
          refine ⟨fun w1 => hz _ (by rw [show decide (what = 1) = false from by simp [w1]]; rfl), fun w1 => ?_⟩
          have w1' := Classical.not_not.mp w1
          rw [mo_isCompanion_ok hN h hnm, bndO_s, Ok_ite]
          by_cases d : cmp σ T me t s v n = true
          · rw [if_pos d]
            exact ⟨fun w => absurd w (by decide), fun _ => hz _ (by rw [d, w1']; rfl)⟩
          · rw [if_neg d]
            exact ⟨fun _ => hz _ (by simp [d]), fun w => absurd rfl w⟩
      · rw [h50, Ok_ite]
        refine ⟨fun w1 => hz _ (by rw [show decide (what = 0) = false from by simp [w1]]; rfl), fun w1 => ?_⟩
        have w1' := Classical.not_not.mp w1
        rw [mo_isAway_ok h hnm, bndO_s, Ok_ite]
        by_cases d : awy σ T v n = true
        · rw [if_pos d]
          refine ⟨fun w => absurd w (by decide), fun _ => ?_⟩
          rw [Ok_chkI, Ok_chkI, Ok_chkA, ix, ← b1]
          exact ⟨by omega, by omega, by omega, hz _ (by rw [d, w1']; rfl)⟩
        · rw [if_neg d]
          exact ⟨fun _ => hz _ (by simp [d]), fun w => absurd rfl w⟩
  · have hkm : k < me := by omega
    have hfk := hfE k
    have rEk := rE k hkm
    have hsk : isum fE (k + 1) = isum fE k + fE k := rfl
    obtain ⟨_, _, ⟨c1, c2, c3⟩, d1, d2, d3⟩ := he k hkm
    have ix : (8 * (b : Int) + (k : Int)).toNat = 8 * b + k := by omega
    have hm := mul_rg ⟨c2, c3⟩ ht
    have hs : bany (fun k => eD σ T t s k && !(eX σ T t s v k)) (k + 1) = (bany (fun k => eD σ T t s k && !(eX σ T t s v k)) k || (eD σ T t s k && !(eX σ T t s v k))) := rfl
    rw [mo_isDone_ok h hkm, bndO_s]
    refine Ok_jq ((decide (0 < what) && (eD σ T t s k && !(eX σ T t s v k))) = false) (fun q2 => ?_) (fun j hj => ?_)
    · have hno' : (decide (0 < what) && bany (fun k => eD σ T t s k && !(eX σ T t s v k)) (k + 1)) = false := by
        rw [hs, Bool.and_or_distrib_left, hno, q2]
        rfl
      refine Ok_jq1 (fun (y : Int) => y = fE k) (fun y33 hy => ?_) (fun z hz => ?_)
      · rw [Ok_chkI, Ok_chkI]
        exact ⟨by omega, by omega, rec _ _ ⟨k + 1, by omega, by omega, by omega, hno'⟩ (by omega)⟩
      · rw [h50, Ok_ite]
        refine ⟨fun w1 => hz _ (by rw [hfk, show decide (what = 0) = false from by simp [w1]]; rfl), fun w1 => ?_⟩
        have w1' := Classical.not_not.mp w1
        rw [Ok_ite]
        by_cases d : eX σ T t s v k = true
        · rw [if_pos d]
          refine ⟨fun w => absurd w (by decide), fun _ => ?_⟩
          rw [Ok_chkI, Ok_chkI, Ok_chkA, ix, ← d1]
          exact ⟨by omega, by omega, by omega, hz _ (by rw [hfk, d, w1']; rfl)⟩
        · rw [if_neg d]
          exact ⟨fun _ => hz _ (by rw [hfk]; simp [d]), fun w => absurd rfl w⟩
    · rw [h50, Ok_ite]
      refine ⟨fun w1 => hj (by rw [show decide (0 < what) = false from by simp; omega]; rfl), fun w1 => ?_⟩
      rw [Ok_chkI, Ok_chkI, Ok_chkA, ix, ← c1, h49, Ok_chkI, Ok_ite]
      refine ⟨by omega, by omega, by omega, hm, fun w2 => hj ?_, fun w2 => ?_⟩
      · rw [show eD σ T t s k = false from by unfold eD; simp [w2]]
        simp
      · have w2' := Classical.not_not.mp w2
        rw [Ok_ite]
        by_cases d : eX σ T t s v k = true
        · rw [if_pos d]
          exact ⟨fun _ => hj (by rw [d]; simp), fun w => absurd (by decide) w⟩
        · rw [if_neg d]
          refine ⟨fun w => absurd rfl w, fun _ => ?_⟩
          rw [Ok_some]
          have hb1 : bany (fun k => eD σ T t s k && !(eX σ T t s v k)) me = true := (bany_iff me).mpr ⟨k, hkm, by rw [show eD σ T t s k = true from by unfold eD; simp [w2']]; simp [d]⟩
          rw [hb1, show decide (0 < what) = true from by simp; omega, if_pos (by decide)]
          exact ⟨Or.inl ⟨rfl, rfl⟩, fun a ha => by injection ha⟩
