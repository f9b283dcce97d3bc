/-! states, sure, meet: the calls, in both -/
def cntB (f : Nat → Bool) : Nat → Int
  | 0 => 0
  | m + 1 => cntB f m + b01 (f m)
theorem cntB_rg (f : Nat → Bool) : ∀ m : Nat, 0 ≤ cntB f m ∧ cntB f m ≤ m
  | 0 => ⟨Int.le_refl 0, Int.le_refl 0⟩
  | m + 1 => by
    have := cntB_rg f m
    have h := b01_rg (f m)
    show 0 ≤ cntB f m + b01 (f m) ∧ cntB f m + b01 (f m) ≤ ((m + 1 : Nat) : Int)
    omega
theorem canBe_ok {mp mq S h s x : Nat} {τ : ySt} {gt : Nat → Nat → Bool} {law : Nat → Nat → Bool} (hs : s ≤ S) (hS : S ≤ 8) (hM : mp ^ mq ≤ 7776) (hx : x < mp ^ mq) (ha : AH τ mp mq gt law h s) (hb : BH τ mp mq S gt law h s) : mo_canBe s x τ = some (b01 (cbe mp mq S gt law h s x)) := by
  have ix : (7776 * (s : Int) + (x : Int)).toNat = 7776 * s + x := by omega
  unfold mo_canBe cbe
  rw [chkI_pos (by omega), chkI_pos (by omega), chkA_pos (by omega), ix, ha x hx, chkI_pos (by omega), chkI_pos (by omega), chkA_pos (by omega), hb x hx]
  cases ahd mp mq gt law h s x <;> cases bhd mp mq S gt law h (S - s) x <;> rfl
/-- what a question of states leaves of the class -/
def FrA (σ' σ : ySt) : Prop := (∀ i, i ≠ 58 → i ≠ 60 → i ≠ 61 → i ≠ 62 → i ≠ 63 → i ≠ 77 → (i < 78 ∨ 82 < i) → σ' i = σ i) ∧ ∀ k, k ≠ 13 → k ≠ 14 → σ' 58 k = σ 58 k
theorem FrA_rfl (σ : ySt) : FrA σ σ := ⟨fun _ _ _ _ _ _ _ _ => rfl, fun _ _ _ => rfl⟩
theorem CTr_c {σ τ : ySt} {nc mp : Nat} (ct : CTr σ τ nc mp) : σ 3 5 = nc ∧ nc ≤ 40 ∧ ∀ c, c < nc → (1 ≤ σ 4 c ∧ σ 4 c ≤ 8) ∧ (0 ≤ σ 5 c ∧ σ 5 c < mp) ∧ (0 ≤ σ 6 c ∧ σ 6 c ≤ 5) := ⟨ct.1, ct.2.2.1, fun c hc => by
  obtain ⟨a1, a2, a3, _⟩ := ct.2.2.2.2 c hc
  exact ⟨a1.2, a2.2, a3.2⟩⟩
theorem statesAt_ok {N T mp mq md me L S hr nc s : Nat} {W : Nat → Int} {k : Int} {σ τ : ySt} (hN : 100000 ≤ N) (hTW : TW σ T mp mq me) (ft : FT σ T mp md L W) (h58 : σ 58 0 = (T : Int) + 1) (hS : σ T 17 = S) (hH : σ T 16 = hr) (ct : CTr σ τ nc mp) (hal : AL σ T L md mp mq S hr nc) (hs : 1 ≤ s ∧ s ≤ S) :
    Ok (cAn_statesAt N s k σ) (fun r => ∃ A : Nat, (∀ c, c < nc → Nat.testBit A c = cnB σ k c) ∧ r.1 = cntB (fun x => cbe mp mq S (gtC σ T hr) (lawA σ T L md mp mq nc A) (enc mp (homeV σ T) mq) s x) (mp ^ mq) ∧ FrA r.2 σ ∧ DS r.2 T mp mq ∧ AL r.2 T L md mp mq S hr nc ∧ ∀ x, x < mp ^ mq → ∃ B : Nat, r.2 77 x = B ∧ B < 512 ∧ ∀ s, 1 ≤ s → s ≤ S → Nat.testBit B s = cbe mp mq S (gtC σ T hr) (lawA σ T L md mp mq nc A) (enc mp (homeV σ T) mq) s x) := by
  obtain ⟨hT, h1, hm6, h3, hq5, hm, h14, hme, he, hh, h16, h17, h15⟩ := id hTW
  obtain ⟨c1, c2, c3⟩ := CTr_c ct
  have hM := pow_le hm6 hq5
  unfold cAn_statesAt
  rw [Ok_bndO]
  refine (knownAt_ok hN c1 c2).mono ?_
  rintro r ⟨A, rfl, hA, hbits⟩
  rw [Ok_bndO]
  refine (findAlive_ok hN hTW ft h58 hS hH c1 c2 c3 hA hal).mono ?_
  rintro σ4 ⟨f1, f2, f3, f4, f5⟩
  obtain ⟨e1, e2, e3⟩ := VA_eq (σ := σ) (σ' := σ4) (T := T) (L := L) (md := md) (mp := mp) (mq := mq) (hr := hr) (nc := nc) (A := A) (fun i x y => f1 i (by omega) (by omega) (by omega) (by omega) (by omega) (by omega) (by omega)) (fun c' _ => by rw [f1 4 (by decide) (by decide) (by decide) (by decide) (by decide) (by decide) (by omega), f1 5 (by decide) (by decide) (by decide) (by decide) (by decide) (by decide) (by omega), f1 6 (by decide) (by decide) (by decide) (by decide) (by decide) (by decide) (by omega)]; exact ⟨rfl, rfl, rfl⟩)
  unfold VA at f5
  rw [e1, e2, e3] at f5
  obtain ⟨G, hG⟩ : ∃ G : Nat → Bool, G = fun x => cbe mp mq S (gtC σ T hr) (lawA σ T L md mp mq nc A) (enc mp (homeV σ T) mq) s x := ⟨_, rfl⟩
  refine Ok_loop2 (fun x y => ∃ u : Nat, y = u ∧ u ≤ mp ^ mq ∧ x = cntB G u) (fun _ y => (mp ^ mq - y.toNat : Nat)) ?_ N _ _ ⟨0, rfl, by omega, rfl⟩ (by omega)
  rintro g x y ⟨u, rfl, hu, rfl⟩ rec
  rw [f3.2.2.2.2.2.2.2.1, Ok_ite, Ok_some]
  refine ⟨fun q => ⟨A, hbits, by rw [← hG, show mp ^ mq = u by omega], ⟨f1, f2⟩, f3, f4, f5⟩, fun q => ?_⟩
  have hum : u < mp ^ mq := by omega
  obtain ⟨B, b1, b2, b3⟩ := f5 u hum
  have hc := cntB_rg G u
  have eb : b32and (b32shr (σ4 77 u) (s : Int)) 1 = b01 (G u) := by
    rw [b1, bit_at B s (by omega) b2, b3 s hs.1 hs.2, hG]
    rfl
  have hb := b01_rg (G u)
  rw [Ok_chkA, Int.toNat_natCast, eb, Ok_chkI, Ok_chkI]
  exact ⟨by omega, by omega, by omega, rec _ _ ⟨u + 1, by omega, by omega, rfl⟩ (by omega)⟩
theorem C_states {N T b mp mq md mw me L S hr nc : Nat} {W : Nat → Int} {σ τ : ySt} (hN : 100000 ≤ N) (h : QI σ τ T b mp mq md mw me L S hr W) (ct : CTr σ τ nc mp) (hal : AL σ T L md mp mq S hr nc) (a k : Int) :
    Ok (cE_states N a k σ) (fun r => Ok (mo_states N a k τ) (fun r' => r'.1 = r.1 ∧ FrQ r'.2 τ ∧ r'.2 92 50 = τ 92 50 ∧ FrA r.2 σ ∧ AL r.2 T L md mp mq S hr nc)) := by
  obtain ⟨hTD, hTW, h58, hS, hH, hca⟩ := id h
  obtain ⟨hT, h1, hm6, h3, hq5, hm, h14, hme, he, hh, h16, h17, h15⟩ := id hTW
  obtain ⟨_, h05, h40, hb, g1, g2, g3, w, wn, ft, g5, g6, g7, g8, g9, ru, hru, huu⟩ := id hTD
  have hM := pow_le hm6 hq5
  have n10 : ¬ (1 : Int) = 0 := by decide
  unfold cE_states mo_states
  rw [chkT_pos hT h05, cE_isStroke_eq, bndO_s, h40, chkA_pos (by omega), Int.toNat_natCast, mo_isIn_eq, bndO_s, ← g6.2.1, hS]
  by_cases ca : 1 ≤ a ∧ a ≤ (S : Int)
  · obtain ⟨s, rfl⟩ : ∃ s : Nat, a = s := ⟨a.toNat, by omega⟩
    rw [if_pos ca, if_neg n10, if_pos n10, bndR_id]
    refine (statesAt_ok hN hTW ft h58 hS hH ct hal (show 1 ≤ s ∧ s ≤ S by omega)).mono ?_
    rintro ⟨r, σ'⟩ ⟨A, a1, a2, a3, a4, a5, a6⟩
    dsimp only at a2 a3 a5 ⊢
    rw [Ok_bndO]
    refine (mo_findAll_ok (a := 1) (k := k) (ag := fun s x => agB σ mp mq nc A s x) hN hTD hTW hS hH ct (Or.inr ⟨n10, fun s x => agB_K a1⟩)).mono ?_
    rintro τ' ⟨b1, b2, b3, b4⟩
    obtain ⟨c1, c2⟩ := b4 s (by omega)
    obtain ⟨G, hG⟩ : ∃ G : Nat → Bool, G = fun x => cbe mp mq S (gtC σ T hr) (lawA σ T L md mp mq nc A) (enc mp (homeV σ T) mq) s x := ⟨_, rfl⟩
    refine Ok_loop2 (fun x y => ∃ u : Nat, y = u ∧ u ≤ mp ^ mq ∧ x = cntB G u) (fun _ y => (mp ^ mq - y.toNat : Nat)) ?_ N _ _ ⟨0, rfl, by omega, rfl⟩ (by omega)
    rintro g x y ⟨u, rfl, hu, rfl⟩ rec
    rw [FQ_n hN b3, bndO_s, Ok_ite, Ok_some]
    refine ⟨fun q => ⟨?_, b1, b2, a3, a5⟩, fun q => ?_⟩
    · dsimp only
      rw [a2, ← hG, show mp ^ mq = u by omega]
    · have hum : u < mp ^ mq := by omega
      have hc := cntB_rg G u
      have eb : b01 (cbe mp mq S (gtC σ T hr) (fun s x => lawB σ T L md mp mq (-1) (-1) s x && agB σ mp mq nc A s x) (enc mp (homeV σ T) mq) s u) = b01 (G u) := by
        rw [hG]
        rfl
      have hb := b01_rg (G u)
      rw [canBe_ok (show s ≤ S by omega) (by omega) hM hum c1 c2, bndO_s, eb]
      refine Ok_jq1 (fun (y : Int) => y = b01 (G u)) (fun y hy => ?_) (fun kk hkk => ?_)
      · rw [Ok_chkI, Ok_chkI, hy]
        exact ⟨by omega, by omega, rec _ _ ⟨u + 1, by omega, by omega, rfl⟩ (by omega)⟩
      · rw [Ok_ite]
        exact ⟨fun c => hkk _ c.symm, fun c => hkk _ (by omega)⟩
  · rw [if_neg ca, if_pos rfl, if_neg (fun w => w rfl), Ok_some, Ok_some]
    exact ⟨rfl, FrQ_rfl τ, rfl, FrA_rfl σ, hal⟩
theorem cntB_split (f g : Nat → Bool) : ∀ m : Nat, cntB (fun x => f x && g x) m + cntB (fun x => f x && !(g x)) m = cntB f m
  | 0 => rfl
  | m + 1 => by
    have ih := cntB_split f g m
    show cntB (fun x => f x && g x) m + b01 (f m && g m) + (cntB (fun x => f x && !(g x)) m + b01 (f m && !(g m))) = cntB f m + b01 (f m)
    have : b01 (f m && g m) + b01 (f m && !(g m)) = b01 (f m) := by cases f m <;> cases g m <;> rfl
    omega
theorem C_sure {N T b mp mq md mw me L S hr nc : Nat} {W : Nat → Int} {σ τ : ySt} (hN : 100000 ≤ N) (h : QI σ τ T b mp mq md mw me L S hr W) (ct : CTr σ τ nc mp) (hal : AL σ T L md mp mq S hr nc) (n p a k : Int) :
    Ok (cE_sure N n p a k σ) (fun r => Ok (mo_sure N n p a k τ) (fun r' => r'.1 = r.1 ∧ FrQ r'.2 τ ∧ r'.2 92 50 = τ 92 50 ∧ FrA r.2 σ ∧ AL r.2 T L md mp mq S hr nc)) := by
  obtain ⟨hTD, hTW, h58, hS, hH, hca⟩ := id h
  obtain ⟨hT, h1, hm6, h3, hq5, hm, h14, hme, he, hh, h16, h17, h15⟩ := id hTW
  obtain ⟨_, h05, h40, hb, g1, g2, g3, w, wn, ft, g5, g6, g7, g8, g9, ru, hru, huu⟩ := id hTD
  have hM := pow_le hm6 hq5
  have n10 : ¬ (1 : Int) = 0 := by decide
  have none_ : Ok (some ((-1 : Int), σ)) (fun r => Ok (some ((-1 : Int), τ)) (fun r' => r'.1 = r.1 ∧ FrQ r'.2 τ ∧ r'.2 92 50 = τ 92 50 ∧ FrA r.2 σ ∧ AL r.2 T L md mp mq S hr nc)) := by
    rw [Ok_some, Ok_some]
    exact ⟨rfl, FrQ_rfl τ, rfl, FrA_rfl σ, hal⟩
  unfold cE_sure mo_sure
  rw [chkT_pos hT h05, hasPerson_ok hT h3, bndO_s, mo_isPerson_ok h40 hb g2.2.2 hq5, bndO_s]
  by_cases cn' : 0 ≤ n ∧ n < mq
  · obtain ⟨v, rfl⟩ : ∃ v : Nat, n = v := ⟨n.toNat, by omega⟩
    have hv : v < mq := by omega
    rw [if_pos cn', if_neg n10, if_neg n10, chkT_pos hT h05, hasPlace_ok hT h1, bndO_s, mo_isPlace_ok h40 hb g1.2.2 hm6, bndO_s]
    by_cases cp : 0 ≤ p ∧ p < mp
    · obtain ⟨z, rfl⟩ : ∃ z : Nat, p = z := ⟨p.toNat, by omega⟩
      rw [if_pos cp, if_neg n10, if_neg n10, chkT_pos hT h05, cE_isStroke_eq, bndO_s, h40, chkA_pos (by omega), Int.toNat_natCast, mo_isIn_eq, bndO_s, ← g6.2.1, hS]
      by_cases ca : 1 ≤ a ∧ a ≤ (S : Int)
      · obtain ⟨s, rfl⟩ : ∃ s : Nat, a = s := ⟨a.toNat, by omega⟩
        rw [if_pos ca, if_pos n10, if_pos n10, Ok_bndR]
        refine (statesAt_ok hN hTW ft h58 hS hH ct hal (show 1 ≤ s ∧ s ≤ S by omega)).mono ?_
        rintro ⟨r, σ'⟩ ⟨A, a1, a2, a3, a4, a5, a6⟩
        dsimp only at a2 a3 a4 a5 a6 ⊢
        obtain ⟨G, hG⟩ : ∃ G : Nat → Bool, G = fun x => cbe mp mq S (gtC σ T hr) (lawA σ T L md mp mq nc A) (enc mp (homeV σ T) mq) s x := ⟨_, rfl⟩
        rw [← hG] at a2
        obtain ⟨I, hI⟩ : ∃ I : Nat → Bool, I = fun x => decide (dg mp mq x v = z) := ⟨_, rfl⟩
        have sp := cntB_split G I (mp ^ mq)
        have w1 := cntB_rg (fun x => G x && I x) (mp ^ mq)
        have w2 := cntB_rg (fun x => G x && !(I x)) (mp ^ mq)
        have hwith : cAn_statesWith N s v z σ' = some (cntB (fun x => G x && I x) (mp ^ mq)) := by
          apply Ok_eq
          unfold cAn_statesWith
          refine Ok_loop2 (fun x y => ∃ u : Nat, y = u ∧ u ≤ mp ^ mq ∧ x = cntB (fun x => G x && I x) u) (fun _ y => (mp ^ mq - y.toNat : Nat)) ?_ N _ _ ⟨0, rfl, by omega, rfl⟩ (by omega)
          rintro g x y ⟨u, rfl, hu, rfl⟩ rec
          rw [a4.2.2.2.2.2.2.2.1, Ok_ite, Ok_some]
          refine ⟨fun q => by rw [show mp ^ mq = u by omega], fun q => ?_⟩
          have hum : u < mp ^ mq := by omega
          obtain ⟨B, b1, b2, b3⟩ := a6 u hum
          have hc := cntB_rg (fun x => G x && I x) u
          have eb : b32and (b32shr (σ' 77 u) (s : Int)) 1 = b01 (G u) := by
            rw [b1, bit_at B s (by omega) b2, b3 s (by omega) (by omega), hG]
            rfl
          have hb := b01_rg (G u)
          have ub : cntB (fun x => G x && I x) (u + 1) = cntB (fun x => G x && I x) u + b01 (G u && I u) := rfl
          rw [placeIn_ok a4 hv hum, bndO_s]
          refine Ok_jq1 (fun (y : Int) => y = cntB (fun x => G x && I x) (u + 1)) (fun y hy => ?_) (fun kk hkk => ?_)
          · rw [Ok_chkI, hy]
            exact ⟨by omega, rec _ _ ⟨u + 1, by omega, by omega, rfl⟩ (by omega)⟩
          · rw [Ok_ite]
            refine ⟨fun c => hkk _ ?_, fun c => ?_⟩
            · have : I u = false := by rw [hI]; exact decide_eq_false (by omega)
              rw [ub, this, Bool.and_false]
              show _ = _ + (0 : Int)
              omega
            · have : I u = true := by rw [hI]; exact decide_eq_true (by omega)
              rw [Ok_chkA, Int.toNat_natCast, eb, Ok_chkI]
              refine ⟨by omega, by omega, hkk _ ?_⟩
              rw [ub, this, Bool.and_true]
        rw [hwith, bndO_s]
        have res : Ok (if ¬ cntB (fun x => G x && I x) (mp ^ mq) = 0 then if ¬ cntB (fun x => G x && I x) (mp ^ mq) = r then some ((1 : Int), σ') else some (2, σ') else some (0, σ')) (fun x => x = (if cntB (fun x => G x && I x) (mp ^ mq) = 0 then (0 : Int) else if cntB (fun x => G x && !(I x)) (mp ^ mq) = 0 then 2 else 1, σ')) := by
          by_cases c0 : cntB (fun x => G x && I x) (mp ^ mq) = 0
          · rw [if_neg (fun w => w c0), if_pos c0, Ok_some]
          · rw [if_pos c0, if_neg c0]
            by_cases c1 : cntB (fun x => G x && !(I x)) (mp ^ mq) = 0
            · rw [if_neg (show ¬ ¬ cntB (fun x => G x && I x) (mp ^ mq) = r by omega), if_pos c1, Ok_some]
            · rw [if_pos (show ¬ cntB (fun x => G x && I x) (mp ^ mq) = r by omega), if_neg c1, Ok_some]
        refine res.mono ?_
        rintro ⟨x1, x2⟩ hx
        injection hx with hx1 hx2
        subst hx2
        dsimp only
        rw [Ok_bndO]
        refine (mo_findAll_ok (a := 1) (k := k) (ag := fun s x => agB σ mp mq nc A s x) hN hTD hTW hS hH ct (Or.inr ⟨n10, fun s x => agB_K a1⟩)).mono ?_
        rintro τ' ⟨b1, b2, b3, b4⟩
        obtain ⟨c1, c2⟩ := b4 s (by omega)
        refine Ok_loopS3 (fun x y z0 ν => ∃ u : Nat, z0 = u ∧ u ≤ mp ^ mq ∧ x = cntB (fun x => G x && I x) u ∧ y = cntB (fun x => G x && !(I x)) u ∧ ∀ i, i ≠ 126 → i ≠ 127 → ν i = τ' i) (fun _ _ z0 _ => (mp ^ mq - z0.toNat : Nat)) ?_ N _ _ _ _ ⟨0, rfl, by omega, rfl, rfl, fun _ _ _ => rfl⟩ (by omega)
        rintro g x y z0 ν ⟨u, rfl, hu, rfl, rfl, j1⟩ rec
        have kν : KR ν τ' := fun i a b _ _ _ _ => j1 i a b
        have fν : FrQ ν τ := FrQ_tr b1 ⟨fun i x y => j1 i (by omega) (by omega), fun k _ => by rw [j1 92 (by decide) (by decide)]⟩
        have e50 : ν 92 50 = τ 92 50 := by rw [j1 92 (by decide) (by decide)]; exact b2
        have b3ν := FQ_of b3 kν
        rw [FQ_n hN b3ν, bndO_s, Ok_ite]
        refine ⟨fun q => ?_, fun q => ?_⟩
        · have hue : u = mp ^ mq := by omega
          subst hue
          rw [Ok_ite]
          refine ⟨fun q0 => ?_, fun q0 => ?_⟩
          · rw [if_neg q0] at hx1
            rw [Ok_ite, Ok_some, Ok_some]
            refine ⟨fun q1 => ⟨?_, fν, e50, a3, a5⟩, fun q1 => ⟨?_, fν, e50, a3, a5⟩⟩
            · rw [if_neg q1] at hx1
              exact hx1.symm
            · rw [if_pos (Classical.byContradiction q1)] at hx1
              exact hx1.symm
          · rw [if_pos (Classical.byContradiction q0)] at hx1
            rw [Ok_some]
            exact ⟨hx1.symm, fν, e50, a3, a5⟩
        · have hum : u < mp ^ mq := by omega
          have ub1 : cntB (fun x => G x && I x) (u + 1) = cntB (fun x => G x && I x) u + b01 (G u && I u) := rfl
          have ub2 : cntB (fun x => G x && !(I x)) (u + 1) = cntB (fun x => G x && !(I x)) u + b01 (G u && !(I u)) := rfl
          have v1 := cntB_rg (fun x => G x && I x) u
          have v2 := cntB_rg (fun x => G x && !(I x)) u
          have eb : b01 (cbe mp mq S (gtC σ T hr) (fun s x => lawB σ T L md mp mq (-1) (-1) s x && agB σ mp mq nc A s x) (enc mp (homeV σ T) mq) s u) = b01 (G u) := by
            rw [hG]
            rfl
          rw [canBe_ok (show s ≤ S by omega) (by omega) hM hum (by unfold AH; rw [j1 132 (by decide) (by decide)]; exact c1) (by unfold BH; rw [j1 133 (by decide) (by decide)]; exact c2), bndO_s, eb]
          refine Ok_jq3 (fun (x y : Int) (κ : ySt) => x = cntB (fun x => G x && I x) (u + 1) ∧ y = cntB (fun x => G x && !(I x)) (u + 1) ∧ ∀ i, i ≠ 126 → i ≠ 127 → κ i = τ' i) (fun x y κ hκ => ?_) (fun kk hkk => ?_)
          · rw [Ok_chkI]
            exact ⟨by omega, rec _ _ _ _ ⟨u + 1, by omega, by omega, hκ.1, hκ.2.1, hκ.2.2⟩ (by omega)⟩
          · rw [Ok_ite]
            refine ⟨fun c => ?_, fun c => ?_⟩
            · have gt' : G u = true := by
                cases e : G u with
                | true => rfl
                | false =>
                  rw [e] at c
                  exact absurd rfl c
              rw [Ok_bndO]
              refine (mo_layState_ok hN b3ν.1.1 hb b3ν.1.2.2.1 hm6 b3ν.1.2.2.2.2.1 hq5 hum).mono ?_
              rintro κ ⟨l1, l2, l3⟩
              have k1 : ∀ i, i ≠ 126 → i ≠ 127 → κ i = τ' i := fun i x y => (l1 i x y).trans (j1 i x y)
              rw [Ok_chkA, Int.toNat_natCast, l2 v hv]
              rw [gt', Bool.true_and] at ub1 ub2
              have hbI := b01_rg (I u)
              have hbJ := b01_rg (!(I u))
              refine ⟨by omega, Ok_jq1 (fun (y : Int) => y = b01 (I u)) (fun y hy => ?_) (fun jj hjj => ?_)⟩
              · subst hy
                rw [Ok_chkI, Ok_chkA]
                refine ⟨by omega, by omega, Ok_jq1 (fun (y : Int) => y = b01 (!(I u))) (fun y hy => ?_) (fun ll hll => ?_)⟩
                · subst hy
                  rw [Ok_chkI]
                  exact ⟨by omega, hkk _ _ _ ⟨ub1.symm, ub2.symm, k1⟩⟩
                · rw [Ok_ite]
                  refine ⟨fun c5 => hll _ ?_, fun c5 => hll _ ?_⟩
                  · have : I u = false := by rw [hI]; exact decide_eq_false (by omega)
                    rw [this]
                    rfl
                  · have : I u = true := by rw [hI]; exact decide_eq_true (by omega)
                    rw [this]
                    rfl
              · rw [Ok_ite]
                refine ⟨fun c5 => hjj _ ?_, fun c5 => hjj _ ?_⟩
                · have : I u = false := by rw [hI]; exact decide_eq_false (by omega)
                  rw [this]
                  rfl
                · have : I u = true := by rw [hI]; exact decide_eq_true (by omega)
                  rw [this]
                  rfl
            · have gf : G u = false := b01_0.mp (Classical.byContradiction c)
              rw [gf, Bool.false_and] at ub1 ub2
              refine hkk _ _ _ ⟨?_, ?_, j1⟩
              · rw [ub1]
                show _ = _ + (0 : Int)
                omega
              · rw [ub2]
                show _ = _ + (0 : Int)
                omega
      · rw [if_neg ca, if_neg (fun w => w rfl), if_neg (fun w => w rfl)]
        exact none_
    · rw [if_neg cp, if_pos rfl, if_pos rfl]
      exact none_
  · rw [if_neg cn', if_pos rfl, if_pos rfl]
    exact none_
