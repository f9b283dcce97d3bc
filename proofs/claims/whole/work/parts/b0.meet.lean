/-! meet: the call, in both -/
def prB (mp mq a b c x : Nat) : Bool := decide (dg mp mq x a = c) && (decide (dg mp mq x b = c) && decide (cn (dg mp mq x) mq c = 2))
def fmZ (g : Nat → Bool) (S : Nat) : Int := if fi g S = -1 then -1 else fi g S + 1
theorem C_meet {N T b0 mp mq md mw me L S hr nc : Nat} {W : Nat → Int} {σ τ : ySt} (hN : 100000 ≤ N) (h : QI σ τ T b0 mp mq md mw me L S hr W) (ct : CTr σ τ nc mp) (hal : AL σ T L md mp mq S hr nc) (a b c : Int) :
    Ok (cE_meet N a b c σ) (fun r => Ok (mo_meet N a b c τ) (fun r' => r'.1 = r.1 ∧ FrQ r'.2 τ ∧ r'.2 92 50 = τ 92 50 ∧ FrA r.2 σ ∧ AL r.2 T L md mp mq S hr nc)) := by
  obtain ⟨hTD, hTW, h58, hS, hH, hca⟩ := id h
  obtain ⟨hT, h1, hm6, h3, hq5, hm, h14, hme, he, hh, h16, h17, h15⟩ := id hTW
  obtain ⟨_, h05, h40, hb, g1, g2, g3, w, wn, ft, g5, g6, g7, g8, g9, ru, hru, huu⟩ := id hTD
  obtain ⟨ct1, ct2, ct3⟩ := CTr_c ct
  have hM := pow_le hm6 hq5
  have n10 : ¬ (1 : Int) = 0 := by decide
  have none_ : Ok (some ((-1 : Int), σ)) (fun r => Ok (some ((-1 : Int), τ)) (fun r' => r'.1 = r.1 ∧ FrQ r'.2 τ ∧ r'.2 92 50 = τ 92 50 ∧ FrA r.2 σ ∧ AL r.2 T L md mp mq S hr nc)) := by
    rw [Ok_some, Ok_some]
    exact ⟨rfl, FrQ_rfl τ, rfl, FrA_rfl σ, hal⟩
  unfold cE_meet mo_meet
  rw [chkT_pos hT h05, hasPerson_ok hT h3, bndO_s, mo_isPerson_ok h40 hb g2.2.2 hq5, bndO_s]
  by_cases ca : 0 ≤ a ∧ a < mq
  · obtain ⟨u, rfl⟩ : ∃ u : Nat, a = u := ⟨a.toNat, by omega⟩
    have hu : u < mq := by omega
    rw [if_pos ca, if_neg n10, if_neg n10, chkT_pos hT h05, hasPerson_ok hT h3, bndO_s, mo_isPerson_ok h40 hb g2.2.2 hq5, bndO_s]
    by_cases cb : 0 ≤ b ∧ b < mq
    · obtain ⟨v, rfl⟩ : ∃ v : Nat, b = v := ⟨b.toNat, by omega⟩
      have hv : v < mq := by omega
      rw [if_pos cb, if_neg n10, if_neg n10]
      by_cases ce : (u : Int) = (v : Int)
      · rw [if_pos ce, if_pos ce]
        exact none_
      · rw [if_neg ce, if_neg ce, chkT_pos hT h05, hasPlace_ok hT h1, bndO_s, mo_isPlace_ok h40 hb g1.2.2 hm6, bndO_s]
        by_cases cp : 0 ≤ c ∧ c < mp
        · obtain ⟨z, rfl⟩ : ∃ z : Nat, c = z := ⟨c.toNat, by omega⟩
          have hz : z < mp := by omega
          rw [if_pos cp, if_pos n10, if_pos n10, bndR_id]
          unfold cAn_firstMeeting
          have fa := findAlive_ok (A := 0) hN hTW ft h58 hS hH ct1 ct2 ct3 (Nat.pow_pos (by decide)) hal
          rw [show ((0 : Nat) : Int) = 0 from rfl] at fa
          rw [Ok_bndO]
          refine fa.mono ?_
          rintro σ2 ⟨f1, f2, f3, f4, f5⟩
          obtain ⟨e1, e2, e3⟩ := VA_eq (σ := σ) (σ' := σ2) (T := T) (L := L) (md := md) (mp := mp) (mq := mq) (hr := hr) (nc := nc) (A := 0) (fun i x y => f1 i (by omega) (by omega) (by omega) (by omega) (by omega) (by omega) (by omega)) (fun c' _ => by rw [f1 4 (by decide) (by decide) (by decide) (by decide) (by decide) (by decide) (by omega), f1 5 (by decide) (by decide) (by decide) (by decide) (by decide) (by decide) (by omega), f1 6 (by decide) (by decide) (by decide) (by decide) (by decide) (by decide) (by omega)]; exact ⟨rfl, rfl, rfl⟩)
          unfold VA at f5
          rw [e1, e2, e3] at f5
          obtain ⟨G, hG⟩ : ∃ G : Nat → Nat → Bool, G = fun s x => cbe mp mq S (gtC σ T hr) (lawA σ T L md mp mq nc 0) (enc mp (homeV σ T) mq) s x := ⟨_, rfl⟩
          have f5' : ∀ x, x < mp ^ mq → ∃ B : Nat, σ2 77 x = B ∧ B < 512 ∧ ∀ s, 1 ≤ s → s ≤ S → Nat.testBit B s = G s x := by rw [hG]; exact f5
          obtain ⟨I, hI⟩ : ∃ I : Nat → Bool, ∀ x, I x = prB mp mq u v z x := ⟨_, fun _ => rfl⟩
          obtain ⟨mt, hmt⟩ : ∃ mt : Nat → Bool, ∀ j, mt j = bany (fun x => I x && G (j + 1) x) (mp ^ mq) := ⟨_, fun _ => rfl⟩
          -- the class
          have cls : Ok (loop2 (fun k5 x3 x4 =>
              if x4 ≥ (σ2 78 3) then
                loop2 (fun k9 x7 x8 =>
                  chkT (σ2 58 0) fun T10 =>
                  if x8 > (σ2 T10 17) then
                    some ((-1 : Int), σ2)
                  else
                    if ¬ (b32and (b32shr x7 x8) 1) = 1 then
                      chkI (x8 + 1) <|
                      k9 x7 (x8 + 1)
                    else
                      some (x8, σ2)) N x3 1
              else
                bndO (cDy_placeIn x4 u σ2) fun r17 =>
                bnd (fun (y18 : Int) =>
                  chkI (x4 + 1) <|
                  k5 y18 (x4 + 1)) fun j19 =>
                if ¬ r17 = z then
                  j19 x3
                else
                  bndO (cDy_placeIn x4 v σ2) fun r23 =>
                  if ¬ r23 = z then
                    j19 x3
                  else
                    bndO (cDy_crowds N x4 σ2) fun r26 =>
                    chkI (3 * z) <|
                    if ¬ (b32and (b32shr r26 (3 * z)) 7) = 2 then
                      j19 x3
                    else
                      chkA 7776 x4 <|
                      j19 (b32or x3 (σ2 77 (x4).toNat))) N 0 0) (fun r => r = (fmZ mt S, σ2)) := by
            refine Ok_loop2 (fun x y => ∃ k B : Nat, y = k ∧ k ≤ mp ^ mq ∧ x = B ∧ B < 512 ∧ ∀ s, 1 ≤ s → s ≤ S → Nat.testBit B s = bany (fun x => I x && G s x) k) (fun _ y => (mp ^ mq - y.toNat : Nat)) ?_ N _ _ ⟨0, 0, rfl, by omega, rfl, by decide, fun s _ _ => Nat.zero_testBit s⟩ (by omega)
            rintro g x y ⟨k, B, rfl, hk, rfl, hB, i1⟩ rec
            rw [f3.2.2.2.2.2.2.2.1, Ok_ite]
            refine ⟨fun q => ?_, fun q => ?_⟩
            · have hke : k = mp ^ mq := by omega
              subst hke
              have t58 : σ2 58 0 = (T : Int) + 1 := by rw [f2 0 (by decide) (by decide)]; exact h58
              refine Ok_loop2 (fun x y => x = (B : Int) ∧ ∃ j : Nat, y = (j : Int) + 1 ∧ j ≤ S ∧ fi mt j = -1) (fun _ y => (S + 1 - y.toNat : Nat)) ?_ N _ _ ⟨rfl, 0, rfl, by omega, rfl⟩ (by omega)
              rintro g2 x y ⟨rfl, j, rfl, hj, j1⟩ rec2
              rw [chkT_pos hT t58, f1 T (by omega) (by omega) (by omega) (by omega) (by omega) (by omega) (by omega), hS, Ok_ite, Ok_some]
              refine ⟨fun q2 => ?_, fun q2 => ?_⟩
              · rw [show S = j by omega]
                unfold fmZ
                rw [if_pos j1]
              · have hjS : j + 1 ≤ S := by omega
                rw [show (j : Int) + 1 = ((j + 1 : Nat) : Int) from rfl, bit_at B (j + 1) (by omega) hB, i1 (j + 1) (by omega) hjS, ← hmt j, Ok_ite, Ok_some]
                refine ⟨fun c3 => ?_, fun c3 => ?_⟩
                · rw [Ok_chkI]
                  refine ⟨by omega, rec2 _ _ ⟨rfl, j + 1, rfl, hjS, ?_⟩ (by omega)⟩
                  unfold fi
                  rw [if_pos j1, if_neg (fun w => c3 (by rw [w]; rfl))]
                · have t : mt j = true := by
                    cases e : mt j with
                    | true => rfl
                    | false =>
                      rw [e] at c3
                      exact absurd (show ¬ (if false = true then (1 : Int) else 0) = 1 by decide) c3
                  unfold fmZ
                  rw [fi_stop j1 t S (by omega), if_neg (by omega)]
                  rfl
            · have hkm : k < mp ^ mq := by omega
              obtain ⟨B', b1, b2, b3⟩ := f5' k hkm
              rw [placeIn_ok f3 hu hkm, bndO_s]
              refine Ok_jq1 (fun (y : Int) => ∃ B'' : Nat, y = B'' ∧ B'' < 512 ∧ ∀ s, 1 ≤ s → s ≤ S → Nat.testBit B'' s = bany (fun x => I x && G s x) (k + 1)) (fun y hy => ?_) (fun kk hkk => ?_)
              · obtain ⟨B'', rfl, w1, w2⟩ := hy
                rw [Ok_chkI]
                exact ⟨by omega, rec _ _ ⟨k + 1, B'', by omega, by omega, rfl, w1, w2⟩ (by omega)⟩
              · have no : I k = false → Ok (kk (B : Int)) (fun r => r = (fmZ mt S, σ2)) := fun e => hkk _ ⟨B, rfl, hB, fun s s1 s2 => by
                  rw [i1 s s1 s2]
                  show _ = (bany (fun x => I x && G s x) k || (I k && G s k))
                  rw [e, Bool.false_and, Bool.or_false]⟩
                rw [Ok_ite]
                refine ⟨fun c1 => no (by rw [hI]; unfold prB; rw [decide_eq_false (show ¬ dg mp mq k u = z by omega), Bool.false_and]), fun c1 => ?_⟩
                rw [placeIn_ok f3 hv hkm, bndO_s, Ok_ite]
                refine ⟨fun c2 => no (by rw [hI]; unfold prB; rw [decide_eq_false (show ¬ dg mp mq k v = z by omega), Bool.false_and, Bool.and_false]), fun c2 => ?_⟩
                obtain ⟨cr1, cr2⟩ := crw_at (v := dg mp mq k) (k := mq) (p := z) (fun n hn => Nat.lt_of_lt_of_le (dg_lt (by omega)) hm6) hq5 (by omega)
                rw [crowds_ok hN f3 hkm, bndO_s, Ok_chkI, cr1, Ok_ite]
                refine ⟨by omega, fun c3 => no (by rw [hI]; unfold prB; rw [decide_eq_false (show ¬ cn (dg mp mq k) mq z = 2 by omega), Bool.and_false, Bool.and_false]), fun c3 => ?_⟩
                have yes : I k = true := by
                  rw [hI]
                  unfold prB
                  rw [decide_eq_true (show dg mp mq k u = z by omega), decide_eq_true (show dg mp mq k v = z by omega), decide_eq_true (show cn (dg mp mq k) mq z = 2 by omega)]
                  rfl
                rw [Ok_chkA, Int.toNat_natCast, b1, b32or_nat (by omega) (by omega)]
                refine ⟨by omega, hkk _ ⟨B ||| B', rfl, Nat.or_lt_two_pow (n := 9) hB b2, fun s s1 s2 => ?_⟩⟩
                rw [Nat.testBit_or, i1 s s1 s2, b3 s s1 s2]
                show _ = (bany (fun x => I x && G s x) k || (I k && G s k))
                rw [yes, Bool.true_and]
          refine cls.mono ?_
          rintro r rfl
          dsimp only
          -- the reference
          have fr := mo_findAll_ok (a := 0) (k := 0) (ag := fun s x => agB σ mp mq nc 0 s x) hN hTD hTW hS hH ct (Or.inl ⟨rfl, fun s x => agB_0⟩)
          rw [Ok_bndO]
          refine fr.mono ?_
          rintro τ' ⟨b1, b2, b3, b4⟩
          refine Ok_loopS1 (fun y ν => ∃ j : Nat, y = (j : Int) + 1 ∧ j ≤ S ∧ fi mt j = -1 ∧ ∀ i, i ≠ 126 → i ≠ 127 → ν i = τ' i) (fun y _ => (S + 1 - y.toNat : Nat)) ?_ N _ _ ⟨0, rfl, by omega, rfl, fun _ _ _ => rfl⟩ (by omega)
          rintro g y ν ⟨j, rfl, hj, j1, j2⟩ rec
          have fin : ∀ (ν : ySt) (r : Int), (∀ i, i ≠ 126 → i ≠ 127 → ν i = τ' i) → r = fmZ mt S → Ok (some (r, ν)) (fun r' => r'.1 = fmZ mt S ∧ FrQ r'.2 τ ∧ r'.2 92 50 = τ 92 50 ∧ FrA σ2 σ ∧ AL σ2 T L md mp mq S hr nc) := fun ν r w1 w2 => by
            rw [Ok_some]
            dsimp only
            exact ⟨w2, FrQ_tr b1 ⟨fun i x y => w1 i (by omega) (by omega), fun k _ => by rw [w1 92 (by decide) (by decide)]⟩, by rw [w1 92 (by decide) (by decide)]; exact b2, ⟨f1, f2⟩, f4⟩
          have b3ν := FQ_of b3 (τ' := ν) (fun i a b _ _ _ _ => j2 i a b)
          rw [b3ν.2.2.1, Ok_ite]
          refine ⟨fun q => fin ν _ j2 ?_, fun q => ?_⟩
          · rw [show S = j by omega]
            unfold fmZ
            rw [if_pos j1]
          · have hjS : j + 1 ≤ S := by omega
            obtain ⟨c1, c2⟩ := b4 (j + 1) hjS
            rw [show (j : Int) + 1 = ((j + 1 : Nat) : Int) from rfl]
            refine Ok_loopS2 (fun y z0 κ => y = ((j + 1 : Nat) : Int) ∧ ∃ k : Nat, z0 = k ∧ k ≤ mp ^ mq ∧ bany (fun x => I x && G (j + 1) x) k = false ∧ ∀ i, i ≠ 126 → i ≠ 127 → κ i = τ' i) (fun _ z0 _ => (mp ^ mq - z0.toNat : Nat)) ?_ N _ _ _ ⟨rfl, 0, rfl, by omega, rfl, j2⟩ (by omega)
            rintro g2 y z0 κ ⟨rfl, k, rfl, hk, k1, k2⟩ rec2
            have b3κ := FQ_of b3 (τ' := κ) (fun i a b _ _ _ _ => k2 i a b)
            rw [FQ_n hN b3κ, bndO_s, Ok_ite]
            refine ⟨fun q2 => ?_, fun q2 => ?_⟩
            · rw [Ok_chkI]
              refine ⟨by omega, rec _ _ ⟨j + 1, rfl, hjS, ?_, k2⟩ (by omega)⟩
              unfold fi
              rw [if_pos j1, hmt, show mp ^ mq = k by omega, k1]
              rfl
            · have hkm : k < mp ^ mq := by omega
              have eb : b01 (cbe mp mq S (gtC σ T hr) (fun s x => lawB σ T L md mp mq (-1) (-1) s x && agB σ mp mq nc 0 s x) (enc mp (homeV σ T) mq) (j + 1) k) = b01 (G (j + 1) k) := by
                rw [hG]
                rfl
              rw [canBe_ok hjS (by omega) hM hkm (by unfold AH; rw [k2 132 (by decide) (by decide)]; exact c1) (by unfold BH; rw [k2 133 (by decide) (by decide)]; exact c2), bndO_s, eb]
              refine Ok_jq1 (fun (κ' : ySt) => (I k && G (j + 1) k) = false ∧ ∀ i, i ≠ 126 → i ≠ 127 → κ' i = τ' i) (fun κ' hκ => ?_) (fun kk hkk => ?_)
              · rw [Ok_chkI]
                refine ⟨by omega, rec2 _ _ _ ⟨rfl, k + 1, by omega, by omega, ?_, hκ.2⟩ (by omega)⟩
                show (bany (fun x => I x && G (j + 1) x) k || (I k && G (j + 1) k)) = false
                rw [k1, hκ.1]
                rfl
              · rw [Ok_ite]
                refine ⟨fun c => ?_, fun c => hkk _ ⟨by rw [b01_0.mp (Classical.byContradiction c), Bool.and_false], k2⟩⟩
                have gt' : G (j + 1) k = true := by
                  cases e : G (j + 1) k with
                  | true => rfl
                  | false =>
                    rw [e] at c
                    exact absurd rfl c
                rw [Ok_bndO]
                refine (mo_layState_ok hN b3κ.1.1 hb b3κ.1.2.2.1 hm6 b3κ.1.2.2.2.2.1 hq5 hkm).mono ?_
                rintro κ1 ⟨l1, l2, l3⟩
                have k3 : ∀ i, i ≠ 126 → i ≠ 127 → κ1 i = τ' i := fun i x y => (l1 i x y).trans (k2 i x y)
                have no : I k = false → Ok (kk κ1) (fun r' => r'.1 = fmZ mt S ∧ FrQ r'.2 τ ∧ r'.2 92 50 = τ 92 50 ∧ FrA σ2 σ ∧ AL σ2 T L md mp mq S hr nc) := fun e => hkk _ ⟨by rw [e, Bool.false_and], k3⟩
                rw [Ok_chkA, Int.toNat_natCast, l3 z (by omega), ← cn_int, Ok_ite]
                refine ⟨by omega, fun c3 => no (by rw [hI]; unfold prB; rw [decide_eq_false (show ¬ cn (dg mp mq k) mq z = 2 by omega), Bool.and_false, Bool.and_false]), fun c3 => ?_⟩
                rw [Ok_chkA, Int.toNat_natCast, l2 u hu, Ok_ite]
                refine ⟨by omega, fun c4 => no (by rw [hI]; unfold prB; rw [decide_eq_false (show ¬ dg mp mq k u = z by omega), Bool.false_and]), fun c4 => ?_⟩
                rw [Ok_chkA, Int.toNat_natCast, l2 v hv, Ok_ite]
                refine ⟨by omega, fun c5 => no (by rw [hI]; unfold prB; rw [decide_eq_false (show ¬ dg mp mq k v = z by omega), Bool.false_and, Bool.and_false]), fun c5 => fin κ1 _ k3 ?_⟩
                have yes : I k = true := by
                  rw [hI]
                  unfold prB
                  rw [decide_eq_true (show dg mp mq k u = z by omega), decide_eq_true (show dg mp mq k v = z by omega), decide_eq_true (show cn (dg mp mq k) mq z = 2 by omega)]
                  rfl
                have t : mt j = true := by
                  rw [hmt]
                  exact (bany_iff _).mpr ⟨k, hkm, by rw [yes, gt']; rfl⟩
                unfold fmZ
                rw [fi_stop j1 t S (by omega), if_neg (by omega)]
                rfl
        · rw [if_neg cp, if_neg (fun w => w rfl), if_neg (fun w => w rfl)]
          exact none_
    · rw [if_neg cb, if_pos rfl, if_pos rfl]
      exact none_
  · rw [if_neg ca, if_pos rfl, if_pos rfl]
    exact none_
