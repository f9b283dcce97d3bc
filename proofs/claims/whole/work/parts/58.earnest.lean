/-! people sent in earnest -/
theorem ycpy_off {S : ySt} {a i b j n k : Nat} (h : k ≠ b) : ycpy S a i b j n k = S k := by
  funext x
  unfold ycpy
  rw [if_neg (fun w => h w.1)]
theorem ycpy_at {S : ySt} {a b n k : Nat} (h : k < n) : ycpy S a 0 b 0 n b k = S a k := by
  unfold ycpy
  rw [if_pos ⟨rfl, Nat.zero_le k, by omega⟩]
  congr 1
  omega
theorem chkC_5 {α : Type} {k : Option α} : chkC 5 5 0 0 5 k = k := by
  unfold chkC
  rw [if_pos (by decide)]
/-- where they stand (st) and are sent (sd), stroke and odd -/
def EAr (σ : ySt) (o : Nat) (st sd : Nat → Int) (k od : Int) (mp mq : Nat) : Prop := σ o 2 = k ∧ 0 ≤ k ∧ k ≤ 8 ∧ σ o 3 = od ∧ 0 ≤ od ∧ od ≤ 6 * k ∧ ∀ n, n < mq → σ (o + 1) n = st n ∧ (0 ≤ st n ∧ st n < mp) ∧ (sd n < 0 ∨ (0 ≤ sd n ∧ sd n < mp)) ∧ σ (o + 2) n = (if sd n < 0 then st n else sd n)
theorem C_where {T b mp mq md mw me L : Nat} {W : Nat → Int} {σ τ : ySt} (h : TD σ τ T b mp mq md mw me L W) (ea : EAr σ 9 (τ 138) (τ 139) (τ 92 73) (τ 92 74) mp mq) (a : Int) : ∃ v, cE_where a σ = some v ∧ mo_where a τ = some v := by
  obtain ⟨hT, h05, h40, hb, g1, g2, _⟩ := h
  have hmq := g2.2.1
  unfold cE_where mo_where
  rw [chkT_pos hT h05, hasPerson_ok hT g2.1.1, bndO_s, mo_isPerson_ok h40 hb g2.2.2 hmq, bndO_s]
  by_cases c : 0 ≤ a ∧ a < mq
  · obtain ⟨n, rfl⟩ : ∃ n : Nat, a = n := ⟨a.toNat, by omega⟩
    rw [if_pos c, if_neg (by decide), if_neg (by decide), chkA_pos (by omega), chkA_pos (by omega), Int.toNat_natCast]
    exact ⟨_, rfl, by rw [((ea.2.2.2.2.2.2 n (by omega)).1)]⟩
  · rw [if_neg c, if_pos rfl, if_pos rfl]
    exact ⟨_, rfl, rfl⟩
theorem gets_ok {T u v : Nat} {σ : ySt} (hT : T = 13 ∨ T = 33) (hu : u < 6) (hv : v < 6) : cTw_gets T u v σ = some (if σ (T + 15) (6 * u + v) > σ T 16 then 0 else 1) := by
  have ix : ((u : Int) * 6 + (v : Int)).toNat = 6 * u + v := by omega
  unfold cTw_gets
  rw [chk_pos hT, chkI_pos (by omega), chkI_pos (by omega), chkA_pos (by omega), ix, some_ite]
theorem mo_gets_ok {T b mp mq md mw me L u v : Nat} {W : Nat → Int} {σ τ : ySt} (h : TD σ τ T b mp mq md mw me L W) (ly : LY σ τ T b mp md L) (hu : u < mp) (hv : v < mp) : mo_gets u v τ = some (if σ (T + 15) (6 * u + v) > σ T 16 then 0 else 1) := by
  obtain ⟨hT, h05, h40, hb, g1, g2, g3, w, wn, ft, g5, g6, _⟩ := h
  have hmp := g1.2.1
  have ix : (6 * (u : Int) + (v : Int)).toNat = 6 * u + v := by omega
  unfold mo_gets
  rw [chkI_pos (by omega), chkI_pos (by omega), chkA_pos (by omega), ix, ly.2.1 u v hu hv, ly.1.1, ← g6.1.1, some_ite]
theorem C_send {N T b mp mq md mw me L : Nat} {W : Nat → Int} {σ τ : ySt} (hN : 100000 ≤ N) (h : TD σ τ T b mp mq md mw me L W) (ea : EAr σ 9 (τ 138) (τ 139) (τ 92 73) (τ 92 74) mp mq) (a c : Int) :
    Ok (cE_send a c σ) (fun r => Ok (mo_send N a c τ) (fun r' => r'.1 = r.1 ∧ (∀ i, i ≠ 11 → r.2 i = σ i) ∧ (∃ τ1, FrQ τ1 τ ∧ ∀ i, i ≠ 139 → r'.2 i = τ1 i) ∧ EAr r.2 9 (r'.2 138) (r'.2 139) (r'.2 92 73) (r'.2 92 74) mp mq)) := by
  obtain ⟨hT, h05, h40, hb, g1, g2, _⟩ := id h
  have hmp := g1.2.1
  have hmq := g2.2.1
  have same : ∀ τ1, FrQ τ1 τ → EAr σ 9 (τ1 138) (τ1 139) (τ1 92 73) (τ1 92 74) mp mq := fun τ1 f => by
    rw [f.1 138 (by decide) (by omega), f.1 139 (by decide) (by omega), f.2 73 (by omega), f.2 74 (by omega)]
    exact ea
  unfold cE_send mo_send
  have n10 : ¬ (1 : Int) = 0 := by decide
  rw [chkT_pos hT h05, hasPerson_ok hT g2.1.1, bndO_s, mo_isPerson_ok h40 hb g2.2.2 hmq, bndO_s]
  by_cases ca : 0 ≤ a ∧ a < mq
  · rw [if_pos ca, if_neg n10, if_neg n10, chkT_pos hT h05, hasPlace_ok hT g1.1.1, bndO_s, mo_isPlace_ok h40 hb g1.2.2 hmp, bndO_s]
    by_cases cc : 0 ≤ c ∧ c < mp
    · obtain ⟨n, rfl⟩ : ∃ n : Nat, a = n := ⟨a.toNat, by omega⟩
      obtain ⟨v, rfl⟩ : ∃ v : Nat, c = v := ⟨c.toNat, by omega⟩
      have hn := ea.2.2.2.2.2.2 n (by omega)
      obtain ⟨u, hu⟩ : ∃ u : Nat, τ 138 n = u := ⟨(τ 138 n).toNat, by omega⟩
      rw [if_pos cc, if_neg n10, if_pos n10, chkT_pos hT h05, chkA_pos (by omega), Int.toNat_natCast, hn.1, hu, gets_ok hT (by omega) (by omega), bndO_s, bndO_2, Ok_swap, Ok_bndO]
      refine (plain_lay hN h).mono ?_
      rintro τ1 ⟨f1, ly, k1⟩
      have h1 := TD_FrQ h f1
      rw [chkA_pos (by omega), f1.1 138 (by decide) (by omega), hu, mo_gets_ok h1 ly (by omega) (by omega), bndO_s]
      by_cases cg : σ (T + 15) (6 * u + v) > σ T 16
      · rw [if_pos cg, if_neg (fun w => w rfl), if_neg (fun w => w rfl), Ok_some, Ok_some]
        exact ⟨rfl, fun _ _ => rfl, ⟨τ1, f1, fun _ _ => rfl⟩, same τ1 f1⟩
      · rw [if_neg cg, if_pos n10, if_pos n10, chkA_pos (by omega), chkA_pos (by omega), Ok_bnd, Ok_some, Ok_bnd, Ok_some]
        refine ⟨rfl, fun i hi => yset_off i hi, ⟨τ1, f1, fun i hi => yset_off i hi⟩, ?_⟩
        obtain ⟨b1, b2, b3, b4, b5, b6, b7⟩ := same τ1 f1
        dsimp only
        refine ⟨by rw [yset_ne (by omega), yset_ne (by omega)]; exact b1, by rw [yset_ne (by omega)]; exact b2, by rw [yset_ne (by omega)]; exact b3, by rw [yset_ne (by omega), yset_ne (by omega)]; exact b4, by rw [yset_ne (by omega)]; exact b5, by rw [yset_ne (by omega), yset_ne (by omega)]; exact b6, fun m hm => ?_⟩
        obtain ⟨d1, d2, d3, d4⟩ := b7 m hm
        rw [yset_ne (by omega), yset_off 138 (by decide)]
        refine ⟨d1, d2, ?_⟩
        by_cases cm : m = n
        · subst cm
          rw [yset_at, yset_at]
          exact ⟨Or.inr ⟨by omega, by omega⟩, by rw [if_neg (by omega)]⟩
        · rw [yset_ne (by omega), yset_ne (by omega)]
          exact ⟨d3, d4⟩
    · rw [if_neg cc, if_pos rfl, if_neg (fun w => w rfl), Ok_some, Ok_some]
      exact ⟨rfl, fun _ _ => rfl, ⟨τ, FrQ_rfl τ, fun _ _ => rfl⟩, ea⟩
  · rw [if_neg ca, if_pos rfl, if_pos rfl, Ok_some, Ok_some]
    exact ⟨rfl, fun _ _ => rfl, ⟨τ, FrQ_rfl τ, fun _ _ => rfl⟩, ea⟩
theorem cTw_crowd_ok {N T a b m : Nat} {c : Int} {σ : ySt} (hN : 100000 ≤ N) (hT : T = 13 ∨ T = 33) (h : σ (T + 3) 1 = m) (hm : m ≤ 5) (ha : (yKd a).1 = 20 ∧ a < 150) (hl : b + m ≤ (yKd a).2) (hb : b ≤ 100000) : cTw_crowd N T a b c σ = some (cnt (fun n => σ a (b + n)) m c) := by
  apply Ok_eq
  unfold cTw_crowd
  rw [Ok_chk, Ok_chk, h]
  refine ⟨hT, ha, Ok_loop2 (fun x y => ∃ k : Nat, y = k ∧ k ≤ m ∧ x = cnt (fun n => σ a (b + n)) k c) (fun _ y => (m - y.toNat : Nat)) ?_ N _ _ ⟨0, rfl, by omega, rfl⟩ (by omega)⟩
  rintro f x y ⟨k, rfl, hk, rfl⟩ rec
  have hc := cnt_rg (fun n => σ a (b + n)) k c
  have hs : cnt (fun n => σ a (b + n)) (k + 1) c = cnt (fun n => σ a (b + n)) k c + (if σ a (b + k) = c then 1 else 0) := rfl
  rw [Ok_ite, Ok_some]
  refine ⟨fun q => by rw [show k = m from by omega], fun q => ?_⟩
  have ix : ((b : Int) + (k : Int)).toNat = b + k := by omega
  rw [Ok_chkI, Ok_chkA, ix]
  refine ⟨by omega, by omega, Ok_jq1 (fun (y : Int) => y = if σ a (b + k) = c then 1 else 0) (fun y9 hy => ?_) (fun z hz => ?_)⟩
  · rw [Ok_chkI, Ok_chkI]
    have : y9 = 0 ∨ y9 = 1 := by
      rw [hy]
      split
      · exact Or.inr rfl
      · exact Or.inl rfl
    exact ⟨by omega, by omega, rec _ _ ⟨k + 1, by omega, by omega, by omega⟩ (by omega)⟩
  · rw [Ok_ite]
    exact ⟨fun q2 => hz _ (by rw [if_neg q2]), fun q2 => hz _ (by rw [if_pos (Classical.not_not.mp q2)])⟩
/-- how many of the first m stand at each place, laid into cell 127 -/
theorem there_step {f : Nat → Int} {m : Nat} {τ : ySt} {u : Nat} (hf : f m = u) (h : ∀ p : Nat, p < 6 → τ 127 p = cnt f m p) : ∀ p : Nat, p < 6 → yset τ 127 u (τ 127 u + 1) 127 p = cnt f (m + 1) p := by
  intro p hp
  show _ = cnt f m p + (if f m = (p : Int) then 1 else 0)
  rw [hf]
  by_cases c : p = u
  · subst c
    rw [yset_at, if_pos rfl, h p hp]
  · rw [yset_ne (by omega), if_neg (by omega), h p hp, Int.add_zero]
theorem mo_layStands_ok {N b mq : Nat} {τ : ySt} (hN : 100000 ≤ N) (h40 : τ 92 40 = b) (hb : b < 2) (h97 : τ 97 b = mq) (hmq : mq ≤ 5) (hs : ∀ n, n < mq → 0 ≤ τ 138 n ∧ τ 138 n < 6) :
    Ok (mo_layStands N τ) (fun τ' => (∀ i, i ≠ 127 → τ' i = τ i) ∧ ∀ p : Nat, p < 6 → τ' 127 p = cnt (τ 138) mq p) := by
  unfold mo_layStands
  refine Ok_loopS1 (fun x ρ => ∃ k : Nat, x = k ∧ k ≤ 6 ∧ (∀ i, i ≠ 127 → ρ i = τ i) ∧ ∀ p, p < k → ρ 127 p = 0) (fun x _ => (6 - x.toNat : Nat)) ?_ N _ _ ⟨0, rfl, by omega, fun _ _ => rfl, fun p hp => absurd hp (Nat.not_lt_zero p)⟩ (by omega)
  rintro k x ρ ⟨m, rfl, hm, i1, i2⟩ rec
  rw [Ok_ite]
  refine ⟨fun q => ?_, fun q => ?_⟩
  · refine Ok_loopS1 (fun x ν => ∃ k : Nat, x = k ∧ k ≤ mq ∧ (∀ i, i ≠ 127 → ν i = τ i) ∧ ∀ p : Nat, p < 6 → ν 127 p = cnt (τ 138) k p) (fun x _ => (mq - x.toNat : Nat)) ?_ N _ _ ⟨0, rfl, by omega, i1, fun p hp => i2 p (by omega)⟩ (by omega)
    rintro k2 x ν ⟨n, rfl, hn, j1, j2⟩ rec2
    rw [mo_personMany_ok (b := b) (m := mq) (by rw [j1 92 (by decide)]; exact h40) hb (by rw [j1 97 (by decide)]; exact h97), bndO_s, Ok_ite, Ok_some]
    refine ⟨fun q2 => ⟨j1, by rw [show mq = n from by omega]; exact j2⟩, fun q2 => ?_⟩
    have hs' := hs n (by omega)
    obtain ⟨u, hu⟩ : ∃ u : Nat, τ 138 n = u := ⟨(τ 138 n).toNat, by omega⟩
    have hc := cnt_rg (τ 138) n u
    have hj := j2 u (by omega)
    rw [Ok_chkA, Int.toNat_natCast, j1 138 (by decide), hu, Ok_chkA, Int.toNat_natCast, Ok_chkI, Ok_chkA, Ok_bnd, Ok_chkI]
    exact ⟨by omega, by omega, by omega, by omega, by omega, rec2 _ _ ⟨n + 1, by omega, by omega, fun i hi => by rw [yset_off i hi]; exact j1 i hi, there_step hu j2⟩ (by omega)⟩
  · rw [Ok_chkA, Ok_bnd, Ok_chkI, Int.toNat_natCast]
    refine ⟨by omega, by omega, rec _ _ ⟨m + 1, by omega, by omega, fun i hi => by rw [yset_off i hi]; exact i1 i hi, fun p hp => ?_⟩ (by omega)⟩
    by_cases c : p = m
    · rw [c, yset_at]
    · rw [yset_ne (by omega)]
      exact i2 p (by omega)
