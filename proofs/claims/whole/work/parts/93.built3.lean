/-! one way more: the class, once -/
def dZ (σ : ySt) (T mp mq me md L S hr n a b M : Nat) : Int := bestZ σ T mp mq me md L S (n : Int) ((1 : Nat) : Int) (hr : Int) (-1) (-1) (Db (fun u v => σ (T + 15) (6 * u + v)) a b M)
def GD (σ : ySt) (T b0 mp mq me md L S hr n a b M : Nat) : Prop := ∃ τs : ySt, ¬ (decide (0 < (n : Int)) && late σ T me S ((1 : Nat) : Int)) = true → MB σ τs T b0 mp mq me md L S (n : Int) ((1 : Nat) : Int) (hr : Int) (-1) (-1) (Db (fun u v => σ (T + 15) (6 * u + v)) a b M)
theorem builtOne_ok {N T b0 mp mq md me L S hr n a b M : Nat} {W : Nat → Int} {σ ν : ySt} {r4 : Int} {j : Int → ySt → Option ySt} {P : ySt → Prop} (hN : 100000 ≤ N) (hTW : TW σ T mp mq me) (ft : FT σ T mp md L W) (hS : σ T 17 = S) (hH : σ T 16 = hr) (hn : n < 3) (ha : a < mp) (hb : b < mp) (hM : M ≤ 999) (hν : ∀ i, i < 60 → ν i = σ i) (hG : GD σ T b0 mp mq me md L S hr n a b M) (h4 : r4 = bZ σ T mp mq me md L S hr n)
    (hj : ∀ σ', (∀ i, (i < 60 ∨ (64 < i ∧ i < 78) ∨ 82 < i) → σ' i = ν i) → Ok (j (dZ σ T mp mq me md L S hr n a b M) σ') P) :
    Ok (bndO (cDy_lay N T n 1 ν) fun σ36 => bndR (cDy_build N a b M σ36) fun r38 σ39 => if r38 = 0 then j r4 σ39 else bndR (cDs_worthOf N σ39) fun r58 σ59 => j r58 σ59) P := by
  obtain ⟨hT, h1, hm6, h3, hq5, hm, h14, hme, he, hh, h16, h17, h15⟩ := id hTW
  have hv : ∀ n, n < mq → homeV σ T n < mp := fun n hn => by
    have := (hh n hn).1
    unfold homeV
    omega
  have eT : ∀ i, T ≤ i → i ≤ T + 19 → ν i = σ i := fun i x y => hν i (by omega)
  have hTWν := TW_of hTW (σ' := ν) (fun i x y => eT i x (by omega))
  have hbits : ∀ p h, p < mp → h < 6 → ∃ B : Nat, ν (T + 16) (6 * p + h) = B ∧ B < 512 ∧ ∀ s, 1 ≤ s → s ≤ 8 → Nat.testBit B s = decide (opn σ T L md (-1) (-1) s p h ≠ 0) := by
    rw [eT (T + 16) (by omega) (by omega)]
    exact bits_pl ft
  have hS8 : S * 1 = S := Nat.mul_one S
  have hH1 : hr / 1 = hr := Nat.div_one hr
  rw [Ok_bndO]
  refine (lay_ok (what := (n : Int)) (t := 1) (op := fun s p h => decide (opn σ T L md (-1) (-1) s p h ≠ 0)) hN hTWν (by omega) (by rw [hν T (by omega)]; exact hS) (by rw [hν T (by omega)]; exact hH) (by omega) hbits).mono ?_
  rintro σ5 ⟨fr, _, hd, h89⟩
  rw [hS8, hH1] at hd
  obtain ⟨d1, d2, d3, d4⟩ := hd (by omega)
  have egn2 : (fun s n' p => gnV ν T me (n : Int) ((1 : Nat) : Int) ((s : Nat) : Int) n' ((p : Nat) : Int)) = fun (s n' p : Nat) => gnV σ T me (n : Int) ((1 : Nat) : Int) ((s : Nat) : Int) n' ((p : Nat) : Int) := by
    funext s n' p
    exact gnV_of (fun i x y => eT i x (by omega))
  have elt : late ν T me S ((1 : Nat) : Int) = late σ T me S ((1 : Nat) : Int) := by
    unfold late
    rw [eT (T + 13) (by omega) (by omega)]
  rw [elt] at d4
  rw [egn2, eT (T + 15) (by omega) (by omega)] at d2
  have e15 : σ5 (T + 15) = σ (T + 15) := (fr (T + 15) (by omega) (by omega) (by omega) (by omega) (by omega)).trans (eT (T + 15) (by omega) (by omega))
  have k89 := h89 (by omega)
  rw [hH1] at k89
  rw [Ok_bndR]
  refine (build_ok (T := T) (mp := mp) (what := (n : Int)) (hr := (hr : Int)) hN hT d1.2.1 d1.2.2.1 hm6 (by rw [e15]; exact h15) k89.1 k89.2 (by omega) ha hb hM).mono ?_
  rintro ⟨r38, σ39⟩ ⟨f1, f2, f3⟩
  dsimp only at f1 f2 f3 ⊢
  rw [e15] at f2
  have fν : ∀ i, (i < 60 ∨ (64 < i ∧ i < 78) ∨ 82 < i) → σ39 i = ν i := fun i hi => (f1 i (by omega)).trans (fr i (by omega) (by omega) (by omega) (by omega) (by omega))
  rw [Ok_ite]
  refine ⟨fun c => ?_, fun c => ?_⟩
  · have e : dZ σ T mp mq me md L S hr n a b M = r4 := by
      rw [h4]
      exact bestZ_wk hm hv (fun u v hu hv' => (rpR_uniq (by decide) (d2.2.2.2.1 u v hu hv') (by have := f2 u v hu hv'; rw [f3 c u v hu hv'] at this; exact this)).symm)
    rw [← e]
    exact hj σ39 fν
  · obtain ⟨τs, mb⟩ := hG
    have dg : DG σ39 mp mq S (wkM (n : Int) (hr : Int) (Db (fun u v => σ (T + 15) (6 * u + v)) a b M)) (fun s n' p => gnV σ T me (n : Int) ((1 : Nat) : Int) s n' p) := by
      obtain ⟨x1, x2, x3, x4, x5⟩ := d2
      refine ⟨by rw [f1 78 (by decide)]; exact x1, x2, x3, f2, ?_⟩
      rw [f1 81 (by decide)]
      exact x5
    have bt : BT σ39 mp (fun s p h => decide (opn σ T L md (-1) (-1) s p h ≠ 0)) := by
      unfold BT
      rw [f1 82 (by decide)]
      exact d3
    rw [Ok_bndR]
    refine (worth_Z (b := b0) (W := W) (mw := 0) (τ := τs) hN hTW (by omega) (by omega) mb ((fν (T + 8) (by omega)).trans (eT (T + 8) (by omega) (by omega))) (DS_of d1 (fun i hi => f1 i (by omega))) dg bt (by rw [f1 78 (by decide)]; exact d4)).mono ?_
    rintro ⟨r, σ8⟩ ⟨x1, x2, _⟩
    have x1' : r = dZ σ T mp mq me md L S hr n a b M := x1
    dsimp only at x2 ⊢
    rw [x1']
    exact hj σ8 (fun i hi => (x2 i (by omega) (by omega) (by omega) (by omega) (by omega)).trans (fν i hi))
