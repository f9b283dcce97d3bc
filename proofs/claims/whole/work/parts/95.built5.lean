/-! one way more: the class finds it -/
theorem findBuilt_ok {N T b0 mp mq md me L S hr n M : Nat} {W : Nat → Int} {σ : ySt} (hN : 100000 ≤ N) (hTW : TW σ T mp mq me) (ft : FT σ T mp md L W) (h58 : σ 58 0 = (T : Int) + 1) (hS : σ T 17 = S) (hH : σ T 16 = hr) (hca : CA σ T mp mq me md L S hr) (hcl : CL σ T mp mq me md L S hr) (hn : n < 3) (hM : 1 ≤ M ∧ M ≤ 999)
    (hbd : ¬ (decide (0 < (n : Int)) && late σ T me S ((1 : Nat) : Int)) = true → MB σ (fun _ _ => 0) T b0 mp mq me md L S (n : Int) ((1 : Nat) : Int) (hr : Int) (-1) (-1) (fun u v => σ (T + 15) (6 * u + v)) ∨ ∃ τ, MB σ τ T b0 mp mq me md L S (n : Int) ((1 : Nat) : Int) (hr : Int) (-1) (-1) (fun u v => σ (T + 15) (6 * u + v))) (hG : ∀ a b, a < b → b < mp → GD σ T b0 mp mq me md L S hr n a b M) :
    Ok (cAn_findBuilt N M n σ) (fun σ' => σ' 75 n = (bpO (fun a b => dZ σ T mp mq me md L S hr n a b M) mp mp).1 ∧ σ' 76 n = (bpO (fun a b => dZ σ T mp mq me md L S hr n a b M) mp mp).2 ∧ (∀ i, (i < 60 ∨ (70 < i ∧ i < 74) ∨ i = 77 ∨ 82 < i) → σ' i = σ i) ∧ CA σ' T mp mq me md L S hr ∧ CL σ' T mp mq me md L S hr) := by
  obtain ⟨hT, h1, hm6, h3, hq5, hm, h14, hme, he, hh, h16, h17, h15⟩ := id hTW
  obtain ⟨g, hg⟩ : ∃ g : Nat → Nat → Int, ∀ a b, g a b = dZ σ T mp mq me md L S hr n a b M := ⟨_, fun _ _ => rfl⟩
  have hgg : (fun a b => dZ σ T mp mq me md L S hr n a b M) = g := funext fun a => funext fun b => (hg a b).symm
  rw [hgg]
  have hbd' : ∃ τ, ¬ (decide (0 < (n : Int)) && late σ T me S ((1 : Nat) : Int)) = true → MB σ τ T b0 mp mq me md L S (n : Int) ((1 : Nat) : Int) (hr : Int) (-1) (-1) (fun u v => σ (T + 15) (6 * u + v)) := by
    by_cases lt : ¬ (decide (0 < (n : Int)) && late σ T me S ((1 : Nat) : Int)) = true
    · rcases hbd lt with w | ⟨τ, w⟩
      · exact ⟨_, fun _ => w⟩
      · exact ⟨τ, fun _ => w⟩
    · exact ⟨fun _ _ => 0, fun w => absurd w lt⟩
  obtain ⟨τ0, hb0⟩ := hbd'
  unfold cAn_findBuilt
  rw [Ok_chkA, Int.toNat_natCast, Ok_ite, Ok_some]
  refine ⟨by omega, fun c => ?_, fun c => ?_⟩
  · rw [Ok_bndR]
    refine (bw_ok hN hTW ft h58 hS hH hca hn hb0).mono ?_
    rintro ⟨r4, σ5⟩ ⟨b1, b2, b3, _, _⟩
    dsimp only at b1 b2 b3 ⊢
    rw [Ok_chkA, Ok_bnd, Ok_chkA, Ok_bnd]
    refine ⟨by omega, by omega, ?_⟩
    refine Ok_loopS1 (fun y ν => ∃ a : Nat, y = a ∧ a ≤ mp ∧ (∀ i, (i < 75 ∨ i = 77 ∨ 82 < i) → (i < 60 ∨ 64 < i) → ν i = σ5 i) ∧ (∀ j, j ≠ n → ν 75 j = σ 75 j ∧ ν 76 j = σ 76 j) ∧ ν 75 n = (bpO g mp a).1 ∧ ν 76 n = (bpO g mp a).2) (fun y _ => (mp - y.toNat : Nat)) ?_ N _ _ ⟨0, rfl, by omega, fun i hi _ => by rw [yset_off i (by omega), yset_off i (by omega)], fun j hj => ⟨by rw [yset_off 75 (by decide), yset_ne (by omega), b2 75 (by omega)], by rw [yset_ne (by omega), yset_off 76 (by decide), b2 76 (by omega)]⟩, by rw [yset_off 75 (by decide), yset_at]; rfl, by rw [yset_at]; rfl⟩ (by omega)
    rintro rec_ y ν ⟨a, rfl, ha, i1, i2, i3, i4⟩ rec
    have lo : ∀ i, i < 60 → ν i = σ i := fun i hi => (i1 i (by omega) (by omega)).trans (b2 i (by omega))
    have n58 : ν 58 0 = (T : Int) + 1 := by rw [lo 58 (by omega)]; exact h58
    rw [chkT_pos hT n58, lo (T + 1) (by omega), h1, Ok_ite]
    refine ⟨fun q => ?_, fun q => ?_⟩
    · have haS : a = mp := by omega
      subst haS
      rw [Ok_chkA, Ok_bnd, Ok_some]
      have eT : ∀ i, T ≤ i → i ≤ T + 19 → yset ν 74 n (M : Int) i = σ i := fun i x y => by rw [yset_off i (by omega)]; exact lo i (by omega)
      refine ⟨by omega, by rw [yset_off 75 (by decide)]; exact i3, by rw [yset_off 76 (by decide)]; exact i4, fun i hi => by rw [yset_off i (by omega)]; exact (i1 i (by omega) (by omega)).trans (b2 i (by omega)), CA_of hT b3 (fun i hi => by rw [yset_off i (by omega)]; exact i1 i (by omega) (by omega)), fun n' hn' M' m1 m2 h74 => ?_⟩
      have eb : (fun x y => dZ (yset ν 74 n (M : Int)) T a mq me md L S hr n' x y M') = fun x y => dZ σ T a mq me md L S hr n' x y M' := funext fun x => funext fun y => dZ_of eT
      rw [eb, yset_off 75 (by decide), yset_off 76 (by decide)]
      by_cases cn : n' = n
      · rw [cn, yset_at] at h74
        have : M' = M := by omega
        rw [cn, this, hgg]
        exact ⟨i3, i4⟩
      · rw [yset_ne (by omega), i1 74 (by omega) (by omega), b2 74 (by omega)] at h74
        rw [(i2 n' cn).1, (i2 n' cn).2]
        exact hcl n' hn' M' m1 m2 h74
    · have ham : a < mp := by omega
      rw [Ok_chkI, show (a : Int) + 1 = ((a + 1 : Nat) : Int) from rfl]
      refine ⟨by omega, Ok_loopS2 (fun y z μ => y = (a : Int) ∧ ∃ k : Nat, z = ((a + 1 + k : Nat) : Int) ∧ a + 1 + k ≤ mp ∧ (∀ i, (i < 75 ∨ i = 77 ∨ 82 < i) → (i < 60 ∨ 64 < i) → μ i = σ5 i) ∧ (∀ j, j ≠ n → μ 75 j = σ 75 j ∧ μ 76 j = σ 76 j) ∧ μ 75 n = (bpI g a k (bpO g mp a)).1 ∧ μ 76 n = (bpI g a k (bpO g mp a)).2) (fun _ z _ => (mp - z.toNat : Nat)) ?_ N _ _ _ ⟨rfl, 0, rfl, by omega, i1, i2, i3, i4⟩ (by omega)⟩
      rintro rec2_ y z μ ⟨rfl, k, rfl, hk, j1, j2, j3, j4⟩ rec2
      have lo2 : ∀ i, i < 60 → μ i = σ i := fun i hi => (j1 i (by omega) (by omega)).trans (b2 i (by omega))
      have m58 : μ 58 0 = (T : Int) + 1 := by rw [lo2 58 (by omega)]; exact h58
      rw [chkT_pos hT m58, lo2 (T + 1) (by omega), h1, Ok_ite]
      refine ⟨fun q2 => ?_, fun q2 => ?_⟩
      · have hkm : k = mp - (a + 1) := by omega
        rw [hkm] at j3 j4
        rw [Ok_chkI]
        exact ⟨by omega, rec _ _ ⟨a + 1, rfl, by omega, j1, j2, j3, j4⟩ (by omega)⟩
      · rw [chkT_pos hT m58]
        have ub : bpI g a (k + 1) (bpO g mp a) = if (bpI g a k (bpO g mp a)).1 < g a (a + 1 + k) then (g a (a + 1 + k), ((100 * a + (a + 1 + k) : Nat) : Int)) else bpI g a k (bpO g mp a) := rfl
        have u75 : ∀ σ' : ySt, (∀ i, (i < 60 ∨ (64 < i ∧ i < 78) ∨ 82 < i) → σ' i = μ i) → σ' 75 = μ 75 ∧ σ' 76 = μ 76 := fun σ' h' => ⟨h' 75 (by omega), h' 76 (by omega)⟩
        refine builtOne_ok (r4 := r4) hN hTW ft hS hH hn (by omega) (by omega) hM.2 lo2 (hG a (a + 1 + k) (by omega) (by omega)) b1 (fun σ' fr => ?_)
        obtain ⟨v75, v76⟩ := u75 σ' fr
        have e75 : σ' 75 n = (bpI g a k (bpO g mp a)).1 := by rw [v75]; exact j3
        have e76 : σ' 76 n = (bpI g a k (bpO g mp a)).2 := by rw [v76]; exact j4
        rw [← hg a (a + 1 + k)]
        have cont : ∀ κ : ySt, (∀ i, (i < 75 ∨ i = 77 ∨ 82 < i) → (i < 60 ∨ 64 < i) → κ i = σ5 i) → (∀ j, j ≠ n → κ 75 j = σ 75 j ∧ κ 76 j = σ 76 j) → κ 75 n = (bpI g a (k + 1) (bpO g mp a)).1 → κ 76 n = (bpI g a (k + 1) (bpO g mp a)).2 → Ok (chkI (((a + 1 + k : Nat) : Int) + 1) (rec2_ (a : Int) (((a + 1 + k : Nat) : Int) + 1) κ)) _ := fun κ k1 k2 k3 k4 => by
          rw [Ok_chkI]
          exact ⟨by omega, rec2 _ _ _ ⟨rfl, k + 1, by omega, by omega, k1, k2, k3, k4⟩ (by omega)⟩
        have fr5 : ∀ i, (i < 75 ∨ i = 77 ∨ 82 < i) → (i < 60 ∨ 64 < i) → σ' i = σ5 i := fun i x y => (fr i (by omega)).trans (j1 i x y)
        rw [Ok_chkA, Ok_bnd, Ok_ite]
        refine ⟨by omega, fun c2 => ?_, fun c2 => ?_⟩
        · exact cont σ' fr5 (fun j hj => by rw [v75, v76]; exact j2 j hj) (by rw [ub, if_neg (by omega)]; exact e75) (by rw [ub, if_neg (by omega)]; exact e76)
        · rw [Ok_chkA, Ok_bnd, Ok_chkI, Ok_chkI, Ok_chkA, Ok_bnd]
          refine ⟨by omega, by omega, by omega, by omega, cont _ (fun i x y => by rw [yset_off i (by omega), yset_off i (by omega)]; exact fr5 i x y) (fun j hj => ⟨by rw [yset_off 75 (by decide), yset_ne (by omega), v75]; exact (j2 j hj).1, by rw [yset_ne (by omega), yset_off 76 (by decide), v76]; exact (j2 j hj).2⟩) ?_ ?_⟩
          · rw [ub, if_pos (by omega), yset_off 75 (by decide), yset_at]
          · rw [ub, if_pos (by omega), yset_at]
            show (100 : Int) * (a : Int) + ((a + 1 + k : Nat) : Int) = ((100 * a + (a + 1 + k) : Nat) : Int)
            omega
  · have c' : σ 74 n = (M : Int) := Classical.byContradiction c
    have := hcl n hn M hM.1 hM.2 c'
    rw [hgg] at this
    exact ⟨this.1, this.2, fun _ _ => rfl, hca, hcl⟩
