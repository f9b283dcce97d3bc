/-! mend: pairing, in both -/
def pzM (D : Nat → Nat → Int) (a : Nat) (rest : Nat → Int) (B : Nat) : Nat → Int
  | 0 => 1000000
  | j + 1 => if Nat.testBit B (a + 1 + j) = true then min (pzM D a rest B j) (D a (a + 1 + j) + rest (a + 1 + j)) else pzM D a rest B j
def clB (B s : Nat) : Nat := B &&& (511 ^^^ 2 ^ s)
def pz (D : Nat → Nat → Int) (m : Nat) : Nat → Nat → Int
  | 0, _ => 0
  | k + 1, B => if Nat.testBit B (m - (k + 1)) = true then pzM D (m - (k + 1)) (fun t => pz D m k (clB B t)) B k else pz D m k B
theorem pzM_rg {D : Nat → Nat → Int} {a B n : Nat} {rest : Nat → Int} (hD : ∀ t, t < n → 0 ≤ D a t ∧ D a t ≤ 1000000) (hr : ∀ t, 0 ≤ rest t ∧ rest t ≤ 1000000) : ∀ j : Nat, a + 1 + j ≤ n → 0 ≤ pzM D a rest B j ∧ pzM D a rest B j ≤ 1000000
  | 0, _ => ⟨show (0 : Int) ≤ 1000000 by decide, show (1000000 : Int) ≤ 1000000 by decide⟩
  | j + 1, h => by
    have ih := pzM_rg (B := B) hD hr j (by omega)
    have h1 := hD (a + 1 + j) (by omega)
    have h2 := hr (a + 1 + j)
    unfold pzM
    split
    · omega
    · exact ih
theorem pz_rg {D : Nat → Nat → Int} {m : Nat} (hD : ∀ u v, u < m → v < m → 0 ≤ D u v ∧ D u v ≤ 1000000) : ∀ (k B : Nat), k ≤ m → 0 ≤ pz D m k B ∧ pz D m k B ≤ 1000000
  | 0, _, _ => ⟨Int.le_refl 0, show (0 : Int) ≤ 1000000 by decide⟩
  | k + 1, B, h => by
    unfold pz
    split
    · exact pzM_rg (n := m) (fun t ht => hD _ t (by omega) ht) (fun t => pz_rg hD k _ (by omega)) k (by omega)
    · exact pz_rg hD k B (by omega)
theorem pzM_congr {D D' : Nat → Nat → Int} {a B B' n : Nat} {rest rest' : Nat → Int} : ∀ j : Nat, a + 1 + j ≤ n → (∀ t, a < t → t < n → Nat.testBit B t = Nat.testBit B' t) → (∀ t, a < t → t < n → D a t = D' a t ∧ rest t = rest' t) → pzM D a rest B j = pzM D' a rest' B' j
  | 0, _, _, _ => rfl
  | j + 1, h, hB, hD => by
    have hd := hD (a + 1 + j) (by omega) (by omega)
    unfold pzM
    rw [pzM_congr j (by omega) hB hD, hB (a + 1 + j) (by omega) (by omega), hd.1, hd.2]
theorem clB_bit {B s i : Nat} (hs : s ≤ 8) (hi : i ≤ 8) : Nat.testBit (clB B s) i = (Nat.testBit B i && decide (i ≠ s)) := by
  have key2 : ∀ s i : Fin 9, Nat.testBit (511 ^^^ 2 ^ s.val) i.val = decide (i.val ≠ s.val) := by decide +kernel
  have := key2 ⟨s, by omega⟩ ⟨i, by omega⟩
  dsimp only at this
  unfold clB
  rw [Nat.testBit_and, this]
theorem pz_congr {D D' : Nat → Nat → Int} {m : Nat} (hm : m ≤ 6) (hD : ∀ u v, u < m → v < m → D u v = D' u v) : ∀ (k B B' : Nat), k ≤ m → (∀ i, m - k ≤ i → i < m → Nat.testBit B i = Nat.testBit B' i) → pz D m k B = pz D' m k B'
  | 0, _, _, _, _ => rfl
  | k + 1, B, B', hk, h => by
    have h0 := h (m - (k + 1)) (by omega) (by omega)
    have ih : pz D m k B = pz D' m k B' := pz_congr hm hD k B B' (by omega) (fun i h1 h2 => h i (by omega) h2)
    have hM : pzM D (m - (k + 1)) (fun t => pz D m k (clB B t)) B k = pzM D' (m - (k + 1)) (fun t => pz D' m k (clB B' t)) B' k := pzM_congr (n := m) k (by omega) (fun t h1 h2 => h t (by omega) h2) (fun t h1 h2 => ⟨hD _ _ (by omega) h2, pz_congr hm hD k _ _ (by omega) (fun i h3 h4 => by rw [clB_bit (by omega) (by omega), clB_bit (by omega) (by omega), h i (by omega) h4])⟩)
    unfold pz
    rw [h0, ih, hM]
/-- the bits below stand empty -/
theorem pz_skip {D : Nat → Nat → Int} {m B : Nat} : ∀ (i k : Nat), k + i ≤ m → (∀ t, m - (k + i) ≤ t → t < m - k → Nat.testBit B t = false) → pz D m (k + i) B = pz D m k B
  | 0, _, _, _ => rfl
  | i + 1, k, h, hz => by
    have z := hz (m - (k + i + 1)) (by omega) (by omega)
    have e : pz D m (k + i + 1) B = if Nat.testBit B (m - (k + i + 1)) = true then pzM D (m - (k + i + 1)) (fun t => pz D m (k + i) (clB B t)) B (k + i) else pz D m (k + i) B := rfl
    show pz D m (k + i + 1) B = _
    rw [e, if_neg (by rw [z]; decide)]
    exact pz_skip i k (by omega) (fun t h1 h2 => hz t (by omega) h2)
theorem pzM_ext {D : Nat → Nat → Int} {a B k : Nat} {rest : Nat → Int} : ∀ i : Nat, (∀ t, a + 1 + k ≤ t → t < a + 1 + (k + i) → Nat.testBit B t = false) → pzM D a rest B (k + i) = pzM D a rest B k
  | 0, _ => rfl
  | i + 1, h => by
    have z := h (a + 1 + (k + i)) (by omega) (by omega)
    have e : pzM D a rest B (k + i + 1) = if Nat.testBit B (a + 1 + (k + i)) = true then min (pzM D a rest B (k + i)) (D a (a + 1 + (k + i)) + rest (a + 1 + (k + i))) else pzM D a rest B (k + i) := rfl
    show pzM D a rest B (k + i + 1) = _
    rw [e, if_neg (by rw [z]; decide)]
    exact pzM_ext i (fun t h1 h2 => h t h1 (by omega))
theorem pair_ok {N T mp : Nat} {σ : ySt} (hN : 100000 ≤ N) (hT : T = 13 ∨ T = 33) (h1 : σ (T + 1) 1 = mp) (hm6 : mp ≤ 6) (h15 : ∀ j, j < 36 → 0 ≤ σ (T + 15) j ∧ σ (T + 15) j ≤ 1000000) : ∀ (k d B : Nat), k ≤ mp → k + 1 ≤ d → B < 64 → cEa_pair N d 0 T B ((mp - k : Nat) : Int) σ = some (pz (fun u v => σ (T + 15) (6 * u + v)) mp k B) := by
  have hD : ∀ u v, u < mp → v < mp → 0 ≤ (fun u v => σ (T + 15) (6 * u + v)) u v ∧ (fun u v => σ (T + 15) (6 * u + v)) u v ≤ 1000000 := fun u v hu hv => h15 _ (by omega)
  intro k
  induction k with
  | zero =>
    intro d B hk hd hB
    obtain ⟨d, rfl⟩ : ∃ z, d = z + 1 := ⟨d - 1, by omega⟩
    unfold cEa_pair
    rw [if_pos rfl]
    unfold cEa_leastPairing_b
    rw [chk_pos hT, h1, if_neg (by omega)]
    rfl
  | succ k ih =>
    intro d B hk hd hB
    obtain ⟨d, rfl⟩ : ∃ z, d = z + 1 := ⟨d - 1, by omega⟩
    have ha : mp - (k + 1) < mp := by omega
    obtain ⟨a, haa⟩ : ∃ a, mp - (k + 1) = a := ⟨_, rfl⟩
    unfold cEa_pair
    rw [if_pos rfl]
    unfold cEa_leastPairing_b
    rw [haa, chk_pos hT, h1, if_pos (show (a : Int) < (mp : Int) by omega), bit_at B a (by omega) (by omega), chkI_pos (by omega)]
    unfold pz
    rw [haa]
    have ea : (a : Int) + 1 = ((mp - k : Nat) : Int) := by omega
    by_cases c : Nat.testBit B a = true
    · rw [if_pos c, if_pos c, if_pos (show ¬ (1 : Int) = 0 by decide)]
      apply Ok_eq
      obtain ⟨rest, hrest⟩ : ∃ rest : Nat → Int, rest = fun t => pz (fun u v => σ (T + 15) (6 * u + v)) mp k (clB B t) := ⟨_, rfl⟩
      have rrg : ∀ t, 0 ≤ rest t ∧ rest t ≤ 1000000 := fun t => by rw [hrest]; exact pz_rg hD k _ (by omega)
      rw [← hrest]
      refine Ok_loop2 (fun x y => ∃ j : Nat, y = ((a + 1 + j : Nat) : Int) ∧ j ≤ k ∧ x = pzM (fun u v => σ (T + 15) (6 * u + v)) a rest B j) (fun _ y => (mp - y.toNat : Nat)) ?_ N _ _ ⟨0, by omega, by omega, rfl⟩ (by omega)
      rintro g x y ⟨j, rfl, hj, rfl⟩ rec
      have prg := pzM_rg (D := fun u v => σ (T + 15) (6 * u + v)) (a := a) (B := B) (n := mp) (rest := rest) (fun t ht => hD a t (by omega) ht) rrg j (by omega)
      rw [Ok_ite, Ok_some]
      refine ⟨fun q => by rw [show k = j by omega], fun q => ?_⟩
      have hjk : j < k := by omega
      have ub : pzM (fun u v => σ (T + 15) (6 * u + v)) a rest B (j + 1) = if Nat.testBit B (a + 1 + j) = true then min (pzM (fun u v => σ (T + 15) (6 * u + v)) a rest B j) (σ (T + 15) (6 * a + (a + 1 + j)) + rest (a + 1 + j)) else pzM (fun u v => σ (T + 15) (6 * u + v)) a rest B j := rfl
      rw [bit_at B (a + 1 + j) (by omega) (by omega)]
      refine Ok_jq1 (fun (y : Int) => y = pzM (fun u v => σ (T + 15) (6 * u + v)) a rest B (j + 1)) (fun y hy => ?_) (fun kk hkk => ?_)
      · rw [Ok_chkI]
        exact ⟨by omega, rec _ _ ⟨j + 1, by omega, by omega, hy⟩ (by omega)⟩
      · by_cases c2 : Nat.testBit B (a + 1 + j) = true
        · have ix : ((a : Int) * 6 + ((a + 1 + j : Nat) : Int)).toNat = 6 * a + (a + 1 + j) := by omega
          obtain ⟨cl1, cl2, _⟩ := clr_bit B (a + 1 + j) (by omega) (by omega)
          have cl3 : clB B (a + 1 + j) < 64 := by
            have : clB B (a + 1 + j) ≤ B := Nat.and_le_left
            omega
          have hrr := rrg (a + 1 + j)
          have hdd := h15 (6 * a + (a + 1 + j)) (by omega)
          rw [if_pos c2, if_neg (show ¬ ¬ (1 : Int) = 1 from fun w => w rfl), Ok_chkI, cl1, ea]
          refine ⟨by omega, ?_⟩
          have hih := ih d (clB B (a + 1 + j)) (by omega) (by omega) cl3
          have er : pz (fun u v => σ (T + 15) (6 * u + v)) mp k (clB B (a + 1 + j)) = rest (a + 1 + j) := by rw [hrest]
          rw [er] at hih
          unfold clB at hih
          rw [hih, bndO_s, Ok_chkI, Ok_chkI, Ok_chkA, ix, Ok_chkI, min_eq, bndO_s]
          refine ⟨by omega, by omega, by omega, by omega, hkk _ ?_⟩
          rw [ub, if_pos c2]
        · rw [if_neg c2, if_pos (show ¬ (0 : Int) = 1 by decide)]
          refine hkk _ ?_
          rw [ub, if_neg c2]
    · rw [if_neg c, if_neg c, if_neg (show ¬ ¬ (0 : Int) = 0 from fun w => w rfl), chkI_pos (by omega), ea, ih d B (by omega) (by omega) hB, bndO_s]
/-- which places are odd -/
def odB (f : Nat → Int) (mq : Nat) : Nat → Nat
  | 0 => 0
  | k + 1 => odB f mq k + ((cnt f mq k).toNat % 2) * 2 ^ k
theorem odB_lt (f : Nat → Int) (mq : Nat) : ∀ k : Nat, odB f mq k < 2 ^ k
  | 0 => by
    show (0 : Nat) < 2 ^ 0
    decide
  | k + 1 => by
    have ih := odB_lt f mq k
    have h2 : (cnt f mq k).toNat % 2 < 2 := Nat.mod_lt _ (by decide)
    have hp : 2 ^ (k + 1) = 2 * 2 ^ k := by rw [Nat.pow_succ, Nat.mul_comm]
    have h1 : ((cnt f mq k).toNat % 2) * 2 ^ k ≤ 1 * 2 ^ k := Nat.mul_le_mul_right _ (by omega)
    show odB f mq k + ((cnt f mq k).toNat % 2) * 2 ^ k < 2 ^ (k + 1)
    omega
theorem od_or (k B c : Nat) (hk : k < 6) (hB : B < 2 ^ k) (hc : c < 2) : b32or (B : Int) (b32shl (c : Int) (k : Int)) = ((B + c * 2 ^ k : Nat) : Int) := by
  have key : ∀ k : Fin 6, ∀ B : Fin 64, ∀ c : Fin 2, B.val < 2 ^ k.val → b32or ((B.val : Nat) : Int) (b32shl ((c.val : Nat) : Int) ((k.val : Nat) : Int)) = ((B.val + c.val * 2 ^ k.val : Nat) : Int) := by decide +kernel
  have h6 : 2 ^ k ≤ 2 ^ 6 := Nat.pow_le_pow_right (by decide) (by omega)
  exact key ⟨k, hk⟩ ⟨B, by omega⟩ ⟨c, hc⟩ hB
theorem od_mod {f : Nat → Int} {mq k : Nat} : (cnt f mq k).tmod 2 = (((cnt f mq k).toNat % 2 : Nat) : Int) := by
  have h := cnt_rg f mq k
  rw [Int.tmod_eq_emod_of_nonneg h.1]
  omega
theorem leastMending_ok {N T mp mq me : Nat} {σ : ySt} {f : Nat → Int} (hN : 100000 ≤ N) (hTW : TW σ T mp mq me) (hf : ∀ n, n < mq → σ 10 n = f n) : cEa_leastMending N 9 T σ = some (if pz (fun u v => σ (T + 15) (6 * u + v)) mp mp (odB f mq mp) ≥ 1000000 then -1 else pz (fun u v => σ (T + 15) (6 * u + v)) mp mp (odB f mq mp)) := by
  obtain ⟨hT, h1, hm6, h3, hq5, hm, h14, hme, he, hh, h16, h17, h15⟩ := id hTW
  have kd : (yKd (9 + 1)).1 = 20 ∧ 9 + 1 < 150 := by decide
  have kl : (yKd (9 + 1)).2 = 5 := by decide
  apply Ok_eq
  unfold cEa_leastMending
  rw [chk_pos (by omega), chk_pos hT]
  refine Ok_loop2 (fun x y => ∃ k : Nat, y = k ∧ k ≤ mp ∧ x = ((odB f mq k : Nat) : Int)) (fun _ y => (mp - y.toNat : Nat)) ?_ N _ _ ⟨0, rfl, by omega, rfl⟩ (by omega)
  rintro g x y ⟨k, rfl, hk, rfl⟩ rec
  rw [h1, Ok_ite]
  refine ⟨fun q => ?_, fun q => ?_⟩
  · have hke : k = mp := by omega
    subst hke
    have hB := odB_lt f mq k
    have h6 : 2 ^ k ≤ 2 ^ 6 := Nat.pow_le_pow_right (by decide) (by omega)
    have := pair_ok hN hT h1 hm6 h15 k 10 (odB f mq k) (Nat.le_refl k) (by omega) (by omega)
    rw [Nat.sub_self, show ((0 : Nat) : Int) = 0 from rfl] at this
    rw [this, bndO_s, Ok_ite, Ok_some, Ok_some]
    exact ⟨fun c => by rw [if_pos c], fun c => by rw [if_neg c]⟩
  · have hkm : k < mp := by omega
    have cr := cTw_crowd_ok (N := N) (T := T) (a := 9 + 1) (b := 0) (m := mq) (c := (k : Int)) (σ := σ) hN hT h3 hq5 kd (by rw [kl]; omega) (by omega)
    rw [show ((0 : Nat) : Int) = 0 from rfl] at cr
    have ec : cnt (fun n => σ (9 + 1) (0 + n)) mq (k : Int) = cnt f mq k := cnt_congr mq k (fun n hn => by
      rw [Nat.zero_add]
      exact hf n hn)
    have h2 : (cnt f mq k).toNat % 2 < 2 := Nat.mod_lt _ (by decide)
    rw [cr, bndO_s, ec, od_mod, Ok_chk, Ok_chkI, Ok_chkI, od_or k _ _ (by omega) (odB_lt f mq k) h2]
    exact ⟨by decide, by omega, by omega, rec _ _ ⟨k + 1, by omega, by omega, rfl⟩ (by omega)⟩
