/-! the class's day: one goes -/
theorem max_eq (a b : Int) (σ : ySt) : jM_max_7cf53 a b σ = some (max a b) := by
  unfold jM_max_7cf53
  by_cases h : a < b
  · rw [if_pos h, Int.max_eq_right (by omega)]
  · rw [if_neg h, Int.max_eq_left (by omega)]
/-- a weight: what can't be is far below -/
def rpW (x : Int) (o : Option Int) : Prop := (o = none ∧ -4000000 ≤ x ∧ x ≤ -900000) ∨ ∃ a, o = some a ∧ x = a ∧ -10000 ≤ a ∧ a ≤ 10000
def WT (σ : ySt) (m : Nat) (w : Nat → Nat → Option Int) : Prop := ∀ u v, u < m → v < m → rpW (σ 62 (6 * u + v)) (w u v)
theorem bestOfLine_ok {N m u : Nat} {σ : ySt} {w : Nat → Nat → Option Int} {F : Nat → Option Int} {B : Int} (hN : 100000 ≤ N) (hm : m ≤ 6) (hu : u < m) (hw : WT σ m w) (hB : 0 ≤ B ∧ B ≤ 300000) (hF : ∀ q, q < m → rpM (σ 63 q) (F q) ∧ bO B (F q)) :
    Ok (cDs_bestOfLine N ((u : Int) * 6) m σ) (fun r => rpM r (om m (fun q => oadd (w u q) (F q))) ∧ bO (B + 10000) (om m (fun q => oadd (w u q) (F q)))) := by
  obtain ⟨G, hG⟩ : ∃ G : Nat → Option Int, ∀ q, G q = oadd (w u q) (F q) := ⟨_, fun _ => rfl⟩
  have hGG : (fun q => oadd (w u q) (F q)) = G := (funext hG).symm
  rw [hGG]
  unfold cDs_bestOfLine
  -- so far: nothing, and below the floor; or the greatest
  refine Ok_loop2 (fun x y => ∃ k : Nat, y = k ∧ k ≤ m ∧ ((om k G = none ∧ -1000000 ≤ x ∧ x < -500000) ∨ ∃ a, om k G = some a ∧ x = a ∧ -(B + 10000) ≤ a ∧ a ≤ B + 10000)) (fun _ y => (m - y.toNat : Nat)) ?_ N _ _ ⟨0, rfl, by omega, Or.inl ⟨rfl, by decide, by decide⟩⟩ (by omega)
  rintro g x y ⟨k, rfl, hk, hx⟩ rec
  rw [Ok_ite]
  refine ⟨fun q => ?_, fun q => ?_⟩
  · have hkm : k = m := by omega
    subst hkm
    rw [Ok_ite, Ok_some, Ok_some]
    rcases hx with ⟨e, h1, h2⟩ | ⟨a, e, e2, h1, h2⟩
    · exact ⟨fun q2 => by omega, fun _ => ⟨Or.inl ⟨e, rfl⟩, fun a ha => by rw [e] at ha; cases ha⟩⟩
    · refine ⟨fun _ => ⟨Or.inr ⟨a, e, e2⟩, fun a' ha => ?_⟩, fun q2 => by omega⟩
      rw [e] at ha
      have : a = a' := by injection ha
      omega
  · have hkm : k < m := by omega
    have ix : ((u : Int) * 6 + (k : Int)).toNat = 6 * u + k := by omega
    have hwk := hw u k hu hkm
    have hfk := hF k hkm
    have hs : om (k + 1) G = omax (om k G) (G k) := rfl
    have hGk := hG k
    rw [ix, Int.toNat_natCast, max_eq, Ok_chkA, Ok_chkI, Ok_chkA, Ok_chkI, bndO_s, Ok_chkI]
    have rgW : -4000000 ≤ σ 62 (6 * u + k) ∧ σ 62 (6 * u + k) ≤ 10000 := by
      rcases hwk with ⟨_, h1, h2⟩ | ⟨a, _, e, h1, h2⟩
      · omega
      · omega
    have rgF : -1000000 ≤ σ 63 k ∧ σ 63 k ≤ B := by
      rcases hfk.1 with ⟨_, e⟩ | ⟨a, e1, e⟩
      · omega
      · have := hfk.2 a e1
        omega
    refine ⟨by omega, by omega, by omega, by omega, by omega, rec _ _ ⟨k + 1, by omega, by omega, ?_⟩ (by omega)⟩
    -- the new one
    have hz : (G k = none ∧ σ 63 k + σ 62 (6 * u + k) < -500000) ∨ ∃ a, G k = some a ∧ σ 63 k + σ 62 (6 * u + k) = a ∧ -(B + 10000) ≤ a ∧ a ≤ B + 10000 := by
      rcases hwk with ⟨e1, h1, h2⟩ | ⟨a, e1, e2, h1, h2⟩
      · refine Or.inl ⟨by rw [hGk, e1]; exact none_oadd, by omega⟩
      · rcases hfk.1 with ⟨e3, e4⟩ | ⟨c, e3, e4⟩
        · exact Or.inl ⟨by rw [hGk, e3]; exact oadd_none, by omega⟩
        · have := hfk.2 c e3
          exact Or.inr ⟨a + c, by rw [hGk, e1, e3]; rfl, by omega, by omega, by omega⟩
    rw [hs]
    rcases hx with ⟨e, h1, h2⟩ | ⟨a, e, e2, h1, h2⟩
    · rcases hz with ⟨e3, h3⟩ | ⟨c, e3, e4, h3, h4⟩
      · rw [e, e3]
        exact Or.inl ⟨rfl, by omega, by omega⟩
      · rw [e, e3]
        exact Or.inr ⟨c, rfl, by omega, h3, h4⟩
    · rcases hz with ⟨e3, h3⟩ | ⟨c, e3, e4, h3, h4⟩
      · rw [e, e3]
        exact Or.inr ⟨a, rfl, by omega, h1, h2⟩
      · rw [e, e3]
        exact Or.inr ⟨max a c, rfl, by omega, by omega, by omega⟩
/-- how a state lies in blocks -/
theorem blk {m K n : Nat} (hm : 0 < m) (hn : n < K) {i a j : Nat} (hi : i < m ^ n) (ha : a < m) (hj : j < m ^ (K - 1 - n)) : i * (m ^ (K - 1 - n) * m) + a * m ^ (K - 1 - n) + j < m ^ K ∧ dg m K (i * (m ^ (K - 1 - n) * m) + a * m ^ (K - 1 - n) + j) n = a ∧ ∀ q, sdx m K (i * (m ^ (K - 1 - n) * m) + a * m ^ (K - 1 - n) + j) n q = i * (m ^ (K - 1 - n) * m) + q * m ^ (K - 1 - n) + j := by
  have hK : m ^ K = m ^ n * (m ^ (K - 1 - n) * m) := by
    rw [← Nat.pow_succ, ← Nat.pow_add]
    congr 1
    omega
  have hU : 0 < m ^ (K - 1 - n) := Nat.pow_pos hm
  generalize hUU : m ^ (K - 1 - n) = U at *
  have h1 : a * U + j < U * m := by
    have : (a + 1) * U ≤ m * U := Nat.mul_le_mul_right U ha
    rw [Nat.add_mul, Nat.one_mul, Nat.mul_comm m U] at this
    omega
  have hx : i * (U * m) + a * U + j < m ^ K := by
    rw [hK]
    have : (i + 1) * (U * m) ≤ m ^ n * (U * m) := Nat.mul_le_mul_right _ hi
    rw [Nat.add_mul, Nat.one_mul] at this
    omega
  have hd : dg m K (i * (U * m) + a * U + j) n = a := by
    unfold dg
    rw [hUU]
    have e : i * (U * m) + a * U + j = j + (i * m + a) * U := by
      rw [Nat.add_mul, Nat.mul_assoc, Nat.mul_comm m U]
      omega
    rw [e, Nat.add_mul_div_right _ _ hU, Nat.div_eq_of_lt hj, Nat.zero_add, Nat.add_comm, Nat.add_mul_mod_self_right, Nat.mod_eq_of_lt ha]
  refine ⟨hx, hd, fun q => ?_⟩
  have h := enc_upd (m := m) (v := dg m K (i * (U * m) + a * U + j)) (n := n) (q := q) K hn
  rw [enc_dg hm K _ hx, hUU, hd] at h
  unfold sdx
  omega
theorem blk_ex {m K n x : Nat} (hm : 0 < m) (hn : n < K) (hx : x < m ^ K) : ∃ i a j, i < m ^ n ∧ a < m ∧ j < m ^ (K - 1 - n) ∧ x = i * (m ^ (K - 1 - n) * m) + a * m ^ (K - 1 - n) + j := by
  have hK : m ^ K = m ^ n * (m ^ (K - 1 - n) * m) := by
    rw [← Nat.pow_succ, ← Nat.pow_add]
    congr 1
    omega
  have hU : 0 < m ^ (K - 1 - n) := Nat.pow_pos hm
  generalize m ^ (K - 1 - n) = U at *
  refine ⟨x / U / m, x / U % m, x % U, ?_, Nat.mod_lt _ hm, Nat.mod_lt _ hU, ?_⟩
  · rw [hK] at hx
    rw [Nat.div_div_eq_div_mul]
    exact Nat.div_lt_of_lt_mul (by rw [Nat.mul_comm]; exact hx)
  · have e1 := Nat.div_add_mod x U
    have e2 := Nat.div_add_mod (x / U) m
    have e3 : U * (x / U) = x / U / m * (U * m) + x / U % m * U := by
      have : U * (m * (x / U / m) + x / U % m) = U * (x / U) := by rw [e2]
      rw [← this, Nat.mul_add, ← Nat.mul_assoc, Nat.mul_comm (U * m), Nat.mul_comm U (x / U % m)]
    omega
theorem or01 (a b : Int) (ha : a = 0 ∨ a = 1) (hb : b = 0 ∨ b = 1) : b32or a b = if a = 0 ∧ b = 0 then 0 else 1 := by
  rcases ha with rfl | rfl <;> rcases hb with rfl | rfl <;> decide
theorem goBack_ok {N T m K n : Nat} {σ : ySt} {w : Nat → Nat → Option Int} {f : Nat → Option Int} {B : Int} (hN : 100000 ≤ N) (hT : T = 13 ∨ T = 33) (h0 : σ 78 0 = (T : Int) + 1) (h1 : σ (T + 1) 1 = m) (hm : 0 < m ∧ m ≤ 6) (hK : K ≤ 5) (hn : n < K) (h79 : σ 79 n = ((m ^ (K - 1 - n) : Nat) : Int)) (h783 : σ 78 3 = ((m ^ K : Nat) : Int)) (hw : WT σ m w) (hB : 0 ≤ B ∧ B ≤ 300000) (hf : ∀ x, x < m ^ K → rpM (σ 60 (x)) (f x) ∧ bO B (f x)) :
    Ok (cDs_goBack N n σ) (fun σ' => (∀ i, i ≠ 60 → i ≠ 63 → σ' i = σ i) ∧ (∀ j, m ^ K ≤ j → σ' 60 j = σ 60 j) ∧ ∀ x, x < m ^ K → rpM (σ' 60 (x)) (stp m K w n f x) ∧ bO (B + 10000) (stp m K w n f x)) := by
  obtain ⟨hm0, hm6⟩ := hm
  have hS := pow_le hm6 hK
  have hKK : m ^ K = m ^ n * (m ^ (K - 1 - n) * m) := by
    rw [← Nat.pow_succ, ← Nat.pow_add]
    congr 1
    omega
  have hblk := fun (i a j : Nat) (hi : i < m ^ n) (ha : a < m) (hj : j < m ^ (K - 1 - n)) => blk hm0 hn hi ha hj
  have hbex := fun (x : Nat) (hx : x < m ^ K) => blk_ex hm0 hn hx
  have hU : 0 < m ^ (K - 1 - n) := Nat.pow_pos hm0
  have hMn : 0 < m ^ n := Nat.pow_pos hm0
  generalize hUU : m ^ (K - 1 - n) = U at *
  generalize hII : m ^ n = I at *
  have hIU : U * m ≤ I * (U * m) := Nat.le_mul_of_pos_left _ hMn
  have hUm : U ≤ U * m := Nat.le_mul_of_pos_right _ hm0
  have hI : I ≤ I * (U * m) := Nat.le_mul_of_pos_right _ (Nat.mul_pos hU hm0)
  have ebl : ((U : Nat) : Int) * ((m : Nat) : Int) = ((U * m : Nat) : Int) := (Int.natCast_mul U m).symm
  have hUm0 : 0 < U * m := Nat.mul_pos hU hm0
  obtain ⟨bl, hbl⟩ : ∃ bl : Nat, U * m = bl := ⟨_, rfl⟩
  rw [hbl] at hKK hIU hUm hI ebl hblk hbex hUm0
  unfold cDs_goBack
  rw [chkT_pos hT h0, Int.toNat_natCast, h79, h1, ebl, h783, Ok_chkA, Ok_chkI]
  refine ⟨by omega, by omega, ?_⟩
  refine Ok_jq1 (fun (y : Int) => y = I) (fun y6 hy => ?_) (fun k hk => ?_)
  · rw [hy]
    -- done: blocks before i
    refine Ok_loopS1 (fun x ν => ∃ i : Nat, x = i ∧ i ≤ I ∧ (∀ c, c ≠ 60 → c ≠ 63 → ν c = σ c) ∧ (∀ j, m ^ K ≤ j → ν 60 j = σ 60 j) ∧ ∀ i' a j, i' < I → a < m → j < U → (if i' < i then rpM (ν 60 ((i' * bl + a * U + j))) (stp m K w n f (i' * bl + a * U + j)) ∧ bO (B + 10000) (stp m K w n f (i' * bl + a * U + j)) else ν 60 ((i' * bl + a * U + j)) = σ 60 ((i' * bl + a * U + j)))) (fun x _ => (I - x.toNat : Nat)) ?_ N _ _ ⟨0, rfl, by omega, fun _ _ _ => rfl, fun _ _ => rfl, fun i' a j _ _ _ => by rw [if_neg (Nat.not_lt_zero i')]⟩ (by omega)
    rintro g x ν ⟨i, rfl, hi, i1, i2, i3⟩ rec
    rw [Ok_ite, Ok_some]
    refine ⟨fun q => ⟨i1, i2, fun x hx => ?_⟩, fun q => ?_⟩
    · obtain ⟨i', a, j, x1, x2, x3, e⟩ := hbex x hx
      have := i3 i' a j x1 x2 x3
      rw [if_pos (by omega)] at this
      rw [e]
      exact this
    have hiI : i < I := by omega
    have hib : i * bl + bl ≤ I * bl := by
      have : (i + 1) * bl ≤ I * bl := Nat.mul_le_mul_right bl hiI
      rw [Nat.add_mul, Nat.one_mul] at this
      exact this
    refine Ok_loopS2 (fun x y μ => x = (i : Int) ∧ ∃ j : Nat, y = j ∧ j ≤ U ∧ (∀ c, c ≠ 60 → c ≠ 63 → μ c = σ c) ∧ (∀ j, m ^ K ≤ j → μ 60 j = σ 60 j) ∧ ∀ i' a j', i' < I → a < m → j' < U → (if i' < i ∨ (i' = i ∧ j' < j) then rpM (μ 60 ((i' * bl + a * U + j'))) (stp m K w n f (i' * bl + a * U + j')) ∧ bO (B + 10000) (stp m K w n f (i' * bl + a * U + j')) else μ 60 ((i' * bl + a * U + j')) = σ 60 ((i' * bl + a * U + j')))) (fun _ y _ => (U - y.toNat : Nat)) ?_ N _ _ _ ⟨rfl, 0, rfl, by omega, i1, i2, fun i' a j' x1 x2 x3 => ?_⟩ (by omega)
    · rintro g2 x y μ ⟨rfl, j, rfl, hj, j1, j2, j3⟩ rec2
      rw [Ok_ite]
      refine ⟨fun q2 => ?_, fun q2 => ?_⟩
      · rw [Ok_chkI]
        refine ⟨by omega, rec _ _ ⟨i + 1, by omega, by omega, j1, j2, fun i' a j' x1 x2 x3 => ?_⟩ (by omega)⟩
        have := j3 i' a j' x1 x2 x3
        by_cases c : i' < i + 1
        · rw [if_pos (by omega)] at this
          rw [if_pos c]
          exact this
        · rw [if_neg (by omega)] at this
          rw [if_neg c]
          exact this
      have hjU : j < U := by omega
      have e1 : (i : Int) * ((bl : Nat) : Int) = ((i * bl : Nat) : Int) := (Int.natCast_mul i bl).symm
      obtain ⟨ib, hib2⟩ : ∃ ib : Nat, i * bl = ib := ⟨_, rfl⟩
      rw [hib2] at e1 hib
      have lst : ∀ a, a < m → ib + a * U + j < m ^ K ∧ dg m K (ib + a * U + j) n = a ∧ ∀ q, sdx m K (ib + a * U + j) n q = ib + q * U + j := fun a ha => by
        have := hblk i a j hiI ha hjU
        rw [hib2] at this
        exact this
      have aU : ∀ a, a < m → a * U + U ≤ bl := fun a ha => by
        have : (a + 1) * U ≤ m * U := Nat.mul_le_mul_right U ha
        rw [Nat.add_mul, Nat.one_mul, Nat.mul_comm m U, hbl] at this
        exact this
      rw [e1, Ok_chkI, Ok_chkI]
      refine ⟨by omega, by omega, ?_⟩
      -- the line
      obtain ⟨F, hF⟩ : ∃ F : Nat → Option Int, ∀ q, F q = f (ib + q * U + j) := ⟨_, fun _ => rfl⟩
      have unt : ∀ a, a < m → μ 60 ((ib + a * U + j)) = σ 60 ((ib + a * U + j)) := fun a ha => by
        have := j3 i a j hiI ha hjU
        rw [if_neg (by omega), hib2] at this
        exact this
      have hFr : ∀ q, q < m → rpM (σ 60 ((ib + q * U + j))) (F q) ∧ bO B (F q) := fun q hq => by
        rw [hF]
        exact hf _ (lst q hq).1
      refine Ok_loopS4 (fun x y a z ρ => x = (i : Int) ∧ y = (j : Int) ∧ ∃ q : Nat, z = q ∧ q ≤ m ∧ (a = 0 ∨ a = 1) ∧ (a = 0 ↔ ∀ p, p < q → F p = none) ∧ (∀ c, c ≠ 63 → ρ c = μ c) ∧ ∀ p, p < q → ρ 63 p = σ 60 ((ib + p * U + j))) (fun _ _ _ z _ => (m - z.toNat : Nat)) ?_ N _ _ _ _ _ ⟨rfl, rfl, 0, rfl, by omega, Or.inl rfl, ⟨fun _ p hp => absurd hp (Nat.not_lt_zero p), fun _ => rfl⟩, fun _ _ => rfl, fun p hp => absurd hp (Nat.not_lt_zero p)⟩ (by omega)
      rintro g3 x y a z ρ ⟨rfl, rfl, q, rfl, hq, a01, l0, l1, l2⟩ rec3
      rw [Ok_ite]
      refine ⟨fun q3 => ?_, fun q3 => ?_⟩
      · have hqm : q = m := by omega
        subst hqm
        have hst2 : ∀ p, p < q → stp q K w n f (ib + p * U + j) = om q (fun r => oadd (w p r) (F r)) := fun p hp => by
          show om q (fun r => oadd (w (dg q K (ib + p * U + j) n) r) (f (sdx q K (ib + p * U + j) n r))) = _
          apply om_congr
          intro r hr
          rw [(lst p hp).2.1, (lst p hp).2.2 r, hF]
        -- writing
        refine Ok_loopS4 (fun x y a' z κ => x = (i : Int) ∧ y = (j : Int) ∧ a' = a ∧ ∃ p : Nat, z = p ∧ p ≤ q ∧ (∀ c, c ≠ 60 → κ c = ρ c) ∧ (∀ s, (∀ r, r < p → s ≠ (ib + r * U + j)) → κ 60 s = μ 60 s) ∧ ∀ r, r < p → rpM (κ 60 ((ib + r * U + j))) (stp q K w n f (ib + r * U + j)) ∧ bO (B + 10000) (stp q K w n f (ib + r * U + j))) (fun _ _ _ z _ => (q - z.toNat : Nat)) ?_ N _ _ _ _ _ ⟨rfl, rfl, rfl, 0, rfl, by omega, fun _ _ => rfl, fun s _ => by rw [l1 60 (by decide)], fun r hr => absurd hr (Nat.not_lt_zero r)⟩ (by omega)
        rintro g4 x y a' z κ ⟨rfl, rfl, rfl, p, rfl, hp, m1, m2, m3⟩ rec4
        -- what is next, when all of the line stand
        have next : (∀ r, r < q → rpM (κ 60 ((ib + r * U + j))) (stp q K w n f (ib + r * U + j)) ∧ bO (B + 10000) (stp q K w n f (ib + r * U + j))) → Ok (chkI ((j : Int) + 1) <| g2 (i : Int) ((j : Int) + 1) κ) (fun σ' => (∀ i, i ≠ 60 → i ≠ 63 → σ' i = σ i) ∧ (∀ j, q ^ K ≤ j → σ' 60 j = σ 60 j) ∧ ∀ x, x < q ^ K → rpM (σ' 60 (x)) (stp q K w n f x) ∧ bO (B + 10000) (stp q K w n f x)) := by
          intro hall
          rw [Ok_chkI]
          refine ⟨by omega, rec2 _ _ _ ⟨rfl, j + 1, by omega, by omega, fun c c1 c2 => by rw [m1 c c1, l1 c c2]; exact j1 c c1 c2, fun s hs => ?_, fun i' a2 j' x1 x2 x3 => ?_⟩ (by omega)⟩
          · rw [m2 s (fun r hr => by have := (lst r (by omega)).1; omega)]
            exact j2 s hs
          · by_cases c : i' = i ∧ j' = j
            · rw [c.1, c.2, if_pos (by omega), hib2]
              exact hall a2 x2
            · have old := j3 i' a2 j' x1 x2 x3
              have same : κ 60 ((i' * bl + a2 * U + j')) = μ 60 ((i' * bl + a2 * U + j')) := m2 _ (fun r hr e => by
                have d1 := hblk i' a2 j' x1 x2 x3
                have d2 := lst r (by omega)
                have e' : i' * bl + a2 * U + j' = ib + r * U + j := by omega
                have ha2 : a2 = r := by rw [← d1.2.1, e', d2.2.1]
                have hq0 : i' * bl + 0 * U + j' = ib + 0 * U + j := by rw [← d1.2.2 0, e', d2.2.2 0]
                have : i' = i := by
                  have h2 : (i' * bl + 0 * U + j') / bl = (ib + 0 * U + j) / bl := congrArg (fun z => z / bl) hq0
                  have hj'b : 0 * U + j' < bl := by omega
                  have hjb : 0 * U + j < bl := by omega
                  rw [Nat.add_assoc, Nat.add_assoc, ← hib2, Nat.add_comm (i' * bl), Nat.add_comm (i * bl), Nat.add_mul_div_right _ _ hUm0, Nat.add_mul_div_right _ _ hUm0, Nat.div_eq_of_lt hj'b, Nat.div_eq_of_lt hjb, Nat.zero_add, Nat.zero_add] at h2
                  exact h2
                apply c
                refine ⟨this, ?_⟩
                rw [this, hib2] at hq0
                omega)
              rw [same]
              by_cases c2 : i' < i ∨ (i' = i ∧ j' < j)
              · rw [if_pos c2] at old
                rw [if_pos (by omega)]
                exact old
              · rw [if_neg c2] at old
                rw [if_neg (by omega)]
                exact old
        refine Ok_jq (∀ r, r < q → rpM (κ 60 ((ib + r * U + j))) (stp q K w n f (ib + r * U + j)) ∧ bO (B + 10000) (stp q K w n f (ib + r * U + j))) next (fun k34 hk34 => ?_)
        rw [Ok_ite]
        refine ⟨fun q4 => hk34 (fun r hr => m3 r (by omega)), fun q4 => ?_⟩
        have hpq : p < q := by omega
        rw [Ok_ite]
        refine ⟨fun q5 => hk34 (fun r hr => ?_), fun q5 => ?_⟩
        · have hall := l0.mp q5
          have hnone : stp q K w n f (ib + r * U + j) = none := by
            rw [hst2 r hr]
            have hi := om_isM (fun r' => oadd (w r r') (F r')) q
            rcases hi.2 with e | ⟨y, hy, e⟩
            · exact e
            · rw [← e]
              show oadd (w r y) (F y) = none
              rw [hall y hy]
              exact oadd_none
          by_cases cr : r < p
          · exact m3 r cr
          · rw [hnone]
            refine ⟨Or.inl ⟨rfl, ?_⟩, fun a ha => by cases ha⟩
            rw [m2 _ (fun r' hr' e => by
              have d1 := lst r hr
              have d2 := lst r' (by omega)
              have e' : ib + r * U + j = ib + r' * U + j := by omega
              have : r = r' := by rw [← d1.2.1, e', d2.2.1]
              omega), unt r hr]
            rcases (hFr r hr).1 with ⟨_, e2⟩ | ⟨a, e1, _⟩
            · exact e2
            · rw [hall r hr] at e1
              cases e1
        · have eU : (p : Int) * ((U : Nat) : Int) = ((p * U : Nat) : Int) := (Int.natCast_mul p U).symm
          obtain ⟨pU, hpU⟩ : ∃ pU : Nat, p * U = pU := ⟨_, rfl⟩
          have aUp := aU p hpq
          have lp := (lst p hpq).1
          rw [hpU] at eU aUp lp
          have ix : ((ib : Int) + (j : Int) + (pU : Int)).toNat = (ib + pU + j) := by omega
          have hwκ : WT κ q w := fun u v hu hv => by
            rw [m1 62 (by decide), l1 62 (by decide), j1 62 (by decide) (by decide)]
            exact hw u v hu hv
          have hFκ : ∀ r, r < q → rpM (κ 63 r) (F r) ∧ bO B (F r) := fun r hr => by
            rw [m1 63 (by decide), l2 r hr]
            exact hFr r hr
          rw [eU, ix, Ok_chkI, Ok_chkI, Ok_chkI, Ok_bndO]
          refine ⟨by omega, by omega, by omega, (bestOfLine_ok hN hm6 hpq hwκ hB hFκ).mono ?_⟩
          rintro r42 hr42
          rw [← hst2 p hpq, hpU] at hr42
          rw [Ok_chkA, Ok_bnd, Ok_chkI]
          refine ⟨by omega, by omega, rec4 _ _ _ _ _ ⟨rfl, rfl, rfl, p + 1, by omega, by omega, fun c c1 => by rw [yset_off c c1]; exact m1 c c1, fun s hs => ?_, fun r hr => ?_⟩ (by omega)⟩
          · have := hs p (by omega)
            rw [hpU] at this
            rw [yset_ne (by omega)]
            exact m2 s (fun r hr => hs r (by omega))
          · by_cases c : r = p
            · rw [c, hpU, yset_at]
              exact hr42
            · have d1 := lst r (by omega)
              have d2 := lst p hpq
              rw [yset_ne (Or.inr (fun e => c (by
                have e' : ib + r * U + j = ib + p * U + j := by rw [hpU]; omega
                rw [← d1.2.1, e', d2.2.1])))]
              exact m3 r (by omega)
      · have hqm : q < m := by omega
        have eU : (q : Int) * ((U : Nat) : Int) = ((q * U : Nat) : Int) := (Int.natCast_mul q U).symm
        obtain ⟨qU, hqU⟩ : ∃ qU : Nat, q * U = qU := ⟨_, rfl⟩
        have aUq := aU q hqm
        have lq := (lst q hqm).1
        have uq := unt q hqm
        have fq := hFr q hqm
        rw [hqU] at eU aUq lq uq fq
        have ix : ((ib : Int) + (j : Int) + (qU : Int)).toNat = (ib + qU + j) := by omega
        rw [eU, ix, Int.toNat_natCast, l1 60 (by decide), uq, Ok_chkI, Ok_chkI, Ok_chkA, Ok_chkA, Ok_bnd, yset_at, Ok_chkA]
        refine ⟨by omega, by omega, by omega, by omega, by omega, ?_⟩
        refine Ok_jq1 (fun (y : Int) => (y = 0 ∨ y = 1) ∧ (y = 0 ↔ F q = none)) (fun y54 hy => ?_) (fun kk hkk => ?_)
        · rw [Ok_chkI, or01 a y54 a01 hy.1]
          refine ⟨by omega, rec3 _ _ _ _ _ ⟨rfl, rfl, q + 1, by omega, by omega, by split <;> omega, ?_, fun c c1 => by rw [yset_off c c1]; exact l1 c c1, fun p hp => ?_⟩ (by omega)⟩
          · constructor
            · intro h p hp
              by_cases c : a = 0 ∧ y54 = 0
              · by_cases c2 : p = q
                · rw [c2]
                  exact hy.2.mp c.2
                · exact l0.mp c.1 p (by omega)
              · rw [if_neg c] at h
                exact absurd h (by decide)
            · intro h
              rw [if_pos ⟨l0.mpr (fun p hp => h p (by omega)), hy.2.mpr (h q (by omega))⟩]
          · by_cases c : p = q
            · rw [c, yset_at, hqU]
            · rw [yset_ne (by omega)]
              exact l2 p (by omega)
        · rw [Ok_ite]
          refine ⟨fun c => hkk 0 ⟨Or.inl rfl, ⟨fun _ => ?_, fun _ => rfl⟩⟩, fun c => hkk 1 ⟨Or.inr rfl, ⟨fun w => absurd w (by decide), fun e => ?_⟩⟩⟩
          · rcases fq.1 with ⟨e, _⟩ | ⟨d, e1, e2⟩
            · exact e
            · have := fq.2 d e1
              omega
          · rcases fq.1 with ⟨_, e2⟩ | ⟨d, e1, _⟩
            · omega
            · rw [e] at e1
              cases e1
    · have := i3 i' a j' x1 x2 x3
      by_cases c : i' < i
      · rw [if_pos c] at this
        rw [if_pos (Or.inl c)]
        exact this
      · rw [if_neg c] at this
        rw [if_neg (by omega)]
        exact this
  · rw [Ok_ite]
    refine ⟨fun q => ?_, fun q => by omega⟩
    have td : ((m ^ K : Nat) : Int).tdiv ((bl : Nat) : Int) = ((I : Nat) : Int) := by
      rw [Int.tdiv_eq_ediv_of_nonneg (Int.natCast_nonneg _), ← Int.natCast_ediv, hKK, Nat.mul_div_cancel _ hUm0]
    rw [td, Ok_chk, Ok_chkI]
    exact ⟨by omega, by omega, hk _ rfl⟩
