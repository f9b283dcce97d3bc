/-! least minutes: the greatest measure of ways below the ways themselves -/
def MT (n : Nat) (W D : Nat → Nat → Int) : Prop := (∀ a b, a < n → b < n → D a b ≤ W a b) ∧ (∀ a b c, a < n → b < n → c < n → D a b ≤ D a c + D c b) ∧ (∀ E : Nat → Nat → Int, (∀ a b, a < n → b < n → E a b ≤ W a b) → (∀ a b c, a < n → b < n → c < n → E a b ≤ E a c + E c b) → ∀ a b, a < n → b < n → E a b ≤ D a b)
theorem MT_uniq {n : Nat} {W D D' : Nat → Nat → Int} (h : MT n W D) (g : MT n W D') {a b : Nat} (ha : a < n) (hb : b < n) : D a b = D' a b :=
  Int.le_antisymm (g.2.2 D h.1 h.2.1 a b ha hb) (h.2.2 D' g.1 g.2.1 a b ha hb)
theorem MT_congr {n : Nat} {W W' D D' : Nat → Nat → Int} (h : MT n W D) (hw : ∀ a b, a < n → b < n → W' a b = W a b) (hd : ∀ a b, a < n → b < n → D' a b = D a b) : MT n W' D' := by
  refine ⟨fun a b ha hb => by rw [hw a b ha hb, hd a b ha hb]; exact h.1 a b ha hb, fun a b c ha hb hc => by rw [hd a b ha hb, hd a c ha hc, hd c b hc hb]; exact h.2.1 a b c ha hb hc, fun E e1 e2 a b ha hb => ?_⟩
  rw [hd a b ha hb]
  exact h.2.2 E (fun a b ha hb => by rw [← hw a b ha hb]; exact e1 a b ha hb) e2 a b ha hb
/-- a stage: ways by places below c are in -/
def FW (n c : Nat) (W f : Nat → Nat → Int) : Prop := (∀ a b, a < n → b < n → f a b ≤ W a b) ∧ (∀ a b, a < n → b < n → 0 ≤ f a b) ∧ (∀ a, a < n → f a a = 0) ∧ (∀ a b d, a < n → b < n → d < c → f a b ≤ f a d + f d b) ∧ (∀ E : Nat → Nat → Int, (∀ a b, a < n → b < n → E a b ≤ W a b) → (∀ a b c, a < n → b < n → c < n → E a b ≤ E a c + E c b) → ∀ a b, a < n → b < n → E a b ≤ f a b)
theorem FW_0 {n : Nat} {W : Nat → Nat → Int} (h0 : ∀ a b, a < n → b < n → 0 ≤ W a b) (h1 : ∀ a, a < n → W a a = 0) : FW n 0 W W :=
  ⟨fun _ _ _ _ => Int.le_refl _, h0, h1, fun _ _ d _ _ hd => absurd hd (Nat.not_lt_zero d), fun _ e1 _ => e1⟩
theorem FW_MT {n : Nat} {W f : Nat → Nat → Int} (h : FW n n W f) : MT n W f := ⟨h.1, h.2.2.2.1, h.2.2.2.2⟩
theorem FW_step {n c : Nat} {W f g : Nat → Nat → Int} (hc : c < n) (h : FW n c W f) (hg : ∀ a b, a < n → b < n → g a b = min (f a b) (f a c + f c b)) : FW n (c + 1) W g := by
  obtain ⟨h1, h2, h3, h4, h5⟩ := h
  have gac : ∀ a, a < n → g a c = f a c := fun a ha => by
    have := h3 c hc
    rw [hg a c ha hc, this]
    omega
  have gcb : ∀ b, b < n → g c b = f c b := fun b hb => by
    have := h3 c hc
    rw [hg c b hc hb, this]
    omega
  refine ⟨fun a b ha hb => ?_, fun a b ha hb => ?_, fun a ha => ?_, fun a b d ha hb hd => ?_, fun E e1 e2 a b ha hb => ?_⟩
  · have := h1 a b ha hb
    rw [hg a b ha hb]
    omega
  · have := h2 a b ha hb
    have := h2 a c ha hc
    have := h2 c b hc hb
    rw [hg a b ha hb]
    omega
  · have := h3 a ha
    have := h2 a c ha hc
    have := h2 c a hc ha
    rw [hg a a ha ha]
    omega
  · by_cases q : d = c
    · subst q
      rw [gac a ha, gcb b hb, hg a b ha hb]
      omega
    · have hdc : d < c := by omega
      have hdn : d < n := by omega
      have x1 := h4 a b d ha hb hdc
      have x2 := h4 c b d hc hb hdc
      have x3 := h4 a c d ha hc hdc
      have x4 := h2 c d hc hdn
      have x5 := h2 d c hdn hc
      rw [hg a b ha hb, hg a d ha hdn, hg d b hdn hb]
      omega
  · have y0 := h5 E e1 e2 a b ha hb
    have y1 := h5 E e1 e2 a c ha hc
    have y2 := h5 E e1 e2 c b hc hb
    have y3 := e2 a b c ha hb hc
    rw [hg a b ha hb]
    omega
theorem MT_pos {n : Nat} {W D : Nat → Nat → Int} (h : MT n W D) (h0 : ∀ a b, a < n → b < n → 0 ≤ W a b) {a b : Nat} (ha : a < n) (hb : b < n) : 0 ≤ D a b :=
  h.2.2 (fun _ _ => 0) h0 (fun _ _ _ _ _ _ => by omega) a b ha hb
/-- places to which nothing leads don't matter -/
theorem MT_ext {n m : Nat} {W V D : Nat → Nat → Int} {K : Int} (hnm : n ≤ m) (hK : 0 ≤ K) (h0 : ∀ a b, a < n → b < n → 0 ≤ W a b ∧ W a b ≤ K) (hV : ∀ a b, a < m → b < m → V a b = if a < n ∧ b < n then W a b else if a = b then 0 else K) (h : MT n W D) {D' : Nat → Nat → Int} (h' : MT m V D') {a b : Nat} (ha : a < n) (hb : b < n) : D' a b = D a b := by
  refine Int.le_antisymm ?_ ?_
  · exact h.2.2 D' (fun x y hx hy => by have := h'.1 x y (by omega) (by omega); rw [hV x y (by omega) (by omega), if_pos ⟨hx, hy⟩] at this; exact this) (fun x y z hx hy hz => h'.2.1 x y z (by omega) (by omega) (by omega)) a b ha hb
  · have pos : ∀ x y, x < n → y < n → 0 ≤ D x y ∧ D x y ≤ K := fun x y hx hy => ⟨MT_pos h (fun p q hp hq => (h0 p q hp hq).1) hx hy, Int.le_trans (h.1 x y hx hy) (h0 x y hx hy).2⟩
    obtain ⟨E, hE⟩ : ∃ E : Nat → Nat → Int, ∀ x y, E x y = if x < n ∧ y < n then D x y else if x = y then 0 else K := ⟨_, fun _ _ => rfl⟩
    have eD : ∀ x y, x < n → y < n → E x y = D x y := fun x y hx hy => by rw [hE, if_pos ⟨hx, hy⟩]
    have e0 : ∀ x y, ¬ (x < n ∧ y < n) → x = y → E x y = 0 := fun x y h1 h2 => by rw [hE, if_neg h1, if_pos h2]
    have eK : ∀ x y, ¬ (x < n ∧ y < n) → x ≠ y → E x y = K := fun x y h1 h2 => by rw [hE, if_neg h1, if_neg h2]
    have ep : ∀ x y, 0 ≤ E x y ∧ E x y ≤ K := fun x y => by
      by_cases c : x < n ∧ y < n
      · rw [eD x y c.1 c.2]
        exact pos x y c.1 c.2
      · by_cases c2 : x = y
        · rw [e0 x y c c2]
          omega
        · rw [eK x y c c2]
          omega
    have key := h'.2.2 E (fun x y hx hy => ?_) (fun x y z hx hy hz => ?_) a b (by omega) (by omega)
    · rw [eD a b ha hb] at key
      exact key
    · rw [hV x y hx hy]
      by_cases c : x < n ∧ y < n
      · rw [if_pos c, eD x y c.1 c.2]
        exact h.1 x y c.1 c.2
      · rw [if_neg c]
        by_cases c2 : x = y
        · rw [if_pos c2, e0 x y c c2]
          exact Int.le_refl _
        · rw [if_neg c2, eK x y c c2]
          exact Int.le_refl _
    · have p1 := ep x z
      have p2 := ep z y
      have p3 := ep x y
      by_cases c : x < n ∧ y < n
      · by_cases cz : z < n
        · rw [eD x y c.1 c.2, eD x z c.1 cz, eD z y cz c.2]
          exact h.2.1 x y z c.1 c.2 cz
        · have := eK x z (fun w => cz w.2) (by omega)
          omega
      · by_cases c2 : x = y
        · rw [e0 x y c c2]
          omega
        · rw [eK x y c c2]
          by_cases c3 : x = z
          · have := eK z y (by omega) (by omega)
            omega
          · by_cases c4 : z = y
            · have := eK x z (by omega) (by omega)
              omega
            · by_cases c5 : x < n
              · have := eK z y (by omega) c4
                omega
              · have := eK x z (by omega) c3
                omega
/-- the class's loops -/
theorem cTw_layLeast_ok {N T n : Nat} {σ : ySt} (hN : 100000 ≤ N) (hT : T = 13 ∨ T = 33) (hn : σ (T + 1) 1 = n) (hn6 : n ≤ 6) (h0 : ∀ a b, a < 6 → b < 6 → 0 ≤ σ (T + 15) (6 * a + b) ∧ σ (T + 15) (6 * a + b) ≤ 1000000) (h1 : ∀ a, a < n → σ (T + 15) (6 * a + a) = 0) :
    Ok (cTw_layLeast N T σ) (fun σ' => (∀ i, i ≠ T + 15 → σ' i = σ i) ∧ MT n (fun a b => σ (T + 15) (6 * a + b)) (fun a b => σ' (T + 15) (6 * a + b)) ∧ (∀ j, (∀ a b, a < n → b < n → j ≠ 6 * a + b) → σ' (T + 15) j = σ (T + 15) j)) := by
  unfold cTw_layLeast
  rw [Ok_chk, hn]
  refine ⟨hT, ?_⟩
  -- phases
  refine Ok_loopS1 (fun x ρ => ∃ c : Nat, x = c ∧ c ≤ n ∧ (∀ i, i ≠ T + 15 → ρ i = σ i) ∧ FW n c (fun a b => σ (T + 15) (6 * a + b)) (fun a b => ρ (T + 15) (6 * a + b)) ∧ (∀ j, (∀ a b, a < n → b < n → j ≠ 6 * a + b) → ρ (T + 15) j = σ (T + 15) j)) (fun x _ => (n - x.toNat : Nat)) ?_ N _ _ ⟨0, rfl, by omega, fun _ _ => rfl, FW_0 (fun a b ha hb => (h0 a b (by omega) (by omega)).1) h1, fun _ _ => rfl⟩ (by omega)
  rintro k x ρ ⟨c, rfl, hc, i1, i2, i3⟩ rec
  rw [Ok_ite, Ok_some]
  refine ⟨fun q => ?_, fun q => ?_⟩
  · have : c = n := by omega
    subst this
    exact ⟨i1, FW_MT i2, i3⟩
  have hcn : c < n := by omega
  have fb : ∀ a b, a < n → b < n → 0 ≤ ρ (T + 15) (6 * a + b) ∧ ρ (T + 15) (6 * a + b) ≤ 1000000 := fun a b ha hb => ⟨i2.2.1 a b ha hb, Int.le_trans (i2.1 a b ha hb) (h0 a b (by omega) (by omega)).2⟩
  have dg : ρ (T + 15) (6 * c + c) = 0 := i2.2.2.1 c hcn
  -- rows
  obtain ⟨new, newd⟩ : ∃ new : Nat → Nat → Int, ∀ a b, new a b = min (ρ (T + 15) (6 * a + b)) (ρ (T + 15) (6 * a + c) + ρ (T + 15) (6 * c + b)) := ⟨_, fun _ _ => rfl⟩
  have newrc : ∀ a, a < n → new a c = ρ (T + 15) (6 * a + c) := fun a ha => by
    have := fb a c ha hcn
    rw [newd, dg]
    omega
  have newcr : ∀ b, b < n → new c b = ρ (T + 15) (6 * c + b) := fun b hb => by
    have := fb c b hcn hb
    rw [newd, dg]
    omega
  have newb : ∀ a b, a < n → b < n → 0 ≤ new a b ∧ new a b ≤ 1000000 := fun a b ha hb => by
    have := fb a b ha hb
    have := fb a c ha hcn
    have := fb c b hcn hb
    rw [newd]
    omega
  refine Ok_loopS2 (fun x y μ => x = (c : Int) ∧ ∃ a : Nat, y = a ∧ a ≤ n ∧ (∀ i, i ≠ T + 15 → μ i = ρ i) ∧ (∀ u v, u < n → v < n → μ (T + 15) (6 * u + v) = if u < a then new u v else ρ (T + 15) (6 * u + v)) ∧ (∀ j, (∀ a b, a < n → b < n → j ≠ 6 * a + b) → μ (T + 15) j = ρ (T + 15) j)) (fun _ y _ => (n - y.toNat : Nat)) ?_ N _ _ _ ⟨rfl, 0, rfl, by omega, fun _ _ => rfl, fun u v hu hv => by rw [if_neg (by omega)], fun _ _ => rfl⟩ (by omega)
  rintro k2 x y μ ⟨rfl, a, rfl, ha, j1, j2, j3⟩ rec2
  rw [Ok_ite]
  refine ⟨fun q2 => ?_, fun q2 => ?_⟩
  · rw [Ok_chkI]
    refine ⟨by omega, rec _ _ ⟨c + 1, by omega, by omega, fun i hi => (j1 i hi).trans (i1 i hi), FW_step hcn i2 (fun u v hu hv => by rw [j2 u v hu hv, if_pos (by omega), newd]), fun j hj => (j3 j hj).trans (i3 j hj)⟩ (by omega)⟩
  have han : a < n := by omega
  have row0 : ∀ u v : Nat, (if u < a then new u v else ρ (T + 15) (6 * u + v)) = (if u < a ∨ (u = a ∧ v < 0) then new u v else ρ (T + 15) (6 * u + v)) := fun u v => by
    by_cases w : u < a
    · rw [if_pos w, if_pos (Or.inl w)]
    · rw [if_neg w, if_neg (by omega)]
  refine Ok_loopS3 (fun x y z ν => x = (c : Int) ∧ y = (a : Int) ∧ ∃ b : Nat, z = b ∧ b ≤ n ∧ (∀ i, i ≠ T + 15 → ν i = ρ i) ∧ (∀ u v, u < n → v < n → ν (T + 15) (6 * u + v) = if u < a ∨ (u = a ∧ v < b) then new u v else ρ (T + 15) (6 * u + v)) ∧ (∀ j, (∀ a b, a < n → b < n → j ≠ 6 * a + b) → ν (T + 15) j = ρ (T + 15) j)) (fun _ _ z _ => (n - z.toNat : Nat)) ?_ N _ _ _ _ ⟨rfl, rfl, 0, rfl, by omega, j1, fun u v hu hv => (j2 u v hu hv).trans (row0 u v), j3⟩ (by omega)
  rintro k3 x y z ν ⟨rfl, rfl, b, rfl, hb, l1, l2, l3⟩ rec3
  rw [Ok_ite]
  refine ⟨fun q3 => ?_, fun q3 => ?_⟩
  · rw [Ok_chkI]
    refine ⟨by omega, rec2 _ _ _ ⟨rfl, a + 1, by omega, by omega, l1, fun u v hu hv => ?_, l3⟩ (by omega)⟩
    rw [l2 u v hu hv]
    by_cases w : u < a + 1
    · rw [if_pos w, if_pos (by omega)]
    · rw [if_neg w, if_neg (by omega)]
  have hbn : b < n := by omega
  have eac : ((a : Int) * 6 + c).toNat = 6 * a + c := by omega
  have ecb : ((c : Int) * 6 + b).toNat = 6 * c + b := by omega
  have eab : ((a : Int) * 6 + b).toNat = 6 * a + b := by omega
  have vac : ν (T + 15) (6 * a + c) = ρ (T + 15) (6 * a + c) := by
    rw [l2 a c han hcn]
    by_cases w : a < a ∨ (a = a ∧ c < b)
    · rw [if_pos w, newrc a han]
    · rw [if_neg w]
  have vcb : ν (T + 15) (6 * c + b) = ρ (T + 15) (6 * c + b) := by
    rw [l2 c b hcn hbn]
    by_cases w : c < a ∨ (c = a ∧ b < b)
    · rw [if_pos w, newcr b hbn]
    · rw [if_neg w]
  have vab : ν (T + 15) (6 * a + b) = ρ (T + 15) (6 * a + b) := by rw [l2 a b han hbn, if_neg (by omega)]
  have b1 := fb a c han hcn
  have b2 := fb c b hcn hbn
  have b3 := fb a b han hbn
  rw [eac, ecb, eab, vac, vcb, vab]
  have hmin : jM_min_7cf53 (ρ (T + 15) (6 * a + b)) (ρ (T + 15) (6 * a + c) + ρ (T + 15) (6 * c + b)) ν = some (new a b) := by
    unfold jM_min_7cf53
    rw [newd]
    by_cases w : ρ (T + 15) (6 * a + b) > ρ (T + 15) (6 * a + c) + ρ (T + 15) (6 * c + b)
    · rw [if_pos w, Int.min_eq_right (by omega)]
    · rw [if_neg w, Int.min_eq_left (by omega)]
  rw [hmin]
  rw [Ok_chkI, Ok_chkI, Ok_chkA, Ok_chkI, Ok_chkI, Ok_chkA, Ok_chkI, Ok_chkI, Ok_chkI, Ok_chkI, Ok_chkI, Ok_chkA, bndO_s, Ok_chkA, Ok_bnd, Ok_chkI]
  refine ⟨by omega, by omega, by omega, by omega, by omega, by omega, by omega, by omega, by omega, by omega, by omega, by omega, by omega, by omega, rec3 _ _ _ _ ⟨rfl, rfl, b + 1, by omega, by omega, fun i hi => by rw [yset_off i hi]; exact l1 i hi, fun u v hu hv => ?_, fun j hj => by rw [yset_ne (by have := hj a b han hbn; omega)]; exact l3 j hj⟩ (by omega)⟩
  by_cases w : u = a ∧ v = b
  · rw [w.1, w.2, yset_at, if_pos (by omega)]
  · rw [yset_ne (by omega), l2 u v hu hv]
    by_cases w2 : u < a ∨ (u = a ∧ v < b)
    · rw [if_pos w2, if_pos (by omega)]
    · rw [if_neg w2, if_neg (by omega)]
