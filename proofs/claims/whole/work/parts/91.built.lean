/-! one way more: least minutes by formula -/
def Db (D : Nat → Nat → Int) (a b : Nat) (M : Int) (u v : Nat) : Int := min (D u v) (min (D u a + M + D b v) (D u b + M + D a v))
def Wb (W : Nat → Nat → Int) (a b : Nat) (M : Int) (u v : Nat) : Int := if M < W a b ∧ ((u = a ∧ v = b) ∨ (u = b ∧ v = a)) then M else W u v
theorem MT_build {n a b : Nat} {W D : Nat → Nat → Int} {M : Int} (h : MT n W D) (ha : a < n) (hb : b < n) (hM : 0 ≤ M) (h0 : ∀ u v, u < n → v < n → 0 ≤ D u v) (hd : ∀ u, u < n → W u u = 0) (hs : W a b = W b a) : MT n (Wb W a b M) (Db D a b M) := by
  obtain ⟨h1, h2, h3⟩ := h
  have d0 : ∀ u, u < n → D u u = 0 := fun u hu => by
    have x := h1 u u hu hu
    have y := h0 u u hu hu
    rw [hd u hu] at x
    omega
  have da := d0 a ha
  have db := d0 b hb
  refine ⟨fun u v hu hv => ?_, fun u v w hu hv hw => ?_, fun E e1 e2 u v hu hv => ?_⟩
  · unfold Db Wb
    have x := h1 u v hu hv
    by_cases c : M < W a b ∧ ((u = a ∧ v = b) ∨ (u = b ∧ v = a))
    · rw [if_pos c]
      rcases c.2 with ⟨rfl, rfl⟩ | ⟨rfl, rfl⟩ <;> omega
    · rw [if_neg c]
      omega
  · unfold Db
    have t1 := h2 u v w hu hv hw
    have t2 := h2 u a w hu ha hw
    have t3 := h2 u b w hu hb hw
    have t4 := h2 b v w hb hv hw
    have t5 := h2 a v w ha hv hw
    have t6 := h2 u v a hu hv ha
    have t7 := h2 u v b hu hv hb
    have p1 := h0 u w hu hw
    have p2 := h0 w v hw hv
    have p3 := h0 b w hb hw
    have p4 := h0 a w ha hw
    have p5 := h0 w a hw ha
    have p6 := h0 w b hw hb
    omega
  · have eW : ∀ x y, x < n → y < n → E x y ≤ W x y := fun x y hx hy => by
      have := e1 x y hx hy
      unfold Wb at this
      by_cases c : M < W a b ∧ ((x = a ∧ y = b) ∨ (x = b ∧ y = a))
      · rw [if_pos c] at this
        rcases c.2 with ⟨rfl, rfl⟩ | ⟨rfl, rfl⟩ <;> omega
      · rw [if_neg c] at this
        exact this
    have eD := h3 E eW e2
    have eab : E a b ≤ M ∧ E b a ≤ M := by
      have x := e1 a b ha hb
      have y := e1 b a hb ha
      unfold Wb at x y
      by_cases c : M < W a b
      · rw [if_pos ⟨c, Or.inl ⟨rfl, rfl⟩⟩] at x
        rw [if_pos ⟨c, Or.inr ⟨rfl, rfl⟩⟩] at y
        exact ⟨x, y⟩
      · rw [if_neg (fun w => c w.1)] at x y
        omega
    unfold Db
    have q1 := eD u v hu hv
    have q2 := eD u a hu ha
    have q3 := eD b v hb hv
    have q4 := eD u b hu hb
    have q5 := eD a v ha hv
    have r1 := e2 u v a hu hv ha
    have r2 := e2 a v b ha hv hb
    have r3 := e2 u v b hu hv hb
    have r4 := e2 b v a hb hv ha
    omega
theorem min_eq (a b : Int) (σ : ySt) : jM_min_7cf53 a b σ = some (min a b) := by
  unfold jM_min_7cf53
  by_cases h : a > b
  · rw [if_pos h, Int.min_eq_right (by omega)]
  · rw [if_neg h, Int.min_eq_left (by omega)]
theorem build_ok {N T mp a b M : Nat} {σ : ySt} {what hr : Int} (hN : 100000 ≤ N) (hT : T = 13 ∨ T = 33) (h0 : σ 78 0 = (T : Int) + 1) (h1 : σ (T + 1) 1 = mp) (hm6 : mp ≤ 6) (h15 : ∀ j, j < 36 → 0 ≤ σ (T + 15) j ∧ σ (T + 15) j ≤ 1000000) (h8 : σ 78 8 = what) (h9 : σ 78 9 = hr) (hh : hr ≤ 999) (ha : a < mp) (hb : b < mp) (hM : M ≤ 999) :
    Ok (cDy_build N a b M σ) (fun r => (∀ i, i ≠ 80 → r.2 i = σ i) ∧ (∀ u v, u < mp → v < mp → rpR (-999) 0 (r.2 80 (6 * u + v)) (wkM what hr (Db (fun u v => σ (T + 15) (6 * u + v)) a b M) u v)) ∧ (r.1 = 0 → ∀ u v, u < mp → v < mp → r.2 80 (6 * u + v) = σ 80 (6 * u + v))) := by
  unfold cDy_build
  refine Ok_loopS2 (fun x y ν => ∃ u : Nat, y = u ∧ u ≤ mp ∧ (x = 0 ∨ x = 1) ∧ (∀ i, i ≠ 80 → ν i = σ i) ∧ (∀ u' v, u' < mp → v < mp → if u' < u then rpR (-999) 0 (ν 80 (6 * u' + v)) (wkM what hr (Db (fun u v => σ (T + 15) (6 * u + v)) a b M) u' v) else ν 80 (6 * u' + v) = σ 80 (6 * u' + v)) ∧ (x = 0 → ∀ u' v, u' < u → v < mp → ν 80 (6 * u' + v) = σ 80 (6 * u' + v))) (fun _ y _ => (mp - y.toNat : Nat)) ?_ N _ _ _ ⟨0, rfl, by omega, Or.inl rfl, fun _ _ => rfl, fun u' v _ _ => by rw [if_neg (Nat.not_lt_zero u')], fun _ u' v hu => absurd hu (Nat.not_lt_zero u')⟩ (by omega)
  rintro g x y ν ⟨u, rfl, hu, hx, i1, i2, i3⟩ rec
  rw [chkT_pos hT (by rw [i1 78 (by decide)]; exact h0), i1 (T + 1) (by omega), h1, Ok_ite]
  refine ⟨fun q => ?_, fun q => ?_⟩
  · have : u = mp := by omega
    subst this
    rw [Ok_chk, Ok_some]
    refine ⟨hx, i1, fun u' v hu' hv => ?_, fun hz u' v hu' hv => i3 hz u' v hu' hv⟩
    have := i2 u' v hu' hv
    rw [if_pos hu'] at this
    exact this
  · have hum : u < mp := by omega
    refine Ok_loopS3 (fun x y z μ => y = (u : Int) ∧ ∃ v : Nat, z = v ∧ v ≤ mp ∧ (x = 0 ∨ x = 1) ∧ (∀ i, i ≠ 80 → μ i = σ i) ∧ (∀ u' v', u' < mp → v' < mp → if u' < u ∨ (u' = u ∧ v' < v) then rpR (-999) 0 (μ 80 (6 * u' + v')) (wkM what hr (Db (fun u v => σ (T + 15) (6 * u + v)) a b M) u' v') else μ 80 (6 * u' + v') = σ 80 (6 * u' + v')) ∧ (x = 0 → ∀ u' v', (u' < u ∨ (u' = u ∧ v' < v)) → v' < mp → μ 80 (6 * u' + v') = σ 80 (6 * u' + v'))) (fun _ _ z _ => (mp - z.toNat : Nat)) ?_ N _ _ _ _ ⟨rfl, 0, rfl, by omega, hx, i1, fun u' v' hu' hv' => ?_, fun hz u' v' hx' hv' => i3 hz u' v' (by omega) hv'⟩ (by omega)
    · rintro g2 x y z μ ⟨rfl, v, rfl, hv, hx2, j1, j2, j3⟩ rec2
      have e0 : μ 78 0 = (T : Int) + 1 := by rw [j1 78 (by decide)]; exact h0
      rw [chkT_pos hT e0, j1 (T + 1) (by omega), h1, Ok_ite]
      refine ⟨fun q2 => ?_, fun q2 => ?_⟩
      · rw [Ok_chkI]
        refine ⟨by omega, rec _ _ _ ⟨u + 1, by omega, by omega, hx2, j1, fun u' v' hu' hv' => ?_, fun hz u' v' hx' hv' => j3 hz u' v' (by omega) hv'⟩ (by omega)⟩
        have := j2 u' v' hu' hv'
        by_cases c : u' < u + 1
        · rw [if_pos (by omega)] at this
          rw [if_pos c]
          exact this
        · rw [if_neg (by omega)] at this
          rw [if_neg c]
          exact this
      · have hvm : v < mp := by omega
        have e15 : μ (T + 15) = σ (T + 15) := j1 (T + 15) (by omega)
        have iua : ((u : Int) * 6 + (a : Int)).toNat = 6 * u + a := by omega
        have ibv : ((b : Int) * 6 + (v : Int)).toNat = 6 * b + v := by omega
        have iub : ((u : Int) * 6 + (b : Int)).toNat = 6 * u + b := by omega
        have iav : ((a : Int) * 6 + (v : Int)).toNat = 6 * a + v := by omega
        have iuv : ((u : Int) * 6 + (v : Int)).toNat = 6 * u + v := by omega
        have r1 := h15 (6 * u + a) (by omega)
        have r2 := h15 (6 * b + v) (by omega)
        have r3 := h15 (6 * u + b) (by omega)
        have r4 := h15 (6 * a + v) (by omega)
        have r5 := h15 (6 * u + v) (by omega)
        obtain ⟨z, hz, hzr⟩ := walkOf_ok (σ := μ) (what := what) (hr := hr) (a := Db (fun u v => σ (T + 15) (6 * u + v)) a b M u v) (by rw [j1 78 (by decide)]; exact h8) (by rw [j1 78 (by decide)]; exact h9) hh (by unfold Db; dsimp only; omega)
        have eDb : Db (fun u v => σ (T + 15) (6 * u + v)) a b M u v = min (σ (T + 15) (6 * u + v)) (min (σ (T + 15) (6 * u + a) + M + σ (T + 15) (6 * b + v)) (σ (T + 15) (6 * u + b) + M + σ (T + 15) (6 * a + v))) := rfl
        have old := j2 u v hum hvm
        rw [if_neg (by omega)] at old
        rw [chkT_pos hT e0, iua, e15, chkI_pos (by omega), chkI_pos (by omega), chkA_pos (by omega), chkI_pos (by omega), chkT_pos hT e0, ibv, e15, chkI_pos (by omega), chkI_pos (by omega), chkA_pos (by omega), chkI_pos (by omega), chkT_pos hT e0, iub, e15, chkI_pos (by omega), chkI_pos (by omega), chkA_pos (by omega), chkI_pos (by omega), chkT_pos hT e0, iav, e15, chkI_pos (by omega), chkI_pos (by omega), chkA_pos (by omega), chkI_pos (by omega), chkT_pos hT e0, iuv, e15, chkI_pos (by omega), chkI_pos (by omega), chkA_pos (by omega), min_eq, bndO_s, min_eq, bndO_s, ← eDb, hz, bndO_s, chkI_pos (by omega), chkI_pos (by omega), chkA_pos (by omega), old]
        refine Ok_jq1 (fun (y : Int) => (y = 0 ∨ y = 1) ∧ (y = 0 → z = σ 80 (6 * u + v))) (fun y hy => ?_) (fun kk hkk => ?_)
        · rw [Ok_chkI, Ok_chkI, Ok_chkA, Ok_bnd, Ok_chkI, or01 x y hx2 hy.1]
          refine ⟨by omega, by omega, by omega, by omega, rec2 _ _ _ _ ⟨rfl, v + 1, by omega, by omega, by split <;> omega, fun i hi => by rw [yset_off i hi]; exact j1 i hi, fun u' v' hu' hv' => ?_, fun hzz u' v' hx' hv' => ?_⟩ (by omega)⟩
          · by_cases c : u' = u ∧ v' = v
            · rw [c.1, c.2, if_pos (by omega), yset_at]
              exact hzr
            · rw [yset_ne (by omega)]
              have := j2 u' v' hu' hv'
              by_cases c2 : u' < u ∨ (u' = u ∧ v' < v)
              · rw [if_pos c2] at this
                rw [if_pos (by omega)]
                exact this
              · rw [if_neg c2] at this
                rw [if_neg (by omega)]
                exact this
          · have xy : x = 0 ∧ y = 0 := by
              by_cases c : x = 0 ∧ y = 0
              · exact c
              · rw [if_neg c] at hzz
                exact absurd hzz (by decide)
            by_cases c : u' = u ∧ v' = v
            · rw [c.1, c.2, yset_at]
              exact hy.2 xy.2
            · rw [yset_ne (by omega)]
              exact j3 xy.1 u' v' (by omega) hv'
        · rw [Ok_ite]
          exact ⟨fun c => hkk 0 ⟨Or.inl rfl, fun _ => c⟩, fun c => hkk 1 ⟨Or.inr rfl, fun w => absurd w (by decide)⟩⟩
    · have := i2 u' v' hu' hv'
      by_cases c : u' < u
      · rw [if_pos c] at this
        rw [if_pos (Or.inl c)]
        exact this
      · rw [if_neg c] at this
        rw [if_neg (by omega)]
        exact this
