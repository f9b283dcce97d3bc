/-! one way more: both -/
theorem Mc_built {σ τ : ySt} {T b0 mp mq md mw me L a b M : Nat} {W : Nat → Int} (h : TD σ τ T b0 mp mq md mw me L W) (h53 : τ 92 53 = (a : Int)) (h54 : τ 92 54 = (b : Int)) (h55 : τ 92 55 = (M : Int)) (ha : a < mp) (hb : b < mp) (hab : a ≠ b) (hM : M ≤ 999) (h0 : ∀ u v, u < mp → v < mp → 0 ≤ σ (T + 15) (6 * u + v)) : ∀ D : Nat → Nat → Int, MT 6 (Vq τ b0) D → ∀ u v, u < mp → v < mp → D u v = Db (fun u v => σ (T + 15) (6 * u + v)) a b M u v := by
  intro D hD u v hu hv
  obtain ⟨hT, h05, h40, hb0, g1, g2, g3, ⟨w1, w2, w3⟩, wn, ft, _⟩ := h
  have hmp : mp ≤ 6 := g1.2.1
  have hVW : ∀ x y, x < 6 → y < 6 → Vq τ b0 x y = Wb (fun a b => W (6 * a + b)) a b M x y := fun x y hx hy => by
    unfold Vq Wb
    rw [h53, h54, h55, Int.toNat_natCast, Int.toNat_natCast, w1 a b (by omega) (by omega), w1 x y hx hy]
    by_cases c : (M : Int) < W (6 * a + b) ∧ ((x = a ∧ y = b) ∨ (x = b ∧ y = a))
    · rw [if_pos c, if_pos ⟨by omega, c.1, by omega⟩]
    · rw [if_neg c, if_neg (fun w => c ⟨w.2.1, by omega⟩)]
  have hB : MT mp (Wb (fun a b => W (6 * a + b)) a b M) (Db (fun u v => σ (T + 15) (6 * u + v)) a b M) := MT_build ft.1 ha hb (by omega) h0 (fun x hx => w2 x (by omega)) (w3 a b (by omega) (by omega) hab).1
  refine MT_ext (n := mp) (m := 6) (K := 1000000) hmp (by decide) (fun x y hx hy => ?_) (fun x y hx hy => ?_) hB hD hu hv
  · have := W_rg w2 w3 (u := x) (v := y) (by omega) (by omega)
    unfold Wb
    split <;> omega
  · rw [hVW x y hx hy]
    by_cases c : x < mp ∧ y < mp
    · rw [if_pos c]
    · rw [if_neg c]
      unfold Wb
      rw [if_neg (by omega)]
      by_cases c2 : x = y
      · rw [if_pos c2, c2]
        exact w2 y hy
      · rw [if_neg c2]
        have := (w3 x y hx hy c2).2
        show W (6 * x + y) = 1000000
        omega
/-- the same weights, read twice -/
theorem rpR_uniq {lo hi x : Int} {o p : Option Int} (hl : -999999 ≤ lo) (h : rpR lo hi x o) (g : rpR lo hi x p) : o = p := by
  rcases h with ⟨e, h⟩ | ⟨a, e, h, h1, h2⟩
  · rcases g with ⟨f, g⟩ | ⟨c, f, g, g1, g2⟩
    · rw [e, f]
    · omega
  · rcases g with ⟨f, g⟩ | ⟨c, f, g, g1, g2⟩
    · omega
    · rw [e, f, show a = c from by omega]
/-- the best depends on the weights only -/
theorem bestZ_wk {σ : ySt} {T mp mq me md L S : Nat} {what t hr fs fp : Int} {M M' : Nat → Nat → Int} (hm : 0 < mq → 0 < mp) (hv : ∀ n, n < mq → homeV σ T n < mp) (h : ∀ u v, u < mp → v < mp → wkM what hr M u v = wkM what hr M' u v) : bestZ σ T mp mq me md L S what t hr fs fp M = bestZ σ T mp mq me md L S what t hr fs fp M' := by
  unfold bestZ
  rw [VV_congr hm h (fun _ _ _ _ _ => rfl) (fun _ _ _ _ _ => rfl) S _ (Nat.le_refl S) (enc_lt mq hv)]
