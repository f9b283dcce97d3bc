/-! minutes, right: class against reference -/
theorem hasPlace_ok {T m : Nat} {σ : ySt} (hT : T = 13 ∨ T = 33) (h : σ (T + 1) 1 = m) (a : Int) : cTw_hasPlace T a σ = some (if 0 ≤ a ∧ a < m then 1 else 0) := by
  unfold cTw_hasPlace
  rw [chk_pos hT, h]
  by_cases c : a < 0
  · rw [if_pos c, if_neg (by omega)]
  · rw [if_neg c]
    by_cases c2 : a ≥ m
    · rw [if_pos c2, if_neg (by omega)]
    · rw [if_neg c2, if_pos (by omega)]
theorem hasPerson_ok {T m : Nat} {σ : ySt} (hT : T = 13 ∨ T = 33) (h : σ (T + 3) 1 = m) (a : Int) : cTw_hasPerson T a σ = some (if 0 ≤ a ∧ a < m then 1 else 0) := by
  unfold cTw_hasPerson
  rw [chk_pos hT, h]
  by_cases c : a < 0
  · rw [if_pos c, if_neg (by omega)]
  · rw [if_neg c]
    by_cases c2 : a ≥ m
    · rw [if_pos c2, if_neg (by omega)]
    · rw [if_neg c2, if_pos (by omega)]
theorem chkT_pos {α : Type} {z : Int} {T : Nat} {k : Nat → Option α} (hT : T = 13 ∨ T = 33) (h : z = (T : Int) + 1) : chkT z k = k T := by
  unfold chkT
  rw [if_pos (by omega), show z.toNat - 1 = T from by omega]
theorem mo_isIn_eq (a b c : Int) (σ : ySt) : mo_isIn a b c σ = some (if b ≤ a ∧ a ≤ c then 1 else 0) := by
  unfold mo_isIn
  by_cases h1 : a < b
  · rw [if_pos h1, if_neg (by omega)]
  · rw [if_neg h1]
    by_cases h2 : a > c
    · rw [if_pos h2, if_neg (by omega)]
    · rw [if_neg h2, if_pos (by omega)]
theorem chkI_pos {α : Type} {z : Int} {k : Option α} (h : -2147483648 ≤ z ∧ z < 2147483648) : chkI z k = k := by
  unfold chkI
  rw [if_pos h]
theorem mo_placeMany_ok {b m : Nat} {τ : ySt} (h40 : τ 92 40 = b) (hb : b < 2) (h : τ 95 b = m) : mo_placeMany τ = some (m : Int) := by
  unfold mo_placeMany
  rw [h40, chkA_pos (by omega), Int.toNat_natCast, h]
theorem mo_personMany_ok {b m : Nat} {τ : ySt} (h40 : τ 92 40 = b) (hb : b < 2) (h : τ 97 b = m) : mo_personMany τ = some (m : Int) := by
  unfold mo_personMany
  rw [h40, chkA_pos (by omega), Int.toNat_natCast, h]
theorem mo_isPlace_ok {b m : Nat} {τ : ySt} (h40 : τ 92 40 = b) (hb : b < 2) (h : τ 95 b = m) (hm : m ≤ 6) (a : Int) : mo_isPlace a τ = some (if 0 ≤ a ∧ a < m then 1 else 0) := by
  unfold mo_isPlace
  rw [mo_placeMany_ok h40 hb h, bndO_s, chkI_pos (by omega), mo_isIn_eq, bndO_s]
  by_cases c : 0 ≤ a ∧ a < m
  · rw [if_pos c, if_pos (by omega), chk_pos (Or.inr rfl)]
  · rw [if_neg c, if_neg (by omega), chk_pos (Or.inl rfl)]
theorem mo_isPerson_ok {b m : Nat} {τ : ySt} (h40 : τ 92 40 = b) (hb : b < 2) (h : τ 97 b = m) (hm : m ≤ 5) (a : Int) : mo_isPerson a τ = some (if 0 ≤ a ∧ a < m then 1 else 0) := by
  unfold mo_isPerson
  rw [mo_personMany_ok h40 hb h, bndO_s, chkI_pos (by omega), mo_isIn_eq, bndO_s]
  by_cases c : 0 ≤ a ∧ a < m
  · rw [if_pos c, if_pos (by omega), chk_pos (Or.inr rfl)]
  · rw [if_neg c, if_neg (by omega), chk_pos (Or.inl rfl)]
/-- laid for a plain question -/
def LY (σ τ : ySt) (T b mp md L : Nat) : Prop := QP τ b ∧ (∀ u v, u < mp → v < mp → τ 124 (6 * u + v) = σ (T + 15) (6 * u + v)) ∧ ∀ s p h : Nat, 1 ≤ s → s ≤ 8 → p < mp → h ≤ 5 → τ 125 (48 * (s - 1) + 8 * p + h) = if rgt σ T L md p h s = 0 then 0 else 1
theorem plain_lay {N T b mp mq md mw me L : Nat} {W : Nat → Int} {σ τ : ySt} (hN : 100000 ≤ N) (h : TD σ τ T b mp mq md mw me L W) :
    Ok (bndO (mo_plain τ) fun σ8 => mo_layTown N σ8) (fun τ' => FrQ τ' τ ∧ LY σ τ' T b mp md L ∧ ∀ k, (k < 47 ∨ k = 50 ∨ 53 < k) → τ' 92 k = τ 92 k) := by
  rw [Ok_bndO]
  refine (mo_plain_ok h.2.2.1 h.2.2.2.1).mono ?_
  rintro τ1 ⟨f1, q1, k1⟩
  have h1 := TD_FrQ h f1
  obtain ⟨_, _, h40, hb, _, _, _, ⟨w1, w2, w3⟩, _⟩ := id h1
  have h53 : τ1 92 53 = -1 := q1.2.2.2.2.2
  refine (mo_layTown_ok hN (TD_RB9 h1) (fun u v hu hv => by rw [w1 u v hu hv]; exact W_rg w2 w3 hu hv) (Or.inl (by rw [h53]; decide))).mono ?_
  rintro τ2 ⟨a1, a2, a3⟩
  have hV : ∀ u v, u < 6 → v < 6 → bs τ1 b u v = Vq τ1 b u v := fun u v _ _ => by
    unfold Vq
    rw [if_neg (fun w => w.1 (by rw [h53]; decide))]
  refine ⟨FrQ_tr f1 (FrQ_off a1), ⟨?_, fun u v hu hv => D_eq h1 (MT_congr a2 hV (fun _ _ _ _ => rfl)) hu hv, fun s p m s1 s2 hp hm => ?_⟩, fun k hk => by rw [a1 92 (by decide) (by decide) (by decide)]; exact k1 k hk⟩
  · unfold QP at q1 ⊢
    rw [a1 92 (by decide) (by decide) (by decide), a1 100 (by decide) (by decide) (by decide), a1 101 (by decide) (by decide) (by decide)]
    exact q1
  · rw [a3 s p m s1 s2 hp hm]
    unfold opn
    rw [q1.2.2.2.1, q1.2.2.2.2.1, if_neg (by omega)]
theorem bndO_2 {α β γ : Type} {x : Option α} {f : α → Option β} {g : β → Option γ} : (bndO x fun a => bndO (f a) g) = bndO (bndO x f) g := by
  cases x <;> rfl
theorem C_minutes {N T b mp mq md mw me L : Nat} {W : Nat → Int} {σ τ : ySt} (hN : 100000 ≤ N) (h : TD σ τ T b mp mq md mw me L W) (a c : Int) :
    Ok (cE_minutes a c σ) (fun r => Ok (mo_minutes N a c τ) (fun r' => r'.1 = r ∧ FrQ r'.2 τ)) := by
  obtain ⟨hT, h05, h40, hb, g1, g2, g3, ⟨w1, w2, w3⟩, wn, ft, _⟩ := id h
  have hmp : mp ≤ 6 := g1.2.1
  unfold cE_minutes mo_minutes
  rw [chkT_pos hT h05, hasPlace_ok hT g1.1.1, bndO_s, mo_isPlace_ok h40 hb g1.2.2 hmp, bndO_s]
  by_cases ca : 0 ≤ a ∧ a < mp
  · rw [if_pos ca, if_neg (by decide), if_neg (by decide), chkT_pos hT h05, hasPlace_ok hT g1.1.1, bndO_s, mo_isPlace_ok h40 hb g1.2.2 hmp, bndO_s]
    by_cases cc : 0 ≤ c ∧ c < mp
    · rw [if_pos cc, if_pos (by decide), if_pos (by decide), chkT_pos hT h05]
      obtain ⟨u, rfl⟩ : ∃ u : Nat, a = u := ⟨a.toNat, by omega⟩
      obtain ⟨v, rfl⟩ : ∃ v : Nat, c = v := ⟨c.toNat, by omega⟩
      have hu : u < mp := by omega
      have hv : v < mp := by omega
      have i1 : ((u : Int) * 6 + (v : Int)).toNat = 6 * u + v := by omega
      have i2 : (6 * (u : Int) + (v : Int)).toNat = 6 * u + v := by omega
      rw [chkI_pos (by omega), chkI_pos (by omega), chkA_pos (by omega), i1, bndO_2, Ok_swap, Ok_bndO]
      refine (plain_lay hN h).mono ?_
      rintro τ2 ⟨f2, ly, _⟩
      rw [chkI_pos (by omega), chkI_pos (by omega), chkA_pos (by omega), i2, chkI_pos (by omega), chkI_pos (by omega), chkA_pos (by omega), ly.2.1 u v hu hv]
      by_cases cd : σ (T + 15) (6 * u + v) ≥ 1000000
      · rw [if_pos cd, if_pos cd, Ok_some, Ok_some]
        exact ⟨rfl, f2⟩
      · rw [if_neg cd, if_neg cd, Ok_some, Ok_some]
        exact ⟨rfl, f2⟩
    · rw [if_neg cc, if_neg (by decide), if_neg (by decide), Ok_some, Ok_some]
      exact ⟨rfl, FrQ_rfl τ⟩
  · rw [if_neg ca, if_pos rfl, if_pos rfl, Ok_some, Ok_some]
    exact ⟨rfl, FrQ_rfl τ⟩
theorem cE_isStroke_eq (a b : Int) (σ : ySt) : cE_isStroke a b σ = some (if 1 ≤ a ∧ a ≤ b then 1 else 0) := by
  unfold cE_isStroke
  by_cases h1 : a < 1
  · rw [if_pos h1, if_neg (by omega)]
  · rw [if_neg h1]
    by_cases h2 : a > b
    · rw [if_pos h2, if_neg (by omega)]
    · rw [if_neg h2, if_pos (by omega)]
theorem C_right {N T b mp mq md mw me L : Nat} {W : Nat → Int} {σ τ : ySt} (hN : 100000 ≤ N) (h : TD σ τ T b mp mq md mw me L W) (a m c : Int) :
    Ok (cE_right a m c σ) (fun r => Ok (mo_right N a m c τ) (fun r' => r'.1 = r ∧ FrQ r'.2 τ)) := by
  have h9 := TD_RB9 h
  obtain ⟨hT, h05, h40, hb, g1, g2, g3, ⟨w1, w2, w3⟩, wn, ft, _⟩ := id h
  have hmp : mp ≤ 6 := g1.2.1
  unfold cE_right mo_right
  rw [chkT_pos hT h05, hasPlace_ok hT g1.1.1, bndO_s, mo_isPlace_ok h40 hb g1.2.2 hmp, bndO_s]
  by_cases ca : 0 ≤ a ∧ a < mp
  · have n10 : ¬ (1 : Int) = 0 := by decide
    rw [if_pos ca, if_neg n10, if_neg n10, mo_isIn_eq, bndO_s]
    by_cases cm : 0 ≤ m ∧ m ≤ 5
    · rw [if_pos cm, if_neg (show ¬ m < 0 by omega), if_neg (show ¬ m ≥ 6 by omega), if_neg n10, cE_isStroke_eq, bndO_s, mo_isIn_eq, bndO_s]
      by_cases cc : 1 ≤ c ∧ c ≤ 8
      · rw [if_pos cc, if_pos (by decide), if_pos (by decide), chkT_pos hT h05]
        obtain ⟨u, rfl⟩ : ∃ u : Nat, a = u := ⟨a.toNat, by omega⟩
        obtain ⟨v, rfl⟩ : ∃ v : Nat, m = v := ⟨m.toNat, by omega⟩
        obtain ⟨s, rfl⟩ : ∃ s : Nat, c = s := ⟨c.toNat, by omega⟩
        rw [FT_right hT hmp ft u v s (by omega) (by omega) (by omega) (by omega), bndO_s, Ok_swap, Ok_bndR]
        refine (mo_isRight_ok (s := (s : Int)) hN hb h40 h9.2.2.2.2.1 hmp h9.2.2.2.2.2.1 h9.2.2.2.2.2.2.1 h9.2.2.2.2.2.2.2 (by omega : u < mp) (by omega : v ≤ 5) (by omega)).mono ?_
        rintro ⟨r, τ'⟩ ⟨a1, a2⟩
        dsimp only at a1 a2 ⊢
        rw [a1]
        by_cases cr : rgt σ T L md u v s = 0
        · rw [if_pos cr, if_pos cr, if_pos rfl, Ok_some, Ok_some]
          exact ⟨rfl, FrQ_off (fun i h1 _ _ => a2 i h1)⟩
        · rw [if_neg cr, if_neg cr, if_neg (by decide), Ok_some, Ok_some]
          exact ⟨rfl, FrQ_off (fun i h1 _ _ => a2 i h1)⟩
      · rw [if_neg cc, if_neg (by decide), if_neg (by decide), Ok_some, Ok_some]
        exact ⟨rfl, FrQ_rfl τ⟩
    · rw [if_neg cm, if_pos (show (0 : Int) = 0 from rfl)]
      by_cases c1 : m < 0
      · rw [if_pos c1, Ok_some, Ok_some]
        exact ⟨rfl, FrQ_rfl τ⟩
      · rw [if_neg c1, if_pos (show m ≥ 6 by omega), Ok_some, Ok_some]
        exact ⟨rfl, FrQ_rfl τ⟩
  · rw [if_neg ca, if_pos rfl, if_pos rfl, Ok_some, Ok_some]
    exact ⟨rfl, FrQ_rfl τ⟩
