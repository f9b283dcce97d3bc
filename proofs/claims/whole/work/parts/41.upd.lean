/-! each line keeps the town and the bank alike -/
theorem G1_add {σ τ σ' τ' : ySt} {o a c s b m mx : Nat} {w : List Int} (h : G1 σ τ o a c s b m mx) (hm : m < mx) (hw : ∀ c ∈ w, 97 ≤ c ∧ c ≤ 122) (e1 : σ' o 1 = (m : Int) + 1) (e2 : ∀ k, k < m → σ' (o + 1) k = σ (o + 1) k) (e3 : σ' (o + 1) m = enc5 w) (f1 : ∀ k, k < m → τ' a (s * b + k) = τ a (s * b + k)) (f2 : τ' a (s * b + m) = enc8 w) (f3 : τ' c b = (m : Int) + 1) : G1 σ' τ' o a c s b (m + 1) mx := by
  obtain ⟨⟨h1, h2⟩, h3, h4⟩ := h
  refine ⟨⟨by rw [e1]; rfl, fun k hk => ?_⟩, by omega, by rw [f3]; rfl⟩
  by_cases q : k < m
  · rw [e2 k q, f1 k q]
    exact h2 k q
  · have : k = m := by omega
    subst this
    exact ⟨w, hw, e3, f2⟩
theorem updPl_off {σ : ySt} {T m : Nat} {x z : Int} {i : Nat} (h1 : i ≠ T + 1) (h2 : i ≠ T + 2) (h3 : i ≠ T + 7) : updPl σ T m x z i = σ i := by
  unfold updPl
  rw [yset_off i h3, yset_off i h1, yset_off i h2]
theorem updPlM_off {τ : ySt} {b m : Nat} {x z : Int} {i : Nat} (h1 : i ≠ 107) (h2 : i ≠ 106) (h3 : i ≠ 95) : updPlM τ b m x z i = τ i := by
  unfold updPlM
  rw [yset_off i h3, yset_off i h2, yset_off i h1]
theorem TB_place {σ τ : ySt} {T b mp mq md mw me L : Nat} {w : List Int} {z : Int} (h : TB σ τ T b mp mq md mw me L) (hm : mp < 6) (hw : ∀ c ∈ w, 97 ≤ c ∧ c ≤ 122) (hz : z = 0 ∨ z = 1) : TB (updPl σ T mp (enc5 w) z) (updPlM τ b mp (enc8 w) z) T b (mp + 1) mq md mw me L := by
  obtain ⟨g1, g2, g3, g4, g5, g6, g7, g8, g9, g0⟩ := h
  have e : ∀ i, i ≠ T + 1 → i ≠ T + 2 → i ≠ T + 7 → updPl σ T mp (enc5 w) z i = σ i := fun i => updPl_off
  have f : ∀ i, i ≠ 107 → i ≠ 106 → i ≠ 95 → updPlM τ b mp (enc8 w) z i = τ i := fun i => updPlM_off
  refine ⟨G1_add g1 hm hw ?_ ?_ ?_ ?_ ?_ ?_, G1_of g2 (e _ (by omega) (by omega) (by omega)) (e _ (by omega) (by omega) (by omega)) (f _ (by omega) (by omega) (by omega)) (by rw [f _ (by omega) (by omega) (by omega)]), G1_of g3 (e _ (by omega) (by omega) (by omega)) (e _ (by omega) (by omega) (by omega)) (f _ (by omega) (by omega) (by omega)) (by rw [f _ (by omega) (by omega) (by omega)]), ?_, ?_, ?_, ?_, ?_, ?_, ?_⟩
  · unfold updPl
    rw [yset_ne (by omega), yset_at]
  · intro k hk
    unfold updPl
    rw [yset_ne (by omega), yset_ne (by omega), yset_ne (by omega)]
  · unfold updPl
    rw [yset_ne (by omega), yset_ne (by omega), show T + 1 + 1 = T + 2 from rfl, yset_at]
  · intro k hk
    unfold updPlM
    rw [yset_ne (by omega), yset_ne (by omega), yset_ne (by omega)]
  · unfold updPlM
    rw [yset_ne (by omega), yset_ne (by omega), yset_at]
  · unfold updPlM
    rw [yset_at]
  · exact G4_of g4 (e _ (by omega) (by omega) (by omega)) (by rw [e _ (by omega) (by omega) (by omega)]) (f _ (by omega) (by omega) (by omega)) (by rw [f _ (by omega) (by omega) (by omega)]) (by omega)
  · exact G5_of g5 (by rw [e _ (by omega) (by omega) (by omega)]) (e _ (by omega) (by omega) (by omega)) (e _ (by omega) (by omega) (by omega)) (e _ (by omega) (by omega) (by omega)) (e _ (by omega) (by omega) (by omega)) (by rw [f _ (by omega) (by omega) (by omega)]) (f _ (by omega) (by omega) (by omega)) (f _ (by omega) (by omega) (by omega)) (f _ (by omega) (by omega) (by omega)) (f _ (by omega) (by omega) (by omega)) (by omega) (by omega)
  · exact G6_of g6 (by rw [e _ (by omega) (by omega) (by omega)]) (by rw [e _ (by omega) (by omega) (by omega)]) (by rw [f _ (by omega) (by omega) (by omega)]) (by rw [f _ (by omega) (by omega) (by omega)])
  · intro k hk
    by_cases q : k < mp
    · have := g7 k q
      unfold updPl updPlM
      rw [yset_ne (by omega), yset_ne (by omega), yset_ne (by omega), yset_ne (by omega), yset_ne (by omega), yset_ne (by omega)]
      exact this
    · have : k = mp := by omega
      subst this
      unfold updPl updPlM
      rw [yset_at, yset_ne (by omega), yset_at]
      exact ⟨rfl, hz⟩
  · exact G8_of g8 (e _ (by omega) (by omega) (by omega)) (e _ (by omega) (by omega) (by omega)) (f _ (by omega) (by omega) (by omega)) (f _ (by omega) (by omega) (by omega)) (by omega)
  · exact G9_of g9 (e _ (by omega) (by omega) (by omega)) (f _ (by omega) (by omega) (by omega)) (by omega)
  · exact RU_of g0 (by rw [e _ (by omega) (by omega) (by omega)]) (e _ (by omega) (by omega) (by omega)) (by rw [f _ (by omega) (by omega) (by omega)]) (f _ (by omega) (by omega) (by omega)) (f _ (by omega) (by omega) (by omega))
theorem TB_person {σ τ : ySt} {T b mp mq md mw me L : Nat} {z : List Int} {w v : Int} (h : TB σ τ T b mp mq md mw me L) (hm : mq < 5) (hz : ∀ c ∈ z, 97 ≤ c ∧ c ≤ 122) (hw : 0 ≤ w ∧ w < mp) (hv : 0 ≤ v ∧ v ≤ 99) : TB (updPer σ T mq (enc5 z) w v) (updPerM τ b mq (enc8 z) w v) T b mp (mq + 1) md mw me L := by
  obtain ⟨g1, g2, g3, g4, g5, g6, g7, g8, g9, g0⟩ := h
  have e : ∀ i, i ≠ T + 3 → i ≠ T + 4 → i ≠ T + 8 → i ≠ T + 9 → updPer σ T mq (enc5 z) w v i = σ i := by
    intro i h1 h2 h3 h4
    unfold updPer addPer
    rw [yset_off i h4, yset_off i h3, yset_off i h1, yset_off i h2]
  have f : ∀ i, i ≠ 108 → i ≠ 111 → i ≠ 112 → i ≠ 97 → updPerM τ b mq (enc8 z) w v i = τ i := by
    intro i h1 h2 h3 h4
    unfold updPerM
    rw [yset_off i h4, yset_off i h3, yset_off i h2, yset_off i h1]
  refine ⟨G1_of g1 (e _ (by omega) (by omega) (by omega) (by omega)) (e _ (by omega) (by omega) (by omega) (by omega)) (f _ (by omega) (by omega) (by omega) (by omega)) (by rw [f _ (by omega) (by omega) (by omega) (by omega)]), G1_add g2 hm hz ?_ ?_ ?_ ?_ ?_ ?_, G1_of g3 (e _ (by omega) (by omega) (by omega) (by omega)) (e _ (by omega) (by omega) (by omega) (by omega)) (f _ (by omega) (by omega) (by omega) (by omega)) (by rw [f _ (by omega) (by omega) (by omega) (by omega)]), ?_, ?_, ?_, ?_, ?_, ?_, ?_⟩
  · unfold updPer addPer
    rw [yset_ne (by omega), yset_ne (by omega), yset_at]
  · intro k hk
    unfold updPer addPer
    rw [yset_ne (by omega), yset_ne (by omega), yset_ne (by omega), yset_ne (by omega)]
  · unfold updPer addPer
    rw [yset_ne (by omega), yset_ne (by omega), yset_ne (by omega), yset_at]
  · intro k hk
    unfold updPerM
    rw [yset_ne (by omega), yset_ne (by omega), yset_ne (by omega), yset_ne (by omega)]
  · unfold updPerM
    rw [yset_ne (by omega), yset_ne (by omega), yset_ne (by omega), yset_at]
  · unfold updPerM
    rw [yset_at]
  · exact G4_of g4 (e _ (by omega) (by omega) (by omega) (by omega)) (by rw [e _ (by omega) (by omega) (by omega) (by omega)]) (f _ (by omega) (by omega) (by omega) (by omega)) (by rw [f _ (by omega) (by omega) (by omega) (by omega)]) (by omega)
  · exact G5_of g5 (by rw [e _ (by omega) (by omega) (by omega) (by omega)]) (e _ (by omega) (by omega) (by omega) (by omega)) (e _ (by omega) (by omega) (by omega) (by omega)) (e _ (by omega) (by omega) (by omega) (by omega)) (e _ (by omega) (by omega) (by omega) (by omega)) (by rw [f _ (by omega) (by omega) (by omega) (by omega)]) (f _ (by omega) (by omega) (by omega) (by omega)) (f _ (by omega) (by omega) (by omega) (by omega)) (f _ (by omega) (by omega) (by omega) (by omega)) (f _ (by omega) (by omega) (by omega) (by omega)) (by omega) (by omega)
  · exact G6_of g6 (by rw [e _ (by omega) (by omega) (by omega) (by omega)]) (by rw [e _ (by omega) (by omega) (by omega) (by omega)]) (by rw [f _ (by omega) (by omega) (by omega) (by omega)]) (by rw [f _ (by omega) (by omega) (by omega) (by omega)])
  · exact G7_of g7 (e _ (by omega) (by omega) (by omega) (by omega)) (f _ (by omega) (by omega) (by omega) (by omega))
  · intro k hk
    by_cases q : k < mq
    · have := g8 k q
      unfold updPer addPer updPerM
      rw [yset_ne (by omega), yset_ne (by omega), yset_ne (by omega), yset_ne (by omega), yset_ne (by omega), yset_ne (by omega), yset_ne (by omega), yset_ne (by omega), yset_ne (by omega), yset_ne (by omega), yset_ne (by omega), yset_ne (by omega), yset_ne (by omega), yset_ne (by omega), yset_ne (by omega), yset_ne (by omega)]
      exact this
    · have : k = mq := by omega
      subst this
      unfold updPer addPer updPerM
      have c1 : ∀ S : ySt, yset (yset S (T + 8) k w) (T + 9) k v (T + 8) k = w := fun S => by rw [yset_ne (by omega), yset_at]
      have c2 : ∀ S : ySt, yset (yset S (T + 8) k w) (T + 9) k v (T + 9) k = v := fun S => yset_at
      have c3 : ∀ S : ySt, yset (yset (yset S 111 (5 * b + k) w) 112 (5 * b + k) v) 97 b ((k : Int) + 1) 111 (5 * b + k) = w := fun S => by rw [yset_ne (by omega), yset_ne (by omega), yset_at]
      have c4 : ∀ S : ySt, yset (yset (yset S 111 (5 * b + k) w) 112 (5 * b + k) v) 97 b ((k : Int) + 1) 112 (5 * b + k) = v := fun S => by rw [yset_ne (by omega), yset_at]
      rw [c1, c2, c3, c4]
      exact ⟨⟨rfl, hw.1, hw.2⟩, rfl, hv.1, hv.2⟩
  · exact G9_of g9 (e _ (by omega) (by omega) (by omega) (by omega)) (f _ (by omega) (by omega) (by omega) (by omega)) (by omega)
  · exact RU_of g0 (by rw [e _ (by omega) (by omega) (by omega) (by omega)]) (e _ (by omega) (by omega) (by omega) (by omega)) (by rw [f _ (by omega) (by omega) (by omega) (by omega)]) (f _ (by omega) (by omega) (by omega) (by omega)) (f _ (by omega) (by omega) (by omega) (by omega))
theorem TB_dog {σ τ : ySt} {T b mp mq md mw me L : Nat} {z : List Int} {w : Nat} (h : TB σ τ T b mp mq md mw me L) (hm : md < 3) (hz : ∀ c ∈ z, 97 ≤ c ∧ c ≤ 122) (hw : w < mp) : TB (yset (addDog σ T md (enc5 z)) (T + 10) md w) (updDogM τ b md (enc8 z) w 1) T b mp mq (md + 1) mw me L := by
  obtain ⟨g1, g2, g3, g4, g5, g6, g7, g8, g9, g0⟩ := h
  have hmp : mp ≤ 6 := g1.2.1
  have e : ∀ i, i ≠ T + 5 → i ≠ T + 6 → i ≠ T + 10 → yset (addDog σ T md (enc5 z)) (T + 10) md w i = σ i := by
    intro i h1 h2 h3
    unfold addDog
    rw [yset_off i h3, yset_off i h1, yset_off i h2]
  have f : ∀ i, i ≠ 109 → i ≠ 113 → i ≠ 98 → updDogM τ b md (enc8 z) w 1 i = τ i := by
    intro i h1 h2 h3
    unfold updDogM
    rw [yset_off i h3, yset_off i h2, yset_off i h1]
  refine ⟨G1_of g1 (e _ (by omega) (by omega) (by omega)) (e _ (by omega) (by omega) (by omega)) (f _ (by omega) (by omega) (by omega)) (by rw [f _ (by omega) (by omega) (by omega)]), G1_of g2 (e _ (by omega) (by omega) (by omega)) (e _ (by omega) (by omega) (by omega)) (f _ (by omega) (by omega) (by omega)) (by rw [f _ (by omega) (by omega) (by omega)]), G1_add g3 hm hz ?_ ?_ ?_ ?_ ?_ ?_, ?_, ?_, ?_, ?_, ?_, ?_, ?_⟩
  · unfold addDog
    rw [yset_ne (by omega), yset_at]
  · intro k hk
    unfold addDog
    rw [yset_ne (by omega), yset_ne (by omega), yset_ne (by omega)]
  · unfold addDog
    rw [yset_ne (by omega), yset_ne (by omega), yset_at]
  · intro k hk
    unfold updDogM
    rw [yset_ne (by omega), yset_ne (by omega), yset_ne (by omega)]
  · unfold updDogM
    rw [yset_ne (by omega), yset_ne (by omega), yset_at]
  · unfold updDogM
    rw [yset_at]
  · exact G4_of g4 (e _ (by omega) (by omega) (by omega)) (by rw [e _ (by omega) (by omega) (by omega)]) (f _ (by omega) (by omega) (by omega)) (by rw [f _ (by omega) (by omega) (by omega)]) (by omega)
  · exact G5_of g5 (by rw [e _ (by omega) (by omega) (by omega)]) (e _ (by omega) (by omega) (by omega)) (e _ (by omega) (by omega) (by omega)) (e _ (by omega) (by omega) (by omega)) (e _ (by omega) (by omega) (by omega)) (by rw [f _ (by omega) (by omega) (by omega)]) (f _ (by omega) (by omega) (by omega)) (f _ (by omega) (by omega) (by omega)) (f _ (by omega) (by omega) (by omega)) (f _ (by omega) (by omega) (by omega)) (by omega) (by omega)
  · exact G6_of g6 (by rw [e _ (by omega) (by omega) (by omega)]) (by rw [e _ (by omega) (by omega) (by omega)]) (by rw [f _ (by omega) (by omega) (by omega)]) (by rw [f _ (by omega) (by omega) (by omega)])
  · exact G7_of g7 (e _ (by omega) (by omega) (by omega)) (f _ (by omega) (by omega) (by omega))
  · exact G8_of g8 (e _ (by omega) (by omega) (by omega)) (e _ (by omega) (by omega) (by omega)) (f _ (by omega) (by omega) (by omega)) (f _ (by omega) (by omega) (by omega)) (by omega)
  · have c1 : ∀ k, k < md → yset (addDog σ T md (enc5 z)) (T + 10) md w (T + 10) k = σ (T + 10) k := by
      intro k hk
      unfold addDog
      rw [yset_ne (by omega), yset_ne (by omega), yset_ne (by omega)]
    have c2 : yset (addDog σ T md (enc5 z)) (T + 10) md w (T + 10) md = w := yset_at
    refine ⟨fun k hk => ?_, fun p hp => ?_⟩
    · by_cases q : k < md
      · rw [c1 k q]
        exact g9.1 k q
      · have : k = md := by omega
        subst this
        exact ⟨w, hw, c2⟩
    · show _ = cnt _ md p + (if _ = (p : Int) then 1 else 0)
      rw [cnt_congr md p c1, c2, ← g9.2 p hp]
      unfold updDogM
      by_cases q : w = p
      · subst q
        rw [yset_ne (by omega), yset_at, if_pos rfl]
      · rw [yset_ne (by omega), yset_ne (by omega), yset_ne (by omega), if_neg (by omega), Int.add_zero]
  · exact RU_of g0 (by rw [e _ (by omega) (by omega) (by omega)]) (e _ (by omega) (by omega) (by omega)) (by rw [f _ (by omega) (by omega) (by omega)]) (f _ (by omega) (by omega) (by omega)) (f _ (by omega) (by omega) (by omega))
theorem TB_way {σ τ : ySt} {T b mp mq md mw me L a c : Nat} {v : Int} (h : TB σ τ T b mp mq md mw me L) (hm : mw < 15) (ha : a < mp) (hc : c < mp) (hac : a ≠ c) (hv : 1 ≤ v ∧ v ≤ 999) : TB (updWay σ T a c mw v) (updWayM τ b a c mw v) T b mp mq md (mw + 1) me L := by
  obtain ⟨g1, g2, g3, g4, g5, g6, g7, g8, g9, g0⟩ := h
  have hmp : mp ≤ 6 := g1.2.1
  have e : ∀ i, i ≠ T + 15 → i ≠ T → updWay σ T a c mw v i = σ i := by
    intro i h1 h2
    unfold updWay
    rw [yset_off i h2, yset_off i h1, yset_off i h1]
  have e' : ∀ k, k ≠ 15 → updWay σ T a c mw v T k = σ T k := by
    intro k hk
    unfold updWay
    rw [yset_ne (by omega), yset_ne (by omega), yset_ne (by omega)]
  have f : ∀ i, i ≠ 110 → i ≠ 96 → updWayM τ b a c mw v i = τ i := by
    intro i h1 h2
    unfold updWayM
    rw [yset_off i h2, yset_off i h1, yset_off i h1]
  refine ⟨G1_of g1 (e _ (by omega) (by omega)) (e _ (by omega) (by omega)) (f _ (by omega) (by omega)) (by rw [f _ (by omega) (by omega)]), G1_of g2 (e _ (by omega) (by omega)) (e _ (by omega) (by omega)) (f _ (by omega) (by omega)) (by rw [f _ (by omega) (by omega)]), G1_of g3 (e _ (by omega) (by omega)) (e _ (by omega) (by omega)) (f _ (by omega) (by omega)) (by rw [f _ (by omega) (by omega)]), ?_, ?_, ?_, ?_, ?_, ?_, ?_⟩
  · obtain ⟨a1, a2, a3, a4, a5, a6⟩ := g4
    have V : ∀ i j, i < 6 → j < 6 → updWay σ T a c mw v (T + 15) (6 * i + j) = if (i = a ∧ j = c) ∨ (i = c ∧ j = a) then v else σ (T + 15) (6 * i + j) := by
      intro i j hi hj
      unfold updWay
      rw [yset_ne (by omega)]
      by_cases q : i = c ∧ j = a
      · rw [if_pos (Or.inr q), q.1, q.2, yset_at]
      · rw [yset_ne (by omega)]
        by_cases q2 : i = a ∧ j = c
        · rw [if_pos (Or.inl q2), q2.1, q2.2, yset_at]
        · rw [yset_ne (by omega), if_neg (by omega)]
    have V' : ∀ i j, i < 6 → j < 6 → updWayM τ b a c mw v 110 (36 * b + 6 * i + j) = if (i = a ∧ j = c) ∨ (i = c ∧ j = a) then v else τ 110 (36 * b + 6 * i + j) := by
      intro i j hi hj
      unfold updWayM
      rw [yset_ne (by omega)]
      by_cases q : i = c ∧ j = a
      · rw [if_pos (Or.inr q), q.1, q.2, yset_at]
      · rw [yset_ne (by omega)]
        by_cases q2 : i = a ∧ j = c
        · rw [if_pos (Or.inl q2), q2.1, q2.2, yset_at]
        · rw [yset_ne (by omega), if_neg (by omega)]
    refine ⟨fun i j hi hj hij => ?_, ?_, by omega, ?_, fun i hi => ?_, fun i j hi hj hij => ?_⟩
    · rw [V i j hi hj, V' i j hi hj, a1 i j hi hj hij]
    · unfold updWay
      rw [yset_at]
      rfl
    · unfold updWayM
      rw [yset_at]
      rfl
    · rw [show 7 * i = 6 * i + i from by omega, V i i hi hi, if_neg (by omega), ← a5 i hi, show 7 * i = 6 * i + i from by omega]
    · have := a6 i j hi hj hij
      rw [V i j hi hj, V j i hj hi]
      by_cases q : (i = a ∧ j = c) ∨ (i = c ∧ j = a)
      · rw [if_pos q, if_pos (by omega)]
        exact ⟨rfl, Or.inr ⟨hv.1, hv.2, by omega, by omega⟩⟩
      · rw [if_neg q, if_neg (by omega)]
        exact this
  · exact G5_of g5 (e' _ (by omega)) (e _ (by omega) (by omega)) (e _ (by omega) (by omega)) (e _ (by omega) (by omega)) (e _ (by omega) (by omega)) (by rw [f _ (by omega) (by omega)]) (f _ (by omega) (by omega)) (f _ (by omega) (by omega)) (f _ (by omega) (by omega)) (f _ (by omega) (by omega)) (by omega) (by omega)
  · exact G6_of g6 (e' _ (by omega)) (e' _ (by omega)) (by rw [f _ (by omega) (by omega)]) (by rw [f _ (by omega) (by omega)])
  · exact G7_of g7 (e _ (by omega) (by omega)) (f _ (by omega) (by omega))
  · exact G8_of g8 (e _ (by omega) (by omega)) (e _ (by omega) (by omega)) (f _ (by omega) (by omega)) (f _ (by omega) (by omega)) (by omega)
  · exact G9_of g9 (e _ (by omega) (by omega)) (f _ (by omega) (by omega)) (by omega)
  · exact RU_of g0 (by rw [e _ (by omega) (by omega)]) (e _ (by omega) (by omega)) (by rw [f _ (by omega) (by omega)]) (f _ (by omega) (by omega)) (f _ (by omega) (by omega))
theorem TB_errand {σ τ : ySt} {T b mp mq md mw me L : Nat} {w a s v : Int} (h : TB σ τ T b mp mq md mw me L) (hm : me < 8) (hw : 0 ≤ w ∧ w < mq) (ha : 0 ≤ a ∧ a < mp) (hs : 1 ≤ s ∧ s ≤ 8) (hv : 0 ≤ v ∧ v ≤ 999) : TB (updErr σ T me w a s v) (updErrM τ b me w a s v) T b mp mq md mw (me + 1) L := by
  obtain ⟨g1, g2, g3, g4, g5, g6, g7, g8, g9, g0⟩ := h
  have e : ∀ i, (i < T + 11 ∨ T + 14 < i) → i ≠ T → updErr σ T me w a s v i = σ i := by
    intro i h1 h2
    unfold updErr
    rw [yset_off i h2, yset_off i (by omega), yset_off i (by omega), yset_off i (by omega), yset_off i (by omega)]
  have e' : ∀ k, k ≠ 14 → updErr σ T me w a s v T k = σ T k := by
    intro k hk
    unfold updErr
    rw [yset_ne (by omega), yset_ne (by omega), yset_ne (by omega), yset_ne (by omega), yset_ne (by omega)]
  have f : ∀ i, (i < 114 ∨ 117 < i) → i ≠ 99 → updErrM τ b me w a s v i = τ i := by
    intro i h1 h2
    unfold updErrM
    rw [yset_off i h2, yset_off i (by omega), yset_off i (by omega), yset_off i (by omega), yset_off i (by omega)]
  refine ⟨G1_of g1 (e _ (by omega) (by omega)) (e _ (by omega) (by omega)) (f _ (by omega) (by omega)) (by rw [f _ (by omega) (by omega)]), G1_of g2 (e _ (by omega) (by omega)) (e _ (by omega) (by omega)) (f _ (by omega) (by omega)) (by rw [f _ (by omega) (by omega)]), G1_of g3 (e _ (by omega) (by omega)) (e _ (by omega) (by omega)) (f _ (by omega) (by omega)) (by rw [f _ (by omega) (by omega)]), ?_, ?_, ?_, ?_, ?_, ?_, ?_⟩
  · exact G4_of g4 (e _ (by omega) (by omega)) (e' _ (by omega)) (f _ (by omega) (by omega)) (by rw [f _ (by omega) (by omega)]) (by omega)
  · obtain ⟨a1, a2, a3, a4⟩ := g5
    refine ⟨?_, by omega, ?_, fun k hk => ?_⟩
    · unfold updErr
      rw [yset_at]
      rfl
    · unfold updErrM
      rw [yset_at]
      rfl
    · by_cases q : k < me
      · have := a4 k q
        have c1 : updErr σ T me w a s v (T + 11) k = σ (T + 11) k := by
          unfold updErr
          rw [yset_ne (by omega), yset_ne (by omega), yset_ne (by omega), yset_ne (by omega), yset_ne (by omega)]
        have c2 : updErr σ T me w a s v (T + 12) k = σ (T + 12) k := by
          unfold updErr
          rw [yset_ne (by omega), yset_ne (by omega), yset_ne (by omega), yset_ne (by omega), yset_ne (by omega)]
        have c3 : updErr σ T me w a s v (T + 13) k = σ (T + 13) k := by
          unfold updErr
          rw [yset_ne (by omega), yset_ne (by omega), yset_ne (by omega), yset_ne (by omega), yset_ne (by omega)]
        have c4 : updErr σ T me w a s v (T + 14) k = σ (T + 14) k := by
          unfold updErr
          rw [yset_ne (by omega), yset_ne (by omega), yset_ne (by omega), yset_ne (by omega), yset_ne (by omega)]
        have d : ∀ i, updErrM τ b me w a s v i (8 * b + k) = τ i (8 * b + k) ∨ i = 99 := by
          intro i
          by_cases q2 : i = 99
          · exact Or.inr q2
          · refine Or.inl ?_
            unfold updErrM
            rw [yset_ne (by omega), yset_ne (by omega), yset_ne (by omega), yset_ne (by omega), yset_ne (by omega)]
        rw [c1, c2, c3, c4, (d 114).resolve_right (by omega), (d 115).resolve_right (by omega), (d 116).resolve_right (by omega), (d 117).resolve_right (by omega)]
        exact this
      · have : k = me := by omega
        subst this
        have c1 : updErr σ T k w a s v (T + 11) k = w := by
          unfold updErr
          rw [yset_ne (by omega), yset_ne (by omega), yset_ne (by omega), yset_ne (by omega), yset_at]
        have c2 : updErr σ T k w a s v (T + 12) k = a := by
          unfold updErr
          rw [yset_ne (by omega), yset_ne (by omega), yset_ne (by omega), yset_at]
        have c3 : updErr σ T k w a s v (T + 13) k = s := by
          unfold updErr
          rw [yset_ne (by omega), yset_ne (by omega), yset_at]
        have c4 : updErr σ T k w a s v (T + 14) k = v := by
          unfold updErr
          rw [yset_ne (by omega), yset_at]
        have d1 : updErrM τ b k w a s v 114 (8 * b + k) = w := by
          unfold updErrM
          rw [yset_ne (by omega), yset_ne (by omega), yset_ne (by omega), yset_ne (by omega), yset_at]
        have d2 : updErrM τ b k w a s v 115 (8 * b + k) = a := by
          unfold updErrM
          rw [yset_ne (by omega), yset_ne (by omega), yset_ne (by omega), yset_at]
        have d3 : updErrM τ b k w a s v 116 (8 * b + k) = s := by
          unfold updErrM
          rw [yset_ne (by omega), yset_ne (by omega), yset_at]
        have d4 : updErrM τ b k w a s v 117 (8 * b + k) = v := by
          unfold updErrM
          rw [yset_ne (by omega), yset_at]
        rw [c1, c2, c3, c4, d1, d2, d3, d4]
        exact ⟨⟨rfl, hw⟩, ⟨rfl, ha⟩, ⟨rfl, hs⟩, rfl, hv⟩
  · exact G6_of g6 (e' _ (by omega)) (e' _ (by omega)) (by rw [f _ (by omega) (by omega)]) (by rw [f _ (by omega) (by omega)])
  · exact G7_of g7 (e _ (by omega) (by omega)) (f _ (by omega) (by omega))
  · exact G8_of g8 (e _ (by omega) (by omega)) (e _ (by omega) (by omega)) (f _ (by omega) (by omega)) (f _ (by omega) (by omega)) (by omega)
  · exact G9_of g9 (e _ (by omega) (by omega)) (f _ (by omega) (by omega)) (by omega)
  · exact RU_of g0 (by rw [e _ (by omega) (by omega)]) (e _ (by omega) (by omega)) (by rw [f _ (by omega) (by omega)]) (f _ (by omega) (by omega)) (f _ (by omega) (by omega))
