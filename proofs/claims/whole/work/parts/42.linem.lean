/-! the reference's readLine, step by step -/
def ln9 (N : Nat) (w : Int) (σ22 : ySt) : Option ySt :=
  chkA 2 (σ22 92 41) <|
  bnd (fun (y25 : Int) =>
    chk (y25 = 0 ∨ y25 = 1) <|
    chkA 2 (σ22 92 41) <|
    bnd (yset σ22 103 ((σ22 92 41)).toNat y25) fun σ29 =>
    chkA 2 (σ29 92 41) <|
    bnd (fun (y32 : Int) =>
      chk (y32 = 0 ∨ y32 = 1) <|
      chkA 2 (σ29 92 41) <|
      bnd (yset σ29 104 ((σ29 92 41)).toNat y32) fun σ36 =>
      chkA 2 (σ36 92 41) <|
      bnd (fun (y39 : Int) =>
        chk (y39 = 0 ∨ y39 = 1) <|
        chkA 2 (σ36 92 41) <|
        bnd (yset σ36 105 ((σ36 92 41)).toNat y39) fun σ43 =>
        bndO (mo_is 59 σ43) fun r46 =>
        bndO (mo_must N r46 σ43) fun σ48 =>
        some σ48) fun j40 =>
      if ¬ (σ36 105 ((σ36 92 41)).toNat) = 0 then
        j40 1
      else
        if ¬ (blcmp w 1920298085) = 0 then
          j40 0
        else
          j40 1) fun j33 =>
    if ¬ (σ29 104 ((σ29 92 41)).toNat) = 0 then
      j33 1
    else
      if ¬ (blcmp w 32497657166128499) = 0 then
        j33 0
      else
        j33 1) fun j26 =>
  if ¬ (σ22 103 ((σ22 92 41)).toNat) = 0 then
    j26 1
  else
    if ¬ (blcmp w 1752135026) = 0 then
      j26 0
    else
      j26 1
def ln8 (N : Nat) (w : Int) (σ : ySt) : Option ySt :=
  bnd (fun (σ1 : ySt) => ln9 N w σ1) fun j =>
  if ¬ (blcmp w 1920298085) = 0 then j σ else bndO (mo_readRule N σ) fun σ2 => j σ2
theorem ln8_no {N : Nat} {w : Int} {σ : ySt} (h : w ≠ 1920298085) : ln8 N w σ = ln9 N w σ := by
  unfold ln8
  simp only [bnd]
  rw [if_pos (fun q => h (blcmp_0.mp q))]
theorem ln8_yes {N : Nat} {w : Int} {σ : ySt} (h : w = 1920298085) : ln8 N w σ = bndO (mo_readRule N σ) fun σ2 => ln9 N w σ2 := by
  unfold ln8
  simp only [bnd]
  rw [if_neg (fun q => q (blcmp_0.mpr h))]
def ln7 (N : Nat) (w : Int) (σ : ySt) : Option ySt :=
  bnd (fun (σ1 : ySt) => ln8 N w σ1) fun j =>
  if ¬ (blcmp w 32497657166128499) = 0 then j σ else bndR (mo_numeral N 1 8 σ) fun r σ2 => chkA 2 (σ 92 41) <| bnd (yset σ2 101 ((σ 92 41)).toNat r) fun σ3 => j σ3
theorem ln7_no {N : Nat} {w : Int} {σ : ySt} (h : w ≠ 32497657166128499) : ln7 N w σ = ln8 N w σ := by
  unfold ln7
  simp only [bnd]
  rw [if_pos (fun q => h (blcmp_0.mp q))]
theorem ln7_yes {N : Nat} {w : Int} {σ : ySt} (h : w = 32497657166128499) : ln7 N w σ = bndR (mo_numeral N 1 8 σ) fun r σ2 => chkA 2 (σ 92 41) <| bnd (yset σ2 101 ((σ 92 41)).toNat r) fun σ3 => ln8 N w σ3 := by
  unfold ln7
  simp only [bnd]
  rw [if_neg (fun q => q (blcmp_0.mpr h))]
def ln6 (N : Nat) (w : Int) (σ : ySt) : Option ySt :=
  bnd (fun (σ1 : ySt) => ln7 N w σ1) fun j =>
  if ¬ (blcmp w 1752135026) = 0 then j σ else bndR (mo_numeral N 1 999 σ) fun r σ2 => chkA 2 (σ 92 41) <| bnd (yset σ2 100 ((σ 92 41)).toNat r) fun σ3 => j σ3
theorem ln6_no {N : Nat} {w : Int} {σ : ySt} (h : w ≠ 1752135026) : ln6 N w σ = ln7 N w σ := by
  unfold ln6
  simp only [bnd]
  rw [if_pos (fun q => h (blcmp_0.mp q))]
theorem ln6_yes {N : Nat} {w : Int} {σ : ySt} (h : w = 1752135026) : ln6 N w σ = bndR (mo_numeral N 1 999 σ) fun r σ2 => chkA 2 (σ 92 41) <| bnd (yset σ2 100 ((σ 92 41)).toNat r) fun σ3 => ln7 N w σ3 := by
  unfold ln6
  simp only [bnd]
  rw [if_neg (fun q => q (blcmp_0.mpr h))]
def ln5 (N : Nat) (w : Int) (σ : ySt) : Option ySt :=
  bnd (fun (σ1 : ySt) => ln6 N w σ1) fun j =>
  if ¬ (blcmp w 111542219664996) = 0 then j σ else bndO (mo_readErrand N σ) fun σ2 => j σ2
theorem ln5_no {N : Nat} {w : Int} {σ : ySt} (h : w ≠ 111542219664996) : ln5 N w σ = ln6 N w σ := by
  unfold ln5
  simp only [bnd]
  rw [if_pos (fun q => h (blcmp_0.mp q))]
theorem ln5_yes {N : Nat} {w : Int} {σ : ySt} (h : w = 111542219664996) : ln5 N w σ = bndO (mo_readErrand N σ) fun σ2 => ln6 N w σ2 := by
  unfold ln5
  simp only [bnd]
  rw [if_neg (fun q => q (blcmp_0.mpr h))]
def ln4 (N : Nat) (w : Int) (σ : ySt) : Option ySt :=
  bnd (fun (σ1 : ySt) => ln5 N w σ1) fun j =>
  if ¬ (blcmp w 6582119) = 0 then j σ else bndO (mo_readDog N σ) fun σ2 => j σ2
theorem ln4_no {N : Nat} {w : Int} {σ : ySt} (h : w ≠ 6582119) : ln4 N w σ = ln5 N w σ := by
  unfold ln4
  simp only [bnd]
  rw [if_pos (fun q => h (blcmp_0.mp q))]
theorem ln4_yes {N : Nat} {w : Int} {σ : ySt} (h : w = 6582119) : ln4 N w σ = bndO (mo_readDog N σ) fun σ2 => ln5 N w σ2 := by
  unfold ln4
  simp only [bnd]
  rw [if_neg (fun q => q (blcmp_0.mpr h))]
def ln3 (N : Nat) (w : Int) (σ : ySt) : Option ySt :=
  bnd (fun (σ1 : ySt) => ln4 N w σ1) fun j =>
  if ¬ (blcmp w 123581014175598) = 0 then j σ else bndO (mo_readPerson N σ) fun σ2 => j σ2
theorem ln3_no {N : Nat} {w : Int} {σ : ySt} (h : w ≠ 123581014175598) : ln3 N w σ = ln4 N w σ := by
  unfold ln3
  simp only [bnd]
  rw [if_pos (fun q => h (blcmp_0.mp q))]
theorem ln3_yes {N : Nat} {w : Int} {σ : ySt} (h : w = 123581014175598) : ln3 N w σ = bndO (mo_readPerson N σ) fun σ2 => ln4 N w σ2 := by
  unfold ln3
  simp only [bnd]
  rw [if_neg (fun q => q (blcmp_0.mpr h))]
def ln2 (N : Nat) (w : Int) (σ : ySt) : Option ySt :=
  bnd (fun (σ1 : ySt) => ln3 N w σ1) fun j =>
  if ¬ (blcmp w 7823737) = 0 then j σ else bndO (mo_readWay N σ) fun σ2 => j σ2
theorem ln2_no {N : Nat} {w : Int} {σ : ySt} (h : w ≠ 7823737) : ln2 N w σ = ln3 N w σ := by
  unfold ln2
  simp only [bnd]
  rw [if_pos (fun q => h (blcmp_0.mp q))]
theorem ln2_yes {N : Nat} {w : Int} {σ : ySt} (h : w = 7823737) : ln2 N w σ = bndO (mo_readWay N σ) fun σ2 => ln3 N w σ2 := by
  unfold ln2
  simp only [bnd]
  rw [if_neg (fun q => q (blcmp_0.mpr h))]
def ln1 (N : Nat) (w : Int) (σ : ySt) : Option ySt :=
  bnd (fun (σ1 : ySt) => ln2 N w σ1) fun j =>
  if ¬ (blcmp w 482854658917) = 0 then j σ else bndO (mo_readPlace N σ) fun σ2 => j σ2
theorem ln1_no {N : Nat} {w : Int} {σ : ySt} (h : w ≠ 482854658917) : ln1 N w σ = ln2 N w σ := by
  unfold ln1
  simp only [bnd]
  rw [if_pos (fun q => h (blcmp_0.mp q))]
theorem ln1_yes {N : Nat} {w : Int} {σ : ySt} (h : w = 482854658917) : ln1 N w σ = bndO (mo_readPlace N σ) fun σ2 => ln2 N w σ2 := by
  unfold ln1
  simp only [bnd]
  rw [if_neg (fun q => q (blcmp_0.mpr h))]
theorem mo_readLine_eq (N : Nat) (σ : ySt) : mo_readLine N σ =
  bnd (fun (σ1 : ySt) =>
    bndO (mo_isGood σ1) fun r4 =>
    if ¬ r4 = 0 then
      bndO (mo_goOn N σ1) fun σ7 => ln1 N (σ 92 10) σ7
    else
      some σ1) fun j2 =>
  bnd (bndO (mo_misplaced σ) fun σ89 =>
    j2 σ89) fun j87 =>
  if ¬ (σ 92 8) = 3 then
    j87
  else
    bndO (mo_isFull σ) fun r92 =>
    if r92 = 0 then
      j2 σ
    else
      j87 := rfl
theorem TM_w {τ : ySt} {t : Nat → Int} {n p : Nat} (h : TM τ t n p) (q : 100 ≤ tkK t n p) {j : Nat} {c : Int} (hj : ∀ w : List Int, (∀ c ∈ w, 97 ≤ c ∧ c ≤ 122) → (kdW w = 100 + j ↔ enc8 w = c)) : (τ 92 10 = c ↔ tkK t n p = 100 + j) := by
  obtain ⟨_, _, _, _, _, _, _, h8, _, h10, _⟩ := h
  rw [h10 (Or.inr q)]
  have g := tkW_wd (Or.inr q : tkK t n p = 3 ∨ 100 ≤ tkK t n p)
  have g2 := hj _ g.1
  rw [(tk_word (Or.inr q)).2.2.2] at g2
  exact g2.symm
theorem mo_line_place {N n p : Nat} {τ : ySt} {t : Nat → Int} (h : TM τ t n p) (g : τ 92 4 = 0) (k : tkK t n p = 100) (hf : mo_isFull τ = some 0) : mo_readLine N τ = bndO (mo_goOn N τ) fun σ7 => bndO (mo_readPlace N σ7) fun σ2 => ln9 N (τ 92 10) σ2 := by
  have q : 100 ≤ tkK t n p := by omega
  have h3 : τ 92 8 = 3 := (TM_tok h).2.2.2.2.1.mpr q
  have w_place : τ 92 10 = 482854658917 ↔ tkK t n p = 100 + 0 := TM_w h q (j := 0) (fun _ hw => kd_place hw)
  have w_way : τ 92 10 = 7823737 ↔ tkK t n p = 100 + 2 := TM_w h q (j := 2) (fun _ hw => kd_way hw)
  have w_person : τ 92 10 = 123581014175598 ↔ tkK t n p = 100 + 4 := TM_w h q (j := 4) (fun _ hw => kd_person hw)
  have w_dog : τ 92 10 = 6582119 ↔ tkK t n p = 100 + 7 := TM_w h q (j := 7) (fun _ hw => kd_dog hw)
  have w_errand : τ 92 10 = 111542219664996 ↔ tkK t n p = 100 + 8 := TM_w h q (j := 8) (fun _ hw => kd_errand hw)
  have w_hour : τ 92 10 = 1752135026 ↔ tkK t n p = 100 + 11 := TM_w h q (j := 11) (fun _ hw => kd_hour hw)
  have w_strokes : τ 92 10 = 32497657166128499 ↔ tkK t n p = 100 + 12 := TM_w h q (j := 12) (fun _ hw => kd_strokes hw)
  have w_rule : τ 92 10 = 1920298085 ↔ tkK t n p = 100 + 13 := TM_w h q (j := 13) (fun _ hw => kd_rule hw)
  rw [mo_readLine_eq, bnd, bnd, if_neg (fun w => w h3), hf, bndO_s, if_pos rfl]
  show (bndO (mo_isGood τ) fun r4 => if ¬ r4 = 0 then bndO (mo_goOn N τ) fun σ7 => ln1 N (τ 92 10) σ7 else some τ) = _
  rw [mo_isGood_eq, bndO_s, if_pos g, if_pos (by decide)]
  congr 1
  funext σ7
  rw [ln1_yes (w_place.mpr (by omega))]
  congr 1
  funext σ2
  rw [ln2_no (fun w => by have := w_way.mp w; omega), ln3_no (fun w => by have := w_person.mp w; omega), ln4_no (fun w => by have := w_dog.mp w; omega), ln5_no (fun w => by have := w_errand.mp w; omega), ln6_no (fun w => by have := w_hour.mp w; omega), ln7_no (fun w => by have := w_strokes.mp w; omega), ln8_no (fun w => by have := w_rule.mp w; omega)]
theorem mo_line_way {N n p : Nat} {τ : ySt} {t : Nat → Int} (h : TM τ t n p) (g : τ 92 4 = 0) (k : tkK t n p = 102) (hf : mo_isFull τ = some 0) : mo_readLine N τ = bndO (mo_goOn N τ) fun σ7 => bndO (mo_readWay N σ7) fun σ2 => ln9 N (τ 92 10) σ2 := by
  have q : 100 ≤ tkK t n p := by omega
  have h3 : τ 92 8 = 3 := (TM_tok h).2.2.2.2.1.mpr q
  have w_place : τ 92 10 = 482854658917 ↔ tkK t n p = 100 + 0 := TM_w h q (j := 0) (fun _ hw => kd_place hw)
  have w_way : τ 92 10 = 7823737 ↔ tkK t n p = 100 + 2 := TM_w h q (j := 2) (fun _ hw => kd_way hw)
  have w_person : τ 92 10 = 123581014175598 ↔ tkK t n p = 100 + 4 := TM_w h q (j := 4) (fun _ hw => kd_person hw)
  have w_dog : τ 92 10 = 6582119 ↔ tkK t n p = 100 + 7 := TM_w h q (j := 7) (fun _ hw => kd_dog hw)
  have w_errand : τ 92 10 = 111542219664996 ↔ tkK t n p = 100 + 8 := TM_w h q (j := 8) (fun _ hw => kd_errand hw)
  have w_hour : τ 92 10 = 1752135026 ↔ tkK t n p = 100 + 11 := TM_w h q (j := 11) (fun _ hw => kd_hour hw)
  have w_strokes : τ 92 10 = 32497657166128499 ↔ tkK t n p = 100 + 12 := TM_w h q (j := 12) (fun _ hw => kd_strokes hw)
  have w_rule : τ 92 10 = 1920298085 ↔ tkK t n p = 100 + 13 := TM_w h q (j := 13) (fun _ hw => kd_rule hw)
  rw [mo_readLine_eq, bnd, bnd, if_neg (fun w => w h3), hf, bndO_s, if_pos rfl]
  show (bndO (mo_isGood τ) fun r4 => if ¬ r4 = 0 then bndO (mo_goOn N τ) fun σ7 => ln1 N (τ 92 10) σ7 else some τ) = _
  rw [mo_isGood_eq, bndO_s, if_pos g, if_pos (by decide)]
  congr 1
  funext σ7
  rw [ln1_no (fun w => by have := w_place.mp w; omega), ln2_yes (w_way.mpr (by omega))]
  congr 1
  funext σ2
  rw [ln3_no (fun w => by have := w_person.mp w; omega), ln4_no (fun w => by have := w_dog.mp w; omega), ln5_no (fun w => by have := w_errand.mp w; omega), ln6_no (fun w => by have := w_hour.mp w; omega), ln7_no (fun w => by have := w_strokes.mp w; omega), ln8_no (fun w => by have := w_rule.mp w; omega)]
theorem mo_line_person {N n p : Nat} {τ : ySt} {t : Nat → Int} (h : TM τ t n p) (g : τ 92 4 = 0) (k : tkK t n p = 104) (hf : mo_isFull τ = some 0) : mo_readLine N τ = bndO (mo_goOn N τ) fun σ7 => bndO (mo_readPerson N σ7) fun σ2 => ln9 N (τ 92 10) σ2 := by
  have q : 100 ≤ tkK t n p := by omega
  have h3 : τ 92 8 = 3 := (TM_tok h).2.2.2.2.1.mpr q
  have w_place : τ 92 10 = 482854658917 ↔ tkK t n p = 100 + 0 := TM_w h q (j := 0) (fun _ hw => kd_place hw)
  have w_way : τ 92 10 = 7823737 ↔ tkK t n p = 100 + 2 := TM_w h q (j := 2) (fun _ hw => kd_way hw)
  have w_person : τ 92 10 = 123581014175598 ↔ tkK t n p = 100 + 4 := TM_w h q (j := 4) (fun _ hw => kd_person hw)
  have w_dog : τ 92 10 = 6582119 ↔ tkK t n p = 100 + 7 := TM_w h q (j := 7) (fun _ hw => kd_dog hw)
  have w_errand : τ 92 10 = 111542219664996 ↔ tkK t n p = 100 + 8 := TM_w h q (j := 8) (fun _ hw => kd_errand hw)
  have w_hour : τ 92 10 = 1752135026 ↔ tkK t n p = 100 + 11 := TM_w h q (j := 11) (fun _ hw => kd_hour hw)
  have w_strokes : τ 92 10 = 32497657166128499 ↔ tkK t n p = 100 + 12 := TM_w h q (j := 12) (fun _ hw => kd_strokes hw)
  have w_rule : τ 92 10 = 1920298085 ↔ tkK t n p = 100 + 13 := TM_w h q (j := 13) (fun _ hw => kd_rule hw)
  rw [mo_readLine_eq, bnd, bnd, if_neg (fun w => w h3), hf, bndO_s, if_pos rfl]
  show (bndO (mo_isGood τ) fun r4 => if ¬ r4 = 0 then bndO (mo_goOn N τ) fun σ7 => ln1 N (τ 92 10) σ7 else some τ) = _
  rw [mo_isGood_eq, bndO_s, if_pos g, if_pos (by decide)]
  congr 1
  funext σ7
  rw [ln1_no (fun w => by have := w_place.mp w; omega), ln2_no (fun w => by have := w_way.mp w; omega), ln3_yes (w_person.mpr (by omega))]
  congr 1
  funext σ2
  rw [ln4_no (fun w => by have := w_dog.mp w; omega), ln5_no (fun w => by have := w_errand.mp w; omega), ln6_no (fun w => by have := w_hour.mp w; omega), ln7_no (fun w => by have := w_strokes.mp w; omega), ln8_no (fun w => by have := w_rule.mp w; omega)]
theorem mo_line_dog {N n p : Nat} {τ : ySt} {t : Nat → Int} (h : TM τ t n p) (g : τ 92 4 = 0) (k : tkK t n p = 107) (hf : mo_isFull τ = some 0) : mo_readLine N τ = bndO (mo_goOn N τ) fun σ7 => bndO (mo_readDog N σ7) fun σ2 => ln9 N (τ 92 10) σ2 := by
  have q : 100 ≤ tkK t n p := by omega
  have h3 : τ 92 8 = 3 := (TM_tok h).2.2.2.2.1.mpr q
  have w_place : τ 92 10 = 482854658917 ↔ tkK t n p = 100 + 0 := TM_w h q (j := 0) (fun _ hw => kd_place hw)
  have w_way : τ 92 10 = 7823737 ↔ tkK t n p = 100 + 2 := TM_w h q (j := 2) (fun _ hw => kd_way hw)
  have w_person : τ 92 10 = 123581014175598 ↔ tkK t n p = 100 + 4 := TM_w h q (j := 4) (fun _ hw => kd_person hw)
  have w_dog : τ 92 10 = 6582119 ↔ tkK t n p = 100 + 7 := TM_w h q (j := 7) (fun _ hw => kd_dog hw)
  have w_errand : τ 92 10 = 111542219664996 ↔ tkK t n p = 100 + 8 := TM_w h q (j := 8) (fun _ hw => kd_errand hw)
  have w_hour : τ 92 10 = 1752135026 ↔ tkK t n p = 100 + 11 := TM_w h q (j := 11) (fun _ hw => kd_hour hw)
  have w_strokes : τ 92 10 = 32497657166128499 ↔ tkK t n p = 100 + 12 := TM_w h q (j := 12) (fun _ hw => kd_strokes hw)
  have w_rule : τ 92 10 = 1920298085 ↔ tkK t n p = 100 + 13 := TM_w h q (j := 13) (fun _ hw => kd_rule hw)
  rw [mo_readLine_eq, bnd, bnd, if_neg (fun w => w h3), hf, bndO_s, if_pos rfl]
  show (bndO (mo_isGood τ) fun r4 => if ¬ r4 = 0 then bndO (mo_goOn N τ) fun σ7 => ln1 N (τ 92 10) σ7 else some τ) = _
  rw [mo_isGood_eq, bndO_s, if_pos g, if_pos (by decide)]
  congr 1
  funext σ7
  rw [ln1_no (fun w => by have := w_place.mp w; omega), ln2_no (fun w => by have := w_way.mp w; omega), ln3_no (fun w => by have := w_person.mp w; omega), ln4_yes (w_dog.mpr (by omega))]
  congr 1
  funext σ2
  rw [ln5_no (fun w => by have := w_errand.mp w; omega), ln6_no (fun w => by have := w_hour.mp w; omega), ln7_no (fun w => by have := w_strokes.mp w; omega), ln8_no (fun w => by have := w_rule.mp w; omega)]
theorem mo_line_errand {N n p : Nat} {τ : ySt} {t : Nat → Int} (h : TM τ t n p) (g : τ 92 4 = 0) (k : tkK t n p = 108) (hf : mo_isFull τ = some 0) : mo_readLine N τ = bndO (mo_goOn N τ) fun σ7 => bndO (mo_readErrand N σ7) fun σ2 => ln9 N (τ 92 10) σ2 := by
  have q : 100 ≤ tkK t n p := by omega
  have h3 : τ 92 8 = 3 := (TM_tok h).2.2.2.2.1.mpr q
  have w_place : τ 92 10 = 482854658917 ↔ tkK t n p = 100 + 0 := TM_w h q (j := 0) (fun _ hw => kd_place hw)
  have w_way : τ 92 10 = 7823737 ↔ tkK t n p = 100 + 2 := TM_w h q (j := 2) (fun _ hw => kd_way hw)
  have w_person : τ 92 10 = 123581014175598 ↔ tkK t n p = 100 + 4 := TM_w h q (j := 4) (fun _ hw => kd_person hw)
  have w_dog : τ 92 10 = 6582119 ↔ tkK t n p = 100 + 7 := TM_w h q (j := 7) (fun _ hw => kd_dog hw)
  have w_errand : τ 92 10 = 111542219664996 ↔ tkK t n p = 100 + 8 := TM_w h q (j := 8) (fun _ hw => kd_errand hw)
  have w_hour : τ 92 10 = 1752135026 ↔ tkK t n p = 100 + 11 := TM_w h q (j := 11) (fun _ hw => kd_hour hw)
  have w_strokes : τ 92 10 = 32497657166128499 ↔ tkK t n p = 100 + 12 := TM_w h q (j := 12) (fun _ hw => kd_strokes hw)
  have w_rule : τ 92 10 = 1920298085 ↔ tkK t n p = 100 + 13 := TM_w h q (j := 13) (fun _ hw => kd_rule hw)
  rw [mo_readLine_eq, bnd, bnd, if_neg (fun w => w h3), hf, bndO_s, if_pos rfl]
  show (bndO (mo_isGood τ) fun r4 => if ¬ r4 = 0 then bndO (mo_goOn N τ) fun σ7 => ln1 N (τ 92 10) σ7 else some τ) = _
  rw [mo_isGood_eq, bndO_s, if_pos g, if_pos (by decide)]
  congr 1
  funext σ7
  rw [ln1_no (fun w => by have := w_place.mp w; omega), ln2_no (fun w => by have := w_way.mp w; omega), ln3_no (fun w => by have := w_person.mp w; omega), ln4_no (fun w => by have := w_dog.mp w; omega), ln5_yes (w_errand.mpr (by omega))]
  congr 1
  funext σ2
  rw [ln6_no (fun w => by have := w_hour.mp w; omega), ln7_no (fun w => by have := w_strokes.mp w; omega), ln8_no (fun w => by have := w_rule.mp w; omega)]
theorem mo_line_hour {N n p : Nat} {τ : ySt} {t : Nat → Int} (h : TM τ t n p) (g : τ 92 4 = 0) (k : tkK t n p = 111) (hf : mo_isFull τ = some 0) : mo_readLine N τ = bndO (mo_goOn N τ) fun σ7 => bndR (mo_numeral N 1 999 σ7) fun r σ2 => chkA 2 (σ7 92 41) <| bnd (yset σ2 100 ((σ7 92 41)).toNat r) fun σ3 => ln9 N (τ 92 10) σ3 := by
  have q : 100 ≤ tkK t n p := by omega
  have h3 : τ 92 8 = 3 := (TM_tok h).2.2.2.2.1.mpr q
  have w_place : τ 92 10 = 482854658917 ↔ tkK t n p = 100 + 0 := TM_w h q (j := 0) (fun _ hw => kd_place hw)
  have w_way : τ 92 10 = 7823737 ↔ tkK t n p = 100 + 2 := TM_w h q (j := 2) (fun _ hw => kd_way hw)
  have w_person : τ 92 10 = 123581014175598 ↔ tkK t n p = 100 + 4 := TM_w h q (j := 4) (fun _ hw => kd_person hw)
  have w_dog : τ 92 10 = 6582119 ↔ tkK t n p = 100 + 7 := TM_w h q (j := 7) (fun _ hw => kd_dog hw)
  have w_errand : τ 92 10 = 111542219664996 ↔ tkK t n p = 100 + 8 := TM_w h q (j := 8) (fun _ hw => kd_errand hw)
  have w_hour : τ 92 10 = 1752135026 ↔ tkK t n p = 100 + 11 := TM_w h q (j := 11) (fun _ hw => kd_hour hw)
  have w_strokes : τ 92 10 = 32497657166128499 ↔ tkK t n p = 100 + 12 := TM_w h q (j := 12) (fun _ hw => kd_strokes hw)
  have w_rule : τ 92 10 = 1920298085 ↔ tkK t n p = 100 + 13 := TM_w h q (j := 13) (fun _ hw => kd_rule hw)
  rw [mo_readLine_eq, bnd, bnd, if_neg (fun w => w h3), hf, bndO_s, if_pos rfl]
  show (bndO (mo_isGood τ) fun r4 => if ¬ r4 = 0 then bndO (mo_goOn N τ) fun σ7 => ln1 N (τ 92 10) σ7 else some τ) = _
  rw [mo_isGood_eq, bndO_s, if_pos g, if_pos (by decide)]
  congr 1
  funext σ7
  rw [ln1_no (fun w => by have := w_place.mp w; omega), ln2_no (fun w => by have := w_way.mp w; omega), ln3_no (fun w => by have := w_person.mp w; omega), ln4_no (fun w => by have := w_dog.mp w; omega), ln5_no (fun w => by have := w_errand.mp w; omega), ln6_yes (w_hour.mpr (by omega))]
  congr 1
  funext r σ2
  congr 1
  simp only [bnd]
  rw [ln7_no (fun w => by have := w_strokes.mp w; omega), ln8_no (fun w => by have := w_rule.mp w; omega)]
theorem mo_line_strokes {N n p : Nat} {τ : ySt} {t : Nat → Int} (h : TM τ t n p) (g : τ 92 4 = 0) (k : tkK t n p = 112) (hf : mo_isFull τ = some 0) : mo_readLine N τ = bndO (mo_goOn N τ) fun σ7 => bndR (mo_numeral N 1 8 σ7) fun r σ2 => chkA 2 (σ7 92 41) <| bnd (yset σ2 101 ((σ7 92 41)).toNat r) fun σ3 => ln9 N (τ 92 10) σ3 := by
  have q : 100 ≤ tkK t n p := by omega
  have h3 : τ 92 8 = 3 := (TM_tok h).2.2.2.2.1.mpr q
  have w_place : τ 92 10 = 482854658917 ↔ tkK t n p = 100 + 0 := TM_w h q (j := 0) (fun _ hw => kd_place hw)
  have w_way : τ 92 10 = 7823737 ↔ tkK t n p = 100 + 2 := TM_w h q (j := 2) (fun _ hw => kd_way hw)
  have w_person : τ 92 10 = 123581014175598 ↔ tkK t n p = 100 + 4 := TM_w h q (j := 4) (fun _ hw => kd_person hw)
  have w_dog : τ 92 10 = 6582119 ↔ tkK t n p = 100 + 7 := TM_w h q (j := 7) (fun _ hw => kd_dog hw)
  have w_errand : τ 92 10 = 111542219664996 ↔ tkK t n p = 100 + 8 := TM_w h q (j := 8) (fun _ hw => kd_errand hw)
  have w_hour : τ 92 10 = 1752135026 ↔ tkK t n p = 100 + 11 := TM_w h q (j := 11) (fun _ hw => kd_hour hw)
  have w_strokes : τ 92 10 = 32497657166128499 ↔ tkK t n p = 100 + 12 := TM_w h q (j := 12) (fun _ hw => kd_strokes hw)
  have w_rule : τ 92 10 = 1920298085 ↔ tkK t n p = 100 + 13 := TM_w h q (j := 13) (fun _ hw => kd_rule hw)
  rw [mo_readLine_eq, bnd, bnd, if_neg (fun w => w h3), hf, bndO_s, if_pos rfl]
  show (bndO (mo_isGood τ) fun r4 => if ¬ r4 = 0 then bndO (mo_goOn N τ) fun σ7 => ln1 N (τ 92 10) σ7 else some τ) = _
  rw [mo_isGood_eq, bndO_s, if_pos g, if_pos (by decide)]
  congr 1
  funext σ7
  rw [ln1_no (fun w => by have := w_place.mp w; omega), ln2_no (fun w => by have := w_way.mp w; omega), ln3_no (fun w => by have := w_person.mp w; omega), ln4_no (fun w => by have := w_dog.mp w; omega), ln5_no (fun w => by have := w_errand.mp w; omega), ln6_no (fun w => by have := w_hour.mp w; omega), ln7_yes (w_strokes.mpr (by omega))]
  congr 1
  funext r σ2
  congr 1
  simp only [bnd]
  rw [ln8_no (fun w => by have := w_rule.mp w; omega)]
theorem mo_line_rule {N n p : Nat} {τ : ySt} {t : Nat → Int} (h : TM τ t n p) (g : τ 92 4 = 0) (k : tkK t n p = 113) (hf : mo_isFull τ = some 0) : mo_readLine N τ = bndO (mo_goOn N τ) fun σ7 => bndO (mo_readRule N σ7) fun σ2 => ln9 N (τ 92 10) σ2 := by
  have q : 100 ≤ tkK t n p := by omega
  have h3 : τ 92 8 = 3 := (TM_tok h).2.2.2.2.1.mpr q
  have w_place : τ 92 10 = 482854658917 ↔ tkK t n p = 100 + 0 := TM_w h q (j := 0) (fun _ hw => kd_place hw)
  have w_way : τ 92 10 = 7823737 ↔ tkK t n p = 100 + 2 := TM_w h q (j := 2) (fun _ hw => kd_way hw)
  have w_person : τ 92 10 = 123581014175598 ↔ tkK t n p = 100 + 4 := TM_w h q (j := 4) (fun _ hw => kd_person hw)
  have w_dog : τ 92 10 = 6582119 ↔ tkK t n p = 100 + 7 := TM_w h q (j := 7) (fun _ hw => kd_dog hw)
  have w_errand : τ 92 10 = 111542219664996 ↔ tkK t n p = 100 + 8 := TM_w h q (j := 8) (fun _ hw => kd_errand hw)
  have w_hour : τ 92 10 = 1752135026 ↔ tkK t n p = 100 + 11 := TM_w h q (j := 11) (fun _ hw => kd_hour hw)
  have w_strokes : τ 92 10 = 32497657166128499 ↔ tkK t n p = 100 + 12 := TM_w h q (j := 12) (fun _ hw => kd_strokes hw)
  have w_rule : τ 92 10 = 1920298085 ↔ tkK t n p = 100 + 13 := TM_w h q (j := 13) (fun _ hw => kd_rule hw)
  rw [mo_readLine_eq, bnd, bnd, if_neg (fun w => w h3), hf, bndO_s, if_pos rfl]
  show (bndO (mo_isGood τ) fun r4 => if ¬ r4 = 0 then bndO (mo_goOn N τ) fun σ7 => ln1 N (τ 92 10) σ7 else some τ) = _
  rw [mo_isGood_eq, bndO_s, if_pos g, if_pos (by decide)]
  congr 1
  funext σ7
  rw [ln1_no (fun w => by have := w_place.mp w; omega), ln2_no (fun w => by have := w_way.mp w; omega), ln3_no (fun w => by have := w_person.mp w; omega), ln4_no (fun w => by have := w_dog.mp w; omega), ln5_no (fun w => by have := w_errand.mp w; omega), ln6_no (fun w => by have := w_hour.mp w; omega), ln7_no (fun w => by have := w_strokes.mp w; omega), ln8_yes (w_rule.mpr (by omega))]
theorem mo_line_bad {N n p : Nat} {τ : ySt} {t : Nat → Int} (h : TM τ t n p) (g : τ 92 4 = 0) (hf : τ 92 8 = 3 → mo_isFull τ = some 1) : mo_readLine N τ = some (yset (yset τ 92 4 (bdK t n p)) 92 5 (tkA t n p)) := by
  have hq : ¬ (yset (yset τ 92 4 (bdK t n p)) 92 5 (tkA t n p) 92 4 = 0) := by
    rw [yset_ne (by omega), yset_at]
    exact bdK_0 t n p
  have tl : bndO (mo_misplaced τ) (fun σ1 => bndO (mo_isGood σ1) fun r4 => if ¬ r4 = 0 then bndO (mo_goOn N σ1) fun σ7 => ln1 N (τ 92 10) σ7 else some σ1) = some (yset (yset τ 92 4 (bdK t n p)) 92 5 (tkA t n p)) := by
    rw [mo_misplaced_ok h g, bndO_s, mo_isGood_eq, bndO_s, if_neg hq, if_neg (by decide)]
  rw [mo_readLine_eq, bnd, bnd]
  by_cases c : τ 92 8 = 3
  · rw [if_neg (fun w => w c), hf c, bndO_s, if_neg (by decide)]
    exact tl
  · rw [if_pos c]
    exact tl
