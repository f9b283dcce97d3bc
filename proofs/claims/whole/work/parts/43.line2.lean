/-! a line of the town's text, on both sides -/
def fullV (k : Int) (τ : ySt) (b : Nat) : Int := if k = 100 then (if τ 95 b = 6 then 1 else 0) else if k = 102 then (if τ 96 b = 15 then 1 else 0) else if k = 104 then (if τ 97 b = 5 then 1 else 0) else if k = 107 then (if τ 98 b = 3 then 1 else 0) else if k = 108 then (if τ 99 b = 8 then 1 else 0) else if k = 111 then τ 103 b else if k = 112 then τ 104 b else if k = 113 then (if τ 105 b = 0 then 0 else 1) else 1
theorem chkA_pos {α : Type} {n : Nat} {z : Int} {k : Option α} (h : 0 ≤ z ∧ z < (n : Int)) : chkA n z k = k := by
  unfold chkA
  rw [if_pos h]
theorem chk_pos {α : Type} {c : Prop} [Decidable c] {k : Option α} (h : c) : chk c k = k := by
  unfold chk
  rw [if_pos h]
theorem full_if {c : Prop} [Decidable c] : (if ¬ c then some (0 : Int) else some 1) = some (if c then 1 else 0) := by
  by_cases h : c
  · rw [if_neg (fun q => q h), if_pos h]
  · rw [if_pos h, if_neg h]
theorem mo_isFull_ok {n p b : Nat} {τ : ySt} {t : Nat → Int} (h : TM τ t n p) (hb : b < 2) (h41 : τ 92 41 = b) (f1 : τ 103 b = 0 ∨ τ 103 b = 1) (f2 : τ 104 b = 0 ∨ τ 104 b = 1) : mo_isFull τ = some (fullV (tkK t n p) τ b) := by
  unfold mo_isFull fullV
  have hbb : (0 : Int) ≤ (b : Int) ∧ (b : Int) < ((2 : Nat) : Int) := by omega
  rw [isW_place h, bndO_s]
  by_cases k100 : tkK t n p = 100
  · rw [if_pos k100, if_neg (by decide), if_pos k100, h41, Int.toNat_natCast, chkA_pos hbb, full_if]
  rw [if_neg k100, if_pos rfl, if_neg k100]
  rw [isW_way h, bndO_s]
  by_cases k102 : tkK t n p = 102
  · rw [if_pos k102, if_neg (by decide), if_pos k102, h41, Int.toNat_natCast, chkA_pos hbb, full_if]
  rw [if_neg k102, if_pos rfl, if_neg k102]
  rw [isW_person h, bndO_s]
  by_cases k104 : tkK t n p = 104
  · rw [if_pos k104, if_neg (by decide), if_pos k104, h41, Int.toNat_natCast, chkA_pos hbb, full_if]
  rw [if_neg k104, if_pos rfl, if_neg k104]
  rw [isW_dog h, bndO_s]
  by_cases k107 : tkK t n p = 107
  · rw [if_pos k107, if_neg (by decide), if_pos k107, h41, Int.toNat_natCast, chkA_pos hbb, full_if]
  rw [if_neg k107, if_pos rfl, if_neg k107]
  rw [isW_errand h, bndO_s]
  by_cases k108 : tkK t n p = 108
  · rw [if_pos k108, if_neg (by decide), if_pos k108, h41, Int.toNat_natCast, chkA_pos hbb, full_if]
  rw [if_neg k108, if_pos rfl, if_neg k108]
  rw [isW_hour h, bndO_s]
  by_cases k111 : tkK t n p = 111
  · rw [if_pos k111, if_neg (by decide), if_pos k111, h41, Int.toNat_natCast, chkA_pos hbb, chk_pos f1]
  rw [if_neg k111, if_pos rfl, if_neg k111]
  rw [isW_strokes h, bndO_s]
  by_cases k112 : tkK t n p = 112
  · rw [if_pos k112, if_neg (by decide), if_pos k112, h41, Int.toNat_natCast, chkA_pos hbb, chk_pos f2]
  rw [if_neg k112, if_pos rfl, if_neg k112]
  rw [isW_rule h, bndO_s]
  by_cases k113 : tkK t n p = 113
  · rw [if_pos k113, if_neg (by decide), if_pos k113, h41, Int.toNat_natCast, chkA_pos hbb]
    by_cases c : τ 105 b = 0
    · rw [if_pos c, if_pos c]
    · rw [if_neg c, if_neg c]
  rw [if_neg k113, if_pos rfl, if_neg k113]
def fl (f : Int) (c : Prop) [Decidable c] : Int := if f = 1 then 1 else if c then 1 else 0
theorem fl_01 (f : Int) (c : Prop) [Decidable c] : fl f c = 0 ∨ fl f c = 1 := by
  unfold fl
  by_cases h : f = 1
  · rw [if_pos h]; exact Or.inr rfl
  · rw [if_neg h]
    by_cases g : c
    · rw [if_pos g]; exact Or.inr rfl
    · rw [if_neg g]; exact Or.inl rfl
theorem ln9_ok {N n q b : Nat} {w f1 f2 f3 : Int} {τ : ySt} {t : Nat → Int} (h : TM τ t n q) (hb : b < 2) (h41 : τ 92 41 = b) (e1 : τ 103 b = f1) (e2 : τ 104 b = f2) (e3 : τ 105 b = f3) (r1 : f1 = 0 ∨ f1 = 1) (r2 : f2 = 0 ∨ f2 = 1) (r3 : f3 = 0 ∨ f3 = 1) {P : ySt → Prop}
    (hP : Ok (mo_must N (if tkK t n q = 59 then 1 else 0) (yset (yset (yset τ 103 b (fl f1 (w = 1752135026))) 104 b (fl f2 (w = 32497657166128499))) 105 b (fl f3 (w = 1920298085)))) P) : Ok (ln9 N w τ) P := by
  unfold ln9
  rw [Ok_chkA, h41, Int.toNat_natCast, e1]
  refine ⟨by omega, ?_⟩
  refine Ok_jq1 (fun y => y = fl f1 (w = 1752135026)) (fun y25 hy => ?_) (fun x hx => ?_)
  · have y41 : ∀ z, yset τ 103 b z 92 41 = b := fun z => by rw [yset_ne (by omega)]; exact h41
    have y104 : ∀ z, yset τ 103 b z 104 b = f2 := fun z => by rw [yset_ne (by omega)]; exact e2
    rw [Ok_chk, Ok_chkA, Ok_bnd, y41, Int.toNat_natCast, y104, Ok_chkA]
    refine ⟨by rw [hy]; exact fl_01 _ _, by omega, by omega, ?_⟩
    refine Ok_jq1 (fun y => y = fl f2 (w = 32497657166128499)) (fun y32 hy2 => ?_) (fun x hx => ?_)
    · have z41 : ∀ u z, yset (yset τ 103 b u) 104 b z 92 41 = b := fun u z => by rw [yset_ne (by omega)]; exact y41 u
      have z105 : ∀ u z, yset (yset τ 103 b u) 104 b z 105 b = f3 := fun u z => by rw [yset_ne (by omega), yset_ne (by omega)]; exact e3
      rw [Ok_chk, Ok_chkA, Ok_bnd, z41, Int.toNat_natCast, z105, Ok_chkA]
      refine ⟨by rw [hy2]; exact fl_01 _ _, by omega, by omega, ?_⟩
      refine Ok_jq1 (fun y => y = fl f3 (w = 1920298085)) (fun y39 hy3 => ?_) (fun x hx => ?_)
      · have tm3 : TM (yset (yset (yset τ 103 b y25) 104 b y32) 105 b y39) t n q := TM_set (TM_set (TM_set h (by omega) (by decide)) (by omega) (by decide)) (by omega) (by decide)
        rw [Ok_chk, Ok_chkA, Ok_bnd, TM_is tm3 (by decide), bndO_s, Ok_bndO]
        refine ⟨by rw [hy3]; exact fl_01 _ _, by omega, ?_⟩
        rw [hy, hy2, hy3]
        refine hP.mono (fun a ha => ?_)
        rw [Ok_some]
        exact ha
      · rw [Ok_ite]
        refine ⟨fun q => hx _ (by unfold fl; rw [if_pos (by omega)]), fun q => ?_⟩
        rw [Ok_ite]
        exact ⟨fun q2 => hx _ (by unfold fl; rw [if_neg (by omega), if_neg (fun e => q2 (blcmp_0.mpr e))]), fun q2 => hx _ (by unfold fl; rw [if_neg (by omega), if_pos (blcmp_0.mp (Classical.not_not.mp q2))])⟩
    · rw [Ok_ite]
      refine ⟨fun q => hx _ (by unfold fl; rw [if_pos (by omega)]), fun q => ?_⟩
      rw [Ok_ite]
      exact ⟨fun q2 => hx _ (by unfold fl; rw [if_neg (by omega), if_neg (fun e => q2 (blcmp_0.mpr e))]), fun q2 => hx _ (by unfold fl; rw [if_neg (by omega), if_pos (blcmp_0.mp (Classical.not_not.mp q2))])⟩
  · rw [Ok_ite]
    refine ⟨fun q => hx _ (by unfold fl; rw [if_pos (by omega)]), fun q => ?_⟩
    rw [Ok_ite]
    exact ⟨fun q2 => hx _ (by unfold fl; rw [if_neg (by omega), if_neg (fun e => q2 (blcmp_0.mpr e))]), fun q2 => hx _ (by unfold fl; rw [if_neg (by omega), if_pos (blcmp_0.mp (Classical.not_not.mp q2))])⟩
/-- a line of the class and its semicolon -/
def cLn (N : Nat) (x : Option (Int × ySt)) : Option (Int × ySt) := bndR x fun r σ' => if r = 0 then some (0, σ') else bndR (cTp_pass N 59 σ') fun r2 σ2 => if r2 = 0 then some (0, σ2) else some (1, σ2)
def L3 (τ : ySt) (b : Nat) (a c d : Int) : ySt := yset (yset (yset τ 103 b a) 104 b c) 105 b d
theorem FrB_L3 {τ : ySt} {b : Nat} {a c d : Int} : FrB b (L3 τ b a c d) τ :=
  FrB_tr (FrB_tr (FrB_set (by decide) (by decide) (by rw [show st 103 = 1 from rfl]; omega) (by rw [show st 103 = 1 from rfl]; omega)) (FrB_set (by decide) (by decide) (by rw [show st 104 = 1 from rfl]; omega) (by rw [show st 104 = 1 from rfl]; omega))) (FrB_set (by decide) (by decide) (by rw [show st 105 = 1 from rfl]; omega) (by rw [show st 105 = 1 from rfl]; omega))
theorem L_fin {N n T b : Nat} {w f1 f2 f3 : Int} {x : Option (Int × ySt)} {y : Option ySt} {t : Nat → Int} {σ0 τ0 : ySt} (hN : 100000 ≤ N) (hb : b < 2) (r1 : f1 = 0 ∨ f1 = 1) (r2 : f2 = 0 ∨ f2 = 1) (r3 : f3 = 0 ∨ f3 = 1) (S : ySt → ySt → Prop)
    (hx : Ok x (fun r => Ok y (fun τ' => FrT T r.2 σ0 ∧ FrB b τ' τ0 ∧ (τ' 92 41 = b ∧ τ' 103 b = f1 ∧ τ' 104 b = f2 ∧ τ' 105 b = f3) ∧ ((r.1 = 1 ∧ ((∃ q, RT r.2 τ' t n q ∧ S r.2 τ') ∨ (∃ q, tkK t n q ≠ 59 ∧ TC r.2 t n q ∧ TM τ' t n q ∧ FM τ' (bdK t n q) (tkA t n q)))) ∨ (r.1 = 0 ∧ RB r.2 τ' t n))))) :
    Ok (cLn N x) (fun r => Ok (bndO y fun σ2 => ln9 N w σ2) (fun τ' => FrT T r.2 σ0 ∧ FrB b τ' τ0 ∧ ((r.1 = 1 ∧ ∃ q σ1 τ1, RT r.2 τ' t n q ∧ S σ1 τ1 ∧ eqC r.2 σ1 ∧ eqM τ' (L3 τ1 b (fl f1 (w = 1752135026)) (fl f2 (w = 32497657166128499)) (fl f3 (w = 1920298085)))) ∨ (r.1 = 0 ∧ RB r.2 τ' t n)))) := by
  unfold cLn
  refine L_RO _ hx ?_
  rintro r σ τ ⟨fT, fB, ⟨h41, e1, e2, e3⟩, h⟩
  dsimp only at fT h
  have quiet : ∀ {q : Nat} {Q : ySt → Prop}, TM τ t n q → τ 92 4 ≠ 0 → Q (L3 τ b (fl f1 (w = 1752135026)) (fl f2 (w = 32497657166128499)) (fl f3 (w = 1920298085))) → Ok (ln9 N w τ) Q := by
    intro q Q tm g hQ
    refine ln9_ok tm hb h41 e1 e2 e3 r1 r2 r3 ?_
    rw [mo_must_quiet (by rw [yset_ne (by omega), yset_ne (by omega), yset_ne (by omega)]; exact g)]
    exact Ok_some.mpr hQ
  rcases h with ⟨hr, ⟨q, rt, hS⟩ | ⟨q, k59, tc, tm, fm⟩⟩ | ⟨hr, rb⟩
  · rw [if_neg (by omega)]
    have rt3 : RT σ (L3 τ b (fl f1 (w = 1752135026)) (fl f2 (w = 32497657166128499)) (fl f3 (w = 1920298085))) t n q := RT_set (RT_set (RT_set rt (by omega) (by omega)) (by omega) (by omega)) (by omega) (by omega)
    rw [Ok_bndR]
    refine (L_pass hN rt3 59).mono ?_
    rintro ⟨r2', σ2⟩ hp
    dsimp only at hp ⊢
    have key : Ok (ln9 N w τ) (fun τ' => eqC σ2 σ ∧ eqM τ' (L3 τ b (fl f1 (w = 1752135026)) (fl f2 (w = 32497657166128499)) (fl f3 (w = 1920298085))) ∧ ((r2' = 1 ∧ RT σ2 τ' t n (tkE t n q)) ∨ (r2' = 0 ∧ RB σ2 τ' t n))) := ln9_ok rt.2.1 hb h41 e1 e2 e3 r1 r2 r3 hp
    obtain ⟨τ', k1, k2, k3, k4⟩ := key
    have fB' : FrB b τ' τ0 := FrB_tr (FrB_tr fB FrB_L3) (FrB_eqM k3)
    have fT' : FrT T σ2 σ0 := FrT_tr fT (FrT_eqC k2)
    rw [Ok_ite, Ok_some, Ok_some]
    rcases k4 with ⟨e, rt'⟩ | ⟨e, rb'⟩
    · exact ⟨fun c => by omega, fun _ => ⟨τ', k1, fT', fB', Or.inl ⟨rfl, _, σ, τ, rt', hS, k2, k3⟩⟩⟩
    · exact ⟨fun _ => ⟨τ', k1, fT', fB', Or.inr ⟨rfl, rb'⟩⟩, fun c => absurd e c⟩
  · rw [if_neg (by omega), Ok_bndR]
    refine (cTp_pass_ok hN tc 59).mono ?_
    rintro ⟨r2', σ2⟩ ⟨o1, d⟩
    dsimp only at o1 d ⊢
    have fT' : FrT T σ2 σ0 := FrT_tr fT (FrT_eqC (eqC_of o1))
    rw [Ok_ite, Ok_some, Ok_some]
    rcases d with ⟨k, _⟩ | ⟨k, e, f⟩
    · exact absurd k k59
    · refine ⟨fun _ => ?_, fun c => absurd e c⟩
      refine quiet tm (by rw [fm.1]; exact bdK_0 t n q) ⟨fT', FrB_tr fB FrB_L3, Or.inr ⟨rfl, ?_⟩⟩
      exact RB_set (RB_set (RB_set (RB_of tm f fm (bdK_0 t n q)) (by omega) (by omega)) (by omega) (by omega)) (by omega) (by omega)
  · rw [if_pos hr, Ok_some]
    obtain ⟨q, tm⟩ := rb.1
    refine quiet tm rb.2.2.2 ⟨fT, FrB_tr fB FrB_L3, Or.inr ⟨rfl, ?_⟩⟩
    exact RB_set (RB_set (RB_set rb (by omega) (by omega)) (by omega) (by omega)) (by omega) (by omega)
