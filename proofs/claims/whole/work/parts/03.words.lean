def GW : List Cond := lw_tbl.filter goodWord
theorem gw_in {w : Cond} (h : w ∈ GW) : w ∈ lw_tbl := (List.mem_filter.mp h).1
theorem gw_of {w : Cond} (h : w ∈ lw_tbl) (g : goodWord w = true) : w ∈ GW := List.mem_filter.mpr ⟨h, g⟩
theorem gw_good (y : MethodName) (cc : ByteArray) (nL : Nat) (ret : Option FieldType) (h : Cond.code y cc nL ret ∈ GW) (ws : List Cond) (hw : GW.length ≤ ws.length ∨ True) (hs : ∀ w ∈ GW, w ∈ ws) : GoodIn ws (Cond.code y cc nL ret :: GW) := by
  intro w hw1
  rcases List.mem_cons.mp hw1 with e | e
  · subst e
    exact ⟨hs _ h, good_of_word (List.mem_filter.mp h).2⟩
  · exact ⟨hs _ e, good_of_word (List.mem_filter.mp e).2⟩
theorem gw_t {w : Cond} (h : w ∈ tables_1) (g : goodWord w = true) : w ∈ GW := gw_of (List.mem_append_right _ h) g
theorem gw_1 {w : Cond} (i : Nat) (h : tables_1_1[i]? = some w) (g : goodWord w = true) : w ∈ GW := gw_t (List.mem_append_left _ (List.mem_of_getElem? h)) g
theorem gw_2 {w : Cond} (i : Nat) (h : tables_1_2[i]? = some w) (g : goodWord w = true) : w ∈ GW := gw_t (List.mem_append_right _ (List.mem_append_left _ (List.mem_of_getElem? h))) g
theorem gw_3 {w : Cond} (i : Nat) (h : tables_1_3[i]? = some w) (g : goodWord w = true) : w ∈ GW := gw_t (List.mem_append_right _ (List.mem_append_right _ (List.mem_append_left _ (List.mem_of_getElem? h)))) g
theorem gw_4 {w : Cond} (i : Nat) (h : tables_1_4[i]? = some w) (g : goodWord w = true) : w ∈ GW := gw_t (List.mem_append_right _ (List.mem_append_right _ (List.mem_append_right _ (List.mem_append_left _ (List.mem_of_getElem? h))))) g
theorem gw_5 {w : Cond} (i : Nat) (h : tables_1_5[i]? = some w) (g : goodWord w = true) : w ∈ GW := gw_t (List.mem_append_right _ (List.mem_append_right _ (List.mem_append_right _ (List.mem_append_right _ (List.mem_append_left _ (List.mem_of_getElem? h)))))) g
theorem gw_6 {w : Cond} (i : Nat) (h : tables_1_6[i]? = some w) (g : goodWord w = true) : w ∈ GW := gw_t (List.mem_append_right _ (List.mem_append_right _ (List.mem_append_right _ (List.mem_append_right _ (List.mem_append_right _ (List.mem_append_left _ (List.mem_of_getElem? h))))))) g
theorem gw_7 {w : Cond} (i : Nat) (h : tables_1_7[i]? = some w) (g : goodWord w = true) : w ∈ GW := gw_t (List.mem_append_right _ (List.mem_append_right _ (List.mem_append_right _ (List.mem_append_right _ (List.mem_append_right _ (List.mem_append_right _ (List.mem_append_left _ (List.mem_of_getElem? h)))))))) g
theorem gw_8 {w : Cond} (i : Nat) (h : tables_1_8[i]? = some w) (g : goodWord w = true) : w ∈ GW := gw_t (List.mem_append_right _ (List.mem_append_right _ (List.mem_append_right _ (List.mem_append_right _ (List.mem_append_right _ (List.mem_append_right _ (List.mem_append_right _ (List.mem_append_left _ (List.mem_of_getElem? h))))))))) g
theorem gw_9 {w : Cond} (i : Nat) (h : tables_1_9[i]? = some w) (g : goodWord w = true) : w ∈ GW := gw_t (List.mem_append_right _ (List.mem_append_right _ (List.mem_append_right _ (List.mem_append_right _ (List.mem_append_right _ (List.mem_append_right _ (List.mem_append_right _ (List.mem_append_right _ (List.mem_of_getElem? h))))))))) g
theorem gw_s1 {q : MethodName × Nat} (i : Nat) (h0 : lw_privs_1[i]? = some q) (g : goodWord (Cond.selects q.1.cls q.1 q.1) = true) : Cond.selects q.1.cls q.1 q.1 ∈ GW := by
  have h := List.mem_of_getElem? h0
  exact gw_of (List.mem_append_left _ (List.mem_map.mpr ⟨q, List.mem_append_left _ h, rfl⟩)) g
theorem gw_s2 {q : MethodName × Nat} (i : Nat) (h0 : lw_privs_2[i]? = some q) (g : goodWord (Cond.selects q.1.cls q.1 q.1) = true) : Cond.selects q.1.cls q.1 q.1 ∈ GW := by
  have h := List.mem_of_getElem? h0
  exact gw_of (List.mem_append_left _ (List.mem_map.mpr ⟨q, List.mem_append_right _ (List.mem_append_left _ h), rfl⟩)) g
theorem gw_s3 {q : MethodName × Nat} (i : Nat) (h0 : lw_privs_3[i]? = some q) (g : goodWord (Cond.selects q.1.cls q.1 q.1) = true) : Cond.selects q.1.cls q.1 q.1 ∈ GW := by
  have h := List.mem_of_getElem? h0
  exact gw_of (List.mem_append_left _ (List.mem_map.mpr ⟨q, List.mem_append_right _ (List.mem_append_right _ (List.mem_append_left _ h)), rfl⟩)) g
theorem gw_s4 {q : MethodName × Nat} (i : Nat) (h0 : lw_privs_4[i]? = some q) (g : goodWord (Cond.selects q.1.cls q.1 q.1) = true) : Cond.selects q.1.cls q.1 q.1 ∈ GW := by
  have h := List.mem_of_getElem? h0
  exact gw_of (List.mem_append_left _ (List.mem_map.mpr ⟨q, List.mem_append_right _ (List.mem_append_right _ (List.mem_append_right _ (List.mem_append_left _ h))), rfl⟩)) g
theorem gw_s5 {q : MethodName × Nat} (i : Nat) (h0 : lw_privs_5[i]? = some q) (g : goodWord (Cond.selects q.1.cls q.1 q.1) = true) : Cond.selects q.1.cls q.1 q.1 ∈ GW := by
  have h := List.mem_of_getElem? h0
  exact gw_of (List.mem_append_left _ (List.mem_map.mpr ⟨q, List.mem_append_right _ (List.mem_append_right _ (List.mem_append_right _ (List.mem_append_right _ (List.mem_append_left _ h)))), rfl⟩)) g
theorem gw_s6 {q : MethodName × Nat} (i : Nat) (h0 : lw_privs_6[i]? = some q) (g : goodWord (Cond.selects q.1.cls q.1 q.1) = true) : Cond.selects q.1.cls q.1 q.1 ∈ GW := by
  have h := List.mem_of_getElem? h0
  exact gw_of (List.mem_append_left _ (List.mem_map.mpr ⟨q, List.mem_append_right _ (List.mem_append_right _ (List.mem_append_right _ (List.mem_append_right _ (List.mem_append_right _ (List.mem_append_left _ h))))), rfl⟩)) g
theorem gw_s7 {q : MethodName × Nat} (i : Nat) (h0 : lw_privs_7[i]? = some q) (g : goodWord (Cond.selects q.1.cls q.1 q.1) = true) : Cond.selects q.1.cls q.1 q.1 ∈ GW := by
  have h := List.mem_of_getElem? h0
  exact gw_of (List.mem_append_left _ (List.mem_map.mpr ⟨q, List.mem_append_right _ (List.mem_append_right _ (List.mem_append_right _ (List.mem_append_right _ (List.mem_append_right _ (List.mem_append_right _ (List.mem_append_left _ h)))))), rfl⟩)) g
theorem gw_s8 {q : MethodName × Nat} (i : Nat) (h0 : lw_privs_8[i]? = some q) (g : goodWord (Cond.selects q.1.cls q.1 q.1) = true) : Cond.selects q.1.cls q.1 q.1 ∈ GW := by
  have h := List.mem_of_getElem? h0
  exact gw_of (List.mem_append_left _ (List.mem_map.mpr ⟨q, List.mem_append_right _ (List.mem_append_right _ (List.mem_append_right _ (List.mem_append_right _ (List.mem_append_right _ (List.mem_append_right _ (List.mem_append_right _ (h))))))), rfl⟩)) g
theorem q1_0 : (Jvm.Cond.initialized "EvenTownLaw") ∈ GW := gw_1 0 rfl rfl
theorem q1_1 : (Jvm.Cond.initialized "EvenTown") ∈ GW := gw_1 1 rfl rfl
theorem q1_2 : (Jvm.Cond.initialized "EvenTown$Tape") ∈ GW := gw_1 2 rfl rfl
theorem q1_3 : (Jvm.Cond.initialized "EvenTown$Counts") ∈ GW := gw_1 3 rfl rfl
theorem q1_4 : (Jvm.Cond.initialized "EvenTown$Earnest") ∈ GW := gw_1 4 rfl rfl
theorem q1_5 : (Jvm.Cond.initialized "EvenTown$Town") ∈ GW := gw_1 5 rfl rfl
theorem q1_6 : (Jvm.Cond.initialized "EvenTown$Names") ∈ GW := gw_1 6 rfl rfl
theorem q1_7 : (Jvm.Cond.initialized "EvenTown$Rule") ∈ GW := gw_1 7 rfl rfl
theorem q1_8 : (Jvm.Cond.initialized "java/util/Arrays") ∈ GW := gw_1 8 rfl rfl
theorem q1_9 : (Jvm.Cond.initialized "EvenTown$TownReader") ∈ GW := gw_1 9 rfl rfl
theorem q1_10 : (Jvm.Cond.initialized "EvenTown$Plan") ∈ GW := gw_1 10 rfl rfl
theorem q1_11 : (Jvm.Cond.initialized "java/lang/Math") ∈ GW := gw_1 11 rfl rfl
theorem q1_12 : (Jvm.Cond.initialized "EvenTown$Answers") ∈ GW := gw_1 12 rfl rfl
theorem q1_13 : (Jvm.Cond.initialized "EvenTown$Days") ∈ GW := gw_1 13 rfl rfl
theorem q1_14 : (Jvm.Cond.initialized "EvenTown$Day") ∈ GW := gw_1 14 rfl rfl
theorem q1_15 : (Jvm.Cond.initialized "EvenTownModel") ∈ GW := gw_1 15 rfl rfl
theorem q1_16 : (Jvm.Cond.initialized "java/lang/String") ∈ GW := gw_1 16 rfl rfl
theorem q1_17 : (Jvm.Cond.initialized "java/lang/StringLatin1") ∈ GW := gw_1 17 rfl rfl
theorem q1_18 : (Jvm.Cond.initialized "jdk/internal/util/Preconditions") ∈ GW := gw_1 18 rfl rfl
theorem q1_19 : (Jvm.Cond.initialized "java/lang/StringUTF16") ∈ GW := gw_1 19 rfl rfl
theorem q1_20 : (Jvm.Cond.initialized "java/lang/Character") ∈ GW := gw_1 20 rfl rfl
theorem q1_21 : (Jvm.Cond.initialized "java/lang/System") ∈ GW := gw_1 21 rfl rfl
theorem q1_22 : (Jvm.Cond.classLink "EvenTownLaw" (7 : Nat) "EvenTown") ∈ GW := gw_1 22 rfl rfl
theorem q1_23 : (Jvm.Cond.instantiable "EvenTown" (10 : Nat)) ∈ GW := gw_1 23 rfl rfl
theorem q1_24 : (Jvm.Cond.methodLink "EvenTownLaw" (9 : Nat) ({ cls := "EvenTown", name := "<init>", desc := "()V" } : Jvm.MethodName)) ∈ GW := gw_1 24 rfl rfl
theorem q1_25 : (Jvm.Cond.instanceMethod ({ cls := "EvenTown", name := "<init>", desc := "()V" } : Jvm.MethodName)) ∈ GW := gw_1 25 rfl rfl
theorem q1_26 : (Jvm.Cond.code ({ cls := "EvenTown", name := "<init>", desc := "()V" } : Jvm.MethodName) prog_1_method_1_code (2 : Nat) (Option.none : Option Jvm.ClassFile.FieldType)) ∈ GW := gw_1 26 rfl rfl
theorem q1_27 : (Jvm.Cond.methodLink "EvenTown" (3 : Nat) ({ cls := "java/lang/Object", name := "<init>", desc := "()V" } : Jvm.MethodName)) ∈ GW := gw_1 27 rfl rfl
theorem q1_28 : (Jvm.Cond.instanceMethod ({ cls := "java/lang/Object", name := "<init>", desc := "()V" } : Jvm.MethodName)) ∈ GW := gw_1 28 rfl rfl
theorem q1_29 : (Jvm.Cond.code ({ cls := "java/lang/Object", name := "<init>", desc := "()V" } : Jvm.MethodName) object_method_1_code (1 : Nat) (Option.none : Option Jvm.ClassFile.FieldType)) ∈ GW := gw_1 29 rfl rfl
theorem q1_30 : (Jvm.Cond.classLink "EvenTown" (9 : Nat) "EvenTown$Tape") ∈ GW := gw_1 30 rfl rfl
theorem q1_31 : (Jvm.Cond.instantiable "EvenTown$Tape" (9 : Nat)) ∈ GW := gw_1 31 rfl rfl
theorem q1_33 : (Jvm.Cond.instanceMethod ({ cls := "EvenTown$Tape", name := "<init>", desc := "()V" } : Jvm.MethodName)) ∈ GW := gw_1 33 rfl rfl
theorem q1_34 : (Jvm.Cond.code ({ cls := "EvenTown$Tape", name := "<init>", desc := "()V" } : Jvm.MethodName) prog_10_method_1_code (1 : Nat) (Option.none : Option Jvm.ClassFile.FieldType)) ∈ GW := gw_1 34 rfl rfl
theorem q1_35 : (Jvm.Cond.methodLink "EvenTown$Tape" (3 : Nat) ({ cls := "java/lang/Object", name := "<init>", desc := "()V" } : Jvm.MethodName)) ∈ GW := gw_1 35 rfl rfl
theorem q1_36 : (Jvm.Cond.fieldLink "EvenTown$Tape" (9 : Nat) "EvenTown$Tape" "bytes" "[B") ∈ GW := gw_1 36 rfl rfl
theorem q1_37 : (Jvm.Cond.fieldLink "EvenTown$Tape" (19 : Nat) "EvenTown$Tape" "length" "I") ∈ GW := gw_1 37 rfl rfl
theorem q1_38 : (Jvm.Cond.fieldLink "EvenTown" (83 : Nat) "EvenTown$Tape" "length" "I") ∈ GW := gw_1 38 rfl rfl
theorem q1_39 : (Jvm.Cond.fieldLink "EvenTown$Tape" (31 : Nat) "EvenTown$Tape" "at" "I") ∈ GW := gw_1 39 rfl rfl
theorem q1_40 : (Jvm.Cond.fieldLink "EvenTown$TownReader" (39 : Nat) "EvenTown$Tape" "kind" "I") ∈ GW := gw_1 40 rfl rfl
theorem q1_41 : (Jvm.Cond.fieldLink "EvenTown$Rule" (29 : Nat) "EvenTown$Tape" "kind" "I") ∈ GW := gw_1 41 rfl rfl
theorem q1_42 : (Jvm.Cond.fieldLink "EvenTown$Plan" (43 : Nat) "EvenTown$Tape" "kind" "I") ∈ GW := gw_1 42 rfl rfl
theorem q1_43 : (Jvm.Cond.fieldLink "EvenTown$Tape" (34 : Nat) "EvenTown$Tape" "kind" "I") ∈ GW := gw_1 43 rfl rfl
theorem q1_44 : (Jvm.Cond.fieldLink "EvenTown$Plan" (46 : Nat) "EvenTown$Tape" "word" "J") ∈ GW := gw_1 44 rfl rfl
theorem q1_45 : (Jvm.Cond.fieldLink "EvenTown$TownReader" (87 : Nat) "EvenTown$Tape" "word" "J") ∈ GW := gw_1 45 rfl rfl
theorem q1_46 : (Jvm.Cond.fieldLink "EvenTown$Tape" (44 : Nat) "EvenTown$Tape" "word" "J") ∈ GW := gw_1 46 rfl rfl
theorem q1_47 : (Jvm.Cond.fieldLink "EvenTown$Tape" (68 : Nat) "EvenTown$Tape" "number" "I") ∈ GW := gw_1 47 rfl rfl
theorem q1_48 : (Jvm.Cond.fieldLink "EvenTown$Rule" (66 : Nat) "EvenTown$Tape" "number" "I") ∈ GW := gw_1 48 rfl rfl
theorem q1_49 : (Jvm.Cond.fieldLink "EvenTown$Tape" (22 : Nat) "EvenTown$Tape" "faultKind" "I") ∈ GW := gw_1 49 rfl rfl
theorem q1_50 : (Jvm.Cond.fieldLink "EvenTown" (118 : Nat) "EvenTown$Tape" "faultKind" "I") ∈ GW := gw_1 50 rfl rfl
theorem q1_51 : (Jvm.Cond.fieldLink "EvenTown$Tape" (15 : Nat) "EvenTown$Tape" "faultPlace" "I") ∈ GW := gw_1 51 rfl rfl
theorem q1_52 : (Jvm.Cond.fieldLink "EvenTown" (121 : Nat) "EvenTown$Tape" "faultPlace" "I") ∈ GW := gw_1 52 rfl rfl
theorem q1_53 : (Jvm.Cond.fieldLink "EvenTown$Tape" (25 : Nat) "EvenTown$Tape" "next" "I") ∈ GW := gw_1 53 rfl rfl
theorem q1_54 : (Jvm.Cond.laysFinal "EvenTown$Tape" "EvenTown$Tape" "bytes" "[B") ∈ GW := gw_1 54 rfl rfl
theorem q1_56 : (Jvm.Cond.lays "EvenTown$Tape" "EvenTown$Tape" "length" "I") ∈ GW := gw_1 56 rfl rfl
theorem q1_58 : (Jvm.Cond.lays "EvenTown$Tape" "EvenTown$Tape" "at" "I") ∈ GW := gw_1 58 rfl rfl
theorem q1_60 : (Jvm.Cond.lays "EvenTown$Tape" "EvenTown$Tape" "kind" "I") ∈ GW := gw_1 60 rfl rfl
theorem q1_62 : (Jvm.Cond.lays "EvenTown$Tape" "EvenTown$Tape" "word" "J") ∈ GW := gw_1 62 rfl rfl
theorem q1_64 : (Jvm.Cond.lays "EvenTown$Tape" "EvenTown$Tape" "number" "I") ∈ GW := gw_1 64 rfl rfl
theorem q1_66 : (Jvm.Cond.lays "EvenTown$Tape" "EvenTown$Tape" "faultKind" "I") ∈ GW := gw_1 66 rfl rfl
theorem q1_68 : (Jvm.Cond.lays "EvenTown$Tape" "EvenTown$Tape" "faultPlace" "I") ∈ GW := gw_1 68 rfl rfl
theorem q1_70 : (Jvm.Cond.lays "EvenTown$Tape" "EvenTown$Tape" "next" "I") ∈ GW := gw_1 70 rfl rfl
theorem q1_73 : (Jvm.Cond.arrayClass Jvm.ClassFile.FieldType.byte) ∈ GW := gw_1 73 rfl rfl
theorem q1_74 : (Jvm.Cond.classLink "EvenTown" (16 : Nat) "EvenTown$Counts") ∈ GW := gw_1 74 rfl rfl
theorem q1_75 : (Jvm.Cond.instantiable "EvenTown$Counts" (7 : Nat)) ∈ GW := gw_1 75 rfl rfl
theorem q1_77 : (Jvm.Cond.instanceMethod ({ cls := "EvenTown$Counts", name := "<init>", desc := "()V" } : Jvm.MethodName)) ∈ GW := gw_1 77 rfl rfl
theorem q1_78 : (Jvm.Cond.code ({ cls := "EvenTown$Counts", name := "<init>", desc := "()V" } : Jvm.MethodName) prog_3_method_1_code (1 : Nat) (Option.none : Option Jvm.ClassFile.FieldType)) ∈ GW := gw_1 78 rfl rfl
theorem q1_79 : (Jvm.Cond.methodLink "EvenTown$Counts" (3 : Nat) ({ cls := "java/lang/Object", name := "<init>", desc := "()V" } : Jvm.MethodName)) ∈ GW := gw_1 79 rfl rfl
theorem q1_80 : (Jvm.Cond.fieldLink "EvenTown$Counts" (9 : Nat) "EvenTown$Counts" "stroke" "[I") ∈ GW := gw_1 80 rfl rfl
theorem q1_81 : (Jvm.Cond.fieldLink "EvenTown$Counts" (15 : Nat) "EvenTown$Counts" "place" "[I") ∈ GW := gw_1 81 rfl rfl
theorem q1_82 : (Jvm.Cond.fieldLink "EvenTown$Counts" (18 : Nat) "EvenTown$Counts" "many" "[I") ∈ GW := gw_1 82 rfl rfl
theorem q1_83 : (Jvm.Cond.fieldLink "EvenTown$Counts" (21 : Nat) "EvenTown$Counts" "told" "[I") ∈ GW := gw_1 83 rfl rfl
theorem q1_84 : (Jvm.Cond.fieldLink "EvenTown$Counts" (24 : Nat) "EvenTown$Counts" "untold" "[I") ∈ GW := gw_1 84 rfl rfl
theorem q1_85 : (Jvm.Cond.fieldLink "EvenTown$Counts" (27 : Nat) "EvenTown$Counts" "size" "I") ∈ GW := gw_1 85 rfl rfl
theorem q1_86 : (Jvm.Cond.fieldLink "EvenTown" (100 : Nat) "EvenTown$Counts" "size" "I") ∈ GW := gw_1 86 rfl rfl
theorem q1_87 : (Jvm.Cond.fieldLink "EvenTown$Counts" (31 : Nat) "EvenTown$Counts" "time" "I") ∈ GW := gw_1 87 rfl rfl
theorem q1_88 : (Jvm.Cond.fieldLink "EvenTown" (229 : Nat) "EvenTown$Counts" "time" "I") ∈ GW := gw_1 88 rfl rfl
theorem q1_89 : (Jvm.Cond.laysFinal "EvenTown$Counts" "EvenTown$Counts" "stroke" "[I") ∈ GW := gw_1 89 rfl rfl
theorem q1_91 : (Jvm.Cond.laysFinal "EvenTown$Counts" "EvenTown$Counts" "place" "[I") ∈ GW := gw_1 91 rfl rfl
theorem q1_93 : (Jvm.Cond.laysFinal "EvenTown$Counts" "EvenTown$Counts" "many" "[I") ∈ GW := gw_1 93 rfl rfl
theorem q1_95 : (Jvm.Cond.laysFinal "EvenTown$Counts" "EvenTown$Counts" "told" "[I") ∈ GW := gw_1 95 rfl rfl
theorem q1_97 : (Jvm.Cond.laysFinal "EvenTown$Counts" "EvenTown$Counts" "untold" "[I") ∈ GW := gw_1 97 rfl rfl
theorem q1_99 : (Jvm.Cond.lays "EvenTown$Counts" "EvenTown$Counts" "size" "I") ∈ GW := gw_1 99 rfl rfl
theorem q1_101 : (Jvm.Cond.lays "EvenTown$Counts" "EvenTown$Counts" "time" "I") ∈ GW := gw_1 101 rfl rfl
theorem q1_104 : (Jvm.Cond.arrayClass Jvm.ClassFile.FieldType.int) ∈ GW := gw_1 104 rfl rfl
theorem q1_105 : (Jvm.Cond.classLink "EvenTown" (23 : Nat) "EvenTown$Earnest") ∈ GW := gw_1 105 rfl rfl
theorem q1_106 : (Jvm.Cond.instantiable "EvenTown$Earnest" (5 : Nat)) ∈ GW := gw_1 106 rfl rfl
theorem q1_108 : (Jvm.Cond.instanceMethod ({ cls := "EvenTown$Earnest", name := "<init>", desc := "()V" } : Jvm.MethodName)) ∈ GW := gw_1 108 rfl rfl
theorem q1_109 : (Jvm.Cond.code ({ cls := "EvenTown$Earnest", name := "<init>", desc := "()V" } : Jvm.MethodName) prog_6_method_1_code (1 : Nat) (Option.none : Option Jvm.ClassFile.FieldType)) ∈ GW := gw_1 109 rfl rfl
theorem q1_110 : (Jvm.Cond.methodLink "EvenTown$Earnest" (3 : Nat) ({ cls := "java/lang/Object", name := "<init>", desc := "()V" } : Jvm.MethodName)) ∈ GW := gw_1 110 rfl rfl
theorem q1_111 : (Jvm.Cond.fieldLink "EvenTown$Earnest" (9 : Nat) "EvenTown$Earnest" "place" "[I") ∈ GW := gw_1 111 rfl rfl
theorem q1_112 : (Jvm.Cond.fieldLink "EvenTown" (208 : Nat) "EvenTown$Earnest" "place" "[I") ∈ GW := gw_1 112 rfl rfl
theorem q1_113 : (Jvm.Cond.fieldLink "EvenTown$Earnest" (15 : Nat) "EvenTown$Earnest" "sent" "[I") ∈ GW := gw_1 113 rfl rfl
theorem q1_114 : (Jvm.Cond.fieldLink "EvenTown" (214 : Nat) "EvenTown$Earnest" "sent" "[I") ∈ GW := gw_1 114 rfl rfl
theorem q1_115 : (Jvm.Cond.fieldLink "EvenTown$Earnest" (18 : Nat) "EvenTown$Earnest" "stroke" "I") ∈ GW := gw_1 115 rfl rfl
theorem q1_116 : (Jvm.Cond.fieldLink "EvenTown" (217 : Nat) "EvenTown$Earnest" "stroke" "I") ∈ GW := gw_1 116 rfl rfl
theorem q1_117 : (Jvm.Cond.fieldLink "EvenTown$Earnest" (22 : Nat) "EvenTown$Earnest" "odd" "I") ∈ GW := gw_1 117 rfl rfl
theorem q1_118 : (Jvm.Cond.fieldLink "EvenTown" (256 : Nat) "EvenTown$Earnest" "odd" "I") ∈ GW := gw_1 118 rfl rfl
theorem q1_119 : (Jvm.Cond.fieldLink "EvenTown" (103 : Nat) "EvenTown$Earnest" "kept" "Z") ∈ GW := gw_1 119 rfl rfl
theorem q1_120 : (Jvm.Cond.laysFinal "EvenTown$Earnest" "EvenTown$Earnest" "place" "[I") ∈ GW := gw_1 120 rfl rfl
theorem q1_122 : (Jvm.Cond.laysFinal "EvenTown$Earnest" "EvenTown$Earnest" "sent" "[I") ∈ GW := gw_1 122 rfl rfl
theorem q1_124 : (Jvm.Cond.lays "EvenTown$Earnest" "EvenTown$Earnest" "stroke" "I") ∈ GW := gw_1 124 rfl rfl
theorem q1_126 : (Jvm.Cond.lays "EvenTown$Earnest" "EvenTown$Earnest" "odd" "I") ∈ GW := gw_1 126 rfl rfl
theorem q1_128 : (Jvm.Cond.lays "EvenTown$Earnest" "EvenTown$Earnest" "kept" "Z") ∈ GW := gw_1 128 rfl rfl
theorem q1_132 : (Jvm.Cond.classLink "EvenTown" (34 : Nat) "EvenTown$Town") ∈ GW := gw_1 132 rfl rfl
theorem q1_133 : (Jvm.Cond.instantiable "EvenTown$Town" (18 : Nat)) ∈ GW := gw_1 133 rfl rfl
theorem q1_134 : (Jvm.Cond.methodLink "EvenTown" (36 : Nat) ({ cls := "EvenTown$Town", name := "<init>", desc := "()V" } : Jvm.MethodName)) ∈ GW := gw_1 134 rfl rfl
theorem q1_135 : (Jvm.Cond.instanceMethod ({ cls := "EvenTown$Town", name := "<init>", desc := "()V" } : Jvm.MethodName)) ∈ GW := gw_1 135 rfl rfl
theorem q1_136 : (Jvm.Cond.code ({ cls := "EvenTown$Town", name := "<init>", desc := "()V" } : Jvm.MethodName) prog_11_method_1_code (1 : Nat) (Option.none : Option Jvm.ClassFile.FieldType)) ∈ GW := gw_1 136 rfl rfl
theorem q1_137 : (Jvm.Cond.methodLink "EvenTown$Town" (3 : Nat) ({ cls := "java/lang/Object", name := "<init>", desc := "()V" } : Jvm.MethodName)) ∈ GW := gw_1 137 rfl rfl
theorem q1_138 : (Jvm.Cond.classLink "EvenTown$Town" (9 : Nat) "EvenTown$Names") ∈ GW := gw_1 138 rfl rfl
theorem q1_139 : (Jvm.Cond.instantiable "EvenTown$Names" (2 : Nat)) ∈ GW := gw_1 139 rfl rfl
theorem q1_140 : (Jvm.Cond.methodLink "EvenTown$Town" (11 : Nat) ({ cls := "EvenTown$Names", name := "<init>", desc := "(I)V" } : Jvm.MethodName)) ∈ GW := gw_1 140 rfl rfl
theorem q1_141 : (Jvm.Cond.instanceMethod ({ cls := "EvenTown$Names", name := "<init>", desc := "(I)V" } : Jvm.MethodName)) ∈ GW := gw_1 141 rfl rfl
theorem q1_142 : (Jvm.Cond.code ({ cls := "EvenTown$Names", name := "<init>", desc := "(I)V" } : Jvm.MethodName) prog_7_method_1_code (2 : Nat) (Option.none : Option Jvm.ClassFile.FieldType)) ∈ GW := gw_1 142 rfl rfl
theorem q1_143 : (Jvm.Cond.methodLink "EvenTown$Names" (3 : Nat) ({ cls := "java/lang/Object", name := "<init>", desc := "()V" } : Jvm.MethodName)) ∈ GW := gw_1 143 rfl rfl
theorem q1_144 : (Jvm.Cond.fieldLink "EvenTown$Names" (9 : Nat) "EvenTown$Names" "words" "[J") ∈ GW := gw_1 144 rfl rfl
theorem q1_145 : (Jvm.Cond.fieldLink "EvenTown$Names" (15 : Nat) "EvenTown$Names" "size" "I") ∈ GW := gw_1 145 rfl rfl
theorem q1_146 : (Jvm.Cond.fieldLink "EvenTown$Town" (68 : Nat) "EvenTown$Names" "size" "I") ∈ GW := gw_1 146 rfl rfl
theorem q1_147 : (Jvm.Cond.fieldLink "EvenTown$Plan" (21 : Nat) "EvenTown$Names" "size" "I") ∈ GW := gw_1 147 rfl rfl
theorem q1_148 : (Jvm.Cond.fieldLink "EvenTown$Days" (71 : Nat) "EvenTown$Names" "size" "I") ∈ GW := gw_1 148 rfl rfl
theorem q1_149 : (Jvm.Cond.fieldLink "EvenTown$Day" (84 : Nat) "EvenTown$Names" "size" "I") ∈ GW := gw_1 149 rfl rfl
theorem q1_150 : (Jvm.Cond.fieldLink "EvenTown$Earnest" (40 : Nat) "EvenTown$Names" "size" "I") ∈ GW := gw_1 150 rfl rfl
theorem q1_151 : (Jvm.Cond.fieldLink "EvenTown" (111 : Nat) "EvenTown$Names" "size" "I") ∈ GW := gw_1 151 rfl rfl
theorem q1_152 : (Jvm.Cond.fieldLink "EvenTown$Answers" (107 : Nat) "EvenTown$Names" "size" "I") ∈ GW := gw_1 152 rfl rfl
theorem q1_153 : (Jvm.Cond.laysFinal "EvenTown$Names" "EvenTown$Names" "words" "[J") ∈ GW := gw_1 153 rfl rfl
theorem q1_155 : (Jvm.Cond.lays "EvenTown$Names" "EvenTown$Names" "size" "I") ∈ GW := gw_1 155 rfl rfl
theorem q1_158 : (Jvm.Cond.arrayClass Jvm.ClassFile.FieldType.long) ∈ GW := gw_1 158 rfl rfl
theorem q1_159 : (Jvm.Cond.classLink "EvenTown$Town" (58 : Nat) "EvenTown$Rule") ∈ GW := gw_1 159 rfl rfl
theorem q1_160 : (Jvm.Cond.instantiable "EvenTown$Rule" (4 : Nat)) ∈ GW := gw_1 160 rfl rfl
theorem q1_162 : (Jvm.Cond.instanceMethod ({ cls := "EvenTown$Rule", name := "<init>", desc := "()V" } : Jvm.MethodName)) ∈ GW := gw_1 162 rfl rfl
theorem q1_163 : (Jvm.Cond.code ({ cls := "EvenTown$Rule", name := "<init>", desc := "()V" } : Jvm.MethodName) prog_9_method_1_code (1 : Nat) (Option.none : Option Jvm.ClassFile.FieldType)) ∈ GW := gw_1 163 rfl rfl
theorem q1_164 : (Jvm.Cond.methodLink "EvenTown$Rule" (3 : Nat) ({ cls := "java/lang/Object", name := "<init>", desc := "()V" } : Jvm.MethodName)) ∈ GW := gw_1 164 rfl rfl
theorem q1_165 : (Jvm.Cond.fieldLink "EvenTown$Rule" (9 : Nat) "EvenTown$Rule" "code" "[I") ∈ GW := gw_1 165 rfl rfl
theorem q1_166 : (Jvm.Cond.fieldLink "EvenTown$Rule" (15 : Nat) "EvenTown$Rule" "stack" "[I") ∈ GW := gw_1 166 rfl rfl
theorem q1_167 : (Jvm.Cond.fieldLink "EvenTown$Rule" (18 : Nat) "EvenTown$Rule" "length" "I") ∈ GW := gw_1 167 rfl rfl
theorem q1_168 : (Jvm.Cond.fieldLink "EvenTown$Rule" (22 : Nat) "EvenTown$Rule" "units" "I") ∈ GW := gw_1 168 rfl rfl
theorem q1_169 : (Jvm.Cond.fieldLink "EvenTown" (263 : Nat) "EvenTown$Rule" "units" "I") ∈ GW := gw_1 169 rfl rfl
theorem q1_170 : (Jvm.Cond.laysFinal "EvenTown$Rule" "EvenTown$Rule" "code" "[I") ∈ GW := gw_1 170 rfl rfl
theorem q1_172 : (Jvm.Cond.laysFinal "EvenTown$Rule" "EvenTown$Rule" "stack" "[I") ∈ GW := gw_1 172 rfl rfl
theorem q1_174 : (Jvm.Cond.lays "EvenTown$Rule" "EvenTown$Rule" "length" "I") ∈ GW := gw_1 174 rfl rfl
theorem q1_176 : (Jvm.Cond.lays "EvenTown$Rule" "EvenTown$Rule" "units" "I") ∈ GW := gw_1 176 rfl rfl
theorem q1_179 : (Jvm.Cond.arrayClass Jvm.ClassFile.FieldType.boolean) ∈ GW := gw_1 179 rfl rfl
theorem q1_180 : (Jvm.Cond.methodLink "EvenTown$Town" (65 : Nat) ({ cls := "EvenTown$Town", name := "clear", desc := "()V" } : Jvm.MethodName)) ∈ GW := gw_1 180 rfl rfl
theorem q1_181 : (Jvm.Cond.instanceMethod ({ cls := "EvenTown$Town", name := "clear", desc := "()V" } : Jvm.MethodName)) ∈ GW := gw_1 181 rfl rfl
theorem q1_182 : (Jvm.Cond.selects "EvenTown$Town" ({ cls := "EvenTown$Town", name := "clear", desc := "()V" } : Jvm.MethodName) ({ cls := "EvenTown$Town", name := "clear", desc := "()V" } : Jvm.MethodName)) ∈ GW := gw_1 182 rfl rfl
theorem q1_183 : (Jvm.Cond.code ({ cls := "EvenTown$Town", name := "clear", desc := "()V" } : Jvm.MethodName) prog_11_method_2_code (2 : Nat) (Option.none : Option Jvm.ClassFile.FieldType)) ∈ GW := gw_1 183 rfl rfl
theorem q1_184 : (Jvm.Cond.methodLink "EvenTown$Town" (84 : Nat) ({ cls := "EvenTown$Rule", name := "clear", desc := "()V" } : Jvm.MethodName)) ∈ GW := gw_1 184 rfl rfl
theorem q1_185 : (Jvm.Cond.instanceMethod ({ cls := "EvenTown$Rule", name := "clear", desc := "()V" } : Jvm.MethodName)) ∈ GW := gw_1 185 rfl rfl
theorem q1_186 : (Jvm.Cond.selects "EvenTown$Rule" ({ cls := "EvenTown$Rule", name := "clear", desc := "()V" } : Jvm.MethodName) ({ cls := "EvenTown$Rule", name := "clear", desc := "()V" } : Jvm.MethodName)) ∈ GW := gw_1 186 rfl rfl
theorem q1_187 : (Jvm.Cond.code ({ cls := "EvenTown$Rule", name := "clear", desc := "()V" } : Jvm.MethodName) prog_9_method_2_code (1 : Nat) (Option.none : Option Jvm.ClassFile.FieldType)) ∈ GW := gw_1 187 rfl rfl
theorem q1_188 : (Jvm.Cond.constant "EvenTown$Town" (85 : Nat) (1000000 : Int32)) ∈ GW := gw_1 188 rfl rfl
theorem q1_189 : (Jvm.Cond.methodLink "EvenTown$Town" (86 : Nat) ({ cls := "java/util/Arrays", name := "fill", desc := "([II)V" } : Jvm.MethodName)) ∈ GW := gw_1 189 rfl rfl
theorem q1_190 : (Jvm.Cond.static ({ cls := "java/util/Arrays", name := "fill", desc := "([II)V" } : Jvm.MethodName)) ∈ GW := gw_1 190 rfl rfl
theorem q1_191 : (Jvm.Cond.code ({ cls := "java/util/Arrays", name := "fill", desc := "([II)V" } : Jvm.MethodName) prog_21_method_103_code (4 : Nat) (Option.none : Option Jvm.ClassFile.FieldType)) ∈ GW := gw_1 191 rfl rfl
theorem q1_192 : (Jvm.Cond.fieldLink "EvenTown$Town" (14 : Nat) "EvenTown$Town" "places" "LEvenTown$Names;") ∈ GW := gw_1 192 rfl rfl
theorem q1_193 : (Jvm.Cond.fieldLink "EvenTown$Days" (83 : Nat) "EvenTown$Town" "places" "LEvenTown$Names;") ∈ GW := gw_1 193 rfl rfl
theorem q1_194 : (Jvm.Cond.fieldLink "EvenTown$Earnest" (36 : Nat) "EvenTown$Town" "places" "LEvenTown$Names;") ∈ GW := gw_1 194 rfl rfl
theorem q1_195 : (Jvm.Cond.fieldLink "EvenTown$Day" (89 : Nat) "EvenTown$Town" "places" "LEvenTown$Names;") ∈ GW := gw_1 195 rfl rfl
theorem q1_196 : (Jvm.Cond.fieldLink "EvenTown$Plan" (76 : Nat) "EvenTown$Town" "places" "LEvenTown$Names;") ∈ GW := gw_1 196 rfl rfl
theorem q1_197 : (Jvm.Cond.fieldLink "EvenTown$TownReader" (97 : Nat) "EvenTown$Town" "places" "LEvenTown$Names;") ∈ GW := gw_1 197 rfl rfl
theorem q1_198 : (Jvm.Cond.fieldLink "EvenTown$Answers" (103 : Nat) "EvenTown$Town" "places" "LEvenTown$Names;") ∈ GW := gw_1 198 rfl rfl
theorem q1_199 : (Jvm.Cond.fieldLink "EvenTown" (244 : Nat) "EvenTown$Town" "places" "LEvenTown$Names;") ∈ GW := gw_1 199 rfl rfl
theorem q1_200 : (Jvm.Cond.fieldLink "EvenTown$Town" (20 : Nat) "EvenTown$Town" "persons" "LEvenTown$Names;") ∈ GW := gw_1 200 rfl rfl
theorem q1_201 : (Jvm.Cond.fieldLink "EvenTown$Plan" (15 : Nat) "EvenTown$Town" "persons" "LEvenTown$Names;") ∈ GW := gw_1 201 rfl rfl
theorem q1_202 : (Jvm.Cond.fieldLink "EvenTown$Days" (65 : Nat) "EvenTown$Town" "persons" "LEvenTown$Names;") ∈ GW := gw_1 202 rfl rfl
theorem q1_203 : (Jvm.Cond.fieldLink "EvenTown$Day" (80 : Nat) "EvenTown$Town" "persons" "LEvenTown$Names;") ∈ GW := gw_1 203 rfl rfl
theorem q1_204 : (Jvm.Cond.fieldLink "EvenTown" (107 : Nat) "EvenTown$Town" "persons" "LEvenTown$Names;") ∈ GW := gw_1 204 rfl rfl
theorem q1_205 : (Jvm.Cond.fieldLink "EvenTown$TownReader" (142 : Nat) "EvenTown$Town" "persons" "LEvenTown$Names;") ∈ GW := gw_1 205 rfl rfl
theorem q1_206 : (Jvm.Cond.fieldLink "EvenTown$Town" (23 : Nat) "EvenTown$Town" "dogs" "LEvenTown$Names;") ∈ GW := gw_1 206 rfl rfl
theorem q1_207 : (Jvm.Cond.fieldLink "EvenTown$TownReader" (145 : Nat) "EvenTown$Town" "dogs" "LEvenTown$Names;") ∈ GW := gw_1 207 rfl rfl
theorem q1_208 : (Jvm.Cond.fieldLink "EvenTown" (247 : Nat) "EvenTown$Town" "dogs" "LEvenTown$Names;") ∈ GW := gw_1 208 rfl rfl
theorem q1_209 : (Jvm.Cond.fieldLink "EvenTown$Town" (26 : Nat) "EvenTown$Town" "empty" "[Z") ∈ GW := gw_1 209 rfl rfl
theorem q1_210 : (Jvm.Cond.fieldLink "EvenTown$TownReader" (115 : Nat) "EvenTown$Town" "empty" "[Z") ∈ GW := gw_1 210 rfl rfl
theorem q1_211 : (Jvm.Cond.fieldLink "EvenTown$Town" (30 : Nat) "EvenTown$Town" "home" "[I") ∈ GW := gw_1 211 rfl rfl
theorem q1_212 : (Jvm.Cond.fieldLink "EvenTown$Earnest" (25 : Nat) "EvenTown$Town" "home" "[I") ∈ GW := gw_1 212 rfl rfl
theorem q1_213 : (Jvm.Cond.fieldLink "EvenTown$Plan" (27 : Nat) "EvenTown$Town" "home" "[I") ∈ GW := gw_1 213 rfl rfl
theorem q1_214 : (Jvm.Cond.fieldLink "EvenTown$Days" (76 : Nat) "EvenTown$Town" "home" "[I") ∈ GW := gw_1 214 rfl rfl
theorem q1_215 : (Jvm.Cond.fieldLink "EvenTown$Day" (106 : Nat) "EvenTown$Town" "home" "[I") ∈ GW := gw_1 215 rfl rfl
theorem q1_216 : (Jvm.Cond.fieldLink "EvenTown$TownReader" (148 : Nat) "EvenTown$Town" "home" "[I") ∈ GW := gw_1 216 rfl rfl
theorem q1_217 : (Jvm.Cond.fieldLink "EvenTown$Town" (34 : Nat) "EvenTown$Town" "hire" "[I") ∈ GW := gw_1 217 rfl rfl
theorem q1_218 : (Jvm.Cond.fieldLink "EvenTown$Day" (109 : Nat) "EvenTown$Town" "hire" "[I") ∈ GW := gw_1 218 rfl rfl
theorem q1_219 : (Jvm.Cond.fieldLink "EvenTown$TownReader" (151 : Nat) "EvenTown$Town" "hire" "[I") ∈ GW := gw_1 219 rfl rfl
theorem q1_220 : (Jvm.Cond.fieldLink "EvenTown$Town" (37 : Nat) "EvenTown$Town" "dogPlace" "[I") ∈ GW := gw_1 220 rfl rfl
theorem q1_221 : (Jvm.Cond.fieldLink "EvenTown$TownReader" (154 : Nat) "EvenTown$Town" "dogPlace" "[I") ∈ GW := gw_1 221 rfl rfl
theorem q1_222 : (Jvm.Cond.fieldLink "EvenTown$Town" (40 : Nat) "EvenTown$Town" "errandPerson" "[I") ∈ GW := gw_1 222 rfl rfl
theorem q1_223 : (Jvm.Cond.fieldLink "EvenTown$Day" (97 : Nat) "EvenTown$Town" "errandPerson" "[I") ∈ GW := gw_1 223 rfl rfl
theorem q1_224 : (Jvm.Cond.fieldLink "EvenTown$Plan" (123 : Nat) "EvenTown$Town" "errandPerson" "[I") ∈ GW := gw_1 224 rfl rfl
theorem q1_225 : (Jvm.Cond.fieldLink "EvenTown$TownReader" (160 : Nat) "EvenTown$Town" "errandPerson" "[I") ∈ GW := gw_1 225 rfl rfl
theorem q1_226 : (Jvm.Cond.fieldLink "EvenTown$Town" (43 : Nat) "EvenTown$Town" "errandPlace" "[I") ∈ GW := gw_1 226 rfl rfl
theorem q1_227 : (Jvm.Cond.fieldLink "EvenTown$Day" (100 : Nat) "EvenTown$Town" "errandPlace" "[I") ∈ GW := gw_1 227 rfl rfl
theorem q1_228 : (Jvm.Cond.fieldLink "EvenTown$Plan" (126 : Nat) "EvenTown$Town" "errandPlace" "[I") ∈ GW := gw_1 228 rfl rfl
theorem q1_229 : (Jvm.Cond.fieldLink "EvenTown$TownReader" (163 : Nat) "EvenTown$Town" "errandPlace" "[I") ∈ GW := gw_1 229 rfl rfl
theorem q1_230 : (Jvm.Cond.fieldLink "EvenTown$Town" (46 : Nat) "EvenTown$Town" "errandStroke" "[I") ∈ GW := gw_1 230 rfl rfl
theorem q1_231 : (Jvm.Cond.fieldLink "EvenTown$Day" (74 : Nat) "EvenTown$Town" "errandStroke" "[I") ∈ GW := gw_1 231 rfl rfl
theorem q1_232 : (Jvm.Cond.fieldLink "EvenTown$Plan" (120 : Nat) "EvenTown$Town" "errandStroke" "[I") ∈ GW := gw_1 232 rfl rfl
theorem q1_233 : (Jvm.Cond.fieldLink "EvenTown$TownReader" (166 : Nat) "EvenTown$Town" "errandStroke" "[I") ∈ GW := gw_1 233 rfl rfl
theorem q1_234 : (Jvm.Cond.fieldLink "EvenTown$Town" (49 : Nat) "EvenTown$Town" "errandWorth" "[I") ∈ GW := gw_1 234 rfl rfl
theorem q1_235 : (Jvm.Cond.fieldLink "EvenTown$Day" (103 : Nat) "EvenTown$Town" "errandWorth" "[I") ∈ GW := gw_1 235 rfl rfl
theorem q1_236 : (Jvm.Cond.fieldLink "EvenTown$TownReader" (169 : Nat) "EvenTown$Town" "errandWorth" "[I") ∈ GW := gw_1 236 rfl rfl
theorem q1_237 : (Jvm.Cond.fieldLink "EvenTown$Town" (52 : Nat) "EvenTown$Town" "least" "[I") ∈ GW := gw_1 237 rfl rfl
theorem q1_238 : (Jvm.Cond.fieldLink "EvenTown$Day" (60 : Nat) "EvenTown$Town" "least" "[I") ∈ GW := gw_1 238 rfl rfl
theorem q1_239 : (Jvm.Cond.fieldLink "EvenTown$Earnest" (58 : Nat) "EvenTown$Town" "least" "[I") ∈ GW := gw_1 239 rfl rfl
theorem q2_0 : (Jvm.Cond.fieldLink "EvenTown" (127 : Nat) "EvenTown$Town" "least" "[I") ∈ GW := gw_2 0 rfl rfl
theorem q2_1 : (Jvm.Cond.fieldLink "EvenTown$TownReader" (137 : Nat) "EvenTown$Town" "least" "[I") ∈ GW := gw_2 1 rfl rfl
theorem q2_2 : (Jvm.Cond.fieldLink "EvenTown$Town" (55 : Nat) "EvenTown$Town" "rightBits" "[I") ∈ GW := gw_2 2 rfl rfl
theorem q2_3 : (Jvm.Cond.fieldLink "EvenTown$Day" (53 : Nat) "EvenTown$Town" "rightBits" "[I") ∈ GW := gw_2 3 rfl rfl
theorem q2_4 : (Jvm.Cond.fieldLink "EvenTown$Town" (61 : Nat) "EvenTown$Town" "rule" "LEvenTown$Rule;") ∈ GW := gw_2 4 rfl rfl
theorem q2_5 : (Jvm.Cond.fieldLink "EvenTown$TownReader" (178 : Nat) "EvenTown$Town" "rule" "LEvenTown$Rule;") ∈ GW := gw_2 5 rfl rfl
theorem q2_6 : (Jvm.Cond.fieldLink "EvenTown" (259 : Nat) "EvenTown$Town" "rule" "LEvenTown$Rule;") ∈ GW := gw_2 6 rfl rfl
theorem q2_7 : (Jvm.Cond.fieldLink "EvenTown$Town" (72 : Nat) "EvenTown$Town" "errands" "I") ∈ GW := gw_2 7 rfl rfl
theorem q2_8 : (Jvm.Cond.fieldLink "EvenTown$Day" (71 : Nat) "EvenTown$Town" "errands" "I") ∈ GW := gw_2 8 rfl rfl
theorem q2_9 : (Jvm.Cond.fieldLink "EvenTown$Plan" (117 : Nat) "EvenTown$Town" "errands" "I") ∈ GW := gw_2 9 rfl rfl
theorem q2_10 : (Jvm.Cond.fieldLink "EvenTown$TownReader" (157 : Nat) "EvenTown$Town" "errands" "I") ∈ GW := gw_2 10 rfl rfl
theorem q2_11 : (Jvm.Cond.fieldLink "EvenTown" (250 : Nat) "EvenTown$Town" "errands" "I") ∈ GW := gw_2 11 rfl rfl
theorem q2_12 : (Jvm.Cond.fieldLink "EvenTown$Town" (75 : Nat) "EvenTown$Town" "ways" "I") ∈ GW := gw_2 12 rfl rfl
theorem q2_13 : (Jvm.Cond.fieldLink "EvenTown$TownReader" (119 : Nat) "EvenTown$Town" "ways" "I") ∈ GW := gw_2 13 rfl rfl
theorem q2_14 : (Jvm.Cond.fieldLink "EvenTown" (253 : Nat) "EvenTown$Town" "ways" "I") ∈ GW := gw_2 14 rfl rfl
theorem q2_15 : (Jvm.Cond.fieldLink "EvenTown$Day" (41 : Nat) "EvenTown$Town" "hour" "I") ∈ GW := gw_2 15 rfl rfl
theorem q2_16 : (Jvm.Cond.fieldLink "EvenTown$Town" (78 : Nat) "EvenTown$Town" "hour" "I") ∈ GW := gw_2 16 rfl rfl
theorem q2_17 : (Jvm.Cond.fieldLink "EvenTown$TownReader" (172 : Nat) "EvenTown$Town" "hour" "I") ∈ GW := gw_2 17 rfl rfl
theorem q2_18 : (Jvm.Cond.fieldLink "EvenTown" (268 : Nat) "EvenTown$Town" "hour" "I") ∈ GW := gw_2 18 rfl rfl
theorem q2_19 : (Jvm.Cond.fieldLink "EvenTown$Day" (36 : Nat) "EvenTown$Town" "strokes" "I") ∈ GW := gw_2 19 rfl rfl
theorem q2_20 : (Jvm.Cond.fieldLink "EvenTown$Town" (81 : Nat) "EvenTown$Town" "strokes" "I") ∈ GW := gw_2 20 rfl rfl
theorem q2_21 : (Jvm.Cond.fieldLink "EvenTown$Plan" (73 : Nat) "EvenTown$Town" "strokes" "I") ∈ GW := gw_2 21 rfl rfl
theorem q2_22 : (Jvm.Cond.fieldLink "EvenTown$Answers" (90 : Nat) "EvenTown$Town" "strokes" "I") ∈ GW := gw_2 22 rfl rfl
theorem q2_23 : (Jvm.Cond.fieldLink "EvenTown" (164 : Nat) "EvenTown$Town" "strokes" "I") ∈ GW := gw_2 23 rfl rfl
theorem q2_24 : (Jvm.Cond.fieldLink "EvenTown$TownReader" (175 : Nat) "EvenTown$Town" "strokes" "I") ∈ GW := gw_2 24 rfl rfl
theorem q2_25 : (Jvm.Cond.laysFinal "EvenTown$Town" "EvenTown$Town" "places" "LEvenTown$Names;") ∈ GW := gw_2 25 rfl rfl
theorem q2_27 : (Jvm.Cond.laysFinal "EvenTown$Town" "EvenTown$Town" "persons" "LEvenTown$Names;") ∈ GW := gw_2 27 rfl rfl
theorem q2_29 : (Jvm.Cond.laysFinal "EvenTown$Town" "EvenTown$Town" "dogs" "LEvenTown$Names;") ∈ GW := gw_2 29 rfl rfl
theorem q2_31 : (Jvm.Cond.laysFinal "EvenTown$Town" "EvenTown$Town" "empty" "[Z") ∈ GW := gw_2 31 rfl rfl
theorem q2_33 : (Jvm.Cond.laysFinal "EvenTown$Town" "EvenTown$Town" "home" "[I") ∈ GW := gw_2 33 rfl rfl
theorem q2_35 : (Jvm.Cond.laysFinal "EvenTown$Town" "EvenTown$Town" "hire" "[I") ∈ GW := gw_2 35 rfl rfl
theorem q2_37 : (Jvm.Cond.laysFinal "EvenTown$Town" "EvenTown$Town" "dogPlace" "[I") ∈ GW := gw_2 37 rfl rfl
theorem q2_39 : (Jvm.Cond.laysFinal "EvenTown$Town" "EvenTown$Town" "errandPerson" "[I") ∈ GW := gw_2 39 rfl rfl
theorem q2_41 : (Jvm.Cond.laysFinal "EvenTown$Town" "EvenTown$Town" "errandPlace" "[I") ∈ GW := gw_2 41 rfl rfl
theorem q2_43 : (Jvm.Cond.laysFinal "EvenTown$Town" "EvenTown$Town" "errandStroke" "[I") ∈ GW := gw_2 43 rfl rfl
theorem q2_45 : (Jvm.Cond.laysFinal "EvenTown$Town" "EvenTown$Town" "errandWorth" "[I") ∈ GW := gw_2 45 rfl rfl
theorem q2_47 : (Jvm.Cond.laysFinal "EvenTown$Town" "EvenTown$Town" "least" "[I") ∈ GW := gw_2 47 rfl rfl
theorem q2_49 : (Jvm.Cond.laysFinal "EvenTown$Town" "EvenTown$Town" "rightBits" "[I") ∈ GW := gw_2 49 rfl rfl
theorem q2_51 : (Jvm.Cond.laysFinal "EvenTown$Town" "EvenTown$Town" "rule" "LEvenTown$Rule;") ∈ GW := gw_2 51 rfl rfl
theorem q2_53 : (Jvm.Cond.lays "EvenTown$Town" "EvenTown$Town" "errands" "I") ∈ GW := gw_2 53 rfl rfl
theorem q2_55 : (Jvm.Cond.lays "EvenTown$Town" "EvenTown$Town" "ways" "I") ∈ GW := gw_2 55 rfl rfl
theorem q2_57 : (Jvm.Cond.lays "EvenTown$Town" "EvenTown$Town" "hour" "I") ∈ GW := gw_2 57 rfl rfl
theorem q2_59 : (Jvm.Cond.lays "EvenTown$Town" "EvenTown$Town" "strokes" "I") ∈ GW := gw_2 59 rfl rfl
theorem q2_62 : (Jvm.Cond.classLink "EvenTown" (44 : Nat) "EvenTown$TownReader") ∈ GW := gw_2 62 rfl rfl
theorem q2_63 : (Jvm.Cond.instantiable "EvenTown$TownReader" (5 : Nat)) ∈ GW := gw_2 63 rfl rfl
theorem q2_64 : (Jvm.Cond.methodLink "EvenTown" (46 : Nat) ({ cls := "EvenTown$TownReader", name := "<init>", desc := "(LEvenTown$Tape;LEvenTown$Town;)V" } : Jvm.MethodName)) ∈ GW := gw_2 64 rfl rfl
theorem q2_65 : (Jvm.Cond.instanceMethod ({ cls := "EvenTown$TownReader", name := "<init>", desc := "(LEvenTown$Tape;LEvenTown$Town;)V" } : Jvm.MethodName)) ∈ GW := gw_2 65 rfl rfl
theorem q2_66 : (Jvm.Cond.code ({ cls := "EvenTown$TownReader", name := "<init>", desc := "(LEvenTown$Tape;LEvenTown$Town;)V" } : Jvm.MethodName) prog_12_method_1_code (3 : Nat) (Option.none : Option Jvm.ClassFile.FieldType)) ∈ GW := gw_2 66 rfl rfl
theorem q2_67 : (Jvm.Cond.methodLink "EvenTown$TownReader" (3 : Nat) ({ cls := "java/lang/Object", name := "<init>", desc := "()V" } : Jvm.MethodName)) ∈ GW := gw_2 67 rfl rfl
theorem q2_68 : (Jvm.Cond.fieldLink "EvenTown$TownReader" (9 : Nat) "EvenTown$TownReader" "tape" "LEvenTown$Tape;") ∈ GW := gw_2 68 rfl rfl
theorem q2_69 : (Jvm.Cond.fieldLink "EvenTown$TownReader" (15 : Nat) "EvenTown$TownReader" "town" "LEvenTown$Town;") ∈ GW := gw_2 69 rfl rfl
theorem q2_70 : (Jvm.Cond.fieldLink "EvenTown$TownReader" (24 : Nat) "EvenTown$TownReader" "hourTold" "Z") ∈ GW := gw_2 70 rfl rfl
theorem q2_71 : (Jvm.Cond.fieldLink "EvenTown$TownReader" (28 : Nat) "EvenTown$TownReader" "strokesTold" "Z") ∈ GW := gw_2 71 rfl rfl
theorem q2_72 : (Jvm.Cond.fieldLink "EvenTown$TownReader" (31 : Nat) "EvenTown$TownReader" "ruleTold" "Z") ∈ GW := gw_2 72 rfl rfl
theorem q2_73 : (Jvm.Cond.laysFinal "EvenTown$TownReader" "EvenTown$TownReader" "tape" "LEvenTown$Tape;") ∈ GW := gw_2 73 rfl rfl
theorem q2_75 : (Jvm.Cond.lays "EvenTown$TownReader" "EvenTown$TownReader" "town" "LEvenTown$Town;") ∈ GW := gw_2 75 rfl rfl
theorem q2_77 : (Jvm.Cond.lays "EvenTown$TownReader" "EvenTown$TownReader" "hourTold" "Z") ∈ GW := gw_2 77 rfl rfl
theorem q2_79 : (Jvm.Cond.lays "EvenTown$TownReader" "EvenTown$TownReader" "strokesTold" "Z") ∈ GW := gw_2 79 rfl rfl
theorem q2_81 : (Jvm.Cond.lays "EvenTown$TownReader" "EvenTown$TownReader" "ruleTold" "Z") ∈ GW := gw_2 81 rfl rfl
theorem q2_84 : (Jvm.Cond.classLink "EvenTown" (53 : Nat) "EvenTown$Plan") ∈ GW := gw_2 84 rfl rfl
theorem q2_85 : (Jvm.Cond.instantiable "EvenTown$Plan" (4 : Nat)) ∈ GW := gw_2 85 rfl rfl
theorem q2_87 : (Jvm.Cond.instanceMethod ({ cls := "EvenTown$Plan", name := "<init>", desc := "()V" } : Jvm.MethodName)) ∈ GW := gw_2 87 rfl rfl
theorem q2_88 : (Jvm.Cond.code ({ cls := "EvenTown$Plan", name := "<init>", desc := "()V" } : Jvm.MethodName) prog_8_method_1_code (1 : Nat) (Option.none : Option Jvm.ClassFile.FieldType)) ∈ GW := gw_2 88 rfl rfl
theorem q2_89 : (Jvm.Cond.methodLink "EvenTown$Plan" (3 : Nat) ({ cls := "java/lang/Object", name := "<init>", desc := "()V" } : Jvm.MethodName)) ∈ GW := gw_2 89 rfl rfl
theorem q2_90 : (Jvm.Cond.fieldLink "EvenTown$Plan" (9 : Nat) "EvenTown$Plan" "stands" "[I") ∈ GW := gw_2 90 rfl rfl
theorem q2_91 : (Jvm.Cond.fieldLink "EvenTown$Plan" (79 : Nat) "EvenTown$Plan" "judgedKind" "I") ∈ GW := gw_2 91 rfl rfl
theorem q2_92 : (Jvm.Cond.fieldLink "EvenTown" (143 : Nat) "EvenTown$Plan" "judgedKind" "I") ∈ GW := gw_2 92 rfl rfl
theorem q2_93 : (Jvm.Cond.fieldLink "EvenTown$Plan" (82 : Nat) "EvenTown$Plan" "judgedStroke" "I") ∈ GW := gw_2 93 rfl rfl
theorem q2_94 : (Jvm.Cond.fieldLink "EvenTown" (146 : Nat) "EvenTown$Plan" "judgedStroke" "I") ∈ GW := gw_2 94 rfl rfl
theorem q2_95 : (Jvm.Cond.fieldLink "EvenTown$Plan" (85 : Nat) "EvenTown$Plan" "judgedNumber" "I") ∈ GW := gw_2 95 rfl rfl
theorem q2_96 : (Jvm.Cond.fieldLink "EvenTown" (149 : Nat) "EvenTown$Plan" "judgedNumber" "I") ∈ GW := gw_2 96 rfl rfl
theorem q2_97 : (Jvm.Cond.laysFinal "EvenTown$Plan" "EvenTown$Plan" "stands" "[I") ∈ GW := gw_2 97 rfl rfl
theorem q2_99 : (Jvm.Cond.lays "EvenTown$Plan" "EvenTown$Plan" "judgedKind" "I") ∈ GW := gw_2 99 rfl rfl
theorem q2_101 : (Jvm.Cond.lays "EvenTown$Plan" "EvenTown$Plan" "judgedStroke" "I") ∈ GW := gw_2 101 rfl rfl
theorem q2_103 : (Jvm.Cond.lays "EvenTown$Plan" "EvenTown$Plan" "judgedNumber" "I") ∈ GW := gw_2 103 rfl rfl
theorem q2_106 : (Jvm.Cond.methodLink "EvenTown" (63 : Nat) ({ cls := "EvenTown$Town", name := "finish", desc := "()V" } : Jvm.MethodName)) ∈ GW := gw_2 106 rfl rfl
theorem q2_107 : (Jvm.Cond.instanceMethod ({ cls := "EvenTown$Town", name := "finish", desc := "()V" } : Jvm.MethodName)) ∈ GW := gw_2 107 rfl rfl
theorem q2_108 : (Jvm.Cond.selects "EvenTown$Town" ({ cls := "EvenTown$Town", name := "finish", desc := "()V" } : Jvm.MethodName) ({ cls := "EvenTown$Town", name := "finish", desc := "()V" } : Jvm.MethodName)) ∈ GW := gw_2 108 rfl rfl
theorem q2_109 : (Jvm.Cond.code ({ cls := "EvenTown$Town", name := "finish", desc := "()V" } : Jvm.MethodName) prog_11_method_4_code (3 : Nat) (Option.none : Option Jvm.ClassFile.FieldType)) ∈ GW := gw_2 109 rfl rfl
theorem q2_110 : (Jvm.Cond.methodLink "EvenTown$Town" (92 : Nat) ({ cls := "EvenTown$Town", name := "layLeast", desc := "()V" } : Jvm.MethodName)) ∈ GW := gw_2 110 rfl rfl
theorem q2_112 : (Jvm.Cond.instanceMethod ({ cls := "EvenTown$Town", name := "layLeast", desc := "()V" } : Jvm.MethodName)) ∈ GW := gw_2 112 rfl rfl
theorem q2_113 : (Jvm.Cond.code ({ cls := "EvenTown$Town", name := "layLeast", desc := "()V" } : Jvm.MethodName) prog_11_method_5_code (6 : Nat) (Option.none : Option Jvm.ClassFile.FieldType)) ∈ GW := gw_2 113 rfl rfl
theorem q2_114 : (Jvm.Cond.methodLink "EvenTown$Town" (99 : Nat) ({ cls := "java/lang/Math", name := "min", desc := "(II)I" } : Jvm.MethodName)) ∈ GW := gw_2 114 rfl rfl
theorem q2_115 : (Jvm.Cond.static ({ cls := "java/lang/Math", name := "min", desc := "(II)I" } : Jvm.MethodName)) ∈ GW := gw_2 115 rfl rfl
theorem q2_116 : (Jvm.Cond.code ({ cls := "java/lang/Math", name := "min", desc := "(II)I" } : Jvm.MethodName) prog_16_method_69_code (2 : Nat) (Option.some Jvm.ClassFile.FieldType.int)) ∈ GW := gw_2 116 rfl rfl
theorem q2_117 : (Jvm.Cond.methodLink "EvenTown$Town" (95 : Nat) ({ cls := "EvenTown$Town", name := "strokesRight", desc := "(II)I" } : Jvm.MethodName)) ∈ GW := gw_2 117 rfl rfl
theorem q2_119 : (Jvm.Cond.instanceMethod ({ cls := "EvenTown$Town", name := "strokesRight", desc := "(II)I" } : Jvm.MethodName)) ∈ GW := gw_2 119 rfl rfl
theorem q2_120 : (Jvm.Cond.code ({ cls := "EvenTown$Town", name := "strokesRight", desc := "(II)I" } : Jvm.MethodName) prog_11_method_6_code (5 : Nat) (Option.some Jvm.ClassFile.FieldType.int)) ∈ GW := gw_2 120 rfl rfl
theorem q2_121 : (Jvm.Cond.methodLink "EvenTown$Town" (104 : Nat) ({ cls := "EvenTown$Town", name := "dogsAt", desc := "(I)I" } : Jvm.MethodName)) ∈ GW := gw_2 121 rfl rfl
theorem q2_123 : (Jvm.Cond.instanceMethod ({ cls := "EvenTown$Town", name := "dogsAt", desc := "(I)I" } : Jvm.MethodName)) ∈ GW := gw_2 123 rfl rfl
theorem q2_124 : (Jvm.Cond.code ({ cls := "EvenTown$Town", name := "dogsAt", desc := "(I)I" } : Jvm.MethodName) prog_11_method_7_code (4 : Nat) (Option.some Jvm.ClassFile.FieldType.int)) ∈ GW := gw_2 124 rfl rfl
theorem q2_125 : (Jvm.Cond.methodLink "EvenTown$Town" (108 : Nat) ({ cls := "EvenTown$Rule", name := "holds", desc := "(IIII)Z" } : Jvm.MethodName)) ∈ GW := gw_2 125 rfl rfl
theorem q2_126 : (Jvm.Cond.instanceMethod ({ cls := "EvenTown$Rule", name := "holds", desc := "(IIII)Z" } : Jvm.MethodName)) ∈ GW := gw_2 126 rfl rfl
theorem q2_127 : (Jvm.Cond.selects "EvenTown$Rule" ({ cls := "EvenTown$Rule", name := "holds", desc := "(IIII)Z" } : Jvm.MethodName) ({ cls := "EvenTown$Rule", name := "holds", desc := "(IIII)Z" } : Jvm.MethodName)) ∈ GW := gw_2 127 rfl rfl
theorem q2_128 : (Jvm.Cond.code ({ cls := "EvenTown$Rule", name := "holds", desc := "(IIII)Z" } : Jvm.MethodName) prog_9_method_13_code (8 : Nat) (Option.some Jvm.ClassFile.FieldType.boolean)) ∈ GW := gw_2 128 rfl rfl
theorem q2_129 : (Jvm.Cond.methodLink "EvenTown$Rule" (75 : Nat) ({ cls := "EvenTown$Rule", name := "isName", desc := "(I)Z" } : Jvm.MethodName)) ∈ GW := gw_2 129 rfl rfl
theorem q2_130 : (Jvm.Cond.static ({ cls := "EvenTown$Rule", name := "isName", desc := "(I)Z" } : Jvm.MethodName)) ∈ GW := gw_2 130 rfl rfl
theorem q2_131 : (Jvm.Cond.code ({ cls := "EvenTown$Rule", name := "isName", desc := "(I)Z" } : Jvm.MethodName) prog_9_method_12_code (1 : Nat) (Option.some Jvm.ClassFile.FieldType.boolean)) ∈ GW := gw_2 131 rfl rfl
theorem q2_132 : (Jvm.Cond.methodLink "EvenTown$Rule" (78 : Nat) ({ cls := "EvenTown$Rule", name := "named", desc := "(IIIII)I" } : Jvm.MethodName)) ∈ GW := gw_2 132 rfl rfl
theorem q2_133 : (Jvm.Cond.static ({ cls := "EvenTown$Rule", name := "named", desc := "(IIIII)I" } : Jvm.MethodName)) ∈ GW := gw_2 133 rfl rfl
theorem q2_134 : (Jvm.Cond.code ({ cls := "EvenTown$Rule", name := "named", desc := "(IIIII)I" } : Jvm.MethodName) prog_9_method_14_code (5 : Nat) (Option.some Jvm.ClassFile.FieldType.int)) ∈ GW := gw_2 134 rfl rfl
theorem q2_135 : (Jvm.Cond.methodLink "EvenTown$Rule" (82 : Nat) ({ cls := "EvenTown$Rule", name := "joined", desc := "(III)I" } : Jvm.MethodName)) ∈ GW := gw_2 135 rfl rfl
theorem q2_136 : (Jvm.Cond.static ({ cls := "EvenTown$Rule", name := "joined", desc := "(III)I" } : Jvm.MethodName)) ∈ GW := gw_2 136 rfl rfl
theorem q2_137 : (Jvm.Cond.code ({ cls := "EvenTown$Rule", name := "joined", desc := "(III)I" } : Jvm.MethodName) prog_9_method_15_code (3 : Nat) (Option.some Jvm.ClassFile.FieldType.int)) ∈ GW := gw_2 137 rfl rfl
theorem q2_138 : (Jvm.Cond.classLink "EvenTown" (66 : Nat) "EvenTown$Answers") ∈ GW := gw_2 138 rfl rfl
theorem q2_139 : (Jvm.Cond.instantiable "EvenTown$Answers" (15 : Nat)) ∈ GW := gw_2 139 rfl rfl
theorem q2_140 : (Jvm.Cond.methodLink "EvenTown" (68 : Nat) ({ cls := "EvenTown$Answers", name := "<init>", desc := "(LEvenTown$Town;)V" } : Jvm.MethodName)) ∈ GW := gw_2 140 rfl rfl
theorem q2_141 : (Jvm.Cond.instanceMethod ({ cls := "EvenTown$Answers", name := "<init>", desc := "(LEvenTown$Town;)V" } : Jvm.MethodName)) ∈ GW := gw_2 141 rfl rfl
theorem q2_142 : (Jvm.Cond.code ({ cls := "EvenTown$Answers", name := "<init>", desc := "(LEvenTown$Town;)V" } : Jvm.MethodName) prog_2_method_1_code (2 : Nat) (Option.none : Option Jvm.ClassFile.FieldType)) ∈ GW := gw_2 142 rfl rfl
theorem q2_143 : (Jvm.Cond.methodLink "EvenTown$Answers" (3 : Nat) ({ cls := "java/lang/Object", name := "<init>", desc := "()V" } : Jvm.MethodName)) ∈ GW := gw_2 143 rfl rfl
theorem q2_144 : (Jvm.Cond.classLink "EvenTown$Answers" (9 : Nat) "EvenTown$Days") ∈ GW := gw_2 144 rfl rfl
theorem q2_145 : (Jvm.Cond.instantiable "EvenTown$Days" (5 : Nat)) ∈ GW := gw_2 145 rfl rfl
theorem q2_147 : (Jvm.Cond.instanceMethod ({ cls := "EvenTown$Days", name := "<init>", desc := "()V" } : Jvm.MethodName)) ∈ GW := gw_2 147 rfl rfl
theorem q2_148 : (Jvm.Cond.code ({ cls := "EvenTown$Days", name := "<init>", desc := "()V" } : Jvm.MethodName) prog_5_method_1_code (1 : Nat) (Option.none : Option Jvm.ClassFile.FieldType)) ∈ GW := gw_2 148 rfl rfl
theorem q2_149 : (Jvm.Cond.methodLink "EvenTown$Days" (3 : Nat) ({ cls := "java/lang/Object", name := "<init>", desc := "()V" } : Jvm.MethodName)) ∈ GW := gw_2 149 rfl rfl
theorem q2_150 : (Jvm.Cond.fieldLink "EvenTown$Days" (9 : Nat) "EvenTown$Days" "table" "[I") ∈ GW := gw_2 150 rfl rfl
theorem q2_151 : (Jvm.Cond.fieldLink "EvenTown$Days" (15 : Nat) "EvenTown$Days" "lawful" "[I") ∈ GW := gw_2 151 rfl rfl
theorem q2_152 : (Jvm.Cond.fieldLink "EvenTown$Days" (18 : Nat) "EvenTown$Days" "weight" "[I") ∈ GW := gw_2 152 rfl rfl
theorem q2_153 : (Jvm.Cond.fieldLink "EvenTown$Days" (21 : Nat) "EvenTown$Days" "line" "[I") ∈ GW := gw_2 153 rfl rfl
theorem q2_154 : (Jvm.Cond.fieldLink "EvenTown$Days" (24 : Nat) "EvenTown$Days" "from" "[I") ∈ GW := gw_2 154 rfl rfl
theorem q2_155 : (Jvm.Cond.laysFinal "EvenTown$Days" "EvenTown$Days" "table" "[I") ∈ GW := gw_2 155 rfl rfl
theorem q2_157 : (Jvm.Cond.laysFinal "EvenTown$Days" "EvenTown$Days" "lawful" "[I") ∈ GW := gw_2 157 rfl rfl
theorem q2_159 : (Jvm.Cond.laysFinal "EvenTown$Days" "EvenTown$Days" "weight" "[I") ∈ GW := gw_2 159 rfl rfl
theorem q2_161 : (Jvm.Cond.laysFinal "EvenTown$Days" "EvenTown$Days" "line" "[I") ∈ GW := gw_2 161 rfl rfl
theorem q2_163 : (Jvm.Cond.laysFinal "EvenTown$Days" "EvenTown$Days" "from" "[I") ∈ GW := gw_2 163 rfl rfl
theorem q2_166 : (Jvm.Cond.classLink "EvenTown$Answers" (26 : Nat) "[[I") ∈ GW := gw_2 166 rfl rfl
theorem q2_168 : (Jvm.Cond.classLink "EvenTown$Answers" (56 : Nat) "EvenTown$Day") ∈ GW := gw_2 168 rfl rfl
theorem q2_169 : (Jvm.Cond.instantiable "EvenTown$Day" (10 : Nat)) ∈ GW := gw_2 169 rfl rfl
theorem q2_170 : (Jvm.Cond.methodLink "EvenTown$Answers" (58 : Nat) ({ cls := "EvenTown$Day", name := "<init>", desc := "(LEvenTown$Town;)V" } : Jvm.MethodName)) ∈ GW := gw_2 170 rfl rfl
theorem q2_171 : (Jvm.Cond.instanceMethod ({ cls := "EvenTown$Day", name := "<init>", desc := "(LEvenTown$Town;)V" } : Jvm.MethodName)) ∈ GW := gw_2 171 rfl rfl
theorem q2_172 : (Jvm.Cond.code ({ cls := "EvenTown$Day", name := "<init>", desc := "(LEvenTown$Town;)V" } : Jvm.MethodName) prog_4_method_1_code (2 : Nat) (Option.none : Option Jvm.ClassFile.FieldType)) ∈ GW := gw_2 172 rfl rfl
theorem q2_173 : (Jvm.Cond.methodLink "EvenTown$Day" (3 : Nat) ({ cls := "java/lang/Object", name := "<init>", desc := "()V" } : Jvm.MethodName)) ∈ GW := gw_2 173 rfl rfl
theorem q2_174 : (Jvm.Cond.fieldLink "EvenTown$Day" (24 : Nat) "EvenTown$Day" "town" "LEvenTown$Town;") ∈ GW := gw_2 174 rfl rfl
theorem q2_175 : (Jvm.Cond.fieldLink "EvenTown$Days" (42 : Nat) "EvenTown$Day" "town" "LEvenTown$Town;") ∈ GW := gw_2 175 rfl rfl
theorem q2_176 : (Jvm.Cond.fieldLink "EvenTown$Plan" (137 : Nat) "EvenTown$Day" "town" "LEvenTown$Town;") ∈ GW := gw_2 176 rfl rfl
theorem q2_177 : (Jvm.Cond.fieldLink "EvenTown$Day" (44 : Nat) "EvenTown$Day" "strokes" "I") ∈ GW := gw_2 177 rfl rfl
theorem q2_178 : (Jvm.Cond.fieldLink "EvenTown$Days" (95 : Nat) "EvenTown$Day" "strokes" "I") ∈ GW := gw_2 178 rfl rfl
theorem q2_179 : (Jvm.Cond.fieldLink "EvenTown$Plan" (136 : Nat) "EvenTown$Day" "strokes" "I") ∈ GW := gw_2 179 rfl rfl
theorem q2_180 : (Jvm.Cond.fieldLink "EvenTown$Days" (27 : Nat) "EvenTown$Day" "possible" "Z") ∈ GW := gw_2 180 rfl rfl
theorem q2_181 : (Jvm.Cond.fieldLink "EvenTown$Day" (32 : Nat) "EvenTown$Day" "possible" "Z") ∈ GW := gw_2 181 rfl rfl
theorem q2_182 : (Jvm.Cond.fieldLink "EvenTown$Plan" (129 : Nat) "EvenTown$Day" "possible" "Z") ∈ GW := gw_2 182 rfl rfl
theorem q2_183 : (Jvm.Cond.fieldLink "EvenTown$Days" (50 : Nat) "EvenTown$Day" "states" "I") ∈ GW := gw_2 183 rfl rfl
theorem q2_184 : (Jvm.Cond.fieldLink "EvenTown$Day" (77 : Nat) "EvenTown$Day" "states" "I") ∈ GW := gw_2 184 rfl rfl
theorem q2_185 : (Jvm.Cond.fieldLink "EvenTown$Answers" (137 : Nat) "EvenTown$Day" "states" "I") ∈ GW := gw_2 185 rfl rfl
theorem q2_186 : (Jvm.Cond.fieldLink "EvenTown$Day" (9 : Nat) "EvenTown$Day" "stride" "[I") ∈ GW := gw_2 186 rfl rfl
theorem q2_187 : (Jvm.Cond.fieldLink "EvenTown$Days" (112 : Nat) "EvenTown$Day" "stride" "[I") ∈ GW := gw_2 187 rfl rfl
theorem q2_188 : (Jvm.Cond.fieldLink "EvenTown$Day" (15 : Nat) "EvenTown$Day" "walk" "[I") ∈ GW := gw_2 188 rfl rfl
theorem q2_189 : (Jvm.Cond.fieldLink "EvenTown$Days" (124 : Nat) "EvenTown$Day" "walk" "[I") ∈ GW := gw_2 189 rfl rfl
theorem q2_190 : (Jvm.Cond.fieldLink "EvenTown$Day" (18 : Nat) "EvenTown$Day" "gain" "[I") ∈ GW := gw_2 190 rfl rfl
theorem q2_191 : (Jvm.Cond.fieldLink "EvenTown$Day" (21 : Nat) "EvenTown$Day" "rightBits" "[I") ∈ GW := gw_2 191 rfl rfl
theorem q2_192 : (Jvm.Cond.fieldLink "EvenTown$Days" (86 : Nat) "EvenTown$Day" "rightBits" "[I") ∈ GW := gw_2 192 rfl rfl
theorem q2_193 : (Jvm.Cond.fieldLink "EvenTown$Answers" (120 : Nat) "EvenTown$Day" "rightBits" "[I") ∈ GW := gw_2 193 rfl rfl
theorem q2_194 : (Jvm.Cond.fieldLink "EvenTown$Day" (28 : Nat) "EvenTown$Day" "what" "I") ∈ GW := gw_2 194 rfl rfl
theorem q2_195 : (Jvm.Cond.fieldLink "EvenTown$Day" (45 : Nat) "EvenTown$Day" "hour" "I") ∈ GW := gw_2 195 rfl rfl
theorem q2_196 : (Jvm.Cond.lays "EvenTown$Day" "EvenTown$Day" "town" "LEvenTown$Town;") ∈ GW := gw_2 196 rfl rfl
theorem q2_198 : (Jvm.Cond.lays "EvenTown$Day" "EvenTown$Day" "strokes" "I") ∈ GW := gw_2 198 rfl rfl
theorem q2_200 : (Jvm.Cond.lays "EvenTown$Day" "EvenTown$Day" "possible" "Z") ∈ GW := gw_2 200 rfl rfl
theorem q2_202 : (Jvm.Cond.lays "EvenTown$Day" "EvenTown$Day" "states" "I") ∈ GW := gw_2 202 rfl rfl
theorem q2_204 : (Jvm.Cond.laysFinal "EvenTown$Day" "EvenTown$Day" "stride" "[I") ∈ GW := gw_2 204 rfl rfl
theorem q2_206 : (Jvm.Cond.laysFinal "EvenTown$Day" "EvenTown$Day" "walk" "[I") ∈ GW := gw_2 206 rfl rfl
theorem q2_208 : (Jvm.Cond.laysFinal "EvenTown$Day" "EvenTown$Day" "gain" "[I") ∈ GW := gw_2 208 rfl rfl
theorem q2_210 : (Jvm.Cond.laysFinal "EvenTown$Day" "EvenTown$Day" "rightBits" "[I") ∈ GW := gw_2 210 rfl rfl
theorem q2_212 : (Jvm.Cond.lays "EvenTown$Day" "EvenTown$Day" "what" "I") ∈ GW := gw_2 212 rfl rfl
theorem q2_214 : (Jvm.Cond.lays "EvenTown$Day" "EvenTown$Day" "hour" "I") ∈ GW := gw_2 214 rfl rfl
theorem q2_217 : (Jvm.Cond.fieldLink "EvenTown$Answers" (52 : Nat) "EvenTown$Answers" "town" "LEvenTown$Town;") ∈ GW := gw_2 217 rfl rfl
theorem q2_218 : (Jvm.Cond.fieldLink "EvenTown$Answers" (61 : Nat) "EvenTown$Answers" "day" "LEvenTown$Day;") ∈ GW := gw_2 218 rfl rfl
theorem q2_219 : (Jvm.Cond.fieldLink "EvenTown$Answers" (12 : Nat) "EvenTown$Answers" "days" "LEvenTown$Days;") ∈ GW := gw_2 219 rfl rfl
theorem q2_220 : (Jvm.Cond.fieldLink "EvenTown$Answers" (18 : Nat) "EvenTown$Answers" "bestKnown" "[Z") ∈ GW := gw_2 220 rfl rfl
theorem q2_221 : (Jvm.Cond.fieldLink "EvenTown$Answers" (22 : Nat) "EvenTown$Answers" "bestWorth" "[I") ∈ GW := gw_2 221 rfl rfl
theorem q2_222 : (Jvm.Cond.fieldLink "EvenTown$Answers" (28 : Nat) "EvenTown$Answers" "bestRow" "[[I") ∈ GW := gw_2 222 rfl rfl
theorem q2_223 : (Jvm.Cond.fieldLink "EvenTown$Answers" (31 : Nat) "EvenTown$Answers" "breakKnown" "[Z") ∈ GW := gw_2 223 rfl rfl
theorem q2_224 : (Jvm.Cond.fieldLink "EvenTown$Answers" (34 : Nat) "EvenTown$Answers" "breakWorth" "[I") ∈ GW := gw_2 224 rfl rfl
theorem q2_225 : (Jvm.Cond.fieldLink "EvenTown" (180 : Nat) "EvenTown$Answers" "breakWorth" "[I") ∈ GW := gw_2 225 rfl rfl
theorem q2_226 : (Jvm.Cond.fieldLink "EvenTown$Answers" (37 : Nat) "EvenTown$Answers" "breakStroke" "[I") ∈ GW := gw_2 226 rfl rfl
theorem q2_227 : (Jvm.Cond.fieldLink "EvenTown" (177 : Nat) "EvenTown$Answers" "breakStroke" "[I") ∈ GW := gw_2 227 rfl rfl
theorem q2_228 : (Jvm.Cond.fieldLink "EvenTown$Answers" (40 : Nat) "EvenTown$Answers" "builtMinutes" "[I") ∈ GW := gw_2 228 rfl rfl
theorem q2_229 : (Jvm.Cond.fieldLink "EvenTown$Answers" (43 : Nat) "EvenTown$Answers" "builtWorth" "[I") ∈ GW := gw_2 229 rfl rfl
theorem q2_230 : (Jvm.Cond.fieldLink "EvenTown" (197 : Nat) "EvenTown$Answers" "builtWorth" "[I") ∈ GW := gw_2 230 rfl rfl
theorem q2_231 : (Jvm.Cond.fieldLink "EvenTown$Answers" (46 : Nat) "EvenTown$Answers" "builtPair" "[I") ∈ GW := gw_2 231 rfl rfl
theorem q2_232 : (Jvm.Cond.fieldLink "EvenTown" (194 : Nat) "EvenTown$Answers" "builtPair" "[I") ∈ GW := gw_2 232 rfl rfl
theorem q2_233 : (Jvm.Cond.fieldLink "EvenTown$Answers" (49 : Nat) "EvenTown$Answers" "alive" "[I") ∈ GW := gw_2 233 rfl rfl
theorem q2_234 : (Jvm.Cond.fieldLink "EvenTown$Answers" (65 : Nat) "EvenTown$Answers" "aliveKnown" "Z") ∈ GW := gw_2 234 rfl rfl
theorem q2_235 : (Jvm.Cond.fieldLink "EvenTown$Answers" (116 : Nat) "EvenTown$Answers" "aliveCounts" "J") ∈ GW := gw_2 235 rfl rfl
theorem q2_236 : (Jvm.Cond.lays "EvenTown$Answers" "EvenTown$Answers" "town" "LEvenTown$Town;") ∈ GW := gw_2 236 rfl rfl
theorem q2_238 : (Jvm.Cond.laysFinal "EvenTown$Answers" "EvenTown$Answers" "day" "LEvenTown$Day;") ∈ GW := gw_2 238 rfl rfl
theorem q3_0 : (Jvm.Cond.laysFinal "EvenTown$Answers" "EvenTown$Answers" "days" "LEvenTown$Days;") ∈ GW := gw_3 0 rfl rfl
theorem q3_2 : (Jvm.Cond.laysFinal "EvenTown$Answers" "EvenTown$Answers" "bestKnown" "[Z") ∈ GW := gw_3 2 rfl rfl
theorem q3_4 : (Jvm.Cond.laysFinal "EvenTown$Answers" "EvenTown$Answers" "bestWorth" "[I") ∈ GW := gw_3 4 rfl rfl
theorem q3_6 : (Jvm.Cond.laysFinal "EvenTown$Answers" "EvenTown$Answers" "bestRow" "[[I") ∈ GW := gw_3 6 rfl rfl
theorem q3_8 : (Jvm.Cond.laysFinal "EvenTown$Answers" "EvenTown$Answers" "breakKnown" "[Z") ∈ GW := gw_3 8 rfl rfl
theorem q3_10 : (Jvm.Cond.laysFinal "EvenTown$Answers" "EvenTown$Answers" "breakWorth" "[I") ∈ GW := gw_3 10 rfl rfl
theorem q3_12 : (Jvm.Cond.laysFinal "EvenTown$Answers" "EvenTown$Answers" "breakStroke" "[I") ∈ GW := gw_3 12 rfl rfl
theorem q3_14 : (Jvm.Cond.laysFinal "EvenTown$Answers" "EvenTown$Answers" "builtMinutes" "[I") ∈ GW := gw_3 14 rfl rfl
theorem q3_16 : (Jvm.Cond.laysFinal "EvenTown$Answers" "EvenTown$Answers" "builtWorth" "[I") ∈ GW := gw_3 16 rfl rfl
theorem q3_18 : (Jvm.Cond.laysFinal "EvenTown$Answers" "EvenTown$Answers" "builtPair" "[I") ∈ GW := gw_3 18 rfl rfl
theorem q3_20 : (Jvm.Cond.laysFinal "EvenTown$Answers" "EvenTown$Answers" "alive" "[I") ∈ GW := gw_3 20 rfl rfl
theorem q3_22 : (Jvm.Cond.lays "EvenTown$Answers" "EvenTown$Answers" "aliveKnown" "Z") ∈ GW := gw_3 22 rfl rfl
theorem q3_24 : (Jvm.Cond.lays "EvenTown$Answers" "EvenTown$Answers" "aliveCounts" "J") ∈ GW := gw_3 24 rfl rfl
theorem q3_27 : (Jvm.Cond.fieldLink "EvenTown" (12 : Nat) "EvenTown" "tape" "LEvenTown$Tape;") ∈ GW := gw_3 27 rfl rfl
theorem q3_28 : (Jvm.Cond.fieldLink "EvenTown" (19 : Nat) "EvenTown" "counts" "LEvenTown$Counts;") ∈ GW := gw_3 28 rfl rfl
theorem q3_29 : (Jvm.Cond.fieldLink "EvenTown" (71 : Nat) "EvenTown" "answers" "LEvenTown$Answers;") ∈ GW := gw_3 29 rfl rfl
theorem q3_30 : (Jvm.Cond.fieldLink "EvenTown" (26 : Nat) "EvenTown" "earnest" "LEvenTown$Earnest;") ∈ GW := gw_3 30 rfl rfl
theorem q3_31 : (Jvm.Cond.fieldLink "EvenTown" (30 : Nat) "EvenTown" "boxes" "[LEvenTown$Earnest;") ∈ GW := gw_3 31 rfl rfl
theorem q3_32 : (Jvm.Cond.fieldLink "EvenTown" (37 : Nat) "EvenTown" "town" "LEvenTown$Town;") ∈ GW := gw_3 32 rfl rfl
theorem q3_33 : (Jvm.Cond.fieldLink "EvenTown" (41 : Nat) "EvenTown" "nextTown" "LEvenTown$Town;") ∈ GW := gw_3 33 rfl rfl
theorem q3_34 : (Jvm.Cond.fieldLink "EvenTown" (49 : Nat) "EvenTown" "reader" "LEvenTown$TownReader;") ∈ GW := gw_3 34 rfl rfl
theorem q3_35 : (Jvm.Cond.fieldLink "EvenTown" (56 : Nat) "EvenTown" "plan" "LEvenTown$Plan;") ∈ GW := gw_3 35 rfl rfl
theorem q3_36 : (Jvm.Cond.fieldLink "EvenTown" (60 : Nat) "EvenTown" "nextPlan" "LEvenTown$Plan;") ∈ GW := gw_3 36 rfl rfl
theorem q3_37 : (Jvm.Cond.laysFinal "EvenTown" "EvenTown" "tape" "LEvenTown$Tape;") ∈ GW := gw_3 37 rfl rfl
theorem q3_39 : (Jvm.Cond.laysFinal "EvenTown" "EvenTown" "counts" "LEvenTown$Counts;") ∈ GW := gw_3 39 rfl rfl
theorem q3_41 : (Jvm.Cond.laysFinal "EvenTown" "EvenTown" "answers" "LEvenTown$Answers;") ∈ GW := gw_3 41 rfl rfl
theorem q3_43 : (Jvm.Cond.laysFinal "EvenTown" "EvenTown" "earnest" "LEvenTown$Earnest;") ∈ GW := gw_3 43 rfl rfl
theorem q3_45 : (Jvm.Cond.laysFinal "EvenTown" "EvenTown" "boxes" "[LEvenTown$Earnest;") ∈ GW := gw_3 45 rfl rfl
theorem q3_47 : (Jvm.Cond.lays "EvenTown" "EvenTown" "town" "LEvenTown$Town;") ∈ GW := gw_3 47 rfl rfl
theorem q3_49 : (Jvm.Cond.lays "EvenTown" "EvenTown" "nextTown" "LEvenTown$Town;") ∈ GW := gw_3 49 rfl rfl
theorem q3_51 : (Jvm.Cond.laysFinal "EvenTown" "EvenTown" "reader" "LEvenTown$TownReader;") ∈ GW := gw_3 51 rfl rfl
theorem q3_53 : (Jvm.Cond.lays "EvenTown" "EvenTown" "plan" "LEvenTown$Plan;") ∈ GW := gw_3 53 rfl rfl
theorem q3_55 : (Jvm.Cond.lays "EvenTown" "EvenTown" "nextPlan" "LEvenTown$Plan;") ∈ GW := gw_3 55 rfl rfl
theorem q3_58 : (Jvm.Cond.methodLink "EvenTownLaw" (13 : Nat) ({ cls := "EvenTown", name := "feed", desc := "(IIIII)I" } : Jvm.MethodName)) ∈ GW := gw_3 58 rfl rfl
theorem q3_59 : (Jvm.Cond.instanceMethod ({ cls := "EvenTown", name := "feed", desc := "(IIIII)I" } : Jvm.MethodName)) ∈ GW := gw_3 59 rfl rfl
theorem q3_60 : (Jvm.Cond.selects "EvenTown" ({ cls := "EvenTown", name := "feed", desc := "(IIIII)I" } : Jvm.MethodName) ({ cls := "EvenTown", name := "feed", desc := "(IIIII)I" } : Jvm.MethodName)) ∈ GW := gw_3 60 rfl rfl
theorem q3_61 : (Jvm.Cond.code ({ cls := "EvenTown", name := "feed", desc := "(IIIII)I" } : Jvm.MethodName) prog_1_method_2_code (6 : Nat) (Option.some Jvm.ClassFile.FieldType.int)) ∈ GW := gw_3 61 rfl rfl
theorem q3_62 : (Jvm.Cond.methodLink "EvenTown" (75 : Nat) ({ cls := "EvenTown$Tape", name := "hasRoom", desc := "(I)Z" } : Jvm.MethodName)) ∈ GW := gw_3 62 rfl rfl
theorem q3_63 : (Jvm.Cond.instanceMethod ({ cls := "EvenTown$Tape", name := "hasRoom", desc := "(I)Z" } : Jvm.MethodName)) ∈ GW := gw_3 63 rfl rfl
theorem q3_64 : (Jvm.Cond.selects "EvenTown$Tape" ({ cls := "EvenTown$Tape", name := "hasRoom", desc := "(I)Z" } : Jvm.MethodName) ({ cls := "EvenTown$Tape", name := "hasRoom", desc := "(I)Z" } : Jvm.MethodName)) ∈ GW := gw_3 64 rfl rfl
theorem q3_65 : (Jvm.Cond.code ({ cls := "EvenTown$Tape", name := "hasRoom", desc := "(I)Z" } : Jvm.MethodName) prog_10_method_2_code (2 : Nat) (Option.some Jvm.ClassFile.FieldType.boolean)) ∈ GW := gw_3 65 rfl rfl
theorem q3_66 : (Jvm.Cond.methodLink "EvenTown" (79 : Nat) ({ cls := "EvenTown$Tape", name := "putFour", desc := "(I)V" } : Jvm.MethodName)) ∈ GW := gw_3 66 rfl rfl
theorem q3_67 : (Jvm.Cond.instanceMethod ({ cls := "EvenTown$Tape", name := "putFour", desc := "(I)V" } : Jvm.MethodName)) ∈ GW := gw_3 67 rfl rfl
theorem q3_68 : (Jvm.Cond.selects "EvenTown$Tape" ({ cls := "EvenTown$Tape", name := "putFour", desc := "(I)V" } : Jvm.MethodName) ({ cls := "EvenTown$Tape", name := "putFour", desc := "(I)V" } : Jvm.MethodName)) ∈ GW := gw_3 68 rfl rfl
theorem q3_69 : (Jvm.Cond.code ({ cls := "EvenTown$Tape", name := "putFour", desc := "(I)V" } : Jvm.MethodName) prog_10_method_3_code (3 : Nat) (Option.none : Option Jvm.ClassFile.FieldType)) ∈ GW := gw_3 69 rfl rfl
theorem q3_70 : (Jvm.Cond.methodLink "EvenTownLaw" (18 : Nat) ({ cls := "EvenTown", name := "end", desc := "(I)I" } : Jvm.MethodName)) ∈ GW := gw_3 70 rfl rfl
theorem q3_71 : (Jvm.Cond.instanceMethod ({ cls := "EvenTown", name := "end", desc := "(I)I" } : Jvm.MethodName)) ∈ GW := gw_3 71 rfl rfl
theorem q3_72 : (Jvm.Cond.selects "EvenTown" ({ cls := "EvenTown", name := "end", desc := "(I)I" } : Jvm.MethodName) ({ cls := "EvenTown", name := "end", desc := "(I)I" } : Jvm.MethodName)) ∈ GW := gw_3 72 rfl rfl
theorem q3_73 : (Jvm.Cond.code ({ cls := "EvenTown", name := "end", desc := "(I)I" } : Jvm.MethodName) prog_1_method_3_code (2 : Nat) (Option.some Jvm.ClassFile.FieldType.int)) ∈ GW := gw_3 73 rfl rfl
theorem q3_74 : (Jvm.Cond.methodLink "EvenTownLaw" (23 : Nat) ({ cls := "EvenTown", name := "town", desc := "()I" } : Jvm.MethodName)) ∈ GW := gw_3 74 rfl rfl
theorem q3_75 : (Jvm.Cond.instanceMethod ({ cls := "EvenTown", name := "town", desc := "()I" } : Jvm.MethodName)) ∈ GW := gw_3 75 rfl rfl
theorem q3_76 : (Jvm.Cond.selects "EvenTown" ({ cls := "EvenTown", name := "town", desc := "()I" } : Jvm.MethodName) ({ cls := "EvenTown", name := "town", desc := "()I" } : Jvm.MethodName)) ∈ GW := gw_3 76 rfl rfl
theorem q3_77 : (Jvm.Cond.code ({ cls := "EvenTown", name := "town", desc := "()I" } : Jvm.MethodName) prog_1_method_4_code (4 : Nat) (Option.some Jvm.ClassFile.FieldType.int)) ∈ GW := gw_3 77 rfl rfl
theorem q3_78 : (Jvm.Cond.methodLink "EvenTown" (87 : Nat) ({ cls := "EvenTown$TownReader", name := "readInto", desc := "(LEvenTown$Town;)Z" } : Jvm.MethodName)) ∈ GW := gw_3 78 rfl rfl
theorem q3_79 : (Jvm.Cond.instanceMethod ({ cls := "EvenTown$TownReader", name := "readInto", desc := "(LEvenTown$Town;)Z" } : Jvm.MethodName)) ∈ GW := gw_3 79 rfl rfl
theorem q3_80 : (Jvm.Cond.selects "EvenTown$TownReader" ({ cls := "EvenTown$TownReader", name := "readInto", desc := "(LEvenTown$Town;)Z" } : Jvm.MethodName) ({ cls := "EvenTown$TownReader", name := "readInto", desc := "(LEvenTown$Town;)Z" } : Jvm.MethodName)) ∈ GW := gw_3 80 rfl rfl
theorem q3_81 : (Jvm.Cond.code ({ cls := "EvenTown$TownReader", name := "readInto", desc := "(LEvenTown$Town;)Z" } : Jvm.MethodName) prog_12_method_2_code (4 : Nat) (Option.some Jvm.ClassFile.FieldType.boolean)) ∈ GW := gw_3 81 rfl rfl
theorem q3_82 : (Jvm.Cond.methodLink "EvenTown$TownReader" (19 : Nat) ({ cls := "EvenTown$Town", name := "clear", desc := "()V" } : Jvm.MethodName)) ∈ GW := gw_3 82 rfl rfl
theorem q3_83 : (Jvm.Cond.methodLink "EvenTown$TownReader" (34 : Nat) ({ cls := "EvenTown$Tape", name := "begin", desc := "()V" } : Jvm.MethodName)) ∈ GW := gw_3 83 rfl rfl
theorem q3_84 : (Jvm.Cond.instanceMethod ({ cls := "EvenTown$Tape", name := "begin", desc := "()V" } : Jvm.MethodName)) ∈ GW := gw_3 84 rfl rfl
theorem q3_85 : (Jvm.Cond.selects "EvenTown$Tape" ({ cls := "EvenTown$Tape", name := "begin", desc := "()V" } : Jvm.MethodName) ({ cls := "EvenTown$Tape", name := "begin", desc := "()V" } : Jvm.MethodName)) ∈ GW := gw_3 85 rfl rfl
theorem q3_86 : (Jvm.Cond.code ({ cls := "EvenTown$Tape", name := "begin", desc := "()V" } : Jvm.MethodName) prog_10_method_4_code (1 : Nat) (Option.none : Option Jvm.ClassFile.FieldType)) ∈ GW := gw_3 86 rfl rfl
theorem q3_87 : (Jvm.Cond.methodLink "EvenTown$Tape" (28 : Nat) ({ cls := "EvenTown$Tape", name := "step", desc := "()V" } : Jvm.MethodName)) ∈ GW := gw_3 87 rfl rfl
theorem q3_88 : (Jvm.Cond.instanceMethod ({ cls := "EvenTown$Tape", name := "step", desc := "()V" } : Jvm.MethodName)) ∈ GW := gw_3 88 rfl rfl
theorem q3_89 : (Jvm.Cond.selects "EvenTown$Tape" ({ cls := "EvenTown$Tape", name := "step", desc := "()V" } : Jvm.MethodName) ({ cls := "EvenTown$Tape", name := "step", desc := "()V" } : Jvm.MethodName)) ∈ GW := gw_3 89 rfl rfl
theorem q3_90 : (Jvm.Cond.code ({ cls := "EvenTown$Tape", name := "step", desc := "()V" } : Jvm.MethodName) prog_10_method_5_code (2 : Nat) (Option.none : Option Jvm.ClassFile.FieldType)) ∈ GW := gw_3 90 rfl rfl
theorem q3_91 : (Jvm.Cond.methodLink "EvenTown$Tape" (37 : Nat) ({ cls := "EvenTown$Tape", name := "isLetter", desc := "(I)Z" } : Jvm.MethodName)) ∈ GW := gw_3 91 rfl rfl
theorem q3_92 : (Jvm.Cond.static ({ cls := "EvenTown$Tape", name := "isLetter", desc := "(I)Z" } : Jvm.MethodName)) ∈ GW := gw_3 92 rfl rfl
theorem q3_93 : (Jvm.Cond.code ({ cls := "EvenTown$Tape", name := "isLetter", desc := "(I)Z" } : Jvm.MethodName) prog_10_method_8_code (1 : Nat) (Option.some Jvm.ClassFile.FieldType.boolean)) ∈ GW := gw_3 93 rfl rfl
theorem q3_94 : (Jvm.Cond.methodLink "EvenTown$Tape" (41 : Nat) ({ cls := "EvenTown$Tape", name := "stepWord", desc := "()V" } : Jvm.MethodName)) ∈ GW := gw_3 94 rfl rfl
theorem q3_96 : (Jvm.Cond.instanceMethod ({ cls := "EvenTown$Tape", name := "stepWord", desc := "()V" } : Jvm.MethodName)) ∈ GW := gw_3 96 rfl rfl
theorem q3_97 : (Jvm.Cond.code ({ cls := "EvenTown$Tape", name := "stepWord", desc := "()V" } : Jvm.MethodName) prog_10_method_6_code (1 : Nat) (Option.none : Option Jvm.ClassFile.FieldType)) ∈ GW := gw_3 97 rfl rfl
theorem q3_98 : (Jvm.Cond.constantLong "EvenTown$Tape" (66 : Nat) (32 : Int64)) ∈ GW := gw_3 98 rfl rfl
theorem q3_99 : (Jvm.Cond.methodLink "EvenTown$Tape" (48 : Nat) ({ cls := "EvenTown$Tape", name := "kindOf", desc := "(J)I" } : Jvm.MethodName)) ∈ GW := gw_3 99 rfl rfl
theorem q3_100 : (Jvm.Cond.static ({ cls := "EvenTown$Tape", name := "kindOf", desc := "(J)I" } : Jvm.MethodName)) ∈ GW := gw_3 100 rfl rfl
theorem q3_101 : (Jvm.Cond.code ({ cls := "EvenTown$Tape", name := "kindOf", desc := "(J)I" } : Jvm.MethodName) prog_10_method_10_code (7 : Nat) (Option.some Jvm.ClassFile.FieldType.int)) ∈ GW := gw_3 101 rfl rfl
theorem q3_103 : (Jvm.Cond.methodLink "EvenTown$Tape" (73 : Nat) ({ cls := "java/lang/String", name := "length", desc := "()I" } : Jvm.MethodName)) ∈ GW := gw_3 103 rfl rfl
theorem q3_104 : (Jvm.Cond.instanceMethod ({ cls := "java/lang/String", name := "length", desc := "()I" } : Jvm.MethodName)) ∈ GW := gw_3 104 rfl rfl
theorem q3_105 : (Jvm.Cond.selects "java/lang/String" ({ cls := "java/lang/String", name := "length", desc := "()I" } : Jvm.MethodName) ({ cls := "java/lang/String", name := "length", desc := "()I" } : Jvm.MethodName)) ∈ GW := gw_3 105 rfl rfl
theorem q3_106 : (Jvm.Cond.code ({ cls := "java/lang/String", name := "length", desc := "()I" } : Jvm.MethodName) prog_17_method_54_code (1 : Nat) (Option.some Jvm.ClassFile.FieldType.int)) ∈ GW := gw_3 106 rfl rfl
theorem q3_107 : (Jvm.Cond.methodLink "java/lang/String" (335 : Nat) ({ cls := "java/lang/String", name := "coder", desc := "()B" } : Jvm.MethodName)) ∈ GW := gw_3 107 rfl rfl
theorem q3_108 : (Jvm.Cond.instanceMethod ({ cls := "java/lang/String", name := "coder", desc := "()B" } : Jvm.MethodName)) ∈ GW := gw_3 108 rfl rfl
theorem q3_109 : (Jvm.Cond.selects "java/lang/String" ({ cls := "java/lang/String", name := "coder", desc := "()B" } : Jvm.MethodName) ({ cls := "java/lang/String", name := "coder", desc := "()B" } : Jvm.MethodName)) ∈ GW := gw_3 109 rfl rfl
theorem q3_110 : (Jvm.Cond.code ({ cls := "java/lang/String", name := "coder", desc := "()B" } : Jvm.MethodName) prog_17_method_152_code (1 : Nat) (Option.some Jvm.ClassFile.FieldType.byte)) ∈ GW := gw_3 110 rfl rfl
theorem q3_111 : (Jvm.Cond.fieldLink "java/lang/String" (38 : Nat) "java/lang/String" "COMPACT_STRINGS" "Z") ∈ GW := gw_3 111 rfl rfl
theorem q3_113 : (Jvm.Cond.methodLink "EvenTown$Tape" (76 : Nat) ({ cls := "java/lang/String", name := "charAt", desc := "(I)C" } : Jvm.MethodName)) ∈ GW := gw_3 113 rfl rfl
theorem q3_114 : (Jvm.Cond.instanceMethod ({ cls := "java/lang/String", name := "charAt", desc := "(I)C" } : Jvm.MethodName)) ∈ GW := gw_3 114 rfl rfl
theorem q3_115 : (Jvm.Cond.selects "java/lang/String" ({ cls := "java/lang/String", name := "charAt", desc := "(I)C" } : Jvm.MethodName) ({ cls := "java/lang/String", name := "charAt", desc := "(I)C" } : Jvm.MethodName)) ∈ GW := gw_3 115 rfl rfl
theorem q3_116 : (Jvm.Cond.code ({ cls := "java/lang/String", name := "charAt", desc := "(I)C" } : Jvm.MethodName) prog_17_method_56_code (2 : Nat) (Option.some Jvm.ClassFile.FieldType.char)) ∈ GW := gw_3 116 rfl rfl
theorem q3_117 : (Jvm.Cond.methodLink "java/lang/String" (492 : Nat) ({ cls := "java/lang/String", name := "isLatin1", desc := "()Z" } : Jvm.MethodName)) ∈ GW := gw_3 117 rfl rfl
theorem q3_118 : (Jvm.Cond.instanceMethod ({ cls := "java/lang/String", name := "isLatin1", desc := "()Z" } : Jvm.MethodName)) ∈ GW := gw_3 118 rfl rfl
theorem q3_119 : (Jvm.Cond.selects "java/lang/String" ({ cls := "java/lang/String", name := "isLatin1", desc := "()Z" } : Jvm.MethodName) ({ cls := "java/lang/String", name := "isLatin1", desc := "()Z" } : Jvm.MethodName)) ∈ GW := gw_3 119 rfl rfl
theorem q3_120 : (Jvm.Cond.code ({ cls := "java/lang/String", name := "isLatin1", desc := "()Z" } : Jvm.MethodName) prog_17_method_154_code (1 : Nat) (Option.some Jvm.ClassFile.FieldType.boolean)) ∈ GW := gw_3 120 rfl rfl
theorem q3_121 : (Jvm.Cond.methodLink "java/lang/String" (495 : Nat) ({ cls := "java/lang/StringLatin1", name := "charAt", desc := "([BI)C" } : Jvm.MethodName)) ∈ GW := gw_3 121 rfl rfl
theorem q3_122 : (Jvm.Cond.static ({ cls := "java/lang/StringLatin1", name := "charAt", desc := "([BI)C" } : Jvm.MethodName)) ∈ GW := gw_3 122 rfl rfl
theorem q3_123 : (Jvm.Cond.code ({ cls := "java/lang/StringLatin1", name := "charAt", desc := "([BI)C" } : Jvm.MethodName) prog_18_method_2_code (2 : Nat) (Option.some Jvm.ClassFile.FieldType.char)) ∈ GW := gw_3 123 rfl rfl
theorem q3_124 : (Jvm.Cond.methodLink "java/lang/StringLatin1" (9 : Nat) ({ cls := "java/lang/String", name := "checkIndex", desc := "(II)V" } : Jvm.MethodName)) ∈ GW := gw_3 124 rfl rfl
theorem q3_125 : (Jvm.Cond.static ({ cls := "java/lang/String", name := "checkIndex", desc := "(II)V" } : Jvm.MethodName)) ∈ GW := gw_3 125 rfl rfl
theorem q3_126 : (Jvm.Cond.code ({ cls := "java/lang/String", name := "checkIndex", desc := "(II)V" } : Jvm.MethodName) prog_17_method_155_code (2 : Nat) (Option.none : Option Jvm.ClassFile.FieldType)) ∈ GW := gw_3 126 rfl rfl
theorem q3_127 : (Jvm.Cond.fieldLink "java/lang/String" (1053 : Nat) "jdk/internal/util/Preconditions" "SIOOBE_FORMATTER" "Ljava/util/function/BiFunction;") ∈ GW := gw_3 127 rfl rfl
theorem q3_129 : (Jvm.Cond.methodLink "java/lang/String" (1059 : Nat) ({ cls := "jdk/internal/util/Preconditions", name := "checkIndex", desc := "(IILjava/util/function/BiFunction;)I" } : Jvm.MethodName)) ∈ GW := gw_3 129 rfl rfl
theorem q3_130 : (Jvm.Cond.static ({ cls := "jdk/internal/util/Preconditions", name := "checkIndex", desc := "(IILjava/util/function/BiFunction;)I" } : Jvm.MethodName)) ∈ GW := gw_3 130 rfl rfl
theorem q3_131 : (Jvm.Cond.code ({ cls := "jdk/internal/util/Preconditions", name := "checkIndex", desc := "(IILjava/util/function/BiFunction;)I" } : Jvm.MethodName) prog_22_method_11_code (3 : Nat) (Option.some Jvm.ClassFile.FieldType.int)) ∈ GW := gw_3 131 rfl rfl
theorem q3_132 : (Jvm.Cond.methodLink "java/lang/String" (498 : Nat) ({ cls := "java/lang/StringUTF16", name := "charAt", desc := "([BI)C" } : Jvm.MethodName)) ∈ GW := gw_3 132 rfl rfl
theorem q3_133 : (Jvm.Cond.static ({ cls := "java/lang/StringUTF16", name := "charAt", desc := "([BI)C" } : Jvm.MethodName)) ∈ GW := gw_3 133 rfl rfl
theorem q3_134 : (Jvm.Cond.code ({ cls := "java/lang/StringUTF16", name := "charAt", desc := "([BI)C" } : Jvm.MethodName) prog_19_method_83_code (2 : Nat) (Option.some Jvm.ClassFile.FieldType.char)) ∈ GW := gw_3 134 rfl rfl
theorem q3_135 : (Jvm.Cond.methodLink "java/lang/StringUTF16" (67 : Nat) ({ cls := "java/lang/StringUTF16", name := "checkIndex", desc := "(I[B)V" } : Jvm.MethodName)) ∈ GW := gw_3 135 rfl rfl
theorem q3_136 : (Jvm.Cond.static ({ cls := "java/lang/StringUTF16", name := "checkIndex", desc := "(I[B)V" } : Jvm.MethodName)) ∈ GW := gw_3 136 rfl rfl
theorem q3_137 : (Jvm.Cond.code ({ cls := "java/lang/StringUTF16", name := "checkIndex", desc := "(I[B)V" } : Jvm.MethodName) prog_19_method_91_code (2 : Nat) (Option.none : Option Jvm.ClassFile.FieldType)) ∈ GW := gw_3 137 rfl rfl
theorem q3_138 : (Jvm.Cond.methodLink "java/lang/StringUTF16" (48 : Nat) ({ cls := "java/lang/StringUTF16", name := "length", desc := "([B)I" } : Jvm.MethodName)) ∈ GW := gw_3 138 rfl rfl
theorem q3_139 : (Jvm.Cond.static ({ cls := "java/lang/StringUTF16", name := "length", desc := "([B)I" } : Jvm.MethodName)) ∈ GW := gw_3 139 rfl rfl
theorem q3_140 : (Jvm.Cond.code ({ cls := "java/lang/StringUTF16", name := "length", desc := "([B)I" } : Jvm.MethodName) prog_19_method_6_code (1 : Nat) (Option.some Jvm.ClassFile.FieldType.int)) ∈ GW := gw_3 140 rfl rfl
theorem q3_141 : (Jvm.Cond.methodLink "java/lang/StringUTF16" (414 : Nat) ({ cls := "java/lang/String", name := "checkIndex", desc := "(II)V" } : Jvm.MethodName)) ∈ GW := gw_3 141 rfl rfl
theorem q3_142 : (Jvm.Cond.methodLink "java/lang/StringUTF16" (71 : Nat) ({ cls := "java/lang/StringUTF16", name := "getChar", desc := "([BI)C" } : Jvm.MethodName)) ∈ GW := gw_3 142 rfl rfl
theorem q3_143 : (Jvm.Cond.static ({ cls := "java/lang/StringUTF16", name := "getChar", desc := "([BI)C" } : Jvm.MethodName)) ∈ GW := gw_3 143 rfl rfl
theorem q3_144 : (Jvm.Cond.code ({ cls := "java/lang/StringUTF16", name := "getChar", desc := "([BI)C" } : Jvm.MethodName) prog_19_method_5_code (2 : Nat) (Option.some Jvm.ClassFile.FieldType.char)) ∈ GW := gw_3 144 rfl rfl
theorem q3_145 : (Jvm.Cond.fieldLink "java/lang/StringUTF16" (44 : Nat) "java/lang/StringUTF16" "$assertionsDisabled" "Z") ∈ GW := gw_3 145 rfl rfl
theorem q3_147 : (Jvm.Cond.fieldLink "java/lang/StringUTF16" (59 : Nat) "java/lang/StringUTF16" "HI_BYTE_SHIFT" "I") ∈ GW := gw_3 147 rfl rfl
theorem q3_149 : (Jvm.Cond.fieldLink "java/lang/StringUTF16" (63 : Nat) "java/lang/StringUTF16" "LO_BYTE_SHIFT" "I") ∈ GW := gw_3 149 rfl rfl
theorem q3_151 : (Jvm.Cond.methodLink "EvenTown$Tape" (52 : Nat) ({ cls := "EvenTown$Tape", name := "isDigit", desc := "(I)Z" } : Jvm.MethodName)) ∈ GW := gw_3 151 rfl rfl
theorem q3_152 : (Jvm.Cond.static ({ cls := "EvenTown$Tape", name := "isDigit", desc := "(I)Z" } : Jvm.MethodName)) ∈ GW := gw_3 152 rfl rfl
theorem q3_153 : (Jvm.Cond.code ({ cls := "EvenTown$Tape", name := "isDigit", desc := "(I)Z" } : Jvm.MethodName) prog_10_method_9_code (1 : Nat) (Option.some Jvm.ClassFile.FieldType.boolean)) ∈ GW := gw_3 153 rfl rfl
theorem q3_154 : (Jvm.Cond.methodLink "EvenTown$Tape" (55 : Nat) ({ cls := "EvenTown$Tape", name := "stepNumber", desc := "()V" } : Jvm.MethodName)) ∈ GW := gw_3 154 rfl rfl
theorem q3_156 : (Jvm.Cond.instanceMethod ({ cls := "EvenTown$Tape", name := "stepNumber", desc := "()V" } : Jvm.MethodName)) ∈ GW := gw_3 156 rfl rfl
theorem q3_157 : (Jvm.Cond.code ({ cls := "EvenTown$Tape", name := "stepNumber", desc := "()V" } : Jvm.MethodName) prog_10_method_7_code (2 : Nat) (Option.none : Option Jvm.ClassFile.FieldType)) ∈ GW := gw_3 157 rfl rfl
theorem q3_159 : (Jvm.Cond.methodLink "EvenTown$Tape" (60 : Nat) ({ cls := "java/lang/String", name := "indexOf", desc := "(I)I" } : Jvm.MethodName)) ∈ GW := gw_3 159 rfl rfl
theorem q3_160 : (Jvm.Cond.instanceMethod ({ cls := "java/lang/String", name := "indexOf", desc := "(I)I" } : Jvm.MethodName)) ∈ GW := gw_3 160 rfl rfl
theorem q3_161 : (Jvm.Cond.selects "java/lang/String" ({ cls := "java/lang/String", name := "indexOf", desc := "(I)I" } : Jvm.MethodName) ({ cls := "java/lang/String", name := "indexOf", desc := "(I)I" } : Jvm.MethodName)) ∈ GW := gw_3 161 rfl rfl
theorem q3_162 : (Jvm.Cond.code ({ cls := "java/lang/String", name := "indexOf", desc := "(I)I" } : Jvm.MethodName) prog_17_method_79_code (2 : Nat) (Option.some Jvm.ClassFile.FieldType.int)) ∈ GW := gw_3 162 rfl rfl
theorem q3_163 : (Jvm.Cond.methodLink "java/lang/String" (633 : Nat) ({ cls := "java/lang/String", name := "indexOf", desc := "(II)I" } : Jvm.MethodName)) ∈ GW := gw_3 163 rfl rfl
theorem q3_164 : (Jvm.Cond.instanceMethod ({ cls := "java/lang/String", name := "indexOf", desc := "(II)I" } : Jvm.MethodName)) ∈ GW := gw_3 164 rfl rfl
theorem q3_165 : (Jvm.Cond.selects "java/lang/String" ({ cls := "java/lang/String", name := "indexOf", desc := "(II)I" } : Jvm.MethodName) ({ cls := "java/lang/String", name := "indexOf", desc := "(II)I" } : Jvm.MethodName)) ∈ GW := gw_3 165 rfl rfl
theorem q3_166 : (Jvm.Cond.code ({ cls := "java/lang/String", name := "indexOf", desc := "(II)I" } : Jvm.MethodName) prog_17_method_80_code (3 : Nat) (Option.some Jvm.ClassFile.FieldType.int)) ∈ GW := gw_3 166 rfl rfl
theorem q3_167 : (Jvm.Cond.methodLink "java/lang/String" (505 : Nat) ({ cls := "java/lang/String", name := "length", desc := "()I" } : Jvm.MethodName)) ∈ GW := gw_3 167 rfl rfl
theorem q3_168 : (Jvm.Cond.methodLink "java/lang/String" (637 : Nat) ({ cls := "java/lang/StringLatin1", name := "indexOf", desc := "([BIII)I" } : Jvm.MethodName)) ∈ GW := gw_3 168 rfl rfl
theorem q3_169 : (Jvm.Cond.static ({ cls := "java/lang/StringLatin1", name := "indexOf", desc := "([BIII)I" } : Jvm.MethodName)) ∈ GW := gw_3 169 rfl rfl
theorem q3_170 : (Jvm.Cond.code ({ cls := "java/lang/StringLatin1", name := "indexOf", desc := "([BIII)I" } : Jvm.MethodName) prog_18_method_22_code (4 : Nat) (Option.some Jvm.ClassFile.FieldType.int)) ∈ GW := gw_3 170 rfl rfl
theorem q3_171 : (Jvm.Cond.methodLink "java/lang/StringLatin1" (88 : Nat) ({ cls := "java/lang/StringLatin1", name := "canEncode", desc := "(I)Z" } : Jvm.MethodName)) ∈ GW := gw_3 171 rfl rfl
theorem q3_172 : (Jvm.Cond.static ({ cls := "java/lang/StringLatin1", name := "canEncode", desc := "(I)Z" } : Jvm.MethodName)) ∈ GW := gw_3 172 rfl rfl
theorem q3_173 : (Jvm.Cond.code ({ cls := "java/lang/StringLatin1", name := "canEncode", desc := "(I)Z" } : Jvm.MethodName) prog_18_method_4_code (1 : Nat) (Option.some Jvm.ClassFile.FieldType.boolean)) ∈ GW := gw_3 173 rfl rfl
theorem q3_174 : (Jvm.Cond.methodLink "java/lang/StringLatin1" (92 : Nat) ({ cls := "java/lang/Math", name := "max", desc := "(II)I" } : Jvm.MethodName)) ∈ GW := gw_3 174 rfl rfl
theorem q3_175 : (Jvm.Cond.static ({ cls := "java/lang/Math", name := "max", desc := "(II)I" } : Jvm.MethodName)) ∈ GW := gw_3 175 rfl rfl
theorem q3_176 : (Jvm.Cond.code ({ cls := "java/lang/Math", name := "max", desc := "(II)I" } : Jvm.MethodName) prog_16_method_65_code (2 : Nat) (Option.some Jvm.ClassFile.FieldType.int)) ∈ GW := gw_3 176 rfl rfl
theorem q3_177 : (Jvm.Cond.methodLink "java/lang/StringLatin1" (38 : Nat) ({ cls := "java/lang/Math", name := "min", desc := "(II)I" } : Jvm.MethodName)) ∈ GW := gw_3 177 rfl rfl
theorem q3_178 : (Jvm.Cond.methodLink "java/lang/StringLatin1" (95 : Nat) ({ cls := "java/lang/StringLatin1", name := "indexOfChar", desc := "([BIII)I" } : Jvm.MethodName)) ∈ GW := gw_3 178 rfl rfl
theorem q3_179 : (Jvm.Cond.static ({ cls := "java/lang/StringLatin1", name := "indexOfChar", desc := "([BIII)I" } : Jvm.MethodName)) ∈ GW := gw_3 179 rfl rfl
theorem q3_180 : (Jvm.Cond.code ({ cls := "java/lang/StringLatin1", name := "indexOfChar", desc := "([BIII)I" } : Jvm.MethodName) prog_18_method_23_code (6 : Nat) (Option.some Jvm.ClassFile.FieldType.int)) ∈ GW := gw_3 180 rfl rfl
theorem q3_181 : (Jvm.Cond.methodLink "java/lang/String" (640 : Nat) ({ cls := "java/lang/StringUTF16", name := "indexOf", desc := "([BIII)I" } : Jvm.MethodName)) ∈ GW := gw_3 181 rfl rfl
theorem q3_182 : (Jvm.Cond.static ({ cls := "java/lang/StringUTF16", name := "indexOf", desc := "([BIII)I" } : Jvm.MethodName)) ∈ GW := gw_3 182 rfl rfl
theorem q3_183 : (Jvm.Cond.code ({ cls := "java/lang/StringUTF16", name := "indexOf", desc := "([BIII)I" } : Jvm.MethodName) prog_19_method_40_code (4 : Nat) (Option.some Jvm.ClassFile.FieldType.int)) ∈ GW := gw_3 183 rfl rfl
theorem q3_184 : (Jvm.Cond.methodLink "java/lang/StringUTF16" (224 : Nat) ({ cls := "java/lang/Math", name := "max", desc := "(II)I" } : Jvm.MethodName)) ∈ GW := gw_3 184 rfl rfl
theorem q3_185 : (Jvm.Cond.methodLink "java/lang/StringUTF16" (183 : Nat) ({ cls := "java/lang/Math", name := "min", desc := "(II)I" } : Jvm.MethodName)) ∈ GW := gw_3 185 rfl rfl
theorem q3_186 : (Jvm.Cond.constant "java/lang/StringUTF16" (227 : Nat) (65536 : Int32)) ∈ GW := gw_3 186 rfl rfl
theorem q3_187 : (Jvm.Cond.methodLink "java/lang/StringUTF16" (228 : Nat) ({ cls := "java/lang/StringUTF16", name := "indexOfChar", desc := "([BIII)I" } : Jvm.MethodName)) ∈ GW := gw_3 187 rfl rfl
theorem q3_188 : (Jvm.Cond.static ({ cls := "java/lang/StringUTF16", name := "indexOfChar", desc := "([BIII)I" } : Jvm.MethodName)) ∈ GW := gw_3 188 rfl rfl
theorem q3_189 : (Jvm.Cond.code ({ cls := "java/lang/StringUTF16", name := "indexOfChar", desc := "([BIII)I" } : Jvm.MethodName) prog_19_method_47_code (4 : Nat) (Option.some Jvm.ClassFile.FieldType.int)) ∈ GW := gw_3 189 rfl rfl
theorem q3_190 : (Jvm.Cond.methodLink "java/lang/StringUTF16" (96 : Nat) ({ cls := "java/lang/StringUTF16", name := "checkBoundsBeginEnd", desc := "(II[B)V" } : Jvm.MethodName)) ∈ GW := gw_3 190 rfl rfl
theorem q3_191 : (Jvm.Cond.static ({ cls := "java/lang/StringUTF16", name := "checkBoundsBeginEnd", desc := "(II[B)V" } : Jvm.MethodName)) ∈ GW := gw_3 191 rfl rfl
theorem q3_192 : (Jvm.Cond.code ({ cls := "java/lang/StringUTF16", name := "checkBoundsBeginEnd", desc := "(II[B)V" } : Jvm.MethodName) prog_19_method_93_code (3 : Nat) (Option.none : Option Jvm.ClassFile.FieldType)) ∈ GW := gw_3 192 rfl rfl
theorem q3_193 : (Jvm.Cond.methodLink "java/lang/StringUTF16" (241 : Nat) ({ cls := "java/lang/String", name := "checkBoundsBeginEnd", desc := "(III)V" } : Jvm.MethodName)) ∈ GW := gw_3 193 rfl rfl
theorem q3_194 : (Jvm.Cond.static ({ cls := "java/lang/String", name := "checkBoundsBeginEnd", desc := "(III)V" } : Jvm.MethodName)) ∈ GW := gw_3 194 rfl rfl
theorem q3_195 : (Jvm.Cond.code ({ cls := "java/lang/String", name := "checkBoundsBeginEnd", desc := "(III)V" } : Jvm.MethodName) prog_17_method_158_code (3 : Nat) (Option.none : Option Jvm.ClassFile.FieldType)) ∈ GW := gw_3 195 rfl rfl
theorem q3_196 : (Jvm.Cond.methodLink "java/lang/String" (1062 : Nat) ({ cls := "jdk/internal/util/Preconditions", name := "checkFromToIndex", desc := "(IIILjava/util/function/BiFunction;)I" } : Jvm.MethodName)) ∈ GW := gw_3 196 rfl rfl
theorem q3_197 : (Jvm.Cond.static ({ cls := "jdk/internal/util/Preconditions", name := "checkFromToIndex", desc := "(IIILjava/util/function/BiFunction;)I" } : Jvm.MethodName)) ∈ GW := gw_3 197 rfl rfl
theorem q3_198 : (Jvm.Cond.code ({ cls := "jdk/internal/util/Preconditions", name := "checkFromToIndex", desc := "(IIILjava/util/function/BiFunction;)I" } : Jvm.MethodName) prog_22_method_12_code (4 : Nat) (Option.some Jvm.ClassFile.FieldType.int)) ∈ GW := gw_3 198 rfl rfl
theorem q3_199 : (Jvm.Cond.methodLink "java/lang/StringUTF16" (244 : Nat) ({ cls := "java/lang/StringUTF16", name := "indexOfCharUnsafe", desc := "([BIII)I" } : Jvm.MethodName)) ∈ GW := gw_3 199 rfl rfl
theorem q3_200 : (Jvm.Cond.static ({ cls := "java/lang/StringUTF16", name := "indexOfCharUnsafe", desc := "([BIII)I" } : Jvm.MethodName)) ∈ GW := gw_3 200 rfl rfl
theorem q3_201 : (Jvm.Cond.code ({ cls := "java/lang/StringUTF16", name := "indexOfCharUnsafe", desc := "([BIII)I" } : Jvm.MethodName) prog_19_method_48_code (5 : Nat) (Option.some Jvm.ClassFile.FieldType.int)) ∈ GW := gw_3 201 rfl rfl
theorem q3_202 : (Jvm.Cond.methodLink "java/lang/StringUTF16" (232 : Nat) ({ cls := "java/lang/StringUTF16", name := "indexOfSupplementary", desc := "([BIII)I" } : Jvm.MethodName)) ∈ GW := gw_3 202 rfl rfl
theorem q3_203 : (Jvm.Cond.static ({ cls := "java/lang/StringUTF16", name := "indexOfSupplementary", desc := "([BIII)I" } : Jvm.MethodName)) ∈ GW := gw_3 203 rfl rfl
theorem q3_204 : (Jvm.Cond.code ({ cls := "java/lang/StringUTF16", name := "indexOfSupplementary", desc := "([BIII)I" } : Jvm.MethodName) prog_19_method_49_code (7 : Nat) (Option.some Jvm.ClassFile.FieldType.int)) ∈ GW := gw_3 204 rfl rfl
theorem q3_205 : (Jvm.Cond.methodLink "java/lang/StringUTF16" (164 : Nat) ({ cls := "java/lang/Character", name := "isValidCodePoint", desc := "(I)Z" } : Jvm.MethodName)) ∈ GW := gw_3 205 rfl rfl
theorem q3_206 : (Jvm.Cond.static ({ cls := "java/lang/Character", name := "isValidCodePoint", desc := "(I)Z" } : Jvm.MethodName)) ∈ GW := gw_3 206 rfl rfl
theorem q3_207 : (Jvm.Cond.code ({ cls := "java/lang/Character", name := "isValidCodePoint", desc := "(I)Z" } : Jvm.MethodName) prog_15_method_11_code (2 : Nat) (Option.some Jvm.ClassFile.FieldType.boolean)) ∈ GW := gw_3 207 rfl rfl
theorem q3_208 : (Jvm.Cond.methodLink "java/lang/StringUTF16" (157 : Nat) ({ cls := "java/lang/Character", name := "highSurrogate", desc := "(I)C" } : Jvm.MethodName)) ∈ GW := gw_3 208 rfl rfl
theorem q3_209 : (Jvm.Cond.static ({ cls := "java/lang/Character", name := "highSurrogate", desc := "(I)C" } : Jvm.MethodName)) ∈ GW := gw_3 209 rfl rfl
theorem q3_210 : (Jvm.Cond.code ({ cls := "java/lang/Character", name := "highSurrogate", desc := "(I)C" } : Jvm.MethodName) prog_15_method_28_code (1 : Nat) (Option.some Jvm.ClassFile.FieldType.char)) ∈ GW := gw_3 210 rfl rfl
theorem q3_211 : (Jvm.Cond.constant "java/lang/Character" (110 : Nat) (55232 : Int32)) ∈ GW := gw_3 211 rfl rfl
theorem q3_212 : (Jvm.Cond.methodLink "java/lang/StringUTF16" (161 : Nat) ({ cls := "java/lang/Character", name := "lowSurrogate", desc := "(I)C" } : Jvm.MethodName)) ∈ GW := gw_3 212 rfl rfl
theorem q3_213 : (Jvm.Cond.static ({ cls := "java/lang/Character", name := "lowSurrogate", desc := "(I)C" } : Jvm.MethodName)) ∈ GW := gw_3 213 rfl rfl
theorem q3_214 : (Jvm.Cond.code ({ cls := "java/lang/Character", name := "lowSurrogate", desc := "(I)C" } : Jvm.MethodName) prog_15_method_29_code (1 : Nat) (Option.some Jvm.ClassFile.FieldType.char)) ∈ GW := gw_3 214 rfl rfl
theorem q3_215 : (Jvm.Cond.constant "java/lang/Character" (76 : Nat) (56320 : Int32)) ∈ GW := gw_3 215 rfl rfl
theorem q3_216 : (Jvm.Cond.methodLink "EvenTown$TownReader" (43 : Nat) ({ cls := "EvenTown$TownReader", name := "readLine", desc := "()Z" } : Jvm.MethodName)) ∈ GW := gw_3 216 rfl rfl
theorem q3_218 : (Jvm.Cond.instanceMethod ({ cls := "EvenTown$TownReader", name := "readLine", desc := "()Z" } : Jvm.MethodName)) ∈ GW := gw_3 218 rfl rfl
theorem q3_219 : (Jvm.Cond.code ({ cls := "EvenTown$TownReader", name := "readLine", desc := "()Z" } : Jvm.MethodName) prog_12_method_3_code (1 : Nat) (Option.some Jvm.ClassFile.FieldType.boolean)) ∈ GW := gw_3 219 rfl rfl
theorem q3_220 : (Jvm.Cond.methodLink "EvenTown$TownReader" (54 : Nat) ({ cls := "EvenTown$TownReader", name := "readPlace", desc := "()Z" } : Jvm.MethodName)) ∈ GW := gw_3 220 rfl rfl
theorem q3_222 : (Jvm.Cond.instanceMethod ({ cls := "EvenTown$TownReader", name := "readPlace", desc := "()Z" } : Jvm.MethodName)) ∈ GW := gw_3 222 rfl rfl
theorem q3_223 : (Jvm.Cond.code ({ cls := "EvenTown$TownReader", name := "readPlace", desc := "()Z" } : Jvm.MethodName) prog_12_method_6_code (2 : Nat) (Option.some Jvm.ClassFile.FieldType.boolean)) ∈ GW := gw_3 223 rfl rfl
theorem q3_224 : (Jvm.Cond.methodLink "EvenTown$TownReader" (101 : Nat) ({ cls := "EvenTown$Names", name := "isFull", desc := "()Z" } : Jvm.MethodName)) ∈ GW := gw_3 224 rfl rfl
theorem q3_225 : (Jvm.Cond.instanceMethod ({ cls := "EvenTown$Names", name := "isFull", desc := "()Z" } : Jvm.MethodName)) ∈ GW := gw_3 225 rfl rfl
theorem q3_226 : (Jvm.Cond.selects "EvenTown$Names" ({ cls := "EvenTown$Names", name := "isFull", desc := "()Z" } : Jvm.MethodName) ({ cls := "EvenTown$Names", name := "isFull", desc := "()Z" } : Jvm.MethodName)) ∈ GW := gw_3 226 rfl rfl
theorem q3_227 : (Jvm.Cond.code ({ cls := "EvenTown$Names", name := "isFull", desc := "()Z" } : Jvm.MethodName) prog_7_method_2_code (1 : Nat) (Option.some Jvm.ClassFile.FieldType.boolean)) ∈ GW := gw_3 227 rfl rfl
theorem q3_228 : (Jvm.Cond.methodLink "EvenTown$TownReader" (104 : Nat) ({ cls := "EvenTown$TownReader", name := "startLine", desc := "(Z)Z" } : Jvm.MethodName)) ∈ GW := gw_3 228 rfl rfl
theorem q3_230 : (Jvm.Cond.instanceMethod ({ cls := "EvenTown$TownReader", name := "startLine", desc := "(Z)Z" } : Jvm.MethodName)) ∈ GW := gw_3 230 rfl rfl
theorem q3_231 : (Jvm.Cond.code ({ cls := "EvenTown$TownReader", name := "startLine", desc := "(Z)Z" } : Jvm.MethodName) prog_12_method_4_code (2 : Nat) (Option.some Jvm.ClassFile.FieldType.boolean)) ∈ GW := gw_3 231 rfl rfl
theorem q3_232 : (Jvm.Cond.methodLink "EvenTown$TownReader" (81 : Nat) ({ cls := "EvenTown$Tape", name := "blame", desc := "(I)Z" } : Jvm.MethodName)) ∈ GW := gw_3 232 rfl rfl
theorem q3_233 : (Jvm.Cond.instanceMethod ({ cls := "EvenTown$Tape", name := "blame", desc := "(I)Z" } : Jvm.MethodName)) ∈ GW := gw_3 233 rfl rfl
theorem q3_234 : (Jvm.Cond.selects "EvenTown$Tape" ({ cls := "EvenTown$Tape", name := "blame", desc := "(I)Z" } : Jvm.MethodName) ({ cls := "EvenTown$Tape", name := "blame", desc := "(I)Z" } : Jvm.MethodName)) ∈ GW := gw_3 234 rfl rfl
theorem q3_235 : (Jvm.Cond.code ({ cls := "EvenTown$Tape", name := "blame", desc := "(I)Z" } : Jvm.MethodName) prog_10_method_11_code (2 : Nat) (Option.some Jvm.ClassFile.FieldType.boolean)) ∈ GW := gw_3 235 rfl rfl
theorem q3_236 : (Jvm.Cond.methodLink "EvenTown$TownReader" (84 : Nat) ({ cls := "EvenTown$Tape", name := "step", desc := "()V" } : Jvm.MethodName)) ∈ GW := gw_3 236 rfl rfl
theorem q3_237 : (Jvm.Cond.methodLink "EvenTown$TownReader" (108 : Nat) ({ cls := "EvenTown$TownReader", name := "isNew", desc := "(LEvenTown$Names;)Z" } : Jvm.MethodName)) ∈ GW := gw_3 237 rfl rfl
theorem q3_239 : (Jvm.Cond.instanceMethod ({ cls := "EvenTown$TownReader", name := "isNew", desc := "(LEvenTown$Names;)Z" } : Jvm.MethodName)) ∈ GW := gw_3 239 rfl rfl
theorem q4_0 : (Jvm.Cond.code ({ cls := "EvenTown$TownReader", name := "isNew", desc := "(LEvenTown$Names;)Z" } : Jvm.MethodName) prog_12_method_5_code (2 : Nat) (Option.some Jvm.ClassFile.FieldType.boolean)) ∈ GW := gw_4 0 rfl rfl
theorem q4_1 : (Jvm.Cond.methodLink "EvenTown$TownReader" (78 : Nat) ({ cls := "EvenTown$Tape", name := "refuse", desc := "()Z" } : Jvm.MethodName)) ∈ GW := gw_4 1 rfl rfl
theorem q4_2 : (Jvm.Cond.instanceMethod ({ cls := "EvenTown$Tape", name := "refuse", desc := "()Z" } : Jvm.MethodName)) ∈ GW := gw_4 2 rfl rfl
theorem q4_3 : (Jvm.Cond.selects "EvenTown$Tape" ({ cls := "EvenTown$Tape", name := "refuse", desc := "()Z" } : Jvm.MethodName) ({ cls := "EvenTown$Tape", name := "refuse", desc := "()Z" } : Jvm.MethodName)) ∈ GW := gw_4 3 rfl rfl
theorem q4_4 : (Jvm.Cond.code ({ cls := "EvenTown$Tape", name := "refuse", desc := "()Z" } : Jvm.MethodName) prog_10_method_12_code (1 : Nat) (Option.some Jvm.ClassFile.FieldType.boolean)) ∈ GW := gw_4 4 rfl rfl
theorem q4_5 : (Jvm.Cond.methodLink "EvenTown$Tape" (80 : Nat) ({ cls := "EvenTown$Tape", name := "blame", desc := "(I)Z" } : Jvm.MethodName)) ∈ GW := gw_4 5 rfl rfl
theorem q4_6 : (Jvm.Cond.methodLink "EvenTown$TownReader" (91 : Nat) ({ cls := "EvenTown$Names", name := "find", desc := "(J)I" } : Jvm.MethodName)) ∈ GW := gw_4 6 rfl rfl
theorem q4_7 : (Jvm.Cond.instanceMethod ({ cls := "EvenTown$Names", name := "find", desc := "(J)I" } : Jvm.MethodName)) ∈ GW := gw_4 7 rfl rfl
theorem q4_8 : (Jvm.Cond.selects "EvenTown$Names" ({ cls := "EvenTown$Names", name := "find", desc := "(J)I" } : Jvm.MethodName) ({ cls := "EvenTown$Names", name := "find", desc := "(J)I" } : Jvm.MethodName)) ∈ GW := gw_4 8 rfl rfl
theorem q4_9 : (Jvm.Cond.code ({ cls := "EvenTown$Names", name := "find", desc := "(J)I" } : Jvm.MethodName) prog_7_method_3_code (4 : Nat) (Option.some Jvm.ClassFile.FieldType.int)) ∈ GW := gw_4 9 rfl rfl
theorem q4_10 : (Jvm.Cond.methodLink "EvenTown$TownReader" (112 : Nat) ({ cls := "EvenTown$Names", name := "add", desc := "(J)I" } : Jvm.MethodName)) ∈ GW := gw_4 10 rfl rfl
theorem q4_11 : (Jvm.Cond.instanceMethod ({ cls := "EvenTown$Names", name := "add", desc := "(J)I" } : Jvm.MethodName)) ∈ GW := gw_4 11 rfl rfl
theorem q4_12 : (Jvm.Cond.selects "EvenTown$Names" ({ cls := "EvenTown$Names", name := "add", desc := "(J)I" } : Jvm.MethodName) ({ cls := "EvenTown$Names", name := "add", desc := "(J)I" } : Jvm.MethodName)) ∈ GW := gw_4 12 rfl rfl
theorem q4_13 : (Jvm.Cond.code ({ cls := "EvenTown$Names", name := "add", desc := "(J)I" } : Jvm.MethodName) prog_7_method_4_code (3 : Nat) (Option.some Jvm.ClassFile.FieldType.int)) ∈ GW := gw_4 13 rfl rfl
theorem q4_14 : (Jvm.Cond.methodLink "EvenTown$Names" (19 : Nat) ({ cls := "EvenTown$Names", name := "isFull", desc := "()Z" } : Jvm.MethodName)) ∈ GW := gw_4 14 rfl rfl
theorem q4_15 : (Jvm.Cond.methodLink "EvenTown$TownReader" (57 : Nat) ({ cls := "EvenTown$TownReader", name := "readWay", desc := "()Z" } : Jvm.MethodName)) ∈ GW := gw_4 15 rfl rfl
theorem q4_17 : (Jvm.Cond.instanceMethod ({ cls := "EvenTown$TownReader", name := "readWay", desc := "()Z" } : Jvm.MethodName)) ∈ GW := gw_4 17 rfl rfl
theorem q4_18 : (Jvm.Cond.code ({ cls := "EvenTown$TownReader", name := "readWay", desc := "()Z" } : Jvm.MethodName) prog_12_method_7_code (4 : Nat) (Option.some Jvm.ClassFile.FieldType.boolean)) ∈ GW := gw_4 18 rfl rfl
theorem q4_19 : (Jvm.Cond.methodLink "EvenTown$TownReader" (122 : Nat) ({ cls := "EvenTown$Tape", name := "passKnown", desc := "(LEvenTown$Names;)I" } : Jvm.MethodName)) ∈ GW := gw_4 19 rfl rfl
theorem q4_20 : (Jvm.Cond.instanceMethod ({ cls := "EvenTown$Tape", name := "passKnown", desc := "(LEvenTown$Names;)I" } : Jvm.MethodName)) ∈ GW := gw_4 20 rfl rfl
theorem q4_21 : (Jvm.Cond.selects "EvenTown$Tape" ({ cls := "EvenTown$Tape", name := "passKnown", desc := "(LEvenTown$Names;)I" } : Jvm.MethodName) ({ cls := "EvenTown$Tape", name := "passKnown", desc := "(LEvenTown$Names;)I" } : Jvm.MethodName)) ∈ GW := gw_4 21 rfl rfl
theorem q4_22 : (Jvm.Cond.code ({ cls := "EvenTown$Tape", name := "passKnown", desc := "(LEvenTown$Names;)I" } : Jvm.MethodName) prog_10_method_15_code (3 : Nat) (Option.some Jvm.ClassFile.FieldType.int)) ∈ GW := gw_4 22 rfl rfl
theorem q4_23 : (Jvm.Cond.methodLink "EvenTown$Tape" (83 : Nat) ({ cls := "EvenTown$Tape", name := "refuse", desc := "()Z" } : Jvm.MethodName)) ∈ GW := gw_4 23 rfl rfl
theorem q4_24 : (Jvm.Cond.methodLink "EvenTown$Tape" (87 : Nat) ({ cls := "EvenTown$Names", name := "find", desc := "(J)I" } : Jvm.MethodName)) ∈ GW := gw_4 24 rfl rfl
theorem q4_25 : (Jvm.Cond.methodLink "EvenTown$TownReader" (126 : Nat) ({ cls := "EvenTown$TownReader", name := "isToldSecond", desc := "(I)Z" } : Jvm.MethodName)) ∈ GW := gw_4 25 rfl rfl
theorem q4_27 : (Jvm.Cond.instanceMethod ({ cls := "EvenTown$TownReader", name := "isToldSecond", desc := "(I)Z" } : Jvm.MethodName)) ∈ GW := gw_4 27 rfl rfl
theorem q4_28 : (Jvm.Cond.code ({ cls := "EvenTown$TownReader", name := "isToldSecond", desc := "(I)Z" } : Jvm.MethodName) prog_12_method_8_code (3 : Nat) (Option.some Jvm.ClassFile.FieldType.boolean)) ∈ GW := gw_4 28 rfl rfl
theorem q4_29 : (Jvm.Cond.constant "EvenTown$TownReader" (141 : Nat) (1000000 : Int32)) ∈ GW := gw_4 29 rfl rfl
theorem q4_30 : (Jvm.Cond.methodLink "EvenTown$TownReader" (47 : Nat) ({ cls := "EvenTown$Tape", name := "pass", desc := "(I)Z" } : Jvm.MethodName)) ∈ GW := gw_4 30 rfl rfl
theorem q4_31 : (Jvm.Cond.instanceMethod ({ cls := "EvenTown$Tape", name := "pass", desc := "(I)Z" } : Jvm.MethodName)) ∈ GW := gw_4 31 rfl rfl
theorem q4_32 : (Jvm.Cond.selects "EvenTown$Tape" ({ cls := "EvenTown$Tape", name := "pass", desc := "(I)Z" } : Jvm.MethodName) ({ cls := "EvenTown$Tape", name := "pass", desc := "(I)Z" } : Jvm.MethodName)) ∈ GW := gw_4 32 rfl rfl
theorem q4_33 : (Jvm.Cond.code ({ cls := "EvenTown$Tape", name := "pass", desc := "(I)Z" } : Jvm.MethodName) prog_10_method_13_code (2 : Nat) (Option.some Jvm.ClassFile.FieldType.boolean)) ∈ GW := gw_4 33 rfl rfl
theorem q4_34 : (Jvm.Cond.methodLink "EvenTown$TownReader" (129 : Nat) ({ cls := "EvenTown$Tape", name := "passNumber", desc := "(II)I" } : Jvm.MethodName)) ∈ GW := gw_4 34 rfl rfl
theorem q4_35 : (Jvm.Cond.instanceMethod ({ cls := "EvenTown$Tape", name := "passNumber", desc := "(II)I" } : Jvm.MethodName)) ∈ GW := gw_4 35 rfl rfl
theorem q4_36 : (Jvm.Cond.selects "EvenTown$Tape" ({ cls := "EvenTown$Tape", name := "passNumber", desc := "(II)I" } : Jvm.MethodName) ({ cls := "EvenTown$Tape", name := "passNumber", desc := "(II)I" } : Jvm.MethodName)) ∈ GW := gw_4 36 rfl rfl
theorem q4_37 : (Jvm.Cond.code ({ cls := "EvenTown$Tape", name := "passNumber", desc := "(II)I" } : Jvm.MethodName) prog_10_method_14_code (4 : Nat) (Option.some Jvm.ClassFile.FieldType.int)) ∈ GW := gw_4 37 rfl rfl
theorem q4_38 : (Jvm.Cond.methodLink "EvenTown$TownReader" (133 : Nat) ({ cls := "EvenTown$Town", name := "addWay", desc := "(III)V" } : Jvm.MethodName)) ∈ GW := gw_4 38 rfl rfl
theorem q4_39 : (Jvm.Cond.instanceMethod ({ cls := "EvenTown$Town", name := "addWay", desc := "(III)V" } : Jvm.MethodName)) ∈ GW := gw_4 39 rfl rfl
theorem q4_40 : (Jvm.Cond.selects "EvenTown$Town" ({ cls := "EvenTown$Town", name := "addWay", desc := "(III)V" } : Jvm.MethodName) ({ cls := "EvenTown$Town", name := "addWay", desc := "(III)V" } : Jvm.MethodName)) ∈ GW := gw_4 40 rfl rfl
theorem q4_41 : (Jvm.Cond.code ({ cls := "EvenTown$Town", name := "addWay", desc := "(III)V" } : Jvm.MethodName) prog_11_method_3_code (4 : Nat) (Option.none : Option Jvm.ClassFile.FieldType)) ∈ GW := gw_4 41 rfl rfl
theorem q4_42 : (Jvm.Cond.methodLink "EvenTown$TownReader" (60 : Nat) ({ cls := "EvenTown$TownReader", name := "readPerson", desc := "()Z" } : Jvm.MethodName)) ∈ GW := gw_4 42 rfl rfl
theorem q4_44 : (Jvm.Cond.instanceMethod ({ cls := "EvenTown$TownReader", name := "readPerson", desc := "()Z" } : Jvm.MethodName)) ∈ GW := gw_4 44 rfl rfl
theorem q4_45 : (Jvm.Cond.code ({ cls := "EvenTown$TownReader", name := "readPerson", desc := "()Z" } : Jvm.MethodName) prog_12_method_9_code (4 : Nat) (Option.some Jvm.ClassFile.FieldType.boolean)) ∈ GW := gw_4 45 rfl rfl
theorem q4_46 : (Jvm.Cond.methodLink "EvenTown$TownReader" (63 : Nat) ({ cls := "EvenTown$TownReader", name := "readDog", desc := "()Z" } : Jvm.MethodName)) ∈ GW := gw_4 46 rfl rfl
theorem q4_48 : (Jvm.Cond.instanceMethod ({ cls := "EvenTown$TownReader", name := "readDog", desc := "()Z" } : Jvm.MethodName)) ∈ GW := gw_4 48 rfl rfl
theorem q4_49 : (Jvm.Cond.code ({ cls := "EvenTown$TownReader", name := "readDog", desc := "()Z" } : Jvm.MethodName) prog_12_method_10_code (3 : Nat) (Option.some Jvm.ClassFile.FieldType.boolean)) ∈ GW := gw_4 49 rfl rfl
theorem q4_50 : (Jvm.Cond.methodLink "EvenTown$TownReader" (66 : Nat) ({ cls := "EvenTown$TownReader", name := "readErrand", desc := "()Z" } : Jvm.MethodName)) ∈ GW := gw_4 50 rfl rfl
theorem q4_52 : (Jvm.Cond.instanceMethod ({ cls := "EvenTown$TownReader", name := "readErrand", desc := "()Z" } : Jvm.MethodName)) ∈ GW := gw_4 52 rfl rfl
theorem q4_53 : (Jvm.Cond.code ({ cls := "EvenTown$TownReader", name := "readErrand", desc := "()Z" } : Jvm.MethodName) prog_12_method_11_code (5 : Nat) (Option.some Jvm.ClassFile.FieldType.boolean)) ∈ GW := gw_4 53 rfl rfl
theorem q4_54 : (Jvm.Cond.methodLink "EvenTown$TownReader" (69 : Nat) ({ cls := "EvenTown$TownReader", name := "readHour", desc := "()Z" } : Jvm.MethodName)) ∈ GW := gw_4 54 rfl rfl
theorem q4_56 : (Jvm.Cond.instanceMethod ({ cls := "EvenTown$TownReader", name := "readHour", desc := "()Z" } : Jvm.MethodName)) ∈ GW := gw_4 56 rfl rfl
theorem q4_57 : (Jvm.Cond.code ({ cls := "EvenTown$TownReader", name := "readHour", desc := "()Z" } : Jvm.MethodName) prog_12_method_12_code (1 : Nat) (Option.some Jvm.ClassFile.FieldType.boolean)) ∈ GW := gw_4 57 rfl rfl
theorem q4_58 : (Jvm.Cond.methodLink "EvenTown$TownReader" (72 : Nat) ({ cls := "EvenTown$TownReader", name := "readStrokes", desc := "()Z" } : Jvm.MethodName)) ∈ GW := gw_4 58 rfl rfl
theorem q4_60 : (Jvm.Cond.instanceMethod ({ cls := "EvenTown$TownReader", name := "readStrokes", desc := "()Z" } : Jvm.MethodName)) ∈ GW := gw_4 60 rfl rfl
theorem q4_61 : (Jvm.Cond.code ({ cls := "EvenTown$TownReader", name := "readStrokes", desc := "()Z" } : Jvm.MethodName) prog_12_method_13_code (1 : Nat) (Option.some Jvm.ClassFile.FieldType.boolean)) ∈ GW := gw_4 61 rfl rfl
theorem q4_62 : (Jvm.Cond.methodLink "EvenTown$TownReader" (75 : Nat) ({ cls := "EvenTown$TownReader", name := "readRule", desc := "()Z" } : Jvm.MethodName)) ∈ GW := gw_4 62 rfl rfl
theorem q4_64 : (Jvm.Cond.instanceMethod ({ cls := "EvenTown$TownReader", name := "readRule", desc := "()Z" } : Jvm.MethodName)) ∈ GW := gw_4 64 rfl rfl
theorem q4_65 : (Jvm.Cond.code ({ cls := "EvenTown$TownReader", name := "readRule", desc := "()Z" } : Jvm.MethodName) prog_12_method_14_code (1 : Nat) (Option.some Jvm.ClassFile.FieldType.boolean)) ∈ GW := gw_4 65 rfl rfl
theorem q4_68 : (Jvm.Cond.instanceMethod ({ cls := "EvenTown$Rule", name := "readEither", desc := "(LEvenTown$Tape;I)Z" } : Jvm.MethodName)) ∈ GW := gw_4 68 rfl rfl
theorem q4_69 : (Jvm.Cond.code ({ cls := "EvenTown$Rule", name := "readEither", desc := "(LEvenTown$Tape;I)Z" } : Jvm.MethodName) prog_9_method_4_code (5 : Nat) (Option.some Jvm.ClassFile.FieldType.boolean)) ∈ GW := gw_4 69 rfl rfl
theorem q4_70 : (Jvm.Cond.methodLink "EvenTown$Rule" (25 : Nat) ({ cls := "EvenTown$Rule", name := "readBoth", desc := "(LEvenTown$Tape;I)Z" } : Jvm.MethodName)) ∈ GW := gw_4 70 rfl rfl
theorem q4_72 : (Jvm.Cond.instanceMethod ({ cls := "EvenTown$Rule", name := "readBoth", desc := "(LEvenTown$Tape;I)Z" } : Jvm.MethodName)) ∈ GW := gw_4 72 rfl rfl
theorem q4_73 : (Jvm.Cond.code ({ cls := "EvenTown$Rule", name := "readBoth", desc := "(LEvenTown$Tape;I)Z" } : Jvm.MethodName) prog_9_method_5_code (5 : Nat) (Option.some Jvm.ClassFile.FieldType.boolean)) ∈ GW := gw_4 73 rfl rfl
theorem q4_74 : (Jvm.Cond.methodLink "EvenTown$Rule" (41 : Nat) ({ cls := "EvenTown$Rule", name := "readOne", desc := "(LEvenTown$Tape;I)Z" } : Jvm.MethodName)) ∈ GW := gw_4 74 rfl rfl
theorem q4_76 : (Jvm.Cond.instanceMethod ({ cls := "EvenTown$Rule", name := "readOne", desc := "(LEvenTown$Tape;I)Z" } : Jvm.MethodName)) ∈ GW := gw_4 76 rfl rfl
theorem q4_77 : (Jvm.Cond.code ({ cls := "EvenTown$Rule", name := "readOne", desc := "(LEvenTown$Tape;I)Z" } : Jvm.MethodName) prog_9_method_6_code (3 : Nat) (Option.some Jvm.ClassFile.FieldType.boolean)) ∈ GW := gw_4 77 rfl rfl
theorem q4_78 : (Jvm.Cond.methodLink "EvenTown$Rule" (44 : Nat) ({ cls := "EvenTown$Rule", name := "readRelation", desc := "(LEvenTown$Tape;I)Z" } : Jvm.MethodName)) ∈ GW := gw_4 78 rfl rfl
theorem q4_80 : (Jvm.Cond.instanceMethod ({ cls := "EvenTown$Rule", name := "readRelation", desc := "(LEvenTown$Tape;I)Z" } : Jvm.MethodName)) ∈ GW := gw_4 80 rfl rfl
theorem q4_81 : (Jvm.Cond.code ({ cls := "EvenTown$Rule", name := "readRelation", desc := "(LEvenTown$Tape;I)Z" } : Jvm.MethodName) prog_9_method_7_code (4 : Nat) (Option.some Jvm.ClassFile.FieldType.boolean)) ∈ GW := gw_4 81 rfl rfl
theorem q4_82 : (Jvm.Cond.methodLink "EvenTown$Rule" (50 : Nat) ({ cls := "EvenTown$Rule", name := "readSum", desc := "(LEvenTown$Tape;I)Z" } : Jvm.MethodName)) ∈ GW := gw_4 82 rfl rfl
theorem q4_84 : (Jvm.Cond.instanceMethod ({ cls := "EvenTown$Rule", name := "readSum", desc := "(LEvenTown$Tape;I)Z" } : Jvm.MethodName)) ∈ GW := gw_4 84 rfl rfl
theorem q4_85 : (Jvm.Cond.code ({ cls := "EvenTown$Rule", name := "readSum", desc := "(LEvenTown$Tape;I)Z" } : Jvm.MethodName) prog_9_method_8_code (6 : Nat) (Option.some Jvm.ClassFile.FieldType.boolean)) ∈ GW := gw_4 85 rfl rfl
theorem q4_86 : (Jvm.Cond.methodLink "EvenTown$Rule" (53 : Nat) ({ cls := "EvenTown$Rule", name := "readTerm", desc := "(LEvenTown$Tape;I)Z" } : Jvm.MethodName)) ∈ GW := gw_4 86 rfl rfl
theorem q4_88 : (Jvm.Cond.instanceMethod ({ cls := "EvenTown$Rule", name := "readTerm", desc := "(LEvenTown$Tape;I)Z" } : Jvm.MethodName)) ∈ GW := gw_4 88 rfl rfl
theorem q4_89 : (Jvm.Cond.code ({ cls := "EvenTown$Rule", name := "readTerm", desc := "(LEvenTown$Tape;I)Z" } : Jvm.MethodName) prog_9_method_9_code (6 : Nat) (Option.some Jvm.ClassFile.FieldType.boolean)) ∈ GW := gw_4 89 rfl rfl
theorem q4_90 : (Jvm.Cond.methodLink "EvenTown$Rule" (56 : Nat) ({ cls := "EvenTown$Rule", name := "readUnit", desc := "(LEvenTown$Tape;I)Z" } : Jvm.MethodName)) ∈ GW := gw_4 90 rfl rfl
theorem q4_92 : (Jvm.Cond.instanceMethod ({ cls := "EvenTown$Rule", name := "readUnit", desc := "(LEvenTown$Tape;I)Z" } : Jvm.MethodName)) ∈ GW := gw_4 92 rfl rfl
theorem q4_93 : (Jvm.Cond.code ({ cls := "EvenTown$Rule", name := "readUnit", desc := "(LEvenTown$Tape;I)Z" } : Jvm.MethodName) prog_9_method_10_code (5 : Nat) (Option.some Jvm.ClassFile.FieldType.boolean)) ∈ GW := gw_4 93 rfl rfl
theorem q4_94 : (Jvm.Cond.methodLink "EvenTown$Rule" (59 : Nat) ({ cls := "EvenTown$Rule", name := "beginsUnit", desc := "(I)Z" } : Jvm.MethodName)) ∈ GW := gw_4 94 rfl rfl
theorem q4_95 : (Jvm.Cond.static ({ cls := "EvenTown$Rule", name := "beginsUnit", desc := "(I)Z" } : Jvm.MethodName)) ∈ GW := gw_4 95 rfl rfl
theorem q4_96 : (Jvm.Cond.code ({ cls := "EvenTown$Rule", name := "beginsUnit", desc := "(I)Z" } : Jvm.MethodName) prog_9_method_11_code (1 : Nat) (Option.some Jvm.ClassFile.FieldType.boolean)) ∈ GW := gw_4 96 rfl rfl
theorem q4_97 : (Jvm.Cond.methodLink "EvenTown$Rule" (62 : Nat) ({ cls := "EvenTown$Tape", name := "refuse", desc := "()Z" } : Jvm.MethodName)) ∈ GW := gw_4 97 rfl rfl
theorem q4_98 : (Jvm.Cond.methodLink "EvenTown$Rule" (47 : Nat) ({ cls := "EvenTown$Tape", name := "blame", desc := "(I)Z" } : Jvm.MethodName)) ∈ GW := gw_4 98 rfl rfl
theorem q4_99 : (Jvm.Cond.methodLink "EvenTown$Rule" (34 : Nat) ({ cls := "EvenTown$Tape", name := "step", desc := "()V" } : Jvm.MethodName)) ∈ GW := gw_4 99 rfl rfl
theorem q4_100 : (Jvm.Cond.methodLink "EvenTown$Rule" (69 : Nat) ({ cls := "EvenTown$Rule", name := "readEither", desc := "(LEvenTown$Tape;I)Z" } : Jvm.MethodName)) ∈ GW := gw_4 100 rfl rfl
theorem q4_101 : (Jvm.Cond.methodLink "EvenTown$Rule" (72 : Nat) ({ cls := "EvenTown$Tape", name := "pass", desc := "(I)Z" } : Jvm.MethodName)) ∈ GW := gw_4 101 rfl rfl
theorem q4_102 : (Jvm.Cond.methodLink "EvenTown$Rule" (37 : Nat) ({ cls := "EvenTown$Rule", name := "put", desc := "(I)Z" } : Jvm.MethodName)) ∈ GW := gw_4 102 rfl rfl
theorem q4_104 : (Jvm.Cond.instanceMethod ({ cls := "EvenTown$Rule", name := "put", desc := "(I)Z" } : Jvm.MethodName)) ∈ GW := gw_4 104 rfl rfl
theorem q4_105 : (Jvm.Cond.code ({ cls := "EvenTown$Rule", name := "put", desc := "(I)Z" } : Jvm.MethodName) prog_9_method_3_code (2 : Nat) (Option.some Jvm.ClassFile.FieldType.boolean)) ∈ GW := gw_4 105 rfl rfl
theorem q4_106 : (Jvm.Cond.methodLink "EvenTown$TownReader" (51 : Nat) ({ cls := "EvenTown$Town", name := "finish", desc := "()V" } : Jvm.MethodName)) ∈ GW := gw_4 106 rfl rfl
theorem q4_107 : (Jvm.Cond.methodLink "EvenTown" (91 : Nat) ({ cls := "EvenTown$Answers", name := "turnTo", desc := "(LEvenTown$Town;)V" } : Jvm.MethodName)) ∈ GW := gw_4 107 rfl rfl
theorem q4_108 : (Jvm.Cond.instanceMethod ({ cls := "EvenTown$Answers", name := "turnTo", desc := "(LEvenTown$Town;)V" } : Jvm.MethodName)) ∈ GW := gw_4 108 rfl rfl
theorem q4_109 : (Jvm.Cond.selects "EvenTown$Answers" ({ cls := "EvenTown$Answers", name := "turnTo", desc := "(LEvenTown$Town;)V" } : Jvm.MethodName) ({ cls := "EvenTown$Answers", name := "turnTo", desc := "(LEvenTown$Town;)V" } : Jvm.MethodName)) ∈ GW := gw_4 109 rfl rfl
theorem q4_110 : (Jvm.Cond.code ({ cls := "EvenTown$Answers", name := "turnTo", desc := "(LEvenTown$Town;)V" } : Jvm.MethodName) prog_2_method_2_code (3 : Nat) (Option.none : Option Jvm.ClassFile.FieldType)) ∈ GW := gw_4 110 rfl rfl
theorem q4_111 : (Jvm.Cond.methodLink "EvenTown" (94 : Nat) ({ cls := "EvenTown$Plan", name := "stayHome", desc := "(LEvenTown$Town;)V" } : Jvm.MethodName)) ∈ GW := gw_4 111 rfl rfl
theorem q4_112 : (Jvm.Cond.instanceMethod ({ cls := "EvenTown$Plan", name := "stayHome", desc := "(LEvenTown$Town;)V" } : Jvm.MethodName)) ∈ GW := gw_4 112 rfl rfl
theorem q4_113 : (Jvm.Cond.selects "EvenTown$Plan" ({ cls := "EvenTown$Plan", name := "stayHome", desc := "(LEvenTown$Town;)V" } : Jvm.MethodName) ({ cls := "EvenTown$Plan", name := "stayHome", desc := "(LEvenTown$Town;)V" } : Jvm.MethodName)) ∈ GW := gw_4 113 rfl rfl
theorem q4_114 : (Jvm.Cond.code ({ cls := "EvenTown$Plan", name := "stayHome", desc := "(LEvenTown$Town;)V" } : Jvm.MethodName) prog_8_method_2_code (3 : Nat) (Option.none : Option Jvm.ClassFile.FieldType)) ∈ GW := gw_4 114 rfl rfl
theorem q4_115 : (Jvm.Cond.methodLink "EvenTown$Plan" (30 : Nat) ({ cls := "EvenTown$Plan", name := "stayFrom", desc := "(III)V" } : Jvm.MethodName)) ∈ GW := gw_4 115 rfl rfl
theorem q4_117 : (Jvm.Cond.instanceMethod ({ cls := "EvenTown$Plan", name := "stayFrom", desc := "(III)V" } : Jvm.MethodName)) ∈ GW := gw_4 117 rfl rfl
theorem q4_118 : (Jvm.Cond.code ({ cls := "EvenTown$Plan", name := "stayFrom", desc := "(III)V" } : Jvm.MethodName) prog_8_method_3_code (5 : Nat) (Option.none : Option Jvm.ClassFile.FieldType)) ∈ GW := gw_4 118 rfl rfl
theorem q4_119 : (Jvm.Cond.methodLink "EvenTown" (97 : Nat) ({ cls := "EvenTown$Earnest", name := "begin", desc := "(LEvenTown$Town;)V" } : Jvm.MethodName)) ∈ GW := gw_4 119 rfl rfl
theorem q4_120 : (Jvm.Cond.instanceMethod ({ cls := "EvenTown$Earnest", name := "begin", desc := "(LEvenTown$Town;)V" } : Jvm.MethodName)) ∈ GW := gw_4 120 rfl rfl
theorem q4_121 : (Jvm.Cond.selects "EvenTown$Earnest" ({ cls := "EvenTown$Earnest", name := "begin", desc := "(LEvenTown$Town;)V" } : Jvm.MethodName) ({ cls := "EvenTown$Earnest", name := "begin", desc := "(LEvenTown$Town;)V" } : Jvm.MethodName)) ∈ GW := gw_4 121 rfl rfl
theorem q4_122 : (Jvm.Cond.code ({ cls := "EvenTown$Earnest", name := "begin", desc := "(LEvenTown$Town;)V" } : Jvm.MethodName) prog_6_method_2_code (2 : Nat) (Option.none : Option Jvm.ClassFile.FieldType)) ∈ GW := gw_4 122 rfl rfl
theorem q4_123 : (Jvm.Cond.methodLink "EvenTown$Earnest" (30 : Nat) ({ cls := "java/lang/System", name := "arraycopy", desc := "(Ljava/lang/Object;ILjava/lang/Object;II)V" } : Jvm.MethodName)) ∈ GW := gw_4 123 rfl rfl
theorem q4_124 : (Jvm.Cond.static ({ cls := "java/lang/System", name := "arraycopy", desc := "(Ljava/lang/Object;ILjava/lang/Object;II)V" } : Jvm.MethodName)) ∈ GW := gw_4 124 rfl rfl
theorem q4_125 : (Jvm.Cond.native ({ cls := "java/lang/System", name := "arraycopy", desc := "(Ljava/lang/Object;ILjava/lang/Object;II)V" } : Jvm.MethodName)) ∈ GW := gw_4 125 rfl rfl
theorem q4_126 : (Jvm.Cond.methodLink "EvenTownLaw" (28 : Nat) ({ cls := "EvenTown", name := "plan", desc := "()I" } : Jvm.MethodName)) ∈ GW := gw_4 126 rfl rfl
theorem q4_127 : (Jvm.Cond.instanceMethod ({ cls := "EvenTown", name := "plan", desc := "()I" } : Jvm.MethodName)) ∈ GW := gw_4 127 rfl rfl
theorem q4_128 : (Jvm.Cond.selects "EvenTown" ({ cls := "EvenTown", name := "plan", desc := "()I" } : Jvm.MethodName) ({ cls := "EvenTown", name := "plan", desc := "()I" } : Jvm.MethodName)) ∈ GW := gw_4 128 rfl rfl
theorem q4_129 : (Jvm.Cond.code ({ cls := "EvenTown", name := "plan", desc := "()I" } : Jvm.MethodName) prog_1_method_5_code (3 : Nat) (Option.some Jvm.ClassFile.FieldType.int)) ∈ GW := gw_4 129 rfl rfl
theorem q4_130 : (Jvm.Cond.methodLink "EvenTown" (114 : Nat) ({ cls := "EvenTown$Plan", name := "readFrom", desc := "(LEvenTown$Tape;LEvenTown$Town;)I" } : Jvm.MethodName)) ∈ GW := gw_4 130 rfl rfl
theorem q4_131 : (Jvm.Cond.instanceMethod ({ cls := "EvenTown$Plan", name := "readFrom", desc := "(LEvenTown$Tape;LEvenTown$Town;)I" } : Jvm.MethodName)) ∈ GW := gw_4 131 rfl rfl
theorem q4_132 : (Jvm.Cond.selects "EvenTown$Plan" ({ cls := "EvenTown$Plan", name := "readFrom", desc := "(LEvenTown$Tape;LEvenTown$Town;)I" } : Jvm.MethodName) ({ cls := "EvenTown$Plan", name := "readFrom", desc := "(LEvenTown$Tape;LEvenTown$Town;)I" } : Jvm.MethodName)) ∈ GW := gw_4 132 rfl rfl
theorem q4_133 : (Jvm.Cond.code ({ cls := "EvenTown$Plan", name := "readFrom", desc := "(LEvenTown$Tape;LEvenTown$Town;)I" } : Jvm.MethodName) prog_8_method_4_code (6 : Nat) (Option.some Jvm.ClassFile.FieldType.int)) ∈ GW := gw_4 133 rfl rfl
theorem q4_134 : (Jvm.Cond.methodLink "EvenTown$Plan" (34 : Nat) ({ cls := "EvenTown$Plan", name := "stayHome", desc := "(LEvenTown$Town;)V" } : Jvm.MethodName)) ∈ GW := gw_4 134 rfl rfl
theorem q4_135 : (Jvm.Cond.methodLink "EvenTown$Plan" (38 : Nat) ({ cls := "EvenTown$Tape", name := "begin", desc := "()V" } : Jvm.MethodName)) ∈ GW := gw_4 135 rfl rfl
theorem q4_136 : (Jvm.Cond.methodLink "EvenTown$Plan" (50 : Nat) ({ cls := "EvenTown$Names", name := "find", desc := "(J)I" } : Jvm.MethodName)) ∈ GW := gw_4 136 rfl rfl
theorem q4_137 : (Jvm.Cond.methodLink "EvenTown$Plan" (54 : Nat) ({ cls := "EvenTown$Tape", name := "blame", desc := "(I)Z" } : Jvm.MethodName)) ∈ GW := gw_4 137 rfl rfl
theorem q4_138 : (Jvm.Cond.methodLink "EvenTown$Plan" (58 : Nat) ({ cls := "EvenTown$Tape", name := "passKnown", desc := "(LEvenTown$Names;)I" } : Jvm.MethodName)) ∈ GW := gw_4 138 rfl rfl
theorem q4_139 : (Jvm.Cond.methodLink "EvenTown$Plan" (62 : Nat) ({ cls := "EvenTown$Plan", name := "readPlaces", desc := "(LEvenTown$Tape;LEvenTown$Town;I)Z" } : Jvm.MethodName)) ∈ GW := gw_4 139 rfl rfl
theorem q4_141 : (Jvm.Cond.instanceMethod ({ cls := "EvenTown$Plan", name := "readPlaces", desc := "(LEvenTown$Tape;LEvenTown$Town;I)Z" } : Jvm.MethodName)) ∈ GW := gw_4 141 rfl rfl
theorem q4_142 : (Jvm.Cond.code ({ cls := "EvenTown$Plan", name := "readPlaces", desc := "(LEvenTown$Tape;LEvenTown$Town;I)Z" } : Jvm.MethodName) prog_8_method_5_code (6 : Nat) (Option.some Jvm.ClassFile.FieldType.boolean)) ∈ GW := gw_4 142 rfl rfl
theorem q4_143 : (Jvm.Cond.methodLink "EvenTown$Plan" (69 : Nat) ({ cls := "EvenTown$Tape", name := "refuse", desc := "()Z" } : Jvm.MethodName)) ∈ GW := gw_4 143 rfl rfl
theorem q4_144 : (Jvm.Cond.methodLink "EvenTown$Plan" (66 : Nat) ({ cls := "EvenTown$Tape", name := "pass", desc := "(I)Z" } : Jvm.MethodName)) ∈ GW := gw_4 144 rfl rfl
theorem q4_145 : (Jvm.Cond.methodLink "EvenTownLaw" (32 : Nat) ({ cls := "EvenTown", name := "fault", desc := "(I)I" } : Jvm.MethodName)) ∈ GW := gw_4 145 rfl rfl
theorem q4_146 : (Jvm.Cond.instanceMethod ({ cls := "EvenTown", name := "fault", desc := "(I)I" } : Jvm.MethodName)) ∈ GW := gw_4 146 rfl rfl
theorem q4_147 : (Jvm.Cond.selects "EvenTown" ({ cls := "EvenTown", name := "fault", desc := "(I)I" } : Jvm.MethodName) ({ cls := "EvenTown", name := "fault", desc := "(I)I" } : Jvm.MethodName)) ∈ GW := gw_4 147 rfl rfl
theorem q4_148 : (Jvm.Cond.code ({ cls := "EvenTown", name := "fault", desc := "(I)I" } : Jvm.MethodName) prog_1_method_6_code (2 : Nat) (Option.some Jvm.ClassFile.FieldType.int)) ∈ GW := gw_4 148 rfl rfl
theorem q4_149 : (Jvm.Cond.methodLink "EvenTownLaw" (36 : Nat) ({ cls := "EvenTown", name := "minutes", desc := "(II)I" } : Jvm.MethodName)) ∈ GW := gw_4 149 rfl rfl
theorem q4_150 : (Jvm.Cond.instanceMethod ({ cls := "EvenTown", name := "minutes", desc := "(II)I" } : Jvm.MethodName)) ∈ GW := gw_4 150 rfl rfl
theorem q4_151 : (Jvm.Cond.selects "EvenTown" ({ cls := "EvenTown", name := "minutes", desc := "(II)I" } : Jvm.MethodName) ({ cls := "EvenTown", name := "minutes", desc := "(II)I" } : Jvm.MethodName)) ∈ GW := gw_4 151 rfl rfl
theorem q4_152 : (Jvm.Cond.code ({ cls := "EvenTown", name := "minutes", desc := "(II)I" } : Jvm.MethodName) prog_1_method_7_code (4 : Nat) (Option.some Jvm.ClassFile.FieldType.int)) ∈ GW := gw_4 152 rfl rfl
theorem q4_153 : (Jvm.Cond.methodLink "EvenTown" (124 : Nat) ({ cls := "EvenTown$Town", name := "hasPlace", desc := "(I)Z" } : Jvm.MethodName)) ∈ GW := gw_4 153 rfl rfl
theorem q4_154 : (Jvm.Cond.instanceMethod ({ cls := "EvenTown$Town", name := "hasPlace", desc := "(I)Z" } : Jvm.MethodName)) ∈ GW := gw_4 154 rfl rfl
theorem q4_155 : (Jvm.Cond.selects "EvenTown$Town" ({ cls := "EvenTown$Town", name := "hasPlace", desc := "(I)Z" } : Jvm.MethodName) ({ cls := "EvenTown$Town", name := "hasPlace", desc := "(I)Z" } : Jvm.MethodName)) ∈ GW := gw_4 155 rfl rfl
theorem q4_156 : (Jvm.Cond.code ({ cls := "EvenTown$Town", name := "hasPlace", desc := "(I)Z" } : Jvm.MethodName) prog_11_method_8_code (2 : Nat) (Option.some Jvm.ClassFile.FieldType.boolean)) ∈ GW := gw_4 156 rfl rfl
theorem q4_157 : (Jvm.Cond.constant "EvenTown" (131 : Nat) (1000000 : Int32)) ∈ GW := gw_4 157 rfl rfl
theorem q4_158 : (Jvm.Cond.methodLink "EvenTownLaw" (41 : Nat) ({ cls := "EvenTown", name := "right", desc := "(III)I" } : Jvm.MethodName)) ∈ GW := gw_4 158 rfl rfl
theorem q4_159 : (Jvm.Cond.instanceMethod ({ cls := "EvenTown", name := "right", desc := "(III)I" } : Jvm.MethodName)) ∈ GW := gw_4 159 rfl rfl
theorem q4_160 : (Jvm.Cond.selects "EvenTown" ({ cls := "EvenTown", name := "right", desc := "(III)I" } : Jvm.MethodName) ({ cls := "EvenTown", name := "right", desc := "(III)I" } : Jvm.MethodName)) ∈ GW := gw_4 160 rfl rfl
theorem q4_161 : (Jvm.Cond.code ({ cls := "EvenTown", name := "right", desc := "(III)I" } : Jvm.MethodName) prog_1_method_8_code (4 : Nat) (Option.some Jvm.ClassFile.FieldType.int)) ∈ GW := gw_4 161 rfl rfl
theorem q4_162 : (Jvm.Cond.methodLink "EvenTown" (132 : Nat) ({ cls := "EvenTown", name := "isStroke", desc := "(II)Z" } : Jvm.MethodName)) ∈ GW := gw_4 162 rfl rfl
theorem q4_163 : (Jvm.Cond.static ({ cls := "EvenTown", name := "isStroke", desc := "(II)Z" } : Jvm.MethodName)) ∈ GW := gw_4 163 rfl rfl
theorem q4_164 : (Jvm.Cond.code ({ cls := "EvenTown", name := "isStroke", desc := "(II)Z" } : Jvm.MethodName) prog_1_method_31_code (2 : Nat) (Option.some Jvm.ClassFile.FieldType.boolean)) ∈ GW := gw_4 164 rfl rfl
theorem q4_165 : (Jvm.Cond.methodLink "EvenTown" (136 : Nat) ({ cls := "EvenTown$Town", name := "isRight", desc := "(III)Z" } : Jvm.MethodName)) ∈ GW := gw_4 165 rfl rfl
theorem q4_166 : (Jvm.Cond.instanceMethod ({ cls := "EvenTown$Town", name := "isRight", desc := "(III)Z" } : Jvm.MethodName)) ∈ GW := gw_4 166 rfl rfl
theorem q4_167 : (Jvm.Cond.selects "EvenTown$Town" ({ cls := "EvenTown$Town", name := "isRight", desc := "(III)Z" } : Jvm.MethodName) ({ cls := "EvenTown$Town", name := "isRight", desc := "(III)Z" } : Jvm.MethodName)) ∈ GW := gw_4 167 rfl rfl
theorem q4_168 : (Jvm.Cond.code ({ cls := "EvenTown$Town", name := "isRight", desc := "(III)Z" } : Jvm.MethodName) prog_11_method_11_code (4 : Nat) (Option.some Jvm.ClassFile.FieldType.boolean)) ∈ GW := gw_4 168 rfl rfl
theorem q4_169 : (Jvm.Cond.methodLink "EvenTownLaw" (46 : Nat) ({ cls := "EvenTown", name := "judge", desc := "(I)I" } : Jvm.MethodName)) ∈ GW := gw_4 169 rfl rfl
theorem q4_170 : (Jvm.Cond.instanceMethod ({ cls := "EvenTown", name := "judge", desc := "(I)I" } : Jvm.MethodName)) ∈ GW := gw_4 170 rfl rfl
theorem q4_171 : (Jvm.Cond.selects "EvenTown" ({ cls := "EvenTown", name := "judge", desc := "(I)I" } : Jvm.MethodName) ({ cls := "EvenTown", name := "judge", desc := "(I)I" } : Jvm.MethodName)) ∈ GW := gw_4 171 rfl rfl
theorem q4_172 : (Jvm.Cond.code ({ cls := "EvenTown", name := "judge", desc := "(I)I" } : Jvm.MethodName) prog_1_method_9_code (2 : Nat) (Option.some Jvm.ClassFile.FieldType.int)) ∈ GW := gw_4 172 rfl rfl
theorem q4_173 : (Jvm.Cond.methodLink "EvenTown" (140 : Nat) ({ cls := "EvenTown$Plan", name := "judgeIn", desc := "(LEvenTown$Town;)V" } : Jvm.MethodName)) ∈ GW := gw_4 173 rfl rfl
theorem q4_174 : (Jvm.Cond.instanceMethod ({ cls := "EvenTown$Plan", name := "judgeIn", desc := "(LEvenTown$Town;)V" } : Jvm.MethodName)) ∈ GW := gw_4 174 rfl rfl
theorem q4_175 : (Jvm.Cond.selects "EvenTown$Plan" ({ cls := "EvenTown$Plan", name := "judgeIn", desc := "(LEvenTown$Town;)V" } : Jvm.MethodName) ({ cls := "EvenTown$Plan", name := "judgeIn", desc := "(LEvenTown$Town;)V" } : Jvm.MethodName)) ∈ GW := gw_4 175 rfl rfl
theorem q4_176 : (Jvm.Cond.code ({ cls := "EvenTown$Plan", name := "judgeIn", desc := "(LEvenTown$Town;)V" } : Jvm.MethodName) prog_8_method_6_code (3 : Nat) (Option.none : Option Jvm.ClassFile.FieldType)) ∈ GW := gw_4 176 rfl rfl
theorem q4_177 : (Jvm.Cond.methodLink "EvenTown$Plan" (88 : Nat) ({ cls := "EvenTown$Plan", name := "firstLate", desc := "(LEvenTown$Town;I)I" } : Jvm.MethodName)) ∈ GW := gw_4 177 rfl rfl
theorem q4_179 : (Jvm.Cond.instanceMethod ({ cls := "EvenTown$Plan", name := "firstLate", desc := "(LEvenTown$Town;I)I" } : Jvm.MethodName)) ∈ GW := gw_4 179 rfl rfl
theorem q4_180 : (Jvm.Cond.code ({ cls := "EvenTown$Plan", name := "firstLate", desc := "(LEvenTown$Town;I)I" } : Jvm.MethodName) prog_8_method_8_code (4 : Nat) (Option.some Jvm.ClassFile.FieldType.int)) ∈ GW := gw_4 180 rfl rfl
theorem q4_181 : (Jvm.Cond.methodLink "EvenTown$Plan" (101 : Nat) ({ cls := "EvenTown$Plan", name := "placeAt", desc := "(II)I" } : Jvm.MethodName)) ∈ GW := gw_4 181 rfl rfl
theorem q4_182 : (Jvm.Cond.instanceMethod ({ cls := "EvenTown$Plan", name := "placeAt", desc := "(II)I" } : Jvm.MethodName)) ∈ GW := gw_4 182 rfl rfl
theorem q4_183 : (Jvm.Cond.selects "EvenTown$Plan" ({ cls := "EvenTown$Plan", name := "placeAt", desc := "(II)I" } : Jvm.MethodName) ({ cls := "EvenTown$Plan", name := "placeAt", desc := "(II)I" } : Jvm.MethodName)) ∈ GW := gw_4 183 rfl rfl
theorem q4_184 : (Jvm.Cond.code ({ cls := "EvenTown$Plan", name := "placeAt", desc := "(II)I" } : Jvm.MethodName) prog_8_method_11_code (3 : Nat) (Option.some Jvm.ClassFile.FieldType.int)) ∈ GW := gw_4 184 rfl rfl
theorem q4_185 : (Jvm.Cond.methodLink "EvenTown$Plan" (105 : Nat) ({ cls := "EvenTown$Town", name := "gets", desc := "(II)Z" } : Jvm.MethodName)) ∈ GW := gw_4 185 rfl rfl
theorem q4_186 : (Jvm.Cond.instanceMethod ({ cls := "EvenTown$Town", name := "gets", desc := "(II)Z" } : Jvm.MethodName)) ∈ GW := gw_4 186 rfl rfl
theorem q4_187 : (Jvm.Cond.selects "EvenTown$Town" ({ cls := "EvenTown$Town", name := "gets", desc := "(II)Z" } : Jvm.MethodName) ({ cls := "EvenTown$Town", name := "gets", desc := "(II)Z" } : Jvm.MethodName)) ∈ GW := gw_4 187 rfl rfl
theorem q4_188 : (Jvm.Cond.code ({ cls := "EvenTown$Town", name := "gets", desc := "(II)Z" } : Jvm.MethodName) prog_11_method_10_code (3 : Nat) (Option.some Jvm.ClassFile.FieldType.boolean)) ∈ GW := gw_4 188 rfl rfl
theorem q4_189 : (Jvm.Cond.methodLink "EvenTown$Plan" (92 : Nat) ({ cls := "EvenTown$Plan", name := "note", desc := "(III)V" } : Jvm.MethodName)) ∈ GW := gw_4 189 rfl rfl
theorem q4_191 : (Jvm.Cond.instanceMethod ({ cls := "EvenTown$Plan", name := "note", desc := "(III)V" } : Jvm.MethodName)) ∈ GW := gw_4 191 rfl rfl
theorem q4_192 : (Jvm.Cond.code ({ cls := "EvenTown$Plan", name := "note", desc := "(III)V" } : Jvm.MethodName) prog_8_method_7_code (4 : Nat) (Option.none : Option Jvm.ClassFile.FieldType)) ∈ GW := gw_4 192 rfl rfl
theorem q4_193 : (Jvm.Cond.methodLink "EvenTown$Plan" (95 : Nat) ({ cls := "EvenTown$Plan", name := "firstWrong", desc := "(LEvenTown$Town;I)I" } : Jvm.MethodName)) ∈ GW := gw_4 193 rfl rfl
theorem q4_195 : (Jvm.Cond.instanceMethod ({ cls := "EvenTown$Plan", name := "firstWrong", desc := "(LEvenTown$Town;I)I" } : Jvm.MethodName)) ∈ GW := gw_4 195 rfl rfl
theorem q4_196 : (Jvm.Cond.code ({ cls := "EvenTown$Plan", name := "firstWrong", desc := "(LEvenTown$Town;I)I" } : Jvm.MethodName) prog_8_method_9_code (5 : Nat) (Option.some Jvm.ClassFile.FieldType.int)) ∈ GW := gw_4 196 rfl rfl
theorem q4_197 : (Jvm.Cond.methodLink "EvenTown$Plan" (109 : Nat) ({ cls := "EvenTown$Town", name := "crowd", desc := "([III)I" } : Jvm.MethodName)) ∈ GW := gw_4 197 rfl rfl
theorem q4_198 : (Jvm.Cond.instanceMethod ({ cls := "EvenTown$Town", name := "crowd", desc := "([III)I" } : Jvm.MethodName)) ∈ GW := gw_4 198 rfl rfl
theorem q4_199 : (Jvm.Cond.selects "EvenTown$Town" ({ cls := "EvenTown$Town", name := "crowd", desc := "([III)I" } : Jvm.MethodName) ({ cls := "EvenTown$Town", name := "crowd", desc := "([III)I" } : Jvm.MethodName)) ∈ GW := gw_4 199 rfl rfl
theorem q4_200 : (Jvm.Cond.code ({ cls := "EvenTown$Town", name := "crowd", desc := "([III)I" } : Jvm.MethodName) prog_11_method_12_code (6 : Nat) (Option.some Jvm.ClassFile.FieldType.int)) ∈ GW := gw_4 200 rfl rfl
theorem q4_201 : (Jvm.Cond.methodLink "EvenTown$Plan" (113 : Nat) ({ cls := "EvenTown$Town", name := "isRight", desc := "(III)Z" } : Jvm.MethodName)) ∈ GW := gw_4 201 rfl rfl
theorem q4_202 : (Jvm.Cond.methodLink "EvenTown$Plan" (98 : Nat) ({ cls := "EvenTown$Plan", name := "firstUndone", desc := "(LEvenTown$Town;I)I" } : Jvm.MethodName)) ∈ GW := gw_4 202 rfl rfl
theorem q4_204 : (Jvm.Cond.instanceMethod ({ cls := "EvenTown$Plan", name := "firstUndone", desc := "(LEvenTown$Town;I)I" } : Jvm.MethodName)) ∈ GW := gw_4 204 rfl rfl
theorem q4_205 : (Jvm.Cond.code ({ cls := "EvenTown$Plan", name := "firstUndone", desc := "(LEvenTown$Town;I)I" } : Jvm.MethodName) prog_8_method_10_code (4 : Nat) (Option.some Jvm.ClassFile.FieldType.int)) ∈ GW := gw_4 205 rfl rfl
theorem q4_206 : (Jvm.Cond.methodLink "EvenTownLaw" (50 : Nat) ({ cls := "EvenTown", name := "value", desc := "(I)I" } : Jvm.MethodName)) ∈ GW := gw_4 206 rfl rfl
theorem q4_207 : (Jvm.Cond.instanceMethod ({ cls := "EvenTown", name := "value", desc := "(I)I" } : Jvm.MethodName)) ∈ GW := gw_4 207 rfl rfl
theorem q4_208 : (Jvm.Cond.selects "EvenTown" ({ cls := "EvenTown", name := "value", desc := "(I)I" } : Jvm.MethodName) ({ cls := "EvenTown", name := "value", desc := "(I)I" } : Jvm.MethodName)) ∈ GW := gw_4 208 rfl rfl
theorem q4_209 : (Jvm.Cond.code ({ cls := "EvenTown", name := "value", desc := "(I)I" } : Jvm.MethodName) prog_1_method_10_code (2 : Nat) (Option.some Jvm.ClassFile.FieldType.int)) ∈ GW := gw_4 209 rfl rfl
theorem q4_210 : (Jvm.Cond.methodLink "EvenTown" (152 : Nat) ({ cls := "EvenTown", name := "isSort", desc := "(I)Z" } : Jvm.MethodName)) ∈ GW := gw_4 210 rfl rfl
theorem q4_211 : (Jvm.Cond.static ({ cls := "EvenTown", name := "isSort", desc := "(I)Z" } : Jvm.MethodName)) ∈ GW := gw_4 211 rfl rfl
theorem q4_212 : (Jvm.Cond.code ({ cls := "EvenTown", name := "isSort", desc := "(I)Z" } : Jvm.MethodName) prog_1_method_30_code (1 : Nat) (Option.some Jvm.ClassFile.FieldType.boolean)) ∈ GW := gw_4 212 rfl rfl
theorem q4_213 : (Jvm.Cond.methodLink "EvenTown" (155 : Nat) ({ cls := "EvenTown$Answers", name := "worthOfPlan", desc := "(ILEvenTown$Plan;)I" } : Jvm.MethodName)) ∈ GW := gw_4 213 rfl rfl
theorem q4_214 : (Jvm.Cond.instanceMethod ({ cls := "EvenTown$Answers", name := "worthOfPlan", desc := "(ILEvenTown$Plan;)I" } : Jvm.MethodName)) ∈ GW := gw_4 214 rfl rfl
theorem q4_215 : (Jvm.Cond.selects "EvenTown$Answers" ({ cls := "EvenTown$Answers", name := "worthOfPlan", desc := "(ILEvenTown$Plan;)I" } : Jvm.MethodName) ({ cls := "EvenTown$Answers", name := "worthOfPlan", desc := "(ILEvenTown$Plan;)I" } : Jvm.MethodName)) ∈ GW := gw_4 215 rfl rfl
theorem q4_216 : (Jvm.Cond.code ({ cls := "EvenTown$Answers", name := "worthOfPlan", desc := "(ILEvenTown$Plan;)I" } : Jvm.MethodName) prog_2_method_3_code (3 : Nat) (Option.some Jvm.ClassFile.FieldType.int)) ∈ GW := gw_4 216 rfl rfl
theorem q4_217 : (Jvm.Cond.methodLink "EvenTown$Answers" (69 : Nat) ({ cls := "EvenTown$Day", name := "lay", desc := "(LEvenTown$Town;II)V" } : Jvm.MethodName)) ∈ GW := gw_4 217 rfl rfl
theorem q4_218 : (Jvm.Cond.instanceMethod ({ cls := "EvenTown$Day", name := "lay", desc := "(LEvenTown$Town;II)V" } : Jvm.MethodName)) ∈ GW := gw_4 218 rfl rfl
theorem q4_219 : (Jvm.Cond.selects "EvenTown$Day" ({ cls := "EvenTown$Day", name := "lay", desc := "(LEvenTown$Town;II)V" } : Jvm.MethodName) ({ cls := "EvenTown$Day", name := "lay", desc := "(LEvenTown$Town;II)V" } : Jvm.MethodName)) ∈ GW := gw_4 219 rfl rfl
theorem q4_220 : (Jvm.Cond.code ({ cls := "EvenTown$Day", name := "lay", desc := "(LEvenTown$Town;II)V" } : Jvm.MethodName) prog_4_method_2_code (5 : Nat) (Option.none : Option Jvm.ClassFile.FieldType)) ∈ GW := gw_4 220 rfl rfl
theorem q4_221 : (Jvm.Cond.methodLink "EvenTown$Day" (46 : Nat) ({ cls := "EvenTown$Day", name := "errandsCanBe", desc := "()Z" } : Jvm.MethodName)) ∈ GW := gw_4 221 rfl rfl
theorem q4_223 : (Jvm.Cond.instanceMethod ({ cls := "EvenTown$Day", name := "errandsCanBe", desc := "()Z" } : Jvm.MethodName)) ∈ GW := gw_4 223 rfl rfl
theorem q4_224 : (Jvm.Cond.code ({ cls := "EvenTown$Day", name := "errandsCanBe", desc := "()Z" } : Jvm.MethodName) prog_4_method_3_code (2 : Nat) (Option.some Jvm.ClassFile.FieldType.boolean)) ∈ GW := gw_4 224 rfl rfl
theorem q4_225 : (Jvm.Cond.methodLink "EvenTown$Day" (50 : Nat) ({ cls := "EvenTown$Day", name := "layStates", desc := "()V" } : Jvm.MethodName)) ∈ GW := gw_4 225 rfl rfl
theorem q4_227 : (Jvm.Cond.instanceMethod ({ cls := "EvenTown$Day", name := "layStates", desc := "()V" } : Jvm.MethodName)) ∈ GW := gw_4 227 rfl rfl
theorem q4_228 : (Jvm.Cond.code ({ cls := "EvenTown$Day", name := "layStates", desc := "()V" } : Jvm.MethodName) prog_4_method_4_code (2 : Nat) (Option.none : Option Jvm.ClassFile.FieldType)) ∈ GW := gw_4 228 rfl rfl
theorem q4_229 : (Jvm.Cond.methodLink "EvenTown$Day" (54 : Nat) ({ cls := "java/lang/System", name := "arraycopy", desc := "(Ljava/lang/Object;ILjava/lang/Object;II)V" } : Jvm.MethodName)) ∈ GW := gw_4 229 rfl rfl
theorem q4_230 : (Jvm.Cond.methodLink "EvenTown$Day" (63 : Nat) ({ cls := "EvenTown$Day", name := "walkOf", desc := "(I)I" } : Jvm.MethodName)) ∈ GW := gw_4 230 rfl rfl
theorem q4_232 : (Jvm.Cond.instanceMethod ({ cls := "EvenTown$Day", name := "walkOf", desc := "(I)I" } : Jvm.MethodName)) ∈ GW := gw_4 232 rfl rfl
theorem q4_233 : (Jvm.Cond.code ({ cls := "EvenTown$Day", name := "walkOf", desc := "(I)I" } : Jvm.MethodName) prog_4_method_5_code (2 : Nat) (Option.some Jvm.ClassFile.FieldType.int)) ∈ GW := gw_4 233 rfl rfl
theorem q4_234 : (Jvm.Cond.constant "EvenTown$Day" (92 : Nat) (-1000000 : Int32)) ∈ GW := gw_4 234 rfl rfl
theorem q4_235 : (Jvm.Cond.methodLink "EvenTown$Day" (67 : Nat) ({ cls := "EvenTown$Day", name := "layGains", desc := "(II)V" } : Jvm.MethodName)) ∈ GW := gw_4 235 rfl rfl
theorem q4_237 : (Jvm.Cond.instanceMethod ({ cls := "EvenTown$Day", name := "layGains", desc := "(II)V" } : Jvm.MethodName)) ∈ GW := gw_4 237 rfl rfl
theorem q4_238 : (Jvm.Cond.code ({ cls := "EvenTown$Day", name := "layGains", desc := "(II)V" } : Jvm.MethodName) prog_4_method_6_code (5 : Nat) (Option.none : Option Jvm.ClassFile.FieldType)) ∈ GW := gw_4 238 rfl rfl
theorem q4_239 : (Jvm.Cond.methodLink "EvenTown$Day" (93 : Nat) ({ cls := "EvenTown$Day", name := "gainOf", desc := "(IIII)I" } : Jvm.MethodName)) ∈ GW := gw_4 239 rfl rfl
theorem q5_1 : (Jvm.Cond.instanceMethod ({ cls := "EvenTown$Day", name := "gainOf", desc := "(IIII)I" } : Jvm.MethodName)) ∈ GW := gw_5 1 rfl rfl
theorem q5_2 : (Jvm.Cond.code ({ cls := "EvenTown$Day", name := "gainOf", desc := "(IIII)I" } : Jvm.MethodName) prog_4_method_7_code (10 : Nat) (Option.some Jvm.ClassFile.FieldType.int)) ∈ GW := gw_5 2 rfl rfl
theorem q5_3 : (Jvm.Cond.methodLink "EvenTown$Answers" (73 : Nat) ({ cls := "EvenTown$Plan", name := "worthOn", desc := "(LEvenTown$Day;)I" } : Jvm.MethodName)) ∈ GW := gw_5 3 rfl rfl
theorem q5_4 : (Jvm.Cond.instanceMethod ({ cls := "EvenTown$Plan", name := "worthOn", desc := "(LEvenTown$Day;)I" } : Jvm.MethodName)) ∈ GW := gw_5 4 rfl rfl
theorem q5_5 : (Jvm.Cond.selects "EvenTown$Plan" ({ cls := "EvenTown$Plan", name := "worthOn", desc := "(LEvenTown$Day;)I" } : Jvm.MethodName) ({ cls := "EvenTown$Plan", name := "worthOn", desc := "(LEvenTown$Day;)I" } : Jvm.MethodName)) ∈ GW := gw_5 5 rfl rfl
theorem q5_6 : (Jvm.Cond.code ({ cls := "EvenTown$Plan", name := "worthOn", desc := "(LEvenTown$Day;)I" } : Jvm.MethodName) prog_8_method_12_code (5 : Nat) (Option.some Jvm.ClassFile.FieldType.int)) ∈ GW := gw_5 6 rfl rfl
theorem q5_7 : (Jvm.Cond.constant "EvenTown$Plan" (135 : Nat) (-1000000 : Int32)) ∈ GW := gw_5 7 rfl rfl
theorem q5_8 : (Jvm.Cond.methodLink "EvenTown$Plan" (141 : Nat) ({ cls := "EvenTown$Day", name := "step", desc := "(IIII)I" } : Jvm.MethodName)) ∈ GW := gw_5 8 rfl rfl
theorem q5_9 : (Jvm.Cond.instanceMethod ({ cls := "EvenTown$Day", name := "step", desc := "(IIII)I" } : Jvm.MethodName)) ∈ GW := gw_5 9 rfl rfl
theorem q5_10 : (Jvm.Cond.selects "EvenTown$Day" ({ cls := "EvenTown$Day", name := "step", desc := "(IIII)I" } : Jvm.MethodName) ({ cls := "EvenTown$Day", name := "step", desc := "(IIII)I" } : Jvm.MethodName)) ∈ GW := gw_5 10 rfl rfl
theorem q5_11 : (Jvm.Cond.code ({ cls := "EvenTown$Day", name := "step", desc := "(IIII)I" } : Jvm.MethodName) prog_4_method_11_code (5 : Nat) (Option.some Jvm.ClassFile.FieldType.int)) ∈ GW := gw_5 11 rfl rfl
theorem q5_12 : (Jvm.Cond.constant "EvenTown$Plan" (145 : Nat) (-500000 : Int32)) ∈ GW := gw_5 12 rfl rfl
theorem q5_13 : (Jvm.Cond.constant "EvenTown" (159 : Nat) (-1000000 : Int32)) ∈ GW := gw_5 13 rfl rfl
theorem q5_14 : (Jvm.Cond.methodLink "EvenTownLaw" (54 : Nat) ({ cls := "EvenTown", name := "best", desc := "(I)I" } : Jvm.MethodName)) ∈ GW := gw_5 14 rfl rfl
theorem q5_15 : (Jvm.Cond.instanceMethod ({ cls := "EvenTown", name := "best", desc := "(I)I" } : Jvm.MethodName)) ∈ GW := gw_5 15 rfl rfl
theorem q5_16 : (Jvm.Cond.selects "EvenTown" ({ cls := "EvenTown", name := "best", desc := "(I)I" } : Jvm.MethodName) ({ cls := "EvenTown", name := "best", desc := "(I)I" } : Jvm.MethodName)) ∈ GW := gw_5 16 rfl rfl
theorem q5_17 : (Jvm.Cond.code ({ cls := "EvenTown", name := "best", desc := "(I)I" } : Jvm.MethodName) prog_1_method_11_code (2 : Nat) (Option.some Jvm.ClassFile.FieldType.int)) ∈ GW := gw_5 17 rfl rfl
theorem q5_18 : (Jvm.Cond.methodLink "EvenTown" (160 : Nat) ({ cls := "EvenTown$Answers", name := "bestWorth", desc := "(I)I" } : Jvm.MethodName)) ∈ GW := gw_5 18 rfl rfl
theorem q5_19 : (Jvm.Cond.instanceMethod ({ cls := "EvenTown$Answers", name := "bestWorth", desc := "(I)I" } : Jvm.MethodName)) ∈ GW := gw_5 19 rfl rfl
theorem q5_20 : (Jvm.Cond.selects "EvenTown$Answers" ({ cls := "EvenTown$Answers", name := "bestWorth", desc := "(I)I" } : Jvm.MethodName) ({ cls := "EvenTown$Answers", name := "bestWorth", desc := "(I)I" } : Jvm.MethodName)) ∈ GW := gw_5 20 rfl rfl
theorem q5_21 : (Jvm.Cond.code ({ cls := "EvenTown$Answers", name := "bestWorth", desc := "(I)I" } : Jvm.MethodName) prog_2_method_4_code (2 : Nat) (Option.some Jvm.ClassFile.FieldType.int)) ∈ GW := gw_5 21 rfl rfl
theorem q5_22 : (Jvm.Cond.methodLink "EvenTown$Answers" (79 : Nat) ({ cls := "EvenTown$Days", name := "worthOf", desc := "(LEvenTown$Day;)I" } : Jvm.MethodName)) ∈ GW := gw_5 22 rfl rfl
theorem q5_23 : (Jvm.Cond.instanceMethod ({ cls := "EvenTown$Days", name := "worthOf", desc := "(LEvenTown$Day;)I" } : Jvm.MethodName)) ∈ GW := gw_5 23 rfl rfl
theorem q5_24 : (Jvm.Cond.selects "EvenTown$Days" ({ cls := "EvenTown$Days", name := "worthOf", desc := "(LEvenTown$Day;)I" } : Jvm.MethodName) ({ cls := "EvenTown$Days", name := "worthOf", desc := "(LEvenTown$Day;)I" } : Jvm.MethodName)) ∈ GW := gw_5 24 rfl rfl
theorem q5_25 : (Jvm.Cond.code ({ cls := "EvenTown$Days", name := "worthOf", desc := "(LEvenTown$Day;)I" } : Jvm.MethodName) prog_5_method_2_code (4 : Nat) (Option.some Jvm.ClassFile.FieldType.int)) ∈ GW := gw_5 25 rfl rfl
theorem q5_26 : (Jvm.Cond.constant "EvenTown$Days" (33 : Nat) (-1000000 : Int32)) ∈ GW := gw_5 26 rfl rfl
theorem q5_27 : (Jvm.Cond.methodLink "EvenTown$Days" (34 : Nat) ({ cls := "EvenTown$Days", name := "layLawful", desc := "(LEvenTown$Day;)V" } : Jvm.MethodName)) ∈ GW := gw_5 27 rfl rfl
theorem q5_29 : (Jvm.Cond.instanceMethod ({ cls := "EvenTown$Days", name := "layLawful", desc := "(LEvenTown$Day;)V" } : Jvm.MethodName)) ∈ GW := gw_5 29 rfl rfl
theorem q5_30 : (Jvm.Cond.code ({ cls := "EvenTown$Days", name := "layLawful", desc := "(LEvenTown$Day;)V" } : Jvm.MethodName) prog_5_method_4_code (6 : Nat) (Option.none : Option Jvm.ClassFile.FieldType)) ∈ GW := gw_5 30 rfl rfl
theorem q5_31 : (Jvm.Cond.methodLink "EvenTown$Days" (79 : Nat) ({ cls := "EvenTown$Day", name := "crowds", desc := "(I)I" } : Jvm.MethodName)) ∈ GW := gw_5 31 rfl rfl
theorem q5_32 : (Jvm.Cond.instanceMethod ({ cls := "EvenTown$Day", name := "crowds", desc := "(I)I" } : Jvm.MethodName)) ∈ GW := gw_5 32 rfl rfl
theorem q5_33 : (Jvm.Cond.selects "EvenTown$Day" ({ cls := "EvenTown$Day", name := "crowds", desc := "(I)I" } : Jvm.MethodName) ({ cls := "EvenTown$Day", name := "crowds", desc := "(I)I" } : Jvm.MethodName)) ∈ GW := gw_5 33 rfl rfl
theorem q5_34 : (Jvm.Cond.code ({ cls := "EvenTown$Day", name := "crowds", desc := "(I)I" } : Jvm.MethodName) prog_4_method_13_code (4 : Nat) (Option.some Jvm.ClassFile.FieldType.int)) ∈ GW := gw_5 34 rfl rfl
theorem q5_35 : (Jvm.Cond.methodLink "EvenTown$Day" (118 : Nat) ({ cls := "EvenTown$Day", name := "placeIn", desc := "(II)I" } : Jvm.MethodName)) ∈ GW := gw_5 35 rfl rfl
theorem q5_36 : (Jvm.Cond.instanceMethod ({ cls := "EvenTown$Day", name := "placeIn", desc := "(II)I" } : Jvm.MethodName)) ∈ GW := gw_5 36 rfl rfl
theorem q5_37 : (Jvm.Cond.selects "EvenTown$Day" ({ cls := "EvenTown$Day", name := "placeIn", desc := "(II)I" } : Jvm.MethodName) ({ cls := "EvenTown$Day", name := "placeIn", desc := "(II)I" } : Jvm.MethodName)) ∈ GW := gw_5 37 rfl rfl
theorem q5_38 : (Jvm.Cond.code ({ cls := "EvenTown$Day", name := "placeIn", desc := "(II)I" } : Jvm.MethodName) prog_4_method_12_code (5 : Nat) (Option.some Jvm.ClassFile.FieldType.int)) ∈ GW := gw_5 38 rfl rfl
theorem q5_39 : (Jvm.Cond.methodLink "EvenTown$Days" (38 : Nat) ({ cls := "EvenTown$Days", name := "layTable", desc := "(LEvenTown$Day;I)V" } : Jvm.MethodName)) ∈ GW := gw_5 39 rfl rfl
theorem q5_41 : (Jvm.Cond.instanceMethod ({ cls := "EvenTown$Days", name := "layTable", desc := "(LEvenTown$Day;I)V" } : Jvm.MethodName)) ∈ GW := gw_5 41 rfl rfl
theorem q5_42 : (Jvm.Cond.code ({ cls := "EvenTown$Days", name := "layTable", desc := "(LEvenTown$Day;I)V" } : Jvm.MethodName) prog_5_method_5_code (5 : Nat) (Option.none : Option Jvm.ClassFile.FieldType)) ∈ GW := gw_5 42 rfl rfl
theorem q5_43 : (Jvm.Cond.methodLink "EvenTown$Days" (89 : Nat) ({ cls := "java/util/Arrays", name := "fill", desc := "([IIII)V" } : Jvm.MethodName)) ∈ GW := gw_5 43 rfl rfl
theorem q5_44 : (Jvm.Cond.static ({ cls := "java/util/Arrays", name := "fill", desc := "([IIII)V" } : Jvm.MethodName)) ∈ GW := gw_5 44 rfl rfl
theorem q5_45 : (Jvm.Cond.code ({ cls := "java/util/Arrays", name := "fill", desc := "([IIII)V" } : Jvm.MethodName) prog_21_method_104_code (5 : Nat) (Option.none : Option Jvm.ClassFile.FieldType)) ∈ GW := gw_5 45 rfl rfl
theorem q5_46 : (Jvm.Cond.methodLink "java/util/Arrays" (13 : Nat) ({ cls := "java/util/Arrays", name := "rangeCheck", desc := "(III)V" } : Jvm.MethodName)) ∈ GW := gw_5 46 rfl rfl
theorem q5_47 : (Jvm.Cond.static ({ cls := "java/util/Arrays", name := "rangeCheck", desc := "(III)V" } : Jvm.MethodName)) ∈ GW := gw_5 47 rfl rfl
theorem q5_48 : (Jvm.Cond.code ({ cls := "java/util/Arrays", name := "rangeCheck", desc := "(III)V" } : Jvm.MethodName) prog_21_method_30_code (3 : Nat) (Option.none : Option Jvm.ClassFile.FieldType)) ∈ GW := gw_5 48 rfl rfl
theorem q5_49 : (Jvm.Cond.methodLink "EvenTown$Days" (98 : Nat) ({ cls := "EvenTown$Days", name := "keepLawful", desc := "(LEvenTown$Day;I)V" } : Jvm.MethodName)) ∈ GW := gw_5 49 rfl rfl
theorem q5_51 : (Jvm.Cond.instanceMethod ({ cls := "EvenTown$Days", name := "keepLawful", desc := "(LEvenTown$Day;I)V" } : Jvm.MethodName)) ∈ GW := gw_5 51 rfl rfl
theorem q5_52 : (Jvm.Cond.code ({ cls := "EvenTown$Days", name := "keepLawful", desc := "(LEvenTown$Day;I)V" } : Jvm.MethodName) prog_5_method_6_code (4 : Nat) (Option.none : Option Jvm.ClassFile.FieldType)) ∈ GW := gw_5 52 rfl rfl
theorem q5_53 : (Jvm.Cond.methodLink "EvenTown$Days" (101 : Nat) ({ cls := "EvenTown$Days", name := "layWeights", desc := "(LEvenTown$Day;II)V" } : Jvm.MethodName)) ∈ GW := gw_5 53 rfl rfl
theorem q5_55 : (Jvm.Cond.instanceMethod ({ cls := "EvenTown$Days", name := "layWeights", desc := "(LEvenTown$Day;II)V" } : Jvm.MethodName)) ∈ GW := gw_5 55 rfl rfl
theorem q5_56 : (Jvm.Cond.code ({ cls := "EvenTown$Days", name := "layWeights", desc := "(LEvenTown$Day;II)V" } : Jvm.MethodName) prog_5_method_7_code (7 : Nat) (Option.none : Option Jvm.ClassFile.FieldType)) ∈ GW := gw_5 56 rfl rfl
theorem q5_57 : (Jvm.Cond.methodLink "EvenTown$Days" (108 : Nat) ({ cls := "EvenTown$Day", name := "step", desc := "(IIII)I" } : Jvm.MethodName)) ∈ GW := gw_5 57 rfl rfl
theorem q5_58 : (Jvm.Cond.methodLink "EvenTown$Days" (105 : Nat) ({ cls := "EvenTown$Days", name := "goBack", desc := "(LEvenTown$Day;I)V" } : Jvm.MethodName)) ∈ GW := gw_5 58 rfl rfl
theorem q5_60 : (Jvm.Cond.instanceMethod ({ cls := "EvenTown$Days", name := "goBack", desc := "(LEvenTown$Day;I)V" } : Jvm.MethodName)) ∈ GW := gw_5 60 rfl rfl
theorem q5_61 : (Jvm.Cond.code ({ cls := "EvenTown$Days", name := "goBack", desc := "(LEvenTown$Day;I)V" } : Jvm.MethodName) prog_5_method_8_code (12 : Nat) (Option.none : Option Jvm.ClassFile.FieldType)) ∈ GW := gw_5 61 rfl rfl
theorem q5_62 : (Jvm.Cond.constant "EvenTown$Days" (64 : Nat) (-500000 : Int32)) ∈ GW := gw_5 62 rfl rfl
theorem q5_63 : (Jvm.Cond.methodLink "EvenTown$Days" (115 : Nat) ({ cls := "EvenTown$Days", name := "bestOfLine", desc := "(II)I" } : Jvm.MethodName)) ∈ GW := gw_5 63 rfl rfl
theorem q5_65 : (Jvm.Cond.instanceMethod ({ cls := "EvenTown$Days", name := "bestOfLine", desc := "(II)I" } : Jvm.MethodName)) ∈ GW := gw_5 65 rfl rfl
theorem q5_66 : (Jvm.Cond.code ({ cls := "EvenTown$Days", name := "bestOfLine", desc := "(II)I" } : Jvm.MethodName) prog_5_method_9_code (5 : Nat) (Option.some Jvm.ClassFile.FieldType.int)) ∈ GW := gw_5 66 rfl rfl
theorem q5_67 : (Jvm.Cond.methodLink "EvenTown$Days" (58 : Nat) ({ cls := "java/lang/Math", name := "max", desc := "(II)I" } : Jvm.MethodName)) ∈ GW := gw_5 67 rfl rfl
theorem q5_68 : (Jvm.Cond.methodLink "EvenTown$Days" (46 : Nat) ({ cls := "EvenTown$Days", name := "startAtHome", desc := "(LEvenTown$Town;)V" } : Jvm.MethodName)) ∈ GW := gw_5 68 rfl rfl
theorem q5_70 : (Jvm.Cond.instanceMethod ({ cls := "EvenTown$Days", name := "startAtHome", desc := "(LEvenTown$Town;)V" } : Jvm.MethodName)) ∈ GW := gw_5 70 rfl rfl
theorem q5_71 : (Jvm.Cond.code ({ cls := "EvenTown$Days", name := "startAtHome", desc := "(LEvenTown$Town;)V" } : Jvm.MethodName) prog_5_method_3_code (3 : Nat) (Option.none : Option Jvm.ClassFile.FieldType)) ∈ GW := gw_5 71 rfl rfl
theorem q5_72 : (Jvm.Cond.methodLink "EvenTown$Days" (54 : Nat) ({ cls := "EvenTown$Days", name := "stepTo", desc := "(LEvenTown$Day;II)I" } : Jvm.MethodName)) ∈ GW := gw_5 72 rfl rfl
theorem q5_74 : (Jvm.Cond.instanceMethod ({ cls := "EvenTown$Days", name := "stepTo", desc := "(LEvenTown$Day;II)I" } : Jvm.MethodName)) ∈ GW := gw_5 74 rfl rfl
theorem q5_75 : (Jvm.Cond.code ({ cls := "EvenTown$Days", name := "stepTo", desc := "(LEvenTown$Day;II)I" } : Jvm.MethodName) prog_5_method_10_code (6 : Nat) (Option.some Jvm.ClassFile.FieldType.int)) ∈ GW := gw_5 75 rfl rfl
theorem q5_76 : (Jvm.Cond.methodLink "EvenTown$Days" (118 : Nat) ({ cls := "EvenTown$Day", name := "placeIn", desc := "(II)I" } : Jvm.MethodName)) ∈ GW := gw_5 76 rfl rfl
theorem q5_77 : (Jvm.Cond.constant "EvenTown$Answers" (82 : Nat) (-1000000 : Int32)) ∈ GW := gw_5 77 rfl rfl
theorem q5_78 : (Jvm.Cond.methodLink "EvenTown$Answers" (83 : Nat) ({ cls := "EvenTown$Days", name := "layFirstRow", desc := "(LEvenTown$Day;I[I)V" } : Jvm.MethodName)) ∈ GW := gw_5 78 rfl rfl
theorem q5_79 : (Jvm.Cond.instanceMethod ({ cls := "EvenTown$Days", name := "layFirstRow", desc := "(LEvenTown$Day;I[I)V" } : Jvm.MethodName)) ∈ GW := gw_5 79 rfl rfl
theorem q5_80 : (Jvm.Cond.selects "EvenTown$Days" ({ cls := "EvenTown$Days", name := "layFirstRow", desc := "(LEvenTown$Day;I[I)V" } : Jvm.MethodName) ({ cls := "EvenTown$Days", name := "layFirstRow", desc := "(LEvenTown$Day;I[I)V" } : Jvm.MethodName)) ∈ GW := gw_5 80 rfl rfl
theorem q5_81 : (Jvm.Cond.code ({ cls := "EvenTown$Days", name := "layFirstRow", desc := "(LEvenTown$Day;I[I)V" } : Jvm.MethodName) prog_5_method_11_code (8 : Nat) (Option.none : Option Jvm.ClassFile.FieldType)) ∈ GW := gw_5 81 rfl rfl
theorem q5_82 : (Jvm.Cond.methodLink "EvenTown$Days" (121 : Nat) ({ cls := "EvenTown$Days", name := "firstOf", desc := "(LEvenTown$Day;II)I" } : Jvm.MethodName)) ∈ GW := gw_5 82 rfl rfl
theorem q5_84 : (Jvm.Cond.instanceMethod ({ cls := "EvenTown$Days", name := "firstOf", desc := "(LEvenTown$Day;II)I" } : Jvm.MethodName)) ∈ GW := gw_5 84 rfl rfl
theorem q5_85 : (Jvm.Cond.code ({ cls := "EvenTown$Days", name := "firstOf", desc := "(LEvenTown$Day;II)I" } : Jvm.MethodName) prog_5_method_12_code (5 : Nat) (Option.some Jvm.ClassFile.FieldType.int)) ∈ GW := gw_5 85 rfl rfl
theorem q5_86 : (Jvm.Cond.methodLink "EvenTownLaw" (58 : Nat) ({ cls := "EvenTown", name := "bestAt", desc := "(III)I" } : Jvm.MethodName)) ∈ GW := gw_5 86 rfl rfl
theorem q5_87 : (Jvm.Cond.instanceMethod ({ cls := "EvenTown", name := "bestAt", desc := "(III)I" } : Jvm.MethodName)) ∈ GW := gw_5 87 rfl rfl
theorem q5_88 : (Jvm.Cond.selects "EvenTown" ({ cls := "EvenTown", name := "bestAt", desc := "(III)I" } : Jvm.MethodName) ({ cls := "EvenTown", name := "bestAt", desc := "(III)I" } : Jvm.MethodName)) ∈ GW := gw_5 88 rfl rfl
theorem q5_89 : (Jvm.Cond.code ({ cls := "EvenTown", name := "bestAt", desc := "(III)I" } : Jvm.MethodName) prog_1_method_12_code (4 : Nat) (Option.some Jvm.ClassFile.FieldType.int)) ∈ GW := gw_5 89 rfl rfl
theorem q5_90 : (Jvm.Cond.methodLink "EvenTown" (167 : Nat) ({ cls := "EvenTown$Town", name := "hasPerson", desc := "(I)Z" } : Jvm.MethodName)) ∈ GW := gw_5 90 rfl rfl
theorem q5_91 : (Jvm.Cond.instanceMethod ({ cls := "EvenTown$Town", name := "hasPerson", desc := "(I)Z" } : Jvm.MethodName)) ∈ GW := gw_5 91 rfl rfl
theorem q5_92 : (Jvm.Cond.selects "EvenTown$Town" ({ cls := "EvenTown$Town", name := "hasPerson", desc := "(I)Z" } : Jvm.MethodName) ({ cls := "EvenTown$Town", name := "hasPerson", desc := "(I)Z" } : Jvm.MethodName)) ∈ GW := gw_5 92 rfl rfl
theorem q5_93 : (Jvm.Cond.code ({ cls := "EvenTown$Town", name := "hasPerson", desc := "(I)Z" } : Jvm.MethodName) prog_11_method_9_code (2 : Nat) (Option.some Jvm.ClassFile.FieldType.boolean)) ∈ GW := gw_5 93 rfl rfl
theorem q5_94 : (Jvm.Cond.methodLink "EvenTown" (170 : Nat) ({ cls := "EvenTown$Answers", name := "bestPlace", desc := "(III)I" } : Jvm.MethodName)) ∈ GW := gw_5 94 rfl rfl
theorem q5_95 : (Jvm.Cond.instanceMethod ({ cls := "EvenTown$Answers", name := "bestPlace", desc := "(III)I" } : Jvm.MethodName)) ∈ GW := gw_5 95 rfl rfl
theorem q5_96 : (Jvm.Cond.selects "EvenTown$Answers" ({ cls := "EvenTown$Answers", name := "bestPlace", desc := "(III)I" } : Jvm.MethodName) ({ cls := "EvenTown$Answers", name := "bestPlace", desc := "(III)I" } : Jvm.MethodName)) ∈ GW := gw_5 96 rfl rfl
theorem q5_97 : (Jvm.Cond.code ({ cls := "EvenTown$Answers", name := "bestPlace", desc := "(III)I" } : Jvm.MethodName) prog_2_method_5_code (4 : Nat) (Option.some Jvm.ClassFile.FieldType.int)) ∈ GW := gw_5 97 rfl rfl
theorem q5_98 : (Jvm.Cond.methodLink "EvenTown$Answers" (87 : Nat) ({ cls := "EvenTown$Answers", name := "bestWorth", desc := "(I)I" } : Jvm.MethodName)) ∈ GW := gw_5 98 rfl rfl
theorem q5_99 : (Jvm.Cond.methodLink "EvenTownLaw" (62 : Nat) ({ cls := "EvenTown", name := "breaks", desc := "(II)I" } : Jvm.MethodName)) ∈ GW := gw_5 99 rfl rfl
theorem q5_100 : (Jvm.Cond.instanceMethod ({ cls := "EvenTown", name := "breaks", desc := "(II)I" } : Jvm.MethodName)) ∈ GW := gw_5 100 rfl rfl
theorem q5_101 : (Jvm.Cond.selects "EvenTown" ({ cls := "EvenTown", name := "breaks", desc := "(II)I" } : Jvm.MethodName) ({ cls := "EvenTown", name := "breaks", desc := "(II)I" } : Jvm.MethodName)) ∈ GW := gw_5 101 rfl rfl
theorem q5_102 : (Jvm.Cond.code ({ cls := "EvenTown", name := "breaks", desc := "(II)I" } : Jvm.MethodName) prog_1_method_13_code (3 : Nat) (Option.some Jvm.ClassFile.FieldType.int)) ∈ GW := gw_5 102 rfl rfl
theorem q5_103 : (Jvm.Cond.methodLink "EvenTown" (174 : Nat) ({ cls := "EvenTown$Answers", name := "findBreak", desc := "(I)V" } : Jvm.MethodName)) ∈ GW := gw_5 103 rfl rfl
theorem q5_104 : (Jvm.Cond.instanceMethod ({ cls := "EvenTown$Answers", name := "findBreak", desc := "(I)V" } : Jvm.MethodName)) ∈ GW := gw_5 104 rfl rfl
theorem q5_105 : (Jvm.Cond.selects "EvenTown$Answers" ({ cls := "EvenTown$Answers", name := "findBreak", desc := "(I)V" } : Jvm.MethodName) ({ cls := "EvenTown$Answers", name := "findBreak", desc := "(I)V" } : Jvm.MethodName)) ∈ GW := gw_5 105 rfl rfl
theorem q5_106 : (Jvm.Cond.code ({ cls := "EvenTown$Answers", name := "findBreak", desc := "(I)V" } : Jvm.MethodName) prog_2_method_6_code (4 : Nat) (Option.none : Option Jvm.ClassFile.FieldType)) ∈ GW := gw_5 106 rfl rfl
theorem q5_107 : (Jvm.Cond.methodLink "EvenTown$Answers" (96 : Nat) ({ cls := "EvenTown$Day", name := "freeStroke", desc := "(I)V" } : Jvm.MethodName)) ∈ GW := gw_5 107 rfl rfl
theorem q5_108 : (Jvm.Cond.instanceMethod ({ cls := "EvenTown$Day", name := "freeStroke", desc := "(I)V" } : Jvm.MethodName)) ∈ GW := gw_5 108 rfl rfl
theorem q5_109 : (Jvm.Cond.selects "EvenTown$Day" ({ cls := "EvenTown$Day", name := "freeStroke", desc := "(I)V" } : Jvm.MethodName) ({ cls := "EvenTown$Day", name := "freeStroke", desc := "(I)V" } : Jvm.MethodName)) ∈ GW := gw_5 109 rfl rfl
theorem q5_110 : (Jvm.Cond.code ({ cls := "EvenTown$Day", name := "freeStroke", desc := "(I)V" } : Jvm.MethodName) prog_4_method_8_code (3 : Nat) (Option.none : Option Jvm.ClassFile.FieldType)) ∈ GW := gw_5 110 rfl rfl
theorem q5_111 : (Jvm.Cond.methodLink "EvenTownLaw" (66 : Nat) ({ cls := "EvenTown", name := "spare", desc := "(II)I" } : Jvm.MethodName)) ∈ GW := gw_5 111 rfl rfl
theorem q5_112 : (Jvm.Cond.instanceMethod ({ cls := "EvenTown", name := "spare", desc := "(II)I" } : Jvm.MethodName)) ∈ GW := gw_5 112 rfl rfl
theorem q5_113 : (Jvm.Cond.selects "EvenTown" ({ cls := "EvenTown", name := "spare", desc := "(II)I" } : Jvm.MethodName) ({ cls := "EvenTown", name := "spare", desc := "(II)I" } : Jvm.MethodName)) ∈ GW := gw_5 113 rfl rfl
theorem q5_114 : (Jvm.Cond.code ({ cls := "EvenTown", name := "spare", desc := "(II)I" } : Jvm.MethodName) prog_1_method_14_code (3 : Nat) (Option.some Jvm.ClassFile.FieldType.int)) ∈ GW := gw_5 114 rfl rfl
theorem q5_115 : (Jvm.Cond.methodLink "EvenTown" (183 : Nat) ({ cls := "EvenTown$Answers", name := "spareWorth", desc := "(II)I" } : Jvm.MethodName)) ∈ GW := gw_5 115 rfl rfl
theorem q5_116 : (Jvm.Cond.instanceMethod ({ cls := "EvenTown$Answers", name := "spareWorth", desc := "(II)I" } : Jvm.MethodName)) ∈ GW := gw_5 116 rfl rfl
theorem q5_117 : (Jvm.Cond.selects "EvenTown$Answers" ({ cls := "EvenTown$Answers", name := "spareWorth", desc := "(II)I" } : Jvm.MethodName) ({ cls := "EvenTown$Answers", name := "spareWorth", desc := "(II)I" } : Jvm.MethodName)) ∈ GW := gw_5 117 rfl rfl
theorem q5_118 : (Jvm.Cond.code ({ cls := "EvenTown$Answers", name := "spareWorth", desc := "(II)I" } : Jvm.MethodName) prog_2_method_7_code (3 : Nat) (Option.some Jvm.ClassFile.FieldType.int)) ∈ GW := gw_5 118 rfl rfl
theorem q5_119 : (Jvm.Cond.methodLink "EvenTown$Answers" (100 : Nat) ({ cls := "EvenTown$Day", name := "freePlace", desc := "(I)V" } : Jvm.MethodName)) ∈ GW := gw_5 119 rfl rfl
theorem q5_120 : (Jvm.Cond.instanceMethod ({ cls := "EvenTown$Day", name := "freePlace", desc := "(I)V" } : Jvm.MethodName)) ∈ GW := gw_5 120 rfl rfl
theorem q5_121 : (Jvm.Cond.selects "EvenTown$Day" ({ cls := "EvenTown$Day", name := "freePlace", desc := "(I)V" } : Jvm.MethodName) ({ cls := "EvenTown$Day", name := "freePlace", desc := "(I)V" } : Jvm.MethodName)) ∈ GW := gw_5 121 rfl rfl
theorem q5_122 : (Jvm.Cond.code ({ cls := "EvenTown$Day", name := "freePlace", desc := "(I)V" } : Jvm.MethodName) prog_4_method_9_code (3 : Nat) (Option.none : Option Jvm.ClassFile.FieldType)) ∈ GW := gw_5 122 rfl rfl
theorem q5_123 : (Jvm.Cond.methodLink "EvenTownLaw" (70 : Nat) ({ cls := "EvenTown", name := "often", desc := "(II)I" } : Jvm.MethodName)) ∈ GW := gw_5 123 rfl rfl
theorem q5_124 : (Jvm.Cond.instanceMethod ({ cls := "EvenTown", name := "often", desc := "(II)I" } : Jvm.MethodName)) ∈ GW := gw_5 124 rfl rfl
theorem q5_125 : (Jvm.Cond.selects "EvenTown" ({ cls := "EvenTown", name := "often", desc := "(II)I" } : Jvm.MethodName) ({ cls := "EvenTown", name := "often", desc := "(II)I" } : Jvm.MethodName)) ∈ GW := gw_5 125 rfl rfl
theorem q5_126 : (Jvm.Cond.code ({ cls := "EvenTown", name := "often", desc := "(II)I" } : Jvm.MethodName) prog_1_method_15_code (3 : Nat) (Option.some Jvm.ClassFile.FieldType.int)) ∈ GW := gw_5 126 rfl rfl
theorem q5_127 : (Jvm.Cond.methodLink "EvenTown" (187 : Nat) ({ cls := "EvenTown$Answers", name := "oftenWorth", desc := "(II)I" } : Jvm.MethodName)) ∈ GW := gw_5 127 rfl rfl
theorem q5_128 : (Jvm.Cond.instanceMethod ({ cls := "EvenTown$Answers", name := "oftenWorth", desc := "(II)I" } : Jvm.MethodName)) ∈ GW := gw_5 128 rfl rfl
theorem q5_129 : (Jvm.Cond.selects "EvenTown$Answers" ({ cls := "EvenTown$Answers", name := "oftenWorth", desc := "(II)I" } : Jvm.MethodName) ({ cls := "EvenTown$Answers", name := "oftenWorth", desc := "(II)I" } : Jvm.MethodName)) ∈ GW := gw_5 129 rfl rfl
theorem q5_130 : (Jvm.Cond.code ({ cls := "EvenTown$Answers", name := "oftenWorth", desc := "(II)I" } : Jvm.MethodName) prog_2_method_8_code (3 : Nat) (Option.some Jvm.ClassFile.FieldType.int)) ∈ GW := gw_5 130 rfl rfl
theorem q5_131 : (Jvm.Cond.methodLink "EvenTownLaw" (74 : Nat) ({ cls := "EvenTown", name := "built", desc := "(III)I" } : Jvm.MethodName)) ∈ GW := gw_5 131 rfl rfl
theorem q5_132 : (Jvm.Cond.instanceMethod ({ cls := "EvenTown", name := "built", desc := "(III)I" } : Jvm.MethodName)) ∈ GW := gw_5 132 rfl rfl
theorem q5_133 : (Jvm.Cond.selects "EvenTown" ({ cls := "EvenTown", name := "built", desc := "(III)I" } : Jvm.MethodName) ({ cls := "EvenTown", name := "built", desc := "(III)I" } : Jvm.MethodName)) ∈ GW := gw_5 133 rfl rfl
theorem q5_134 : (Jvm.Cond.code ({ cls := "EvenTown", name := "built", desc := "(III)I" } : Jvm.MethodName) prog_1_method_16_code (4 : Nat) (Option.some Jvm.ClassFile.FieldType.int)) ∈ GW := gw_5 134 rfl rfl
theorem q5_135 : (Jvm.Cond.methodLink "EvenTown" (190 : Nat) ({ cls := "EvenTown$Answers", name := "findBuilt", desc := "(II)V" } : Jvm.MethodName)) ∈ GW := gw_5 135 rfl rfl
theorem q5_136 : (Jvm.Cond.instanceMethod ({ cls := "EvenTown$Answers", name := "findBuilt", desc := "(II)V" } : Jvm.MethodName)) ∈ GW := gw_5 136 rfl rfl
theorem q5_137 : (Jvm.Cond.selects "EvenTown$Answers" ({ cls := "EvenTown$Answers", name := "findBuilt", desc := "(II)V" } : Jvm.MethodName) ({ cls := "EvenTown$Answers", name := "findBuilt", desc := "(II)V" } : Jvm.MethodName)) ∈ GW := gw_5 137 rfl rfl
theorem q5_138 : (Jvm.Cond.code ({ cls := "EvenTown$Answers", name := "findBuilt", desc := "(II)V" } : Jvm.MethodName) prog_2_method_9_code (7 : Nat) (Option.none : Option Jvm.ClassFile.FieldType)) ∈ GW := gw_5 138 rfl rfl
theorem q5_139 : (Jvm.Cond.methodLink "EvenTown$Answers" (112 : Nat) ({ cls := "EvenTown$Day", name := "build", desc := "(III)Z" } : Jvm.MethodName)) ∈ GW := gw_5 139 rfl rfl
theorem q5_140 : (Jvm.Cond.instanceMethod ({ cls := "EvenTown$Day", name := "build", desc := "(III)Z" } : Jvm.MethodName)) ∈ GW := gw_5 140 rfl rfl
theorem q5_141 : (Jvm.Cond.selects "EvenTown$Day" ({ cls := "EvenTown$Day", name := "build", desc := "(III)Z" } : Jvm.MethodName) ({ cls := "EvenTown$Day", name := "build", desc := "(III)Z" } : Jvm.MethodName)) ∈ GW := gw_5 141 rfl rfl
theorem q5_142 : (Jvm.Cond.code ({ cls := "EvenTown$Day", name := "build", desc := "(III)Z" } : Jvm.MethodName) prog_4_method_10_code (11 : Nat) (Option.some Jvm.ClassFile.FieldType.boolean)) ∈ GW := gw_5 142 rfl rfl
theorem q5_143 : (Jvm.Cond.methodLink "EvenTown$Day" (112 : Nat) ({ cls := "java/lang/Math", name := "min", desc := "(II)I" } : Jvm.MethodName)) ∈ GW := gw_5 143 rfl rfl
theorem q5_144 : (Jvm.Cond.methodLink "EvenTownLaw" (78 : Nat) ({ cls := "EvenTown", name := "meet", desc := "(III)I" } : Jvm.MethodName)) ∈ GW := gw_5 144 rfl rfl
theorem q5_145 : (Jvm.Cond.instanceMethod ({ cls := "EvenTown", name := "meet", desc := "(III)I" } : Jvm.MethodName)) ∈ GW := gw_5 145 rfl rfl
theorem q5_146 : (Jvm.Cond.selects "EvenTown" ({ cls := "EvenTown", name := "meet", desc := "(III)I" } : Jvm.MethodName) ({ cls := "EvenTown", name := "meet", desc := "(III)I" } : Jvm.MethodName)) ∈ GW := gw_5 146 rfl rfl
theorem q5_147 : (Jvm.Cond.code ({ cls := "EvenTown", name := "meet", desc := "(III)I" } : Jvm.MethodName) prog_1_method_17_code (4 : Nat) (Option.some Jvm.ClassFile.FieldType.int)) ∈ GW := gw_5 147 rfl rfl
theorem q5_148 : (Jvm.Cond.methodLink "EvenTown" (200 : Nat) ({ cls := "EvenTown$Answers", name := "firstMeeting", desc := "(IIILEvenTown$Counts;)I" } : Jvm.MethodName)) ∈ GW := gw_5 148 rfl rfl
theorem q5_149 : (Jvm.Cond.instanceMethod ({ cls := "EvenTown$Answers", name := "firstMeeting", desc := "(IIILEvenTown$Counts;)I" } : Jvm.MethodName)) ∈ GW := gw_5 149 rfl rfl
theorem q5_150 : (Jvm.Cond.selects "EvenTown$Answers" ({ cls := "EvenTown$Answers", name := "firstMeeting", desc := "(IIILEvenTown$Counts;)I" } : Jvm.MethodName) ({ cls := "EvenTown$Answers", name := "firstMeeting", desc := "(IIILEvenTown$Counts;)I" } : Jvm.MethodName)) ∈ GW := gw_5 150 rfl rfl
theorem q5_151 : (Jvm.Cond.code ({ cls := "EvenTown$Answers", name := "firstMeeting", desc := "(IIILEvenTown$Counts;)I" } : Jvm.MethodName) prog_2_method_11_code (7 : Nat) (Option.some Jvm.ClassFile.FieldType.int)) ∈ GW := gw_5 151 rfl rfl
theorem q5_152 : (Jvm.Cond.methodLink "EvenTown$Answers" (133 : Nat) ({ cls := "EvenTown$Answers", name := "findAlive", desc := "(LEvenTown$Counts;J)V" } : Jvm.MethodName)) ∈ GW := gw_5 152 rfl rfl
theorem q5_154 : (Jvm.Cond.instanceMethod ({ cls := "EvenTown$Answers", name := "findAlive", desc := "(LEvenTown$Counts;J)V" } : Jvm.MethodName)) ∈ GW := gw_5 154 rfl rfl
theorem q5_155 : (Jvm.Cond.code ({ cls := "EvenTown$Answers", name := "findAlive", desc := "(LEvenTown$Counts;J)V" } : Jvm.MethodName) prog_2_method_10_code (4 : Nat) (Option.none : Option Jvm.ClassFile.FieldType)) ∈ GW := gw_5 155 rfl rfl
theorem q5_156 : (Jvm.Cond.methodLink "EvenTown$Answers" (123 : Nat) ({ cls := "EvenTown$Counts", name := "narrow", desc := "(J[I)V" } : Jvm.MethodName)) ∈ GW := gw_5 156 rfl rfl
theorem q5_157 : (Jvm.Cond.instanceMethod ({ cls := "EvenTown$Counts", name := "narrow", desc := "(J[I)V" } : Jvm.MethodName)) ∈ GW := gw_5 157 rfl rfl
theorem q5_158 : (Jvm.Cond.selects "EvenTown$Counts" ({ cls := "EvenTown$Counts", name := "narrow", desc := "(J[I)V" } : Jvm.MethodName) ({ cls := "EvenTown$Counts", name := "narrow", desc := "(J[I)V" } : Jvm.MethodName)) ∈ GW := gw_5 158 rfl rfl
theorem q5_159 : (Jvm.Cond.code ({ cls := "EvenTown$Counts", name := "narrow", desc := "(J[I)V" } : Jvm.MethodName) prog_3_method_5_code (6 : Nat) (Option.none : Option Jvm.ClassFile.FieldType)) ∈ GW := gw_5 159 rfl rfl
theorem q5_160 : (Jvm.Cond.methodLink "EvenTown$Answers" (129 : Nat) ({ cls := "EvenTown$Days", name := "layAlive", desc := "(LEvenTown$Day;[I)V" } : Jvm.MethodName)) ∈ GW := gw_5 160 rfl rfl
theorem q5_161 : (Jvm.Cond.instanceMethod ({ cls := "EvenTown$Days", name := "layAlive", desc := "(LEvenTown$Day;[I)V" } : Jvm.MethodName)) ∈ GW := gw_5 161 rfl rfl
theorem q5_162 : (Jvm.Cond.selects "EvenTown$Days" ({ cls := "EvenTown$Days", name := "layAlive", desc := "(LEvenTown$Day;[I)V" } : Jvm.MethodName) ({ cls := "EvenTown$Days", name := "layAlive", desc := "(LEvenTown$Day;[I)V" } : Jvm.MethodName)) ∈ GW := gw_5 162 rfl rfl
theorem q5_163 : (Jvm.Cond.code ({ cls := "EvenTown$Days", name := "layAlive", desc := "(LEvenTown$Day;[I)V" } : Jvm.MethodName) prog_5_method_13_code (5 : Nat) (Option.none : Option Jvm.ClassFile.FieldType)) ∈ GW := gw_5 163 rfl rfl
theorem q5_164 : (Jvm.Cond.methodLink "EvenTown$Days" (127 : Nat) ({ cls := "java/lang/System", name := "arraycopy", desc := "(Ljava/lang/Object;ILjava/lang/Object;II)V" } : Jvm.MethodName)) ∈ GW := gw_5 164 rfl rfl
theorem q5_165 : (Jvm.Cond.methodLink "EvenTown$Days" (133 : Nat) ({ cls := "EvenTown$Days", name := "homeState", desc := "(LEvenTown$Day;)I" } : Jvm.MethodName)) ∈ GW := gw_5 165 rfl rfl
theorem q5_166 : (Jvm.Cond.static ({ cls := "EvenTown$Days", name := "homeState", desc := "(LEvenTown$Day;)I" } : Jvm.MethodName)) ∈ GW := gw_5 166 rfl rfl
theorem q5_167 : (Jvm.Cond.code ({ cls := "EvenTown$Days", name := "homeState", desc := "(LEvenTown$Day;)I" } : Jvm.MethodName) prog_5_method_15_code (3 : Nat) (Option.some Jvm.ClassFile.FieldType.int)) ∈ GW := gw_5 167 rfl rfl
theorem q5_168 : (Jvm.Cond.methodLink "EvenTown$Days" (137 : Nat) ({ cls := "EvenTown$Days", name := "goAll", desc := "(LEvenTown$Day;)V" } : Jvm.MethodName)) ∈ GW := gw_5 168 rfl rfl
theorem q5_170 : (Jvm.Cond.instanceMethod ({ cls := "EvenTown$Days", name := "goAll", desc := "(LEvenTown$Day;)V" } : Jvm.MethodName)) ∈ GW := gw_5 170 rfl rfl
theorem q5_171 : (Jvm.Cond.code ({ cls := "EvenTown$Days", name := "goAll", desc := "(LEvenTown$Day;)V" } : Jvm.MethodName) prog_5_method_14_code (3 : Nat) (Option.none : Option Jvm.ClassFile.FieldType)) ∈ GW := gw_5 171 rfl rfl
theorem q5_172 : (Jvm.Cond.methodLink "EvenTown$Answers" (140 : Nat) ({ cls := "EvenTown$Day", name := "placeIn", desc := "(II)I" } : Jvm.MethodName)) ∈ GW := gw_5 172 rfl rfl
theorem q5_173 : (Jvm.Cond.methodLink "EvenTown$Answers" (144 : Nat) ({ cls := "EvenTown$Day", name := "crowds", desc := "(I)I" } : Jvm.MethodName)) ∈ GW := gw_5 173 rfl rfl
theorem q5_174 : (Jvm.Cond.methodLink "EvenTownLaw" (82 : Nat) ({ cls := "EvenTown", name := "mend", desc := "()I" } : Jvm.MethodName)) ∈ GW := gw_5 174 rfl rfl
theorem q5_175 : (Jvm.Cond.instanceMethod ({ cls := "EvenTown", name := "mend", desc := "()I" } : Jvm.MethodName)) ∈ GW := gw_5 175 rfl rfl
theorem q5_176 : (Jvm.Cond.selects "EvenTown" ({ cls := "EvenTown", name := "mend", desc := "()I" } : Jvm.MethodName) ({ cls := "EvenTown", name := "mend", desc := "()I" } : Jvm.MethodName)) ∈ GW := gw_5 176 rfl rfl
theorem q5_177 : (Jvm.Cond.code ({ cls := "EvenTown", name := "mend", desc := "()I" } : Jvm.MethodName) prog_1_method_18_code (1 : Nat) (Option.some Jvm.ClassFile.FieldType.int)) ∈ GW := gw_5 177 rfl rfl
theorem q5_178 : (Jvm.Cond.methodLink "EvenTown" (204 : Nat) ({ cls := "EvenTown$Earnest", name := "leastMending", desc := "(LEvenTown$Town;)I" } : Jvm.MethodName)) ∈ GW := gw_5 178 rfl rfl
theorem q5_179 : (Jvm.Cond.instanceMethod ({ cls := "EvenTown$Earnest", name := "leastMending", desc := "(LEvenTown$Town;)I" } : Jvm.MethodName)) ∈ GW := gw_5 179 rfl rfl
theorem q5_180 : (Jvm.Cond.selects "EvenTown$Earnest" ({ cls := "EvenTown$Earnest", name := "leastMending", desc := "(LEvenTown$Town;)I" } : Jvm.MethodName) ({ cls := "EvenTown$Earnest", name := "leastMending", desc := "(LEvenTown$Town;)I" } : Jvm.MethodName)) ∈ GW := gw_5 180 rfl rfl
theorem q5_181 : (Jvm.Cond.code ({ cls := "EvenTown$Earnest", name := "leastMending", desc := "(LEvenTown$Town;)I" } : Jvm.MethodName) prog_6_method_5_code (4 : Nat) (Option.some Jvm.ClassFile.FieldType.int)) ∈ GW := gw_5 181 rfl rfl
theorem q5_182 : (Jvm.Cond.methodLink "EvenTown$Earnest" (45 : Nat) ({ cls := "EvenTown$Town", name := "crowd", desc := "([III)I" } : Jvm.MethodName)) ∈ GW := gw_5 182 rfl rfl
theorem q5_183 : (Jvm.Cond.methodLink "EvenTown$Earnest" (53 : Nat) ({ cls := "EvenTown$Earnest", name := "leastPairing", desc := "(LEvenTown$Town;II)I" } : Jvm.MethodName)) ∈ GW := gw_5 183 rfl rfl
theorem q5_184 : (Jvm.Cond.static ({ cls := "EvenTown$Earnest", name := "leastPairing", desc := "(LEvenTown$Town;II)I" } : Jvm.MethodName)) ∈ GW := gw_5 184 rfl rfl
theorem q5_185 : (Jvm.Cond.code ({ cls := "EvenTown$Earnest", name := "leastPairing", desc := "(LEvenTown$Town;II)I" } : Jvm.MethodName) prog_6_method_6_code (6 : Nat) (Option.some Jvm.ClassFile.FieldType.int)) ∈ GW := gw_5 185 rfl rfl
theorem q5_186 : (Jvm.Cond.constant "EvenTown$Earnest" (57 : Nat) (1000000 : Int32)) ∈ GW := gw_5 186 rfl rfl
theorem q5_187 : (Jvm.Cond.methodLink "EvenTown$Earnest" (61 : Nat) ({ cls := "java/lang/Math", name := "min", desc := "(II)I" } : Jvm.MethodName)) ∈ GW := gw_5 187 rfl rfl
theorem q5_188 : (Jvm.Cond.methodLink "EvenTownLaw" (86 : Nat) ({ cls := "EvenTown", name := "where", desc := "(I)I" } : Jvm.MethodName)) ∈ GW := gw_5 188 rfl rfl
theorem q5_189 : (Jvm.Cond.instanceMethod ({ cls := "EvenTown", name := "where", desc := "(I)I" } : Jvm.MethodName)) ∈ GW := gw_5 189 rfl rfl
theorem q5_190 : (Jvm.Cond.selects "EvenTown" ({ cls := "EvenTown", name := "where", desc := "(I)I" } : Jvm.MethodName) ({ cls := "EvenTown", name := "where", desc := "(I)I" } : Jvm.MethodName)) ∈ GW := gw_5 190 rfl rfl
theorem q5_191 : (Jvm.Cond.code ({ cls := "EvenTown", name := "where", desc := "(I)I" } : Jvm.MethodName) prog_1_method_19_code (2 : Nat) (Option.some Jvm.ClassFile.FieldType.int)) ∈ GW := gw_5 191 rfl rfl
theorem q5_192 : (Jvm.Cond.methodLink "EvenTownLaw" (90 : Nat) ({ cls := "EvenTown", name := "send", desc := "(II)Z" } : Jvm.MethodName)) ∈ GW := gw_5 192 rfl rfl
theorem q5_193 : (Jvm.Cond.instanceMethod ({ cls := "EvenTown", name := "send", desc := "(II)Z" } : Jvm.MethodName)) ∈ GW := gw_5 193 rfl rfl
theorem q5_194 : (Jvm.Cond.selects "EvenTown" ({ cls := "EvenTown", name := "send", desc := "(II)Z" } : Jvm.MethodName) ({ cls := "EvenTown", name := "send", desc := "(II)Z" } : Jvm.MethodName)) ∈ GW := gw_5 194 rfl rfl
theorem q5_195 : (Jvm.Cond.code ({ cls := "EvenTown", name := "send", desc := "(II)Z" } : Jvm.MethodName) prog_1_method_20_code (3 : Nat) (Option.some Jvm.ClassFile.FieldType.boolean)) ∈ GW := gw_5 195 rfl rfl
theorem q5_196 : (Jvm.Cond.methodLink "EvenTown" (211 : Nat) ({ cls := "EvenTown$Town", name := "gets", desc := "(II)Z" } : Jvm.MethodName)) ∈ GW := gw_5 196 rfl rfl
theorem q5_197 : (Jvm.Cond.methodLink "EvenTownLaw" (95 : Nat) ({ cls := "EvenTown", name := "strike", desc := "()I" } : Jvm.MethodName)) ∈ GW := gw_5 197 rfl rfl
theorem q5_198 : (Jvm.Cond.instanceMethod ({ cls := "EvenTown", name := "strike", desc := "()I" } : Jvm.MethodName)) ∈ GW := gw_5 198 rfl rfl
theorem q5_199 : (Jvm.Cond.selects "EvenTown" ({ cls := "EvenTown", name := "strike", desc := "()I" } : Jvm.MethodName) ({ cls := "EvenTown", name := "strike", desc := "()I" } : Jvm.MethodName)) ∈ GW := gw_5 199 rfl rfl
theorem q5_200 : (Jvm.Cond.code ({ cls := "EvenTown", name := "strike", desc := "()I" } : Jvm.MethodName) prog_1_method_21_code (1 : Nat) (Option.some Jvm.ClassFile.FieldType.int)) ∈ GW := gw_5 200 rfl rfl
theorem q5_201 : (Jvm.Cond.methodLink "EvenTown" (220 : Nat) ({ cls := "EvenTown$Earnest", name := "strikeNow", desc := "(LEvenTown$Town;)I" } : Jvm.MethodName)) ∈ GW := gw_5 201 rfl rfl
theorem q5_202 : (Jvm.Cond.instanceMethod ({ cls := "EvenTown$Earnest", name := "strikeNow", desc := "(LEvenTown$Town;)I" } : Jvm.MethodName)) ∈ GW := gw_5 202 rfl rfl
theorem q5_203 : (Jvm.Cond.selects "EvenTown$Earnest" ({ cls := "EvenTown$Earnest", name := "strikeNow", desc := "(LEvenTown$Town;)I" } : Jvm.MethodName) ({ cls := "EvenTown$Earnest", name := "strikeNow", desc := "(LEvenTown$Town;)I" } : Jvm.MethodName)) ∈ GW := gw_5 203 rfl rfl
theorem q5_204 : (Jvm.Cond.code ({ cls := "EvenTown$Earnest", name := "strikeNow", desc := "(LEvenTown$Town;)I" } : Jvm.MethodName) prog_6_method_4_code (4 : Nat) (Option.some Jvm.ClassFile.FieldType.int)) ∈ GW := gw_5 204 rfl rfl
theorem q5_205 : (Jvm.Cond.methodLink "EvenTown$Earnest" (49 : Nat) ({ cls := "EvenTown$Town", name := "isRight", desc := "(III)Z" } : Jvm.MethodName)) ∈ GW := gw_5 205 rfl rfl
theorem q5_206 : (Jvm.Cond.methodLink "EvenTownLaw" (99 : Nat) ({ cls := "EvenTown", name := "count", desc := "(III)I" } : Jvm.MethodName)) ∈ GW := gw_5 206 rfl rfl
theorem q5_207 : (Jvm.Cond.instanceMethod ({ cls := "EvenTown", name := "count", desc := "(III)I" } : Jvm.MethodName)) ∈ GW := gw_5 207 rfl rfl
theorem q5_208 : (Jvm.Cond.selects "EvenTown" ({ cls := "EvenTown", name := "count", desc := "(III)I" } : Jvm.MethodName) ({ cls := "EvenTown", name := "count", desc := "(III)I" } : Jvm.MethodName)) ∈ GW := gw_5 208 rfl rfl
theorem q5_209 : (Jvm.Cond.code ({ cls := "EvenTown", name := "count", desc := "(III)I" } : Jvm.MethodName) prog_1_method_22_code (4 : Nat) (Option.some Jvm.ClassFile.FieldType.int)) ∈ GW := gw_5 209 rfl rfl
theorem q5_210 : (Jvm.Cond.methodLink "EvenTown" (223 : Nat) ({ cls := "EvenTown$Counts", name := "tell", desc := "(III)I" } : Jvm.MethodName)) ∈ GW := gw_5 210 rfl rfl
theorem q5_211 : (Jvm.Cond.instanceMethod ({ cls := "EvenTown$Counts", name := "tell", desc := "(III)I" } : Jvm.MethodName)) ∈ GW := gw_5 211 rfl rfl
theorem q5_212 : (Jvm.Cond.selects "EvenTown$Counts" ({ cls := "EvenTown$Counts", name := "tell", desc := "(III)I" } : Jvm.MethodName) ({ cls := "EvenTown$Counts", name := "tell", desc := "(III)I" } : Jvm.MethodName)) ∈ GW := gw_5 212 rfl rfl
theorem q5_213 : (Jvm.Cond.code ({ cls := "EvenTown$Counts", name := "tell", desc := "(III)I" } : Jvm.MethodName) prog_3_method_2_code (4 : Nat) (Option.some Jvm.ClassFile.FieldType.int)) ∈ GW := gw_5 213 rfl rfl
theorem q5_214 : (Jvm.Cond.methodLink "EvenTownLaw" (103 : Nat) ({ cls := "EvenTown", name := "untell", desc := "(I)Z" } : Jvm.MethodName)) ∈ GW := gw_5 214 rfl rfl
theorem q5_215 : (Jvm.Cond.instanceMethod ({ cls := "EvenTown", name := "untell", desc := "(I)Z" } : Jvm.MethodName)) ∈ GW := gw_5 215 rfl rfl
theorem q5_216 : (Jvm.Cond.selects "EvenTown" ({ cls := "EvenTown", name := "untell", desc := "(I)Z" } : Jvm.MethodName) ({ cls := "EvenTown", name := "untell", desc := "(I)Z" } : Jvm.MethodName)) ∈ GW := gw_5 216 rfl rfl
theorem q5_217 : (Jvm.Cond.code ({ cls := "EvenTown", name := "untell", desc := "(I)Z" } : Jvm.MethodName) prog_1_method_23_code (2 : Nat) (Option.some Jvm.ClassFile.FieldType.boolean)) ∈ GW := gw_5 217 rfl rfl
theorem q5_218 : (Jvm.Cond.methodLink "EvenTown" (226 : Nat) ({ cls := "EvenTown$Counts", name := "takeBack", desc := "(I)Z" } : Jvm.MethodName)) ∈ GW := gw_5 218 rfl rfl
theorem q5_219 : (Jvm.Cond.instanceMethod ({ cls := "EvenTown$Counts", name := "takeBack", desc := "(I)Z" } : Jvm.MethodName)) ∈ GW := gw_5 219 rfl rfl
theorem q5_220 : (Jvm.Cond.selects "EvenTown$Counts" ({ cls := "EvenTown$Counts", name := "takeBack", desc := "(I)Z" } : Jvm.MethodName) ({ cls := "EvenTown$Counts", name := "takeBack", desc := "(I)Z" } : Jvm.MethodName)) ∈ GW := gw_5 220 rfl rfl
theorem q5_221 : (Jvm.Cond.code ({ cls := "EvenTown$Counts", name := "takeBack", desc := "(I)Z" } : Jvm.MethodName) prog_3_method_3_code (2 : Nat) (Option.some Jvm.ClassFile.FieldType.boolean)) ∈ GW := gw_5 221 rfl rfl
theorem q5_222 : (Jvm.Cond.methodLink "EvenTownLaw" (108 : Nat) ({ cls := "EvenTown", name := "later", desc := "(I)I" } : Jvm.MethodName)) ∈ GW := gw_5 222 rfl rfl
theorem q5_223 : (Jvm.Cond.instanceMethod ({ cls := "EvenTown", name := "later", desc := "(I)I" } : Jvm.MethodName)) ∈ GW := gw_5 223 rfl rfl
theorem q5_224 : (Jvm.Cond.selects "EvenTown" ({ cls := "EvenTown", name := "later", desc := "(I)I" } : Jvm.MethodName) ({ cls := "EvenTown", name := "later", desc := "(I)I" } : Jvm.MethodName)) ∈ GW := gw_5 224 rfl rfl
theorem q5_225 : (Jvm.Cond.code ({ cls := "EvenTown", name := "later", desc := "(I)I" } : Jvm.MethodName) prog_1_method_24_code (2 : Nat) (Option.some Jvm.ClassFile.FieldType.int)) ∈ GW := gw_5 225 rfl rfl
theorem q5_226 : (Jvm.Cond.constant "EvenTown" (232 : Nat) (100000 : Int32)) ∈ GW := gw_5 226 rfl rfl
theorem q5_227 : (Jvm.Cond.methodLink "EvenTownLaw" (112 : Nat) ({ cls := "EvenTown", name := "states", desc := "(II)I" } : Jvm.MethodName)) ∈ GW := gw_5 227 rfl rfl
theorem q5_228 : (Jvm.Cond.instanceMethod ({ cls := "EvenTown", name := "states", desc := "(II)I" } : Jvm.MethodName)) ∈ GW := gw_5 228 rfl rfl
theorem q5_229 : (Jvm.Cond.selects "EvenTown" ({ cls := "EvenTown", name := "states", desc := "(II)I" } : Jvm.MethodName) ({ cls := "EvenTown", name := "states", desc := "(II)I" } : Jvm.MethodName)) ∈ GW := gw_5 229 rfl rfl
theorem q5_230 : (Jvm.Cond.code ({ cls := "EvenTown", name := "states", desc := "(II)I" } : Jvm.MethodName) prog_1_method_25_code (3 : Nat) (Option.some Jvm.ClassFile.FieldType.int)) ∈ GW := gw_5 230 rfl rfl
theorem q5_231 : (Jvm.Cond.methodLink "EvenTown" (233 : Nat) ({ cls := "EvenTown$Answers", name := "statesAt", desc := "(ILEvenTown$Counts;I)I" } : Jvm.MethodName)) ∈ GW := gw_5 231 rfl rfl
theorem q5_232 : (Jvm.Cond.instanceMethod ({ cls := "EvenTown$Answers", name := "statesAt", desc := "(ILEvenTown$Counts;I)I" } : Jvm.MethodName)) ∈ GW := gw_5 232 rfl rfl
theorem q5_233 : (Jvm.Cond.selects "EvenTown$Answers" ({ cls := "EvenTown$Answers", name := "statesAt", desc := "(ILEvenTown$Counts;I)I" } : Jvm.MethodName) ({ cls := "EvenTown$Answers", name := "statesAt", desc := "(ILEvenTown$Counts;I)I" } : Jvm.MethodName)) ∈ GW := gw_5 233 rfl rfl
theorem q5_234 : (Jvm.Cond.code ({ cls := "EvenTown$Answers", name := "statesAt", desc := "(ILEvenTown$Counts;I)I" } : Jvm.MethodName) prog_2_method_12_code (6 : Nat) (Option.some Jvm.ClassFile.FieldType.int)) ∈ GW := gw_5 234 rfl rfl
theorem q5_235 : (Jvm.Cond.methodLink "EvenTown$Answers" (147 : Nat) ({ cls := "EvenTown$Counts", name := "knownAt", desc := "(I)J" } : Jvm.MethodName)) ∈ GW := gw_5 235 rfl rfl
theorem q5_236 : (Jvm.Cond.instanceMethod ({ cls := "EvenTown$Counts", name := "knownAt", desc := "(I)J" } : Jvm.MethodName)) ∈ GW := gw_5 236 rfl rfl
theorem q5_237 : (Jvm.Cond.selects "EvenTown$Counts" ({ cls := "EvenTown$Counts", name := "knownAt", desc := "(I)J" } : Jvm.MethodName) ({ cls := "EvenTown$Counts", name := "knownAt", desc := "(I)J" } : Jvm.MethodName)) ∈ GW := gw_5 237 rfl rfl
theorem q5_238 : (Jvm.Cond.code ({ cls := "EvenTown$Counts", name := "knownAt", desc := "(I)J" } : Jvm.MethodName) prog_3_method_4_code (6 : Nat) (Option.some Jvm.ClassFile.FieldType.long)) ∈ GW := gw_5 238 rfl rfl
theorem q5_239 : (Jvm.Cond.methodLink "EvenTownLaw" (116 : Nat) ({ cls := "EvenTown", name := "sure", desc := "(IIII)I" } : Jvm.MethodName)) ∈ GW := gw_5 239 rfl rfl
theorem q6_0 : (Jvm.Cond.instanceMethod ({ cls := "EvenTown", name := "sure", desc := "(IIII)I" } : Jvm.MethodName)) ∈ GW := gw_6 0 rfl rfl
theorem q6_1 : (Jvm.Cond.selects "EvenTown" ({ cls := "EvenTown", name := "sure", desc := "(IIII)I" } : Jvm.MethodName) ({ cls := "EvenTown", name := "sure", desc := "(IIII)I" } : Jvm.MethodName)) ∈ GW := gw_6 1 rfl rfl
theorem q6_2 : (Jvm.Cond.code ({ cls := "EvenTown", name := "sure", desc := "(IIII)I" } : Jvm.MethodName) prog_1_method_26_code (7 : Nat) (Option.some Jvm.ClassFile.FieldType.int)) ∈ GW := gw_6 2 rfl rfl
theorem q6_3 : (Jvm.Cond.methodLink "EvenTown" (237 : Nat) ({ cls := "EvenTown$Answers", name := "statesWith", desc := "(III)I" } : Jvm.MethodName)) ∈ GW := gw_6 3 rfl rfl
theorem q6_4 : (Jvm.Cond.instanceMethod ({ cls := "EvenTown$Answers", name := "statesWith", desc := "(III)I" } : Jvm.MethodName)) ∈ GW := gw_6 4 rfl rfl
theorem q6_5 : (Jvm.Cond.selects "EvenTown$Answers" ({ cls := "EvenTown$Answers", name := "statesWith", desc := "(III)I" } : Jvm.MethodName) ({ cls := "EvenTown$Answers", name := "statesWith", desc := "(III)I" } : Jvm.MethodName)) ∈ GW := gw_6 5 rfl rfl
theorem q6_6 : (Jvm.Cond.code ({ cls := "EvenTown$Answers", name := "statesWith", desc := "(III)I" } : Jvm.MethodName) prog_2_method_13_code (6 : Nat) (Option.some Jvm.ClassFile.FieldType.int)) ∈ GW := gw_6 6 rfl rfl
theorem q6_7 : (Jvm.Cond.methodLink "EvenTownLaw" (121 : Nat) ({ cls := "EvenTown", name := "image", desc := "(I)I" } : Jvm.MethodName)) ∈ GW := gw_6 7 rfl rfl
theorem q6_8 : (Jvm.Cond.instanceMethod ({ cls := "EvenTown", name := "image", desc := "(I)I" } : Jvm.MethodName)) ∈ GW := gw_6 8 rfl rfl
theorem q6_9 : (Jvm.Cond.selects "EvenTown" ({ cls := "EvenTown", name := "image", desc := "(I)I" } : Jvm.MethodName) ({ cls := "EvenTown", name := "image", desc := "(I)I" } : Jvm.MethodName)) ∈ GW := gw_6 9 rfl rfl
theorem q6_10 : (Jvm.Cond.code ({ cls := "EvenTown", name := "image", desc := "(I)I" } : Jvm.MethodName) prog_1_method_27_code (2 : Nat) (Option.some Jvm.ClassFile.FieldType.int)) ∈ GW := gw_6 10 rfl rfl
theorem q6_11 : (Jvm.Cond.methodLink "EvenTown" (240 : Nat) ({ cls := "EvenTown$Earnest", name := "copyFrom", desc := "(LEvenTown$Earnest;)V" } : Jvm.MethodName)) ∈ GW := gw_6 11 rfl rfl
theorem q6_12 : (Jvm.Cond.instanceMethod ({ cls := "EvenTown$Earnest", name := "copyFrom", desc := "(LEvenTown$Earnest;)V" } : Jvm.MethodName)) ∈ GW := gw_6 12 rfl rfl
theorem q6_13 : (Jvm.Cond.selects "EvenTown$Earnest" ({ cls := "EvenTown$Earnest", name := "copyFrom", desc := "(LEvenTown$Earnest;)V" } : Jvm.MethodName) ({ cls := "EvenTown$Earnest", name := "copyFrom", desc := "(LEvenTown$Earnest;)V" } : Jvm.MethodName)) ∈ GW := gw_6 13 rfl rfl
theorem q6_14 : (Jvm.Cond.code ({ cls := "EvenTown$Earnest", name := "copyFrom", desc := "(LEvenTown$Earnest;)V" } : Jvm.MethodName) prog_6_method_3_code (2 : Nat) (Option.none : Option Jvm.ClassFile.FieldType)) ∈ GW := gw_6 14 rfl rfl
theorem q6_15 : (Jvm.Cond.methodLink "EvenTownLaw" (125 : Nat) ({ cls := "EvenTown", name := "back", desc := "(I)I" } : Jvm.MethodName)) ∈ GW := gw_6 15 rfl rfl
theorem q6_16 : (Jvm.Cond.instanceMethod ({ cls := "EvenTown", name := "back", desc := "(I)I" } : Jvm.MethodName)) ∈ GW := gw_6 16 rfl rfl
theorem q6_17 : (Jvm.Cond.selects "EvenTown" ({ cls := "EvenTown", name := "back", desc := "(I)I" } : Jvm.MethodName) ({ cls := "EvenTown", name := "back", desc := "(I)I" } : Jvm.MethodName)) ∈ GW := gw_6 17 rfl rfl
theorem q6_18 : (Jvm.Cond.code ({ cls := "EvenTown", name := "back", desc := "(I)I" } : Jvm.MethodName) prog_1_method_28_code (2 : Nat) (Option.some Jvm.ClassFile.FieldType.int)) ∈ GW := gw_6 18 rfl rfl
theorem q6_19 : (Jvm.Cond.methodLink "EvenTownLaw" (129 : Nat) ({ cls := "EvenTown", name := "about", desc := "(I)I" } : Jvm.MethodName)) ∈ GW := gw_6 19 rfl rfl
theorem q6_20 : (Jvm.Cond.instanceMethod ({ cls := "EvenTown", name := "about", desc := "(I)I" } : Jvm.MethodName)) ∈ GW := gw_6 20 rfl rfl
theorem q6_21 : (Jvm.Cond.selects "EvenTown" ({ cls := "EvenTown", name := "about", desc := "(I)I" } : Jvm.MethodName) ({ cls := "EvenTown", name := "about", desc := "(I)I" } : Jvm.MethodName)) ∈ GW := gw_6 21 rfl rfl
theorem q6_22 : (Jvm.Cond.code ({ cls := "EvenTown", name := "about", desc := "(I)I" } : Jvm.MethodName) prog_1_method_29_code (2 : Nat) (Option.some Jvm.ClassFile.FieldType.int)) ∈ GW := gw_6 22 rfl rfl
theorem q6_23 : (Jvm.Cond.classLink "EvenTownLaw" (10 : Nat) "EvenTownModel") ∈ GW := gw_6 23 rfl rfl
theorem q6_24 : (Jvm.Cond.instantiable "EvenTownModel" (87 : Nat)) ∈ GW := gw_6 24 rfl rfl
theorem q6_25 : (Jvm.Cond.methodLink "EvenTownLaw" (12 : Nat) ({ cls := "EvenTownModel", name := "<init>", desc := "()V" } : Jvm.MethodName)) ∈ GW := gw_6 25 rfl rfl
theorem q6_26 : (Jvm.Cond.instanceMethod ({ cls := "EvenTownModel", name := "<init>", desc := "()V" } : Jvm.MethodName)) ∈ GW := gw_6 26 rfl rfl
theorem q6_27 : (Jvm.Cond.code ({ cls := "EvenTownModel", name := "<init>", desc := "()V" } : Jvm.MethodName) prog_14_method_1_code (2 : Nat) (Option.none : Option Jvm.ClassFile.FieldType)) ∈ GW := gw_6 27 rfl rfl
theorem q6_28 : (Jvm.Cond.methodLink "EvenTownModel" (1 : Nat) ({ cls := "java/lang/Object", name := "<init>", desc := "()V" } : Jvm.MethodName)) ∈ GW := gw_6 28 rfl rfl
theorem q6_29 : (Jvm.Cond.constant "EvenTownModel" (122 : Nat) (70000 : Int32)) ∈ GW := gw_6 29 rfl rfl
theorem q6_30 : (Jvm.Cond.methodLink "EvenTownModel" (189 : Nat) ({ cls := "EvenTownModel", name := "clearBank", desc := "()V" } : Jvm.MethodName)) ∈ GW := gw_6 30 rfl rfl
theorem q6_32 : (Jvm.Cond.instanceMethod ({ cls := "EvenTownModel", name := "clearBank", desc := "()V" } : Jvm.MethodName)) ∈ GW := gw_6 32 rfl rfl
theorem q6_33 : (Jvm.Cond.code ({ cls := "EvenTownModel", name := "clearBank", desc := "()V" } : Jvm.MethodName) prog_14_method_17_code (2 : Nat) (Option.none : Option Jvm.ClassFile.FieldType)) ∈ GW := gw_6 33 rfl rfl
theorem q6_34 : (Jvm.Cond.constant "EvenTownModel" (307 : Nat) (1000000 : Int32)) ∈ GW := gw_6 34 rfl rfl
theorem q6_35 : (Jvm.Cond.methodLink "EvenTownModel" (192 : Nat) ({ cls := "EvenTownModel", name := "begin", desc := "()V" } : Jvm.MethodName)) ∈ GW := gw_6 35 rfl rfl
theorem q6_37 : (Jvm.Cond.instanceMethod ({ cls := "EvenTownModel", name := "begin", desc := "()V" } : Jvm.MethodName)) ∈ GW := gw_6 37 rfl rfl
theorem q6_38 : (Jvm.Cond.code ({ cls := "EvenTownModel", name := "begin", desc := "()V" } : Jvm.MethodName) prog_14_method_92_code (2 : Nat) (Option.none : Option Jvm.ClassFile.FieldType)) ∈ GW := gw_6 38 rfl rfl
theorem q6_39 : (Jvm.Cond.methodLink "EvenTownModel" (418 : Nat) ({ cls := "EvenTownModel", name := "personMany", desc := "()I" } : Jvm.MethodName)) ∈ GW := gw_6 39 rfl rfl
theorem q6_41 : (Jvm.Cond.instanceMethod ({ cls := "EvenTownModel", name := "personMany", desc := "()I" } : Jvm.MethodName)) ∈ GW := gw_6 41 rfl rfl
theorem q6_42 : (Jvm.Cond.code ({ cls := "EvenTownModel", name := "personMany", desc := "()I" } : Jvm.MethodName) prog_14_method_48_code (1 : Nat) (Option.some Jvm.ClassFile.FieldType.int)) ∈ GW := gw_6 42 rfl rfl
theorem q6_43 : (Jvm.Cond.methodLink "EvenTownModel" (527 : Nat) ({ cls := "EvenTownModel", name := "stayHome", desc := "(I)V" } : Jvm.MethodName)) ∈ GW := gw_6 43 rfl rfl
theorem q6_45 : (Jvm.Cond.instanceMethod ({ cls := "EvenTownModel", name := "stayHome", desc := "(I)V" } : Jvm.MethodName)) ∈ GW := gw_6 45 rfl rfl
theorem q6_46 : (Jvm.Cond.code ({ cls := "EvenTownModel", name := "stayHome", desc := "(I)V" } : Jvm.MethodName) prog_14_method_84_code (4 : Nat) (Option.none : Option Jvm.ClassFile.FieldType)) ∈ GW := gw_6 46 rfl rfl
theorem q6_47 : (Jvm.Cond.fieldLink "EvenTownModel" (7 : Nat) "EvenTownModel" "tape" "[B") ∈ GW := gw_6 47 rfl rfl
theorem q6_48 : (Jvm.Cond.fieldLink "EvenTownModel" (13 : Nat) "EvenTownModel" "text" "[B") ∈ GW := gw_6 48 rfl rfl
theorem q6_49 : (Jvm.Cond.fieldLink "EvenTownModel" (298 : Nat) "EvenTownModel" "taped" "I") ∈ GW := gw_6 49 rfl rfl
theorem q6_50 : (Jvm.Cond.fieldLink "EvenTownModel" (195 : Nat) "EvenTownModel" "size" "I") ∈ GW := gw_6 50 rfl rfl
theorem q6_51 : (Jvm.Cond.fieldLink "EvenTownModel" (198 : Nat) "EvenTownModel" "faultKind" "I") ∈ GW := gw_6 51 rfl rfl
theorem q6_52 : (Jvm.Cond.fieldLink "EvenTownModel" (16 : Nat) "EvenTownModel" "faultPlace" "I") ∈ GW := gw_6 52 rfl rfl
theorem q6_53 : (Jvm.Cond.fieldLink "EvenTownModel" (242 : Nat) "EvenTownModel" "at" "I") ∈ GW := gw_6 53 rfl rfl
theorem q6_54 : (Jvm.Cond.fieldLink "EvenTownModel" (239 : Nat) "EvenTownModel" "end" "I") ∈ GW := gw_6 54 rfl rfl
theorem q6_55 : (Jvm.Cond.fieldLink "EvenTownModel" (249 : Nat) "EvenTownModel" "token" "I") ∈ GW := gw_6 55 rfl rfl
theorem q6_56 : (Jvm.Cond.fieldLink "EvenTownModel" (267 : Nat) "EvenTownModel" "number" "I") ∈ GW := gw_6 56 rfl rfl
theorem q6_57 : (Jvm.Cond.fieldLink "EvenTownModel" (256 : Nat) "EvenTownModel" "name" "J") ∈ GW := gw_6 57 rfl rfl
theorem q6_58 : (Jvm.Cond.fieldLink "EvenTownModel" (20 : Nat) "EvenTownModel" "places" "[I") ∈ GW := gw_6 58 rfl rfl
theorem q6_59 : (Jvm.Cond.fieldLink "EvenTownModel" (24 : Nat) "EvenTownModel" "ways" "[I") ∈ GW := gw_6 59 rfl rfl
theorem q6_60 : (Jvm.Cond.fieldLink "EvenTownModel" (27 : Nat) "EvenTownModel" "persons" "[I") ∈ GW := gw_6 60 rfl rfl
theorem q6_61 : (Jvm.Cond.fieldLink "EvenTownModel" (30 : Nat) "EvenTownModel" "dogs" "[I") ∈ GW := gw_6 61 rfl rfl
theorem q6_62 : (Jvm.Cond.fieldLink "EvenTownModel" (33 : Nat) "EvenTownModel" "errands" "[I") ∈ GW := gw_6 62 rfl rfl
theorem q6_63 : (Jvm.Cond.fieldLink "EvenTownModel" (36 : Nat) "EvenTownModel" "hour" "[I") ∈ GW := gw_6 63 rfl rfl
theorem q6_64 : (Jvm.Cond.fieldLink "EvenTownModel" (39 : Nat) "EvenTownModel" "strokes" "[I") ∈ GW := gw_6 64 rfl rfl
theorem q6_65 : (Jvm.Cond.fieldLink "EvenTownModel" (42 : Nat) "EvenTownModel" "unitsOf" "[I") ∈ GW := gw_6 65 rfl rfl
theorem q6_66 : (Jvm.Cond.fieldLink "EvenTownModel" (45 : Nat) "EvenTownModel" "isHour" "[Z") ∈ GW := gw_6 66 rfl rfl
theorem q6_67 : (Jvm.Cond.fieldLink "EvenTownModel" (49 : Nat) "EvenTownModel" "isStrokes" "[Z") ∈ GW := gw_6 67 rfl rfl
theorem q6_68 : (Jvm.Cond.fieldLink "EvenTownModel" (52 : Nat) "EvenTownModel" "isRule" "[Z") ∈ GW := gw_6 68 rfl rfl
theorem q6_69 : (Jvm.Cond.fieldLink "EvenTownModel" (55 : Nat) "EvenTownModel" "isEmpty" "[Z") ∈ GW := gw_6 69 rfl rfl
theorem q6_70 : (Jvm.Cond.fieldLink "EvenTownModel" (58 : Nat) "EvenTownModel" "pName" "[J") ∈ GW := gw_6 70 rfl rfl
theorem q6_71 : (Jvm.Cond.fieldLink "EvenTownModel" (62 : Nat) "EvenTownModel" "nName" "[J") ∈ GW := gw_6 71 rfl rfl
theorem q6_72 : (Jvm.Cond.fieldLink "EvenTownModel" (65 : Nat) "EvenTownModel" "dName" "[J") ∈ GW := gw_6 72 rfl rfl
theorem q6_73 : (Jvm.Cond.fieldLink "EvenTownModel" (68 : Nat) "EvenTownModel" "wayOf" "[I") ∈ GW := gw_6 73 rfl rfl
theorem q6_74 : (Jvm.Cond.fieldLink "EvenTownModel" (71 : Nat) "EvenTownModel" "home" "[I") ∈ GW := gw_6 74 rfl rfl
theorem q6_75 : (Jvm.Cond.fieldLink "EvenTownModel" (74 : Nat) "EvenTownModel" "hire" "[I") ∈ GW := gw_6 75 rfl rfl
theorem q6_76 : (Jvm.Cond.fieldLink "EvenTownModel" (77 : Nat) "EvenTownModel" "dogsAt" "[I") ∈ GW := gw_6 76 rfl rfl
theorem q6_77 : (Jvm.Cond.fieldLink "EvenTownModel" (80 : Nat) "EvenTownModel" "eWho" "[I") ∈ GW := gw_6 77 rfl rfl
theorem q6_78 : (Jvm.Cond.fieldLink "EvenTownModel" (83 : Nat) "EvenTownModel" "eAt" "[I") ∈ GW := gw_6 78 rfl rfl
theorem q6_79 : (Jvm.Cond.fieldLink "EvenTownModel" (86 : Nat) "EvenTownModel" "eStroke" "[I") ∈ GW := gw_6 79 rfl rfl
theorem q6_80 : (Jvm.Cond.fieldLink "EvenTownModel" (89 : Nat) "EvenTownModel" "eWorth" "[I") ∈ GW := gw_6 80 rfl rfl
theorem q6_81 : (Jvm.Cond.fieldLink "EvenTownModel" (92 : Nat) "EvenTownModel" "rTo" "[I") ∈ GW := gw_6 81 rfl rfl
theorem q6_82 : (Jvm.Cond.fieldLink "EvenTownModel" (95 : Nat) "EvenTownModel" "code" "[I") ∈ GW := gw_6 82 rfl rfl
theorem q6_83 : (Jvm.Cond.fieldLink "EvenTownModel" (98 : Nat) "EvenTownModel" "codeNumber" "[I") ∈ GW := gw_6 83 rfl rfl
theorem q6_84 : (Jvm.Cond.fieldLink "EvenTownModel" (101 : Nat) "EvenTownModel" "eWhat" "[I") ∈ GW := gw_6 84 rfl rfl
theorem q6_85 : (Jvm.Cond.fieldLink "EvenTownModel" (104 : Nat) "EvenTownModel" "eSign" "[I") ∈ GW := gw_6 85 rfl rfl
theorem q6_86 : (Jvm.Cond.fieldLink "EvenTownModel" (107 : Nat) "EvenTownModel" "pile" "[I") ∈ GW := gw_6 86 rfl rfl
theorem q6_87 : (Jvm.Cond.fieldLink "EvenTownModel" (311 : Nat) "EvenTownModel" "bank" "I") ∈ GW := gw_6 87 rfl rfl
theorem q6_88 : (Jvm.Cond.fieldLink "EvenTownModel" (301 : Nat) "EvenTownModel" "rb" "I") ∈ GW := gw_6 88 rfl rfl
theorem q6_89 : (Jvm.Cond.fieldLink "EvenTownModel" (304 : Nat) "EvenTownModel" "codes" "I") ∈ GW := gw_6 89 rfl rfl
theorem q6_90 : (Jvm.Cond.fieldLink "EvenTownModel" (379 : Nat) "EvenTownModel" "within" "I") ∈ GW := gw_6 90 rfl rfl
theorem q6_91 : (Jvm.Cond.fieldLink "EvenTownModel" (376 : Nat) "EvenTownModel" "piled" "I") ∈ GW := gw_6 91 rfl rfl
theorem q6_92 : (Jvm.Cond.fieldLink "EvenTownModel" (110 : Nat) "EvenTownModel" "minutes" "[I") ∈ GW := gw_6 92 rfl rfl
theorem q6_93 : (Jvm.Cond.fieldLink "EvenTownModel" (113 : Nat) "EvenTownModel" "isOpen" "[Z") ∈ GW := gw_6 93 rfl rfl
theorem q6_94 : (Jvm.Cond.fieldLink "EvenTownModel" (421 : Nat) "EvenTownModel" "askHour" "I") ∈ GW := gw_6 94 rfl rfl
theorem q6_95 : (Jvm.Cond.fieldLink "EvenTownModel" (424 : Nat) "EvenTownModel" "askStrokes" "I") ∈ GW := gw_6 95 rfl rfl
theorem q6_96 : (Jvm.Cond.fieldLink "EvenTownModel" (427 : Nat) "EvenTownModel" "askTimes" "I") ∈ GW := gw_6 96 rfl rfl
theorem q6_97 : (Jvm.Cond.fieldLink "EvenTownModel" (467 : Nat) "EvenTownModel" "askWhat" "I") ∈ GW := gw_6 97 rfl rfl
theorem q6_98 : (Jvm.Cond.fieldLink "EvenTownModel" (430 : Nat) "EvenTownModel" "freeStroke" "I") ∈ GW := gw_6 98 rfl rfl
theorem q6_99 : (Jvm.Cond.fieldLink "EvenTownModel" (433 : Nat) "EvenTownModel" "freePlace" "I") ∈ GW := gw_6 99 rfl rfl
theorem q6_100 : (Jvm.Cond.fieldLink "EvenTownModel" (436 : Nat) "EvenTownModel" "newA" "I") ∈ GW := gw_6 100 rfl rfl
theorem q6_101 : (Jvm.Cond.fieldLink "EvenTownModel" (442 : Nat) "EvenTownModel" "newB" "I") ∈ GW := gw_6 101 rfl rfl
theorem q6_102 : (Jvm.Cond.fieldLink "EvenTownModel" (439 : Nat) "EvenTownModel" "newMinutes" "I") ∈ GW := gw_6 102 rfl rfl
theorem q6_103 : (Jvm.Cond.fieldLink "EvenTownModel" (116 : Nat) "EvenTownModel" "where" "[I") ∈ GW := gw_6 103 rfl rfl
theorem q6_104 : (Jvm.Cond.fieldLink "EvenTownModel" (119 : Nat) "EvenTownModel" "there" "[I") ∈ GW := gw_6 104 rfl rfl
theorem q6_105 : (Jvm.Cond.fieldLink "EvenTownModel" (123 : Nat) "EvenTownModel" "comes" "[I") ∈ GW := gw_6 105 rfl rfl
theorem q6_106 : (Jvm.Cond.fieldLink "EvenTownModel" (126 : Nat) "EvenTownModel" "now" "[I") ∈ GW := gw_6 106 rfl rfl
theorem q6_107 : (Jvm.Cond.fieldLink "EvenTownModel" (129 : Nat) "EvenTownModel" "then" "[I") ∈ GW := gw_6 107 rfl rfl
theorem q6_108 : (Jvm.Cond.fieldLink "EvenTownModel" (132 : Nat) "EvenTownModel" "from" "[I") ∈ GW := gw_6 108 rfl rfl
theorem q6_109 : (Jvm.Cond.fieldLink "EvenTownModel" (135 : Nat) "EvenTownModel" "isAhead" "[Z") ∈ GW := gw_6 109 rfl rfl
theorem q6_110 : (Jvm.Cond.fieldLink "EvenTownModel" (138 : Nat) "EvenTownModel" "isBehind" "[Z") ∈ GW := gw_6 110 rfl rfl
theorem q6_111 : (Jvm.Cond.fieldLink "EvenTownModel" (141 : Nat) "EvenTownModel" "isNow" "[Z") ∈ GW := gw_6 111 rfl rfl
theorem q6_112 : (Jvm.Cond.fieldLink "EvenTownModel" (144 : Nat) "EvenTownModel" "isThen" "[Z") ∈ GW := gw_6 112 rfl rfl
theorem q6_113 : (Jvm.Cond.fieldLink "EvenTownModel" (147 : Nat) "EvenTownModel" "plan" "[I") ∈ GW := gw_6 113 rfl rfl
theorem q6_114 : (Jvm.Cond.fieldLink "EvenTownModel" (150 : Nat) "EvenTownModel" "isPlanned" "[Z") ∈ GW := gw_6 114 rfl rfl
theorem q6_115 : (Jvm.Cond.fieldLink "EvenTownModel" (533 : Nat) "EvenTownModel" "wrongKind" "I") ∈ GW := gw_6 115 rfl rfl
theorem q6_116 : (Jvm.Cond.fieldLink "EvenTownModel" (536 : Nat) "EvenTownModel" "wrongStroke" "I") ∈ GW := gw_6 116 rfl rfl
theorem q6_117 : (Jvm.Cond.fieldLink "EvenTownModel" (539 : Nat) "EvenTownModel" "wrongWhat" "I") ∈ GW := gw_6 117 rfl rfl
theorem q6_118 : (Jvm.Cond.fieldLink "EvenTownModel" (153 : Nat) "EvenTownModel" "stands" "[I") ∈ GW := gw_6 118 rfl rfl
theorem q6_119 : (Jvm.Cond.fieldLink "EvenTownModel" (156 : Nat) "EvenTownModel" "sent" "[I") ∈ GW := gw_6 119 rfl rfl
theorem q6_120 : (Jvm.Cond.fieldLink "EvenTownModel" (552 : Nat) "EvenTownModel" "stroke" "I") ∈ GW := gw_6 120 rfl rfl
theorem q6_121 : (Jvm.Cond.fieldLink "EvenTownModel" (555 : Nat) "EvenTownModel" "odd" "I") ∈ GW := gw_6 121 rfl rfl
theorem q6_122 : (Jvm.Cond.fieldLink "EvenTownModel" (159 : Nat) "EvenTownModel" "paired" "[I") ∈ GW := gw_6 122 rfl rfl
theorem q6_123 : (Jvm.Cond.fieldLink "EvenTownModel" (162 : Nat) "EvenTownModel" "cStroke" "[I") ∈ GW := gw_6 123 rfl rfl
theorem q6_124 : (Jvm.Cond.fieldLink "EvenTownModel" (165 : Nat) "EvenTownModel" "cPlace" "[I") ∈ GW := gw_6 124 rfl rfl
theorem q6_125 : (Jvm.Cond.fieldLink "EvenTownModel" (168 : Nat) "EvenTownModel" "cMany" "[I") ∈ GW := gw_6 125 rfl rfl
theorem q6_126 : (Jvm.Cond.fieldLink "EvenTownModel" (171 : Nat) "EvenTownModel" "cTold" "[I") ∈ GW := gw_6 126 rfl rfl
theorem q6_127 : (Jvm.Cond.fieldLink "EvenTownModel" (174 : Nat) "EvenTownModel" "cUntold" "[I") ∈ GW := gw_6 127 rfl rfl
theorem q6_128 : (Jvm.Cond.fieldLink "EvenTownModel" (317 : Nat) "EvenTownModel" "counts" "I") ∈ GW := gw_6 128 rfl rfl
theorem q6_129 : (Jvm.Cond.fieldLink "EvenTownModel" (561 : Nat) "EvenTownModel" "time" "I") ∈ GW := gw_6 129 rfl rfl
theorem q6_130 : (Jvm.Cond.fieldLink "EvenTownModel" (177 : Nat) "EvenTownModel" "boxStroke" "[I") ∈ GW := gw_6 130 rfl rfl
theorem q6_131 : (Jvm.Cond.fieldLink "EvenTownModel" (180 : Nat) "EvenTownModel" "boxOdd" "[I") ∈ GW := gw_6 131 rfl rfl
theorem q6_132 : (Jvm.Cond.fieldLink "EvenTownModel" (183 : Nat) "EvenTownModel" "boxStands" "[I") ∈ GW := gw_6 132 rfl rfl
theorem q6_133 : (Jvm.Cond.fieldLink "EvenTownModel" (186 : Nat) "EvenTownModel" "boxSent" "[I") ∈ GW := gw_6 133 rfl rfl
theorem q6_134 : (Jvm.Cond.laysFinal "EvenTownModel" "EvenTownModel" "tape" "[B") ∈ GW := gw_6 134 rfl rfl
theorem q6_136 : (Jvm.Cond.laysFinal "EvenTownModel" "EvenTownModel" "text" "[B") ∈ GW := gw_6 136 rfl rfl
theorem q6_138 : (Jvm.Cond.lays "EvenTownModel" "EvenTownModel" "taped" "I") ∈ GW := gw_6 138 rfl rfl
theorem q6_140 : (Jvm.Cond.lays "EvenTownModel" "EvenTownModel" "size" "I") ∈ GW := gw_6 140 rfl rfl
theorem q6_142 : (Jvm.Cond.lays "EvenTownModel" "EvenTownModel" "faultKind" "I") ∈ GW := gw_6 142 rfl rfl
theorem q6_144 : (Jvm.Cond.lays "EvenTownModel" "EvenTownModel" "faultPlace" "I") ∈ GW := gw_6 144 rfl rfl
theorem q6_146 : (Jvm.Cond.lays "EvenTownModel" "EvenTownModel" "at" "I") ∈ GW := gw_6 146 rfl rfl
theorem q6_148 : (Jvm.Cond.lays "EvenTownModel" "EvenTownModel" "end" "I") ∈ GW := gw_6 148 rfl rfl
theorem q6_150 : (Jvm.Cond.lays "EvenTownModel" "EvenTownModel" "token" "I") ∈ GW := gw_6 150 rfl rfl
theorem q6_152 : (Jvm.Cond.lays "EvenTownModel" "EvenTownModel" "number" "I") ∈ GW := gw_6 152 rfl rfl
theorem q6_154 : (Jvm.Cond.lays "EvenTownModel" "EvenTownModel" "name" "J") ∈ GW := gw_6 154 rfl rfl
theorem q6_156 : (Jvm.Cond.laysFinal "EvenTownModel" "EvenTownModel" "places" "[I") ∈ GW := gw_6 156 rfl rfl
theorem q6_158 : (Jvm.Cond.laysFinal "EvenTownModel" "EvenTownModel" "ways" "[I") ∈ GW := gw_6 158 rfl rfl
theorem q6_160 : (Jvm.Cond.laysFinal "EvenTownModel" "EvenTownModel" "persons" "[I") ∈ GW := gw_6 160 rfl rfl
theorem q6_162 : (Jvm.Cond.laysFinal "EvenTownModel" "EvenTownModel" "dogs" "[I") ∈ GW := gw_6 162 rfl rfl
theorem q6_164 : (Jvm.Cond.laysFinal "EvenTownModel" "EvenTownModel" "errands" "[I") ∈ GW := gw_6 164 rfl rfl
theorem q6_166 : (Jvm.Cond.laysFinal "EvenTownModel" "EvenTownModel" "hour" "[I") ∈ GW := gw_6 166 rfl rfl
theorem q6_168 : (Jvm.Cond.laysFinal "EvenTownModel" "EvenTownModel" "strokes" "[I") ∈ GW := gw_6 168 rfl rfl
theorem q6_170 : (Jvm.Cond.laysFinal "EvenTownModel" "EvenTownModel" "unitsOf" "[I") ∈ GW := gw_6 170 rfl rfl
theorem q6_172 : (Jvm.Cond.laysFinal "EvenTownModel" "EvenTownModel" "isHour" "[Z") ∈ GW := gw_6 172 rfl rfl
theorem q6_174 : (Jvm.Cond.laysFinal "EvenTownModel" "EvenTownModel" "isStrokes" "[Z") ∈ GW := gw_6 174 rfl rfl
theorem q6_176 : (Jvm.Cond.laysFinal "EvenTownModel" "EvenTownModel" "isRule" "[Z") ∈ GW := gw_6 176 rfl rfl
theorem q6_178 : (Jvm.Cond.laysFinal "EvenTownModel" "EvenTownModel" "isEmpty" "[Z") ∈ GW := gw_6 178 rfl rfl
theorem q6_180 : (Jvm.Cond.laysFinal "EvenTownModel" "EvenTownModel" "pName" "[J") ∈ GW := gw_6 180 rfl rfl
theorem q6_182 : (Jvm.Cond.laysFinal "EvenTownModel" "EvenTownModel" "nName" "[J") ∈ GW := gw_6 182 rfl rfl
theorem q6_184 : (Jvm.Cond.laysFinal "EvenTownModel" "EvenTownModel" "dName" "[J") ∈ GW := gw_6 184 rfl rfl
theorem q6_186 : (Jvm.Cond.laysFinal "EvenTownModel" "EvenTownModel" "wayOf" "[I") ∈ GW := gw_6 186 rfl rfl
theorem q6_188 : (Jvm.Cond.laysFinal "EvenTownModel" "EvenTownModel" "home" "[I") ∈ GW := gw_6 188 rfl rfl
theorem q6_190 : (Jvm.Cond.laysFinal "EvenTownModel" "EvenTownModel" "hire" "[I") ∈ GW := gw_6 190 rfl rfl
theorem q6_192 : (Jvm.Cond.laysFinal "EvenTownModel" "EvenTownModel" "dogsAt" "[I") ∈ GW := gw_6 192 rfl rfl
theorem q6_194 : (Jvm.Cond.laysFinal "EvenTownModel" "EvenTownModel" "eWho" "[I") ∈ GW := gw_6 194 rfl rfl
theorem q6_196 : (Jvm.Cond.laysFinal "EvenTownModel" "EvenTownModel" "eAt" "[I") ∈ GW := gw_6 196 rfl rfl
theorem q6_198 : (Jvm.Cond.laysFinal "EvenTownModel" "EvenTownModel" "eStroke" "[I") ∈ GW := gw_6 198 rfl rfl
theorem q6_200 : (Jvm.Cond.laysFinal "EvenTownModel" "EvenTownModel" "eWorth" "[I") ∈ GW := gw_6 200 rfl rfl
theorem q6_202 : (Jvm.Cond.laysFinal "EvenTownModel" "EvenTownModel" "rTo" "[I") ∈ GW := gw_6 202 rfl rfl
theorem q6_204 : (Jvm.Cond.laysFinal "EvenTownModel" "EvenTownModel" "code" "[I") ∈ GW := gw_6 204 rfl rfl
theorem q6_206 : (Jvm.Cond.laysFinal "EvenTownModel" "EvenTownModel" "codeNumber" "[I") ∈ GW := gw_6 206 rfl rfl
theorem q6_208 : (Jvm.Cond.laysFinal "EvenTownModel" "EvenTownModel" "eWhat" "[I") ∈ GW := gw_6 208 rfl rfl
theorem q6_210 : (Jvm.Cond.laysFinal "EvenTownModel" "EvenTownModel" "eSign" "[I") ∈ GW := gw_6 210 rfl rfl
theorem q6_212 : (Jvm.Cond.laysFinal "EvenTownModel" "EvenTownModel" "pile" "[I") ∈ GW := gw_6 212 rfl rfl
theorem q6_214 : (Jvm.Cond.lays "EvenTownModel" "EvenTownModel" "bank" "I") ∈ GW := gw_6 214 rfl rfl
theorem q6_216 : (Jvm.Cond.lays "EvenTownModel" "EvenTownModel" "rb" "I") ∈ GW := gw_6 216 rfl rfl
theorem q6_218 : (Jvm.Cond.lays "EvenTownModel" "EvenTownModel" "codes" "I") ∈ GW := gw_6 218 rfl rfl
theorem q6_220 : (Jvm.Cond.lays "EvenTownModel" "EvenTownModel" "within" "I") ∈ GW := gw_6 220 rfl rfl
theorem q6_222 : (Jvm.Cond.lays "EvenTownModel" "EvenTownModel" "piled" "I") ∈ GW := gw_6 222 rfl rfl
theorem q6_224 : (Jvm.Cond.laysFinal "EvenTownModel" "EvenTownModel" "minutes" "[I") ∈ GW := gw_6 224 rfl rfl
theorem q6_226 : (Jvm.Cond.laysFinal "EvenTownModel" "EvenTownModel" "isOpen" "[Z") ∈ GW := gw_6 226 rfl rfl
theorem q6_228 : (Jvm.Cond.lays "EvenTownModel" "EvenTownModel" "askHour" "I") ∈ GW := gw_6 228 rfl rfl
theorem q6_230 : (Jvm.Cond.lays "EvenTownModel" "EvenTownModel" "askStrokes" "I") ∈ GW := gw_6 230 rfl rfl
theorem q6_232 : (Jvm.Cond.lays "EvenTownModel" "EvenTownModel" "askTimes" "I") ∈ GW := gw_6 232 rfl rfl
theorem q6_234 : (Jvm.Cond.lays "EvenTownModel" "EvenTownModel" "askWhat" "I") ∈ GW := gw_6 234 rfl rfl
theorem q6_236 : (Jvm.Cond.lays "EvenTownModel" "EvenTownModel" "freeStroke" "I") ∈ GW := gw_6 236 rfl rfl
theorem q6_238 : (Jvm.Cond.lays "EvenTownModel" "EvenTownModel" "freePlace" "I") ∈ GW := gw_6 238 rfl rfl
theorem q7_0 : (Jvm.Cond.lays "EvenTownModel" "EvenTownModel" "newA" "I") ∈ GW := gw_7 0 rfl rfl
theorem q7_2 : (Jvm.Cond.lays "EvenTownModel" "EvenTownModel" "newB" "I") ∈ GW := gw_7 2 rfl rfl
theorem q7_4 : (Jvm.Cond.lays "EvenTownModel" "EvenTownModel" "newMinutes" "I") ∈ GW := gw_7 4 rfl rfl
theorem q7_6 : (Jvm.Cond.laysFinal "EvenTownModel" "EvenTownModel" "where" "[I") ∈ GW := gw_7 6 rfl rfl
theorem q7_8 : (Jvm.Cond.laysFinal "EvenTownModel" "EvenTownModel" "there" "[I") ∈ GW := gw_7 8 rfl rfl
theorem q7_10 : (Jvm.Cond.laysFinal "EvenTownModel" "EvenTownModel" "comes" "[I") ∈ GW := gw_7 10 rfl rfl
theorem q7_12 : (Jvm.Cond.laysFinal "EvenTownModel" "EvenTownModel" "now" "[I") ∈ GW := gw_7 12 rfl rfl
theorem q7_14 : (Jvm.Cond.laysFinal "EvenTownModel" "EvenTownModel" "then" "[I") ∈ GW := gw_7 14 rfl rfl
theorem q7_16 : (Jvm.Cond.laysFinal "EvenTownModel" "EvenTownModel" "from" "[I") ∈ GW := gw_7 16 rfl rfl
theorem q7_18 : (Jvm.Cond.laysFinal "EvenTownModel" "EvenTownModel" "isAhead" "[Z") ∈ GW := gw_7 18 rfl rfl
theorem q7_20 : (Jvm.Cond.laysFinal "EvenTownModel" "EvenTownModel" "isBehind" "[Z") ∈ GW := gw_7 20 rfl rfl
theorem q7_22 : (Jvm.Cond.laysFinal "EvenTownModel" "EvenTownModel" "isNow" "[Z") ∈ GW := gw_7 22 rfl rfl
theorem q7_24 : (Jvm.Cond.laysFinal "EvenTownModel" "EvenTownModel" "isThen" "[Z") ∈ GW := gw_7 24 rfl rfl
theorem q7_26 : (Jvm.Cond.laysFinal "EvenTownModel" "EvenTownModel" "plan" "[I") ∈ GW := gw_7 26 rfl rfl
theorem q7_28 : (Jvm.Cond.laysFinal "EvenTownModel" "EvenTownModel" "isPlanned" "[Z") ∈ GW := gw_7 28 rfl rfl
theorem q7_30 : (Jvm.Cond.lays "EvenTownModel" "EvenTownModel" "wrongKind" "I") ∈ GW := gw_7 30 rfl rfl
theorem q7_32 : (Jvm.Cond.lays "EvenTownModel" "EvenTownModel" "wrongStroke" "I") ∈ GW := gw_7 32 rfl rfl
theorem q7_34 : (Jvm.Cond.lays "EvenTownModel" "EvenTownModel" "wrongWhat" "I") ∈ GW := gw_7 34 rfl rfl
theorem q7_36 : (Jvm.Cond.laysFinal "EvenTownModel" "EvenTownModel" "stands" "[I") ∈ GW := gw_7 36 rfl rfl
theorem q7_38 : (Jvm.Cond.laysFinal "EvenTownModel" "EvenTownModel" "sent" "[I") ∈ GW := gw_7 38 rfl rfl
theorem q7_40 : (Jvm.Cond.lays "EvenTownModel" "EvenTownModel" "stroke" "I") ∈ GW := gw_7 40 rfl rfl
theorem q7_42 : (Jvm.Cond.lays "EvenTownModel" "EvenTownModel" "odd" "I") ∈ GW := gw_7 42 rfl rfl
theorem q7_44 : (Jvm.Cond.laysFinal "EvenTownModel" "EvenTownModel" "paired" "[I") ∈ GW := gw_7 44 rfl rfl
theorem q7_46 : (Jvm.Cond.laysFinal "EvenTownModel" "EvenTownModel" "cStroke" "[I") ∈ GW := gw_7 46 rfl rfl
theorem q7_48 : (Jvm.Cond.laysFinal "EvenTownModel" "EvenTownModel" "cPlace" "[I") ∈ GW := gw_7 48 rfl rfl
theorem q7_50 : (Jvm.Cond.laysFinal "EvenTownModel" "EvenTownModel" "cMany" "[I") ∈ GW := gw_7 50 rfl rfl
theorem q7_52 : (Jvm.Cond.laysFinal "EvenTownModel" "EvenTownModel" "cTold" "[I") ∈ GW := gw_7 52 rfl rfl
theorem q7_54 : (Jvm.Cond.laysFinal "EvenTownModel" "EvenTownModel" "cUntold" "[I") ∈ GW := gw_7 54 rfl rfl
theorem q7_56 : (Jvm.Cond.lays "EvenTownModel" "EvenTownModel" "counts" "I") ∈ GW := gw_7 56 rfl rfl
theorem q7_58 : (Jvm.Cond.lays "EvenTownModel" "EvenTownModel" "time" "I") ∈ GW := gw_7 58 rfl rfl
theorem q7_60 : (Jvm.Cond.laysFinal "EvenTownModel" "EvenTownModel" "boxStroke" "[I") ∈ GW := gw_7 60 rfl rfl
theorem q7_62 : (Jvm.Cond.laysFinal "EvenTownModel" "EvenTownModel" "boxOdd" "[I") ∈ GW := gw_7 62 rfl rfl
theorem q7_64 : (Jvm.Cond.laysFinal "EvenTownModel" "EvenTownModel" "boxStands" "[I") ∈ GW := gw_7 64 rfl rfl
theorem q7_66 : (Jvm.Cond.laysFinal "EvenTownModel" "EvenTownModel" "boxSent" "[I") ∈ GW := gw_7 66 rfl rfl
theorem q7_69 : (Jvm.Cond.methodLink "EvenTownLaw" (27 : Nat) ({ cls := "EvenTownModel", name := "town", desc := "()I" } : Jvm.MethodName)) ∈ GW := gw_7 69 rfl rfl
theorem q7_70 : (Jvm.Cond.instanceMethod ({ cls := "EvenTownModel", name := "town", desc := "()I" } : Jvm.MethodName)) ∈ GW := gw_7 70 rfl rfl
theorem q7_71 : (Jvm.Cond.selects "EvenTownModel" ({ cls := "EvenTownModel", name := "town", desc := "()I" } : Jvm.MethodName) ({ cls := "EvenTownModel", name := "town", desc := "()I" } : Jvm.MethodName)) ∈ GW := gw_7 71 rfl rfl
theorem q7_72 : (Jvm.Cond.code ({ cls := "EvenTownModel", name := "town", desc := "()I" } : Jvm.MethodName) prog_14_method_18_code (2 : Nat) (Option.some Jvm.ClassFile.FieldType.int)) ∈ GW := gw_7 72 rfl rfl
theorem q7_73 : (Jvm.Cond.methodLink "EvenTownModel" (308 : Nat) ({ cls := "EvenTownModel", name := "takeTape", desc := "()V" } : Jvm.MethodName)) ∈ GW := gw_7 73 rfl rfl
theorem q7_75 : (Jvm.Cond.instanceMethod ({ cls := "EvenTownModel", name := "takeTape", desc := "()V" } : Jvm.MethodName)) ∈ GW := gw_7 75 rfl rfl
theorem q7_76 : (Jvm.Cond.code ({ cls := "EvenTownModel", name := "takeTape", desc := "()V" } : Jvm.MethodName) prog_14_method_16_code (2 : Nat) (Option.none : Option Jvm.ClassFile.FieldType)) ∈ GW := gw_7 76 rfl rfl
theorem q7_77 : (Jvm.Cond.methodLink "EvenTownModel" (281 : Nat) ({ cls := "EvenTownModel", name := "goOn", desc := "()V" } : Jvm.MethodName)) ∈ GW := gw_7 77 rfl rfl
theorem q7_79 : (Jvm.Cond.instanceMethod ({ cls := "EvenTownModel", name := "goOn", desc := "()V" } : Jvm.MethodName)) ∈ GW := gw_7 79 rfl rfl
theorem q7_80 : (Jvm.Cond.code ({ cls := "EvenTownModel", name := "goOn", desc := "()V" } : Jvm.MethodName) prog_14_method_9_code (3 : Nat) (Option.none : Option Jvm.ClassFile.FieldType)) ∈ GW := gw_7 80 rfl rfl
theorem q7_81 : (Jvm.Cond.methodLink "EvenTownModel" (245 : Nat) ({ cls := "EvenTownModel", name := "sign", desc := "(I)I" } : Jvm.MethodName)) ∈ GW := gw_7 81 rfl rfl
theorem q7_83 : (Jvm.Cond.instanceMethod ({ cls := "EvenTownModel", name := "sign", desc := "(I)I" } : Jvm.MethodName)) ∈ GW := gw_7 83 rfl rfl
theorem q7_84 : (Jvm.Cond.code ({ cls := "EvenTownModel", name := "sign", desc := "(I)I" } : Jvm.MethodName) prog_14_method_2_code (2 : Nat) (Option.some Jvm.ClassFile.FieldType.int)) ∈ GW := gw_7 84 rfl rfl
theorem q7_85 : (Jvm.Cond.methodLink "EvenTownModel" (252 : Nat) ({ cls := "EvenTownModel", name := "isLetter", desc := "(I)Z" } : Jvm.MethodName)) ∈ GW := gw_7 85 rfl rfl
theorem q7_86 : (Jvm.Cond.static ({ cls := "EvenTownModel", name := "isLetter", desc := "(I)Z" } : Jvm.MethodName)) ∈ GW := gw_7 86 rfl rfl
theorem q7_87 : (Jvm.Cond.code ({ cls := "EvenTownModel", name := "isLetter", desc := "(I)Z" } : Jvm.MethodName) prog_14_method_3_code (1 : Nat) (Option.some Jvm.ClassFile.FieldType.boolean)) ∈ GW := gw_7 87 rfl rfl
theorem q7_88 : (Jvm.Cond.methodLink "EvenTownModel" (260 : Nat) ({ cls := "EvenTownModel", name := "isKept", desc := "(J)Z" } : Jvm.MethodName)) ∈ GW := gw_7 88 rfl rfl
theorem q7_89 : (Jvm.Cond.static ({ cls := "EvenTownModel", name := "isKept", desc := "(J)Z" } : Jvm.MethodName)) ∈ GW := gw_7 89 rfl rfl
theorem q7_90 : (Jvm.Cond.code ({ cls := "EvenTownModel", name := "isKept", desc := "(J)Z" } : Jvm.MethodName) prog_14_method_7_code (3 : Nat) (Option.some Jvm.ClassFile.FieldType.boolean)) ∈ GW := gw_7 90 rfl rfl
theorem q7_91 : (Jvm.Cond.constantLong "EvenTownModel" (201 : Nat) (482854658917 : Int64)) ∈ GW := gw_7 91 rfl rfl
theorem q7_92 : (Jvm.Cond.constantLong "EvenTownModel" (203 : Nat) (435627783289 : Int64)) ∈ GW := gw_7 92 rfl rfl
theorem q7_93 : (Jvm.Cond.constantLong "EvenTownModel" (205 : Nat) (7823737 : Int64)) ∈ GW := gw_7 93 rfl rfl
theorem q7_94 : (Jvm.Cond.constantLong "EvenTownModel" (207 : Nat) (30796695599342963 : Int64)) ∈ GW := gw_7 94 rfl rfl
theorem q7_95 : (Jvm.Cond.constantLong "EvenTownModel" (209 : Nat) (123581014175598 : Int64)) ∈ GW := gw_7 95 rfl rfl
theorem q7_96 : (Jvm.Cond.constantLong "EvenTownModel" (211 : Nat) (24948 : Int64)) ∈ GW := gw_7 96 rfl rfl
theorem q7_97 : (Jvm.Cond.constantLong "EvenTownModel" (213 : Nat) (1751741029 : Int64)) ∈ GW := gw_7 97 rfl rfl
theorem q7_98 : (Jvm.Cond.constantLong "EvenTownModel" (215 : Nat) (6582119 : Int64)) ∈ GW := gw_7 98 rfl rfl
theorem q7_99 : (Jvm.Cond.constantLong "EvenTownModel" (217 : Nat) (111542219664996 : Int64)) ∈ GW := gw_7 99 rfl rfl
theorem q7_100 : (Jvm.Cond.constantLong "EvenTownModel" (219 : Nat) (126943973305189 : Int64)) ∈ GW := gw_7 100 rfl rfl
theorem q7_101 : (Jvm.Cond.constantLong "EvenTownModel" (221 : Nat) (512970880104 : Int64)) ∈ GW := gw_7 101 rfl rfl
theorem q7_102 : (Jvm.Cond.constantLong "EvenTownModel" (223 : Nat) (1752135026 : Int64)) ∈ GW := gw_7 102 rfl rfl
theorem q7_103 : (Jvm.Cond.constantLong "EvenTownModel" (225 : Nat) (32497657166128499 : Int64)) ∈ GW := gw_7 103 rfl rfl
theorem q7_104 : (Jvm.Cond.constantLong "EvenTownModel" (227 : Nat) (1920298085 : Int64)) ∈ GW := gw_7 104 rfl rfl
theorem q7_105 : (Jvm.Cond.constantLong "EvenTownModel" (229 : Nat) (6385252 : Int64)) ∈ GW := gw_7 105 rfl rfl
theorem q7_106 : (Jvm.Cond.constantLong "EvenTownModel" (231 : Nat) (28530 : Int64)) ∈ GW := gw_7 106 rfl rfl
theorem q7_107 : (Jvm.Cond.constantLong "EvenTownModel" (233 : Nat) (7237492 : Int64)) ∈ GW := gw_7 107 rfl rfl
theorem q7_108 : (Jvm.Cond.constantLong "EvenTownModel" (235 : Nat) (1751478885 : Int64)) ∈ GW := gw_7 108 rfl rfl
theorem q7_109 : (Jvm.Cond.constantLong "EvenTownModel" (237 : Nat) (1685022579 : Int64)) ∈ GW := gw_7 109 rfl rfl
theorem q7_110 : (Jvm.Cond.methodLink "EvenTownModel" (264 : Nat) ({ cls := "EvenTownModel", name := "isDigit", desc := "(I)Z" } : Jvm.MethodName)) ∈ GW := gw_7 110 rfl rfl
theorem q7_111 : (Jvm.Cond.static ({ cls := "EvenTownModel", name := "isDigit", desc := "(I)Z" } : Jvm.MethodName)) ∈ GW := gw_7 111 rfl rfl
theorem q7_112 : (Jvm.Cond.code ({ cls := "EvenTownModel", name := "isDigit", desc := "(I)Z" } : Jvm.MethodName) prog_14_method_4_code (1 : Nat) (Option.some Jvm.ClassFile.FieldType.boolean)) ∈ GW := gw_7 112 rfl rfl
theorem q7_113 : (Jvm.Cond.methodLink "EvenTownModel" (270 : Nat) ({ cls := "EvenTownModel", name := "isSign", desc := "(I)Z" } : Jvm.MethodName)) ∈ GW := gw_7 113 rfl rfl
theorem q7_114 : (Jvm.Cond.static ({ cls := "EvenTownModel", name := "isSign", desc := "(I)Z" } : Jvm.MethodName)) ∈ GW := gw_7 114 rfl rfl
theorem q7_115 : (Jvm.Cond.code ({ cls := "EvenTownModel", name := "isSign", desc := "(I)Z" } : Jvm.MethodName) prog_14_method_8_code (1 : Nat) (Option.some Jvm.ClassFile.FieldType.boolean)) ∈ GW := gw_7 115 rfl rfl
theorem q7_116 : (Jvm.Cond.methodLink "EvenTownModel" (277 : Nat) ({ cls := "EvenTownModel", name := "isGood", desc := "()Z" } : Jvm.MethodName)) ∈ GW := gw_7 116 rfl rfl
theorem q7_118 : (Jvm.Cond.instanceMethod ({ cls := "EvenTownModel", name := "isGood", desc := "()Z" } : Jvm.MethodName)) ∈ GW := gw_7 118 rfl rfl
theorem q7_119 : (Jvm.Cond.code ({ cls := "EvenTownModel", name := "isGood", desc := "()Z" } : Jvm.MethodName) prog_14_method_6_code (1 : Nat) (Option.some Jvm.ClassFile.FieldType.boolean)) ∈ GW := gw_7 119 rfl rfl
theorem q7_120 : (Jvm.Cond.methodLink "EvenTownModel" (314 : Nat) ({ cls := "EvenTownModel", name := "readLine", desc := "()V" } : Jvm.MethodName)) ∈ GW := gw_7 120 rfl rfl
theorem q7_122 : (Jvm.Cond.instanceMethod ({ cls := "EvenTownModel", name := "readLine", desc := "()V" } : Jvm.MethodName)) ∈ GW := gw_7 122 rfl rfl
theorem q7_123 : (Jvm.Cond.code ({ cls := "EvenTownModel", name := "readLine", desc := "()V" } : Jvm.MethodName) prog_14_method_20_code (3 : Nat) (Option.none : Option Jvm.ClassFile.FieldType)) ∈ GW := gw_7 123 rfl rfl
theorem q7_124 : (Jvm.Cond.methodLink "EvenTownModel" (320 : Nat) ({ cls := "EvenTownModel", name := "isFull", desc := "()Z" } : Jvm.MethodName)) ∈ GW := gw_7 124 rfl rfl
theorem q7_126 : (Jvm.Cond.instanceMethod ({ cls := "EvenTownModel", name := "isFull", desc := "()Z" } : Jvm.MethodName)) ∈ GW := gw_7 126 rfl rfl
theorem q7_127 : (Jvm.Cond.code ({ cls := "EvenTownModel", name := "isFull", desc := "()Z" } : Jvm.MethodName) prog_14_method_19_code (1 : Nat) (Option.some Jvm.ClassFile.FieldType.boolean)) ∈ GW := gw_7 127 rfl rfl
theorem q7_128 : (Jvm.Cond.methodLink "EvenTownModel" (287 : Nat) ({ cls := "EvenTownModel", name := "isWord", desc := "(J)Z" } : Jvm.MethodName)) ∈ GW := gw_7 128 rfl rfl
theorem q7_130 : (Jvm.Cond.instanceMethod ({ cls := "EvenTownModel", name := "isWord", desc := "(J)Z" } : Jvm.MethodName)) ∈ GW := gw_7 130 rfl rfl
theorem q7_131 : (Jvm.Cond.code ({ cls := "EvenTownModel", name := "isWord", desc := "(J)Z" } : Jvm.MethodName) prog_14_method_11_code (3 : Nat) (Option.some Jvm.ClassFile.FieldType.boolean)) ∈ GW := gw_7 131 rfl rfl
theorem q7_132 : (Jvm.Cond.methodLink "EvenTownModel" (284 : Nat) ({ cls := "EvenTownModel", name := "misplaced", desc := "()V" } : Jvm.MethodName)) ∈ GW := gw_7 132 rfl rfl
theorem q7_134 : (Jvm.Cond.instanceMethod ({ cls := "EvenTownModel", name := "misplaced", desc := "()V" } : Jvm.MethodName)) ∈ GW := gw_7 134 rfl rfl
theorem q7_135 : (Jvm.Cond.code ({ cls := "EvenTownModel", name := "misplaced", desc := "()V" } : Jvm.MethodName) prog_14_method_12_code (1 : Nat) (Option.none : Option Jvm.ClassFile.FieldType)) ∈ GW := gw_7 135 rfl rfl
theorem q7_136 : (Jvm.Cond.methodLink "EvenTownModel" (273 : Nat) ({ cls := "EvenTownModel", name := "fails", desc := "(II)V" } : Jvm.MethodName)) ∈ GW := gw_7 136 rfl rfl
theorem q7_138 : (Jvm.Cond.instanceMethod ({ cls := "EvenTownModel", name := "fails", desc := "(II)V" } : Jvm.MethodName)) ∈ GW := gw_7 138 rfl rfl
theorem q7_139 : (Jvm.Cond.code ({ cls := "EvenTownModel", name := "fails", desc := "(II)V" } : Jvm.MethodName) prog_14_method_5_code (3 : Nat) (Option.none : Option Jvm.ClassFile.FieldType)) ∈ GW := gw_7 139 rfl rfl
theorem q7_140 : (Jvm.Cond.methodLink "EvenTownModel" (323 : Nat) ({ cls := "EvenTownModel", name := "readPlace", desc := "()V" } : Jvm.MethodName)) ∈ GW := gw_7 140 rfl rfl
theorem q7_142 : (Jvm.Cond.instanceMethod ({ cls := "EvenTownModel", name := "readPlace", desc := "()V" } : Jvm.MethodName)) ∈ GW := gw_7 142 rfl rfl
theorem q7_143 : (Jvm.Cond.code ({ cls := "EvenTownModel", name := "readPlace", desc := "()V" } : Jvm.MethodName) prog_14_method_26_code (2 : Nat) (Option.none : Option Jvm.ClassFile.FieldType)) ∈ GW := gw_7 143 rfl rfl
theorem q7_144 : (Jvm.Cond.methodLink "EvenTownModel" (348 : Nat) ({ cls := "EvenTownModel", name := "placeHere", desc := "()I" } : Jvm.MethodName)) ∈ GW := gw_7 144 rfl rfl
theorem q7_146 : (Jvm.Cond.instanceMethod ({ cls := "EvenTownModel", name := "placeHere", desc := "()I" } : Jvm.MethodName)) ∈ GW := gw_7 146 rfl rfl
theorem q7_147 : (Jvm.Cond.code ({ cls := "EvenTownModel", name := "placeHere", desc := "()I" } : Jvm.MethodName) prog_14_method_22_code (1 : Nat) (Option.some Jvm.ClassFile.FieldType.int)) ∈ GW := gw_7 147 rfl rfl
theorem q7_148 : (Jvm.Cond.methodLink "EvenTownModel" (344 : Nat) ({ cls := "EvenTownModel", name := "here", desc := "([JII)I" } : Jvm.MethodName)) ∈ GW := gw_7 148 rfl rfl
theorem q7_150 : (Jvm.Cond.instanceMethod ({ cls := "EvenTownModel", name := "here", desc := "([JII)I" } : Jvm.MethodName)) ∈ GW := gw_7 150 rfl rfl
theorem q7_151 : (Jvm.Cond.code ({ cls := "EvenTownModel", name := "here", desc := "([JII)I" } : Jvm.MethodName) prog_14_method_21_code (5 : Nat) (Option.some Jvm.ClassFile.FieldType.int)) ∈ GW := gw_7 151 rfl rfl
theorem q7_152 : (Jvm.Cond.methodLink "EvenTownModel" (352 : Nat) ({ cls := "EvenTownModel", name := "fresh", desc := "(Z)J" } : Jvm.MethodName)) ∈ GW := gw_7 152 rfl rfl
theorem q7_154 : (Jvm.Cond.instanceMethod ({ cls := "EvenTownModel", name := "fresh", desc := "(Z)J" } : Jvm.MethodName)) ∈ GW := gw_7 154 rfl rfl
theorem q7_155 : (Jvm.Cond.code ({ cls := "EvenTownModel", name := "fresh", desc := "(Z)J" } : Jvm.MethodName) prog_14_method_25_code (4 : Nat) (Option.some Jvm.ClassFile.FieldType.long)) ∈ GW := gw_7 155 rfl rfl
theorem q7_156 : (Jvm.Cond.methodLink "EvenTownModel" (326 : Nat) ({ cls := "EvenTownModel", name := "readWay", desc := "()V" } : Jvm.MethodName)) ∈ GW := gw_7 156 rfl rfl
theorem q7_158 : (Jvm.Cond.instanceMethod ({ cls := "EvenTownModel", name := "readWay", desc := "()V" } : Jvm.MethodName)) ∈ GW := gw_7 158 rfl rfl
theorem q7_159 : (Jvm.Cond.code ({ cls := "EvenTownModel", name := "readWay", desc := "()V" } : Jvm.MethodName) prog_14_method_27_code (4 : Nat) (Option.none : Option Jvm.ClassFile.FieldType)) ∈ GW := gw_7 159 rfl rfl
theorem q7_160 : (Jvm.Cond.methodLink "EvenTownModel" (356 : Nat) ({ cls := "EvenTownModel", name := "told", desc := "(I)I" } : Jvm.MethodName)) ∈ GW := gw_7 160 rfl rfl
theorem q7_162 : (Jvm.Cond.instanceMethod ({ cls := "EvenTownModel", name := "told", desc := "(I)I" } : Jvm.MethodName)) ∈ GW := gw_7 162 rfl rfl
theorem q7_163 : (Jvm.Cond.code ({ cls := "EvenTownModel", name := "told", desc := "(I)I" } : Jvm.MethodName) prog_14_method_24_code (2 : Nat) (Option.some Jvm.ClassFile.FieldType.int)) ∈ GW := gw_7 163 rfl rfl
theorem q7_164 : (Jvm.Cond.methodLink "EvenTownModel" (359 : Nat) ({ cls := "EvenTownModel", name := "after", desc := "(JII)I" } : Jvm.MethodName)) ∈ GW := gw_7 164 rfl rfl
theorem q7_166 : (Jvm.Cond.instanceMethod ({ cls := "EvenTownModel", name := "after", desc := "(JII)I" } : Jvm.MethodName)) ∈ GW := gw_7 166 rfl rfl
theorem q7_167 : (Jvm.Cond.code ({ cls := "EvenTownModel", name := "after", desc := "(JII)I" } : Jvm.MethodName) prog_14_method_15_code (5 : Nat) (Option.some Jvm.ClassFile.FieldType.int)) ∈ GW := gw_7 167 rfl rfl
theorem q7_168 : (Jvm.Cond.methodLink "EvenTownModel" (290 : Nat) ({ cls := "EvenTownModel", name := "must", desc := "(Z)V" } : Jvm.MethodName)) ∈ GW := gw_7 168 rfl rfl
theorem q7_170 : (Jvm.Cond.instanceMethod ({ cls := "EvenTownModel", name := "must", desc := "(Z)V" } : Jvm.MethodName)) ∈ GW := gw_7 170 rfl rfl
theorem q7_171 : (Jvm.Cond.code ({ cls := "EvenTownModel", name := "must", desc := "(Z)V" } : Jvm.MethodName) prog_14_method_13_code (2 : Nat) (Option.none : Option Jvm.ClassFile.FieldType)) ∈ GW := gw_7 171 rfl rfl
theorem q7_172 : (Jvm.Cond.methodLink "EvenTownModel" (294 : Nat) ({ cls := "EvenTownModel", name := "numeral", desc := "(II)I" } : Jvm.MethodName)) ∈ GW := gw_7 172 rfl rfl
theorem q7_174 : (Jvm.Cond.instanceMethod ({ cls := "EvenTownModel", name := "numeral", desc := "(II)I" } : Jvm.MethodName)) ∈ GW := gw_7 174 rfl rfl
theorem q7_175 : (Jvm.Cond.code ({ cls := "EvenTownModel", name := "numeral", desc := "(II)I" } : Jvm.MethodName) prog_14_method_14_code (4 : Nat) (Option.some Jvm.ClassFile.FieldType.int)) ∈ GW := gw_7 175 rfl rfl
theorem q7_176 : (Jvm.Cond.methodLink "EvenTownModel" (329 : Nat) ({ cls := "EvenTownModel", name := "readPerson", desc := "()V" } : Jvm.MethodName)) ∈ GW := gw_7 176 rfl rfl
theorem q7_178 : (Jvm.Cond.instanceMethod ({ cls := "EvenTownModel", name := "readPerson", desc := "()V" } : Jvm.MethodName)) ∈ GW := gw_7 178 rfl rfl
theorem q7_179 : (Jvm.Cond.code ({ cls := "EvenTownModel", name := "readPerson", desc := "()V" } : Jvm.MethodName) prog_14_method_30_code (2 : Nat) (Option.none : Option Jvm.ClassFile.FieldType)) ∈ GW := gw_7 179 rfl rfl
theorem q7_180 : (Jvm.Cond.methodLink "EvenTownModel" (366 : Nat) ({ cls := "EvenTownModel", name := "being", desc := "()J" } : Jvm.MethodName)) ∈ GW := gw_7 180 rfl rfl
theorem q7_182 : (Jvm.Cond.instanceMethod ({ cls := "EvenTownModel", name := "being", desc := "()J" } : Jvm.MethodName)) ∈ GW := gw_7 182 rfl rfl
theorem q7_183 : (Jvm.Cond.code ({ cls := "EvenTownModel", name := "being", desc := "()J" } : Jvm.MethodName) prog_14_method_28_code (1 : Nat) (Option.some Jvm.ClassFile.FieldType.long)) ∈ GW := gw_7 183 rfl rfl
theorem q7_184 : (Jvm.Cond.methodLink "EvenTownModel" (363 : Nat) ({ cls := "EvenTownModel", name := "personHere", desc := "()I" } : Jvm.MethodName)) ∈ GW := gw_7 184 rfl rfl
theorem q7_186 : (Jvm.Cond.instanceMethod ({ cls := "EvenTownModel", name := "personHere", desc := "()I" } : Jvm.MethodName)) ∈ GW := gw_7 186 rfl rfl
theorem q7_187 : (Jvm.Cond.code ({ cls := "EvenTownModel", name := "personHere", desc := "()I" } : Jvm.MethodName) prog_14_method_23_code (1 : Nat) (Option.some Jvm.ClassFile.FieldType.int)) ∈ GW := gw_7 187 rfl rfl
theorem q7_188 : (Jvm.Cond.methodLink "EvenTownModel" (370 : Nat) ({ cls := "EvenTownModel", name := "placeAt", desc := "()I" } : Jvm.MethodName)) ∈ GW := gw_7 188 rfl rfl
theorem q7_190 : (Jvm.Cond.instanceMethod ({ cls := "EvenTownModel", name := "placeAt", desc := "()I" } : Jvm.MethodName)) ∈ GW := gw_7 190 rfl rfl
theorem q7_191 : (Jvm.Cond.code ({ cls := "EvenTownModel", name := "placeAt", desc := "()I" } : Jvm.MethodName) prog_14_method_29_code (1 : Nat) (Option.some Jvm.ClassFile.FieldType.int)) ∈ GW := gw_7 191 rfl rfl
theorem q7_192 : (Jvm.Cond.methodLink "EvenTownModel" (332 : Nat) ({ cls := "EvenTownModel", name := "readDog", desc := "()V" } : Jvm.MethodName)) ∈ GW := gw_7 192 rfl rfl
theorem q7_194 : (Jvm.Cond.instanceMethod ({ cls := "EvenTownModel", name := "readDog", desc := "()V" } : Jvm.MethodName)) ∈ GW := gw_7 194 rfl rfl
theorem q7_195 : (Jvm.Cond.code ({ cls := "EvenTownModel", name := "readDog", desc := "()V" } : Jvm.MethodName) prog_14_method_31_code (2 : Nat) (Option.none : Option Jvm.ClassFile.FieldType)) ∈ GW := gw_7 195 rfl rfl
theorem q7_196 : (Jvm.Cond.methodLink "EvenTownModel" (335 : Nat) ({ cls := "EvenTownModel", name := "readErrand", desc := "()V" } : Jvm.MethodName)) ∈ GW := gw_7 196 rfl rfl
theorem q7_198 : (Jvm.Cond.instanceMethod ({ cls := "EvenTownModel", name := "readErrand", desc := "()V" } : Jvm.MethodName)) ∈ GW := gw_7 198 rfl rfl
theorem q7_199 : (Jvm.Cond.code ({ cls := "EvenTownModel", name := "readErrand", desc := "()V" } : Jvm.MethodName) prog_14_method_32_code (2 : Nat) (Option.none : Option Jvm.ClassFile.FieldType)) ∈ GW := gw_7 199 rfl rfl
theorem q7_200 : (Jvm.Cond.methodLink "EvenTownModel" (338 : Nat) ({ cls := "EvenTownModel", name := "readRule", desc := "()V" } : Jvm.MethodName)) ∈ GW := gw_7 200 rfl rfl
theorem q7_202 : (Jvm.Cond.instanceMethod ({ cls := "EvenTownModel", name := "readRule", desc := "()V" } : Jvm.MethodName)) ∈ GW := gw_7 202 rfl rfl
theorem q7_203 : (Jvm.Cond.code ({ cls := "EvenTownModel", name := "readRule", desc := "()V" } : Jvm.MethodName) prog_14_method_33_code (1 : Nat) (Option.none : Option Jvm.ClassFile.FieldType)) ∈ GW := gw_7 203 rfl rfl
theorem q7_204 : (Jvm.Cond.methodLink "EvenTownModel" (373 : Nat) ({ cls := "EvenTownModel", name := "e", desc := "()V" } : Jvm.MethodName)) ∈ GW := gw_7 204 rfl rfl
theorem q7_206 : (Jvm.Cond.instanceMethod ({ cls := "EvenTownModel", name := "e", desc := "()V" } : Jvm.MethodName)) ∈ GW := gw_7 206 rfl rfl
theorem q7_207 : (Jvm.Cond.code ({ cls := "EvenTownModel", name := "e", desc := "()V" } : Jvm.MethodName) prog_14_method_36_code (2 : Nat) (Option.none : Option Jvm.ClassFile.FieldType)) ∈ GW := gw_7 207 rfl rfl
theorem q7_208 : (Jvm.Cond.methodLink "EvenTownModel" (382 : Nat) ({ cls := "EvenTownModel", name := "pushE", desc := "(II)V" } : Jvm.MethodName)) ∈ GW := gw_7 208 rfl rfl
theorem q7_210 : (Jvm.Cond.instanceMethod ({ cls := "EvenTownModel", name := "pushE", desc := "(II)V" } : Jvm.MethodName)) ∈ GW := gw_7 210 rfl rfl
theorem q7_211 : (Jvm.Cond.code ({ cls := "EvenTownModel", name := "pushE", desc := "(II)V" } : Jvm.MethodName) prog_14_method_35_code (3 : Nat) (Option.none : Option Jvm.ClassFile.FieldType)) ∈ GW := gw_7 211 rfl rfl
theorem q7_212 : (Jvm.Cond.methodLink "EvenTownModel" (385 : Nat) ({ cls := "EvenTownModel", name := "unit", desc := "()Z" } : Jvm.MethodName)) ∈ GW := gw_7 212 rfl rfl
theorem q7_214 : (Jvm.Cond.instanceMethod ({ cls := "EvenTownModel", name := "unit", desc := "()Z" } : Jvm.MethodName)) ∈ GW := gw_7 214 rfl rfl
theorem q7_215 : (Jvm.Cond.code ({ cls := "EvenTownModel", name := "unit", desc := "()Z" } : Jvm.MethodName) prog_14_method_38_code (6 : Nat) (Option.some Jvm.ClassFile.FieldType.boolean)) ∈ GW := gw_7 215 rfl rfl
theorem q7_216 : (Jvm.Cond.methodLink "EvenTownModel" (341 : Nat) ({ cls := "EvenTownModel", name := "is", desc := "(I)Z" } : Jvm.MethodName)) ∈ GW := gw_7 216 rfl rfl
theorem q7_218 : (Jvm.Cond.instanceMethod ({ cls := "EvenTownModel", name := "is", desc := "(I)Z" } : Jvm.MethodName)) ∈ GW := gw_7 218 rfl rfl
theorem q7_219 : (Jvm.Cond.code ({ cls := "EvenTownModel", name := "is", desc := "(I)Z" } : Jvm.MethodName) prog_14_method_10_code (2 : Nat) (Option.some Jvm.ClassFile.FieldType.boolean)) ∈ GW := gw_7 219 rfl rfl
theorem q7_220 : (Jvm.Cond.methodLink "EvenTownModel" (391 : Nat) ({ cls := "EvenTownModel", name := "wordHere", desc := "()I" } : Jvm.MethodName)) ∈ GW := gw_7 220 rfl rfl
theorem q7_222 : (Jvm.Cond.instanceMethod ({ cls := "EvenTownModel", name := "wordHere", desc := "()I" } : Jvm.MethodName)) ∈ GW := gw_7 222 rfl rfl
theorem q7_223 : (Jvm.Cond.code ({ cls := "EvenTownModel", name := "wordHere", desc := "()I" } : Jvm.MethodName) prog_14_method_37_code (1 : Nat) (Option.some Jvm.ClassFile.FieldType.int)) ∈ GW := gw_7 223 rfl rfl
theorem q7_224 : (Jvm.Cond.methodLink "EvenTownModel" (394 : Nat) ({ cls := "EvenTownModel", name := "emit", desc := "(II)V" } : Jvm.MethodName)) ∈ GW := gw_7 224 rfl rfl
theorem q7_226 : (Jvm.Cond.instanceMethod ({ cls := "EvenTownModel", name := "emit", desc := "(II)V" } : Jvm.MethodName)) ∈ GW := gw_7 226 rfl rfl
theorem q7_227 : (Jvm.Cond.code ({ cls := "EvenTownModel", name := "emit", desc := "(II)V" } : Jvm.MethodName) prog_14_method_34_code (3 : Nat) (Option.none : Option Jvm.ClassFile.FieldType)) ∈ GW := gw_7 227 rfl rfl
theorem q7_228 : (Jvm.Cond.methodLink "EvenTownModel" (388 : Nat) ({ cls := "EvenTownModel", name := "behindUnit", desc := "()Z" } : Jvm.MethodName)) ∈ GW := gw_7 228 rfl rfl
theorem q7_230 : (Jvm.Cond.instanceMethod ({ cls := "EvenTownModel", name := "behindUnit", desc := "()Z" } : Jvm.MethodName)) ∈ GW := gw_7 230 rfl rfl
theorem q7_231 : (Jvm.Cond.code ({ cls := "EvenTownModel", name := "behindUnit", desc := "()Z" } : Jvm.MethodName) prog_14_method_41_code (2 : Nat) (Option.some Jvm.ClassFile.FieldType.boolean)) ∈ GW := gw_7 231 rfl rfl
theorem q7_232 : (Jvm.Cond.methodLink "EvenTownModel" (397 : Nat) ({ cls := "EvenTownModel", name := "rankHere", desc := "()I" } : Jvm.MethodName)) ∈ GW := gw_7 232 rfl rfl
theorem q7_234 : (Jvm.Cond.instanceMethod ({ cls := "EvenTownModel", name := "rankHere", desc := "()I" } : Jvm.MethodName)) ∈ GW := gw_7 234 rfl rfl
theorem q7_235 : (Jvm.Cond.code ({ cls := "EvenTownModel", name := "rankHere", desc := "()I" } : Jvm.MethodName) prog_14_method_39_code (1 : Nat) (Option.some Jvm.ClassFile.FieldType.int)) ∈ GW := gw_7 235 rfl rfl
theorem q7_236 : (Jvm.Cond.methodLink "EvenTownModel" (400 : Nat) ({ cls := "EvenTownModel", name := "isCompared", desc := "()Z" } : Jvm.MethodName)) ∈ GW := gw_7 236 rfl rfl
theorem q7_238 : (Jvm.Cond.instanceMethod ({ cls := "EvenTownModel", name := "isCompared", desc := "()Z" } : Jvm.MethodName)) ∈ GW := gw_7 238 rfl rfl
theorem q7_239 : (Jvm.Cond.code ({ cls := "EvenTownModel", name := "isCompared", desc := "()Z" } : Jvm.MethodName) prog_14_method_40_code (2 : Nat) (Option.some Jvm.ClassFile.FieldType.boolean)) ∈ GW := gw_7 239 rfl rfl
theorem q8_0 : (Jvm.Cond.methodLink "EvenTownLaw" (35 : Nat) ({ cls := "EvenTownModel", name := "fault", desc := "(I)I" } : Jvm.MethodName)) ∈ GW := gw_8 0 rfl rfl
theorem q8_1 : (Jvm.Cond.instanceMethod ({ cls := "EvenTownModel", name := "fault", desc := "(I)I" } : Jvm.MethodName)) ∈ GW := gw_8 1 rfl rfl
theorem q8_2 : (Jvm.Cond.selects "EvenTownModel" ({ cls := "EvenTownModel", name := "fault", desc := "(I)I" } : Jvm.MethodName) ({ cls := "EvenTownModel", name := "fault", desc := "(I)I" } : Jvm.MethodName)) ∈ GW := gw_8 2 rfl rfl
theorem q8_3 : (Jvm.Cond.code ({ cls := "EvenTownModel", name := "fault", desc := "(I)I" } : Jvm.MethodName) prog_14_method_45_code (2 : Nat) (Option.some Jvm.ClassFile.FieldType.int)) ∈ GW := gw_8 3 rfl rfl
theorem q8_4 : (Jvm.Cond.methodLink "EvenTownLaw" (40 : Nat) ({ cls := "EvenTownModel", name := "minutes", desc := "(II)I" } : Jvm.MethodName)) ∈ GW := gw_8 4 rfl rfl
theorem q8_5 : (Jvm.Cond.instanceMethod ({ cls := "EvenTownModel", name := "minutes", desc := "(II)I" } : Jvm.MethodName)) ∈ GW := gw_8 5 rfl rfl
theorem q8_6 : (Jvm.Cond.selects "EvenTownModel" ({ cls := "EvenTownModel", name := "minutes", desc := "(II)I" } : Jvm.MethodName) ({ cls := "EvenTownModel", name := "minutes", desc := "(II)I" } : Jvm.MethodName)) ∈ GW := gw_8 6 rfl rfl
theorem q8_7 : (Jvm.Cond.code ({ cls := "EvenTownModel", name := "minutes", desc := "(II)I" } : Jvm.MethodName) prog_14_method_54_code (3 : Nat) (Option.some Jvm.ClassFile.FieldType.int)) ∈ GW := gw_8 7 rfl rfl
theorem q8_8 : (Jvm.Cond.methodLink "EvenTownModel" (448 : Nat) ({ cls := "EvenTownModel", name := "isPlace", desc := "(I)Z" } : Jvm.MethodName)) ∈ GW := gw_8 8 rfl rfl
theorem q8_10 : (Jvm.Cond.instanceMethod ({ cls := "EvenTownModel", name := "isPlace", desc := "(I)Z" } : Jvm.MethodName)) ∈ GW := gw_8 10 rfl rfl
theorem q8_11 : (Jvm.Cond.code ({ cls := "EvenTownModel", name := "isPlace", desc := "(I)Z" } : Jvm.MethodName) prog_14_method_49_code (2 : Nat) (Option.some Jvm.ClassFile.FieldType.boolean)) ∈ GW := gw_8 11 rfl rfl
theorem q8_12 : (Jvm.Cond.methodLink "EvenTownModel" (411 : Nat) ({ cls := "EvenTownModel", name := "placeMany", desc := "()I" } : Jvm.MethodName)) ∈ GW := gw_8 12 rfl rfl
theorem q8_14 : (Jvm.Cond.instanceMethod ({ cls := "EvenTownModel", name := "placeMany", desc := "()I" } : Jvm.MethodName)) ∈ GW := gw_8 14 rfl rfl
theorem q8_15 : (Jvm.Cond.code ({ cls := "EvenTownModel", name := "placeMany", desc := "()I" } : Jvm.MethodName) prog_14_method_47_code (1 : Nat) (Option.some Jvm.ClassFile.FieldType.int)) ∈ GW := gw_8 15 rfl rfl
theorem q8_16 : (Jvm.Cond.methodLink "EvenTownModel" (414 : Nat) ({ cls := "EvenTownModel", name := "isIn", desc := "(III)Z" } : Jvm.MethodName)) ∈ GW := gw_8 16 rfl rfl
theorem q8_17 : (Jvm.Cond.static ({ cls := "EvenTownModel", name := "isIn", desc := "(III)Z" } : Jvm.MethodName)) ∈ GW := gw_8 17 rfl rfl
theorem q8_18 : (Jvm.Cond.code ({ cls := "EvenTownModel", name := "isIn", desc := "(III)Z" } : Jvm.MethodName) prog_14_method_46_code (3 : Nat) (Option.some Jvm.ClassFile.FieldType.boolean)) ∈ GW := gw_8 18 rfl rfl
theorem q8_19 : (Jvm.Cond.methodLink "EvenTownModel" (451 : Nat) ({ cls := "EvenTownModel", name := "plain", desc := "()V" } : Jvm.MethodName)) ∈ GW := gw_8 19 rfl rfl
theorem q8_21 : (Jvm.Cond.instanceMethod ({ cls := "EvenTownModel", name := "plain", desc := "()V" } : Jvm.MethodName)) ∈ GW := gw_8 21 rfl rfl
theorem q8_22 : (Jvm.Cond.code ({ cls := "EvenTownModel", name := "plain", desc := "()V" } : Jvm.MethodName) prog_14_method_51_code (1 : Nat) (Option.none : Option Jvm.ClassFile.FieldType)) ∈ GW := gw_8 22 rfl rfl
theorem q8_23 : (Jvm.Cond.methodLink "EvenTownModel" (454 : Nat) ({ cls := "EvenTownModel", name := "layTown", desc := "()V" } : Jvm.MethodName)) ∈ GW := gw_8 23 rfl rfl
theorem q8_25 : (Jvm.Cond.instanceMethod ({ cls := "EvenTownModel", name := "layTown", desc := "()V" } : Jvm.MethodName)) ∈ GW := gw_8 25 rfl rfl
theorem q8_26 : (Jvm.Cond.code ({ cls := "EvenTownModel", name := "layTown", desc := "()V" } : Jvm.MethodName) prog_14_method_52_code (4 : Nat) (Option.none : Option Jvm.ClassFile.FieldType)) ∈ GW := gw_8 26 rfl rfl
theorem q8_27 : (Jvm.Cond.methodLink "EvenTownModel" (445 : Nat) ({ cls := "EvenTownModel", name := "isRight", desc := "(III)Z" } : Jvm.MethodName)) ∈ GW := gw_8 27 rfl rfl
theorem q8_29 : (Jvm.Cond.instanceMethod ({ cls := "EvenTownModel", name := "isRight", desc := "(III)Z" } : Jvm.MethodName)) ∈ GW := gw_8 29 rfl rfl
theorem q8_30 : (Jvm.Cond.code ({ cls := "EvenTownModel", name := "isRight", desc := "(III)Z" } : Jvm.MethodName) prog_14_method_44_code (7 : Nat) (Option.some Jvm.ClassFile.FieldType.boolean)) ∈ GW := gw_8 30 rfl rfl
theorem q8_31 : (Jvm.Cond.methodLink "EvenTownModel" (403 : Nat) ({ cls := "EvenTownModel", name := "worthOf", desc := "(IIII)I" } : Jvm.MethodName)) ∈ GW := gw_8 31 rfl rfl
theorem q8_33 : (Jvm.Cond.instanceMethod ({ cls := "EvenTownModel", name := "worthOf", desc := "(IIII)I" } : Jvm.MethodName)) ∈ GW := gw_8 33 rfl rfl
theorem q8_34 : (Jvm.Cond.code ({ cls := "EvenTownModel", name := "worthOf", desc := "(IIII)I" } : Jvm.MethodName) prog_14_method_43_code (5 : Nat) (Option.some Jvm.ClassFile.FieldType.int)) ∈ GW := gw_8 34 rfl rfl
theorem q8_35 : (Jvm.Cond.methodLink "EvenTownModel" (407 : Nat) ({ cls := "EvenTownModel", name := "two", desc := "(III)I" } : Jvm.MethodName)) ∈ GW := gw_8 35 rfl rfl
theorem q8_36 : (Jvm.Cond.static ({ cls := "EvenTownModel", name := "two", desc := "(III)I" } : Jvm.MethodName)) ∈ GW := gw_8 36 rfl rfl
theorem q8_37 : (Jvm.Cond.code ({ cls := "EvenTownModel", name := "two", desc := "(III)I" } : Jvm.MethodName) prog_14_method_42_code (3 : Nat) (Option.some Jvm.ClassFile.FieldType.int)) ∈ GW := gw_8 37 rfl rfl
theorem q8_38 : (Jvm.Cond.methodLink "EvenTownLaw" (45 : Nat) ({ cls := "EvenTownModel", name := "right", desc := "(III)I" } : Jvm.MethodName)) ∈ GW := gw_8 38 rfl rfl
theorem q8_39 : (Jvm.Cond.instanceMethod ({ cls := "EvenTownModel", name := "right", desc := "(III)I" } : Jvm.MethodName)) ∈ GW := gw_8 39 rfl rfl
theorem q8_40 : (Jvm.Cond.selects "EvenTownModel" ({ cls := "EvenTownModel", name := "right", desc := "(III)I" } : Jvm.MethodName) ({ cls := "EvenTownModel", name := "right", desc := "(III)I" } : Jvm.MethodName)) ∈ GW := gw_8 40 rfl rfl
theorem q8_41 : (Jvm.Cond.code ({ cls := "EvenTownModel", name := "right", desc := "(III)I" } : Jvm.MethodName) prog_14_method_55_code (4 : Nat) (Option.some Jvm.ClassFile.FieldType.int)) ∈ GW := gw_8 41 rfl rfl
theorem q8_42 : (Jvm.Cond.methodLink "EvenTownLaw" (57 : Nat) ({ cls := "EvenTownModel", name := "best", desc := "(I)I" } : Jvm.MethodName)) ∈ GW := gw_8 42 rfl rfl
theorem q8_43 : (Jvm.Cond.instanceMethod ({ cls := "EvenTownModel", name := "best", desc := "(I)I" } : Jvm.MethodName)) ∈ GW := gw_8 43 rfl rfl
theorem q8_44 : (Jvm.Cond.selects "EvenTownModel" ({ cls := "EvenTownModel", name := "best", desc := "(I)I" } : Jvm.MethodName) ({ cls := "EvenTownModel", name := "best", desc := "(I)I" } : Jvm.MethodName)) ∈ GW := gw_8 44 rfl rfl
theorem q8_45 : (Jvm.Cond.code ({ cls := "EvenTownModel", name := "best", desc := "(I)I" } : Jvm.MethodName) prog_14_method_68_code (2 : Nat) (Option.some Jvm.ClassFile.FieldType.int)) ∈ GW := gw_8 45 rfl rfl
theorem q8_46 : (Jvm.Cond.methodLink "EvenTownModel" (496 : Nat) ({ cls := "EvenTownModel", name := "isWhat", desc := "(I)Z" } : Jvm.MethodName)) ∈ GW := gw_8 46 rfl rfl
theorem q8_47 : (Jvm.Cond.static ({ cls := "EvenTownModel", name := "isWhat", desc := "(I)Z" } : Jvm.MethodName)) ∈ GW := gw_8 47 rfl rfl
theorem q8_48 : (Jvm.Cond.code ({ cls := "EvenTownModel", name := "isWhat", desc := "(I)Z" } : Jvm.MethodName) prog_14_method_67_code (1 : Nat) (Option.some Jvm.ClassFile.FieldType.boolean)) ∈ GW := gw_8 48 rfl rfl
theorem q8_49 : (Jvm.Cond.constant "EvenTownModel" (470 : Nat) (-1000000 : Int32)) ∈ GW := gw_8 49 rfl rfl
theorem q8_50 : (Jvm.Cond.methodLink "EvenTownModel" (499 : Nat) ({ cls := "EvenTownModel", name := "findBest", desc := "(I)I" } : Jvm.MethodName)) ∈ GW := gw_8 50 rfl rfl
theorem q8_52 : (Jvm.Cond.instanceMethod ({ cls := "EvenTownModel", name := "findBest", desc := "(I)I" } : Jvm.MethodName)) ∈ GW := gw_8 52 rfl rfl
theorem q8_53 : (Jvm.Cond.code ({ cls := "EvenTownModel", name := "findBest", desc := "(I)I" } : Jvm.MethodName) prog_14_method_66_code (5 : Nat) (Option.some Jvm.ClassFile.FieldType.int)) ∈ GW := gw_8 53 rfl rfl
theorem q8_54 : (Jvm.Cond.methodLink "EvenTownModel" (474 : Nat) ({ cls := "EvenTownModel", name := "stateMany", desc := "()I" } : Jvm.MethodName)) ∈ GW := gw_8 54 rfl rfl
theorem q8_56 : (Jvm.Cond.instanceMethod ({ cls := "EvenTownModel", name := "stateMany", desc := "()I" } : Jvm.MethodName)) ∈ GW := gw_8 56 rfl rfl
theorem q8_57 : (Jvm.Cond.code ({ cls := "EvenTownModel", name := "stateMany", desc := "()I" } : Jvm.MethodName) prog_14_method_57_code (1 : Nat) (Option.some Jvm.ClassFile.FieldType.int)) ∈ GW := gw_8 57 rfl rfl
theorem q8_58 : (Jvm.Cond.methodLink "EvenTownModel" (457 : Nat) ({ cls := "EvenTownModel", name := "power", desc := "(I)I" } : Jvm.MethodName)) ∈ GW := gw_8 58 rfl rfl
theorem q8_60 : (Jvm.Cond.instanceMethod ({ cls := "EvenTownModel", name := "power", desc := "(I)I" } : Jvm.MethodName)) ∈ GW := gw_8 60 rfl rfl
theorem q8_61 : (Jvm.Cond.code ({ cls := "EvenTownModel", name := "power", desc := "(I)I" } : Jvm.MethodName) prog_14_method_56_code (4 : Nat) (Option.some Jvm.ClassFile.FieldType.int)) ∈ GW := gw_8 61 rfl rfl
theorem q8_62 : (Jvm.Cond.methodLink "EvenTownModel" (480 : Nat) ({ cls := "EvenTownModel", name := "layState", desc := "(I)V" } : Jvm.MethodName)) ∈ GW := gw_8 62 rfl rfl
theorem q8_64 : (Jvm.Cond.instanceMethod ({ cls := "EvenTownModel", name := "layState", desc := "(I)V" } : Jvm.MethodName)) ∈ GW := gw_8 64 rfl rfl
theorem q8_65 : (Jvm.Cond.code ({ cls := "EvenTownModel", name := "layState", desc := "(I)V" } : Jvm.MethodName) prog_14_method_58_code (4 : Nat) (Option.none : Option Jvm.ClassFile.FieldType)) ∈ GW := gw_8 65 rfl rfl
theorem q8_66 : (Jvm.Cond.methodLink "EvenTownModel" (484 : Nat) ({ cls := "EvenTownModel", name := "isLawful", desc := "(I)Z" } : Jvm.MethodName)) ∈ GW := gw_8 66 rfl rfl
theorem q8_68 : (Jvm.Cond.instanceMethod ({ cls := "EvenTownModel", name := "isLawful", desc := "(I)Z" } : Jvm.MethodName)) ∈ GW := gw_8 68 rfl rfl
theorem q8_69 : (Jvm.Cond.code ({ cls := "EvenTownModel", name := "isLawful", desc := "(I)Z" } : Jvm.MethodName) prog_14_method_60_code (3 : Nat) (Option.some Jvm.ClassFile.FieldType.boolean)) ∈ GW := gw_8 69 rfl rfl
theorem q8_70 : (Jvm.Cond.methodLink "EvenTownModel" (487 : Nat) ({ cls := "EvenTownModel", name := "worthNow", desc := "(I)I" } : Jvm.MethodName)) ∈ GW := gw_8 70 rfl rfl
theorem q8_72 : (Jvm.Cond.instanceMethod ({ cls := "EvenTownModel", name := "worthNow", desc := "(I)I" } : Jvm.MethodName)) ∈ GW := gw_8 72 rfl rfl
theorem q8_73 : (Jvm.Cond.code ({ cls := "EvenTownModel", name := "worthNow", desc := "(I)I" } : Jvm.MethodName) prog_14_method_64_code (5 : Nat) (Option.some Jvm.ClassFile.FieldType.int)) ∈ GW := gw_8 73 rfl rfl
theorem q8_74 : (Jvm.Cond.methodLink "EvenTownModel" (463 : Nat) ({ cls := "EvenTownModel", name := "isDone", desc := "(II)Z" } : Jvm.MethodName)) ∈ GW := gw_8 74 rfl rfl
theorem q8_76 : (Jvm.Cond.instanceMethod ({ cls := "EvenTownModel", name := "isDone", desc := "(II)Z" } : Jvm.MethodName)) ∈ GW := gw_8 76 rfl rfl
theorem q8_77 : (Jvm.Cond.code ({ cls := "EvenTownModel", name := "isDone", desc := "(II)Z" } : Jvm.MethodName) prog_14_method_61_code (3 : Nat) (Option.some Jvm.ClassFile.FieldType.boolean)) ∈ GW := gw_8 77 rfl rfl
theorem q8_78 : (Jvm.Cond.methodLink "EvenTownModel" (460 : Nat) ({ cls := "EvenTownModel", name := "isAway", desc := "(I)Z" } : Jvm.MethodName)) ∈ GW := gw_8 78 rfl rfl
theorem q8_80 : (Jvm.Cond.instanceMethod ({ cls := "EvenTownModel", name := "isAway", desc := "(I)Z" } : Jvm.MethodName)) ∈ GW := gw_8 80 rfl rfl
theorem q8_81 : (Jvm.Cond.code ({ cls := "EvenTownModel", name := "isAway", desc := "(I)Z" } : Jvm.MethodName) prog_14_method_62_code (2 : Nat) (Option.some Jvm.ClassFile.FieldType.boolean)) ∈ GW := gw_8 81 rfl rfl
theorem q8_82 : (Jvm.Cond.methodLink "EvenTownModel" (471 : Nat) ({ cls := "EvenTownModel", name := "isCompanion", desc := "(II)Z" } : Jvm.MethodName)) ∈ GW := gw_8 82 rfl rfl
theorem q8_84 : (Jvm.Cond.instanceMethod ({ cls := "EvenTownModel", name := "isCompanion", desc := "(II)Z" } : Jvm.MethodName)) ∈ GW := gw_8 84 rfl rfl
theorem q8_85 : (Jvm.Cond.code ({ cls := "EvenTownModel", name := "isCompanion", desc := "(II)Z" } : Jvm.MethodName) prog_14_method_63_code (4 : Nat) (Option.some Jvm.ClassFile.FieldType.boolean)) ∈ GW := gw_8 85 rfl rfl
theorem q8_86 : (Jvm.Cond.methodLink "EvenTownModel" (490 : Nat) ({ cls := "EvenTownModel", name := "stepBack", desc := "(I)V" } : Jvm.MethodName)) ∈ GW := gw_8 86 rfl rfl
theorem q8_88 : (Jvm.Cond.instanceMethod ({ cls := "EvenTownModel", name := "stepBack", desc := "(I)V" } : Jvm.MethodName)) ∈ GW := gw_8 88 rfl rfl
theorem q8_89 : (Jvm.Cond.code ({ cls := "EvenTownModel", name := "stepBack", desc := "(I)V" } : Jvm.MethodName) prog_14_method_65_code (7 : Nat) (Option.none : Option Jvm.ClassFile.FieldType)) ∈ GW := gw_8 89 rfl rfl
theorem q8_90 : (Jvm.Cond.methodLink "EvenTownModel" (477 : Nat) ({ cls := "EvenTownModel", name := "gets", desc := "(II)Z" } : Jvm.MethodName)) ∈ GW := gw_8 90 rfl rfl
theorem q8_92 : (Jvm.Cond.instanceMethod ({ cls := "EvenTownModel", name := "gets", desc := "(II)Z" } : Jvm.MethodName)) ∈ GW := gw_8 92 rfl rfl
theorem q8_93 : (Jvm.Cond.code ({ cls := "EvenTownModel", name := "gets", desc := "(II)Z" } : Jvm.MethodName) prog_14_method_53_code (3 : Nat) (Option.some Jvm.ClassFile.FieldType.boolean)) ∈ GW := gw_8 93 rfl rfl
theorem q8_94 : (Jvm.Cond.methodLink "EvenTownModel" (493 : Nat) ({ cls := "EvenTownModel", name := "homeState", desc := "()I" } : Jvm.MethodName)) ∈ GW := gw_8 94 rfl rfl
theorem q8_96 : (Jvm.Cond.instanceMethod ({ cls := "EvenTownModel", name := "homeState", desc := "()I" } : Jvm.MethodName)) ∈ GW := gw_8 96 rfl rfl
theorem q8_97 : (Jvm.Cond.code ({ cls := "EvenTownModel", name := "homeState", desc := "()I" } : Jvm.MethodName) prog_14_method_59_code (3 : Nat) (Option.some Jvm.ClassFile.FieldType.int)) ∈ GW := gw_8 97 rfl rfl
theorem q8_98 : (Jvm.Cond.methodLink "EvenTownLaw" (61 : Nat) ({ cls := "EvenTownModel", name := "bestAt", desc := "(III)I" } : Jvm.MethodName)) ∈ GW := gw_8 98 rfl rfl
theorem q8_99 : (Jvm.Cond.instanceMethod ({ cls := "EvenTownModel", name := "bestAt", desc := "(III)I" } : Jvm.MethodName)) ∈ GW := gw_8 99 rfl rfl
theorem q8_100 : (Jvm.Cond.selects "EvenTownModel" ({ cls := "EvenTownModel", name := "bestAt", desc := "(III)I" } : Jvm.MethodName) ({ cls := "EvenTownModel", name := "bestAt", desc := "(III)I" } : Jvm.MethodName)) ∈ GW := gw_8 100 rfl rfl
theorem q8_101 : (Jvm.Cond.code ({ cls := "EvenTownModel", name := "bestAt", desc := "(III)I" } : Jvm.MethodName) prog_14_method_71_code (6 : Nat) (Option.some Jvm.ClassFile.FieldType.int)) ∈ GW := gw_8 101 rfl rfl
theorem q8_102 : (Jvm.Cond.methodLink "EvenTownModel" (505 : Nat) ({ cls := "EvenTownModel", name := "isPerson", desc := "(I)Z" } : Jvm.MethodName)) ∈ GW := gw_8 102 rfl rfl
theorem q8_104 : (Jvm.Cond.instanceMethod ({ cls := "EvenTownModel", name := "isPerson", desc := "(I)Z" } : Jvm.MethodName)) ∈ GW := gw_8 104 rfl rfl
theorem q8_105 : (Jvm.Cond.code ({ cls := "EvenTownModel", name := "isPerson", desc := "(I)Z" } : Jvm.MethodName) prog_14_method_50_code (2 : Nat) (Option.some Jvm.ClassFile.FieldType.boolean)) ∈ GW := gw_8 105 rfl rfl
theorem q8_106 : (Jvm.Cond.methodLink "EvenTownModel" (508 : Nat) ({ cls := "EvenTownModel", name := "nextBest", desc := "(II)I" } : Jvm.MethodName)) ∈ GW := gw_8 106 rfl rfl
theorem q8_108 : (Jvm.Cond.instanceMethod ({ cls := "EvenTownModel", name := "nextBest", desc := "(II)I" } : Jvm.MethodName)) ∈ GW := gw_8 108 rfl rfl
theorem q8_109 : (Jvm.Cond.code ({ cls := "EvenTownModel", name := "nextBest", desc := "(II)I" } : Jvm.MethodName) prog_14_method_70_code (6 : Nat) (Option.some Jvm.ClassFile.FieldType.int)) ∈ GW := gw_8 109 rfl rfl
theorem q8_110 : (Jvm.Cond.methodLink "EvenTownModel" (502 : Nat) ({ cls := "EvenTownModel", name := "walked", desc := "()I" } : Jvm.MethodName)) ∈ GW := gw_8 110 rfl rfl
theorem q8_112 : (Jvm.Cond.instanceMethod ({ cls := "EvenTownModel", name := "walked", desc := "()I" } : Jvm.MethodName)) ∈ GW := gw_8 112 rfl rfl
theorem q8_113 : (Jvm.Cond.code ({ cls := "EvenTownModel", name := "walked", desc := "()I" } : Jvm.MethodName) prog_14_method_69_code (3 : Nat) (Option.some Jvm.ClassFile.FieldType.int)) ∈ GW := gw_8 113 rfl rfl
theorem q8_114 : (Jvm.Cond.methodLink "EvenTownLaw" (65 : Nat) ({ cls := "EvenTownModel", name := "breaks", desc := "(II)I" } : Jvm.MethodName)) ∈ GW := gw_8 114 rfl rfl
theorem q8_115 : (Jvm.Cond.instanceMethod ({ cls := "EvenTownModel", name := "breaks", desc := "(II)I" } : Jvm.MethodName)) ∈ GW := gw_8 115 rfl rfl
theorem q8_116 : (Jvm.Cond.selects "EvenTownModel" ({ cls := "EvenTownModel", name := "breaks", desc := "(II)I" } : Jvm.MethodName) ({ cls := "EvenTownModel", name := "breaks", desc := "(II)I" } : Jvm.MethodName)) ∈ GW := gw_8 116 rfl rfl
theorem q8_117 : (Jvm.Cond.code ({ cls := "EvenTownModel", name := "breaks", desc := "(II)I" } : Jvm.MethodName) prog_14_method_72_code (7 : Nat) (Option.some Jvm.ClassFile.FieldType.int)) ∈ GW := gw_8 117 rfl rfl
theorem q8_118 : (Jvm.Cond.methodLink "EvenTownLaw" (69 : Nat) ({ cls := "EvenTownModel", name := "spare", desc := "(II)I" } : Jvm.MethodName)) ∈ GW := gw_8 118 rfl rfl
theorem q8_119 : (Jvm.Cond.instanceMethod ({ cls := "EvenTownModel", name := "spare", desc := "(II)I" } : Jvm.MethodName)) ∈ GW := gw_8 119 rfl rfl
theorem q8_120 : (Jvm.Cond.selects "EvenTownModel" ({ cls := "EvenTownModel", name := "spare", desc := "(II)I" } : Jvm.MethodName) ({ cls := "EvenTownModel", name := "spare", desc := "(II)I" } : Jvm.MethodName)) ∈ GW := gw_8 120 rfl rfl
theorem q8_121 : (Jvm.Cond.code ({ cls := "EvenTownModel", name := "spare", desc := "(II)I" } : Jvm.MethodName) prog_14_method_73_code (3 : Nat) (Option.some Jvm.ClassFile.FieldType.int)) ∈ GW := gw_8 121 rfl rfl
theorem q8_122 : (Jvm.Cond.methodLink "EvenTownLaw" (73 : Nat) ({ cls := "EvenTownModel", name := "often", desc := "(II)I" } : Jvm.MethodName)) ∈ GW := gw_8 122 rfl rfl
theorem q8_123 : (Jvm.Cond.instanceMethod ({ cls := "EvenTownModel", name := "often", desc := "(II)I" } : Jvm.MethodName)) ∈ GW := gw_8 123 rfl rfl
theorem q8_124 : (Jvm.Cond.selects "EvenTownModel" ({ cls := "EvenTownModel", name := "often", desc := "(II)I" } : Jvm.MethodName) ({ cls := "EvenTownModel", name := "often", desc := "(II)I" } : Jvm.MethodName)) ∈ GW := gw_8 124 rfl rfl
theorem q8_125 : (Jvm.Cond.code ({ cls := "EvenTownModel", name := "often", desc := "(II)I" } : Jvm.MethodName) prog_14_method_74_code (3 : Nat) (Option.some Jvm.ClassFile.FieldType.int)) ∈ GW := gw_8 125 rfl rfl
theorem q8_126 : (Jvm.Cond.methodLink "EvenTownLaw" (77 : Nat) ({ cls := "EvenTownModel", name := "built", desc := "(III)I" } : Jvm.MethodName)) ∈ GW := gw_8 126 rfl rfl
theorem q8_127 : (Jvm.Cond.instanceMethod ({ cls := "EvenTownModel", name := "built", desc := "(III)I" } : Jvm.MethodName)) ∈ GW := gw_8 127 rfl rfl
theorem q8_128 : (Jvm.Cond.selects "EvenTownModel" ({ cls := "EvenTownModel", name := "built", desc := "(III)I" } : Jvm.MethodName) ({ cls := "EvenTownModel", name := "built", desc := "(III)I" } : Jvm.MethodName)) ∈ GW := gw_8 128 rfl rfl
theorem q8_129 : (Jvm.Cond.code ({ cls := "EvenTownModel", name := "built", desc := "(III)I" } : Jvm.MethodName) prog_14_method_75_code (9 : Nat) (Option.some Jvm.ClassFile.FieldType.int)) ∈ GW := gw_8 129 rfl rfl
theorem q8_130 : (Jvm.Cond.methodLink "EvenTownLaw" (81 : Nat) ({ cls := "EvenTownModel", name := "meet", desc := "(III)I" } : Jvm.MethodName)) ∈ GW := gw_8 130 rfl rfl
theorem q8_131 : (Jvm.Cond.instanceMethod ({ cls := "EvenTownModel", name := "meet", desc := "(III)I" } : Jvm.MethodName)) ∈ GW := gw_8 131 rfl rfl
theorem q8_132 : (Jvm.Cond.selects "EvenTownModel" ({ cls := "EvenTownModel", name := "meet", desc := "(III)I" } : Jvm.MethodName) ({ cls := "EvenTownModel", name := "meet", desc := "(III)I" } : Jvm.MethodName)) ∈ GW := gw_8 132 rfl rfl
theorem q8_133 : (Jvm.Cond.code ({ cls := "EvenTownModel", name := "meet", desc := "(III)I" } : Jvm.MethodName) prog_14_method_81_code (6 : Nat) (Option.some Jvm.ClassFile.FieldType.int)) ∈ GW := gw_8 133 rfl rfl
theorem q8_134 : (Jvm.Cond.methodLink "EvenTownModel" (520 : Nat) ({ cls := "EvenTownModel", name := "findAll", desc := "(ZI)V" } : Jvm.MethodName)) ∈ GW := gw_8 134 rfl rfl
theorem q8_136 : (Jvm.Cond.instanceMethod ({ cls := "EvenTownModel", name := "findAll", desc := "(ZI)V" } : Jvm.MethodName)) ∈ GW := gw_8 136 rfl rfl
theorem q8_137 : (Jvm.Cond.code ({ cls := "EvenTownModel", name := "findAll", desc := "(ZI)V" } : Jvm.MethodName) prog_14_method_79_code (6 : Nat) (Option.none : Option Jvm.ClassFile.FieldType)) ∈ GW := gw_8 137 rfl rfl
theorem q8_138 : (Jvm.Cond.methodLink "EvenTownModel" (514 : Nat) ({ cls := "EvenTownModel", name := "stepAll", desc := "(I)V" } : Jvm.MethodName)) ∈ GW := gw_8 138 rfl rfl
theorem q8_140 : (Jvm.Cond.instanceMethod ({ cls := "EvenTownModel", name := "stepAll", desc := "(I)V" } : Jvm.MethodName)) ∈ GW := gw_8 140 rfl rfl
theorem q8_141 : (Jvm.Cond.code ({ cls := "EvenTownModel", name := "stepAll", desc := "(I)V" } : Jvm.MethodName) prog_14_method_76_code (6 : Nat) (Option.none : Option Jvm.ClassFile.FieldType)) ∈ GW := gw_8 141 rfl rfl
theorem q8_142 : (Jvm.Cond.methodLink "EvenTownModel" (517 : Nat) ({ cls := "EvenTownModel", name := "agrees", desc := "(II)Z" } : Jvm.MethodName)) ∈ GW := gw_8 142 rfl rfl
theorem q8_144 : (Jvm.Cond.instanceMethod ({ cls := "EvenTownModel", name := "agrees", desc := "(II)Z" } : Jvm.MethodName)) ∈ GW := gw_8 144 rfl rfl
theorem q8_145 : (Jvm.Cond.code ({ cls := "EvenTownModel", name := "agrees", desc := "(II)Z" } : Jvm.MethodName) prog_14_method_77_code (4 : Nat) (Option.some Jvm.ClassFile.FieldType.boolean)) ∈ GW := gw_8 145 rfl rfl
theorem q8_146 : (Jvm.Cond.methodLink "EvenTownModel" (511 : Nat) ({ cls := "EvenTownModel", name := "isCounted", desc := "(II)Z" } : Jvm.MethodName)) ∈ GW := gw_8 146 rfl rfl
theorem q8_148 : (Jvm.Cond.instanceMethod ({ cls := "EvenTownModel", name := "isCounted", desc := "(II)Z" } : Jvm.MethodName)) ∈ GW := gw_8 148 rfl rfl
theorem q8_149 : (Jvm.Cond.code ({ cls := "EvenTownModel", name := "isCounted", desc := "(II)Z" } : Jvm.MethodName) prog_14_method_78_code (3 : Nat) (Option.some Jvm.ClassFile.FieldType.boolean)) ∈ GW := gw_8 149 rfl rfl
theorem q8_150 : (Jvm.Cond.methodLink "EvenTownModel" (524 : Nat) ({ cls := "EvenTownModel", name := "canBe", desc := "(II)Z" } : Jvm.MethodName)) ∈ GW := gw_8 150 rfl rfl
theorem q8_152 : (Jvm.Cond.instanceMethod ({ cls := "EvenTownModel", name := "canBe", desc := "(II)Z" } : Jvm.MethodName)) ∈ GW := gw_8 152 rfl rfl
theorem q8_153 : (Jvm.Cond.code ({ cls := "EvenTownModel", name := "canBe", desc := "(II)Z" } : Jvm.MethodName) prog_14_method_80_code (3 : Nat) (Option.some Jvm.ClassFile.FieldType.boolean)) ∈ GW := gw_8 153 rfl rfl
theorem q8_154 : (Jvm.Cond.methodLink "EvenTownLaw" (115 : Nat) ({ cls := "EvenTownModel", name := "states", desc := "(II)I" } : Jvm.MethodName)) ∈ GW := gw_8 154 rfl rfl
theorem q8_155 : (Jvm.Cond.instanceMethod ({ cls := "EvenTownModel", name := "states", desc := "(II)I" } : Jvm.MethodName)) ∈ GW := gw_8 155 rfl rfl
theorem q8_156 : (Jvm.Cond.selects "EvenTownModel" ({ cls := "EvenTownModel", name := "states", desc := "(II)I" } : Jvm.MethodName) ({ cls := "EvenTownModel", name := "states", desc := "(II)I" } : Jvm.MethodName)) ∈ GW := gw_8 156 rfl rfl
theorem q8_157 : (Jvm.Cond.code ({ cls := "EvenTownModel", name := "states", desc := "(II)I" } : Jvm.MethodName) prog_14_method_82_code (5 : Nat) (Option.some Jvm.ClassFile.FieldType.int)) ∈ GW := gw_8 157 rfl rfl
theorem q8_158 : (Jvm.Cond.methodLink "EvenTownLaw" (120 : Nat) ({ cls := "EvenTownModel", name := "sure", desc := "(IIII)I" } : Jvm.MethodName)) ∈ GW := gw_8 158 rfl rfl
theorem q8_159 : (Jvm.Cond.instanceMethod ({ cls := "EvenTownModel", name := "sure", desc := "(IIII)I" } : Jvm.MethodName)) ∈ GW := gw_8 159 rfl rfl
theorem q8_160 : (Jvm.Cond.selects "EvenTownModel" ({ cls := "EvenTownModel", name := "sure", desc := "(IIII)I" } : Jvm.MethodName) ({ cls := "EvenTownModel", name := "sure", desc := "(IIII)I" } : Jvm.MethodName)) ∈ GW := gw_8 160 rfl rfl
theorem q8_161 : (Jvm.Cond.code ({ cls := "EvenTownModel", name := "sure", desc := "(IIII)I" } : Jvm.MethodName) prog_14_method_83_code (8 : Nat) (Option.some Jvm.ClassFile.FieldType.int)) ∈ GW := gw_8 161 rfl rfl
theorem q8_162 : (Jvm.Cond.methodLink "EvenTownLaw" (31 : Nat) ({ cls := "EvenTownModel", name := "plan", desc := "()I" } : Jvm.MethodName)) ∈ GW := gw_8 162 rfl rfl
theorem q8_163 : (Jvm.Cond.instanceMethod ({ cls := "EvenTownModel", name := "plan", desc := "()I" } : Jvm.MethodName)) ∈ GW := gw_8 163 rfl rfl
theorem q8_164 : (Jvm.Cond.selects "EvenTownModel" ({ cls := "EvenTownModel", name := "plan", desc := "()I" } : Jvm.MethodName) ({ cls := "EvenTownModel", name := "plan", desc := "()I" } : Jvm.MethodName)) ∈ GW := gw_8 164 rfl rfl
theorem q8_165 : (Jvm.Cond.code ({ cls := "EvenTownModel", name := "plan", desc := "()I" } : Jvm.MethodName) prog_14_method_85_code (3 : Nat) (Option.some Jvm.ClassFile.FieldType.int)) ∈ GW := gw_8 165 rfl rfl
theorem q8_166 : (Jvm.Cond.methodLink "EvenTownModel" (530 : Nat) ({ cls := "EvenTownModel", name := "readPlan", desc := "()V" } : Jvm.MethodName)) ∈ GW := gw_8 166 rfl rfl
theorem q8_168 : (Jvm.Cond.instanceMethod ({ cls := "EvenTownModel", name := "readPlan", desc := "()V" } : Jvm.MethodName)) ∈ GW := gw_8 168 rfl rfl
theorem q8_169 : (Jvm.Cond.code ({ cls := "EvenTownModel", name := "readPlan", desc := "()V" } : Jvm.MethodName) prog_14_method_86_code (5 : Nat) (Option.none : Option Jvm.ClassFile.FieldType)) ∈ GW := gw_8 169 rfl rfl
theorem q8_170 : (Jvm.Cond.methodLink "EvenTownLaw" (49 : Nat) ({ cls := "EvenTownModel", name := "judge", desc := "(I)I" } : Jvm.MethodName)) ∈ GW := gw_8 170 rfl rfl
theorem q8_171 : (Jvm.Cond.instanceMethod ({ cls := "EvenTownModel", name := "judge", desc := "(I)I" } : Jvm.MethodName)) ∈ GW := gw_8 171 rfl rfl
theorem q8_172 : (Jvm.Cond.selects "EvenTownModel" ({ cls := "EvenTownModel", name := "judge", desc := "(I)I" } : Jvm.MethodName) ({ cls := "EvenTownModel", name := "judge", desc := "(I)I" } : Jvm.MethodName)) ∈ GW := gw_8 172 rfl rfl
theorem q8_173 : (Jvm.Cond.code ({ cls := "EvenTownModel", name := "judge", desc := "(I)I" } : Jvm.MethodName) prog_14_method_90_code (2 : Nat) (Option.some Jvm.ClassFile.FieldType.int)) ∈ GW := gw_8 173 rfl rfl
theorem q8_174 : (Jvm.Cond.methodLink "EvenTownModel" (549 : Nat) ({ cls := "EvenTownModel", name := "judgePlan", desc := "()V" } : Jvm.MethodName)) ∈ GW := gw_8 174 rfl rfl
theorem q8_176 : (Jvm.Cond.instanceMethod ({ cls := "EvenTownModel", name := "judgePlan", desc := "()V" } : Jvm.MethodName)) ∈ GW := gw_8 176 rfl rfl
theorem q8_177 : (Jvm.Cond.code ({ cls := "EvenTownModel", name := "judgePlan", desc := "()V" } : Jvm.MethodName) prog_14_method_89_code (3 : Nat) (Option.none : Option Jvm.ClassFile.FieldType)) ∈ GW := gw_8 177 rfl rfl
theorem q8_178 : (Jvm.Cond.methodLink "EvenTownModel" (542 : Nat) ({ cls := "EvenTownModel", name := "layPlanned", desc := "(I)V" } : Jvm.MethodName)) ∈ GW := gw_8 178 rfl rfl
theorem q8_180 : (Jvm.Cond.instanceMethod ({ cls := "EvenTownModel", name := "layPlanned", desc := "(I)V" } : Jvm.MethodName)) ∈ GW := gw_8 180 rfl rfl
theorem q8_181 : (Jvm.Cond.code ({ cls := "EvenTownModel", name := "layPlanned", desc := "(I)V" } : Jvm.MethodName) prog_14_method_87_code (3 : Nat) (Option.none : Option Jvm.ClassFile.FieldType)) ∈ GW := gw_8 181 rfl rfl
theorem q8_182 : (Jvm.Cond.methodLink "EvenTownModel" (545 : Nat) ({ cls := "EvenTownModel", name := "wrongIs", desc := "(III)V" } : Jvm.MethodName)) ∈ GW := gw_8 182 rfl rfl
theorem q8_184 : (Jvm.Cond.instanceMethod ({ cls := "EvenTownModel", name := "wrongIs", desc := "(III)V" } : Jvm.MethodName)) ∈ GW := gw_8 184 rfl rfl
theorem q8_185 : (Jvm.Cond.code ({ cls := "EvenTownModel", name := "wrongIs", desc := "(III)V" } : Jvm.MethodName) prog_14_method_88_code (4 : Nat) (Option.none : Option Jvm.ClassFile.FieldType)) ∈ GW := gw_8 185 rfl rfl
theorem q8_186 : (Jvm.Cond.methodLink "EvenTownLaw" (53 : Nat) ({ cls := "EvenTownModel", name := "value", desc := "(I)I" } : Jvm.MethodName)) ∈ GW := gw_8 186 rfl rfl
theorem q8_187 : (Jvm.Cond.instanceMethod ({ cls := "EvenTownModel", name := "value", desc := "(I)I" } : Jvm.MethodName)) ∈ GW := gw_8 187 rfl rfl
theorem q8_188 : (Jvm.Cond.selects "EvenTownModel" ({ cls := "EvenTownModel", name := "value", desc := "(I)I" } : Jvm.MethodName) ({ cls := "EvenTownModel", name := "value", desc := "(I)I" } : Jvm.MethodName)) ∈ GW := gw_8 188 rfl rfl
theorem q8_189 : (Jvm.Cond.code ({ cls := "EvenTownModel", name := "value", desc := "(I)I" } : Jvm.MethodName) prog_14_method_91_code (6 : Nat) (Option.some Jvm.ClassFile.FieldType.int)) ∈ GW := gw_8 189 rfl rfl
theorem q8_190 : (Jvm.Cond.methodLink "EvenTownLaw" (89 : Nat) ({ cls := "EvenTownModel", name := "where", desc := "(I)I" } : Jvm.MethodName)) ∈ GW := gw_8 190 rfl rfl
theorem q8_191 : (Jvm.Cond.instanceMethod ({ cls := "EvenTownModel", name := "where", desc := "(I)I" } : Jvm.MethodName)) ∈ GW := gw_8 191 rfl rfl
theorem q8_192 : (Jvm.Cond.selects "EvenTownModel" ({ cls := "EvenTownModel", name := "where", desc := "(I)I" } : Jvm.MethodName) ({ cls := "EvenTownModel", name := "where", desc := "(I)I" } : Jvm.MethodName)) ∈ GW := gw_8 192 rfl rfl
theorem q8_193 : (Jvm.Cond.code ({ cls := "EvenTownModel", name := "where", desc := "(I)I" } : Jvm.MethodName) prog_14_method_93_code (2 : Nat) (Option.some Jvm.ClassFile.FieldType.int)) ∈ GW := gw_8 193 rfl rfl
theorem q8_194 : (Jvm.Cond.methodLink "EvenTownLaw" (94 : Nat) ({ cls := "EvenTownModel", name := "send", desc := "(II)Z" } : Jvm.MethodName)) ∈ GW := gw_8 194 rfl rfl
theorem q8_195 : (Jvm.Cond.instanceMethod ({ cls := "EvenTownModel", name := "send", desc := "(II)Z" } : Jvm.MethodName)) ∈ GW := gw_8 195 rfl rfl
theorem q8_196 : (Jvm.Cond.selects "EvenTownModel" ({ cls := "EvenTownModel", name := "send", desc := "(II)Z" } : Jvm.MethodName) ({ cls := "EvenTownModel", name := "send", desc := "(II)Z" } : Jvm.MethodName)) ∈ GW := gw_8 196 rfl rfl
theorem q8_197 : (Jvm.Cond.code ({ cls := "EvenTownModel", name := "send", desc := "(II)Z" } : Jvm.MethodName) prog_14_method_94_code (3 : Nat) (Option.some Jvm.ClassFile.FieldType.boolean)) ∈ GW := gw_8 197 rfl rfl
theorem q8_198 : (Jvm.Cond.methodLink "EvenTownLaw" (98 : Nat) ({ cls := "EvenTownModel", name := "strike", desc := "()I" } : Jvm.MethodName)) ∈ GW := gw_8 198 rfl rfl
theorem q8_199 : (Jvm.Cond.instanceMethod ({ cls := "EvenTownModel", name := "strike", desc := "()I" } : Jvm.MethodName)) ∈ GW := gw_8 199 rfl rfl
theorem q8_200 : (Jvm.Cond.selects "EvenTownModel" ({ cls := "EvenTownModel", name := "strike", desc := "()I" } : Jvm.MethodName) ({ cls := "EvenTownModel", name := "strike", desc := "()I" } : Jvm.MethodName)) ∈ GW := gw_8 200 rfl rfl
theorem q8_201 : (Jvm.Cond.code ({ cls := "EvenTownModel", name := "strike", desc := "()I" } : Jvm.MethodName) prog_14_method_96_code (3 : Nat) (Option.some Jvm.ClassFile.FieldType.int)) ∈ GW := gw_8 201 rfl rfl
theorem q8_202 : (Jvm.Cond.methodLink "EvenTownModel" (558 : Nat) ({ cls := "EvenTownModel", name := "layStands", desc := "()V" } : Jvm.MethodName)) ∈ GW := gw_8 202 rfl rfl
theorem q8_204 : (Jvm.Cond.instanceMethod ({ cls := "EvenTownModel", name := "layStands", desc := "()V" } : Jvm.MethodName)) ∈ GW := gw_8 204 rfl rfl
theorem q8_205 : (Jvm.Cond.code ({ cls := "EvenTownModel", name := "layStands", desc := "()V" } : Jvm.MethodName) prog_14_method_95_code (2 : Nat) (Option.none : Option Jvm.ClassFile.FieldType)) ∈ GW := gw_8 205 rfl rfl
theorem q8_206 : (Jvm.Cond.methodLink "EvenTownLaw" (85 : Nat) ({ cls := "EvenTownModel", name := "mend", desc := "()I" } : Jvm.MethodName)) ∈ GW := gw_8 206 rfl rfl
theorem q8_207 : (Jvm.Cond.instanceMethod ({ cls := "EvenTownModel", name := "mend", desc := "()I" } : Jvm.MethodName)) ∈ GW := gw_8 207 rfl rfl
theorem q8_208 : (Jvm.Cond.selects "EvenTownModel" ({ cls := "EvenTownModel", name := "mend", desc := "()I" } : Jvm.MethodName) ({ cls := "EvenTownModel", name := "mend", desc := "()I" } : Jvm.MethodName)) ∈ GW := gw_8 208 rfl rfl
theorem q8_209 : (Jvm.Cond.code ({ cls := "EvenTownModel", name := "mend", desc := "()I" } : Jvm.MethodName) prog_14_method_97_code (6 : Nat) (Option.some Jvm.ClassFile.FieldType.int)) ∈ GW := gw_8 209 rfl rfl
theorem q8_210 : (Jvm.Cond.methodLink "EvenTownLaw" (102 : Nat) ({ cls := "EvenTownModel", name := "count", desc := "(III)I" } : Jvm.MethodName)) ∈ GW := gw_8 210 rfl rfl
theorem q8_211 : (Jvm.Cond.instanceMethod ({ cls := "EvenTownModel", name := "count", desc := "(III)I" } : Jvm.MethodName)) ∈ GW := gw_8 211 rfl rfl
theorem q8_212 : (Jvm.Cond.selects "EvenTownModel" ({ cls := "EvenTownModel", name := "count", desc := "(III)I" } : Jvm.MethodName) ({ cls := "EvenTownModel", name := "count", desc := "(III)I" } : Jvm.MethodName)) ∈ GW := gw_8 212 rfl rfl
theorem q8_213 : (Jvm.Cond.code ({ cls := "EvenTownModel", name := "count", desc := "(III)I" } : Jvm.MethodName) prog_14_method_98_code (4 : Nat) (Option.some Jvm.ClassFile.FieldType.int)) ∈ GW := gw_8 213 rfl rfl
theorem q8_214 : (Jvm.Cond.methodLink "EvenTownLaw" (107 : Nat) ({ cls := "EvenTownModel", name := "untell", desc := "(I)Z" } : Jvm.MethodName)) ∈ GW := gw_8 214 rfl rfl
theorem q8_215 : (Jvm.Cond.instanceMethod ({ cls := "EvenTownModel", name := "untell", desc := "(I)Z" } : Jvm.MethodName)) ∈ GW := gw_8 215 rfl rfl
theorem q8_216 : (Jvm.Cond.selects "EvenTownModel" ({ cls := "EvenTownModel", name := "untell", desc := "(I)Z" } : Jvm.MethodName) ({ cls := "EvenTownModel", name := "untell", desc := "(I)Z" } : Jvm.MethodName)) ∈ GW := gw_8 216 rfl rfl
theorem q8_217 : (Jvm.Cond.code ({ cls := "EvenTownModel", name := "untell", desc := "(I)Z" } : Jvm.MethodName) prog_14_method_99_code (2 : Nat) (Option.some Jvm.ClassFile.FieldType.boolean)) ∈ GW := gw_8 217 rfl rfl
theorem q8_218 : (Jvm.Cond.methodLink "EvenTownLaw" (111 : Nat) ({ cls := "EvenTownModel", name := "later", desc := "(I)I" } : Jvm.MethodName)) ∈ GW := gw_8 218 rfl rfl
theorem q8_219 : (Jvm.Cond.instanceMethod ({ cls := "EvenTownModel", name := "later", desc := "(I)I" } : Jvm.MethodName)) ∈ GW := gw_8 219 rfl rfl
theorem q8_220 : (Jvm.Cond.selects "EvenTownModel" ({ cls := "EvenTownModel", name := "later", desc := "(I)I" } : Jvm.MethodName) ({ cls := "EvenTownModel", name := "later", desc := "(I)I" } : Jvm.MethodName)) ∈ GW := gw_8 220 rfl rfl
theorem q8_221 : (Jvm.Cond.code ({ cls := "EvenTownModel", name := "later", desc := "(I)I" } : Jvm.MethodName) prog_14_method_100_code (2 : Nat) (Option.some Jvm.ClassFile.FieldType.int)) ∈ GW := gw_8 221 rfl rfl
theorem q8_222 : (Jvm.Cond.constant "EvenTownModel" (564 : Nat) (100000 : Int32)) ∈ GW := gw_8 222 rfl rfl
theorem q8_223 : (Jvm.Cond.methodLink "EvenTownLaw" (124 : Nat) ({ cls := "EvenTownModel", name := "image", desc := "(I)I" } : Jvm.MethodName)) ∈ GW := gw_8 223 rfl rfl
theorem q8_224 : (Jvm.Cond.instanceMethod ({ cls := "EvenTownModel", name := "image", desc := "(I)I" } : Jvm.MethodName)) ∈ GW := gw_8 224 rfl rfl
theorem q8_225 : (Jvm.Cond.selects "EvenTownModel" ({ cls := "EvenTownModel", name := "image", desc := "(I)I" } : Jvm.MethodName) ({ cls := "EvenTownModel", name := "image", desc := "(I)I" } : Jvm.MethodName)) ∈ GW := gw_8 225 rfl rfl
theorem q8_226 : (Jvm.Cond.code ({ cls := "EvenTownModel", name := "image", desc := "(I)I" } : Jvm.MethodName) prog_14_method_101_code (3 : Nat) (Option.some Jvm.ClassFile.FieldType.int)) ∈ GW := gw_8 226 rfl rfl
theorem q8_227 : (Jvm.Cond.methodLink "EvenTownLaw" (128 : Nat) ({ cls := "EvenTownModel", name := "back", desc := "(I)I" } : Jvm.MethodName)) ∈ GW := gw_8 227 rfl rfl
theorem q8_228 : (Jvm.Cond.instanceMethod ({ cls := "EvenTownModel", name := "back", desc := "(I)I" } : Jvm.MethodName)) ∈ GW := gw_8 228 rfl rfl
theorem q8_229 : (Jvm.Cond.selects "EvenTownModel" ({ cls := "EvenTownModel", name := "back", desc := "(I)I" } : Jvm.MethodName) ({ cls := "EvenTownModel", name := "back", desc := "(I)I" } : Jvm.MethodName)) ∈ GW := gw_8 229 rfl rfl
theorem q8_230 : (Jvm.Cond.code ({ cls := "EvenTownModel", name := "back", desc := "(I)I" } : Jvm.MethodName) prog_14_method_102_code (3 : Nat) (Option.some Jvm.ClassFile.FieldType.int)) ∈ GW := gw_8 230 rfl rfl
theorem q8_231 : (Jvm.Cond.methodLink "EvenTownLaw" (132 : Nat) ({ cls := "EvenTownModel", name := "about", desc := "(I)I" } : Jvm.MethodName)) ∈ GW := gw_8 231 rfl rfl
theorem q8_232 : (Jvm.Cond.instanceMethod ({ cls := "EvenTownModel", name := "about", desc := "(I)I" } : Jvm.MethodName)) ∈ GW := gw_8 232 rfl rfl
theorem q8_233 : (Jvm.Cond.selects "EvenTownModel" ({ cls := "EvenTownModel", name := "about", desc := "(I)I" } : Jvm.MethodName) ({ cls := "EvenTownModel", name := "about", desc := "(I)I" } : Jvm.MethodName)) ∈ GW := gw_8 233 rfl rfl
theorem q8_234 : (Jvm.Cond.code ({ cls := "EvenTownModel", name := "about", desc := "(I)I" } : Jvm.MethodName) prog_14_method_103_code (2 : Nat) (Option.some Jvm.ClassFile.FieldType.int)) ∈ GW := gw_8 234 rfl rfl
theorem q8_235 : (Jvm.Cond.methodLink "EvenTownLaw" (17 : Nat) ({ cls := "EvenTownModel", name := "feed", desc := "(IIIII)I" } : Jvm.MethodName)) ∈ GW := gw_8 235 rfl rfl
theorem q8_236 : (Jvm.Cond.instanceMethod ({ cls := "EvenTownModel", name := "feed", desc := "(IIIII)I" } : Jvm.MethodName)) ∈ GW := gw_8 236 rfl rfl
theorem q8_237 : (Jvm.Cond.selects "EvenTownModel" ({ cls := "EvenTownModel", name := "feed", desc := "(IIIII)I" } : Jvm.MethodName) ({ cls := "EvenTownModel", name := "feed", desc := "(IIIII)I" } : Jvm.MethodName)) ∈ GW := gw_8 237 rfl rfl
theorem q8_238 : (Jvm.Cond.code ({ cls := "EvenTownModel", name := "feed", desc := "(IIIII)I" } : Jvm.MethodName) prog_14_method_104_code (8 : Nat) (Option.some Jvm.ClassFile.FieldType.int)) ∈ GW := gw_8 238 rfl rfl
theorem q8_239 : (Jvm.Cond.methodLink "EvenTownLaw" (22 : Nat) ({ cls := "EvenTownModel", name := "end", desc := "(I)I" } : Jvm.MethodName)) ∈ GW := gw_8 239 rfl rfl
theorem q9_0 : (Jvm.Cond.instanceMethod ({ cls := "EvenTownModel", name := "end", desc := "(I)I" } : Jvm.MethodName)) ∈ GW := gw_9 0 rfl rfl
theorem q9_1 : (Jvm.Cond.selects "EvenTownModel" ({ cls := "EvenTownModel", name := "end", desc := "(I)I" } : Jvm.MethodName) ({ cls := "EvenTownModel", name := "end", desc := "(I)I" } : Jvm.MethodName)) ∈ GW := gw_9 1 rfl rfl
theorem q9_2 : (Jvm.Cond.code ({ cls := "EvenTownModel", name := "end", desc := "(I)I" } : Jvm.MethodName) prog_14_method_105_code (2 : Nat) (Option.some Jvm.ClassFile.FieldType.int)) ∈ GW := gw_9 2 rfl rfl
theorem q9_3 : (Jvm.Cond.fieldLink "java/lang/String" (9 : Nat) "java/lang/String" "value" "[B") ∈ GW := gw_9 3 rfl rfl
theorem q9_4 : (Jvm.Cond.fieldLink "java/lang/String" (15 : Nat) "java/lang/String" "coder" "B") ∈ GW := gw_9 4 rfl rfl
theorem qs1_0 : Cond.selects "EvenTown$Town" ⟨"EvenTown$Town", "layLeast", "()V"⟩ ⟨"EvenTown$Town", "layLeast", "()V"⟩ ∈ GW := gw_s1 (q := (⟨"EvenTown$Town", "layLeast", "()V"⟩, _)) 0 rfl rfl
theorem qs1_1 : Cond.selects "EvenTown$Town" ⟨"EvenTown$Town", "strokesRight", "(II)I"⟩ ⟨"EvenTown$Town", "strokesRight", "(II)I"⟩ ∈ GW := gw_s1 (q := (⟨"EvenTown$Town", "strokesRight", "(II)I"⟩, _)) 1 rfl rfl
theorem qs1_2 : Cond.selects "EvenTown$Town" ⟨"EvenTown$Town", "dogsAt", "(I)I"⟩ ⟨"EvenTown$Town", "dogsAt", "(I)I"⟩ ∈ GW := gw_s1 (q := (⟨"EvenTown$Town", "dogsAt", "(I)I"⟩, _)) 2 rfl rfl
theorem qs1_3 : Cond.selects "EvenTown$Tape" ⟨"EvenTown$Tape", "stepWord", "()V"⟩ ⟨"EvenTown$Tape", "stepWord", "()V"⟩ ∈ GW := gw_s1 (q := (⟨"EvenTown$Tape", "stepWord", "()V"⟩, _)) 3 rfl rfl
theorem qs1_4 : Cond.selects "EvenTown$Tape" ⟨"EvenTown$Tape", "stepNumber", "()V"⟩ ⟨"EvenTown$Tape", "stepNumber", "()V"⟩ ∈ GW := gw_s1 (q := (⟨"EvenTown$Tape", "stepNumber", "()V"⟩, _)) 4 rfl rfl
theorem qs1_5 : Cond.selects "EvenTown$TownReader" ⟨"EvenTown$TownReader", "readLine", "()Z"⟩ ⟨"EvenTown$TownReader", "readLine", "()Z"⟩ ∈ GW := gw_s1 (q := (⟨"EvenTown$TownReader", "readLine", "()Z"⟩, _)) 5 rfl rfl
theorem qs1_6 : Cond.selects "EvenTown$TownReader" ⟨"EvenTown$TownReader", "readPlace", "()Z"⟩ ⟨"EvenTown$TownReader", "readPlace", "()Z"⟩ ∈ GW := gw_s1 (q := (⟨"EvenTown$TownReader", "readPlace", "()Z"⟩, _)) 6 rfl rfl
theorem qs1_7 : Cond.selects "EvenTown$TownReader" ⟨"EvenTown$TownReader", "startLine", "(Z)Z"⟩ ⟨"EvenTown$TownReader", "startLine", "(Z)Z"⟩ ∈ GW := gw_s1 (q := (⟨"EvenTown$TownReader", "startLine", "(Z)Z"⟩, _)) 7 rfl rfl
theorem qs1_8 : Cond.selects "EvenTown$TownReader" ⟨"EvenTown$TownReader", "isNew", "(LEvenTown$Names;)Z"⟩ ⟨"EvenTown$TownReader", "isNew", "(LEvenTown$Names;)Z"⟩ ∈ GW := gw_s1 (q := (⟨"EvenTown$TownReader", "isNew", "(LEvenTown$Names;)Z"⟩, _)) 8 rfl rfl
theorem qs1_9 : Cond.selects "EvenTown$TownReader" ⟨"EvenTown$TownReader", "readWay", "()Z"⟩ ⟨"EvenTown$TownReader", "readWay", "()Z"⟩ ∈ GW := gw_s1 (q := (⟨"EvenTown$TownReader", "readWay", "()Z"⟩, _)) 9 rfl rfl
theorem qs1_10 : Cond.selects "EvenTown$TownReader" ⟨"EvenTown$TownReader", "isToldSecond", "(I)Z"⟩ ⟨"EvenTown$TownReader", "isToldSecond", "(I)Z"⟩ ∈ GW := gw_s1 (q := (⟨"EvenTown$TownReader", "isToldSecond", "(I)Z"⟩, _)) 10 rfl rfl
theorem qs1_11 : Cond.selects "EvenTown$TownReader" ⟨"EvenTown$TownReader", "readPerson", "()Z"⟩ ⟨"EvenTown$TownReader", "readPerson", "()Z"⟩ ∈ GW := gw_s1 (q := (⟨"EvenTown$TownReader", "readPerson", "()Z"⟩, _)) 11 rfl rfl
theorem qs1_12 : Cond.selects "EvenTown$TownReader" ⟨"EvenTown$TownReader", "readDog", "()Z"⟩ ⟨"EvenTown$TownReader", "readDog", "()Z"⟩ ∈ GW := gw_s1 (q := (⟨"EvenTown$TownReader", "readDog", "()Z"⟩, _)) 12 rfl rfl
theorem qs1_13 : Cond.selects "EvenTown$TownReader" ⟨"EvenTown$TownReader", "readErrand", "()Z"⟩ ⟨"EvenTown$TownReader", "readErrand", "()Z"⟩ ∈ GW := gw_s1 (q := (⟨"EvenTown$TownReader", "readErrand", "()Z"⟩, _)) 13 rfl rfl
theorem qs1_14 : Cond.selects "EvenTown$TownReader" ⟨"EvenTown$TownReader", "readHour", "()Z"⟩ ⟨"EvenTown$TownReader", "readHour", "()Z"⟩ ∈ GW := gw_s1 (q := (⟨"EvenTown$TownReader", "readHour", "()Z"⟩, _)) 14 rfl rfl
theorem qs1_15 : Cond.selects "EvenTown$TownReader" ⟨"EvenTown$TownReader", "readStrokes", "()Z"⟩ ⟨"EvenTown$TownReader", "readStrokes", "()Z"⟩ ∈ GW := gw_s1 (q := (⟨"EvenTown$TownReader", "readStrokes", "()Z"⟩, _)) 15 rfl rfl
theorem qs2_0 : Cond.selects "EvenTown$TownReader" ⟨"EvenTown$TownReader", "readRule", "()Z"⟩ ⟨"EvenTown$TownReader", "readRule", "()Z"⟩ ∈ GW := gw_s2 (q := (⟨"EvenTown$TownReader", "readRule", "()Z"⟩, _)) 0 rfl rfl
theorem qs2_1 : Cond.selects "EvenTown$Rule" ⟨"EvenTown$Rule", "readEither", "(LEvenTown$Tape;I)Z"⟩ ⟨"EvenTown$Rule", "readEither", "(LEvenTown$Tape;I)Z"⟩ ∈ GW := gw_s2 (q := (⟨"EvenTown$Rule", "readEither", "(LEvenTown$Tape;I)Z"⟩, _)) 1 rfl rfl
theorem qs2_2 : Cond.selects "EvenTown$Rule" ⟨"EvenTown$Rule", "readBoth", "(LEvenTown$Tape;I)Z"⟩ ⟨"EvenTown$Rule", "readBoth", "(LEvenTown$Tape;I)Z"⟩ ∈ GW := gw_s2 (q := (⟨"EvenTown$Rule", "readBoth", "(LEvenTown$Tape;I)Z"⟩, _)) 2 rfl rfl
theorem qs2_3 : Cond.selects "EvenTown$Rule" ⟨"EvenTown$Rule", "readOne", "(LEvenTown$Tape;I)Z"⟩ ⟨"EvenTown$Rule", "readOne", "(LEvenTown$Tape;I)Z"⟩ ∈ GW := gw_s2 (q := (⟨"EvenTown$Rule", "readOne", "(LEvenTown$Tape;I)Z"⟩, _)) 3 rfl rfl
theorem qs2_4 : Cond.selects "EvenTown$Rule" ⟨"EvenTown$Rule", "readRelation", "(LEvenTown$Tape;I)Z"⟩ ⟨"EvenTown$Rule", "readRelation", "(LEvenTown$Tape;I)Z"⟩ ∈ GW := gw_s2 (q := (⟨"EvenTown$Rule", "readRelation", "(LEvenTown$Tape;I)Z"⟩, _)) 4 rfl rfl
theorem qs2_5 : Cond.selects "EvenTown$Rule" ⟨"EvenTown$Rule", "readSum", "(LEvenTown$Tape;I)Z"⟩ ⟨"EvenTown$Rule", "readSum", "(LEvenTown$Tape;I)Z"⟩ ∈ GW := gw_s2 (q := (⟨"EvenTown$Rule", "readSum", "(LEvenTown$Tape;I)Z"⟩, _)) 5 rfl rfl
theorem qs2_6 : Cond.selects "EvenTown$Rule" ⟨"EvenTown$Rule", "readTerm", "(LEvenTown$Tape;I)Z"⟩ ⟨"EvenTown$Rule", "readTerm", "(LEvenTown$Tape;I)Z"⟩ ∈ GW := gw_s2 (q := (⟨"EvenTown$Rule", "readTerm", "(LEvenTown$Tape;I)Z"⟩, _)) 6 rfl rfl
theorem qs2_7 : Cond.selects "EvenTown$Rule" ⟨"EvenTown$Rule", "readUnit", "(LEvenTown$Tape;I)Z"⟩ ⟨"EvenTown$Rule", "readUnit", "(LEvenTown$Tape;I)Z"⟩ ∈ GW := gw_s2 (q := (⟨"EvenTown$Rule", "readUnit", "(LEvenTown$Tape;I)Z"⟩, _)) 7 rfl rfl
theorem qs2_8 : Cond.selects "EvenTown$Rule" ⟨"EvenTown$Rule", "put", "(I)Z"⟩ ⟨"EvenTown$Rule", "put", "(I)Z"⟩ ∈ GW := gw_s2 (q := (⟨"EvenTown$Rule", "put", "(I)Z"⟩, _)) 8 rfl rfl
theorem qs2_9 : Cond.selects "EvenTown$Plan" ⟨"EvenTown$Plan", "stayFrom", "(III)V"⟩ ⟨"EvenTown$Plan", "stayFrom", "(III)V"⟩ ∈ GW := gw_s2 (q := (⟨"EvenTown$Plan", "stayFrom", "(III)V"⟩, _)) 9 rfl rfl
theorem qs2_10 : Cond.selects "EvenTown$Plan" ⟨"EvenTown$Plan", "readPlaces", "(LEvenTown$Tape;LEvenTown$Town;I)Z"⟩ ⟨"EvenTown$Plan", "readPlaces", "(LEvenTown$Tape;LEvenTown$Town;I)Z"⟩ ∈ GW := gw_s2 (q := (⟨"EvenTown$Plan", "readPlaces", "(LEvenTown$Tape;LEvenTown$Town;I)Z"⟩, _)) 10 rfl rfl
theorem qs2_11 : Cond.selects "EvenTown$Plan" ⟨"EvenTown$Plan", "firstLate", "(LEvenTown$Town;I)I"⟩ ⟨"EvenTown$Plan", "firstLate", "(LEvenTown$Town;I)I"⟩ ∈ GW := gw_s2 (q := (⟨"EvenTown$Plan", "firstLate", "(LEvenTown$Town;I)I"⟩, _)) 11 rfl rfl
theorem qs2_12 : Cond.selects "EvenTown$Plan" ⟨"EvenTown$Plan", "note", "(III)V"⟩ ⟨"EvenTown$Plan", "note", "(III)V"⟩ ∈ GW := gw_s2 (q := (⟨"EvenTown$Plan", "note", "(III)V"⟩, _)) 12 rfl rfl
theorem qs2_13 : Cond.selects "EvenTown$Plan" ⟨"EvenTown$Plan", "firstWrong", "(LEvenTown$Town;I)I"⟩ ⟨"EvenTown$Plan", "firstWrong", "(LEvenTown$Town;I)I"⟩ ∈ GW := gw_s2 (q := (⟨"EvenTown$Plan", "firstWrong", "(LEvenTown$Town;I)I"⟩, _)) 13 rfl rfl
theorem qs2_14 : Cond.selects "EvenTown$Plan" ⟨"EvenTown$Plan", "firstUndone", "(LEvenTown$Town;I)I"⟩ ⟨"EvenTown$Plan", "firstUndone", "(LEvenTown$Town;I)I"⟩ ∈ GW := gw_s2 (q := (⟨"EvenTown$Plan", "firstUndone", "(LEvenTown$Town;I)I"⟩, _)) 14 rfl rfl
theorem qs2_15 : Cond.selects "EvenTown$Day" ⟨"EvenTown$Day", "errandsCanBe", "()Z"⟩ ⟨"EvenTown$Day", "errandsCanBe", "()Z"⟩ ∈ GW := gw_s2 (q := (⟨"EvenTown$Day", "errandsCanBe", "()Z"⟩, _)) 15 rfl rfl
theorem qs3_0 : Cond.selects "EvenTown$Day" ⟨"EvenTown$Day", "layStates", "()V"⟩ ⟨"EvenTown$Day", "layStates", "()V"⟩ ∈ GW := gw_s3 (q := (⟨"EvenTown$Day", "layStates", "()V"⟩, _)) 0 rfl rfl
theorem qs3_1 : Cond.selects "EvenTown$Day" ⟨"EvenTown$Day", "walkOf", "(I)I"⟩ ⟨"EvenTown$Day", "walkOf", "(I)I"⟩ ∈ GW := gw_s3 (q := (⟨"EvenTown$Day", "walkOf", "(I)I"⟩, _)) 1 rfl rfl
theorem qs3_2 : Cond.selects "EvenTown$Day" ⟨"EvenTown$Day", "layGains", "(II)V"⟩ ⟨"EvenTown$Day", "layGains", "(II)V"⟩ ∈ GW := gw_s3 (q := (⟨"EvenTown$Day", "layGains", "(II)V"⟩, _)) 2 rfl rfl
theorem qs3_3 : Cond.selects "EvenTown$Day" ⟨"EvenTown$Day", "gainOf", "(IIII)I"⟩ ⟨"EvenTown$Day", "gainOf", "(IIII)I"⟩ ∈ GW := gw_s3 (q := (⟨"EvenTown$Day", "gainOf", "(IIII)I"⟩, _)) 3 rfl rfl
theorem qs3_4 : Cond.selects "EvenTown$Days" ⟨"EvenTown$Days", "layLawful", "(LEvenTown$Day;)V"⟩ ⟨"EvenTown$Days", "layLawful", "(LEvenTown$Day;)V"⟩ ∈ GW := gw_s3 (q := (⟨"EvenTown$Days", "layLawful", "(LEvenTown$Day;)V"⟩, _)) 4 rfl rfl
theorem qs3_5 : Cond.selects "EvenTown$Days" ⟨"EvenTown$Days", "layTable", "(LEvenTown$Day;I)V"⟩ ⟨"EvenTown$Days", "layTable", "(LEvenTown$Day;I)V"⟩ ∈ GW := gw_s3 (q := (⟨"EvenTown$Days", "layTable", "(LEvenTown$Day;I)V"⟩, _)) 5 rfl rfl
theorem qs3_6 : Cond.selects "EvenTown$Days" ⟨"EvenTown$Days", "keepLawful", "(LEvenTown$Day;I)V"⟩ ⟨"EvenTown$Days", "keepLawful", "(LEvenTown$Day;I)V"⟩ ∈ GW := gw_s3 (q := (⟨"EvenTown$Days", "keepLawful", "(LEvenTown$Day;I)V"⟩, _)) 6 rfl rfl
theorem qs3_7 : Cond.selects "EvenTown$Days" ⟨"EvenTown$Days", "layWeights", "(LEvenTown$Day;II)V"⟩ ⟨"EvenTown$Days", "layWeights", "(LEvenTown$Day;II)V"⟩ ∈ GW := gw_s3 (q := (⟨"EvenTown$Days", "layWeights", "(LEvenTown$Day;II)V"⟩, _)) 7 rfl rfl
theorem qs3_8 : Cond.selects "EvenTown$Days" ⟨"EvenTown$Days", "goBack", "(LEvenTown$Day;I)V"⟩ ⟨"EvenTown$Days", "goBack", "(LEvenTown$Day;I)V"⟩ ∈ GW := gw_s3 (q := (⟨"EvenTown$Days", "goBack", "(LEvenTown$Day;I)V"⟩, _)) 8 rfl rfl
theorem qs3_9 : Cond.selects "EvenTown$Days" ⟨"EvenTown$Days", "bestOfLine", "(II)I"⟩ ⟨"EvenTown$Days", "bestOfLine", "(II)I"⟩ ∈ GW := gw_s3 (q := (⟨"EvenTown$Days", "bestOfLine", "(II)I"⟩, _)) 9 rfl rfl
theorem qs3_10 : Cond.selects "EvenTown$Days" ⟨"EvenTown$Days", "startAtHome", "(LEvenTown$Town;)V"⟩ ⟨"EvenTown$Days", "startAtHome", "(LEvenTown$Town;)V"⟩ ∈ GW := gw_s3 (q := (⟨"EvenTown$Days", "startAtHome", "(LEvenTown$Town;)V"⟩, _)) 10 rfl rfl
theorem qs3_11 : Cond.selects "EvenTown$Days" ⟨"EvenTown$Days", "stepTo", "(LEvenTown$Day;II)I"⟩ ⟨"EvenTown$Days", "stepTo", "(LEvenTown$Day;II)I"⟩ ∈ GW := gw_s3 (q := (⟨"EvenTown$Days", "stepTo", "(LEvenTown$Day;II)I"⟩, _)) 11 rfl rfl
theorem qs3_12 : Cond.selects "EvenTown$Days" ⟨"EvenTown$Days", "firstOf", "(LEvenTown$Day;II)I"⟩ ⟨"EvenTown$Days", "firstOf", "(LEvenTown$Day;II)I"⟩ ∈ GW := gw_s3 (q := (⟨"EvenTown$Days", "firstOf", "(LEvenTown$Day;II)I"⟩, _)) 12 rfl rfl
theorem qs3_13 : Cond.selects "EvenTown$Answers" ⟨"EvenTown$Answers", "findAlive", "(LEvenTown$Counts;J)V"⟩ ⟨"EvenTown$Answers", "findAlive", "(LEvenTown$Counts;J)V"⟩ ∈ GW := gw_s3 (q := (⟨"EvenTown$Answers", "findAlive", "(LEvenTown$Counts;J)V"⟩, _)) 13 rfl rfl
theorem qs3_14 : Cond.selects "EvenTown$Days" ⟨"EvenTown$Days", "goAll", "(LEvenTown$Day;)V"⟩ ⟨"EvenTown$Days", "goAll", "(LEvenTown$Day;)V"⟩ ∈ GW := gw_s3 (q := (⟨"EvenTown$Days", "goAll", "(LEvenTown$Day;)V"⟩, _)) 14 rfl rfl
theorem qs3_15 : Cond.selects "EvenTownModel" ⟨"EvenTownModel", "clearBank", "()V"⟩ ⟨"EvenTownModel", "clearBank", "()V"⟩ ∈ GW := gw_s3 (q := (⟨"EvenTownModel", "clearBank", "()V"⟩, _)) 15 rfl rfl
theorem qs4_0 : Cond.selects "EvenTownModel" ⟨"EvenTownModel", "begin", "()V"⟩ ⟨"EvenTownModel", "begin", "()V"⟩ ∈ GW := gw_s4 (q := (⟨"EvenTownModel", "begin", "()V"⟩, _)) 0 rfl rfl
theorem qs4_1 : Cond.selects "EvenTownModel" ⟨"EvenTownModel", "personMany", "()I"⟩ ⟨"EvenTownModel", "personMany", "()I"⟩ ∈ GW := gw_s4 (q := (⟨"EvenTownModel", "personMany", "()I"⟩, _)) 1 rfl rfl
theorem qs4_2 : Cond.selects "EvenTownModel" ⟨"EvenTownModel", "stayHome", "(I)V"⟩ ⟨"EvenTownModel", "stayHome", "(I)V"⟩ ∈ GW := gw_s4 (q := (⟨"EvenTownModel", "stayHome", "(I)V"⟩, _)) 2 rfl rfl
theorem qs4_3 : Cond.selects "EvenTownModel" ⟨"EvenTownModel", "takeTape", "()V"⟩ ⟨"EvenTownModel", "takeTape", "()V"⟩ ∈ GW := gw_s4 (q := (⟨"EvenTownModel", "takeTape", "()V"⟩, _)) 3 rfl rfl
theorem qs4_4 : Cond.selects "EvenTownModel" ⟨"EvenTownModel", "goOn", "()V"⟩ ⟨"EvenTownModel", "goOn", "()V"⟩ ∈ GW := gw_s4 (q := (⟨"EvenTownModel", "goOn", "()V"⟩, _)) 4 rfl rfl
theorem qs4_5 : Cond.selects "EvenTownModel" ⟨"EvenTownModel", "sign", "(I)I"⟩ ⟨"EvenTownModel", "sign", "(I)I"⟩ ∈ GW := gw_s4 (q := (⟨"EvenTownModel", "sign", "(I)I"⟩, _)) 5 rfl rfl
theorem qs4_6 : Cond.selects "EvenTownModel" ⟨"EvenTownModel", "isGood", "()Z"⟩ ⟨"EvenTownModel", "isGood", "()Z"⟩ ∈ GW := gw_s4 (q := (⟨"EvenTownModel", "isGood", "()Z"⟩, _)) 6 rfl rfl
theorem qs4_7 : Cond.selects "EvenTownModel" ⟨"EvenTownModel", "readLine", "()V"⟩ ⟨"EvenTownModel", "readLine", "()V"⟩ ∈ GW := gw_s4 (q := (⟨"EvenTownModel", "readLine", "()V"⟩, _)) 7 rfl rfl
theorem qs4_8 : Cond.selects "EvenTownModel" ⟨"EvenTownModel", "isFull", "()Z"⟩ ⟨"EvenTownModel", "isFull", "()Z"⟩ ∈ GW := gw_s4 (q := (⟨"EvenTownModel", "isFull", "()Z"⟩, _)) 8 rfl rfl
theorem qs4_9 : Cond.selects "EvenTownModel" ⟨"EvenTownModel", "isWord", "(J)Z"⟩ ⟨"EvenTownModel", "isWord", "(J)Z"⟩ ∈ GW := gw_s4 (q := (⟨"EvenTownModel", "isWord", "(J)Z"⟩, _)) 9 rfl rfl
theorem qs4_10 : Cond.selects "EvenTownModel" ⟨"EvenTownModel", "misplaced", "()V"⟩ ⟨"EvenTownModel", "misplaced", "()V"⟩ ∈ GW := gw_s4 (q := (⟨"EvenTownModel", "misplaced", "()V"⟩, _)) 10 rfl rfl
theorem qs4_11 : Cond.selects "EvenTownModel" ⟨"EvenTownModel", "fails", "(II)V"⟩ ⟨"EvenTownModel", "fails", "(II)V"⟩ ∈ GW := gw_s4 (q := (⟨"EvenTownModel", "fails", "(II)V"⟩, _)) 11 rfl rfl
theorem qs4_12 : Cond.selects "EvenTownModel" ⟨"EvenTownModel", "readPlace", "()V"⟩ ⟨"EvenTownModel", "readPlace", "()V"⟩ ∈ GW := gw_s4 (q := (⟨"EvenTownModel", "readPlace", "()V"⟩, _)) 12 rfl rfl
theorem qs4_13 : Cond.selects "EvenTownModel" ⟨"EvenTownModel", "placeHere", "()I"⟩ ⟨"EvenTownModel", "placeHere", "()I"⟩ ∈ GW := gw_s4 (q := (⟨"EvenTownModel", "placeHere", "()I"⟩, _)) 13 rfl rfl
theorem qs4_14 : Cond.selects "EvenTownModel" ⟨"EvenTownModel", "here", "([JII)I"⟩ ⟨"EvenTownModel", "here", "([JII)I"⟩ ∈ GW := gw_s4 (q := (⟨"EvenTownModel", "here", "([JII)I"⟩, _)) 14 rfl rfl
theorem qs4_15 : Cond.selects "EvenTownModel" ⟨"EvenTownModel", "fresh", "(Z)J"⟩ ⟨"EvenTownModel", "fresh", "(Z)J"⟩ ∈ GW := gw_s4 (q := (⟨"EvenTownModel", "fresh", "(Z)J"⟩, _)) 15 rfl rfl
theorem qs5_0 : Cond.selects "EvenTownModel" ⟨"EvenTownModel", "readWay", "()V"⟩ ⟨"EvenTownModel", "readWay", "()V"⟩ ∈ GW := gw_s5 (q := (⟨"EvenTownModel", "readWay", "()V"⟩, _)) 0 rfl rfl
theorem qs5_1 : Cond.selects "EvenTownModel" ⟨"EvenTownModel", "told", "(I)I"⟩ ⟨"EvenTownModel", "told", "(I)I"⟩ ∈ GW := gw_s5 (q := (⟨"EvenTownModel", "told", "(I)I"⟩, _)) 1 rfl rfl
theorem qs5_2 : Cond.selects "EvenTownModel" ⟨"EvenTownModel", "after", "(JII)I"⟩ ⟨"EvenTownModel", "after", "(JII)I"⟩ ∈ GW := gw_s5 (q := (⟨"EvenTownModel", "after", "(JII)I"⟩, _)) 2 rfl rfl
theorem qs5_3 : Cond.selects "EvenTownModel" ⟨"EvenTownModel", "must", "(Z)V"⟩ ⟨"EvenTownModel", "must", "(Z)V"⟩ ∈ GW := gw_s5 (q := (⟨"EvenTownModel", "must", "(Z)V"⟩, _)) 3 rfl rfl
theorem qs5_4 : Cond.selects "EvenTownModel" ⟨"EvenTownModel", "numeral", "(II)I"⟩ ⟨"EvenTownModel", "numeral", "(II)I"⟩ ∈ GW := gw_s5 (q := (⟨"EvenTownModel", "numeral", "(II)I"⟩, _)) 4 rfl rfl
theorem qs5_5 : Cond.selects "EvenTownModel" ⟨"EvenTownModel", "readPerson", "()V"⟩ ⟨"EvenTownModel", "readPerson", "()V"⟩ ∈ GW := gw_s5 (q := (⟨"EvenTownModel", "readPerson", "()V"⟩, _)) 5 rfl rfl
theorem qs5_6 : Cond.selects "EvenTownModel" ⟨"EvenTownModel", "being", "()J"⟩ ⟨"EvenTownModel", "being", "()J"⟩ ∈ GW := gw_s5 (q := (⟨"EvenTownModel", "being", "()J"⟩, _)) 6 rfl rfl
theorem qs5_7 : Cond.selects "EvenTownModel" ⟨"EvenTownModel", "personHere", "()I"⟩ ⟨"EvenTownModel", "personHere", "()I"⟩ ∈ GW := gw_s5 (q := (⟨"EvenTownModel", "personHere", "()I"⟩, _)) 7 rfl rfl
theorem qs5_8 : Cond.selects "EvenTownModel" ⟨"EvenTownModel", "placeAt", "()I"⟩ ⟨"EvenTownModel", "placeAt", "()I"⟩ ∈ GW := gw_s5 (q := (⟨"EvenTownModel", "placeAt", "()I"⟩, _)) 8 rfl rfl
theorem qs5_9 : Cond.selects "EvenTownModel" ⟨"EvenTownModel", "readDog", "()V"⟩ ⟨"EvenTownModel", "readDog", "()V"⟩ ∈ GW := gw_s5 (q := (⟨"EvenTownModel", "readDog", "()V"⟩, _)) 9 rfl rfl
theorem qs5_10 : Cond.selects "EvenTownModel" ⟨"EvenTownModel", "readErrand", "()V"⟩ ⟨"EvenTownModel", "readErrand", "()V"⟩ ∈ GW := gw_s5 (q := (⟨"EvenTownModel", "readErrand", "()V"⟩, _)) 10 rfl rfl
theorem qs5_11 : Cond.selects "EvenTownModel" ⟨"EvenTownModel", "readRule", "()V"⟩ ⟨"EvenTownModel", "readRule", "()V"⟩ ∈ GW := gw_s5 (q := (⟨"EvenTownModel", "readRule", "()V"⟩, _)) 11 rfl rfl
theorem qs5_12 : Cond.selects "EvenTownModel" ⟨"EvenTownModel", "e", "()V"⟩ ⟨"EvenTownModel", "e", "()V"⟩ ∈ GW := gw_s5 (q := (⟨"EvenTownModel", "e", "()V"⟩, _)) 12 rfl rfl
theorem qs5_13 : Cond.selects "EvenTownModel" ⟨"EvenTownModel", "pushE", "(II)V"⟩ ⟨"EvenTownModel", "pushE", "(II)V"⟩ ∈ GW := gw_s5 (q := (⟨"EvenTownModel", "pushE", "(II)V"⟩, _)) 13 rfl rfl
theorem qs5_14 : Cond.selects "EvenTownModel" ⟨"EvenTownModel", "unit", "()Z"⟩ ⟨"EvenTownModel", "unit", "()Z"⟩ ∈ GW := gw_s5 (q := (⟨"EvenTownModel", "unit", "()Z"⟩, _)) 14 rfl rfl
theorem qs5_15 : Cond.selects "EvenTownModel" ⟨"EvenTownModel", "is", "(I)Z"⟩ ⟨"EvenTownModel", "is", "(I)Z"⟩ ∈ GW := gw_s5 (q := (⟨"EvenTownModel", "is", "(I)Z"⟩, _)) 15 rfl rfl
theorem qs6_0 : Cond.selects "EvenTownModel" ⟨"EvenTownModel", "wordHere", "()I"⟩ ⟨"EvenTownModel", "wordHere", "()I"⟩ ∈ GW := gw_s6 (q := (⟨"EvenTownModel", "wordHere", "()I"⟩, _)) 0 rfl rfl
theorem qs6_1 : Cond.selects "EvenTownModel" ⟨"EvenTownModel", "emit", "(II)V"⟩ ⟨"EvenTownModel", "emit", "(II)V"⟩ ∈ GW := gw_s6 (q := (⟨"EvenTownModel", "emit", "(II)V"⟩, _)) 1 rfl rfl
theorem qs6_2 : Cond.selects "EvenTownModel" ⟨"EvenTownModel", "behindUnit", "()Z"⟩ ⟨"EvenTownModel", "behindUnit", "()Z"⟩ ∈ GW := gw_s6 (q := (⟨"EvenTownModel", "behindUnit", "()Z"⟩, _)) 2 rfl rfl
theorem qs6_3 : Cond.selects "EvenTownModel" ⟨"EvenTownModel", "rankHere", "()I"⟩ ⟨"EvenTownModel", "rankHere", "()I"⟩ ∈ GW := gw_s6 (q := (⟨"EvenTownModel", "rankHere", "()I"⟩, _)) 3 rfl rfl
theorem qs6_4 : Cond.selects "EvenTownModel" ⟨"EvenTownModel", "isCompared", "()Z"⟩ ⟨"EvenTownModel", "isCompared", "()Z"⟩ ∈ GW := gw_s6 (q := (⟨"EvenTownModel", "isCompared", "()Z"⟩, _)) 4 rfl rfl
theorem qs6_5 : Cond.selects "EvenTownModel" ⟨"EvenTownModel", "isPlace", "(I)Z"⟩ ⟨"EvenTownModel", "isPlace", "(I)Z"⟩ ∈ GW := gw_s6 (q := (⟨"EvenTownModel", "isPlace", "(I)Z"⟩, _)) 5 rfl rfl
theorem qs6_6 : Cond.selects "EvenTownModel" ⟨"EvenTownModel", "placeMany", "()I"⟩ ⟨"EvenTownModel", "placeMany", "()I"⟩ ∈ GW := gw_s6 (q := (⟨"EvenTownModel", "placeMany", "()I"⟩, _)) 6 rfl rfl
theorem qs6_7 : Cond.selects "EvenTownModel" ⟨"EvenTownModel", "plain", "()V"⟩ ⟨"EvenTownModel", "plain", "()V"⟩ ∈ GW := gw_s6 (q := (⟨"EvenTownModel", "plain", "()V"⟩, _)) 7 rfl rfl
theorem qs6_8 : Cond.selects "EvenTownModel" ⟨"EvenTownModel", "layTown", "()V"⟩ ⟨"EvenTownModel", "layTown", "()V"⟩ ∈ GW := gw_s6 (q := (⟨"EvenTownModel", "layTown", "()V"⟩, _)) 8 rfl rfl
theorem qs6_9 : Cond.selects "EvenTownModel" ⟨"EvenTownModel", "isRight", "(III)Z"⟩ ⟨"EvenTownModel", "isRight", "(III)Z"⟩ ∈ GW := gw_s6 (q := (⟨"EvenTownModel", "isRight", "(III)Z"⟩, _)) 9 rfl rfl
theorem qs6_10 : Cond.selects "EvenTownModel" ⟨"EvenTownModel", "worthOf", "(IIII)I"⟩ ⟨"EvenTownModel", "worthOf", "(IIII)I"⟩ ∈ GW := gw_s6 (q := (⟨"EvenTownModel", "worthOf", "(IIII)I"⟩, _)) 10 rfl rfl
theorem qs6_11 : Cond.selects "EvenTownModel" ⟨"EvenTownModel", "findBest", "(I)I"⟩ ⟨"EvenTownModel", "findBest", "(I)I"⟩ ∈ GW := gw_s6 (q := (⟨"EvenTownModel", "findBest", "(I)I"⟩, _)) 11 rfl rfl
theorem qs6_12 : Cond.selects "EvenTownModel" ⟨"EvenTownModel", "stateMany", "()I"⟩ ⟨"EvenTownModel", "stateMany", "()I"⟩ ∈ GW := gw_s6 (q := (⟨"EvenTownModel", "stateMany", "()I"⟩, _)) 12 rfl rfl
theorem qs6_13 : Cond.selects "EvenTownModel" ⟨"EvenTownModel", "power", "(I)I"⟩ ⟨"EvenTownModel", "power", "(I)I"⟩ ∈ GW := gw_s6 (q := (⟨"EvenTownModel", "power", "(I)I"⟩, _)) 13 rfl rfl
theorem qs6_14 : Cond.selects "EvenTownModel" ⟨"EvenTownModel", "layState", "(I)V"⟩ ⟨"EvenTownModel", "layState", "(I)V"⟩ ∈ GW := gw_s6 (q := (⟨"EvenTownModel", "layState", "(I)V"⟩, _)) 14 rfl rfl
theorem qs6_15 : Cond.selects "EvenTownModel" ⟨"EvenTownModel", "isLawful", "(I)Z"⟩ ⟨"EvenTownModel", "isLawful", "(I)Z"⟩ ∈ GW := gw_s6 (q := (⟨"EvenTownModel", "isLawful", "(I)Z"⟩, _)) 15 rfl rfl
theorem qs7_0 : Cond.selects "EvenTownModel" ⟨"EvenTownModel", "worthNow", "(I)I"⟩ ⟨"EvenTownModel", "worthNow", "(I)I"⟩ ∈ GW := gw_s7 (q := (⟨"EvenTownModel", "worthNow", "(I)I"⟩, _)) 0 rfl rfl
theorem qs7_1 : Cond.selects "EvenTownModel" ⟨"EvenTownModel", "isDone", "(II)Z"⟩ ⟨"EvenTownModel", "isDone", "(II)Z"⟩ ∈ GW := gw_s7 (q := (⟨"EvenTownModel", "isDone", "(II)Z"⟩, _)) 1 rfl rfl
theorem qs7_2 : Cond.selects "EvenTownModel" ⟨"EvenTownModel", "isAway", "(I)Z"⟩ ⟨"EvenTownModel", "isAway", "(I)Z"⟩ ∈ GW := gw_s7 (q := (⟨"EvenTownModel", "isAway", "(I)Z"⟩, _)) 2 rfl rfl
theorem qs7_3 : Cond.selects "EvenTownModel" ⟨"EvenTownModel", "isCompanion", "(II)Z"⟩ ⟨"EvenTownModel", "isCompanion", "(II)Z"⟩ ∈ GW := gw_s7 (q := (⟨"EvenTownModel", "isCompanion", "(II)Z"⟩, _)) 3 rfl rfl
theorem qs7_4 : Cond.selects "EvenTownModel" ⟨"EvenTownModel", "stepBack", "(I)V"⟩ ⟨"EvenTownModel", "stepBack", "(I)V"⟩ ∈ GW := gw_s7 (q := (⟨"EvenTownModel", "stepBack", "(I)V"⟩, _)) 4 rfl rfl
theorem qs7_5 : Cond.selects "EvenTownModel" ⟨"EvenTownModel", "gets", "(II)Z"⟩ ⟨"EvenTownModel", "gets", "(II)Z"⟩ ∈ GW := gw_s7 (q := (⟨"EvenTownModel", "gets", "(II)Z"⟩, _)) 5 rfl rfl
theorem qs7_6 : Cond.selects "EvenTownModel" ⟨"EvenTownModel", "homeState", "()I"⟩ ⟨"EvenTownModel", "homeState", "()I"⟩ ∈ GW := gw_s7 (q := (⟨"EvenTownModel", "homeState", "()I"⟩, _)) 6 rfl rfl
theorem qs7_7 : Cond.selects "EvenTownModel" ⟨"EvenTownModel", "isPerson", "(I)Z"⟩ ⟨"EvenTownModel", "isPerson", "(I)Z"⟩ ∈ GW := gw_s7 (q := (⟨"EvenTownModel", "isPerson", "(I)Z"⟩, _)) 7 rfl rfl
theorem qs7_8 : Cond.selects "EvenTownModel" ⟨"EvenTownModel", "nextBest", "(II)I"⟩ ⟨"EvenTownModel", "nextBest", "(II)I"⟩ ∈ GW := gw_s7 (q := (⟨"EvenTownModel", "nextBest", "(II)I"⟩, _)) 8 rfl rfl
theorem qs7_9 : Cond.selects "EvenTownModel" ⟨"EvenTownModel", "walked", "()I"⟩ ⟨"EvenTownModel", "walked", "()I"⟩ ∈ GW := gw_s7 (q := (⟨"EvenTownModel", "walked", "()I"⟩, _)) 9 rfl rfl
theorem qs7_10 : Cond.selects "EvenTownModel" ⟨"EvenTownModel", "findAll", "(ZI)V"⟩ ⟨"EvenTownModel", "findAll", "(ZI)V"⟩ ∈ GW := gw_s7 (q := (⟨"EvenTownModel", "findAll", "(ZI)V"⟩, _)) 10 rfl rfl
theorem qs7_11 : Cond.selects "EvenTownModel" ⟨"EvenTownModel", "stepAll", "(I)V"⟩ ⟨"EvenTownModel", "stepAll", "(I)V"⟩ ∈ GW := gw_s7 (q := (⟨"EvenTownModel", "stepAll", "(I)V"⟩, _)) 11 rfl rfl
theorem qs7_12 : Cond.selects "EvenTownModel" ⟨"EvenTownModel", "agrees", "(II)Z"⟩ ⟨"EvenTownModel", "agrees", "(II)Z"⟩ ∈ GW := gw_s7 (q := (⟨"EvenTownModel", "agrees", "(II)Z"⟩, _)) 12 rfl rfl
theorem qs7_13 : Cond.selects "EvenTownModel" ⟨"EvenTownModel", "isCounted", "(II)Z"⟩ ⟨"EvenTownModel", "isCounted", "(II)Z"⟩ ∈ GW := gw_s7 (q := (⟨"EvenTownModel", "isCounted", "(II)Z"⟩, _)) 13 rfl rfl
theorem qs7_14 : Cond.selects "EvenTownModel" ⟨"EvenTownModel", "canBe", "(II)Z"⟩ ⟨"EvenTownModel", "canBe", "(II)Z"⟩ ∈ GW := gw_s7 (q := (⟨"EvenTownModel", "canBe", "(II)Z"⟩, _)) 14 rfl rfl
theorem qs7_15 : Cond.selects "EvenTownModel" ⟨"EvenTownModel", "readPlan", "()V"⟩ ⟨"EvenTownModel", "readPlan", "()V"⟩ ∈ GW := gw_s7 (q := (⟨"EvenTownModel", "readPlan", "()V"⟩, _)) 15 rfl rfl
theorem qs8_0 : Cond.selects "EvenTownModel" ⟨"EvenTownModel", "judgePlan", "()V"⟩ ⟨"EvenTownModel", "judgePlan", "()V"⟩ ∈ GW := gw_s8 (q := (⟨"EvenTownModel", "judgePlan", "()V"⟩, _)) 0 rfl rfl
theorem qs8_1 : Cond.selects "EvenTownModel" ⟨"EvenTownModel", "layPlanned", "(I)V"⟩ ⟨"EvenTownModel", "layPlanned", "(I)V"⟩ ∈ GW := gw_s8 (q := (⟨"EvenTownModel", "layPlanned", "(I)V"⟩, _)) 1 rfl rfl
theorem qs8_2 : Cond.selects "EvenTownModel" ⟨"EvenTownModel", "wrongIs", "(III)V"⟩ ⟨"EvenTownModel", "wrongIs", "(III)V"⟩ ∈ GW := gw_s8 (q := (⟨"EvenTownModel", "wrongIs", "(III)V"⟩, _)) 2 rfl rfl
theorem qs8_3 : Cond.selects "EvenTownModel" ⟨"EvenTownModel", "layStands", "()V"⟩ ⟨"EvenTownModel", "layStands", "()V"⟩ ∈ GW := gw_s8 (q := (⟨"EvenTownModel", "layStands", "()V"⟩, _)) 3 rfl rfl
theorem inG0 : ∀ w ∈ u_ws RX0 TX0 15, w ∈ GW := by
  intro w hw
  obtain ⟨k, hk, rfl⟩ := List.mem_map.mp hw
  have hk := List.mem_range.mp hk
  exact match k, hk with
    | 0, _ => q2_236
    | 1, _ => q2_238
    | 2, _ => q3_0
    | 3, _ => q3_2
    | 4, _ => q3_4
    | 5, _ => q3_6
    | 6, _ => q3_8
    | 7, _ => q3_10
    | 8, _ => q3_12
    | 9, _ => q3_14
    | 10, _ => q3_16
    | 11, _ => q3_18
    | 12, _ => q3_20
    | 13, _ => q3_22
    | 14, _ => q3_24
    | k + 15, h => absurd h (by omega)
theorem inG1 : ∀ w ∈ u_ws RX1 TX1 7, w ∈ GW := by
  intro w hw
  obtain ⟨k, hk, rfl⟩ := List.mem_map.mp hw
  have hk := List.mem_range.mp hk
  exact match k, hk with
    | 0, _ => q1_89
    | 1, _ => q1_91
    | 2, _ => q1_93
    | 3, _ => q1_95
    | 4, _ => q1_97
    | 5, _ => q1_99
    | 6, _ => q1_101
    | k + 7, h => absurd h (by omega)
theorem inG2 : ∀ w ∈ u_ws RX2 TX2 10, w ∈ GW := by
  intro w hw
  obtain ⟨k, hk, rfl⟩ := List.mem_map.mp hw
  have hk := List.mem_range.mp hk
  exact match k, hk with
    | 0, _ => q2_196
    | 1, _ => q2_198
    | 2, _ => q2_200
    | 3, _ => q2_202
    | 4, _ => q2_204
    | 5, _ => q2_206
    | 6, _ => q2_208
    | 7, _ => q2_210
    | 8, _ => q2_212
    | 9, _ => q2_214
    | k + 10, h => absurd h (by omega)
theorem inG3 : ∀ w ∈ u_ws RX3 TX3 5, w ∈ GW := by
  intro w hw
  obtain ⟨k, hk, rfl⟩ := List.mem_map.mp hw
  have hk := List.mem_range.mp hk
  exact match k, hk with
    | 0, _ => q2_155
    | 1, _ => q2_157
    | 2, _ => q2_159
    | 3, _ => q2_161
    | 4, _ => q2_163
    | k + 5, h => absurd h (by omega)
theorem inG4 : ∀ w ∈ u_ws RX4 TX4 5, w ∈ GW := by
  intro w hw
  obtain ⟨k, hk, rfl⟩ := List.mem_map.mp hw
  have hk := List.mem_range.mp hk
  exact match k, hk with
    | 0, _ => q1_120
    | 1, _ => q1_122
    | 2, _ => q1_124
    | 3, _ => q1_126
    | 4, _ => q1_128
    | k + 5, h => absurd h (by omega)
theorem inG5 : ∀ w ∈ u_ws RX5 TX5 2, w ∈ GW := by
  intro w hw
  obtain ⟨k, hk, rfl⟩ := List.mem_map.mp hw
  have hk := List.mem_range.mp hk
  exact match k, hk with
    | 0, _ => q1_153
    | 1, _ => q1_155
    | k + 2, h => absurd h (by omega)
theorem inG6 : ∀ w ∈ u_ws RX6 TX6 4, w ∈ GW := by
  intro w hw
  obtain ⟨k, hk, rfl⟩ := List.mem_map.mp hw
  have hk := List.mem_range.mp hk
  exact match k, hk with
    | 0, _ => q2_97
    | 1, _ => q2_99
    | 2, _ => q2_101
    | 3, _ => q2_103
    | k + 4, h => absurd h (by omega)
theorem inG7 : ∀ w ∈ u_ws RX7 TX7 4, w ∈ GW := by
  intro w hw
  obtain ⟨k, hk, rfl⟩ := List.mem_map.mp hw
  have hk := List.mem_range.mp hk
  exact match k, hk with
    | 0, _ => q1_170
    | 1, _ => q1_172
    | 2, _ => q1_174
    | 3, _ => q1_176
    | k + 4, h => absurd h (by omega)
theorem inG8 : ∀ w ∈ u_ws RX8 TX8 9, w ∈ GW := by
  intro w hw
  obtain ⟨k, hk, rfl⟩ := List.mem_map.mp hw
  have hk := List.mem_range.mp hk
  exact match k, hk with
    | 0, _ => q1_54
    | 1, _ => q1_56
    | 2, _ => q1_58
    | 3, _ => q1_60
    | 4, _ => q1_62
    | 5, _ => q1_64
    | 6, _ => q1_66
    | 7, _ => q1_68
    | 8, _ => q1_70
    | k + 9, h => absurd h (by omega)
theorem inG9 : ∀ w ∈ u_ws RX9 TX9 18, w ∈ GW := by
  intro w hw
  obtain ⟨k, hk, rfl⟩ := List.mem_map.mp hw
  have hk := List.mem_range.mp hk
  exact match k, hk with
    | 0, _ => q2_25
    | 1, _ => q2_27
    | 2, _ => q2_29
    | 3, _ => q2_31
    | 4, _ => q2_33
    | 5, _ => q2_35
    | 6, _ => q2_37
    | 7, _ => q2_39
    | 8, _ => q2_41
    | 9, _ => q2_43
    | 10, _ => q2_45
    | 11, _ => q2_47
    | 12, _ => q2_49
    | 13, _ => q2_51
    | 14, _ => q2_53
    | 15, _ => q2_55
    | 16, _ => q2_57
    | 17, _ => q2_59
    | k + 18, h => absurd h (by omega)
theorem inG10 : ∀ w ∈ u_ws RX10 TX10 5, w ∈ GW := by
  intro w hw
  obtain ⟨k, hk, rfl⟩ := List.mem_map.mp hw
  have hk := List.mem_range.mp hk
  exact match k, hk with
    | 0, _ => q2_73
    | 1, _ => q2_75
    | 2, _ => q2_77
    | 3, _ => q2_79
    | 4, _ => q2_81
    | k + 5, h => absurd h (by omega)
theorem inG11 : ∀ w ∈ u_ws RX11 TX11 10, w ∈ GW := by
  intro w hw
  obtain ⟨k, hk, rfl⟩ := List.mem_map.mp hw
  have hk := List.mem_range.mp hk
  exact match k, hk with
    | 0, _ => q3_37
    | 1, _ => q3_39
    | 2, _ => q3_41
    | 3, _ => q3_43
    | 4, _ => q3_45
    | 5, _ => q3_47
    | 6, _ => q3_49
    | 7, _ => q3_51
    | 8, _ => q3_53
    | 9, _ => q3_55
    | k + 10, h => absurd h (by omega)
theorem inG12 : ∀ w ∈ u_ws RX12 TX12 87, w ∈ GW := by
  intro w hw
  obtain ⟨k, hk, rfl⟩ := List.mem_map.mp hw
  have hk := List.mem_range.mp hk
  exact match k, hk with
    | 0, _ => q6_134
    | 1, _ => q6_136
    | 2, _ => q6_138
    | 3, _ => q6_140
    | 4, _ => q6_142
    | 5, _ => q6_144
    | 6, _ => q6_146
    | 7, _ => q6_148
    | 8, _ => q6_150
    | 9, _ => q6_152
    | 10, _ => q6_154
    | 11, _ => q6_156
    | 12, _ => q6_158
    | 13, _ => q6_160
    | 14, _ => q6_162
    | 15, _ => q6_164
    | 16, _ => q6_166
    | 17, _ => q6_168
    | 18, _ => q6_170
    | 19, _ => q6_172
    | 20, _ => q6_174
    | 21, _ => q6_176
    | 22, _ => q6_178
    | 23, _ => q6_180
    | 24, _ => q6_182
    | 25, _ => q6_184
    | 26, _ => q6_186
    | 27, _ => q6_188
    | 28, _ => q6_190
    | 29, _ => q6_192
    | 30, _ => q6_194
    | 31, _ => q6_196
    | 32, _ => q6_198
    | 33, _ => q6_200
    | 34, _ => q6_202
    | 35, _ => q6_204
    | 36, _ => q6_206
    | 37, _ => q6_208
    | 38, _ => q6_210
    | 39, _ => q6_212
    | 40, _ => q6_214
    | 41, _ => q6_216
    | 42, _ => q6_218
    | 43, _ => q6_220
    | 44, _ => q6_222
    | 45, _ => q6_224
    | 46, _ => q6_226
    | 47, _ => q6_228
    | 48, _ => q6_230
    | 49, _ => q6_232
    | 50, _ => q6_234
    | 51, _ => q6_236
    | 52, _ => q6_238
    | 53, _ => q7_0
    | 54, _ => q7_2
    | 55, _ => q7_4
    | 56, _ => q7_6
    | 57, _ => q7_8
    | 58, _ => q7_10
    | 59, _ => q7_12
    | 60, _ => q7_14
    | 61, _ => q7_16
    | 62, _ => q7_18
    | 63, _ => q7_20
    | 64, _ => q7_22
    | 65, _ => q7_24
    | 66, _ => q7_26
    | 67, _ => q7_28
    | 68, _ => q7_30
    | 69, _ => q7_32
    | 70, _ => q7_34
    | 71, _ => q7_36
    | 72, _ => q7_38
    | 73, _ => q7_40
    | 74, _ => q7_42
    | 75, _ => q7_44
    | 76, _ => q7_46
    | 77, _ => q7_48
    | 78, _ => q7_50
    | 79, _ => q7_52
    | 80, _ => q7_54
    | 81, _ => q7_56
    | 82, _ => q7_58
    | 83, _ => q7_60
    | 84, _ => q7_62
    | 85, _ => q7_64
    | 86, _ => q7_66
    | k + 87, h => absurd h (by omega)
