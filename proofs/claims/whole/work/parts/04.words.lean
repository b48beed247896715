/-! the words of the tables, each with its proof that it is one of gT -/
def gT : List Cond := lw_tbl.filter goodWord
theorem gT_good : ∀ w ∈ gT, goodWord w = true := fun w h => (List.mem_filter.mp h).2
theorem gT_in : ∀ w ∈ gT, w ∈ lw_tbl := fun w h => (List.mem_filter.mp h).1
theorem gin_1 {w : Cond} (h : w ∈ tables_1_1) (g : goodWord w = true) : w ∈ gT := List.mem_filter.mpr ⟨List.mem_append_right _ (List.mem_append_left _ h), g⟩
theorem gin_2 {w : Cond} (h : w ∈ tables_1_2) (g : goodWord w = true) : w ∈ gT := List.mem_filter.mpr ⟨List.mem_append_right _ (List.mem_append_right _ (List.mem_append_left _ h)), g⟩
theorem gin_3 {w : Cond} (h : w ∈ tables_1_3) (g : goodWord w = true) : w ∈ gT := List.mem_filter.mpr ⟨List.mem_append_right _ (List.mem_append_right _ (List.mem_append_right _ (List.mem_append_left _ h))), g⟩
theorem gin_4 {w : Cond} (h : w ∈ tables_1_4) (g : goodWord w = true) : w ∈ gT := List.mem_filter.mpr ⟨List.mem_append_right _ (List.mem_append_right _ (List.mem_append_right _ (List.mem_append_right _ (List.mem_append_left _ h)))), g⟩
theorem gin_5 {w : Cond} (h : w ∈ tables_1_5) (g : goodWord w = true) : w ∈ gT := List.mem_filter.mpr ⟨List.mem_append_right _ (List.mem_append_right _ (List.mem_append_right _ (List.mem_append_right _ (List.mem_append_right _ (List.mem_append_left _ h))))), g⟩
theorem gin_6 {w : Cond} (h : w ∈ tables_1_6) (g : goodWord w = true) : w ∈ gT := List.mem_filter.mpr ⟨List.mem_append_right _ (List.mem_append_right _ (List.mem_append_right _ (List.mem_append_right _ (List.mem_append_right _ (List.mem_append_right _ (List.mem_append_left _ h)))))), g⟩
theorem gin_7 {w : Cond} (h : w ∈ tables_1_7) (g : goodWord w = true) : w ∈ gT := List.mem_filter.mpr ⟨List.mem_append_right _ (List.mem_append_right _ (List.mem_append_right _ (List.mem_append_right _ (List.mem_append_right _ (List.mem_append_right _ (List.mem_append_right _ h)))))), g⟩
theorem gip_1 {q : MethodName × Nat} (h : q ∈ lw_privs_1) (g : goodWord (Cond.selects q.1.cls q.1 q.1) = true) : Cond.selects q.1.cls q.1 q.1 ∈ gT := List.mem_filter.mpr ⟨List.mem_append_left _ (List.mem_map.mpr ⟨q, (List.mem_append_left _ h), rfl⟩), g⟩
theorem gip_2 {q : MethodName × Nat} (h : q ∈ lw_privs_2) (g : goodWord (Cond.selects q.1.cls q.1 q.1) = true) : Cond.selects q.1.cls q.1 q.1 ∈ gT := List.mem_filter.mpr ⟨List.mem_append_left _ (List.mem_map.mpr ⟨q, (List.mem_append_right _ (List.mem_append_left _ h)), rfl⟩), g⟩
theorem gip_3 {q : MethodName × Nat} (h : q ∈ lw_privs_3) (g : goodWord (Cond.selects q.1.cls q.1 q.1) = true) : Cond.selects q.1.cls q.1 q.1 ∈ gT := List.mem_filter.mpr ⟨List.mem_append_left _ (List.mem_map.mpr ⟨q, (List.mem_append_right _ (List.mem_append_right _ (List.mem_append_left _ h))), rfl⟩), g⟩
theorem gip_4 {q : MethodName × Nat} (h : q ∈ lw_privs_4) (g : goodWord (Cond.selects q.1.cls q.1 q.1) = true) : Cond.selects q.1.cls q.1 q.1 ∈ gT := List.mem_filter.mpr ⟨List.mem_append_left _ (List.mem_map.mpr ⟨q, (List.mem_append_right _ (List.mem_append_right _ (List.mem_append_right _ (List.mem_append_left _ h)))), rfl⟩), g⟩
theorem gip_5 {q : MethodName × Nat} (h : q ∈ lw_privs_5) (g : goodWord (Cond.selects q.1.cls q.1 q.1) = true) : Cond.selects q.1.cls q.1 q.1 ∈ gT := List.mem_filter.mpr ⟨List.mem_append_left _ (List.mem_map.mpr ⟨q, (List.mem_append_right _ (List.mem_append_right _ (List.mem_append_right _ (List.mem_append_right _ (List.mem_append_left _ h))))), rfl⟩), g⟩
theorem gip_6 {q : MethodName × Nat} (h : q ∈ lw_privs_6) (g : goodWord (Cond.selects q.1.cls q.1 q.1) = true) : Cond.selects q.1.cls q.1 q.1 ∈ gT := List.mem_filter.mpr ⟨List.mem_append_left _ (List.mem_map.mpr ⟨q, (List.mem_append_right _ (List.mem_append_right _ (List.mem_append_right _ (List.mem_append_right _ (List.mem_append_right _ h))))), rfl⟩), g⟩
theorem wd_0 : Cond.initialized "LifeNoesLaw" ∈ gT := gin_1 (List.mem_of_getElem? (i := 0) rfl) rfl
theorem wd_1 : Cond.initialized "LifeNoes" ∈ gT := gin_1 (List.mem_of_getElem? (i := 1) rfl) rfl
theorem wd_2 : Cond.initialized "LifeNoes$Village" ∈ gT := gin_1 (List.mem_of_getElem? (i := 2) rfl) rfl
theorem wd_3 : Cond.initialized "LifeNoes$Ahead" ∈ gT := gin_1 (List.mem_of_getElem? (i := 3) rfl) rfl
theorem wd_4 : Cond.initialized "LifeNoes$TextReader" ∈ gT := gin_1 (List.mem_of_getElem? (i := 4) rfl) rfl
theorem wd_5 : Cond.initialized "LifeNoes$Sheet" ∈ gT := gin_1 (List.mem_of_getElem? (i := 5) rfl) rfl
theorem wd_6 : Cond.initialized "LifeNoes$Trace" ∈ gT := gin_1 (List.mem_of_getElem? (i := 6) rfl) rfl
theorem wd_7 : Cond.initialized "LifeNoes$Sayer" ∈ gT := gin_1 (List.mem_of_getElem? (i := 7) rfl) rfl
theorem wd_8 : Cond.initialized "LifeNoes$Quick" ∈ gT := gin_1 (List.mem_of_getElem? (i := 8) rfl) rfl
theorem wd_9 : Cond.initialized "LifeNoes$Bar" ∈ gT := gin_1 (List.mem_of_getElem? (i := 9) rfl) rfl
theorem wd_10 : Cond.initialized "LifeNoes$Wait" ∈ gT := gin_1 (List.mem_of_getElem? (i := 10) rfl) rfl
theorem wd_11 : Cond.initialized "LifeNoes$League" ∈ gT := gin_1 (List.mem_of_getElem? (i := 11) rfl) rfl
theorem wd_12 : Cond.initialized "LifeNoes$Told" ∈ gT := gin_1 (List.mem_of_getElem? (i := 12) rfl) rfl
theorem wd_13 : Cond.initialized "LifeNoesModel" ∈ gT := gin_1 (List.mem_of_getElem? (i := 13) rfl) rfl
theorem wd_14 : Cond.initialized "java/lang/Math" ∈ gT := gin_1 (List.mem_of_getElem? (i := 14) rfl) rfl
theorem wd_15 : Cond.initialized "java/lang/System" ∈ gT := gin_1 (List.mem_of_getElem? (i := 15) rfl) rfl
theorem wd_16 : Cond.initialized "java/lang/String" ∈ gT := gin_1 (List.mem_of_getElem? (i := 16) rfl) rfl
theorem wd_17 : Cond.initialized "java/lang/StringLatin1" ∈ gT := gin_1 (List.mem_of_getElem? (i := 17) rfl) rfl
theorem wd_18 : Cond.initialized "jdk/internal/util/Preconditions" ∈ gT := gin_1 (List.mem_of_getElem? (i := 18) rfl) rfl
theorem wd_19 : Cond.initialized "java/lang/StringUTF16" ∈ gT := gin_1 (List.mem_of_getElem? (i := 19) rfl) rfl
theorem wd_20 : Cond.initialized "java/lang/Integer" ∈ gT := gin_1 (List.mem_of_getElem? (i := 20) rfl) rfl
theorem wd_21 : Cond.classLink "LifeNoesLaw" 7 "LifeNoes" ∈ gT := gin_1 (List.mem_of_getElem? (i := 21) rfl) rfl
theorem wd_22 : Cond.instantiable "LifeNoes" 16 ∈ gT := gin_1 (List.mem_of_getElem? (i := 22) rfl) rfl
theorem wd_23 : Cond.methodLink "LifeNoesLaw" 9 ⟨"LifeNoes", "<init>", "()V"⟩ ∈ gT := gin_1 (List.mem_of_getElem? (i := 23) rfl) rfl
theorem wd_24 : Cond.instanceMethod ⟨"LifeNoes", "<init>", "()V"⟩ ∈ gT := gin_1 (List.mem_of_getElem? (i := 24) rfl) rfl
theorem wd_25 : Cond.code ⟨"LifeNoes", "<init>", "()V"⟩ prog_1_method_1_code 2 none ∈ gT := gin_1 (List.mem_of_getElem? (i := 25) rfl) rfl
theorem wd_26 : Cond.methodLink "LifeNoes" 1 ⟨"java/lang/Object", "<init>", "()V"⟩ ∈ gT := gin_1 (List.mem_of_getElem? (i := 26) rfl) rfl
theorem wd_27 : Cond.instanceMethod ⟨"java/lang/Object", "<init>", "()V"⟩ ∈ gT := gin_1 (List.mem_of_getElem? (i := 27) rfl) rfl
theorem wd_28 : Cond.code ⟨"java/lang/Object", "<init>", "()V"⟩ object_method_1_code 1 none ∈ gT := gin_1 (List.mem_of_getElem? (i := 28) rfl) rfl
theorem wd_29 : Cond.classLink "LifeNoes" 7 "LifeNoes$Village" ∈ gT := gin_1 (List.mem_of_getElem? (i := 29) rfl) rfl
theorem wd_30 : Cond.instantiable "LifeNoes$Village" 13 ∈ gT := gin_1 (List.mem_of_getElem? (i := 30) rfl) rfl
theorem wd_31 : Cond.methodLink "LifeNoes" 9 ⟨"LifeNoes$Village", "<init>", "()V"⟩ ∈ gT := gin_1 (List.mem_of_getElem? (i := 31) rfl) rfl
theorem wd_32 : Cond.instanceMethod ⟨"LifeNoes$Village", "<init>", "()V"⟩ ∈ gT := gin_1 (List.mem_of_getElem? (i := 32) rfl) rfl
theorem wd_33 : Cond.code ⟨"LifeNoes$Village", "<init>", "()V"⟩ prog_11_method_1_code 1 none ∈ gT := gin_1 (List.mem_of_getElem? (i := 33) rfl) rfl
theorem wd_34 : Cond.methodLink "LifeNoes$Village" 3 ⟨"java/lang/Object", "<init>", "()V"⟩ ∈ gT := gin_1 (List.mem_of_getElem? (i := 34) rfl) rfl
theorem wd_35 : Cond.classLink "LifeNoes$Village" 37 "[[I" ∈ gT := gin_1 (List.mem_of_getElem? (i := 35) rfl) rfl
theorem wd_37 : Cond.fieldLink "LifeNoes$Village" 9 "LifeNoes$Village" "people" "I" ∈ gT := gin_1 (List.mem_of_getElem? (i := 37) rfl) rfl
theorem wd_38 : Cond.fieldLink "LifeNoes" 124 "LifeNoes$Village" "people" "I" ∈ gT := gin_1 (List.mem_of_getElem? (i := 38) rfl) rfl
theorem wd_39 : Cond.fieldLink "LifeNoes$TextReader" 96 "LifeNoes$Village" "people" "I" ∈ gT := gin_1 (List.mem_of_getElem? (i := 39) rfl) rfl
theorem wd_40 : Cond.fieldLink "LifeNoes$Ahead" 79 "LifeNoes$Village" "people" "I" ∈ gT := gin_1 (List.mem_of_getElem? (i := 40) rfl) rfl
theorem wd_41 : Cond.fieldLink "LifeNoes$Village" 15 "LifeNoes$Village" "kind" "[I" ∈ gT := gin_1 (List.mem_of_getElem? (i := 41) rfl) rfl
theorem wd_42 : Cond.fieldLink "LifeNoes" 135 "LifeNoes$Village" "kind" "[I" ∈ gT := gin_1 (List.mem_of_getElem? (i := 42) rfl) rfl
theorem wd_43 : Cond.fieldLink "LifeNoes$Ahead" 109 "LifeNoes$Village" "kind" "[I" ∈ gT := gin_1 (List.mem_of_getElem? (i := 43) rfl) rfl
theorem wd_44 : Cond.fieldLink "LifeNoes$Village" 19 "LifeNoes$Village" "a" "[I" ∈ gT := gin_1 (List.mem_of_getElem? (i := 44) rfl) rfl
theorem wd_45 : Cond.fieldLink "LifeNoes" 138 "LifeNoes$Village" "a" "[I" ∈ gT := gin_1 (List.mem_of_getElem? (i := 45) rfl) rfl
theorem wd_46 : Cond.fieldLink "LifeNoes$Ahead" 112 "LifeNoes$Village" "a" "[I" ∈ gT := gin_1 (List.mem_of_getElem? (i := 46) rfl) rfl
theorem wd_47 : Cond.fieldLink "LifeNoes$Village" 22 "LifeNoes$Village" "age" "[I" ∈ gT := gin_1 (List.mem_of_getElem? (i := 47) rfl) rfl
theorem wd_48 : Cond.fieldLink "LifeNoes" 141 "LifeNoes$Village" "age" "[I" ∈ gT := gin_1 (List.mem_of_getElem? (i := 48) rfl) rfl
theorem wd_49 : Cond.fieldLink "LifeNoes$Village" 25 "LifeNoes$Village" "noes" "[I" ∈ gT := gin_1 (List.mem_of_getElem? (i := 49) rfl) rfl
theorem wd_50 : Cond.fieldLink "LifeNoes" 144 "LifeNoes$Village" "noes" "[I" ∈ gT := gin_1 (List.mem_of_getElem? (i := 50) rfl) rfl
theorem wd_51 : Cond.fieldLink "LifeNoes$Village" 28 "LifeNoes$Village" "had" "[I" ∈ gT := gin_1 (List.mem_of_getElem? (i := 51) rfl) rfl
theorem wd_52 : Cond.fieldLink "LifeNoes" 197 "LifeNoes$Village" "had" "[I" ∈ gT := gin_1 (List.mem_of_getElem? (i := 52) rfl) rfl
theorem wd_53 : Cond.fieldLink "LifeNoes$Village" 31 "LifeNoes$Village" "proposals" "I" ∈ gT := gin_1 (List.mem_of_getElem? (i := 53) rfl) rfl
theorem wd_54 : Cond.fieldLink "LifeNoes$Ahead" 51 "LifeNoes$Village" "proposals" "I" ∈ gT := gin_1 (List.mem_of_getElem? (i := 54) rfl) rfl
theorem wd_55 : Cond.fieldLink "LifeNoes$TextReader" 113 "LifeNoes$Village" "proposals" "I" ∈ gT := gin_1 (List.mem_of_getElem? (i := 55) rfl) rfl
theorem wd_56 : Cond.fieldLink "LifeNoes" 151 "LifeNoes$Village" "proposals" "I" ∈ gT := gin_1 (List.mem_of_getElem? (i := 56) rfl) rfl
theorem wd_57 : Cond.fieldLink "LifeNoes$Village" 34 "LifeNoes$Village" "weight" "[I" ∈ gT := gin_1 (List.mem_of_getElem? (i := 57) rfl) rfl
theorem wd_58 : Cond.fieldLink "LifeNoes$Ahead" 54 "LifeNoes$Village" "weight" "[I" ∈ gT := gin_1 (List.mem_of_getElem? (i := 58) rfl) rfl
theorem wd_59 : Cond.fieldLink "LifeNoes" 161 "LifeNoes$Village" "weight" "[I" ∈ gT := gin_1 (List.mem_of_getElem? (i := 59) rfl) rfl
theorem wd_60 : Cond.fieldLink "LifeNoes$Village" 39 "LifeNoes$Village" "worth" "[[I" ∈ gT := gin_1 (List.mem_of_getElem? (i := 60) rfl) rfl
theorem wd_61 : Cond.fieldLink "LifeNoes$Ahead" 75 "LifeNoes$Village" "worth" "[[I" ∈ gT := gin_1 (List.mem_of_getElem? (i := 61) rfl) rfl
theorem wd_62 : Cond.fieldLink "LifeNoes$TextReader" 128 "LifeNoes$Village" "worth" "[[I" ∈ gT := gin_1 (List.mem_of_getElem? (i := 62) rfl) rfl
theorem wd_63 : Cond.fieldLink "LifeNoes" 164 "LifeNoes$Village" "worth" "[[I" ∈ gT := gin_1 (List.mem_of_getElem? (i := 63) rfl) rfl
theorem wd_64 : Cond.fieldLink "LifeNoes$Village" 42 "LifeNoes$Village" "law" "[I" ∈ gT := gin_1 (List.mem_of_getElem? (i := 64) rfl) rfl
theorem wd_65 : Cond.fieldLink "LifeNoes$Ahead" 40 "LifeNoes$Village" "law" "[I" ∈ gT := gin_1 (List.mem_of_getElem? (i := 65) rfl) rfl
theorem wd_66 : Cond.fieldLink "LifeNoes$TextReader" 90 "LifeNoes$Village" "law" "[I" ∈ gT := gin_1 (List.mem_of_getElem? (i := 66) rfl) rfl
theorem wd_67 : Cond.fieldLink "LifeNoes" 171 "LifeNoes$Village" "law" "[I" ∈ gT := gin_1 (List.mem_of_getElem? (i := 67) rfl) rfl
theorem wd_68 : Cond.fieldLink "LifeNoes$Village" 45 "LifeNoes$Village" "z" "I" ∈ gT := gin_1 (List.mem_of_getElem? (i := 68) rfl) rfl
theorem wd_69 : Cond.fieldLink "LifeNoes" 114 "LifeNoes$Village" "z" "I" ∈ gT := gin_1 (List.mem_of_getElem? (i := 69) rfl) rfl
theorem wd_70 : Cond.fieldLink "LifeNoes$Village" 48 "LifeNoes$Village" "fell" "I" ∈ gT := gin_1 (List.mem_of_getElem? (i := 70) rfl) rfl
theorem wd_71 : Cond.fieldLink "LifeNoes" 310 "LifeNoes$Village" "fell" "I" ∈ gT := gin_1 (List.mem_of_getElem? (i := 71) rfl) rfl
theorem wd_72 : Cond.fieldLink "LifeNoes$Village" 51 "LifeNoes$Village" "passed" "I" ∈ gT := gin_1 (List.mem_of_getElem? (i := 72) rfl) rfl
theorem wd_73 : Cond.fieldLink "LifeNoes" 313 "LifeNoes$Village" "passed" "I" ∈ gT := gin_1 (List.mem_of_getElem? (i := 73) rfl) rfl
theorem wd_74 : Cond.lays "LifeNoes$Village" "LifeNoes$Village" "people" "I" ∈ gT := gin_1 (List.mem_of_getElem? (i := 74) rfl) rfl
theorem wd_75 : Cond.soleField "LifeNoes$Village" "people" ∈ gT := gin_1 (List.mem_of_getElem? (i := 75) rfl) rfl
theorem wd_76 : Cond.laysFinal "LifeNoes$Village" "LifeNoes$Village" "kind" "[I" ∈ gT := gin_1 (List.mem_of_getElem? (i := 76) rfl) rfl
theorem wd_77 : Cond.soleField "LifeNoes$Village" "kind" ∈ gT := gin_1 (List.mem_of_getElem? (i := 77) rfl) rfl
theorem wd_78 : Cond.laysFinal "LifeNoes$Village" "LifeNoes$Village" "a" "[I" ∈ gT := gin_1 (List.mem_of_getElem? (i := 78) rfl) rfl
theorem wd_79 : Cond.soleField "LifeNoes$Village" "a" ∈ gT := gin_1 (List.mem_of_getElem? (i := 79) rfl) rfl
theorem wd_80 : Cond.laysFinal "LifeNoes$Village" "LifeNoes$Village" "age" "[I" ∈ gT := gin_1 (List.mem_of_getElem? (i := 80) rfl) rfl
theorem wd_81 : Cond.soleField "LifeNoes$Village" "age" ∈ gT := gin_1 (List.mem_of_getElem? (i := 81) rfl) rfl
theorem wd_82 : Cond.laysFinal "LifeNoes$Village" "LifeNoes$Village" "noes" "[I" ∈ gT := gin_1 (List.mem_of_getElem? (i := 82) rfl) rfl
theorem wd_83 : Cond.soleField "LifeNoes$Village" "noes" ∈ gT := gin_1 (List.mem_of_getElem? (i := 83) rfl) rfl
theorem wd_84 : Cond.laysFinal "LifeNoes$Village" "LifeNoes$Village" "had" "[I" ∈ gT := gin_1 (List.mem_of_getElem? (i := 84) rfl) rfl
theorem wd_85 : Cond.soleField "LifeNoes$Village" "had" ∈ gT := gin_1 (List.mem_of_getElem? (i := 85) rfl) rfl
theorem wd_86 : Cond.lays "LifeNoes$Village" "LifeNoes$Village" "proposals" "I" ∈ gT := gin_1 (List.mem_of_getElem? (i := 86) rfl) rfl
theorem wd_87 : Cond.soleField "LifeNoes$Village" "proposals" ∈ gT := gin_1 (List.mem_of_getElem? (i := 87) rfl) rfl
theorem wd_88 : Cond.laysFinal "LifeNoes$Village" "LifeNoes$Village" "weight" "[I" ∈ gT := gin_1 (List.mem_of_getElem? (i := 88) rfl) rfl
theorem wd_89 : Cond.soleField "LifeNoes$Village" "weight" ∈ gT := gin_1 (List.mem_of_getElem? (i := 89) rfl) rfl
theorem wd_90 : Cond.laysFinal "LifeNoes$Village" "LifeNoes$Village" "worth" "[[I" ∈ gT := gin_1 (List.mem_of_getElem? (i := 90) rfl) rfl
theorem wd_91 : Cond.soleField "LifeNoes$Village" "worth" ∈ gT := gin_1 (List.mem_of_getElem? (i := 91) rfl) rfl
theorem wd_92 : Cond.laysFinal "LifeNoes$Village" "LifeNoes$Village" "law" "[I" ∈ gT := gin_1 (List.mem_of_getElem? (i := 92) rfl) rfl
theorem wd_93 : Cond.soleField "LifeNoes$Village" "law" ∈ gT := gin_1 (List.mem_of_getElem? (i := 93) rfl) rfl
theorem wd_94 : Cond.lays "LifeNoes$Village" "LifeNoes$Village" "z" "I" ∈ gT := gin_1 (List.mem_of_getElem? (i := 94) rfl) rfl
theorem wd_95 : Cond.soleField "LifeNoes$Village" "z" ∈ gT := gin_1 (List.mem_of_getElem? (i := 95) rfl) rfl
theorem wd_96 : Cond.lays "LifeNoes$Village" "LifeNoes$Village" "fell" "I" ∈ gT := gin_1 (List.mem_of_getElem? (i := 96) rfl) rfl
theorem wd_97 : Cond.soleField "LifeNoes$Village" "fell" ∈ gT := gin_1 (List.mem_of_getElem? (i := 97) rfl) rfl
theorem wd_98 : Cond.lays "LifeNoes$Village" "LifeNoes$Village" "passed" "I" ∈ gT := gin_1 (List.mem_of_getElem? (i := 98) rfl) rfl
theorem wd_99 : Cond.soleField "LifeNoes$Village" "passed" ∈ gT := gin_1 (List.mem_of_getElem? (i := 99) rfl) rfl
theorem wd_100 : Cond.superclass "LifeNoes$Village" "java/lang/Object" ∈ gT := gin_1 (List.mem_of_getElem? (i := 100) rfl) rfl
theorem wd_101 : Cond.arrayClass .int ∈ gT := gin_1 (List.mem_of_getElem? (i := 101) rfl) rfl
theorem wd_102 : Cond.classLink "LifeNoes" 23 "LifeNoes$Ahead" ∈ gT := gin_1 (List.mem_of_getElem? (i := 102) rfl) rfl
theorem wd_103 : Cond.instantiable "LifeNoes$Ahead" 3 ∈ gT := gin_1 (List.mem_of_getElem? (i := 103) rfl) rfl
theorem wd_105 : Cond.instanceMethod ⟨"LifeNoes$Ahead", "<init>", "()V"⟩ ∈ gT := gin_1 (List.mem_of_getElem? (i := 105) rfl) rfl
theorem wd_106 : Cond.code ⟨"LifeNoes$Ahead", "<init>", "()V"⟩ prog_2_method_1_code 1 none ∈ gT := gin_1 (List.mem_of_getElem? (i := 106) rfl) rfl
theorem wd_107 : Cond.methodLink "LifeNoes$Ahead" 3 ⟨"java/lang/Object", "<init>", "()V"⟩ ∈ gT := gin_1 (List.mem_of_getElem? (i := 107) rfl) rfl
theorem wd_108 : Cond.classLink "LifeNoes$Ahead" 9 "LifeNoes$Village" ∈ gT := gin_1 (List.mem_of_getElem? (i := 108) rfl) rfl
theorem wd_109 : Cond.methodLink "LifeNoes$Ahead" 11 ⟨"LifeNoes$Village", "<init>", "()V"⟩ ∈ gT := gin_1 (List.mem_of_getElem? (i := 109) rfl) rfl
theorem wd_110 : Cond.fieldLink "LifeNoes$Ahead" 12 "LifeNoes$Ahead" "v" "LLifeNoes$Village;" ∈ gT := gin_1 (List.mem_of_getElem? (i := 110) rfl) rfl
theorem wd_111 : Cond.fieldLink "LifeNoes$Ahead" 18 "LifeNoes$Ahead" "power" "[J" ∈ gT := gin_1 (List.mem_of_getElem? (i := 111) rfl) rfl
theorem wd_112 : Cond.fieldLink "LifeNoes" 211 "LifeNoes$Ahead" "power" "[J" ∈ gT := gin_1 (List.mem_of_getElem? (i := 112) rfl) rfl
theorem wd_113 : Cond.fieldLink "LifeNoes$Ahead" 22 "LifeNoes$Ahead" "measure" "I" ∈ gT := gin_1 (List.mem_of_getElem? (i := 113) rfl) rfl
theorem wd_114 : Cond.laysFinal "LifeNoes$Ahead" "LifeNoes$Ahead" "v" "LLifeNoes$Village;" ∈ gT := gin_1 (List.mem_of_getElem? (i := 114) rfl) rfl
theorem wd_115 : Cond.soleField "LifeNoes$Ahead" "v" ∈ gT := gin_1 (List.mem_of_getElem? (i := 115) rfl) rfl
theorem wd_116 : Cond.laysFinal "LifeNoes$Ahead" "LifeNoes$Ahead" "power" "[J" ∈ gT := gin_1 (List.mem_of_getElem? (i := 116) rfl) rfl
theorem wd_117 : Cond.soleField "LifeNoes$Ahead" "power" ∈ gT := gin_1 (List.mem_of_getElem? (i := 117) rfl) rfl
theorem wd_118 : Cond.lays "LifeNoes$Ahead" "LifeNoes$Ahead" "measure" "I" ∈ gT := gin_1 (List.mem_of_getElem? (i := 118) rfl) rfl
theorem wd_119 : Cond.soleField "LifeNoes$Ahead" "measure" ∈ gT := gin_1 (List.mem_of_getElem? (i := 119) rfl) rfl
theorem wd_120 : Cond.superclass "LifeNoes$Ahead" "java/lang/Object" ∈ gT := gin_1 (List.mem_of_getElem? (i := 120) rfl) rfl
theorem wd_121 : Cond.arrayClass .long ∈ gT := gin_1 (List.mem_of_getElem? (i := 121) rfl) rfl
theorem wd_122 : Cond.classLink "LifeNoes" 30 "LifeNoes$TextReader" ∈ gT := gin_1 (List.mem_of_getElem? (i := 122) rfl) rfl
theorem wd_123 : Cond.instantiable "LifeNoes$TextReader" 7 ∈ gT := gin_1 (List.mem_of_getElem? (i := 123) rfl) rfl
theorem wd_125 : Cond.instanceMethod ⟨"LifeNoes$TextReader", "<init>", "()V"⟩ ∈ gT := gin_1 (List.mem_of_getElem? (i := 125) rfl) rfl
theorem wd_126 : Cond.code ⟨"LifeNoes$TextReader", "<init>", "()V"⟩ prog_8_method_1_code 1 none ∈ gT := gin_1 (List.mem_of_getElem? (i := 126) rfl) rfl
theorem wd_127 : Cond.methodLink "LifeNoes$TextReader" 3 ⟨"java/lang/Object", "<init>", "()V"⟩ ∈ gT := gin_1 (List.mem_of_getElem? (i := 127) rfl) rfl
theorem wd_128 : Cond.classLink "LifeNoes$TextReader" 9 "LifeNoes$Village" ∈ gT := gin_1 (List.mem_of_getElem? (i := 128) rfl) rfl
theorem wd_129 : Cond.methodLink "LifeNoes$TextReader" 11 ⟨"LifeNoes$Village", "<init>", "()V"⟩ ∈ gT := gin_1 (List.mem_of_getElem? (i := 129) rfl) rfl
theorem wd_130 : Cond.fieldLink "LifeNoes$TextReader" 12 "LifeNoes$TextReader" "made" "LLifeNoes$Village;" ∈ gT := gin_1 (List.mem_of_getElem? (i := 130) rfl) rfl
theorem wd_131 : Cond.fieldLink "LifeNoes" 117 "LifeNoes$TextReader" "made" "LLifeNoes$Village;" ∈ gT := gin_1 (List.mem_of_getElem? (i := 131) rfl) rfl
theorem wd_132 : Cond.fieldLink "LifeNoes$TextReader" 18 "LifeNoes$TextReader" "bytes" "[I" ∈ gT := gin_1 (List.mem_of_getElem? (i := 132) rfl) rfl
theorem wd_133 : Cond.fieldLink "LifeNoes$TextReader" 22 "LifeNoes$TextReader" "length" "I" ∈ gT := gin_1 (List.mem_of_getElem? (i := 133) rfl) rfl
theorem wd_134 : Cond.fieldLink "LifeNoes$TextReader" 26 "LifeNoes$TextReader" "at" "I" ∈ gT := gin_1 (List.mem_of_getElem? (i := 134) rfl) rfl
theorem wd_135 : Cond.fieldLink "LifeNoes$TextReader" 29 "LifeNoes$TextReader" "token" "I" ∈ gT := gin_1 (List.mem_of_getElem? (i := 135) rfl) rfl
theorem wd_136 : Cond.fieldLink "LifeNoes$TextReader" 32 "LifeNoes$TextReader" "start" "I" ∈ gT := gin_1 (List.mem_of_getElem? (i := 136) rfl) rfl
theorem wd_137 : Cond.fieldLink "LifeNoes" 111 "LifeNoes$TextReader" "start" "I" ∈ gT := gin_1 (List.mem_of_getElem? (i := 137) rfl) rfl
theorem wd_138 : Cond.fieldLink "LifeNoes$TextReader" 35 "LifeNoes$TextReader" "number" "I" ∈ gT := gin_1 (List.mem_of_getElem? (i := 138) rfl) rfl
theorem wd_139 : Cond.laysFinal "LifeNoes$TextReader" "LifeNoes$TextReader" "made" "LLifeNoes$Village;" ∈ gT := gin_1 (List.mem_of_getElem? (i := 139) rfl) rfl
theorem wd_140 : Cond.soleField "LifeNoes$TextReader" "made" ∈ gT := gin_1 (List.mem_of_getElem? (i := 140) rfl) rfl
theorem wd_141 : Cond.laysFinal "LifeNoes$TextReader" "LifeNoes$TextReader" "bytes" "[I" ∈ gT := gin_1 (List.mem_of_getElem? (i := 141) rfl) rfl
theorem wd_142 : Cond.soleField "LifeNoes$TextReader" "bytes" ∈ gT := gin_1 (List.mem_of_getElem? (i := 142) rfl) rfl
theorem wd_143 : Cond.lays "LifeNoes$TextReader" "LifeNoes$TextReader" "length" "I" ∈ gT := gin_1 (List.mem_of_getElem? (i := 143) rfl) rfl
theorem wd_144 : Cond.soleField "LifeNoes$TextReader" "length" ∈ gT := gin_1 (List.mem_of_getElem? (i := 144) rfl) rfl
theorem wd_145 : Cond.lays "LifeNoes$TextReader" "LifeNoes$TextReader" "at" "I" ∈ gT := gin_1 (List.mem_of_getElem? (i := 145) rfl) rfl
theorem wd_146 : Cond.soleField "LifeNoes$TextReader" "at" ∈ gT := gin_1 (List.mem_of_getElem? (i := 146) rfl) rfl
theorem wd_147 : Cond.lays "LifeNoes$TextReader" "LifeNoes$TextReader" "token" "I" ∈ gT := gin_1 (List.mem_of_getElem? (i := 147) rfl) rfl
theorem wd_148 : Cond.soleField "LifeNoes$TextReader" "token" ∈ gT := gin_1 (List.mem_of_getElem? (i := 148) rfl) rfl
theorem wd_149 : Cond.lays "LifeNoes$TextReader" "LifeNoes$TextReader" "start" "I" ∈ gT := gin_1 (List.mem_of_getElem? (i := 149) rfl) rfl
theorem wd_150 : Cond.soleField "LifeNoes$TextReader" "start" ∈ gT := gin_1 (List.mem_of_getElem? (i := 150) rfl) rfl
theorem wd_151 : Cond.lays "LifeNoes$TextReader" "LifeNoes$TextReader" "number" "I" ∈ gT := gin_1 (List.mem_of_getElem? (i := 151) rfl) rfl
theorem wd_152 : Cond.soleField "LifeNoes$TextReader" "number" ∈ gT := gin_1 (List.mem_of_getElem? (i := 152) rfl) rfl
theorem wd_153 : Cond.superclass "LifeNoes$TextReader" "java/lang/Object" ∈ gT := gin_1 (List.mem_of_getElem? (i := 153) rfl) rfl
theorem wd_154 : Cond.classLink "LifeNoes" 45 "[[I" ∈ gT := gin_1 (List.mem_of_getElem? (i := 154) rfl) rfl
theorem wd_155 : Cond.classLink "LifeNoes" 56 "LifeNoes$Sheet" ∈ gT := gin_1 (List.mem_of_getElem? (i := 155) rfl) rfl
theorem wd_157 : Cond.classLink "LifeNoes" 71 "LifeNoes$Sayer" ∈ gT := gin_1 (List.mem_of_getElem? (i := 157) rfl) rfl
theorem wd_159 : Cond.instantiable "LifeNoes$Sheet" 3 ∈ gT := gin_1 (List.mem_of_getElem? (i := 159) rfl) rfl
theorem wd_161 : Cond.instanceMethod ⟨"LifeNoes$Sheet", "<init>", "()V"⟩ ∈ gT := gin_1 (List.mem_of_getElem? (i := 161) rfl) rfl
theorem wd_162 : Cond.code ⟨"LifeNoes$Sheet", "<init>", "()V"⟩ prog_7_method_1_code 1 none ∈ gT := gin_1 (List.mem_of_getElem? (i := 162) rfl) rfl
theorem wd_163 : Cond.methodLink "LifeNoes$Sheet" 3 ⟨"java/lang/Object", "<init>", "()V"⟩ ∈ gT := gin_1 (List.mem_of_getElem? (i := 163) rfl) rfl
theorem wd_164 : Cond.fieldLink "LifeNoes$Sheet" 9 "LifeNoes$Sheet" "sort" "I" ∈ gT := gin_1 (List.mem_of_getElem? (i := 164) rfl) rfl
theorem wd_165 : Cond.fieldLink "LifeNoes" 244 "LifeNoes$Sheet" "sort" "I" ∈ gT := gin_1 (List.mem_of_getElem? (i := 165) rfl) rfl
theorem wd_166 : Cond.fieldLink "LifeNoes$Sheet" 15 "LifeNoes$Sheet" "length" "I" ∈ gT := gin_1 (List.mem_of_getElem? (i := 166) rfl) rfl
theorem wd_167 : Cond.fieldLink "LifeNoes" 247 "LifeNoes$Sheet" "length" "I" ∈ gT := gin_1 (List.mem_of_getElem? (i := 167) rfl) rfl
theorem wd_168 : Cond.fieldLink "LifeNoes$Sheet" 18 "LifeNoes$Sheet" "items" "[I" ∈ gT := gin_1 (List.mem_of_getElem? (i := 168) rfl) rfl
theorem wd_169 : Cond.fieldLink "LifeNoes" 255 "LifeNoes$Sheet" "items" "[I" ∈ gT := gin_1 (List.mem_of_getElem? (i := 169) rfl) rfl
theorem wd_170 : Cond.lays "LifeNoes$Sheet" "LifeNoes$Sheet" "sort" "I" ∈ gT := gin_1 (List.mem_of_getElem? (i := 170) rfl) rfl
theorem wd_171 : Cond.soleField "LifeNoes$Sheet" "sort" ∈ gT := gin_1 (List.mem_of_getElem? (i := 171) rfl) rfl
theorem wd_172 : Cond.lays "LifeNoes$Sheet" "LifeNoes$Sheet" "length" "I" ∈ gT := gin_1 (List.mem_of_getElem? (i := 172) rfl) rfl
theorem wd_173 : Cond.soleField "LifeNoes$Sheet" "length" ∈ gT := gin_1 (List.mem_of_getElem? (i := 173) rfl) rfl
theorem wd_174 : Cond.laysFinal "LifeNoes$Sheet" "LifeNoes$Sheet" "items" "[I" ∈ gT := gin_1 (List.mem_of_getElem? (i := 174) rfl) rfl
theorem wd_175 : Cond.soleField "LifeNoes$Sheet" "items" ∈ gT := gin_1 (List.mem_of_getElem? (i := 175) rfl) rfl
theorem wd_176 : Cond.superclass "LifeNoes$Sheet" "java/lang/Object" ∈ gT := gin_1 (List.mem_of_getElem? (i := 176) rfl) rfl
theorem wd_177 : Cond.classLink "LifeNoes" 78 "LifeNoes$Trace" ∈ gT := gin_1 (List.mem_of_getElem? (i := 177) rfl) rfl
theorem wd_178 : Cond.instantiable "LifeNoes$Trace" 3 ∈ gT := gin_1 (List.mem_of_getElem? (i := 178) rfl) rfl
theorem wd_180 : Cond.instanceMethod ⟨"LifeNoes$Trace", "<init>", "()V"⟩ ∈ gT := gin_1 (List.mem_of_getElem? (i := 180) rfl) rfl
theorem wd_181 : Cond.code ⟨"LifeNoes$Trace", "<init>", "()V"⟩ prog_10_method_1_code 1 none ∈ gT := gin_1 (List.mem_of_getElem? (i := 181) rfl) rfl
theorem wd_182 : Cond.methodLink "LifeNoes$Trace" 3 ⟨"java/lang/Object", "<init>", "()V"⟩ ∈ gT := gin_1 (List.mem_of_getElem? (i := 182) rfl) rfl
theorem wd_183 : Cond.fieldLink "LifeNoes$Trace" 9 "LifeNoes$Trace" "numbers" "[I" ∈ gT := gin_1 (List.mem_of_getElem? (i := 183) rfl) rfl
theorem wd_184 : Cond.fieldLink "LifeNoes" 304 "LifeNoes$Trace" "numbers" "[I" ∈ gT := gin_1 (List.mem_of_getElem? (i := 184) rfl) rfl
theorem wd_185 : Cond.fieldLink "LifeNoes$Trace" 15 "LifeNoes$Trace" "count" "I" ∈ gT := gin_1 (List.mem_of_getElem? (i := 185) rfl) rfl
theorem wd_186 : Cond.fieldLink "LifeNoes" 301 "LifeNoes$Trace" "count" "I" ∈ gT := gin_1 (List.mem_of_getElem? (i := 186) rfl) rfl
theorem wd_187 : Cond.fieldLink "LifeNoes$Trace" 19 "LifeNoes$Trace" "parted" "Z" ∈ gT := gin_1 (List.mem_of_getElem? (i := 187) rfl) rfl
theorem wd_188 : Cond.fieldLink "LifeNoes$Told" 26 "LifeNoes$Trace" "parted" "Z" ∈ gT := gin_1 (List.mem_of_getElem? (i := 188) rfl) rfl
theorem wd_189 : Cond.fieldLink "LifeNoes$Sayer" 30 "LifeNoes$Trace" "parted" "Z" ∈ gT := gin_1 (List.mem_of_getElem? (i := 189) rfl) rfl
theorem wd_190 : Cond.fieldLink "LifeNoes" 298 "LifeNoes$Trace" "parted" "Z" ∈ gT := gin_1 (List.mem_of_getElem? (i := 190) rfl) rfl
theorem wd_191 : Cond.laysFinal "LifeNoes$Trace" "LifeNoes$Trace" "numbers" "[I" ∈ gT := gin_1 (List.mem_of_getElem? (i := 191) rfl) rfl
theorem wd_192 : Cond.soleField "LifeNoes$Trace" "numbers" ∈ gT := gin_1 (List.mem_of_getElem? (i := 192) rfl) rfl
theorem wd_193 : Cond.lays "LifeNoes$Trace" "LifeNoes$Trace" "count" "I" ∈ gT := gin_1 (List.mem_of_getElem? (i := 193) rfl) rfl
theorem wd_194 : Cond.soleField "LifeNoes$Trace" "count" ∈ gT := gin_1 (List.mem_of_getElem? (i := 194) rfl) rfl
theorem wd_195 : Cond.lays "LifeNoes$Trace" "LifeNoes$Trace" "parted" "Z" ∈ gT := gin_1 (List.mem_of_getElem? (i := 195) rfl) rfl
theorem wd_196 : Cond.soleField "LifeNoes$Trace" "parted" ∈ gT := gin_1 (List.mem_of_getElem? (i := 196) rfl) rfl
theorem wd_197 : Cond.superclass "LifeNoes$Trace" "java/lang/Object" ∈ gT := gin_1 (List.mem_of_getElem? (i := 197) rfl) rfl
theorem wd_198 : Cond.instantiable "LifeNoes$Sayer" 3 ∈ gT := gin_1 (List.mem_of_getElem? (i := 198) rfl) rfl
theorem wd_199 : Cond.methodLink "LifeNoes" 81 ⟨"LifeNoes$Sayer", "<init>", "(LLifeNoes$Trace;)V"⟩ ∈ gT := gin_1 (List.mem_of_getElem? (i := 199) rfl) rfl
theorem wd_200 : Cond.instanceMethod ⟨"LifeNoes$Sayer", "<init>", "(LLifeNoes$Trace;)V"⟩ ∈ gT := gin_1 (List.mem_of_getElem? (i := 200) rfl) rfl
theorem wd_201 : Cond.code ⟨"LifeNoes$Sayer", "<init>", "(LLifeNoes$Trace;)V"⟩ prog_6_method_1_code 2 none ∈ gT := gin_1 (List.mem_of_getElem? (i := 201) rfl) rfl
theorem wd_202 : Cond.methodLink "LifeNoes$Sayer" 1 ⟨"java/lang/Object", "<init>", "()V"⟩ ∈ gT := gin_1 (List.mem_of_getElem? (i := 202) rfl) rfl
theorem wd_203 : Cond.fieldLink "LifeNoes$Sayer" 16 "LifeNoes$Sayer" "trace" "LLifeNoes$Trace;" ∈ gT := gin_1 (List.mem_of_getElem? (i := 203) rfl) rfl
theorem wd_204 : Cond.fieldLink "LifeNoes$Bar" 7 "LifeNoes$Bar" "trace" "LLifeNoes$Trace;" ∈ gT := gin_1 (List.mem_of_getElem? (i := 204) rfl) rfl
theorem wd_205 : Cond.sameField "LifeNoes$Bar" "LifeNoes$Sayer" "trace" "LLifeNoes$Trace;" ∈ gT := gin_1 (List.mem_of_getElem? (i := 205) rfl) rfl
theorem wd_206 : Cond.fieldLink "LifeNoes$League" 7 "LifeNoes$League" "trace" "LLifeNoes$Trace;" ∈ gT := gin_1 (List.mem_of_getElem? (i := 206) rfl) rfl
theorem wd_207 : Cond.sameField "LifeNoes$League" "LifeNoes$Sayer" "trace" "LLifeNoes$Trace;" ∈ gT := gin_1 (List.mem_of_getElem? (i := 207) rfl) rfl
theorem wd_208 : Cond.fieldLink "LifeNoes$Wait" 7 "LifeNoes$Wait" "trace" "LLifeNoes$Trace;" ∈ gT := gin_1 (List.mem_of_getElem? (i := 208) rfl) rfl
theorem wd_209 : Cond.sameField "LifeNoes$Wait" "LifeNoes$Sayer" "trace" "LLifeNoes$Trace;" ∈ gT := gin_1 (List.mem_of_getElem? (i := 209) rfl) rfl
theorem wd_210 : Cond.fieldLink "LifeNoes$Quick" 7 "LifeNoes$Quick" "trace" "LLifeNoes$Trace;" ∈ gT := gin_1 (List.mem_of_getElem? (i := 210) rfl) rfl
theorem wd_211 : Cond.sameField "LifeNoes$Quick" "LifeNoes$Sayer" "trace" "LLifeNoes$Trace;" ∈ gT := gin_1 (List.mem_of_getElem? (i := 211) rfl) rfl
theorem wd_212 : Cond.fieldLink "LifeNoes$Told" 7 "LifeNoes$Told" "trace" "LLifeNoes$Trace;" ∈ gT := gin_1 (List.mem_of_getElem? (i := 212) rfl) rfl
theorem wd_213 : Cond.sameField "LifeNoes$Told" "LifeNoes$Sayer" "trace" "LLifeNoes$Trace;" ∈ gT := gin_1 (List.mem_of_getElem? (i := 213) rfl) rfl
theorem wd_214 : Cond.fieldLink "LifeNoes$Sayer" 7 "LifeNoes$Sayer" "n" "I" ∈ gT := gin_1 (List.mem_of_getElem? (i := 214) rfl) rfl
theorem wd_215 : Cond.fieldLink "LifeNoes$League" 23 "LifeNoes$League" "n" "I" ∈ gT := gin_1 (List.mem_of_getElem? (i := 215) rfl) rfl
theorem wd_216 : Cond.sameField "LifeNoes$League" "LifeNoes$Sayer" "n" "I" ∈ gT := gin_1 (List.mem_of_getElem? (i := 216) rfl) rfl
theorem wd_217 : Cond.fieldLink "LifeNoes$Wait" 26 "LifeNoes$Wait" "n" "I" ∈ gT := gin_1 (List.mem_of_getElem? (i := 217) rfl) rfl
theorem wd_218 : Cond.sameField "LifeNoes$Wait" "LifeNoes$Sayer" "n" "I" ∈ gT := gin_1 (List.mem_of_getElem? (i := 218) rfl) rfl
theorem wd_219 : Cond.fieldLink "LifeNoes$Bar" 26 "LifeNoes$Bar" "n" "I" ∈ gT := gin_1 (List.mem_of_getElem? (i := 219) rfl) rfl
theorem wd_220 : Cond.sameField "LifeNoes$Bar" "LifeNoes$Sayer" "n" "I" ∈ gT := gin_1 (List.mem_of_getElem? (i := 220) rfl) rfl
theorem wd_221 : Cond.fieldLink "LifeNoes" 280 "LifeNoes$Sayer" "n" "I" ∈ gT := gin_1 (List.mem_of_getElem? (i := 221) rfl) rfl
theorem wd_222 : Cond.fieldLink "LifeNoes$Sayer" 13 "LifeNoes$Sayer" "a" "I" ∈ gT := gin_1 (List.mem_of_getElem? (i := 222) rfl) rfl
theorem wd_223 : Cond.fieldLink "LifeNoes$Quick" 23 "LifeNoes$Quick" "a" "I" ∈ gT := gin_1 (List.mem_of_getElem? (i := 223) rfl) rfl
theorem wd_224 : Cond.sameField "LifeNoes$Quick" "LifeNoes$Sayer" "a" "I" ∈ gT := gin_1 (List.mem_of_getElem? (i := 224) rfl) rfl
theorem wd_225 : Cond.fieldLink "LifeNoes$Told" 30 "LifeNoes$Told" "a" "I" ∈ gT := gin_1 (List.mem_of_getElem? (i := 225) rfl) rfl
theorem wd_226 : Cond.sameField "LifeNoes$Told" "LifeNoes$Sayer" "a" "I" ∈ gT := gin_1 (List.mem_of_getElem? (i := 226) rfl) rfl
theorem wd_227 : Cond.fieldLink "LifeNoes" 331 "LifeNoes$Sayer" "a" "I" ∈ gT := gin_1 (List.mem_of_getElem? (i := 227) rfl) rfl
theorem wd_228 : Cond.laysFinal "LifeNoes$Sayer" "LifeNoes$Sayer" "trace" "LLifeNoes$Trace;" ∈ gT := gin_1 (List.mem_of_getElem? (i := 228) rfl) rfl
theorem wd_229 : Cond.soleField "LifeNoes$Sayer" "trace" ∈ gT := gin_1 (List.mem_of_getElem? (i := 229) rfl) rfl
theorem wd_230 : Cond.lays "LifeNoes$Sayer" "LifeNoes$Sayer" "n" "I" ∈ gT := gin_1 (List.mem_of_getElem? (i := 230) rfl) rfl
theorem wd_231 : Cond.soleField "LifeNoes$Sayer" "n" ∈ gT := gin_1 (List.mem_of_getElem? (i := 231) rfl) rfl
theorem wd_232 : Cond.lays "LifeNoes$Sayer" "LifeNoes$Sayer" "a" "I" ∈ gT := gin_1 (List.mem_of_getElem? (i := 232) rfl) rfl
theorem wd_233 : Cond.soleField "LifeNoes$Sayer" "a" ∈ gT := gin_1 (List.mem_of_getElem? (i := 233) rfl) rfl
theorem wd_234 : Cond.superclass "LifeNoes$Sayer" "java/lang/Object" ∈ gT := gin_1 (List.mem_of_getElem? (i := 234) rfl) rfl
theorem wd_235 : Cond.classLink "LifeNoes" 84 "LifeNoes$Quick" ∈ gT := gin_1 (List.mem_of_getElem? (i := 235) rfl) rfl
theorem wd_236 : Cond.instantiable "LifeNoes$Quick" 3 ∈ gT := gin_1 (List.mem_of_getElem? (i := 236) rfl) rfl
theorem wd_237 : Cond.methodLink "LifeNoes" 86 ⟨"LifeNoes$Quick", "<init>", "(LLifeNoes$Trace;)V"⟩ ∈ gT := gin_1 (List.mem_of_getElem? (i := 237) rfl) rfl
theorem wd_238 : Cond.instanceMethod ⟨"LifeNoes$Quick", "<init>", "(LLifeNoes$Trace;)V"⟩ ∈ gT := gin_1 (List.mem_of_getElem? (i := 238) rfl) rfl
theorem wd_239 : Cond.code ⟨"LifeNoes$Quick", "<init>", "(LLifeNoes$Trace;)V"⟩ prog_5_method_1_code 2 none ∈ gT := gin_1 (List.mem_of_getElem? (i := 239) rfl) rfl
theorem wd_240 : Cond.methodLink "LifeNoes$Quick" 1 ⟨"LifeNoes$Sayer", "<init>", "(LLifeNoes$Trace;)V"⟩ ∈ gT := gin_2 (List.mem_of_getElem? (i := 0) rfl) rfl
theorem wd_241 : Cond.laysFinal "LifeNoes$Quick" "LifeNoes$Sayer" "trace" "LLifeNoes$Trace;" ∈ gT := gin_2 (List.mem_of_getElem? (i := 1) rfl) rfl
theorem wd_242 : Cond.lays "LifeNoes$Quick" "LifeNoes$Sayer" "n" "I" ∈ gT := gin_2 (List.mem_of_getElem? (i := 2) rfl) rfl
theorem wd_243 : Cond.lays "LifeNoes$Quick" "LifeNoes$Sayer" "a" "I" ∈ gT := gin_2 (List.mem_of_getElem? (i := 3) rfl) rfl
theorem wd_244 : Cond.superclass "LifeNoes$Quick" "LifeNoes$Sayer" ∈ gT := gin_2 (List.mem_of_getElem? (i := 4) rfl) rfl
theorem wd_245 : Cond.classLink "LifeNoes" 87 "LifeNoes$Bar" ∈ gT := gin_2 (List.mem_of_getElem? (i := 5) rfl) rfl
theorem wd_246 : Cond.instantiable "LifeNoes$Bar" 3 ∈ gT := gin_2 (List.mem_of_getElem? (i := 6) rfl) rfl
theorem wd_247 : Cond.methodLink "LifeNoes" 89 ⟨"LifeNoes$Bar", "<init>", "(LLifeNoes$Trace;)V"⟩ ∈ gT := gin_2 (List.mem_of_getElem? (i := 7) rfl) rfl
theorem wd_248 : Cond.instanceMethod ⟨"LifeNoes$Bar", "<init>", "(LLifeNoes$Trace;)V"⟩ ∈ gT := gin_2 (List.mem_of_getElem? (i := 8) rfl) rfl
theorem wd_249 : Cond.code ⟨"LifeNoes$Bar", "<init>", "(LLifeNoes$Trace;)V"⟩ prog_3_method_1_code 2 none ∈ gT := gin_2 (List.mem_of_getElem? (i := 9) rfl) rfl
theorem wd_250 : Cond.methodLink "LifeNoes$Bar" 1 ⟨"LifeNoes$Sayer", "<init>", "(LLifeNoes$Trace;)V"⟩ ∈ gT := gin_2 (List.mem_of_getElem? (i := 10) rfl) rfl
theorem wd_251 : Cond.laysFinal "LifeNoes$Bar" "LifeNoes$Sayer" "trace" "LLifeNoes$Trace;" ∈ gT := gin_2 (List.mem_of_getElem? (i := 11) rfl) rfl
theorem wd_252 : Cond.lays "LifeNoes$Bar" "LifeNoes$Sayer" "n" "I" ∈ gT := gin_2 (List.mem_of_getElem? (i := 12) rfl) rfl
theorem wd_253 : Cond.lays "LifeNoes$Bar" "LifeNoes$Sayer" "a" "I" ∈ gT := gin_2 (List.mem_of_getElem? (i := 13) rfl) rfl
theorem wd_254 : Cond.superclass "LifeNoes$Bar" "LifeNoes$Sayer" ∈ gT := gin_2 (List.mem_of_getElem? (i := 14) rfl) rfl
theorem wd_255 : Cond.classLink "LifeNoes" 90 "LifeNoes$Wait" ∈ gT := gin_2 (List.mem_of_getElem? (i := 15) rfl) rfl
theorem wd_256 : Cond.instantiable "LifeNoes$Wait" 3 ∈ gT := gin_2 (List.mem_of_getElem? (i := 16) rfl) rfl
theorem wd_257 : Cond.methodLink "LifeNoes" 92 ⟨"LifeNoes$Wait", "<init>", "(LLifeNoes$Trace;)V"⟩ ∈ gT := gin_2 (List.mem_of_getElem? (i := 17) rfl) rfl
theorem wd_258 : Cond.instanceMethod ⟨"LifeNoes$Wait", "<init>", "(LLifeNoes$Trace;)V"⟩ ∈ gT := gin_2 (List.mem_of_getElem? (i := 18) rfl) rfl
theorem wd_259 : Cond.code ⟨"LifeNoes$Wait", "<init>", "(LLifeNoes$Trace;)V"⟩ prog_12_method_1_code 2 none ∈ gT := gin_2 (List.mem_of_getElem? (i := 19) rfl) rfl
theorem wd_260 : Cond.methodLink "LifeNoes$Wait" 1 ⟨"LifeNoes$Bar", "<init>", "(LLifeNoes$Trace;)V"⟩ ∈ gT := gin_2 (List.mem_of_getElem? (i := 20) rfl) rfl
theorem wd_261 : Cond.laysFinal "LifeNoes$Wait" "LifeNoes$Sayer" "trace" "LLifeNoes$Trace;" ∈ gT := gin_2 (List.mem_of_getElem? (i := 21) rfl) rfl
theorem wd_262 : Cond.lays "LifeNoes$Wait" "LifeNoes$Sayer" "n" "I" ∈ gT := gin_2 (List.mem_of_getElem? (i := 22) rfl) rfl
theorem wd_263 : Cond.lays "LifeNoes$Wait" "LifeNoes$Sayer" "a" "I" ∈ gT := gin_2 (List.mem_of_getElem? (i := 23) rfl) rfl
theorem wd_264 : Cond.superclass "LifeNoes$Wait" "LifeNoes$Bar" ∈ gT := gin_2 (List.mem_of_getElem? (i := 24) rfl) rfl
theorem wd_265 : Cond.classLink "LifeNoes" 93 "LifeNoes$League" ∈ gT := gin_2 (List.mem_of_getElem? (i := 25) rfl) rfl
theorem wd_266 : Cond.instantiable "LifeNoes$League" 3 ∈ gT := gin_2 (List.mem_of_getElem? (i := 26) rfl) rfl
theorem wd_267 : Cond.methodLink "LifeNoes" 95 ⟨"LifeNoes$League", "<init>", "(LLifeNoes$Trace;)V"⟩ ∈ gT := gin_2 (List.mem_of_getElem? (i := 27) rfl) rfl
theorem wd_268 : Cond.instanceMethod ⟨"LifeNoes$League", "<init>", "(LLifeNoes$Trace;)V"⟩ ∈ gT := gin_2 (List.mem_of_getElem? (i := 28) rfl) rfl
theorem wd_269 : Cond.code ⟨"LifeNoes$League", "<init>", "(LLifeNoes$Trace;)V"⟩ prog_4_method_1_code 2 none ∈ gT := gin_2 (List.mem_of_getElem? (i := 29) rfl) rfl
theorem wd_270 : Cond.methodLink "LifeNoes$League" 1 ⟨"LifeNoes$Quick", "<init>", "(LLifeNoes$Trace;)V"⟩ ∈ gT := gin_2 (List.mem_of_getElem? (i := 30) rfl) rfl
theorem wd_271 : Cond.laysFinal "LifeNoes$League" "LifeNoes$Sayer" "trace" "LLifeNoes$Trace;" ∈ gT := gin_2 (List.mem_of_getElem? (i := 31) rfl) rfl
theorem wd_272 : Cond.lays "LifeNoes$League" "LifeNoes$Sayer" "n" "I" ∈ gT := gin_2 (List.mem_of_getElem? (i := 32) rfl) rfl
theorem wd_273 : Cond.lays "LifeNoes$League" "LifeNoes$Sayer" "a" "I" ∈ gT := gin_2 (List.mem_of_getElem? (i := 33) rfl) rfl
theorem wd_274 : Cond.superclass "LifeNoes$League" "LifeNoes$Quick" ∈ gT := gin_2 (List.mem_of_getElem? (i := 34) rfl) rfl
theorem wd_275 : Cond.classLink "LifeNoes" 96 "LifeNoes$Told" ∈ gT := gin_2 (List.mem_of_getElem? (i := 35) rfl) rfl
theorem wd_276 : Cond.instantiable "LifeNoes$Told" 3 ∈ gT := gin_2 (List.mem_of_getElem? (i := 36) rfl) rfl
theorem wd_277 : Cond.methodLink "LifeNoes" 98 ⟨"LifeNoes$Told", "<init>", "(LLifeNoes$Trace;)V"⟩ ∈ gT := gin_2 (List.mem_of_getElem? (i := 37) rfl) rfl
theorem wd_278 : Cond.instanceMethod ⟨"LifeNoes$Told", "<init>", "(LLifeNoes$Trace;)V"⟩ ∈ gT := gin_2 (List.mem_of_getElem? (i := 38) rfl) rfl
theorem wd_279 : Cond.code ⟨"LifeNoes$Told", "<init>", "(LLifeNoes$Trace;)V"⟩ prog_9_method_1_code 2 none ∈ gT := gin_2 (List.mem_of_getElem? (i := 39) rfl) rfl
theorem wd_280 : Cond.methodLink "LifeNoes$Told" 1 ⟨"LifeNoes$Sayer", "<init>", "(LLifeNoes$Trace;)V"⟩ ∈ gT := gin_2 (List.mem_of_getElem? (i := 40) rfl) rfl
theorem wd_281 : Cond.laysFinal "LifeNoes$Told" "LifeNoes$Sayer" "trace" "LLifeNoes$Trace;" ∈ gT := gin_2 (List.mem_of_getElem? (i := 41) rfl) rfl
theorem wd_282 : Cond.lays "LifeNoes$Told" "LifeNoes$Sayer" "n" "I" ∈ gT := gin_2 (List.mem_of_getElem? (i := 42) rfl) rfl
theorem wd_283 : Cond.lays "LifeNoes$Told" "LifeNoes$Sayer" "a" "I" ∈ gT := gin_2 (List.mem_of_getElem? (i := 43) rfl) rfl
theorem wd_284 : Cond.superclass "LifeNoes$Told" "LifeNoes$Sayer" ∈ gT := gin_2 (List.mem_of_getElem? (i := 44) rfl) rfl
theorem wd_285 : Cond.fieldLink "LifeNoes" 10 "LifeNoes" "now" "LLifeNoes$Village;" ∈ gT := gin_2 (List.mem_of_getElem? (i := 45) rfl) rfl
theorem wd_286 : Cond.fieldLink "LifeNoes" 16 "LifeNoes" "kept" "LLifeNoes$Village;" ∈ gT := gin_2 (List.mem_of_getElem? (i := 46) rfl) rfl
theorem wd_287 : Cond.fieldLink "LifeNoes" 19 "LifeNoes" "isKept" "Z" ∈ gT := gin_2 (List.mem_of_getElem? (i := 47) rfl) rfl
theorem wd_288 : Cond.fieldLink "LifeNoes" 26 "LifeNoes" "ahead" "LLifeNoes$Ahead;" ∈ gT := gin_2 (List.mem_of_getElem? (i := 48) rfl) rfl
theorem wd_289 : Cond.fieldLink "LifeNoes" 33 "LifeNoes" "reader" "LLifeNoes$TextReader;" ∈ gT := gin_2 (List.mem_of_getElem? (i := 49) rfl) rfl
theorem wd_290 : Cond.fieldLink "LifeNoes" 37 "LifeNoes" "tape" "[I" ∈ gT := gin_2 (List.mem_of_getElem? (i := 50) rfl) rfl
theorem wd_291 : Cond.fieldLink "LifeNoes" 41 "LifeNoes" "tapeLength" "I" ∈ gT := gin_2 (List.mem_of_getElem? (i := 51) rfl) rfl
theorem wd_292 : Cond.fieldLink "LifeNoes" 47 "LifeNoes" "rows" "[[I" ∈ gT := gin_2 (List.mem_of_getElem? (i := 52) rfl) rfl
theorem wd_293 : Cond.fieldLink "LifeNoes" 50 "LifeNoes" "dueRows" "[[I" ∈ gT := gin_2 (List.mem_of_getElem? (i := 53) rfl) rfl
theorem wd_294 : Cond.fieldLink "LifeNoes" 53 "LifeNoes" "rowCount" "I" ∈ gT := gin_2 (List.mem_of_getElem? (i := 54) rfl) rfl
theorem wd_295 : Cond.fieldLink "LifeNoes" 58 "LifeNoes" "sheets" "[LLifeNoes$Sheet;" ∈ gT := gin_2 (List.mem_of_getElem? (i := 55) rfl) rfl
theorem wd_296 : Cond.fieldLink "LifeNoes" 62 "LifeNoes" "shelfHolds" "[I" ∈ gT := gin_2 (List.mem_of_getElem? (i := 56) rfl) rfl
theorem wd_297 : Cond.fieldLink "LifeNoes" 65 "LifeNoes" "shelfNumber" "[I" ∈ gT := gin_2 (List.mem_of_getElem? (i := 57) rfl) rfl
theorem wd_298 : Cond.fieldLink "LifeNoes" 68 "LifeNoes" "shelfLength" "[I" ∈ gT := gin_2 (List.mem_of_getElem? (i := 58) rfl) rfl
theorem wd_299 : Cond.fieldLink "LifeNoes" 73 "LifeNoes" "things" "[LLifeNoes$Sayer;" ∈ gT := gin_2 (List.mem_of_getElem? (i := 59) rfl) rfl
theorem wd_300 : Cond.fieldLink "LifeNoes" 99 "LifeNoes" "bodies" "LLifeNoes$Trace;" ∈ gT := gin_2 (List.mem_of_getElem? (i := 60) rfl) rfl
theorem wd_301 : Cond.laysFinal "LifeNoes" "LifeNoes" "now" "LLifeNoes$Village;" ∈ gT := gin_2 (List.mem_of_getElem? (i := 61) rfl) rfl
theorem wd_302 : Cond.soleField "LifeNoes" "now" ∈ gT := gin_2 (List.mem_of_getElem? (i := 62) rfl) rfl
theorem wd_303 : Cond.laysFinal "LifeNoes" "LifeNoes" "kept" "LLifeNoes$Village;" ∈ gT := gin_2 (List.mem_of_getElem? (i := 63) rfl) rfl
theorem wd_304 : Cond.soleField "LifeNoes" "kept" ∈ gT := gin_2 (List.mem_of_getElem? (i := 64) rfl) rfl
theorem wd_305 : Cond.lays "LifeNoes" "LifeNoes" "isKept" "Z" ∈ gT := gin_2 (List.mem_of_getElem? (i := 65) rfl) rfl
theorem wd_306 : Cond.soleField "LifeNoes" "isKept" ∈ gT := gin_2 (List.mem_of_getElem? (i := 66) rfl) rfl
theorem wd_307 : Cond.laysFinal "LifeNoes" "LifeNoes" "ahead" "LLifeNoes$Ahead;" ∈ gT := gin_2 (List.mem_of_getElem? (i := 67) rfl) rfl
theorem wd_308 : Cond.soleField "LifeNoes" "ahead" ∈ gT := gin_2 (List.mem_of_getElem? (i := 68) rfl) rfl
theorem wd_309 : Cond.laysFinal "LifeNoes" "LifeNoes" "reader" "LLifeNoes$TextReader;" ∈ gT := gin_2 (List.mem_of_getElem? (i := 69) rfl) rfl
theorem wd_310 : Cond.soleField "LifeNoes" "reader" ∈ gT := gin_2 (List.mem_of_getElem? (i := 70) rfl) rfl
theorem wd_311 : Cond.laysFinal "LifeNoes" "LifeNoes" "tape" "[I" ∈ gT := gin_2 (List.mem_of_getElem? (i := 71) rfl) rfl
theorem wd_312 : Cond.soleField "LifeNoes" "tape" ∈ gT := gin_2 (List.mem_of_getElem? (i := 72) rfl) rfl
theorem wd_313 : Cond.lays "LifeNoes" "LifeNoes" "tapeLength" "I" ∈ gT := gin_2 (List.mem_of_getElem? (i := 73) rfl) rfl
theorem wd_314 : Cond.soleField "LifeNoes" "tapeLength" ∈ gT := gin_2 (List.mem_of_getElem? (i := 74) rfl) rfl
theorem wd_315 : Cond.laysFinal "LifeNoes" "LifeNoes" "rows" "[[I" ∈ gT := gin_2 (List.mem_of_getElem? (i := 75) rfl) rfl
theorem wd_316 : Cond.soleField "LifeNoes" "rows" ∈ gT := gin_2 (List.mem_of_getElem? (i := 76) rfl) rfl
theorem wd_317 : Cond.laysFinal "LifeNoes" "LifeNoes" "dueRows" "[[I" ∈ gT := gin_2 (List.mem_of_getElem? (i := 77) rfl) rfl
theorem wd_318 : Cond.soleField "LifeNoes" "dueRows" ∈ gT := gin_2 (List.mem_of_getElem? (i := 78) rfl) rfl
theorem wd_319 : Cond.lays "LifeNoes" "LifeNoes" "rowCount" "I" ∈ gT := gin_2 (List.mem_of_getElem? (i := 79) rfl) rfl
theorem wd_320 : Cond.soleField "LifeNoes" "rowCount" ∈ gT := gin_2 (List.mem_of_getElem? (i := 80) rfl) rfl
theorem wd_321 : Cond.laysFinal "LifeNoes" "LifeNoes" "sheets" "[LLifeNoes$Sheet;" ∈ gT := gin_2 (List.mem_of_getElem? (i := 81) rfl) rfl
theorem wd_322 : Cond.soleField "LifeNoes" "sheets" ∈ gT := gin_2 (List.mem_of_getElem? (i := 82) rfl) rfl
theorem wd_323 : Cond.laysFinal "LifeNoes" "LifeNoes" "shelfHolds" "[I" ∈ gT := gin_2 (List.mem_of_getElem? (i := 83) rfl) rfl
theorem wd_324 : Cond.soleField "LifeNoes" "shelfHolds" ∈ gT := gin_2 (List.mem_of_getElem? (i := 84) rfl) rfl
theorem wd_325 : Cond.laysFinal "LifeNoes" "LifeNoes" "shelfNumber" "[I" ∈ gT := gin_2 (List.mem_of_getElem? (i := 85) rfl) rfl
theorem wd_326 : Cond.soleField "LifeNoes" "shelfNumber" ∈ gT := gin_2 (List.mem_of_getElem? (i := 86) rfl) rfl
theorem wd_327 : Cond.laysFinal "LifeNoes" "LifeNoes" "shelfLength" "[I" ∈ gT := gin_2 (List.mem_of_getElem? (i := 87) rfl) rfl
theorem wd_328 : Cond.soleField "LifeNoes" "shelfLength" ∈ gT := gin_2 (List.mem_of_getElem? (i := 88) rfl) rfl
theorem wd_329 : Cond.laysFinal "LifeNoes" "LifeNoes" "things" "[LLifeNoes$Sayer;" ∈ gT := gin_2 (List.mem_of_getElem? (i := 89) rfl) rfl
theorem wd_330 : Cond.soleField "LifeNoes" "things" ∈ gT := gin_2 (List.mem_of_getElem? (i := 90) rfl) rfl
theorem wd_331 : Cond.laysFinal "LifeNoes" "LifeNoes" "bodies" "LLifeNoes$Trace;" ∈ gT := gin_2 (List.mem_of_getElem? (i := 91) rfl) rfl
theorem wd_332 : Cond.soleField "LifeNoes" "bodies" ∈ gT := gin_2 (List.mem_of_getElem? (i := 92) rfl) rfl
theorem wd_333 : Cond.superclass "LifeNoes" "java/lang/Object" ∈ gT := gin_2 (List.mem_of_getElem? (i := 93) rfl) rfl
theorem wd_334 : Cond.methodLink "LifeNoesLaw" 15 ⟨"LifeNoes", "feed", "(JI)I"⟩ ∈ gT := gin_2 (List.mem_of_getElem? (i := 94) rfl) rfl
theorem wd_335 : Cond.instanceMethod ⟨"LifeNoes", "feed", "(JI)I"⟩ ∈ gT := gin_2 (List.mem_of_getElem? (i := 95) rfl) rfl
theorem wd_336 : Cond.selects "LifeNoes" ⟨"LifeNoes", "feed", "(JI)I"⟩ ⟨"LifeNoes", "feed", "(JI)I"⟩ ∈ gT := gin_2 (List.mem_of_getElem? (i := 96) rfl) rfl
theorem wd_337 : Cond.code ⟨"LifeNoes", "feed", "(JI)I"⟩ prog_1_method_2_code 5 (some .int) ∈ gT := gin_2 (List.mem_of_getElem? (i := 97) rfl) rfl
theorem wd_338 : Cond.methodLink "LifeNoes" 103 ⟨"LifeNoes", "within", "(III)Z"⟩ ∈ gT := gin_2 (List.mem_of_getElem? (i := 98) rfl) rfl
theorem wd_339 : Cond.static ⟨"LifeNoes", "within", "(III)Z"⟩ ∈ gT := gin_2 (List.mem_of_getElem? (i := 99) rfl) rfl
theorem wd_340 : Cond.code ⟨"LifeNoes", "within", "(III)Z"⟩ prog_1_method_44_code 3 (some .boolean) ∈ gT := gin_2 (List.mem_of_getElem? (i := 100) rfl) rfl
theorem wd_341 : Cond.methodLink "LifeNoesLaw" 20 ⟨"LifeNoes", "village", "()I"⟩ ∈ gT := gin_2 (List.mem_of_getElem? (i := 101) rfl) rfl
theorem wd_342 : Cond.instanceMethod ⟨"LifeNoes", "village", "()I"⟩ ∈ gT := gin_2 (List.mem_of_getElem? (i := 102) rfl) rfl
theorem wd_343 : Cond.selects "LifeNoes" ⟨"LifeNoes", "village", "()I"⟩ ⟨"LifeNoes", "village", "()I"⟩ ∈ gT := gin_2 (List.mem_of_getElem? (i := 103) rfl) rfl
theorem wd_344 : Cond.code ⟨"LifeNoes", "village", "()I"⟩ prog_1_method_3_code 3 (some .int) ∈ gT := gin_2 (List.mem_of_getElem? (i := 104) rfl) rfl
theorem wd_345 : Cond.methodLink "LifeNoes" 107 ⟨"LifeNoes$TextReader", "readText", "([II)Z"⟩ ∈ gT := gin_2 (List.mem_of_getElem? (i := 105) rfl) rfl
theorem wd_346 : Cond.instanceMethod ⟨"LifeNoes$TextReader", "readText", "([II)Z"⟩ ∈ gT := gin_2 (List.mem_of_getElem? (i := 106) rfl) rfl
theorem wd_347 : Cond.selects "LifeNoes$TextReader" ⟨"LifeNoes$TextReader", "readText", "([II)Z"⟩ ⟨"LifeNoes$TextReader", "readText", "([II)Z"⟩ ∈ gT := gin_2 (List.mem_of_getElem? (i := 107) rfl) rfl
theorem wd_348 : Cond.code ⟨"LifeNoes$TextReader", "readText", "([II)Z"⟩ prog_8_method_2_code 4 (some .boolean) ∈ gT := gin_2 (List.mem_of_getElem? (i := 108) rfl) rfl
theorem wd_349 : Cond.methodLink "LifeNoes$TextReader" 38 ⟨"java/lang/Math", "min", "(II)I"⟩ ∈ gT := gin_2 (List.mem_of_getElem? (i := 109) rfl) rfl
theorem wd_350 : Cond.static ⟨"java/lang/Math", "min", "(II)I"⟩ ∈ gT := gin_2 (List.mem_of_getElem? (i := 110) rfl) rfl
theorem wd_351 : Cond.code ⟨"java/lang/Math", "min", "(II)I"⟩ prog_16_method_69_code 2 (some .int) ∈ gT := gin_2 (List.mem_of_getElem? (i := 111) rfl) rfl
theorem wd_352 : Cond.methodLink "LifeNoes$TextReader" 44 ⟨"java/lang/Math", "max", "(II)I"⟩ ∈ gT := gin_2 (List.mem_of_getElem? (i := 112) rfl) rfl
theorem wd_353 : Cond.static ⟨"java/lang/Math", "max", "(II)I"⟩ ∈ gT := gin_2 (List.mem_of_getElem? (i := 113) rfl) rfl
theorem wd_354 : Cond.code ⟨"java/lang/Math", "max", "(II)I"⟩ prog_16_method_65_code 2 (some .int) ∈ gT := gin_2 (List.mem_of_getElem? (i := 114) rfl) rfl
theorem wd_355 : Cond.methodLink "LifeNoes$TextReader" 47 ⟨"java/lang/System", "arraycopy", "(Ljava/lang/Object;ILjava/lang/Object;II)V"⟩ ∈ gT := gin_2 (List.mem_of_getElem? (i := 115) rfl) rfl
theorem wd_356 : Cond.static ⟨"java/lang/System", "arraycopy", "(Ljava/lang/Object;ILjava/lang/Object;II)V"⟩ ∈ gT := gin_2 (List.mem_of_getElem? (i := 116) rfl) rfl
theorem wd_357 : Cond.native ⟨"java/lang/System", "arraycopy", "(Ljava/lang/Object;ILjava/lang/Object;II)V"⟩ ∈ gT := gin_2 (List.mem_of_getElem? (i := 117) rfl) rfl
theorem wd_358 : Cond.methodLink "LifeNoes$TextReader" 53 ⟨"LifeNoes$Village", "empty", "()V"⟩ ∈ gT := gin_2 (List.mem_of_getElem? (i := 118) rfl) rfl
theorem wd_359 : Cond.instanceMethod ⟨"LifeNoes$Village", "empty", "()V"⟩ ∈ gT := gin_2 (List.mem_of_getElem? (i := 119) rfl) rfl
theorem wd_360 : Cond.selects "LifeNoes$Village" ⟨"LifeNoes$Village", "empty", "()V"⟩ ⟨"LifeNoes$Village", "empty", "()V"⟩ ∈ gT := gin_2 (List.mem_of_getElem? (i := 120) rfl) rfl
theorem wd_361 : Cond.code ⟨"LifeNoes$Village", "empty", "()V"⟩ prog_11_method_2_code 1 none ∈ gT := gin_2 (List.mem_of_getElem? (i := 121) rfl) rfl
theorem wd_362 : Cond.methodLink "LifeNoes$TextReader" 56 ⟨"LifeNoes$TextReader", "advance", "()V"⟩ ∈ gT := gin_2 (List.mem_of_getElem? (i := 122) rfl) rfl
theorem wd_364 : Cond.instanceMethod ⟨"LifeNoes$TextReader", "advance", "()V"⟩ ∈ gT := gin_2 (List.mem_of_getElem? (i := 124) rfl) rfl
theorem wd_365 : Cond.code ⟨"LifeNoes$TextReader", "advance", "()V"⟩ prog_8_method_13_code 1 none ∈ gT := gin_2 (List.mem_of_getElem? (i := 125) rfl) rfl
theorem wd_367 : Cond.methodLink "LifeNoes$TextReader" 152 ⟨"LifeNoes$TextReader", "takeNumber", "()V"⟩ ∈ gT := gin_2 (List.mem_of_getElem? (i := 127) rfl) rfl
theorem wd_369 : Cond.instanceMethod ⟨"LifeNoes$TextReader", "takeNumber", "()V"⟩ ∈ gT := gin_2 (List.mem_of_getElem? (i := 129) rfl) rfl
theorem wd_370 : Cond.code ⟨"LifeNoes$TextReader", "takeNumber", "()V"⟩ prog_8_method_14_code 1 none ∈ gT := gin_2 (List.mem_of_getElem? (i := 130) rfl) rfl
theorem wd_371 : Cond.methodLink "LifeNoes$TextReader" 59 ⟨"LifeNoes$TextReader", "readStatement", "()Z"⟩ ∈ gT := gin_2 (List.mem_of_getElem? (i := 131) rfl) rfl
theorem wd_373 : Cond.instanceMethod ⟨"LifeNoes$TextReader", "readStatement", "()Z"⟩ ∈ gT := gin_2 (List.mem_of_getElem? (i := 133) rfl) rfl
theorem wd_374 : Cond.code ⟨"LifeNoes$TextReader", "readStatement", "()Z"⟩ prog_8_method_3_code 2 (some .boolean) ∈ gT := gin_2 (List.mem_of_getElem? (i := 134) rfl) rfl
theorem wd_375 : Cond.methodLink "LifeNoes$TextReader" 63 ⟨"LifeNoes$TextReader", "kindNamed", "()I"⟩ ∈ gT := gin_2 (List.mem_of_getElem? (i := 135) rfl) rfl
theorem wd_377 : Cond.instanceMethod ⟨"LifeNoes$TextReader", "kindNamed", "()I"⟩ ∈ gT := gin_2 (List.mem_of_getElem? (i := 137) rfl) rfl
theorem wd_378 : Cond.code ⟨"LifeNoes$TextReader", "kindNamed", "()I"⟩ prog_8_method_9_code 1 (some .int) ∈ gT := gin_2 (List.mem_of_getElem? (i := 138) rfl) rfl
theorem wd_380 : Cond.methodLink "LifeNoes$TextReader" 73 ⟨"LifeNoes$TextReader", "isName", "(Ljava/lang/String;)Z"⟩ ∈ gT := gin_2 (List.mem_of_getElem? (i := 140) rfl) rfl
theorem wd_382 : Cond.instanceMethod ⟨"LifeNoes$TextReader", "isName", "(Ljava/lang/String;)Z"⟩ ∈ gT := gin_2 (List.mem_of_getElem? (i := 142) rfl) rfl
theorem wd_383 : Cond.code ⟨"LifeNoes$TextReader", "isName", "(Ljava/lang/String;)Z"⟩ prog_8_method_10_code 3 (some .boolean) ∈ gT := gin_2 (List.mem_of_getElem? (i := 143) rfl) rfl
theorem wd_384 : Cond.methodLink "LifeNoes$TextReader" 141 ⟨"java/lang/String", "length", "()I"⟩ ∈ gT := gin_2 (List.mem_of_getElem? (i := 144) rfl) rfl
theorem wd_385 : Cond.instanceMethod ⟨"java/lang/String", "length", "()I"⟩ ∈ gT := gin_2 (List.mem_of_getElem? (i := 145) rfl) rfl
theorem wd_386 : Cond.selects "java/lang/String" ⟨"java/lang/String", "length", "()I"⟩ ⟨"java/lang/String", "length", "()I"⟩ ∈ gT := gin_2 (List.mem_of_getElem? (i := 146) rfl) rfl
theorem wd_387 : Cond.code ⟨"java/lang/String", "length", "()I"⟩ prog_17_method_54_code 1 (some .int) ∈ gT := gin_2 (List.mem_of_getElem? (i := 147) rfl) rfl
theorem wd_388 : Cond.methodLink "java/lang/String" 335 ⟨"java/lang/String", "coder", "()B"⟩ ∈ gT := gin_2 (List.mem_of_getElem? (i := 148) rfl) rfl
theorem wd_389 : Cond.instanceMethod ⟨"java/lang/String", "coder", "()B"⟩ ∈ gT := gin_2 (List.mem_of_getElem? (i := 149) rfl) rfl
theorem wd_390 : Cond.selects "java/lang/String" ⟨"java/lang/String", "coder", "()B"⟩ ⟨"java/lang/String", "coder", "()B"⟩ ∈ gT := gin_2 (List.mem_of_getElem? (i := 150) rfl) rfl
theorem wd_391 : Cond.code ⟨"java/lang/String", "coder", "()B"⟩ prog_17_method_152_code 1 (some .byte) ∈ gT := gin_2 (List.mem_of_getElem? (i := 151) rfl) rfl
theorem wd_392 : Cond.fieldLink "java/lang/String" 38 "java/lang/String" "COMPACT_STRINGS" "Z" ∈ gT := gin_2 (List.mem_of_getElem? (i := 152) rfl) rfl
theorem wd_394 : Cond.methodLink "LifeNoes$TextReader" 145 ⟨"java/lang/String", "charAt", "(I)C"⟩ ∈ gT := gin_2 (List.mem_of_getElem? (i := 154) rfl) rfl
theorem wd_395 : Cond.instanceMethod ⟨"java/lang/String", "charAt", "(I)C"⟩ ∈ gT := gin_2 (List.mem_of_getElem? (i := 155) rfl) rfl
theorem wd_396 : Cond.selects "java/lang/String" ⟨"java/lang/String", "charAt", "(I)C"⟩ ⟨"java/lang/String", "charAt", "(I)C"⟩ ∈ gT := gin_2 (List.mem_of_getElem? (i := 156) rfl) rfl
theorem wd_397 : Cond.code ⟨"java/lang/String", "charAt", "(I)C"⟩ prog_17_method_56_code 2 (some .char) ∈ gT := gin_2 (List.mem_of_getElem? (i := 157) rfl) rfl
theorem wd_398 : Cond.methodLink "java/lang/String" 492 ⟨"java/lang/String", "isLatin1", "()Z"⟩ ∈ gT := gin_2 (List.mem_of_getElem? (i := 158) rfl) rfl
theorem wd_399 : Cond.instanceMethod ⟨"java/lang/String", "isLatin1", "()Z"⟩ ∈ gT := gin_2 (List.mem_of_getElem? (i := 159) rfl) rfl
theorem wd_400 : Cond.selects "java/lang/String" ⟨"java/lang/String", "isLatin1", "()Z"⟩ ⟨"java/lang/String", "isLatin1", "()Z"⟩ ∈ gT := gin_2 (List.mem_of_getElem? (i := 160) rfl) rfl
theorem wd_401 : Cond.code ⟨"java/lang/String", "isLatin1", "()Z"⟩ prog_17_method_154_code 1 (some .boolean) ∈ gT := gin_2 (List.mem_of_getElem? (i := 161) rfl) rfl
theorem wd_402 : Cond.methodLink "java/lang/String" 495 ⟨"java/lang/StringLatin1", "charAt", "([BI)C"⟩ ∈ gT := gin_2 (List.mem_of_getElem? (i := 162) rfl) rfl
theorem wd_403 : Cond.static ⟨"java/lang/StringLatin1", "charAt", "([BI)C"⟩ ∈ gT := gin_2 (List.mem_of_getElem? (i := 163) rfl) rfl
theorem wd_404 : Cond.code ⟨"java/lang/StringLatin1", "charAt", "([BI)C"⟩ prog_18_method_2_code 2 (some .char) ∈ gT := gin_2 (List.mem_of_getElem? (i := 164) rfl) rfl
theorem wd_405 : Cond.methodLink "java/lang/StringLatin1" 9 ⟨"java/lang/String", "checkIndex", "(II)V"⟩ ∈ gT := gin_2 (List.mem_of_getElem? (i := 165) rfl) rfl
theorem wd_406 : Cond.static ⟨"java/lang/String", "checkIndex", "(II)V"⟩ ∈ gT := gin_2 (List.mem_of_getElem? (i := 166) rfl) rfl
theorem wd_407 : Cond.code ⟨"java/lang/String", "checkIndex", "(II)V"⟩ prog_17_method_155_code 2 none ∈ gT := gin_2 (List.mem_of_getElem? (i := 167) rfl) rfl
theorem wd_408 : Cond.fieldLink "java/lang/String" 1053 "jdk/internal/util/Preconditions" "SIOOBE_FORMATTER" "Ljava/util/function/BiFunction;" ∈ gT := gin_2 (List.mem_of_getElem? (i := 168) rfl) rfl
theorem wd_410 : Cond.methodLink "java/lang/String" 1059 ⟨"jdk/internal/util/Preconditions", "checkIndex", "(IILjava/util/function/BiFunction;)I"⟩ ∈ gT := gin_2 (List.mem_of_getElem? (i := 170) rfl) rfl
theorem wd_411 : Cond.static ⟨"jdk/internal/util/Preconditions", "checkIndex", "(IILjava/util/function/BiFunction;)I"⟩ ∈ gT := gin_2 (List.mem_of_getElem? (i := 171) rfl) rfl
theorem wd_412 : Cond.code ⟨"jdk/internal/util/Preconditions", "checkIndex", "(IILjava/util/function/BiFunction;)I"⟩ prog_21_method_11_code 3 (some .int) ∈ gT := gin_2 (List.mem_of_getElem? (i := 172) rfl) rfl
theorem wd_413 : Cond.methodLink "java/lang/String" 498 ⟨"java/lang/StringUTF16", "charAt", "([BI)C"⟩ ∈ gT := gin_2 (List.mem_of_getElem? (i := 173) rfl) rfl
theorem wd_414 : Cond.static ⟨"java/lang/StringUTF16", "charAt", "([BI)C"⟩ ∈ gT := gin_2 (List.mem_of_getElem? (i := 174) rfl) rfl
theorem wd_415 : Cond.code ⟨"java/lang/StringUTF16", "charAt", "([BI)C"⟩ prog_19_method_83_code 2 (some .char) ∈ gT := gin_2 (List.mem_of_getElem? (i := 175) rfl) rfl
theorem wd_416 : Cond.methodLink "java/lang/StringUTF16" 67 ⟨"java/lang/StringUTF16", "checkIndex", "(I[B)V"⟩ ∈ gT := gin_2 (List.mem_of_getElem? (i := 176) rfl) rfl
theorem wd_417 : Cond.static ⟨"java/lang/StringUTF16", "checkIndex", "(I[B)V"⟩ ∈ gT := gin_2 (List.mem_of_getElem? (i := 177) rfl) rfl
theorem wd_418 : Cond.code ⟨"java/lang/StringUTF16", "checkIndex", "(I[B)V"⟩ prog_19_method_91_code 2 none ∈ gT := gin_2 (List.mem_of_getElem? (i := 178) rfl) rfl
theorem wd_419 : Cond.methodLink "java/lang/StringUTF16" 48 ⟨"java/lang/StringUTF16", "length", "([B)I"⟩ ∈ gT := gin_2 (List.mem_of_getElem? (i := 179) rfl) rfl
theorem wd_420 : Cond.static ⟨"java/lang/StringUTF16", "length", "([B)I"⟩ ∈ gT := gin_2 (List.mem_of_getElem? (i := 180) rfl) rfl
theorem wd_421 : Cond.code ⟨"java/lang/StringUTF16", "length", "([B)I"⟩ prog_19_method_6_code 1 (some .int) ∈ gT := gin_2 (List.mem_of_getElem? (i := 181) rfl) rfl
theorem wd_422 : Cond.methodLink "java/lang/StringUTF16" 414 ⟨"java/lang/String", "checkIndex", "(II)V"⟩ ∈ gT := gin_2 (List.mem_of_getElem? (i := 182) rfl) rfl
theorem wd_423 : Cond.methodLink "java/lang/StringUTF16" 71 ⟨"java/lang/StringUTF16", "getChar", "([BI)C"⟩ ∈ gT := gin_2 (List.mem_of_getElem? (i := 183) rfl) rfl
theorem wd_424 : Cond.static ⟨"java/lang/StringUTF16", "getChar", "([BI)C"⟩ ∈ gT := gin_2 (List.mem_of_getElem? (i := 184) rfl) rfl
theorem wd_425 : Cond.code ⟨"java/lang/StringUTF16", "getChar", "([BI)C"⟩ prog_19_method_5_code 2 (some .char) ∈ gT := gin_2 (List.mem_of_getElem? (i := 185) rfl) rfl
theorem wd_426 : Cond.fieldLink "java/lang/StringUTF16" 44 "java/lang/StringUTF16" "$assertionsDisabled" "Z" ∈ gT := gin_2 (List.mem_of_getElem? (i := 186) rfl) rfl
theorem wd_428 : Cond.fieldLink "java/lang/StringUTF16" 59 "java/lang/StringUTF16" "HI_BYTE_SHIFT" "I" ∈ gT := gin_2 (List.mem_of_getElem? (i := 188) rfl) rfl
theorem wd_430 : Cond.fieldLink "java/lang/StringUTF16" 63 "java/lang/StringUTF16" "LO_BYTE_SHIFT" "I" ∈ gT := gin_2 (List.mem_of_getElem? (i := 190) rfl) rfl
theorem wd_437 : Cond.methodLink "LifeNoes$TextReader" 67 ⟨"LifeNoes$TextReader", "readPerson", "(I)Z"⟩ ∈ gT := gin_2 (List.mem_of_getElem? (i := 197) rfl) rfl
theorem wd_439 : Cond.instanceMethod ⟨"LifeNoes$TextReader", "readPerson", "(I)Z"⟩ ∈ gT := gin_2 (List.mem_of_getElem? (i := 199) rfl) rfl
theorem wd_440 : Cond.code ⟨"LifeNoes$TextReader", "readPerson", "(I)Z"⟩ prog_8_method_4_code 5 (some .boolean) ∈ gT := gin_2 (List.mem_of_getElem? (i := 200) rfl) rfl
theorem wd_442 : Cond.methodLink "LifeNoes$TextReader" 101 ⟨"LifeNoes$TextReader", "isNumber", "(II)Z"⟩ ∈ gT := gin_2 (List.mem_of_getElem? (i := 202) rfl) rfl
theorem wd_444 : Cond.instanceMethod ⟨"LifeNoes$TextReader", "isNumber", "(II)Z"⟩ ∈ gT := gin_2 (List.mem_of_getElem? (i := 204) rfl) rfl
theorem wd_445 : Cond.code ⟨"LifeNoes$TextReader", "isNumber", "(II)Z"⟩ prog_8_method_11_code 3 (some .boolean) ∈ gT := gin_2 (List.mem_of_getElem? (i := 205) rfl) rfl
theorem wd_447 : Cond.methodLink "LifeNoes$TextReader" 109 ⟨"LifeNoes$Village", "addPerson", "(IIII)I"⟩ ∈ gT := gin_2 (List.mem_of_getElem? (i := 207) rfl) rfl
theorem wd_448 : Cond.instanceMethod ⟨"LifeNoes$Village", "addPerson", "(IIII)I"⟩ ∈ gT := gin_2 (List.mem_of_getElem? (i := 208) rfl) rfl
theorem wd_449 : Cond.selects "LifeNoes$Village" ⟨"LifeNoes$Village", "addPerson", "(IIII)I"⟩ ⟨"LifeNoes$Village", "addPerson", "(IIII)I"⟩ ∈ gT := gin_2 (List.mem_of_getElem? (i := 209) rfl) rfl
theorem wd_450 : Cond.code ⟨"LifeNoes$Village", "addPerson", "(IIII)I"⟩ prog_11_method_4_code 7 (some .int) ∈ gT := gin_2 (List.mem_of_getElem? (i := 210) rfl) rfl
theorem wd_451 : Cond.methodLink "LifeNoes$TextReader" 93 ⟨"LifeNoes$TextReader", "readEnd", "()Z"⟩ ∈ gT := gin_2 (List.mem_of_getElem? (i := 211) rfl) rfl
theorem wd_453 : Cond.instanceMethod ⟨"LifeNoes$TextReader", "readEnd", "()Z"⟩ ∈ gT := gin_2 (List.mem_of_getElem? (i := 213) rfl) rfl
theorem wd_454 : Cond.code ⟨"LifeNoes$TextReader", "readEnd", "()Z"⟩ prog_8_method_8_code 1 (some .boolean) ∈ gT := gin_2 (List.mem_of_getElem? (i := 214) rfl) rfl
theorem wd_455 : Cond.methodLink "LifeNoes$TextReader" 125 ⟨"LifeNoes$TextReader", "isByte", "(I)Z"⟩ ∈ gT := gin_2 (List.mem_of_getElem? (i := 215) rfl) rfl
theorem wd_457 : Cond.instanceMethod ⟨"LifeNoes$TextReader", "isByte", "(I)Z"⟩ ∈ gT := gin_2 (List.mem_of_getElem? (i := 217) rfl) rfl
theorem wd_458 : Cond.code ⟨"LifeNoes$TextReader", "isByte", "(I)Z"⟩ prog_8_method_12_code 2 (some .boolean) ∈ gT := gin_2 (List.mem_of_getElem? (i := 218) rfl) rfl
theorem wd_460 : Cond.methodLink "LifeNoes$TextReader" 77 ⟨"LifeNoes$TextReader", "readProposal", "()Z"⟩ ∈ gT := gin_2 (List.mem_of_getElem? (i := 220) rfl) rfl
theorem wd_462 : Cond.instanceMethod ⟨"LifeNoes$TextReader", "readProposal", "()Z"⟩ ∈ gT := gin_2 (List.mem_of_getElem? (i := 222) rfl) rfl
theorem wd_463 : Cond.code ⟨"LifeNoes$TextReader", "readProposal", "()Z"⟩ prog_8_method_5_code 2 (some .boolean) ∈ gT := gin_2 (List.mem_of_getElem? (i := 223) rfl) rfl
theorem wd_464 : Cond.methodLink "LifeNoes$TextReader" 116 ⟨"LifeNoes$Village", "addProposal", "(I)I"⟩ ∈ gT := gin_2 (List.mem_of_getElem? (i := 224) rfl) rfl
theorem wd_465 : Cond.instanceMethod ⟨"LifeNoes$Village", "addProposal", "(I)I"⟩ ∈ gT := gin_2 (List.mem_of_getElem? (i := 225) rfl) rfl
theorem wd_466 : Cond.selects "LifeNoes$Village" ⟨"LifeNoes$Village", "addProposal", "(I)I"⟩ ⟨"LifeNoes$Village", "addProposal", "(I)I"⟩ ∈ gT := gin_2 (List.mem_of_getElem? (i := 226) rfl) rfl
theorem wd_467 : Cond.code ⟨"LifeNoes$Village", "addProposal", "(I)I"⟩ prog_11_method_6_code 4 (some .int) ∈ gT := gin_2 (List.mem_of_getElem? (i := 227) rfl) rfl
theorem wd_469 : Cond.methodLink "LifeNoes$TextReader" 122 ⟨"LifeNoes$TextReader", "readWorths", "(I)Z"⟩ ∈ gT := gin_2 (List.mem_of_getElem? (i := 229) rfl) rfl
theorem wd_471 : Cond.instanceMethod ⟨"LifeNoes$TextReader", "readWorths", "(I)Z"⟩ ∈ gT := gin_2 (List.mem_of_getElem? (i := 231) rfl) rfl
theorem wd_472 : Cond.code ⟨"LifeNoes$TextReader", "readWorths", "(I)Z"⟩ prog_8_method_6_code 4 (some .boolean) ∈ gT := gin_2 (List.mem_of_getElem? (i := 232) rfl) rfl
theorem wd_474 : Cond.methodLink "LifeNoes$TextReader" 82 ⟨"LifeNoes$TextReader", "readLaw", "(III)Z"⟩ ∈ gT := gin_2 (List.mem_of_getElem? (i := 234) rfl) rfl
theorem wd_476 : Cond.instanceMethod ⟨"LifeNoes$TextReader", "readLaw", "(III)Z"⟩ ∈ gT := gin_2 (List.mem_of_getElem? (i := 236) rfl) rfl
theorem wd_477 : Cond.code ⟨"LifeNoes$TextReader", "readLaw", "(III)Z"⟩ prog_8_method_7_code 4 (some .boolean) ∈ gT := gin_2 (List.mem_of_getElem? (i := 237) rfl) rfl
theorem wd_480 : Cond.methodLink "LifeNoes" 120 ⟨"LifeNoes$Village", "copyFrom", "(LLifeNoes$Village;)V"⟩ ∈ gT := gin_3 (List.mem_of_getElem? (i := 0) rfl) rfl
theorem wd_481 : Cond.instanceMethod ⟨"LifeNoes$Village", "copyFrom", "(LLifeNoes$Village;)V"⟩ ∈ gT := gin_3 (List.mem_of_getElem? (i := 1) rfl) rfl
theorem wd_482 : Cond.selects "LifeNoes$Village" ⟨"LifeNoes$Village", "copyFrom", "(LLifeNoes$Village;)V"⟩ ⟨"LifeNoes$Village", "copyFrom", "(LLifeNoes$Village;)V"⟩ ∈ gT := gin_3 (List.mem_of_getElem? (i := 2) rfl) rfl
theorem wd_483 : Cond.code ⟨"LifeNoes$Village", "copyFrom", "(LLifeNoes$Village;)V"⟩ prog_11_method_3_code 3 none ∈ gT := gin_3 (List.mem_of_getElem? (i := 3) rfl) rfl
theorem wd_484 : Cond.methodLink "LifeNoes$Village" 54 ⟨"java/lang/System", "arraycopy", "(Ljava/lang/Object;ILjava/lang/Object;II)V"⟩ ∈ gT := gin_3 (List.mem_of_getElem? (i := 4) rfl) rfl
theorem wd_485 : Cond.arrayClass .byte ∈ gT := gin_3 (List.mem_of_getElem? (i := 5) rfl) rfl
theorem wd_486 : Cond.methodLink "LifeNoesLaw" 25 ⟨"LifeNoes", "person", "(IIII)I"⟩ ∈ gT := gin_3 (List.mem_of_getElem? (i := 6) rfl) rfl
theorem wd_487 : Cond.instanceMethod ⟨"LifeNoes", "person", "(IIII)I"⟩ ∈ gT := gin_3 (List.mem_of_getElem? (i := 7) rfl) rfl
theorem wd_488 : Cond.selects "LifeNoes" ⟨"LifeNoes", "person", "(IIII)I"⟩ ⟨"LifeNoes", "person", "(IIII)I"⟩ ∈ gT := gin_3 (List.mem_of_getElem? (i := 8) rfl) rfl
theorem wd_489 : Cond.code ⟨"LifeNoes", "person", "(IIII)I"⟩ prog_1_method_4_code 5 (some .int) ∈ gT := gin_3 (List.mem_of_getElem? (i := 9) rfl) rfl
theorem wd_490 : Cond.methodLink "LifeNoes" 127 ⟨"LifeNoes$Village", "addPerson", "(IIII)I"⟩ ∈ gT := gin_3 (List.mem_of_getElem? (i := 10) rfl) rfl
theorem wd_491 : Cond.methodLink "LifeNoesLaw" 30 ⟨"LifeNoes", "personOf", "(II)I"⟩ ∈ gT := gin_3 (List.mem_of_getElem? (i := 11) rfl) rfl
theorem wd_492 : Cond.instanceMethod ⟨"LifeNoes", "personOf", "(II)I"⟩ ∈ gT := gin_3 (List.mem_of_getElem? (i := 12) rfl) rfl
theorem wd_493 : Cond.selects "LifeNoes" ⟨"LifeNoes", "personOf", "(II)I"⟩ ⟨"LifeNoes", "personOf", "(II)I"⟩ ∈ gT := gin_3 (List.mem_of_getElem? (i := 13) rfl) rfl
theorem wd_494 : Cond.code ⟨"LifeNoes", "personOf", "(II)I"⟩ prog_1_method_5_code 3 (some .int) ∈ gT := gin_3 (List.mem_of_getElem? (i := 14) rfl) rfl
theorem wd_495 : Cond.methodLink "LifeNoes" 131 ⟨"LifeNoes", "isPerson", "(I)Z"⟩ ∈ gT := gin_3 (List.mem_of_getElem? (i := 15) rfl) rfl
theorem wd_497 : Cond.instanceMethod ⟨"LifeNoes", "isPerson", "(I)Z"⟩ ∈ gT := gin_3 (List.mem_of_getElem? (i := 17) rfl) rfl
theorem wd_498 : Cond.code ⟨"LifeNoes", "isPerson", "(I)Z"⟩ prog_1_method_45_code 2 (some .boolean) ∈ gT := gin_3 (List.mem_of_getElem? (i := 18) rfl) rfl
theorem wd_499 : Cond.methodLink "LifeNoesLaw" 35 ⟨"LifeNoes", "leave", "(I)I"⟩ ∈ gT := gin_3 (List.mem_of_getElem? (i := 19) rfl) rfl
theorem wd_500 : Cond.instanceMethod ⟨"LifeNoes", "leave", "(I)I"⟩ ∈ gT := gin_3 (List.mem_of_getElem? (i := 20) rfl) rfl
theorem wd_501 : Cond.selects "LifeNoes" ⟨"LifeNoes", "leave", "(I)I"⟩ ⟨"LifeNoes", "leave", "(I)I"⟩ ∈ gT := gin_3 (List.mem_of_getElem? (i := 21) rfl) rfl
theorem wd_502 : Cond.code ⟨"LifeNoes", "leave", "(I)I"⟩ prog_1_method_6_code 2 (some .int) ∈ gT := gin_3 (List.mem_of_getElem? (i := 22) rfl) rfl
theorem wd_503 : Cond.methodLink "LifeNoes" 147 ⟨"LifeNoes$Village", "removePerson", "(I)V"⟩ ∈ gT := gin_3 (List.mem_of_getElem? (i := 23) rfl) rfl
theorem wd_504 : Cond.instanceMethod ⟨"LifeNoes$Village", "removePerson", "(I)V"⟩ ∈ gT := gin_3 (List.mem_of_getElem? (i := 24) rfl) rfl
theorem wd_505 : Cond.selects "LifeNoes$Village" ⟨"LifeNoes$Village", "removePerson", "(I)V"⟩ ⟨"LifeNoes$Village", "removePerson", "(I)V"⟩ ∈ gT := gin_3 (List.mem_of_getElem? (i := 25) rfl) rfl
theorem wd_506 : Cond.code ⟨"LifeNoes$Village", "removePerson", "(I)V"⟩ prog_11_method_5_code 4 none ∈ gT := gin_3 (List.mem_of_getElem? (i := 26) rfl) rfl
theorem wd_507 : Cond.methodLink "LifeNoesLaw" 40 ⟨"LifeNoes", "mind", "(III)I"⟩ ∈ gT := gin_3 (List.mem_of_getElem? (i := 27) rfl) rfl
theorem wd_508 : Cond.instanceMethod ⟨"LifeNoes", "mind", "(III)I"⟩ ∈ gT := gin_3 (List.mem_of_getElem? (i := 28) rfl) rfl
theorem wd_509 : Cond.selects "LifeNoes" ⟨"LifeNoes", "mind", "(III)I"⟩ ⟨"LifeNoes", "mind", "(III)I"⟩ ∈ gT := gin_3 (List.mem_of_getElem? (i := 29) rfl) rfl
theorem wd_510 : Cond.code ⟨"LifeNoes", "mind", "(III)I"⟩ prog_1_method_7_code 5 (some .int) ∈ gT := gin_3 (List.mem_of_getElem? (i := 30) rfl) rfl
theorem wd_511 : Cond.methodLink "LifeNoesLaw" 45 ⟨"LifeNoes", "give", "(II)I"⟩ ∈ gT := gin_3 (List.mem_of_getElem? (i := 31) rfl) rfl
theorem wd_512 : Cond.instanceMethod ⟨"LifeNoes", "give", "(II)I"⟩ ∈ gT := gin_3 (List.mem_of_getElem? (i := 32) rfl) rfl
theorem wd_513 : Cond.selects "LifeNoes" ⟨"LifeNoes", "give", "(II)I"⟩ ⟨"LifeNoes", "give", "(II)I"⟩ ∈ gT := gin_3 (List.mem_of_getElem? (i := 33) rfl) rfl
theorem wd_514 : Cond.code ⟨"LifeNoes", "give", "(II)I"⟩ prog_1_method_8_code 3 (some .int) ∈ gT := gin_3 (List.mem_of_getElem? (i := 34) rfl) rfl
theorem wd_515 : Cond.methodLink "LifeNoesLaw" 49 ⟨"LifeNoes", "noes", "(II)I"⟩ ∈ gT := gin_3 (List.mem_of_getElem? (i := 35) rfl) rfl
theorem wd_516 : Cond.instanceMethod ⟨"LifeNoes", "noes", "(II)I"⟩ ∈ gT := gin_3 (List.mem_of_getElem? (i := 36) rfl) rfl
theorem wd_517 : Cond.selects "LifeNoes" ⟨"LifeNoes", "noes", "(II)I"⟩ ⟨"LifeNoes", "noes", "(II)I"⟩ ∈ gT := gin_3 (List.mem_of_getElem? (i := 37) rfl) rfl
theorem wd_518 : Cond.code ⟨"LifeNoes", "noes", "(II)I"⟩ prog_1_method_9_code 4 (some .int) ∈ gT := gin_3 (List.mem_of_getElem? (i := 38) rfl) rfl
theorem wd_519 : Cond.methodLink "LifeNoesLaw" 53 ⟨"LifeNoes", "proposal", "(I)I"⟩ ∈ gT := gin_3 (List.mem_of_getElem? (i := 39) rfl) rfl
theorem wd_520 : Cond.instanceMethod ⟨"LifeNoes", "proposal", "(I)I"⟩ ∈ gT := gin_3 (List.mem_of_getElem? (i := 40) rfl) rfl
theorem wd_521 : Cond.selects "LifeNoes" ⟨"LifeNoes", "proposal", "(I)I"⟩ ⟨"LifeNoes", "proposal", "(I)I"⟩ ∈ gT := gin_3 (List.mem_of_getElem? (i := 41) rfl) rfl
theorem wd_522 : Cond.code ⟨"LifeNoes", "proposal", "(I)I"⟩ prog_1_method_10_code 2 (some .int) ∈ gT := gin_3 (List.mem_of_getElem? (i := 42) rfl) rfl
theorem wd_523 : Cond.methodLink "LifeNoes" 154 ⟨"LifeNoes$Village", "addProposal", "(I)I"⟩ ∈ gT := gin_3 (List.mem_of_getElem? (i := 43) rfl) rfl
theorem wd_524 : Cond.methodLink "LifeNoesLaw" 57 ⟨"LifeNoes", "weigh", "(II)I"⟩ ∈ gT := gin_3 (List.mem_of_getElem? (i := 44) rfl) rfl
theorem wd_525 : Cond.instanceMethod ⟨"LifeNoes", "weigh", "(II)I"⟩ ∈ gT := gin_3 (List.mem_of_getElem? (i := 45) rfl) rfl
theorem wd_526 : Cond.selects "LifeNoes" ⟨"LifeNoes", "weigh", "(II)I"⟩ ⟨"LifeNoes", "weigh", "(II)I"⟩ ∈ gT := gin_3 (List.mem_of_getElem? (i := 46) rfl) rfl
theorem wd_527 : Cond.code ⟨"LifeNoes", "weigh", "(II)I"⟩ prog_1_method_11_code 4 (some .int) ∈ gT := gin_3 (List.mem_of_getElem? (i := 47) rfl) rfl
theorem wd_528 : Cond.methodLink "LifeNoes" 158 ⟨"LifeNoes", "isProposal", "(I)Z"⟩ ∈ gT := gin_3 (List.mem_of_getElem? (i := 48) rfl) rfl
theorem wd_530 : Cond.instanceMethod ⟨"LifeNoes", "isProposal", "(I)Z"⟩ ∈ gT := gin_3 (List.mem_of_getElem? (i := 50) rfl) rfl
theorem wd_531 : Cond.code ⟨"LifeNoes", "isProposal", "(I)Z"⟩ prog_1_method_46_code 2 (some .boolean) ∈ gT := gin_3 (List.mem_of_getElem? (i := 51) rfl) rfl
theorem wd_532 : Cond.methodLink "LifeNoesLaw" 61 ⟨"LifeNoes", "worth", "(III)I"⟩ ∈ gT := gin_3 (List.mem_of_getElem? (i := 52) rfl) rfl
theorem wd_533 : Cond.instanceMethod ⟨"LifeNoes", "worth", "(III)I"⟩ ∈ gT := gin_3 (List.mem_of_getElem? (i := 53) rfl) rfl
theorem wd_534 : Cond.selects "LifeNoes" ⟨"LifeNoes", "worth", "(III)I"⟩ ⟨"LifeNoes", "worth", "(III)I"⟩ ∈ gT := gin_3 (List.mem_of_getElem? (i := 54) rfl) rfl
theorem wd_535 : Cond.code ⟨"LifeNoes", "worth", "(III)I"⟩ prog_1_method_12_code 5 (some .int) ∈ gT := gin_3 (List.mem_of_getElem? (i := 55) rfl) rfl
theorem wd_536 : Cond.methodLink "LifeNoesLaw" 65 ⟨"LifeNoes", "proposalOf", "(II)I"⟩ ∈ gT := gin_3 (List.mem_of_getElem? (i := 56) rfl) rfl
theorem wd_537 : Cond.instanceMethod ⟨"LifeNoes", "proposalOf", "(II)I"⟩ ∈ gT := gin_3 (List.mem_of_getElem? (i := 57) rfl) rfl
theorem wd_538 : Cond.selects "LifeNoes" ⟨"LifeNoes", "proposalOf", "(II)I"⟩ ⟨"LifeNoes", "proposalOf", "(II)I"⟩ ∈ gT := gin_3 (List.mem_of_getElem? (i := 58) rfl) rfl
theorem wd_539 : Cond.code ⟨"LifeNoes", "proposalOf", "(II)I"⟩ prog_1_method_13_code 3 (some .int) ∈ gT := gin_3 (List.mem_of_getElem? (i := 59) rfl) rfl
theorem wd_540 : Cond.methodLink "LifeNoesLaw" 69 ⟨"LifeNoes", "set", "(II)I"⟩ ∈ gT := gin_3 (List.mem_of_getElem? (i := 60) rfl) rfl
theorem wd_541 : Cond.instanceMethod ⟨"LifeNoes", "set", "(II)I"⟩ ∈ gT := gin_3 (List.mem_of_getElem? (i := 61) rfl) rfl
theorem wd_542 : Cond.selects "LifeNoes" ⟨"LifeNoes", "set", "(II)I"⟩ ⟨"LifeNoes", "set", "(II)I"⟩ ∈ gT := gin_3 (List.mem_of_getElem? (i := 62) rfl) rfl
theorem wd_543 : Cond.code ⟨"LifeNoes", "set", "(II)I"⟩ prog_1_method_14_code 4 (some .int) ∈ gT := gin_3 (List.mem_of_getElem? (i := 63) rfl) rfl
theorem wd_544 : Cond.methodLink "LifeNoes" 167 ⟨"LifeNoes", "mayBeLaw", "(II)Z"⟩ ∈ gT := gin_3 (List.mem_of_getElem? (i := 64) rfl) rfl
theorem wd_545 : Cond.static ⟨"LifeNoes", "mayBeLaw", "(II)Z"⟩ ∈ gT := gin_3 (List.mem_of_getElem? (i := 65) rfl) rfl
theorem wd_546 : Cond.code ⟨"LifeNoes", "mayBeLaw", "(II)Z"⟩ prog_1_method_48_code 2 (some .boolean) ∈ gT := gin_3 (List.mem_of_getElem? (i := 66) rfl) rfl
theorem wd_547 : Cond.methodLink "LifeNoesLaw" 73 ⟨"LifeNoes", "law", "(I)I"⟩ ∈ gT := gin_3 (List.mem_of_getElem? (i := 67) rfl) rfl
theorem wd_548 : Cond.instanceMethod ⟨"LifeNoes", "law", "(I)I"⟩ ∈ gT := gin_3 (List.mem_of_getElem? (i := 68) rfl) rfl
theorem wd_549 : Cond.selects "LifeNoes" ⟨"LifeNoes", "law", "(I)I"⟩ ⟨"LifeNoes", "law", "(I)I"⟩ ∈ gT := gin_3 (List.mem_of_getElem? (i := 69) rfl) rfl
theorem wd_550 : Cond.code ⟨"LifeNoes", "law", "(I)I"⟩ prog_1_method_15_code 2 (some .int) ∈ gT := gin_3 (List.mem_of_getElem? (i := 70) rfl) rfl
theorem wd_551 : Cond.methodLink "LifeNoesLaw" 77 ⟨"LifeNoes", "would", "(I)I"⟩ ∈ gT := gin_3 (List.mem_of_getElem? (i := 71) rfl) rfl
theorem wd_552 : Cond.instanceMethod ⟨"LifeNoes", "would", "(I)I"⟩ ∈ gT := gin_3 (List.mem_of_getElem? (i := 72) rfl) rfl
theorem wd_553 : Cond.selects "LifeNoes" ⟨"LifeNoes", "would", "(I)I"⟩ ⟨"LifeNoes", "would", "(I)I"⟩ ∈ gT := gin_3 (List.mem_of_getElem? (i := 73) rfl) rfl
theorem wd_554 : Cond.code ⟨"LifeNoes", "would", "(I)I"⟩ prog_1_method_16_code 2 (some .int) ∈ gT := gin_3 (List.mem_of_getElem? (i := 74) rfl) rfl
theorem wd_555 : Cond.methodLink "LifeNoes" 174 ⟨"LifeNoes$Village", "packedNoes", "()I"⟩ ∈ gT := gin_3 (List.mem_of_getElem? (i := 75) rfl) rfl
theorem wd_556 : Cond.instanceMethod ⟨"LifeNoes$Village", "packedNoes", "()I"⟩ ∈ gT := gin_3 (List.mem_of_getElem? (i := 76) rfl) rfl
theorem wd_557 : Cond.selects "LifeNoes$Village" ⟨"LifeNoes$Village", "packedNoes", "()I"⟩ ⟨"LifeNoes$Village", "packedNoes", "()I"⟩ ∈ gT := gin_3 (List.mem_of_getElem? (i := 77) rfl) rfl
theorem wd_558 : Cond.code ⟨"LifeNoes$Village", "packedNoes", "()I"⟩ prog_11_method_9_code 3 (some .int) ∈ gT := gin_3 (List.mem_of_getElem? (i := 78) rfl) rfl
theorem wd_559 : Cond.methodLink "LifeNoes" 178 ⟨"LifeNoes$Village", "whoWould", "(III)I"⟩ ∈ gT := gin_3 (List.mem_of_getElem? (i := 79) rfl) rfl
theorem wd_560 : Cond.instanceMethod ⟨"LifeNoes$Village", "whoWould", "(III)I"⟩ ∈ gT := gin_3 (List.mem_of_getElem? (i := 80) rfl) rfl
theorem wd_561 : Cond.selects "LifeNoes$Village" ⟨"LifeNoes$Village", "whoWould", "(III)I"⟩ ⟨"LifeNoes$Village", "whoWould", "(III)I"⟩ ∈ gT := gin_3 (List.mem_of_getElem? (i := 81) rfl) rfl
theorem wd_562 : Cond.code ⟨"LifeNoes$Village", "whoWould", "(III)I"⟩ prog_11_method_12_code 8 (some .int) ∈ gT := gin_3 (List.mem_of_getElem? (i := 82) rfl) rfl
theorem wd_563 : Cond.methodLink "LifeNoes$Village" 64 ⟨"LifeNoes$Village", "whoHasNoes", "(I)I"⟩ ∈ gT := gin_3 (List.mem_of_getElem? (i := 83) rfl) rfl
theorem wd_565 : Cond.instanceMethod ⟨"LifeNoes$Village", "whoHasNoes", "(I)I"⟩ ∈ gT := gin_3 (List.mem_of_getElem? (i := 85) rfl) rfl
theorem wd_566 : Cond.code ⟨"LifeNoes$Village", "whoHasNoes", "(I)I"⟩ prog_11_method_13_code 4 (some .int) ∈ gT := gin_3 (List.mem_of_getElem? (i := 86) rfl) rfl
theorem wd_567 : Cond.methodLink "LifeNoes$Village" 76 ⟨"LifeNoes$Village", "noesIn", "(II)I"⟩ ∈ gT := gin_3 (List.mem_of_getElem? (i := 87) rfl) rfl
theorem wd_568 : Cond.static ⟨"LifeNoes$Village", "noesIn", "(II)I"⟩ ∈ gT := gin_3 (List.mem_of_getElem? (i := 88) rfl) rfl
theorem wd_569 : Cond.code ⟨"LifeNoes$Village", "noesIn", "(II)I"⟩ prog_11_method_10_code 2 (some .int) ∈ gT := gin_3 (List.mem_of_getElem? (i := 89) rfl) rfl
theorem wd_570 : Cond.methodLink "LifeNoes$Village" 68 ⟨"LifeNoes$Village", "calledOfLeague", "(II)I"⟩ ∈ gT := gin_3 (List.mem_of_getElem? (i := 90) rfl) rfl
theorem wd_572 : Cond.instanceMethod ⟨"LifeNoes$Village", "calledOfLeague", "(II)I"⟩ ∈ gT := gin_3 (List.mem_of_getElem? (i := 92) rfl) rfl
theorem wd_573 : Cond.code ⟨"LifeNoes$Village", "calledOfLeague", "(II)I"⟩ prog_11_method_16_code 6 (some .int) ∈ gT := gin_3 (List.mem_of_getElem? (i := 93) rfl) rfl
theorem wd_574 : Cond.methodLink "LifeNoes$Village" 83 ⟨"LifeNoes$Village", "isInLeague", "(II)Z"⟩ ∈ gT := gin_3 (List.mem_of_getElem? (i := 94) rfl) rfl
theorem wd_576 : Cond.instanceMethod ⟨"LifeNoes$Village", "isInLeague", "(II)Z"⟩ ∈ gT := gin_3 (List.mem_of_getElem? (i := 96) rfl) rfl
theorem wd_577 : Cond.code ⟨"LifeNoes$Village", "isInLeague", "(II)Z"⟩ prog_11_method_17_code 3 (some .boolean) ∈ gT := gin_3 (List.mem_of_getElem? (i := 97) rfl) rfl
theorem wd_578 : Cond.methodLink "LifeNoes$Village" 72 ⟨"LifeNoes$Village", "dislikes", "(IIII)Z"⟩ ∈ gT := gin_3 (List.mem_of_getElem? (i := 98) rfl) rfl
theorem wd_580 : Cond.instanceMethod ⟨"LifeNoes$Village", "dislikes", "(IIII)Z"⟩ ∈ gT := gin_3 (List.mem_of_getElem? (i := 100) rfl) rfl
theorem wd_581 : Cond.code ⟨"LifeNoes$Village", "dislikes", "(IIII)Z"⟩ prog_11_method_14_code 6 (some .boolean) ∈ gT := gin_3 (List.mem_of_getElem? (i := 101) rfl) rfl
theorem wd_582 : Cond.methodLink "LifeNoes$Village" 79 ⟨"LifeNoes$Village", "hasWorseOff", "(III)Z"⟩ ∈ gT := gin_3 (List.mem_of_getElem? (i := 102) rfl) rfl
theorem wd_584 : Cond.instanceMethod ⟨"LifeNoes$Village", "hasWorseOff", "(III)Z"⟩ ∈ gT := gin_3 (List.mem_of_getElem? (i := 104) rfl) rfl
theorem wd_585 : Cond.code ⟨"LifeNoes$Village", "hasWorseOff", "(III)Z"⟩ prog_11_method_15_code 5 (some .boolean) ∈ gT := gin_3 (List.mem_of_getElem? (i := 105) rfl) rfl
theorem wd_586 : Cond.methodLink "LifeNoesLaw" 81 ⟨"LifeNoes", "says", "(I)I"⟩ ∈ gT := gin_3 (List.mem_of_getElem? (i := 106) rfl) rfl
theorem wd_587 : Cond.instanceMethod ⟨"LifeNoes", "says", "(I)I"⟩ ∈ gT := gin_3 (List.mem_of_getElem? (i := 107) rfl) rfl
theorem wd_588 : Cond.selects "LifeNoes" ⟨"LifeNoes", "says", "(I)I"⟩ ⟨"LifeNoes", "says", "(I)I"⟩ ∈ gT := gin_3 (List.mem_of_getElem? (i := 108) rfl) rfl
theorem wd_589 : Cond.code ⟨"LifeNoes", "says", "(I)I"⟩ prog_1_method_17_code 2 (some .int) ∈ gT := gin_3 (List.mem_of_getElem? (i := 109) rfl) rfl
theorem wd_590 : Cond.methodLink "LifeNoes" 182 ⟨"LifeNoes$Village", "whoSays", "(III)I"⟩ ∈ gT := gin_3 (List.mem_of_getElem? (i := 110) rfl) rfl
theorem wd_591 : Cond.instanceMethod ⟨"LifeNoes$Village", "whoSays", "(III)I"⟩ ∈ gT := gin_3 (List.mem_of_getElem? (i := 111) rfl) rfl
theorem wd_592 : Cond.selects "LifeNoes$Village" ⟨"LifeNoes$Village", "whoSays", "(III)I"⟩ ⟨"LifeNoes$Village", "whoSays", "(III)I"⟩ ∈ gT := gin_3 (List.mem_of_getElem? (i := 112) rfl) rfl
theorem wd_593 : Cond.code ⟨"LifeNoes$Village", "whoSays", "(III)I"⟩ prog_11_method_18_code 4 (some .int) ∈ gT := gin_3 (List.mem_of_getElem? (i := 113) rfl) rfl
theorem wd_594 : Cond.methodLink "LifeNoes$Village" 87 ⟨"LifeNoes$Village", "whoWould", "(III)I"⟩ ∈ gT := gin_3 (List.mem_of_getElem? (i := 114) rfl) rfl
theorem wd_595 : Cond.methodLink "LifeNoes$Village" 91 ⟨"LifeNoes$Village", "sayersOf", "(I)I"⟩ ∈ gT := gin_3 (List.mem_of_getElem? (i := 115) rfl) rfl
theorem wd_596 : Cond.instanceMethod ⟨"LifeNoes$Village", "sayersOf", "(I)I"⟩ ∈ gT := gin_3 (List.mem_of_getElem? (i := 116) rfl) rfl
theorem wd_597 : Cond.selects "LifeNoes$Village" ⟨"LifeNoes$Village", "sayersOf", "(I)I"⟩ ⟨"LifeNoes$Village", "sayersOf", "(I)I"⟩ ∈ gT := gin_3 (List.mem_of_getElem? (i := 117) rfl) rfl
theorem wd_598 : Cond.code ⟨"LifeNoes$Village", "sayersOf", "(I)I"⟩ prog_11_method_19_code 6 (some .int) ∈ gT := gin_3 (List.mem_of_getElem? (i := 118) rfl) rfl
theorem wd_599 : Cond.methodLink "LifeNoes$Village" 94 ⟨"LifeNoes$Village", "oldestOf", "(I)I"⟩ ∈ gT := gin_3 (List.mem_of_getElem? (i := 119) rfl) rfl
theorem wd_601 : Cond.instanceMethod ⟨"LifeNoes$Village", "oldestOf", "(I)I"⟩ ∈ gT := gin_3 (List.mem_of_getElem? (i := 121) rfl) rfl
theorem wd_602 : Cond.code ⟨"LifeNoes$Village", "oldestOf", "(I)I"⟩ prog_11_method_20_code 4 (some .int) ∈ gT := gin_3 (List.mem_of_getElem? (i := 122) rfl) rfl
theorem wd_603 : Cond.methodLink "LifeNoes$Village" 97 ⟨"java/lang/Math", "max", "(II)I"⟩ ∈ gT := gin_3 (List.mem_of_getElem? (i := 123) rfl) rfl
theorem wd_604 : Cond.methodLink "LifeNoesLaw" 85 ⟨"LifeNoes", "comes", "(I)I"⟩ ∈ gT := gin_3 (List.mem_of_getElem? (i := 124) rfl) rfl
theorem wd_605 : Cond.instanceMethod ⟨"LifeNoes", "comes", "(I)I"⟩ ∈ gT := gin_3 (List.mem_of_getElem? (i := 125) rfl) rfl
theorem wd_606 : Cond.selects "LifeNoes" ⟨"LifeNoes", "comes", "(I)I"⟩ ⟨"LifeNoes", "comes", "(I)I"⟩ ∈ gT := gin_3 (List.mem_of_getElem? (i := 126) rfl) rfl
theorem wd_607 : Cond.code ⟨"LifeNoes", "comes", "(I)I"⟩ prog_1_method_18_code 2 (some .int) ∈ gT := gin_3 (List.mem_of_getElem? (i := 127) rfl) rfl
theorem wd_608 : Cond.methodLink "LifeNoes" 185 ⟨"LifeNoes$Village", "passYear", "(I)Z"⟩ ∈ gT := gin_3 (List.mem_of_getElem? (i := 128) rfl) rfl
theorem wd_609 : Cond.instanceMethod ⟨"LifeNoes$Village", "passYear", "(I)Z"⟩ ∈ gT := gin_3 (List.mem_of_getElem? (i := 129) rfl) rfl
theorem wd_610 : Cond.selects "LifeNoes$Village" ⟨"LifeNoes$Village", "passYear", "(I)Z"⟩ ⟨"LifeNoes$Village", "passYear", "(I)Z"⟩ ∈ gT := gin_3 (List.mem_of_getElem? (i := 130) rfl) rfl
theorem wd_611 : Cond.code ⟨"LifeNoes$Village", "passYear", "(I)Z"⟩ prog_11_method_23_code 7 (some .boolean) ∈ gT := gin_3 (List.mem_of_getElem? (i := 131) rfl) rfl
theorem wd_612 : Cond.methodLink "LifeNoes$Village" 107 ⟨"LifeNoes$Village", "packedNoes", "()I"⟩ ∈ gT := gin_3 (List.mem_of_getElem? (i := 132) rfl) rfl
theorem wd_613 : Cond.methodLink "LifeNoes$Village" 110 ⟨"LifeNoes$Village", "whoSays", "(III)I"⟩ ∈ gT := gin_3 (List.mem_of_getElem? (i := 133) rfl) rfl
theorem wd_614 : Cond.methodLink "LifeNoes$Village" 113 ⟨"LifeNoes$Village", "isFall", "(I)Z"⟩ ∈ gT := gin_3 (List.mem_of_getElem? (i := 134) rfl) rfl
theorem wd_615 : Cond.instanceMethod ⟨"LifeNoes$Village", "isFall", "(I)Z"⟩ ∈ gT := gin_3 (List.mem_of_getElem? (i := 135) rfl) rfl
theorem wd_616 : Cond.selects "LifeNoes$Village" ⟨"LifeNoes$Village", "isFall", "(I)Z"⟩ ⟨"LifeNoes$Village", "isFall", "(I)Z"⟩ ∈ gT := gin_3 (List.mem_of_getElem? (i := 136) rfl) rfl
theorem wd_617 : Cond.code ⟨"LifeNoes$Village", "isFall", "(I)Z"⟩ prog_11_method_21_code 2 (some .boolean) ∈ gT := gin_3 (List.mem_of_getElem? (i := 137) rfl) rfl
theorem wd_618 : Cond.methodLink "LifeNoes$Village" 102 ⟨"java/lang/Integer", "bitCount", "(I)I"⟩ ∈ gT := gin_3 (List.mem_of_getElem? (i := 138) rfl) rfl
theorem wd_619 : Cond.static ⟨"java/lang/Integer", "bitCount", "(I)I"⟩ ∈ gT := gin_3 (List.mem_of_getElem? (i := 139) rfl) rfl
theorem wd_620 : Cond.code ⟨"java/lang/Integer", "bitCount", "(I)I"⟩ prog_15_method_49_code 1 (some .int) ∈ gT := gin_3 (List.mem_of_getElem? (i := 140) rfl) rfl
theorem wd_621 : Cond.constant "java/lang/Integer" 265 1431655765 ∈ gT := gin_3 (List.mem_of_getElem? (i := 141) rfl) rfl
theorem wd_622 : Cond.constant "java/lang/Integer" 266 858993459 ∈ gT := gin_3 (List.mem_of_getElem? (i := 142) rfl) rfl
theorem wd_623 : Cond.constant "java/lang/Integer" 267 252645135 ∈ gT := gin_3 (List.mem_of_getElem? (i := 143) rfl) rfl
theorem wd_624 : Cond.methodLink "LifeNoes$Village" 117 ⟨"LifeNoes$Village", "noesAfter", "(III)I"⟩ ∈ gT := gin_3 (List.mem_of_getElem? (i := 144) rfl) rfl
theorem wd_625 : Cond.instanceMethod ⟨"LifeNoes$Village", "noesAfter", "(III)I"⟩ ∈ gT := gin_3 (List.mem_of_getElem? (i := 145) rfl) rfl
theorem wd_626 : Cond.selects "LifeNoes$Village" ⟨"LifeNoes$Village", "noesAfter", "(III)I"⟩ ⟨"LifeNoes$Village", "noesAfter", "(III)I"⟩ ∈ gT := gin_3 (List.mem_of_getElem? (i := 146) rfl) rfl
theorem wd_627 : Cond.code ⟨"LifeNoes$Village", "noesAfter", "(III)I"⟩ prog_11_method_22_code 8 (some .int) ∈ gT := gin_3 (List.mem_of_getElem? (i := 147) rfl) rfl
theorem wd_628 : Cond.methodLink "LifeNoesLaw" 89 ⟨"LifeNoes", "lot", "()I"⟩ ∈ gT := gin_3 (List.mem_of_getElem? (i := 148) rfl) rfl
theorem wd_629 : Cond.instanceMethod ⟨"LifeNoes", "lot", "()I"⟩ ∈ gT := gin_3 (List.mem_of_getElem? (i := 149) rfl) rfl
theorem wd_630 : Cond.selects "LifeNoes" ⟨"LifeNoes", "lot", "()I"⟩ ⟨"LifeNoes", "lot", "()I"⟩ ∈ gT := gin_3 (List.mem_of_getElem? (i := 150) rfl) rfl
theorem wd_631 : Cond.code ⟨"LifeNoes", "lot", "()I"⟩ prog_1_method_19_code 2 (some .int) ∈ gT := gin_3 (List.mem_of_getElem? (i := 151) rfl) rfl
theorem wd_632 : Cond.methodLink "LifeNoes" 188 ⟨"LifeNoes$Village", "allWeights", "()I"⟩ ∈ gT := gin_3 (List.mem_of_getElem? (i := 152) rfl) rfl
theorem wd_633 : Cond.instanceMethod ⟨"LifeNoes$Village", "allWeights", "()I"⟩ ∈ gT := gin_3 (List.mem_of_getElem? (i := 153) rfl) rfl
theorem wd_634 : Cond.selects "LifeNoes$Village" ⟨"LifeNoes$Village", "allWeights", "()I"⟩ ⟨"LifeNoes$Village", "allWeights", "()I"⟩ ∈ gT := gin_3 (List.mem_of_getElem? (i := 154) rfl) rfl
theorem wd_635 : Cond.code ⟨"LifeNoes$Village", "allWeights", "()I"⟩ prog_11_method_7_code 3 (some .int) ∈ gT := gin_3 (List.mem_of_getElem? (i := 155) rfl) rfl
theorem wd_636 : Cond.methodLink "LifeNoes" 191 ⟨"LifeNoes", "nextLot", "(I)I"⟩ ∈ gT := gin_3 (List.mem_of_getElem? (i := 156) rfl) rfl
theorem wd_637 : Cond.static ⟨"LifeNoes", "nextLot", "(I)I"⟩ ∈ gT := gin_3 (List.mem_of_getElem? (i := 157) rfl) rfl
theorem wd_638 : Cond.code ⟨"LifeNoes", "nextLot", "(I)I"⟩ prog_1_method_49_code 1 (some .int) ∈ gT := gin_3 (List.mem_of_getElem? (i := 158) rfl) rfl
theorem wd_639 : Cond.constant "LifeNoes" 316 1103515245 ∈ gT := gin_3 (List.mem_of_getElem? (i := 159) rfl) rfl
theorem wd_640 : Cond.methodLink "LifeNoes" 194 ⟨"LifeNoes$Village", "drawn", "(I)I"⟩ ∈ gT := gin_3 (List.mem_of_getElem? (i := 160) rfl) rfl
theorem wd_641 : Cond.instanceMethod ⟨"LifeNoes$Village", "drawn", "(I)I"⟩ ∈ gT := gin_3 (List.mem_of_getElem? (i := 161) rfl) rfl
theorem wd_642 : Cond.selects "LifeNoes$Village" ⟨"LifeNoes$Village", "drawn", "(I)I"⟩ ⟨"LifeNoes$Village", "drawn", "(I)I"⟩ ∈ gT := gin_3 (List.mem_of_getElem? (i := 162) rfl) rfl
theorem wd_643 : Cond.code ⟨"LifeNoes$Village", "drawn", "(I)I"⟩ prog_11_method_11_code 6 (some .int) ∈ gT := gin_3 (List.mem_of_getElem? (i := 163) rfl) rfl
theorem wd_644 : Cond.methodLink "LifeNoes$Village" 60 ⟨"LifeNoes$Village", "allWeights", "()I"⟩ ∈ gT := gin_3 (List.mem_of_getElem? (i := 164) rfl) rfl
theorem wd_645 : Cond.methodLink "LifeNoesLaw" 93 ⟨"LifeNoes", "had", "(I)I"⟩ ∈ gT := gin_3 (List.mem_of_getElem? (i := 165) rfl) rfl
theorem wd_646 : Cond.instanceMethod ⟨"LifeNoes", "had", "(I)I"⟩ ∈ gT := gin_3 (List.mem_of_getElem? (i := 166) rfl) rfl
theorem wd_647 : Cond.selects "LifeNoes" ⟨"LifeNoes", "had", "(I)I"⟩ ⟨"LifeNoes", "had", "(I)I"⟩ ∈ gT := gin_3 (List.mem_of_getElem? (i := 167) rfl) rfl
theorem wd_648 : Cond.code ⟨"LifeNoes", "had", "(I)I"⟩ prog_1_method_20_code 2 (some .int) ∈ gT := gin_3 (List.mem_of_getElem? (i := 168) rfl) rfl
theorem wd_649 : Cond.constant "LifeNoes" 200 100000 ∈ gT := gin_3 (List.mem_of_getElem? (i := 169) rfl) rfl
theorem wd_650 : Cond.methodLink "LifeNoesLaw" 97 ⟨"LifeNoes", "seed", "(I)I"⟩ ∈ gT := gin_3 (List.mem_of_getElem? (i := 170) rfl) rfl
theorem wd_651 : Cond.instanceMethod ⟨"LifeNoes", "seed", "(I)I"⟩ ∈ gT := gin_3 (List.mem_of_getElem? (i := 171) rfl) rfl
theorem wd_652 : Cond.selects "LifeNoes" ⟨"LifeNoes", "seed", "(I)I"⟩ ⟨"LifeNoes", "seed", "(I)I"⟩ ∈ gT := gin_3 (List.mem_of_getElem? (i := 172) rfl) rfl
theorem wd_653 : Cond.code ⟨"LifeNoes", "seed", "(I)I"⟩ prog_1_method_21_code 3 (some .int) ∈ gT := gin_3 (List.mem_of_getElem? (i := 173) rfl) rfl
theorem wd_654 : Cond.methodLink "LifeNoesLaw" 101 ⟨"LifeNoes", "value", "(III)J"⟩ ∈ gT := gin_3 (List.mem_of_getElem? (i := 174) rfl) rfl
theorem wd_655 : Cond.instanceMethod ⟨"LifeNoes", "value", "(III)J"⟩ ∈ gT := gin_3 (List.mem_of_getElem? (i := 175) rfl) rfl
theorem wd_656 : Cond.selects "LifeNoes" ⟨"LifeNoes", "value", "(III)J"⟩ ⟨"LifeNoes", "value", "(III)J"⟩ ∈ gT := gin_3 (List.mem_of_getElem? (i := 176) rfl) rfl
theorem wd_657 : Cond.code ⟨"LifeNoes", "value", "(III)J"⟩ prog_1_method_22_code 4 (some .long) ∈ gT := gin_3 (List.mem_of_getElem? (i := 177) rfl) rfl
theorem wd_658 : Cond.constantLong "LifeNoes" 201 (-1000000000000) ∈ gT := gin_3 (List.mem_of_getElem? (i := 178) rfl) rfl
theorem wd_659 : Cond.methodLink "LifeNoes" 203 ⟨"LifeNoes$Ahead", "look", "(LLifeNoes$Village;I)V"⟩ ∈ gT := gin_3 (List.mem_of_getElem? (i := 179) rfl) rfl
theorem wd_660 : Cond.instanceMethod ⟨"LifeNoes$Ahead", "look", "(LLifeNoes$Village;I)V"⟩ ∈ gT := gin_3 (List.mem_of_getElem? (i := 180) rfl) rfl
theorem wd_661 : Cond.selects "LifeNoes$Ahead" ⟨"LifeNoes$Ahead", "look", "(LLifeNoes$Village;I)V"⟩ ⟨"LifeNoes$Ahead", "look", "(LLifeNoes$Village;I)V"⟩ ∈ gT := gin_3 (List.mem_of_getElem? (i := 181) rfl) rfl
theorem wd_662 : Cond.code ⟨"LifeNoes$Ahead", "look", "(LLifeNoes$Village;I)V"⟩ prog_2_method_2_code 4 none ∈ gT := gin_3 (List.mem_of_getElem? (i := 182) rfl) rfl
theorem wd_663 : Cond.methodLink "LifeNoes$Ahead" 26 ⟨"LifeNoes$Village", "copyFrom", "(LLifeNoes$Village;)V"⟩ ∈ gT := gin_3 (List.mem_of_getElem? (i := 183) rfl) rfl
theorem wd_664 : Cond.methodLink "LifeNoes$Ahead" 30 ⟨"LifeNoes$Village", "allWeights", "()I"⟩ ∈ gT := gin_3 (List.mem_of_getElem? (i := 184) rfl) rfl
theorem wd_665 : Cond.methodLink "LifeNoes$Ahead" 34 ⟨"java/lang/Math", "max", "(II)I"⟩ ∈ gT := gin_3 (List.mem_of_getElem? (i := 185) rfl) rfl
theorem wd_666 : Cond.methodLink "LifeNoes" 207 ⟨"LifeNoes$Ahead", "sum", "(I)J"⟩ ∈ gT := gin_3 (List.mem_of_getElem? (i := 186) rfl) rfl
theorem wd_667 : Cond.instanceMethod ⟨"LifeNoes$Ahead", "sum", "(I)J"⟩ ∈ gT := gin_3 (List.mem_of_getElem? (i := 187) rfl) rfl
theorem wd_668 : Cond.selects "LifeNoes$Ahead" ⟨"LifeNoes$Ahead", "sum", "(I)J"⟩ ⟨"LifeNoes$Ahead", "sum", "(I)J"⟩ ∈ gT := gin_3 (List.mem_of_getElem? (i := 188) rfl) rfl
theorem wd_669 : Cond.code ⟨"LifeNoes$Ahead", "sum", "(I)J"⟩ prog_2_method_3_code 2 (some .long) ∈ gT := gin_3 (List.mem_of_getElem? (i := 189) rfl) rfl
theorem wd_670 : Cond.methodLink "LifeNoes$Ahead" 44 ⟨"LifeNoes$Village", "packedNoes", "()I"⟩ ∈ gT := gin_3 (List.mem_of_getElem? (i := 190) rfl) rfl
theorem wd_671 : Cond.methodLink "LifeNoes$Ahead" 47 ⟨"LifeNoes$Ahead", "sumFrom", "(III)J"⟩ ∈ gT := gin_3 (List.mem_of_getElem? (i := 191) rfl) rfl
theorem wd_673 : Cond.instanceMethod ⟨"LifeNoes$Ahead", "sumFrom", "(III)J"⟩ ∈ gT := gin_3 (List.mem_of_getElem? (i := 193) rfl) rfl
theorem wd_674 : Cond.code ⟨"LifeNoes$Ahead", "sumFrom", "(III)J"⟩ prog_2_method_4_code 10 (some .long) ∈ gT := gin_3 (List.mem_of_getElem? (i := 194) rfl) rfl
theorem wd_675 : Cond.methodLink "LifeNoes$Ahead" 57 ⟨"LifeNoes$Village", "whoSays", "(III)I"⟩ ∈ gT := gin_3 (List.mem_of_getElem? (i := 195) rfl) rfl
theorem wd_676 : Cond.methodLink "LifeNoes$Ahead" 61 ⟨"LifeNoes$Village", "isFall", "(I)Z"⟩ ∈ gT := gin_3 (List.mem_of_getElem? (i := 196) rfl) rfl
theorem wd_677 : Cond.methodLink "LifeNoes$Ahead" 65 ⟨"LifeNoes$Ahead", "gain", "(IZ)J"⟩ ∈ gT := gin_3 (List.mem_of_getElem? (i := 197) rfl) rfl
theorem wd_679 : Cond.instanceMethod ⟨"LifeNoes$Ahead", "gain", "(IZ)J"⟩ ∈ gT := gin_3 (List.mem_of_getElem? (i := 199) rfl) rfl
theorem wd_680 : Cond.code ⟨"LifeNoes$Ahead", "gain", "(IZ)J"⟩ prog_2_method_5_code 6 (some .long) ∈ gT := gin_3 (List.mem_of_getElem? (i := 200) rfl) rfl
theorem wd_681 : Cond.methodLink "LifeNoes$Ahead" 72 ⟨"LifeNoes$Ahead", "isLikedByAllButOne", "(I)Z"⟩ ∈ gT := gin_3 (List.mem_of_getElem? (i := 201) rfl) rfl
theorem wd_683 : Cond.instanceMethod ⟨"LifeNoes$Ahead", "isLikedByAllButOne", "(I)Z"⟩ ∈ gT := gin_3 (List.mem_of_getElem? (i := 203) rfl) rfl
theorem wd_684 : Cond.code ⟨"LifeNoes$Ahead", "isLikedByAllButOne", "(I)Z"⟩ prog_2_method_6_code 4 (some .boolean) ∈ gT := gin_3 (List.mem_of_getElem? (i := 204) rfl) rfl
theorem wd_685 : Cond.methodLink "LifeNoes$Ahead" 69 ⟨"LifeNoes$Village", "noesAfter", "(III)I"⟩ ∈ gT := gin_3 (List.mem_of_getElem? (i := 205) rfl) rfl
theorem wd_686 : Cond.methodLink "LifeNoes" 215 ⟨"LifeNoes", "partOf", "(JJI)J"⟩ ∈ gT := gin_3 (List.mem_of_getElem? (i := 206) rfl) rfl
theorem wd_687 : Cond.static ⟨"LifeNoes", "partOf", "(JJI)J"⟩ ∈ gT := gin_3 (List.mem_of_getElem? (i := 207) rfl) rfl
theorem wd_688 : Cond.code ⟨"LifeNoes", "partOf", "(JJI)J"⟩ prog_1_method_51_code 7 (some .long) ∈ gT := gin_3 (List.mem_of_getElem? (i := 208) rfl) rfl
theorem wd_689 : Cond.methodLink "LifeNoes" 323 ⟨"java/lang/Math", "abs", "(J)J"⟩ ∈ gT := gin_3 (List.mem_of_getElem? (i := 209) rfl) rfl
theorem wd_690 : Cond.static ⟨"java/lang/Math", "abs", "(J)J"⟩ ∈ gT := gin_3 (List.mem_of_getElem? (i := 210) rfl) rfl
theorem wd_691 : Cond.code ⟨"java/lang/Math", "abs", "(J)J"⟩ prog_16_method_61_code 2 (some .long) ∈ gT := gin_3 (List.mem_of_getElem? (i := 211) rfl) rfl
theorem wd_692 : Cond.methodLink "LifeNoes" 327 ⟨"LifeNoes", "commonDivisor", "(JJ)J"⟩ ∈ gT := gin_3 (List.mem_of_getElem? (i := 212) rfl) rfl
theorem wd_693 : Cond.static ⟨"LifeNoes", "commonDivisor", "(JJ)J"⟩ ∈ gT := gin_3 (List.mem_of_getElem? (i := 213) rfl) rfl
theorem wd_694 : Cond.code ⟨"LifeNoes", "commonDivisor", "(JJ)J"⟩ prog_1_method_52_code 11 (some .long) ∈ gT := gin_3 (List.mem_of_getElem? (i := 214) rfl) rfl
theorem wd_695 : Cond.methodLink "LifeNoesLaw" 106 ⟨"LifeNoes", "best", "(III)J"⟩ ∈ gT := gin_3 (List.mem_of_getElem? (i := 215) rfl) rfl
theorem wd_696 : Cond.instanceMethod ⟨"LifeNoes", "best", "(III)J"⟩ ∈ gT := gin_3 (List.mem_of_getElem? (i := 216) rfl) rfl
theorem wd_697 : Cond.selects "LifeNoes" ⟨"LifeNoes", "best", "(III)J"⟩ ⟨"LifeNoes", "best", "(III)J"⟩ ∈ gT := gin_3 (List.mem_of_getElem? (i := 217) rfl) rfl
theorem wd_698 : Cond.code ⟨"LifeNoes", "best", "(III)J"⟩ prog_1_method_23_code 4 (some .long) ∈ gT := gin_3 (List.mem_of_getElem? (i := 218) rfl) rfl
theorem wd_699 : Cond.methodLink "LifeNoes" 219 ⟨"LifeNoes$Ahead", "bestSum", "(I)J"⟩ ∈ gT := gin_3 (List.mem_of_getElem? (i := 219) rfl) rfl
theorem wd_700 : Cond.instanceMethod ⟨"LifeNoes$Ahead", "bestSum", "(I)J"⟩ ∈ gT := gin_3 (List.mem_of_getElem? (i := 220) rfl) rfl
theorem wd_701 : Cond.selects "LifeNoes$Ahead" ⟨"LifeNoes$Ahead", "bestSum", "(I)J"⟩ ⟨"LifeNoes$Ahead", "bestSum", "(I)J"⟩ ∈ gT := gin_3 (List.mem_of_getElem? (i := 221) rfl) rfl
theorem wd_702 : Cond.code ⟨"LifeNoes$Ahead", "bestSum", "(I)J"⟩ prog_2_method_7_code 2 (some .long) ∈ gT := gin_3 (List.mem_of_getElem? (i := 222) rfl) rfl
theorem wd_703 : Cond.methodLink "LifeNoes$Ahead" 82 ⟨"LifeNoes$Ahead", "bestSumFrom", "(III)J"⟩ ∈ gT := gin_3 (List.mem_of_getElem? (i := 223) rfl) rfl
theorem wd_705 : Cond.instanceMethod ⟨"LifeNoes$Ahead", "bestSumFrom", "(III)J"⟩ ∈ gT := gin_3 (List.mem_of_getElem? (i := 225) rfl) rfl
theorem wd_706 : Cond.code ⟨"LifeNoes$Ahead", "bestSumFrom", "(III)J"⟩ prog_2_method_8_code 7 (some .long) ∈ gT := gin_3 (List.mem_of_getElem? (i := 226) rfl) rfl
theorem wd_707 : Cond.methodLink "LifeNoes$Ahead" 85 ⟨"LifeNoes$Ahead", "bestOf", "(IIII)J"⟩ ∈ gT := gin_3 (List.mem_of_getElem? (i := 227) rfl) rfl
theorem wd_709 : Cond.instanceMethod ⟨"LifeNoes$Ahead", "bestOf", "(IIII)J"⟩ ∈ gT := gin_3 (List.mem_of_getElem? (i := 229) rfl) rfl
theorem wd_710 : Cond.code ⟨"LifeNoes$Ahead", "bestOf", "(IIII)J"⟩ prog_2_method_9_code 10 (some .long) ∈ gT := gin_3 (List.mem_of_getElem? (i := 230) rfl) rfl
theorem wd_711 : Cond.methodLink "LifeNoes$Ahead" 89 ⟨"LifeNoes$Village", "whoWould", "(III)I"⟩ ∈ gT := gin_3 (List.mem_of_getElem? (i := 231) rfl) rfl
theorem wd_712 : Cond.methodLink "LifeNoes$Ahead" 92 ⟨"LifeNoes$Ahead", "ownBit", "()I"⟩ ∈ gT := gin_3 (List.mem_of_getElem? (i := 232) rfl) rfl
theorem wd_714 : Cond.instanceMethod ⟨"LifeNoes$Ahead", "ownBit", "()I"⟩ ∈ gT := gin_3 (List.mem_of_getElem? (i := 234) rfl) rfl
theorem wd_715 : Cond.code ⟨"LifeNoes$Ahead", "ownBit", "()I"⟩ prog_2_method_11_code 1 (some .int) ∈ gT := gin_3 (List.mem_of_getElem? (i := 235) rfl) rfl
theorem wd_716 : Cond.methodLink "LifeNoes$Ahead" 95 ⟨"LifeNoes$Village", "sayersOf", "(I)I"⟩ ∈ gT := gin_3 (List.mem_of_getElem? (i := 236) rfl) rfl
theorem wd_717 : Cond.methodLink "LifeNoes$Ahead" 99 ⟨"LifeNoes$Ahead", "withSayers", "(IIIII)J"⟩ ∈ gT := gin_3 (List.mem_of_getElem? (i := 237) rfl) rfl
theorem wd_719 : Cond.instanceMethod ⟨"LifeNoes$Ahead", "withSayers", "(IIIII)J"⟩ ∈ gT := gin_3 (List.mem_of_getElem? (i := 239) rfl) rfl
theorem wd_720 : Cond.code ⟨"LifeNoes$Ahead", "withSayers", "(IIIII)J"⟩ prog_2_method_10_code 8 (some .long) ∈ gT := gin_4 (List.mem_of_getElem? (i := 0) rfl) rfl
theorem wd_721 : Cond.methodLink "LifeNoes$Ahead" 103 ⟨"LifeNoes$Village", "noesIn", "(II)I"⟩ ∈ gT := gin_4 (List.mem_of_getElem? (i := 1) rfl) rfl
theorem wd_722 : Cond.methodLink "LifeNoes$Ahead" 106 ⟨"java/lang/Math", "max", "(JJ)J"⟩ ∈ gT := gin_4 (List.mem_of_getElem? (i := 2) rfl) rfl
theorem wd_723 : Cond.static ⟨"java/lang/Math", "max", "(JJ)J"⟩ ∈ gT := gin_4 (List.mem_of_getElem? (i := 3) rfl) rfl
theorem wd_724 : Cond.code ⟨"java/lang/Math", "max", "(JJ)J"⟩ prog_16_method_66_code 4 (some .long) ∈ gT := gin_4 (List.mem_of_getElem? (i := 4) rfl) rfl
theorem wd_725 : Cond.methodLink "LifeNoesLaw" 110 ⟨"LifeNoes", "should", "(III)I"⟩ ∈ gT := gin_4 (List.mem_of_getElem? (i := 5) rfl) rfl
theorem wd_726 : Cond.instanceMethod ⟨"LifeNoes", "should", "(III)I"⟩ ∈ gT := gin_4 (List.mem_of_getElem? (i := 6) rfl) rfl
theorem wd_727 : Cond.selects "LifeNoes" ⟨"LifeNoes", "should", "(III)I"⟩ ⟨"LifeNoes", "should", "(III)I"⟩ ∈ gT := gin_4 (List.mem_of_getElem? (i := 7) rfl) rfl
theorem wd_728 : Cond.code ⟨"LifeNoes", "should", "(III)I"⟩ prog_1_method_24_code 4 (some .int) ∈ gT := gin_4 (List.mem_of_getElem? (i := 8) rfl) rfl
theorem wd_729 : Cond.methodLink "LifeNoes" 222 ⟨"LifeNoes$Ahead", "isNoBetter", "(II)Z"⟩ ∈ gT := gin_4 (List.mem_of_getElem? (i := 9) rfl) rfl
theorem wd_730 : Cond.instanceMethod ⟨"LifeNoes$Ahead", "isNoBetter", "(II)Z"⟩ ∈ gT := gin_4 (List.mem_of_getElem? (i := 10) rfl) rfl
theorem wd_731 : Cond.selects "LifeNoes$Ahead" ⟨"LifeNoes$Ahead", "isNoBetter", "(II)Z"⟩ ⟨"LifeNoes$Ahead", "isNoBetter", "(II)Z"⟩ ∈ gT := gin_4 (List.mem_of_getElem? (i := 11) rfl) rfl
theorem wd_732 : Cond.code ⟨"LifeNoes$Ahead", "isNoBetter", "(II)Z"⟩ prog_2_method_12_code 8 (some .boolean) ∈ gT := gin_4 (List.mem_of_getElem? (i := 12) rfl) rfl
theorem wd_733 : Cond.methodLink "LifeNoesLaw" 114 ⟨"LifeNoes", "barOf", "(II)I"⟩ ∈ gT := gin_4 (List.mem_of_getElem? (i := 13) rfl) rfl
theorem wd_734 : Cond.instanceMethod ⟨"LifeNoes", "barOf", "(II)I"⟩ ∈ gT := gin_4 (List.mem_of_getElem? (i := 14) rfl) rfl
theorem wd_735 : Cond.selects "LifeNoes" ⟨"LifeNoes", "barOf", "(II)I"⟩ ⟨"LifeNoes", "barOf", "(II)I"⟩ ∈ gT := gin_4 (List.mem_of_getElem? (i := 15) rfl) rfl
theorem wd_736 : Cond.code ⟨"LifeNoes", "barOf", "(II)I"⟩ prog_1_method_25_code 3 (some .int) ∈ gT := gin_4 (List.mem_of_getElem? (i := 16) rfl) rfl
theorem wd_737 : Cond.methodLink "LifeNoes" 225 ⟨"LifeNoes$Ahead", "bestBar", "(II)I"⟩ ∈ gT := gin_4 (List.mem_of_getElem? (i := 17) rfl) rfl
theorem wd_738 : Cond.instanceMethod ⟨"LifeNoes$Ahead", "bestBar", "(II)I"⟩ ∈ gT := gin_4 (List.mem_of_getElem? (i := 18) rfl) rfl
theorem wd_739 : Cond.selects "LifeNoes$Ahead" ⟨"LifeNoes$Ahead", "bestBar", "(II)I"⟩ ⟨"LifeNoes$Ahead", "bestBar", "(II)I"⟩ ∈ gT := gin_4 (List.mem_of_getElem? (i := 19) rfl) rfl
theorem wd_740 : Cond.code ⟨"LifeNoes$Ahead", "bestBar", "(II)I"⟩ prog_2_method_13_code 9 (some .int) ∈ gT := gin_4 (List.mem_of_getElem? (i := 20) rfl) rfl
theorem wd_741 : Cond.methodLink "LifeNoes$Ahead" 115 ⟨"LifeNoes$Ahead", "sum", "(I)J"⟩ ∈ gT := gin_4 (List.mem_of_getElem? (i := 21) rfl) rfl
theorem wd_742 : Cond.methodLink "LifeNoesLaw" 118 ⟨"LifeNoes", "lets", "(II)I"⟩ ∈ gT := gin_4 (List.mem_of_getElem? (i := 22) rfl) rfl
theorem wd_743 : Cond.instanceMethod ⟨"LifeNoes", "lets", "(II)I"⟩ ∈ gT := gin_4 (List.mem_of_getElem? (i := 23) rfl) rfl
theorem wd_744 : Cond.selects "LifeNoes" ⟨"LifeNoes", "lets", "(II)I"⟩ ⟨"LifeNoes", "lets", "(II)I"⟩ ∈ gT := gin_4 (List.mem_of_getElem? (i := 24) rfl) rfl
theorem wd_745 : Cond.code ⟨"LifeNoes", "lets", "(II)I"⟩ prog_1_method_26_code 5 (some .int) ∈ gT := gin_4 (List.mem_of_getElem? (i := 25) rfl) rfl
theorem wd_746 : Cond.methodLink "LifeNoes" 229 ⟨"LifeNoes$Ahead", "rowThatLets", "(II)I"⟩ ∈ gT := gin_4 (List.mem_of_getElem? (i := 26) rfl) rfl
theorem wd_747 : Cond.instanceMethod ⟨"LifeNoes$Ahead", "rowThatLets", "(II)I"⟩ ∈ gT := gin_4 (List.mem_of_getElem? (i := 27) rfl) rfl
theorem wd_748 : Cond.selects "LifeNoes$Ahead" ⟨"LifeNoes$Ahead", "rowThatLets", "(II)I"⟩ ⟨"LifeNoes$Ahead", "rowThatLets", "(II)I"⟩ ∈ gT := gin_4 (List.mem_of_getElem? (i := 28) rfl) rfl
theorem wd_749 : Cond.code ⟨"LifeNoes$Ahead", "rowThatLets", "(II)I"⟩ prog_2_method_15_code 3 (some .int) ∈ gT := gin_4 (List.mem_of_getElem? (i := 29) rfl) rfl
theorem wd_750 : Cond.methodLink "LifeNoes$Ahead" 119 ⟨"LifeNoes$Ahead", "rowFrom", "(IIII)I"⟩ ∈ gT := gin_4 (List.mem_of_getElem? (i := 30) rfl) rfl
theorem wd_752 : Cond.instanceMethod ⟨"LifeNoes$Ahead", "rowFrom", "(IIII)I"⟩ ∈ gT := gin_4 (List.mem_of_getElem? (i := 32) rfl) rfl
theorem wd_753 : Cond.code ⟨"LifeNoes$Ahead", "rowFrom", "(IIII)I"⟩ prog_2_method_16_code 8 (some .int) ∈ gT := gin_4 (List.mem_of_getElem? (i := 33) rfl) rfl
theorem wd_754 : Cond.methodLink "LifeNoesLaw" 122 ⟨"LifeNoes", "harm", "(I)I"⟩ ∈ gT := gin_4 (List.mem_of_getElem? (i := 34) rfl) rfl
theorem wd_755 : Cond.instanceMethod ⟨"LifeNoes", "harm", "(I)I"⟩ ∈ gT := gin_4 (List.mem_of_getElem? (i := 35) rfl) rfl
theorem wd_756 : Cond.selects "LifeNoes" ⟨"LifeNoes", "harm", "(I)I"⟩ ⟨"LifeNoes", "harm", "(I)I"⟩ ∈ gT := gin_4 (List.mem_of_getElem? (i := 36) rfl) rfl
theorem wd_757 : Cond.code ⟨"LifeNoes", "harm", "(I)I"⟩ prog_1_method_27_code 2 (some .int) ∈ gT := gin_4 (List.mem_of_getElem? (i := 37) rfl) rfl
theorem wd_758 : Cond.methodLink "LifeNoes" 232 ⟨"LifeNoes$Ahead", "leastHarm", "(I)I"⟩ ∈ gT := gin_4 (List.mem_of_getElem? (i := 38) rfl) rfl
theorem wd_759 : Cond.instanceMethod ⟨"LifeNoes$Ahead", "leastHarm", "(I)I"⟩ ∈ gT := gin_4 (List.mem_of_getElem? (i := 39) rfl) rfl
theorem wd_760 : Cond.selects "LifeNoes$Ahead" ⟨"LifeNoes$Ahead", "leastHarm", "(I)I"⟩ ⟨"LifeNoes$Ahead", "leastHarm", "(I)I"⟩ ∈ gT := gin_4 (List.mem_of_getElem? (i := 40) rfl) rfl
theorem wd_761 : Cond.code ⟨"LifeNoes$Ahead", "leastHarm", "(I)I"⟩ prog_2_method_14_code 9 (some .int) ∈ gT := gin_4 (List.mem_of_getElem? (i := 41) rfl) rfl
theorem wd_762 : Cond.methodLink "LifeNoesLaw" 126 ⟨"LifeNoes", "spoilt", "(II)J"⟩ ∈ gT := gin_4 (List.mem_of_getElem? (i := 42) rfl) rfl
theorem wd_763 : Cond.instanceMethod ⟨"LifeNoes", "spoilt", "(II)J"⟩ ∈ gT := gin_4 (List.mem_of_getElem? (i := 43) rfl) rfl
theorem wd_764 : Cond.selects "LifeNoes" ⟨"LifeNoes", "spoilt", "(II)J"⟩ ⟨"LifeNoes", "spoilt", "(II)J"⟩ ∈ gT := gin_4 (List.mem_of_getElem? (i := 44) rfl) rfl
theorem wd_765 : Cond.code ⟨"LifeNoes", "spoilt", "(II)J"⟩ prog_1_method_28_code 3 (some .long) ∈ gT := gin_4 (List.mem_of_getElem? (i := 45) rfl) rfl
theorem wd_766 : Cond.constantLong "LifeNoes" 235 (-1) ∈ gT := gin_4 (List.mem_of_getElem? (i := 46) rfl) rfl
theorem wd_767 : Cond.methodLink "LifeNoesLaw" 131 ⟨"LifeNoes", "prove", "(I)I"⟩ ∈ gT := gin_4 (List.mem_of_getElem? (i := 47) rfl) rfl
theorem wd_768 : Cond.instanceMethod ⟨"LifeNoes", "prove", "(I)I"⟩ ∈ gT := gin_4 (List.mem_of_getElem? (i := 48) rfl) rfl
theorem wd_769 : Cond.selects "LifeNoes" ⟨"LifeNoes", "prove", "(I)I"⟩ ⟨"LifeNoes", "prove", "(I)I"⟩ ∈ gT := gin_4 (List.mem_of_getElem? (i := 49) rfl) rfl
theorem wd_770 : Cond.code ⟨"LifeNoes", "prove", "(I)I"⟩ prog_1_method_29_code 2 (some .int) ∈ gT := gin_4 (List.mem_of_getElem? (i := 50) rfl) rfl
theorem wd_771 : Cond.methodLink "LifeNoes" 237 ⟨"LifeNoes", "fillRows", "([[II)V"⟩ ∈ gT := gin_4 (List.mem_of_getElem? (i := 51) rfl) rfl
theorem wd_773 : Cond.instanceMethod ⟨"LifeNoes", "fillRows", "([[II)V"⟩ ∈ gT := gin_4 (List.mem_of_getElem? (i := 53) rfl) rfl
theorem wd_774 : Cond.code ⟨"LifeNoes", "fillRows", "([[II)V"⟩ prog_1_method_50_code 9 none ∈ gT := gin_4 (List.mem_of_getElem? (i := 54) rfl) rfl
theorem wd_775 : Cond.methodLink "LifeNoes" 317 ⟨"LifeNoes$Village", "isFall", "(I)Z"⟩ ∈ gT := gin_4 (List.mem_of_getElem? (i := 55) rfl) rfl
theorem wd_776 : Cond.methodLink "LifeNoes" 320 ⟨"LifeNoes$Village", "noesAfter", "(III)I"⟩ ∈ gT := gin_4 (List.mem_of_getElem? (i := 56) rfl) rfl
theorem wd_777 : Cond.methodLink "LifeNoesLaw" 135 ⟨"LifeNoes", "row", "(II)I"⟩ ∈ gT := gin_4 (List.mem_of_getElem? (i := 57) rfl) rfl
theorem wd_778 : Cond.instanceMethod ⟨"LifeNoes", "row", "(II)I"⟩ ∈ gT := gin_4 (List.mem_of_getElem? (i := 58) rfl) rfl
theorem wd_779 : Cond.selects "LifeNoes" ⟨"LifeNoes", "row", "(II)I"⟩ ⟨"LifeNoes", "row", "(II)I"⟩ ∈ gT := gin_4 (List.mem_of_getElem? (i := 59) rfl) rfl
theorem wd_780 : Cond.code ⟨"LifeNoes", "row", "(II)I"⟩ prog_1_method_30_code 3 (some .int) ∈ gT := gin_4 (List.mem_of_getElem? (i := 60) rfl) rfl
theorem wd_781 : Cond.methodLink "LifeNoes" 241 ⟨"LifeNoes", "isInRows", "(II)Z"⟩ ∈ gT := gin_4 (List.mem_of_getElem? (i := 61) rfl) rfl
theorem wd_783 : Cond.instanceMethod ⟨"LifeNoes", "isInRows", "(II)Z"⟩ ∈ gT := gin_4 (List.mem_of_getElem? (i := 63) rfl) rfl
theorem wd_784 : Cond.code ⟨"LifeNoes", "isInRows", "(II)Z"⟩ prog_1_method_47_code 3 (some .boolean) ∈ gT := gin_4 (List.mem_of_getElem? (i := 64) rfl) rfl
theorem wd_785 : Cond.methodLink "LifeNoesLaw" 139 ⟨"LifeNoes", "alterRow", "(III)I"⟩ ∈ gT := gin_4 (List.mem_of_getElem? (i := 65) rfl) rfl
theorem wd_786 : Cond.instanceMethod ⟨"LifeNoes", "alterRow", "(III)I"⟩ ∈ gT := gin_4 (List.mem_of_getElem? (i := 66) rfl) rfl
theorem wd_787 : Cond.selects "LifeNoes" ⟨"LifeNoes", "alterRow", "(III)I"⟩ ⟨"LifeNoes", "alterRow", "(III)I"⟩ ∈ gT := gin_4 (List.mem_of_getElem? (i := 67) rfl) rfl
theorem wd_788 : Cond.code ⟨"LifeNoes", "alterRow", "(III)I"⟩ prog_1_method_31_code 5 (some .int) ∈ gT := gin_4 (List.mem_of_getElem? (i := 68) rfl) rfl
theorem wd_789 : Cond.methodLink "LifeNoesLaw" 143 ⟨"LifeNoes", "judge", "()I"⟩ ∈ gT := gin_4 (List.mem_of_getElem? (i := 69) rfl) rfl
theorem wd_790 : Cond.instanceMethod ⟨"LifeNoes", "judge", "()I"⟩ ∈ gT := gin_4 (List.mem_of_getElem? (i := 70) rfl) rfl
theorem wd_791 : Cond.selects "LifeNoes" ⟨"LifeNoes", "judge", "()I"⟩ ⟨"LifeNoes", "judge", "()I"⟩ ∈ gT := gin_4 (List.mem_of_getElem? (i := 71) rfl) rfl
theorem wd_792 : Cond.code ⟨"LifeNoes", "judge", "()I"⟩ prog_1_method_32_code 3 (some .int) ∈ gT := gin_4 (List.mem_of_getElem? (i := 72) rfl) rfl
theorem wd_793 : Cond.methodLink "LifeNoesLaw" 147 ⟨"LifeNoes", "worths", "(II)I"⟩ ∈ gT := gin_4 (List.mem_of_getElem? (i := 73) rfl) rfl
theorem wd_794 : Cond.instanceMethod ⟨"LifeNoes", "worths", "(II)I"⟩ ∈ gT := gin_4 (List.mem_of_getElem? (i := 74) rfl) rfl
theorem wd_795 : Cond.selects "LifeNoes" ⟨"LifeNoes", "worths", "(II)I"⟩ ⟨"LifeNoes", "worths", "(II)I"⟩ ∈ gT := gin_4 (List.mem_of_getElem? (i := 75) rfl) rfl
theorem wd_796 : Cond.code ⟨"LifeNoes", "worths", "(II)I"⟩ prog_1_method_33_code 6 (some .int) ∈ gT := gin_4 (List.mem_of_getElem? (i := 76) rfl) rfl
theorem wd_797 : Cond.methodLink "LifeNoes" 250 ⟨"java/lang/Math", "min", "(II)I"⟩ ∈ gT := gin_4 (List.mem_of_getElem? (i := 77) rfl) rfl
theorem wd_798 : Cond.methodLink "LifeNoes" 258 ⟨"java/lang/Math", "max", "(II)I"⟩ ∈ gT := gin_4 (List.mem_of_getElem? (i := 78) rfl) rfl
theorem wd_799 : Cond.methodLink "LifeNoesLaw" 151 ⟨"LifeNoes", "sheet", "(III)I"⟩ ∈ gT := gin_4 (List.mem_of_getElem? (i := 79) rfl) rfl
theorem wd_800 : Cond.instanceMethod ⟨"LifeNoes", "sheet", "(III)I"⟩ ∈ gT := gin_4 (List.mem_of_getElem? (i := 80) rfl) rfl
theorem wd_801 : Cond.selects "LifeNoes" ⟨"LifeNoes", "sheet", "(III)I"⟩ ⟨"LifeNoes", "sheet", "(III)I"⟩ ∈ gT := gin_4 (List.mem_of_getElem? (i := 81) rfl) rfl
theorem wd_802 : Cond.code ⟨"LifeNoes", "sheet", "(III)I"⟩ prog_1_method_34_code 4 (some .int) ∈ gT := gin_4 (List.mem_of_getElem? (i := 82) rfl) rfl
theorem wd_803 : Cond.methodLink "LifeNoes" 261 ⟨"LifeNoes$Sheet", "become", "(II)V"⟩ ∈ gT := gin_4 (List.mem_of_getElem? (i := 83) rfl) rfl
theorem wd_804 : Cond.instanceMethod ⟨"LifeNoes$Sheet", "become", "(II)V"⟩ ∈ gT := gin_4 (List.mem_of_getElem? (i := 84) rfl) rfl
theorem wd_805 : Cond.selects "LifeNoes$Sheet" ⟨"LifeNoes$Sheet", "become", "(II)V"⟩ ⟨"LifeNoes$Sheet", "become", "(II)V"⟩ ∈ gT := gin_4 (List.mem_of_getElem? (i := 85) rfl) rfl
theorem wd_806 : Cond.code ⟨"LifeNoes$Sheet", "become", "(II)V"⟩ prog_7_method_2_code 4 none ∈ gT := gin_4 (List.mem_of_getElem? (i := 86) rfl) rfl
theorem wd_807 : Cond.methodLink "LifeNoesLaw" 155 ⟨"LifeNoes", "put", "(III)I"⟩ ∈ gT := gin_4 (List.mem_of_getElem? (i := 87) rfl) rfl
theorem wd_808 : Cond.instanceMethod ⟨"LifeNoes", "put", "(III)I"⟩ ∈ gT := gin_4 (List.mem_of_getElem? (i := 88) rfl) rfl
theorem wd_809 : Cond.selects "LifeNoes" ⟨"LifeNoes", "put", "(III)I"⟩ ⟨"LifeNoes", "put", "(III)I"⟩ ∈ gT := gin_4 (List.mem_of_getElem? (i := 89) rfl) rfl
theorem wd_810 : Cond.code ⟨"LifeNoes", "put", "(III)I"⟩ prog_1_method_35_code 5 (some .int) ∈ gT := gin_4 (List.mem_of_getElem? (i := 90) rfl) rfl
theorem wd_811 : Cond.methodLink "LifeNoes" 265 ⟨"LifeNoes", "narrowed", "(II)I"⟩ ∈ gT := gin_4 (List.mem_of_getElem? (i := 91) rfl) rfl
theorem wd_812 : Cond.static ⟨"LifeNoes", "narrowed", "(II)I"⟩ ∈ gT := gin_4 (List.mem_of_getElem? (i := 92) rfl) rfl
theorem wd_813 : Cond.code ⟨"LifeNoes", "narrowed", "(II)I"⟩ prog_1_method_53_code 2 (some .int) ∈ gT := gin_4 (List.mem_of_getElem? (i := 93) rfl) rfl
theorem wd_814 : Cond.methodLink "LifeNoesLaw" 159 ⟨"LifeNoes", "item", "(III)I"⟩ ∈ gT := gin_4 (List.mem_of_getElem? (i := 94) rfl) rfl
theorem wd_815 : Cond.instanceMethod ⟨"LifeNoes", "item", "(III)I"⟩ ∈ gT := gin_4 (List.mem_of_getElem? (i := 95) rfl) rfl
theorem wd_816 : Cond.selects "LifeNoes" ⟨"LifeNoes", "item", "(III)I"⟩ ⟨"LifeNoes", "item", "(III)I"⟩ ∈ gT := gin_4 (List.mem_of_getElem? (i := 96) rfl) rfl
theorem wd_817 : Cond.code ⟨"LifeNoes", "item", "(III)I"⟩ prog_1_method_36_code 5 (some .int) ∈ gT := gin_4 (List.mem_of_getElem? (i := 97) rfl) rfl
theorem wd_818 : Cond.methodLink "LifeNoesLaw" 163 ⟨"LifeNoes", "shelf", "(III)I"⟩ ∈ gT := gin_4 (List.mem_of_getElem? (i := 98) rfl) rfl
theorem wd_819 : Cond.instanceMethod ⟨"LifeNoes", "shelf", "(III)I"⟩ ∈ gT := gin_4 (List.mem_of_getElem? (i := 99) rfl) rfl
theorem wd_820 : Cond.selects "LifeNoes" ⟨"LifeNoes", "shelf", "(III)I"⟩ ⟨"LifeNoes", "shelf", "(III)I"⟩ ∈ gT := gin_4 (List.mem_of_getElem? (i := 100) rfl) rfl
theorem wd_821 : Cond.code ⟨"LifeNoes", "shelf", "(III)I"⟩ prog_1_method_37_code 5 (some .int) ∈ gT := gin_4 (List.mem_of_getElem? (i := 101) rfl) rfl
theorem wd_822 : Cond.methodLink "LifeNoes" 268 ⟨"LifeNoes", "fillShelf", "(IIII)V"⟩ ∈ gT := gin_4 (List.mem_of_getElem? (i := 102) rfl) rfl
theorem wd_824 : Cond.instanceMethod ⟨"LifeNoes", "fillShelf", "(IIII)V"⟩ ∈ gT := gin_4 (List.mem_of_getElem? (i := 104) rfl) rfl
theorem wd_825 : Cond.code ⟨"LifeNoes", "fillShelf", "(IIII)V"⟩ prog_1_method_54_code 5 none ∈ gT := gin_4 (List.mem_of_getElem? (i := 105) rfl) rfl
theorem wd_826 : Cond.methodLink "LifeNoesLaw" 167 ⟨"LifeNoes", "taken", "(II)I"⟩ ∈ gT := gin_4 (List.mem_of_getElem? (i := 106) rfl) rfl
theorem wd_827 : Cond.instanceMethod ⟨"LifeNoes", "taken", "(II)I"⟩ ∈ gT := gin_4 (List.mem_of_getElem? (i := 107) rfl) rfl
theorem wd_828 : Cond.selects "LifeNoes" ⟨"LifeNoes", "taken", "(II)I"⟩ ⟨"LifeNoes", "taken", "(II)I"⟩ ∈ gT := gin_4 (List.mem_of_getElem? (i := 108) rfl) rfl
theorem wd_829 : Cond.code ⟨"LifeNoes", "taken", "(II)I"⟩ prog_1_method_38_code 4 (some .int) ∈ gT := gin_4 (List.mem_of_getElem? (i := 109) rfl) rfl
theorem wd_830 : Cond.methodLink "LifeNoes" 272 ⟨"LifeNoes", "thingOn", "(I)LLifeNoes$Sayer;"⟩ ∈ gT := gin_4 (List.mem_of_getElem? (i := 110) rfl) rfl
theorem wd_832 : Cond.instanceMethod ⟨"LifeNoes", "thingOn", "(I)LLifeNoes$Sayer;"⟩ ∈ gT := gin_4 (List.mem_of_getElem? (i := 112) rfl) rfl
theorem wd_833 : Cond.code ⟨"LifeNoes", "thingOn", "(I)LLifeNoes$Sayer;"⟩ prog_1_method_55_code 4 (some (.object "LifeNoes$Sayer")) ∈ gT := gin_4 (List.mem_of_getElem? (i := 113) rfl) rfl
theorem wd_834 : Cond.methodLink "LifeNoes" 276 ⟨"LifeNoes", "isUnder", "(LLifeNoes$Sayer;I)Z"⟩ ∈ gT := gin_4 (List.mem_of_getElem? (i := 114) rfl) rfl
theorem wd_835 : Cond.static ⟨"LifeNoes", "isUnder", "(LLifeNoes$Sayer;I)Z"⟩ ∈ gT := gin_4 (List.mem_of_getElem? (i := 115) rfl) rfl
theorem wd_836 : Cond.code ⟨"LifeNoes", "isUnder", "(LLifeNoes$Sayer;I)Z"⟩ prog_1_method_56_code 2 (some .boolean) ∈ gT := gin_4 (List.mem_of_getElem? (i := 116) rfl) rfl
theorem wd_837 : Cond.methodLink "LifeNoesLaw" 171 ⟨"LifeNoes", "act", "(III)I"⟩ ∈ gT := gin_4 (List.mem_of_getElem? (i := 117) rfl) rfl
theorem wd_838 : Cond.instanceMethod ⟨"LifeNoes", "act", "(III)I"⟩ ∈ gT := gin_4 (List.mem_of_getElem? (i := 118) rfl) rfl
theorem wd_839 : Cond.selects "LifeNoes" ⟨"LifeNoes", "act", "(III)I"⟩ ⟨"LifeNoes", "act", "(III)I"⟩ ∈ gT := gin_4 (List.mem_of_getElem? (i := 119) rfl) rfl
theorem wd_840 : Cond.code ⟨"LifeNoes", "act", "(III)I"⟩ prog_1_method_39_code 6 (some .int) ∈ gT := gin_4 (List.mem_of_getElem? (i := 120) rfl) rfl
theorem wd_841 : Cond.methodLink "LifeNoes" 283 ⟨"LifeNoes$Trace", "clear", "()V"⟩ ∈ gT := gin_4 (List.mem_of_getElem? (i := 121) rfl) rfl
theorem wd_842 : Cond.instanceMethod ⟨"LifeNoes$Trace", "clear", "()V"⟩ ∈ gT := gin_4 (List.mem_of_getElem? (i := 122) rfl) rfl
theorem wd_843 : Cond.selects "LifeNoes$Trace" ⟨"LifeNoes$Trace", "clear", "()V"⟩ ⟨"LifeNoes$Trace", "clear", "()V"⟩ ∈ gT := gin_4 (List.mem_of_getElem? (i := 123) rfl) rfl
theorem wd_844 : Cond.code ⟨"LifeNoes$Trace", "clear", "()V"⟩ prog_10_method_2_code 1 none ∈ gT := gin_4 (List.mem_of_getElem? (i := 124) rfl) rfl
theorem wd_845 : Cond.methodLink "LifeNoes" 286 ⟨"LifeNoes$Sayer", "bars", "(I)I"⟩ ∈ gT := gin_4 (List.mem_of_getElem? (i := 125) rfl) rfl
theorem wd_846 : Cond.instanceMethod ⟨"LifeNoes$Sayer", "bars", "(I)I"⟩ ∈ gT := gin_4 (List.mem_of_getElem? (i := 126) rfl) rfl
theorem wd_847 : Cond.selects "LifeNoes$Sayer" ⟨"LifeNoes$Sayer", "bars", "(I)I"⟩ ⟨"LifeNoes$Sayer", "bars", "(I)I"⟩ ∈ gT := gin_4 (List.mem_of_getElem? (i := 127) rfl) rfl
theorem wd_848 : Cond.sameMethod "LifeNoes$Sayer" "LifeNoes$Sayer" "bars" "(I)I" ∈ gT := gin_4 (List.mem_of_getElem? (i := 128) rfl) rfl
theorem wd_849 : Cond.selects "LifeNoes$Bar" ⟨"LifeNoes$Sayer", "bars", "(I)I"⟩ ⟨"LifeNoes$Bar", "bars", "(I)I"⟩ ∈ gT := gin_4 (List.mem_of_getElem? (i := 129) rfl) rfl
theorem wd_850 : Cond.instanceMethod ⟨"LifeNoes$Bar", "bars", "(I)I"⟩ ∈ gT := gin_4 (List.mem_of_getElem? (i := 130) rfl) rfl
theorem wd_851 : Cond.code ⟨"LifeNoes$Bar", "bars", "(I)I"⟩ prog_3_method_2_code 2 (some .int) ∈ gT := gin_4 (List.mem_of_getElem? (i := 131) rfl) rfl
theorem wd_852 : Cond.methodLink "LifeNoes$Bar" 13 ⟨"LifeNoes$Trace", "begin", "(I)V"⟩ ∈ gT := gin_4 (List.mem_of_getElem? (i := 132) rfl) rfl
theorem wd_853 : Cond.instanceMethod ⟨"LifeNoes$Trace", "begin", "(I)V"⟩ ∈ gT := gin_4 (List.mem_of_getElem? (i := 133) rfl) rfl
theorem wd_854 : Cond.selects "LifeNoes$Trace" ⟨"LifeNoes$Trace", "begin", "(I)V"⟩ ⟨"LifeNoes$Trace", "begin", "(I)V"⟩ ∈ gT := gin_4 (List.mem_of_getElem? (i := 134) rfl) rfl
theorem wd_855 : Cond.code ⟨"LifeNoes$Trace", "begin", "(I)V"⟩ prog_10_method_3_code 2 none ∈ gT := gin_4 (List.mem_of_getElem? (i := 135) rfl) rfl
theorem wd_856 : Cond.methodLink "LifeNoes$Bar" 19 ⟨"LifeNoes$Sayer", "bars", "(I)I"⟩ ∈ gT := gin_4 (List.mem_of_getElem? (i := 136) rfl) rfl
theorem wd_857 : Cond.selects "LifeNoes$League" ⟨"LifeNoes$Sayer", "bars", "(I)I"⟩ ⟨"LifeNoes$League", "bars", "(I)I"⟩ ∈ gT := gin_4 (List.mem_of_getElem? (i := 137) rfl) rfl
theorem wd_858 : Cond.instanceMethod ⟨"LifeNoes$League", "bars", "(I)I"⟩ ∈ gT := gin_4 (List.mem_of_getElem? (i := 138) rfl) rfl
theorem wd_859 : Cond.code ⟨"LifeNoes$League", "bars", "(I)I"⟩ prog_4_method_2_code 2 (some .int) ∈ gT := gin_4 (List.mem_of_getElem? (i := 139) rfl) rfl
theorem wd_860 : Cond.methodLink "LifeNoes$League" 13 ⟨"LifeNoes$Trace", "begin", "(I)V"⟩ ∈ gT := gin_4 (List.mem_of_getElem? (i := 140) rfl) rfl
theorem wd_861 : Cond.methodLink "LifeNoes$League" 19 ⟨"LifeNoes$Quick", "bars", "(I)I"⟩ ∈ gT := gin_4 (List.mem_of_getElem? (i := 141) rfl) rfl
theorem wd_862 : Cond.sameMethod "LifeNoes$Quick" "LifeNoes$Sayer" "bars" "(I)I" ∈ gT := gin_4 (List.mem_of_getElem? (i := 142) rfl) rfl
theorem wd_864 : Cond.selects "LifeNoes$Quick" ⟨"LifeNoes$Sayer", "bars", "(I)I"⟩ ⟨"LifeNoes$Sayer", "bars", "(I)I"⟩ ∈ gT := gin_4 (List.mem_of_getElem? (i := 144) rfl) rfl
theorem wd_865 : Cond.selects "LifeNoes$Told" ⟨"LifeNoes$Sayer", "bars", "(I)I"⟩ ⟨"LifeNoes$Sayer", "bars", "(I)I"⟩ ∈ gT := gin_4 (List.mem_of_getElem? (i := 145) rfl) rfl
theorem wd_866 : Cond.selects "LifeNoes$Wait" ⟨"LifeNoes$Sayer", "bars", "(I)I"⟩ ⟨"LifeNoes$Wait", "bars", "(I)I"⟩ ∈ gT := gin_4 (List.mem_of_getElem? (i := 146) rfl) rfl
theorem wd_867 : Cond.instanceMethod ⟨"LifeNoes$Wait", "bars", "(I)I"⟩ ∈ gT := gin_4 (List.mem_of_getElem? (i := 147) rfl) rfl
theorem wd_868 : Cond.code ⟨"LifeNoes$Wait", "bars", "(I)I"⟩ prog_12_method_2_code 2 (some .int) ∈ gT := gin_4 (List.mem_of_getElem? (i := 148) rfl) rfl
theorem wd_869 : Cond.methodLink "LifeNoes$Wait" 13 ⟨"LifeNoes$Trace", "begin", "(I)V"⟩ ∈ gT := gin_4 (List.mem_of_getElem? (i := 149) rfl) rfl
theorem wd_870 : Cond.methodLink "LifeNoes$Wait" 19 ⟨"LifeNoes$Bar", "bars", "(I)I"⟩ ∈ gT := gin_4 (List.mem_of_getElem? (i := 150) rfl) rfl
theorem wd_871 : Cond.code ⟨"LifeNoes$Sayer", "bars", "(I)I"⟩ prog_6_method_2_code 2 (some .int) ∈ gT := gin_4 (List.mem_of_getElem? (i := 151) rfl) rfl
theorem wd_872 : Cond.methodLink "LifeNoes$Sayer" 20 ⟨"LifeNoes$Trace", "begin", "(I)V"⟩ ∈ gT := gin_4 (List.mem_of_getElem? (i := 152) rfl) rfl
theorem wd_873 : Cond.methodLink "LifeNoes" 289 ⟨"LifeNoes$Sayer", "waits", "(I)I"⟩ ∈ gT := gin_4 (List.mem_of_getElem? (i := 153) rfl) rfl
theorem wd_874 : Cond.instanceMethod ⟨"LifeNoes$Sayer", "waits", "(I)I"⟩ ∈ gT := gin_4 (List.mem_of_getElem? (i := 154) rfl) rfl
theorem wd_875 : Cond.selects "LifeNoes$Sayer" ⟨"LifeNoes$Sayer", "waits", "(I)I"⟩ ⟨"LifeNoes$Sayer", "waits", "(I)I"⟩ ∈ gT := gin_4 (List.mem_of_getElem? (i := 155) rfl) rfl
theorem wd_876 : Cond.sameMethod "LifeNoes$Sayer" "LifeNoes$Sayer" "waits" "(I)I" ∈ gT := gin_4 (List.mem_of_getElem? (i := 156) rfl) rfl
theorem wd_877 : Cond.selects "LifeNoes$Bar" ⟨"LifeNoes$Sayer", "waits", "(I)I"⟩ ⟨"LifeNoes$Sayer", "waits", "(I)I"⟩ ∈ gT := gin_4 (List.mem_of_getElem? (i := 157) rfl) rfl
theorem wd_878 : Cond.selects "LifeNoes$League" ⟨"LifeNoes$Sayer", "waits", "(I)I"⟩ ⟨"LifeNoes$Quick", "waits", "(I)I"⟩ ∈ gT := gin_4 (List.mem_of_getElem? (i := 158) rfl) rfl
theorem wd_879 : Cond.instanceMethod ⟨"LifeNoes$Quick", "waits", "(I)I"⟩ ∈ gT := gin_4 (List.mem_of_getElem? (i := 159) rfl) rfl
theorem wd_880 : Cond.code ⟨"LifeNoes$Quick", "waits", "(I)I"⟩ prog_5_method_2_code 2 (some .int) ∈ gT := gin_4 (List.mem_of_getElem? (i := 160) rfl) rfl
theorem wd_881 : Cond.methodLink "LifeNoes$Quick" 13 ⟨"LifeNoes$Trace", "begin", "(I)V"⟩ ∈ gT := gin_4 (List.mem_of_getElem? (i := 161) rfl) rfl
theorem wd_882 : Cond.methodLink "LifeNoes$Quick" 19 ⟨"LifeNoes$Sayer", "waits", "(I)I"⟩ ∈ gT := gin_4 (List.mem_of_getElem? (i := 162) rfl) rfl
theorem wd_883 : Cond.selects "LifeNoes$Quick" ⟨"LifeNoes$Sayer", "waits", "(I)I"⟩ ⟨"LifeNoes$Quick", "waits", "(I)I"⟩ ∈ gT := gin_4 (List.mem_of_getElem? (i := 163) rfl) rfl
theorem wd_884 : Cond.selects "LifeNoes$Told" ⟨"LifeNoes$Sayer", "waits", "(I)I"⟩ ⟨"LifeNoes$Sayer", "waits", "(I)I"⟩ ∈ gT := gin_4 (List.mem_of_getElem? (i := 164) rfl) rfl
theorem wd_885 : Cond.selects "LifeNoes$Wait" ⟨"LifeNoes$Sayer", "waits", "(I)I"⟩ ⟨"LifeNoes$Wait", "waits", "(I)I"⟩ ∈ gT := gin_4 (List.mem_of_getElem? (i := 165) rfl) rfl
theorem wd_886 : Cond.instanceMethod ⟨"LifeNoes$Wait", "waits", "(I)I"⟩ ∈ gT := gin_4 (List.mem_of_getElem? (i := 166) rfl) rfl
theorem wd_887 : Cond.code ⟨"LifeNoes$Wait", "waits", "(I)I"⟩ prog_12_method_3_code 2 (some .int) ∈ gT := gin_4 (List.mem_of_getElem? (i := 167) rfl) rfl
theorem wd_888 : Cond.methodLink "LifeNoes$Wait" 23 ⟨"LifeNoes$Bar", "waits", "(I)I"⟩ ∈ gT := gin_4 (List.mem_of_getElem? (i := 168) rfl) rfl
theorem wd_889 : Cond.sameMethod "LifeNoes$Bar" "LifeNoes$Sayer" "waits" "(I)I" ∈ gT := gin_4 (List.mem_of_getElem? (i := 169) rfl) rfl
theorem wd_891 : Cond.methodLink "LifeNoes$Wait" 30 ⟨"LifeNoes$Wait", "bars", "(I)I"⟩ ∈ gT := gin_4 (List.mem_of_getElem? (i := 171) rfl) rfl
theorem wd_892 : Cond.code ⟨"LifeNoes$Sayer", "waits", "(I)I"⟩ prog_6_method_3_code 2 (some .int) ∈ gT := gin_4 (List.mem_of_getElem? (i := 172) rfl) rfl
theorem wd_893 : Cond.methodLink "LifeNoes$Sayer" 26 ⟨"LifeNoes$Sayer", "bars", "(I)I"⟩ ∈ gT := gin_4 (List.mem_of_getElem? (i := 173) rfl) rfl
theorem wd_894 : Cond.methodLink "LifeNoes" 292 ⟨"LifeNoes$Sayer", "shares", "(I)I"⟩ ∈ gT := gin_4 (List.mem_of_getElem? (i := 174) rfl) rfl
theorem wd_895 : Cond.instanceMethod ⟨"LifeNoes$Sayer", "shares", "(I)I"⟩ ∈ gT := gin_4 (List.mem_of_getElem? (i := 175) rfl) rfl
theorem wd_896 : Cond.selects "LifeNoes$Sayer" ⟨"LifeNoes$Sayer", "shares", "(I)I"⟩ ⟨"LifeNoes$Sayer", "shares", "(I)I"⟩ ∈ gT := gin_4 (List.mem_of_getElem? (i := 176) rfl) rfl
theorem wd_897 : Cond.sameMethod "LifeNoes$Sayer" "LifeNoes$Sayer" "shares" "(I)I" ∈ gT := gin_4 (List.mem_of_getElem? (i := 177) rfl) rfl
theorem wd_898 : Cond.selects "LifeNoes$Bar" ⟨"LifeNoes$Sayer", "shares", "(I)I"⟩ ⟨"LifeNoes$Sayer", "shares", "(I)I"⟩ ∈ gT := gin_4 (List.mem_of_getElem? (i := 178) rfl) rfl
theorem wd_899 : Cond.selects "LifeNoes$League" ⟨"LifeNoes$Sayer", "shares", "(I)I"⟩ ⟨"LifeNoes$League", "shares", "(I)I"⟩ ∈ gT := gin_4 (List.mem_of_getElem? (i := 179) rfl) rfl
theorem wd_900 : Cond.instanceMethod ⟨"LifeNoes$League", "shares", "(I)I"⟩ ∈ gT := gin_4 (List.mem_of_getElem? (i := 180) rfl) rfl
theorem wd_901 : Cond.code ⟨"LifeNoes$League", "shares", "(I)I"⟩ prog_4_method_3_code 2 (some .int) ∈ gT := gin_4 (List.mem_of_getElem? (i := 181) rfl) rfl
theorem wd_902 : Cond.methodLink "LifeNoes$League" 27 ⟨"LifeNoes$Quick", "shares", "(I)I"⟩ ∈ gT := gin_4 (List.mem_of_getElem? (i := 182) rfl) rfl
theorem wd_903 : Cond.sameMethod "LifeNoes$Quick" "LifeNoes$Sayer" "shares" "(I)I" ∈ gT := gin_4 (List.mem_of_getElem? (i := 183) rfl) rfl
theorem wd_905 : Cond.selects "LifeNoes$Quick" ⟨"LifeNoes$Sayer", "shares", "(I)I"⟩ ⟨"LifeNoes$Sayer", "shares", "(I)I"⟩ ∈ gT := gin_4 (List.mem_of_getElem? (i := 185) rfl) rfl
theorem wd_906 : Cond.selects "LifeNoes$Told" ⟨"LifeNoes$Sayer", "shares", "(I)I"⟩ ⟨"LifeNoes$Told", "shares", "(I)I"⟩ ∈ gT := gin_4 (List.mem_of_getElem? (i := 186) rfl) rfl
theorem wd_907 : Cond.instanceMethod ⟨"LifeNoes$Told", "shares", "(I)I"⟩ ∈ gT := gin_4 (List.mem_of_getElem? (i := 187) rfl) rfl
theorem wd_908 : Cond.code ⟨"LifeNoes$Told", "shares", "(I)I"⟩ prog_9_method_3_code 3 (some .int) ∈ gT := gin_4 (List.mem_of_getElem? (i := 188) rfl) rfl
theorem wd_909 : Cond.methodLink "LifeNoes$Told" 13 ⟨"LifeNoes$Trace", "begin", "(I)V"⟩ ∈ gT := gin_4 (List.mem_of_getElem? (i := 189) rfl) rfl
theorem wd_910 : Cond.methodLink "LifeNoes$Told" 23 ⟨"LifeNoes$Sayer", "shares", "(I)I"⟩ ∈ gT := gin_4 (List.mem_of_getElem? (i := 190) rfl) rfl
theorem wd_911 : Cond.methodLink "LifeNoes$Told" 34 ⟨"LifeNoes$Told", "bars", "(I)I"⟩ ∈ gT := gin_4 (List.mem_of_getElem? (i := 191) rfl) rfl
theorem wd_912 : Cond.sameMethod "LifeNoes$Told" "LifeNoes$Sayer" "bars" "(I)I" ∈ gT := gin_4 (List.mem_of_getElem? (i := 192) rfl) rfl
theorem wd_913 : Cond.selects "LifeNoes$Told" ⟨"LifeNoes$Told", "bars", "(I)I"⟩ ⟨"LifeNoes$Sayer", "bars", "(I)I"⟩ ∈ gT := gin_4 (List.mem_of_getElem? (i := 193) rfl) rfl
theorem wd_914 : Cond.selects "LifeNoes$Wait" ⟨"LifeNoes$Sayer", "shares", "(I)I"⟩ ⟨"LifeNoes$Sayer", "shares", "(I)I"⟩ ∈ gT := gin_4 (List.mem_of_getElem? (i := 194) rfl) rfl
theorem wd_915 : Cond.code ⟨"LifeNoes$Sayer", "shares", "(I)I"⟩ prog_6_method_4_code 2 (some .int) ∈ gT := gin_4 (List.mem_of_getElem? (i := 195) rfl) rfl
theorem wd_916 : Cond.methodLink "LifeNoes" 295 ⟨"LifeNoes$Sayer", "tells", "(I)I"⟩ ∈ gT := gin_4 (List.mem_of_getElem? (i := 196) rfl) rfl
theorem wd_917 : Cond.instanceMethod ⟨"LifeNoes$Sayer", "tells", "(I)I"⟩ ∈ gT := gin_4 (List.mem_of_getElem? (i := 197) rfl) rfl
theorem wd_918 : Cond.selects "LifeNoes$Sayer" ⟨"LifeNoes$Sayer", "tells", "(I)I"⟩ ⟨"LifeNoes$Sayer", "tells", "(I)I"⟩ ∈ gT := gin_4 (List.mem_of_getElem? (i := 198) rfl) rfl
theorem wd_919 : Cond.sameMethod "LifeNoes$Sayer" "LifeNoes$Sayer" "tells" "(I)I" ∈ gT := gin_4 (List.mem_of_getElem? (i := 199) rfl) rfl
theorem wd_920 : Cond.selects "LifeNoes$Bar" ⟨"LifeNoes$Sayer", "tells", "(I)I"⟩ ⟨"LifeNoes$Bar", "tells", "(I)I"⟩ ∈ gT := gin_4 (List.mem_of_getElem? (i := 200) rfl) rfl
theorem wd_921 : Cond.instanceMethod ⟨"LifeNoes$Bar", "tells", "(I)I"⟩ ∈ gT := gin_4 (List.mem_of_getElem? (i := 201) rfl) rfl
theorem wd_922 : Cond.code ⟨"LifeNoes$Bar", "tells", "(I)I"⟩ prog_3_method_3_code 2 (some .int) ∈ gT := gin_4 (List.mem_of_getElem? (i := 202) rfl) rfl
theorem wd_923 : Cond.methodLink "LifeNoes$Bar" 23 ⟨"LifeNoes$Sayer", "tells", "(I)I"⟩ ∈ gT := gin_4 (List.mem_of_getElem? (i := 203) rfl) rfl
theorem wd_924 : Cond.methodLink "LifeNoes$Bar" 30 ⟨"LifeNoes$Bar", "shares", "(I)I"⟩ ∈ gT := gin_4 (List.mem_of_getElem? (i := 204) rfl) rfl
theorem wd_925 : Cond.sameMethod "LifeNoes$Bar" "LifeNoes$Sayer" "shares" "(I)I" ∈ gT := gin_4 (List.mem_of_getElem? (i := 205) rfl) rfl
theorem wd_926 : Cond.selects "LifeNoes$Bar" ⟨"LifeNoes$Bar", "shares", "(I)I"⟩ ⟨"LifeNoes$Sayer", "shares", "(I)I"⟩ ∈ gT := gin_4 (List.mem_of_getElem? (i := 206) rfl) rfl
theorem wd_927 : Cond.selects "LifeNoes$Wait" ⟨"LifeNoes$Bar", "shares", "(I)I"⟩ ⟨"LifeNoes$Sayer", "shares", "(I)I"⟩ ∈ gT := gin_4 (List.mem_of_getElem? (i := 207) rfl) rfl
theorem wd_928 : Cond.selects "LifeNoes$League" ⟨"LifeNoes$Sayer", "tells", "(I)I"⟩ ⟨"LifeNoes$Sayer", "tells", "(I)I"⟩ ∈ gT := gin_4 (List.mem_of_getElem? (i := 208) rfl) rfl
theorem wd_929 : Cond.selects "LifeNoes$Quick" ⟨"LifeNoes$Sayer", "tells", "(I)I"⟩ ⟨"LifeNoes$Sayer", "tells", "(I)I"⟩ ∈ gT := gin_4 (List.mem_of_getElem? (i := 209) rfl) rfl
theorem wd_930 : Cond.selects "LifeNoes$Told" ⟨"LifeNoes$Sayer", "tells", "(I)I"⟩ ⟨"LifeNoes$Told", "tells", "(I)I"⟩ ∈ gT := gin_4 (List.mem_of_getElem? (i := 210) rfl) rfl
theorem wd_931 : Cond.instanceMethod ⟨"LifeNoes$Told", "tells", "(I)I"⟩ ∈ gT := gin_4 (List.mem_of_getElem? (i := 211) rfl) rfl
theorem wd_932 : Cond.code ⟨"LifeNoes$Told", "tells", "(I)I"⟩ prog_9_method_2_code 2 (some .int) ∈ gT := gin_4 (List.mem_of_getElem? (i := 212) rfl) rfl
theorem wd_933 : Cond.methodLink "LifeNoes$Told" 19 ⟨"LifeNoes$Sayer", "tells", "(I)I"⟩ ∈ gT := gin_4 (List.mem_of_getElem? (i := 213) rfl) rfl
theorem wd_934 : Cond.selects "LifeNoes$Wait" ⟨"LifeNoes$Sayer", "tells", "(I)I"⟩ ⟨"LifeNoes$Bar", "tells", "(I)I"⟩ ∈ gT := gin_4 (List.mem_of_getElem? (i := 214) rfl) rfl
theorem wd_935 : Cond.code ⟨"LifeNoes$Sayer", "tells", "(I)I"⟩ prog_6_method_5_code 2 (some .int) ∈ gT := gin_4 (List.mem_of_getElem? (i := 215) rfl) rfl
theorem wd_936 : Cond.methodLink "LifeNoes$Sayer" 34 ⟨"LifeNoes$Sayer", "waits", "(I)I"⟩ ∈ gT := gin_4 (List.mem_of_getElem? (i := 216) rfl) rfl
theorem wd_937 : Cond.methodLink "LifeNoesLaw" 175 ⟨"LifeNoes", "trace", "(I)I"⟩ ∈ gT := gin_4 (List.mem_of_getElem? (i := 217) rfl) rfl
theorem wd_938 : Cond.instanceMethod ⟨"LifeNoes", "trace", "(I)I"⟩ ∈ gT := gin_4 (List.mem_of_getElem? (i := 218) rfl) rfl
theorem wd_939 : Cond.selects "LifeNoes" ⟨"LifeNoes", "trace", "(I)I"⟩ ⟨"LifeNoes", "trace", "(I)I"⟩ ∈ gT := gin_4 (List.mem_of_getElem? (i := 219) rfl) rfl
theorem wd_940 : Cond.code ⟨"LifeNoes", "trace", "(I)I"⟩ prog_1_method_40_code 2 (some .int) ∈ gT := gin_4 (List.mem_of_getElem? (i := 220) rfl) rfl
theorem wd_941 : Cond.methodLink "LifeNoesLaw" 179 ⟨"LifeNoes", "many", "(I)I"⟩ ∈ gT := gin_4 (List.mem_of_getElem? (i := 221) rfl) rfl
theorem wd_942 : Cond.instanceMethod ⟨"LifeNoes", "many", "(I)I"⟩ ∈ gT := gin_4 (List.mem_of_getElem? (i := 222) rfl) rfl
theorem wd_943 : Cond.selects "LifeNoes" ⟨"LifeNoes", "many", "(I)I"⟩ ⟨"LifeNoes", "many", "(I)I"⟩ ∈ gT := gin_4 (List.mem_of_getElem? (i := 223) rfl) rfl
theorem wd_944 : Cond.code ⟨"LifeNoes", "many", "(I)I"⟩ prog_1_method_41_code 2 (some .int) ∈ gT := gin_4 (List.mem_of_getElem? (i := 224) rfl) rfl
theorem wd_945 : Cond.methodLink "LifeNoes" 307 ⟨"LifeNoes$Village", "allNoes", "()I"⟩ ∈ gT := gin_4 (List.mem_of_getElem? (i := 225) rfl) rfl
theorem wd_946 : Cond.instanceMethod ⟨"LifeNoes$Village", "allNoes", "()I"⟩ ∈ gT := gin_4 (List.mem_of_getElem? (i := 226) rfl) rfl
theorem wd_947 : Cond.selects "LifeNoes$Village" ⟨"LifeNoes$Village", "allNoes", "()I"⟩ ⟨"LifeNoes$Village", "allNoes", "()I"⟩ ∈ gT := gin_4 (List.mem_of_getElem? (i := 227) rfl) rfl
theorem wd_948 : Cond.code ⟨"LifeNoes$Village", "allNoes", "()I"⟩ prog_11_method_8_code 3 (some .int) ∈ gT := gin_4 (List.mem_of_getElem? (i := 228) rfl) rfl
theorem wd_949 : Cond.methodLink "LifeNoesLaw" 183 ⟨"LifeNoes", "keep", "()I"⟩ ∈ gT := gin_4 (List.mem_of_getElem? (i := 229) rfl) rfl
theorem wd_950 : Cond.instanceMethod ⟨"LifeNoes", "keep", "()I"⟩ ∈ gT := gin_4 (List.mem_of_getElem? (i := 230) rfl) rfl
theorem wd_951 : Cond.selects "LifeNoes" ⟨"LifeNoes", "keep", "()I"⟩ ⟨"LifeNoes", "keep", "()I"⟩ ∈ gT := gin_4 (List.mem_of_getElem? (i := 231) rfl) rfl
theorem wd_952 : Cond.code ⟨"LifeNoes", "keep", "()I"⟩ prog_1_method_42_code 1 (some .int) ∈ gT := gin_4 (List.mem_of_getElem? (i := 232) rfl) rfl
theorem wd_953 : Cond.methodLink "LifeNoesLaw" 187 ⟨"LifeNoes", "again", "()I"⟩ ∈ gT := gin_4 (List.mem_of_getElem? (i := 233) rfl) rfl
theorem wd_954 : Cond.instanceMethod ⟨"LifeNoes", "again", "()I"⟩ ∈ gT := gin_4 (List.mem_of_getElem? (i := 234) rfl) rfl
theorem wd_955 : Cond.selects "LifeNoes" ⟨"LifeNoes", "again", "()I"⟩ ⟨"LifeNoes", "again", "()I"⟩ ∈ gT := gin_4 (List.mem_of_getElem? (i := 235) rfl) rfl
theorem wd_956 : Cond.code ⟨"LifeNoes", "again", "()I"⟩ prog_1_method_43_code 1 (some .int) ∈ gT := gin_4 (List.mem_of_getElem? (i := 236) rfl) rfl
theorem wd_957 : Cond.classLink "LifeNoesLaw" 10 "LifeNoesModel" ∈ gT := gin_4 (List.mem_of_getElem? (i := 237) rfl) rfl
theorem wd_958 : Cond.instantiable "LifeNoesModel" 53 ∈ gT := gin_4 (List.mem_of_getElem? (i := 238) rfl) rfl
theorem wd_959 : Cond.methodLink "LifeNoesLaw" 12 ⟨"LifeNoesModel", "<init>", "()V"⟩ ∈ gT := gin_4 (List.mem_of_getElem? (i := 239) rfl) rfl
theorem wd_960 : Cond.instanceMethod ⟨"LifeNoesModel", "<init>", "()V"⟩ ∈ gT := gin_5 (List.mem_of_getElem? (i := 0) rfl) rfl
theorem wd_961 : Cond.code ⟨"LifeNoesModel", "<init>", "()V"⟩ prog_14_method_1_code 1 none ∈ gT := gin_5 (List.mem_of_getElem? (i := 1) rfl) rfl
theorem wd_962 : Cond.methodLink "LifeNoesModel" 1 ⟨"java/lang/Object", "<init>", "()V"⟩ ∈ gT := gin_5 (List.mem_of_getElem? (i := 2) rfl) rfl
theorem wd_963 : Cond.fieldLink "LifeNoesModel" 96 "LifeNoesModel" "people" "I" ∈ gT := gin_5 (List.mem_of_getElem? (i := 3) rfl) rfl
theorem wd_964 : Cond.fieldLink "LifeNoesModel" 7 "LifeNoesModel" "kindOf" "[I" ∈ gT := gin_5 (List.mem_of_getElem? (i := 4) rfl) rfl
theorem wd_965 : Cond.fieldLink "LifeNoesModel" 13 "LifeNoesModel" "aOf" "[I" ∈ gT := gin_5 (List.mem_of_getElem? (i := 5) rfl) rfl
theorem wd_966 : Cond.fieldLink "LifeNoesModel" 16 "LifeNoesModel" "age" "[I" ∈ gT := gin_5 (List.mem_of_getElem? (i := 6) rfl) rfl
theorem wd_967 : Cond.fieldLink "LifeNoesModel" 19 "LifeNoesModel" "had" "[I" ∈ gT := gin_5 (List.mem_of_getElem? (i := 7) rfl) rfl
theorem wd_968 : Cond.fieldLink "LifeNoesModel" 103 "LifeNoesModel" "proposals" "I" ∈ gT := gin_5 (List.mem_of_getElem? (i := 8) rfl) rfl
theorem wd_969 : Cond.fieldLink "LifeNoesModel" 22 "LifeNoesModel" "weight" "[I" ∈ gT := gin_5 (List.mem_of_getElem? (i := 9) rfl) rfl
theorem wd_970 : Cond.fieldLink "LifeNoesModel" 25 "LifeNoesModel" "worth" "[I" ∈ gT := gin_5 (List.mem_of_getElem? (i := 10) rfl) rfl
theorem wd_971 : Cond.fieldLink "LifeNoesModel" 28 "LifeNoesModel" "laws" "[I" ∈ gT := gin_5 (List.mem_of_getElem? (i := 11) rfl) rfl
theorem wd_972 : Cond.fieldLink "LifeNoesModel" 31 "LifeNoesModel" "leastOf" "[I" ∈ gT := gin_5 (List.mem_of_getElem? (i := 12) rfl) rfl
theorem wd_973 : Cond.fieldLink "LifeNoesModel" 34 "LifeNoesModel" "mostOf" "[I" ∈ gT := gin_5 (List.mem_of_getElem? (i := 13) rfl) rfl
theorem wd_974 : Cond.fieldLink "LifeNoesModel" 37 "LifeNoesModel" "row" "[I" ∈ gT := gin_5 (List.mem_of_getElem? (i := 14) rfl) rfl
theorem wd_975 : Cond.fieldLink "LifeNoesModel" 225 "LifeNoesModel" "fell" "I" ∈ gT := gin_5 (List.mem_of_getElem? (i := 15) rfl) rfl
theorem wd_976 : Cond.fieldLink "LifeNoesModel" 228 "LifeNoesModel" "passed" "I" ∈ gT := gin_5 (List.mem_of_getElem? (i := 16) rfl) rfl
theorem wd_977 : Cond.fieldLink "LifeNoesModel" 40 "LifeNoesModel" "z" "I" ∈ gT := gin_5 (List.mem_of_getElem? (i := 17) rfl) rfl
theorem wd_978 : Cond.fieldLink "LifeNoesModel" 44 "LifeNoesModel" "tape" "[I" ∈ gT := gin_5 (List.mem_of_getElem? (i := 18) rfl) rfl
theorem wd_979 : Cond.fieldLink "LifeNoesModel" 106 "LifeNoesModel" "tapeMany" "I" ∈ gT := gin_5 (List.mem_of_getElem? (i := 19) rfl) rfl
theorem wd_980 : Cond.fieldLink "LifeNoesModel" 128 "LifeNoesModel" "sort" "I" ∈ gT := gin_5 (List.mem_of_getElem? (i := 20) rfl) rfl
theorem wd_981 : Cond.fieldLink "LifeNoesModel" 114 "LifeNoesModel" "begins" "I" ∈ gT := gin_5 (List.mem_of_getElem? (i := 21) rfl) rfl
theorem wd_982 : Cond.fieldLink "LifeNoesModel" 111 "LifeNoesModel" "tokenEnds" "I" ∈ gT := gin_5 (List.mem_of_getElem? (i := 22) rfl) rfl
theorem wd_983 : Cond.fieldLink "LifeNoesModel" 131 "LifeNoesModel" "word" "J" ∈ gT := gin_5 (List.mem_of_getElem? (i := 23) rfl) rfl
theorem wd_984 : Cond.fieldLink "LifeNoesModel" 135 "LifeNoesModel" "value" "I" ∈ gT := gin_5 (List.mem_of_getElem? (i := 24) rfl) rfl
theorem wd_985 : Cond.fieldLink "LifeNoesModel" 160 "LifeNoesModel" "good" "Z" ∈ gT := gin_5 (List.mem_of_getElem? (i := 25) rfl) rfl
theorem wd_986 : Cond.fieldLink "LifeNoesModel" 174 "LifeNoesModel" "freshPeople" "I" ∈ gT := gin_5 (List.mem_of_getElem? (i := 26) rfl) rfl
theorem wd_987 : Cond.fieldLink "LifeNoesModel" 192 "LifeNoesModel" "freshProposals" "I" ∈ gT := gin_5 (List.mem_of_getElem? (i := 27) rfl) rfl
theorem wd_988 : Cond.fieldLink "LifeNoesModel" 47 "LifeNoesModel" "freshPerson" "[I" ∈ gT := gin_5 (List.mem_of_getElem? (i := 28) rfl) rfl
theorem wd_989 : Cond.fieldLink "LifeNoesModel" 50 "LifeNoesModel" "freshWeight" "[I" ∈ gT := gin_5 (List.mem_of_getElem? (i := 29) rfl) rfl
theorem wd_990 : Cond.fieldLink "LifeNoesModel" 53 "LifeNoesModel" "freshWorth" "[I" ∈ gT := gin_5 (List.mem_of_getElem? (i := 30) rfl) rfl
theorem wd_991 : Cond.fieldLink "LifeNoesModel" 56 "LifeNoesModel" "freshLaws" "[I" ∈ gT := gin_5 (List.mem_of_getElem? (i := 31) rfl) rfl
theorem wd_992 : Cond.fieldLink "LifeNoesModel" 59 "LifeNoesModel" "self" "I" ∈ gT := gin_5 (List.mem_of_getElem? (i := 32) rfl) rfl
theorem wd_993 : Cond.fieldLink "LifeNoesModel" 256 "LifeNoesModel" "selfSays" "I" ∈ gT := gin_5 (List.mem_of_getElem? (i := 33) rfl) rfl
theorem wd_994 : Cond.fieldLink "LifeNoesModel" 268 "LifeNoesModel" "said" "I" ∈ gT := gin_5 (List.mem_of_getElem? (i := 34) rfl) rfl
theorem wd_995 : Cond.fieldLink "LifeNoesModel" 291 "LifeNoesModel" "above" "J" ∈ gT := gin_5 (List.mem_of_getElem? (i := 35) rfl) rfl
theorem wd_996 : Cond.fieldLink "LifeNoesModel" 294 "LifeNoesModel" "below" "J" ∈ gT := gin_5 (List.mem_of_getElem? (i := 36) rfl) rfl
theorem wd_997 : Cond.fieldLink "LifeNoesModel" 62 "LifeNoesModel" "rows" "[I" ∈ gT := gin_5 (List.mem_of_getElem? (i := 37) rfl) rfl
theorem wd_998 : Cond.fieldLink "LifeNoesModel" 65 "LifeNoesModel" "must" "[I" ∈ gT := gin_5 (List.mem_of_getElem? (i := 38) rfl) rfl
theorem wd_999 : Cond.fieldLink "LifeNoesModel" 231 "LifeNoesModel" "rowMany" "I" ∈ gT := gin_5 (List.mem_of_getElem? (i := 39) rfl) rfl
theorem wd_1000 : Cond.fieldLink "LifeNoesModel" 68 "LifeNoesModel" "sorts" "[I" ∈ gT := gin_5 (List.mem_of_getElem? (i := 40) rfl) rfl
theorem wd_1001 : Cond.fieldLink "LifeNoesModel" 71 "LifeNoesModel" "sizes" "[I" ∈ gT := gin_5 (List.mem_of_getElem? (i := 41) rfl) rfl
theorem wd_1002 : Cond.fieldLink "LifeNoesModel" 74 "LifeNoesModel" "sheets" "[J" ∈ gT := gin_5 (List.mem_of_getElem? (i := 42) rfl) rfl
theorem wd_1003 : Cond.fieldLink "LifeNoesModel" 78 "LifeNoesModel" "held" "[I" ∈ gT := gin_5 (List.mem_of_getElem? (i := 43) rfl) rfl
theorem wd_1004 : Cond.fieldLink "LifeNoesModel" 81 "LifeNoesModel" "heldNumber" "[I" ∈ gT := gin_5 (List.mem_of_getElem? (i := 44) rfl) rfl
theorem wd_1005 : Cond.fieldLink "LifeNoesModel" 84 "LifeNoesModel" "heldSize" "[I" ∈ gT := gin_5 (List.mem_of_getElem? (i := 45) rfl) rfl
theorem wd_1006 : Cond.fieldLink "LifeNoesModel" 385 "LifeNoesModel" "actKind" "I" ∈ gT := gin_5 (List.mem_of_getElem? (i := 46) rfl) rfl
theorem wd_1007 : Cond.fieldLink "LifeNoesModel" 379 "LifeNoesModel" "number" "I" ∈ gT := gin_5 (List.mem_of_getElem? (i := 47) rfl) rfl
theorem wd_1008 : Cond.fieldLink "LifeNoesModel" 397 "LifeNoesModel" "own" "I" ∈ gT := gin_5 (List.mem_of_getElem? (i := 48) rfl) rfl
theorem wd_1009 : Cond.fieldLink "LifeNoesModel" 87 "LifeNoesModel" "traced" "[I" ∈ gT := gin_5 (List.mem_of_getElem? (i := 49) rfl) rfl
theorem wd_1010 : Cond.fieldLink "LifeNoesModel" 373 "LifeNoesModel" "bodies" "I" ∈ gT := gin_5 (List.mem_of_getElem? (i := 50) rfl) rfl
theorem wd_1011 : Cond.fieldLink "LifeNoesModel" 400 "LifeNoesModel" "isParted" "Z" ∈ gT := gin_5 (List.mem_of_getElem? (i := 51) rfl) rfl
theorem wd_1012 : Cond.fieldLink "LifeNoesModel" 429 "LifeNoesModel" "isKept" "Z" ∈ gT := gin_5 (List.mem_of_getElem? (i := 52) rfl) rfl
theorem wd_1013 : Cond.fieldLink "LifeNoesModel" 90 "LifeNoesModel" "keptRow" "[I" ∈ gT := gin_5 (List.mem_of_getElem? (i := 53) rfl) rfl
theorem wd_1014 : Cond.fieldLink "LifeNoesModel" 418 "LifeNoesModel" "movedTo" "I" ∈ gT := gin_5 (List.mem_of_getElem? (i := 54) rfl) rfl
theorem wd_1015 : Cond.fieldLink "LifeNoesModel" 93 "LifeNoesModel" "single" "[I" ∈ gT := gin_5 (List.mem_of_getElem? (i := 55) rfl) rfl
theorem wd_1016 : Cond.lays "LifeNoesModel" "LifeNoesModel" "people" "I" ∈ gT := gin_5 (List.mem_of_getElem? (i := 56) rfl) rfl
theorem wd_1017 : Cond.soleField "LifeNoesModel" "people" ∈ gT := gin_5 (List.mem_of_getElem? (i := 57) rfl) rfl
theorem wd_1018 : Cond.laysFinal "LifeNoesModel" "LifeNoesModel" "kindOf" "[I" ∈ gT := gin_5 (List.mem_of_getElem? (i := 58) rfl) rfl
theorem wd_1019 : Cond.soleField "LifeNoesModel" "kindOf" ∈ gT := gin_5 (List.mem_of_getElem? (i := 59) rfl) rfl
theorem wd_1020 : Cond.laysFinal "LifeNoesModel" "LifeNoesModel" "aOf" "[I" ∈ gT := gin_5 (List.mem_of_getElem? (i := 60) rfl) rfl
theorem wd_1021 : Cond.soleField "LifeNoesModel" "aOf" ∈ gT := gin_5 (List.mem_of_getElem? (i := 61) rfl) rfl
theorem wd_1022 : Cond.laysFinal "LifeNoesModel" "LifeNoesModel" "age" "[I" ∈ gT := gin_5 (List.mem_of_getElem? (i := 62) rfl) rfl
theorem wd_1023 : Cond.soleField "LifeNoesModel" "age" ∈ gT := gin_5 (List.mem_of_getElem? (i := 63) rfl) rfl
theorem wd_1024 : Cond.laysFinal "LifeNoesModel" "LifeNoesModel" "had" "[I" ∈ gT := gin_5 (List.mem_of_getElem? (i := 64) rfl) rfl
theorem wd_1025 : Cond.soleField "LifeNoesModel" "had" ∈ gT := gin_5 (List.mem_of_getElem? (i := 65) rfl) rfl
theorem wd_1026 : Cond.lays "LifeNoesModel" "LifeNoesModel" "proposals" "I" ∈ gT := gin_5 (List.mem_of_getElem? (i := 66) rfl) rfl
theorem wd_1027 : Cond.soleField "LifeNoesModel" "proposals" ∈ gT := gin_5 (List.mem_of_getElem? (i := 67) rfl) rfl
theorem wd_1028 : Cond.laysFinal "LifeNoesModel" "LifeNoesModel" "weight" "[I" ∈ gT := gin_5 (List.mem_of_getElem? (i := 68) rfl) rfl
theorem wd_1029 : Cond.soleField "LifeNoesModel" "weight" ∈ gT := gin_5 (List.mem_of_getElem? (i := 69) rfl) rfl
theorem wd_1030 : Cond.laysFinal "LifeNoesModel" "LifeNoesModel" "worth" "[I" ∈ gT := gin_5 (List.mem_of_getElem? (i := 70) rfl) rfl
theorem wd_1031 : Cond.soleField "LifeNoesModel" "worth" ∈ gT := gin_5 (List.mem_of_getElem? (i := 71) rfl) rfl
theorem wd_1032 : Cond.laysFinal "LifeNoesModel" "LifeNoesModel" "laws" "[I" ∈ gT := gin_5 (List.mem_of_getElem? (i := 72) rfl) rfl
theorem wd_1033 : Cond.soleField "LifeNoesModel" "laws" ∈ gT := gin_5 (List.mem_of_getElem? (i := 73) rfl) rfl
theorem wd_1034 : Cond.laysFinal "LifeNoesModel" "LifeNoesModel" "leastOf" "[I" ∈ gT := gin_5 (List.mem_of_getElem? (i := 74) rfl) rfl
theorem wd_1035 : Cond.soleField "LifeNoesModel" "leastOf" ∈ gT := gin_5 (List.mem_of_getElem? (i := 75) rfl) rfl
theorem wd_1036 : Cond.laysFinal "LifeNoesModel" "LifeNoesModel" "mostOf" "[I" ∈ gT := gin_5 (List.mem_of_getElem? (i := 76) rfl) rfl
theorem wd_1037 : Cond.soleField "LifeNoesModel" "mostOf" ∈ gT := gin_5 (List.mem_of_getElem? (i := 77) rfl) rfl
theorem wd_1038 : Cond.laysFinal "LifeNoesModel" "LifeNoesModel" "row" "[I" ∈ gT := gin_5 (List.mem_of_getElem? (i := 78) rfl) rfl
theorem wd_1039 : Cond.soleField "LifeNoesModel" "row" ∈ gT := gin_5 (List.mem_of_getElem? (i := 79) rfl) rfl
theorem wd_1040 : Cond.lays "LifeNoesModel" "LifeNoesModel" "fell" "I" ∈ gT := gin_5 (List.mem_of_getElem? (i := 80) rfl) rfl
theorem wd_1041 : Cond.soleField "LifeNoesModel" "fell" ∈ gT := gin_5 (List.mem_of_getElem? (i := 81) rfl) rfl
theorem wd_1042 : Cond.lays "LifeNoesModel" "LifeNoesModel" "passed" "I" ∈ gT := gin_5 (List.mem_of_getElem? (i := 82) rfl) rfl
theorem wd_1043 : Cond.soleField "LifeNoesModel" "passed" ∈ gT := gin_5 (List.mem_of_getElem? (i := 83) rfl) rfl
theorem wd_1044 : Cond.lays "LifeNoesModel" "LifeNoesModel" "z" "I" ∈ gT := gin_5 (List.mem_of_getElem? (i := 84) rfl) rfl
theorem wd_1045 : Cond.soleField "LifeNoesModel" "z" ∈ gT := gin_5 (List.mem_of_getElem? (i := 85) rfl) rfl
theorem wd_1046 : Cond.laysFinal "LifeNoesModel" "LifeNoesModel" "tape" "[I" ∈ gT := gin_5 (List.mem_of_getElem? (i := 86) rfl) rfl
theorem wd_1047 : Cond.soleField "LifeNoesModel" "tape" ∈ gT := gin_5 (List.mem_of_getElem? (i := 87) rfl) rfl
theorem wd_1048 : Cond.lays "LifeNoesModel" "LifeNoesModel" "tapeMany" "I" ∈ gT := gin_5 (List.mem_of_getElem? (i := 88) rfl) rfl
theorem wd_1049 : Cond.soleField "LifeNoesModel" "tapeMany" ∈ gT := gin_5 (List.mem_of_getElem? (i := 89) rfl) rfl
theorem wd_1050 : Cond.lays "LifeNoesModel" "LifeNoesModel" "sort" "I" ∈ gT := gin_5 (List.mem_of_getElem? (i := 90) rfl) rfl
theorem wd_1051 : Cond.soleField "LifeNoesModel" "sort" ∈ gT := gin_5 (List.mem_of_getElem? (i := 91) rfl) rfl
theorem wd_1052 : Cond.lays "LifeNoesModel" "LifeNoesModel" "begins" "I" ∈ gT := gin_5 (List.mem_of_getElem? (i := 92) rfl) rfl
theorem wd_1053 : Cond.soleField "LifeNoesModel" "begins" ∈ gT := gin_5 (List.mem_of_getElem? (i := 93) rfl) rfl
theorem wd_1054 : Cond.lays "LifeNoesModel" "LifeNoesModel" "tokenEnds" "I" ∈ gT := gin_5 (List.mem_of_getElem? (i := 94) rfl) rfl
theorem wd_1055 : Cond.soleField "LifeNoesModel" "tokenEnds" ∈ gT := gin_5 (List.mem_of_getElem? (i := 95) rfl) rfl
theorem wd_1056 : Cond.lays "LifeNoesModel" "LifeNoesModel" "word" "J" ∈ gT := gin_5 (List.mem_of_getElem? (i := 96) rfl) rfl
theorem wd_1057 : Cond.soleField "LifeNoesModel" "word" ∈ gT := gin_5 (List.mem_of_getElem? (i := 97) rfl) rfl
theorem wd_1058 : Cond.lays "LifeNoesModel" "LifeNoesModel" "value" "I" ∈ gT := gin_5 (List.mem_of_getElem? (i := 98) rfl) rfl
theorem wd_1059 : Cond.soleField "LifeNoesModel" "value" ∈ gT := gin_5 (List.mem_of_getElem? (i := 99) rfl) rfl
theorem wd_1060 : Cond.lays "LifeNoesModel" "LifeNoesModel" "good" "Z" ∈ gT := gin_5 (List.mem_of_getElem? (i := 100) rfl) rfl
theorem wd_1061 : Cond.soleField "LifeNoesModel" "good" ∈ gT := gin_5 (List.mem_of_getElem? (i := 101) rfl) rfl
theorem wd_1062 : Cond.lays "LifeNoesModel" "LifeNoesModel" "freshPeople" "I" ∈ gT := gin_5 (List.mem_of_getElem? (i := 102) rfl) rfl
theorem wd_1063 : Cond.soleField "LifeNoesModel" "freshPeople" ∈ gT := gin_5 (List.mem_of_getElem? (i := 103) rfl) rfl
theorem wd_1064 : Cond.lays "LifeNoesModel" "LifeNoesModel" "freshProposals" "I" ∈ gT := gin_5 (List.mem_of_getElem? (i := 104) rfl) rfl
theorem wd_1065 : Cond.soleField "LifeNoesModel" "freshProposals" ∈ gT := gin_5 (List.mem_of_getElem? (i := 105) rfl) rfl
theorem wd_1066 : Cond.laysFinal "LifeNoesModel" "LifeNoesModel" "freshPerson" "[I" ∈ gT := gin_5 (List.mem_of_getElem? (i := 106) rfl) rfl
theorem wd_1067 : Cond.soleField "LifeNoesModel" "freshPerson" ∈ gT := gin_5 (List.mem_of_getElem? (i := 107) rfl) rfl
theorem wd_1068 : Cond.laysFinal "LifeNoesModel" "LifeNoesModel" "freshWeight" "[I" ∈ gT := gin_5 (List.mem_of_getElem? (i := 108) rfl) rfl
theorem wd_1069 : Cond.soleField "LifeNoesModel" "freshWeight" ∈ gT := gin_5 (List.mem_of_getElem? (i := 109) rfl) rfl
theorem wd_1070 : Cond.laysFinal "LifeNoesModel" "LifeNoesModel" "freshWorth" "[I" ∈ gT := gin_5 (List.mem_of_getElem? (i := 110) rfl) rfl
theorem wd_1071 : Cond.soleField "LifeNoesModel" "freshWorth" ∈ gT := gin_5 (List.mem_of_getElem? (i := 111) rfl) rfl
theorem wd_1072 : Cond.laysFinal "LifeNoesModel" "LifeNoesModel" "freshLaws" "[I" ∈ gT := gin_5 (List.mem_of_getElem? (i := 112) rfl) rfl
theorem wd_1073 : Cond.soleField "LifeNoesModel" "freshLaws" ∈ gT := gin_5 (List.mem_of_getElem? (i := 113) rfl) rfl
theorem wd_1074 : Cond.lays "LifeNoesModel" "LifeNoesModel" "self" "I" ∈ gT := gin_5 (List.mem_of_getElem? (i := 114) rfl) rfl
theorem wd_1075 : Cond.soleField "LifeNoesModel" "self" ∈ gT := gin_5 (List.mem_of_getElem? (i := 115) rfl) rfl
theorem wd_1076 : Cond.lays "LifeNoesModel" "LifeNoesModel" "selfSays" "I" ∈ gT := gin_5 (List.mem_of_getElem? (i := 116) rfl) rfl
theorem wd_1077 : Cond.soleField "LifeNoesModel" "selfSays" ∈ gT := gin_5 (List.mem_of_getElem? (i := 117) rfl) rfl
theorem wd_1078 : Cond.lays "LifeNoesModel" "LifeNoesModel" "said" "I" ∈ gT := gin_5 (List.mem_of_getElem? (i := 118) rfl) rfl
theorem wd_1079 : Cond.soleField "LifeNoesModel" "said" ∈ gT := gin_5 (List.mem_of_getElem? (i := 119) rfl) rfl
theorem wd_1080 : Cond.lays "LifeNoesModel" "LifeNoesModel" "above" "J" ∈ gT := gin_5 (List.mem_of_getElem? (i := 120) rfl) rfl
theorem wd_1081 : Cond.soleField "LifeNoesModel" "above" ∈ gT := gin_5 (List.mem_of_getElem? (i := 121) rfl) rfl
theorem wd_1082 : Cond.lays "LifeNoesModel" "LifeNoesModel" "below" "J" ∈ gT := gin_5 (List.mem_of_getElem? (i := 122) rfl) rfl
theorem wd_1083 : Cond.soleField "LifeNoesModel" "below" ∈ gT := gin_5 (List.mem_of_getElem? (i := 123) rfl) rfl
theorem wd_1084 : Cond.laysFinal "LifeNoesModel" "LifeNoesModel" "rows" "[I" ∈ gT := gin_5 (List.mem_of_getElem? (i := 124) rfl) rfl
theorem wd_1085 : Cond.soleField "LifeNoesModel" "rows" ∈ gT := gin_5 (List.mem_of_getElem? (i := 125) rfl) rfl
theorem wd_1086 : Cond.laysFinal "LifeNoesModel" "LifeNoesModel" "must" "[I" ∈ gT := gin_5 (List.mem_of_getElem? (i := 126) rfl) rfl
theorem wd_1087 : Cond.soleField "LifeNoesModel" "must" ∈ gT := gin_5 (List.mem_of_getElem? (i := 127) rfl) rfl
theorem wd_1088 : Cond.lays "LifeNoesModel" "LifeNoesModel" "rowMany" "I" ∈ gT := gin_5 (List.mem_of_getElem? (i := 128) rfl) rfl
theorem wd_1089 : Cond.soleField "LifeNoesModel" "rowMany" ∈ gT := gin_5 (List.mem_of_getElem? (i := 129) rfl) rfl
theorem wd_1090 : Cond.laysFinal "LifeNoesModel" "LifeNoesModel" "sorts" "[I" ∈ gT := gin_5 (List.mem_of_getElem? (i := 130) rfl) rfl
theorem wd_1091 : Cond.soleField "LifeNoesModel" "sorts" ∈ gT := gin_5 (List.mem_of_getElem? (i := 131) rfl) rfl
theorem wd_1092 : Cond.laysFinal "LifeNoesModel" "LifeNoesModel" "sizes" "[I" ∈ gT := gin_5 (List.mem_of_getElem? (i := 132) rfl) rfl
theorem wd_1093 : Cond.soleField "LifeNoesModel" "sizes" ∈ gT := gin_5 (List.mem_of_getElem? (i := 133) rfl) rfl
theorem wd_1094 : Cond.laysFinal "LifeNoesModel" "LifeNoesModel" "sheets" "[J" ∈ gT := gin_5 (List.mem_of_getElem? (i := 134) rfl) rfl
theorem wd_1095 : Cond.soleField "LifeNoesModel" "sheets" ∈ gT := gin_5 (List.mem_of_getElem? (i := 135) rfl) rfl
theorem wd_1096 : Cond.laysFinal "LifeNoesModel" "LifeNoesModel" "held" "[I" ∈ gT := gin_5 (List.mem_of_getElem? (i := 136) rfl) rfl
theorem wd_1097 : Cond.soleField "LifeNoesModel" "held" ∈ gT := gin_5 (List.mem_of_getElem? (i := 137) rfl) rfl
theorem wd_1098 : Cond.laysFinal "LifeNoesModel" "LifeNoesModel" "heldNumber" "[I" ∈ gT := gin_5 (List.mem_of_getElem? (i := 138) rfl) rfl
theorem wd_1099 : Cond.soleField "LifeNoesModel" "heldNumber" ∈ gT := gin_5 (List.mem_of_getElem? (i := 139) rfl) rfl
theorem wd_1100 : Cond.laysFinal "LifeNoesModel" "LifeNoesModel" "heldSize" "[I" ∈ gT := gin_5 (List.mem_of_getElem? (i := 140) rfl) rfl
theorem wd_1101 : Cond.soleField "LifeNoesModel" "heldSize" ∈ gT := gin_5 (List.mem_of_getElem? (i := 141) rfl) rfl
theorem wd_1102 : Cond.lays "LifeNoesModel" "LifeNoesModel" "actKind" "I" ∈ gT := gin_5 (List.mem_of_getElem? (i := 142) rfl) rfl
theorem wd_1103 : Cond.soleField "LifeNoesModel" "actKind" ∈ gT := gin_5 (List.mem_of_getElem? (i := 143) rfl) rfl
theorem wd_1104 : Cond.lays "LifeNoesModel" "LifeNoesModel" "number" "I" ∈ gT := gin_5 (List.mem_of_getElem? (i := 144) rfl) rfl
theorem wd_1105 : Cond.soleField "LifeNoesModel" "number" ∈ gT := gin_5 (List.mem_of_getElem? (i := 145) rfl) rfl
theorem wd_1106 : Cond.lays "LifeNoesModel" "LifeNoesModel" "own" "I" ∈ gT := gin_5 (List.mem_of_getElem? (i := 146) rfl) rfl
theorem wd_1107 : Cond.soleField "LifeNoesModel" "own" ∈ gT := gin_5 (List.mem_of_getElem? (i := 147) rfl) rfl
theorem wd_1108 : Cond.laysFinal "LifeNoesModel" "LifeNoesModel" "traced" "[I" ∈ gT := gin_5 (List.mem_of_getElem? (i := 148) rfl) rfl
theorem wd_1109 : Cond.soleField "LifeNoesModel" "traced" ∈ gT := gin_5 (List.mem_of_getElem? (i := 149) rfl) rfl
theorem wd_1110 : Cond.lays "LifeNoesModel" "LifeNoesModel" "bodies" "I" ∈ gT := gin_5 (List.mem_of_getElem? (i := 150) rfl) rfl
theorem wd_1111 : Cond.soleField "LifeNoesModel" "bodies" ∈ gT := gin_5 (List.mem_of_getElem? (i := 151) rfl) rfl
theorem wd_1112 : Cond.lays "LifeNoesModel" "LifeNoesModel" "isParted" "Z" ∈ gT := gin_5 (List.mem_of_getElem? (i := 152) rfl) rfl
theorem wd_1113 : Cond.soleField "LifeNoesModel" "isParted" ∈ gT := gin_5 (List.mem_of_getElem? (i := 153) rfl) rfl
theorem wd_1114 : Cond.lays "LifeNoesModel" "LifeNoesModel" "isKept" "Z" ∈ gT := gin_5 (List.mem_of_getElem? (i := 154) rfl) rfl
theorem wd_1115 : Cond.soleField "LifeNoesModel" "isKept" ∈ gT := gin_5 (List.mem_of_getElem? (i := 155) rfl) rfl
theorem wd_1116 : Cond.laysFinal "LifeNoesModel" "LifeNoesModel" "keptRow" "[I" ∈ gT := gin_5 (List.mem_of_getElem? (i := 156) rfl) rfl
theorem wd_1117 : Cond.soleField "LifeNoesModel" "keptRow" ∈ gT := gin_5 (List.mem_of_getElem? (i := 157) rfl) rfl
theorem wd_1118 : Cond.lays "LifeNoesModel" "LifeNoesModel" "movedTo" "I" ∈ gT := gin_5 (List.mem_of_getElem? (i := 158) rfl) rfl
theorem wd_1119 : Cond.soleField "LifeNoesModel" "movedTo" ∈ gT := gin_5 (List.mem_of_getElem? (i := 159) rfl) rfl
theorem wd_1120 : Cond.laysFinal "LifeNoesModel" "LifeNoesModel" "single" "[I" ∈ gT := gin_5 (List.mem_of_getElem? (i := 160) rfl) rfl
theorem wd_1121 : Cond.soleField "LifeNoesModel" "single" ∈ gT := gin_5 (List.mem_of_getElem? (i := 161) rfl) rfl
theorem wd_1122 : Cond.superclass "LifeNoesModel" "java/lang/Object" ∈ gT := gin_5 (List.mem_of_getElem? (i := 162) rfl) rfl
theorem wd_1123 : Cond.methodLink "LifeNoesLaw" 19 ⟨"LifeNoesModel", "feed", "(JI)I"⟩ ∈ gT := gin_5 (List.mem_of_getElem? (i := 163) rfl) rfl
theorem wd_1124 : Cond.instanceMethod ⟨"LifeNoesModel", "feed", "(JI)I"⟩ ∈ gT := gin_5 (List.mem_of_getElem? (i := 164) rfl) rfl
theorem wd_1125 : Cond.selects "LifeNoesModel" ⟨"LifeNoesModel", "feed", "(JI)I"⟩ ⟨"LifeNoesModel", "feed", "(JI)I"⟩ ∈ gT := gin_5 (List.mem_of_getElem? (i := 165) rfl) rfl
theorem wd_1126 : Cond.code ⟨"LifeNoesModel", "feed", "(JI)I"⟩ prog_14_method_7_code 5 (some .int) ∈ gT := gin_5 (List.mem_of_getElem? (i := 166) rfl) rfl
theorem wd_1127 : Cond.methodLink "LifeNoesModel" 99 ⟨"LifeNoesModel", "in", "(III)Z"⟩ ∈ gT := gin_5 (List.mem_of_getElem? (i := 167) rfl) rfl
theorem wd_1128 : Cond.static ⟨"LifeNoesModel", "in", "(III)Z"⟩ ∈ gT := gin_5 (List.mem_of_getElem? (i := 168) rfl) rfl
theorem wd_1129 : Cond.code ⟨"LifeNoesModel", "in", "(III)Z"⟩ prog_14_method_2_code 3 (some .boolean) ∈ gT := gin_5 (List.mem_of_getElem? (i := 169) rfl) rfl
theorem wd_1130 : Cond.constantLong "LifeNoesModel" 109 255 ∈ gT := gin_5 (List.mem_of_getElem? (i := 170) rfl) rfl
theorem wd_1131 : Cond.methodLink "LifeNoesLaw" 24 ⟨"LifeNoesModel", "village", "()I"⟩ ∈ gT := gin_5 (List.mem_of_getElem? (i := 171) rfl) rfl
theorem wd_1132 : Cond.instanceMethod ⟨"LifeNoesModel", "village", "()I"⟩ ∈ gT := gin_5 (List.mem_of_getElem? (i := 172) rfl) rfl
theorem wd_1133 : Cond.selects "LifeNoesModel" ⟨"LifeNoesModel", "village", "()I"⟩ ⟨"LifeNoesModel", "village", "()I"⟩ ∈ gT := gin_5 (List.mem_of_getElem? (i := 173) rfl) rfl
theorem wd_1134 : Cond.code ⟨"LifeNoesModel", "village", "()I"⟩ prog_14_method_24_code 3 (some .int) ∈ gT := gin_5 (List.mem_of_getElem? (i := 174) rfl) rfl
theorem wd_1135 : Cond.methodLink "LifeNoesModel" 164 ⟨"LifeNoesModel", "advance", "()V"⟩ ∈ gT := gin_5 (List.mem_of_getElem? (i := 175) rfl) rfl
theorem wd_1137 : Cond.instanceMethod ⟨"LifeNoesModel", "advance", "()V"⟩ ∈ gT := gin_5 (List.mem_of_getElem? (i := 177) rfl) rfl
theorem wd_1138 : Cond.code ⟨"LifeNoesModel", "advance", "()V"⟩ prog_14_method_11_code 2 none ∈ gT := gin_5 (List.mem_of_getElem? (i := 178) rfl) rfl
theorem wd_1139 : Cond.methodLink "LifeNoesModel" 117 ⟨"LifeNoesModel", "byteAt", "(I)I"⟩ ∈ gT := gin_5 (List.mem_of_getElem? (i := 179) rfl) rfl
theorem wd_1141 : Cond.instanceMethod ⟨"LifeNoesModel", "byteAt", "(I)I"⟩ ∈ gT := gin_5 (List.mem_of_getElem? (i := 181) rfl) rfl
theorem wd_1142 : Cond.code ⟨"LifeNoesModel", "byteAt", "(I)I"⟩ prog_14_method_8_code 2 (some .int) ∈ gT := gin_5 (List.mem_of_getElem? (i := 182) rfl) rfl
theorem wd_1143 : Cond.methodLink "LifeNoesModel" 121 ⟨"LifeNoesModel", "isLetter", "(I)Z"⟩ ∈ gT := gin_5 (List.mem_of_getElem? (i := 183) rfl) rfl
theorem wd_1144 : Cond.static ⟨"LifeNoesModel", "isLetter", "(I)Z"⟩ ∈ gT := gin_5 (List.mem_of_getElem? (i := 184) rfl) rfl
theorem wd_1145 : Cond.code ⟨"LifeNoesModel", "isLetter", "(I)Z"⟩ prog_14_method_9_code 1 (some .boolean) ∈ gT := gin_5 (List.mem_of_getElem? (i := 185) rfl) rfl
theorem wd_1146 : Cond.methodLink "LifeNoesModel" 125 ⟨"LifeNoesModel", "isDigit", "(I)Z"⟩ ∈ gT := gin_5 (List.mem_of_getElem? (i := 186) rfl) rfl
theorem wd_1147 : Cond.static ⟨"LifeNoesModel", "isDigit", "(I)Z"⟩ ∈ gT := gin_5 (List.mem_of_getElem? (i := 187) rfl) rfl
theorem wd_1148 : Cond.code ⟨"LifeNoesModel", "isDigit", "(I)Z"⟩ prog_14_method_10_code 1 (some .boolean) ∈ gT := gin_5 (List.mem_of_getElem? (i := 188) rfl) rfl
theorem wd_1149 : Cond.constantLong "LifeNoesModel" 138 27 ∈ gT := gin_5 (List.mem_of_getElem? (i := 189) rfl) rfl
theorem wd_1150 : Cond.constantLong "LifeNoesModel" 140 96 ∈ gT := gin_5 (List.mem_of_getElem? (i := 190) rfl) rfl
theorem wd_1151 : Cond.constantLong "LifeNoesModel" 142 (-1) ∈ gT := gin_5 (List.mem_of_getElem? (i := 191) rfl) rfl
theorem wd_1152 : Cond.methodLink "LifeNoesModel" 222 ⟨"LifeNoesModel", "wantClause", "()V"⟩ ∈ gT := gin_5 (List.mem_of_getElem? (i := 192) rfl) rfl
theorem wd_1154 : Cond.instanceMethod ⟨"LifeNoesModel", "wantClause", "()V"⟩ ∈ gT := gin_5 (List.mem_of_getElem? (i := 194) rfl) rfl
theorem wd_1155 : Cond.code ⟨"LifeNoesModel", "wantClause", "()V"⟩ prog_14_method_23_code 1 none ∈ gT := gin_5 (List.mem_of_getElem? (i := 195) rfl) rfl
theorem wd_1156 : Cond.methodLink "LifeNoesModel" 200 ⟨"LifeNoesModel", "kindHere", "()I"⟩ ∈ gT := gin_5 (List.mem_of_getElem? (i := 196) rfl) rfl
theorem wd_1158 : Cond.instanceMethod ⟨"LifeNoesModel", "kindHere", "()I"⟩ ∈ gT := gin_5 (List.mem_of_getElem? (i := 198) rfl) rfl
theorem wd_1159 : Cond.code ⟨"LifeNoesModel", "kindHere", "()I"⟩ prog_14_method_14_code 1 (some .int) ∈ gT := gin_5 (List.mem_of_getElem? (i := 199) rfl) rfl
theorem wd_1160 : Cond.constantLong "LifeNoesModel" 144 10135440 ∈ gT := gin_5 (List.mem_of_getElem? (i := 200) rfl) rfl
theorem wd_1161 : Cond.methodLink "LifeNoesModel" 146 ⟨"LifeNoesModel", "isWord", "(J)Z"⟩ ∈ gT := gin_5 (List.mem_of_getElem? (i := 201) rfl) rfl
theorem wd_1163 : Cond.instanceMethod ⟨"LifeNoesModel", "isWord", "(J)Z"⟩ ∈ gT := gin_5 (List.mem_of_getElem? (i := 203) rfl) rfl
theorem wd_1164 : Cond.code ⟨"LifeNoesModel", "isWord", "(J)Z"⟩ prog_14_method_12_code 3 (some .boolean) ∈ gT := gin_5 (List.mem_of_getElem? (i := 204) rfl) rfl
theorem wd_1165 : Cond.constantLong "LifeNoesModel" 150 9454493 ∈ gT := gin_5 (List.mem_of_getElem? (i := 205) rfl) rfl
theorem wd_1166 : Cond.constantLong "LifeNoesModel" 152 1503 ∈ gT := gin_5 (List.mem_of_getElem? (i := 206) rfl) rfl
theorem wd_1167 : Cond.constantLong "LifeNoesModel" 154 453701 ∈ gT := gin_5 (List.mem_of_getElem? (i := 207) rfl) rfl
theorem wd_1168 : Cond.constantLong "LifeNoesModel" 156 174869447 ∈ gT := gin_5 (List.mem_of_getElem? (i := 208) rfl) rfl
theorem wd_1169 : Cond.constantLong "LifeNoesModel" 158 404923 ∈ gT := gin_5 (List.mem_of_getElem? (i := 209) rfl) rfl
theorem wd_1170 : Cond.methodLink "LifeNoesModel" 204 ⟨"LifeNoesModel", "wantPerson", "(I)V"⟩ ∈ gT := gin_5 (List.mem_of_getElem? (i := 210) rfl) rfl
theorem wd_1172 : Cond.instanceMethod ⟨"LifeNoesModel", "wantPerson", "(I)V"⟩ ∈ gT := gin_5 (List.mem_of_getElem? (i := 212) rfl) rfl
theorem wd_1173 : Cond.code ⟨"LifeNoesModel", "wantPerson", "(I)V"⟩ prog_14_method_19_code 5 none ∈ gT := gin_5 (List.mem_of_getElem? (i := 213) rfl) rfl
theorem wd_1174 : Cond.constantLong "LifeNoesModel" 177 923 ∈ gT := gin_5 (List.mem_of_getElem? (i := 214) rfl) rfl
theorem wd_1175 : Cond.methodLink "LifeNoesModel" 179 ⟨"LifeNoesModel", "wantWord", "(J)V"⟩ ∈ gT := gin_5 (List.mem_of_getElem? (i := 215) rfl) rfl
theorem wd_1177 : Cond.instanceMethod ⟨"LifeNoesModel", "wantWord", "(J)V"⟩ ∈ gT := gin_5 (List.mem_of_getElem? (i := 217) rfl) rfl
theorem wd_1178 : Cond.code ⟨"LifeNoesModel", "wantWord", "(J)V"⟩ prog_14_method_16_code 3 none ∈ gT := gin_5 (List.mem_of_getElem? (i := 218) rfl) rfl
theorem wd_1179 : Cond.methodLink "LifeNoesModel" 167 ⟨"LifeNoesModel", "wantNumber", "(II)I"⟩ ∈ gT := gin_5 (List.mem_of_getElem? (i := 219) rfl) rfl
theorem wd_1181 : Cond.instanceMethod ⟨"LifeNoesModel", "wantNumber", "(II)I"⟩ ∈ gT := gin_5 (List.mem_of_getElem? (i := 221) rfl) rfl
theorem wd_1182 : Cond.code ⟨"LifeNoesModel", "wantNumber", "(II)I"⟩ prog_14_method_15_code 4 (some .int) ∈ gT := gin_5 (List.mem_of_getElem? (i := 222) rfl) rfl
theorem wd_1183 : Cond.methodLink "LifeNoesModel" 183 ⟨"LifeNoesModel", "mayNumber", "(JII)I"⟩ ∈ gT := gin_5 (List.mem_of_getElem? (i := 223) rfl) rfl
theorem wd_1185 : Cond.instanceMethod ⟨"LifeNoesModel", "mayNumber", "(JII)I"⟩ ∈ gT := gin_5 (List.mem_of_getElem? (i := 225) rfl) rfl
theorem wd_1186 : Cond.code ⟨"LifeNoesModel", "mayNumber", "(JII)I"⟩ prog_14_method_17_code 5 (some .int) ∈ gT := gin_5 (List.mem_of_getElem? (i := 226) rfl) rfl
theorem wd_1187 : Cond.constantLong "LifeNoesModel" 187 286651 ∈ gT := gin_5 (List.mem_of_getElem? (i := 227) rfl) rfl
theorem wd_1188 : Cond.methodLink "LifeNoesModel" 189 ⟨"LifeNoesModel", "wantEnd", "()V"⟩ ∈ gT := gin_5 (List.mem_of_getElem? (i := 228) rfl) rfl
theorem wd_1190 : Cond.instanceMethod ⟨"LifeNoesModel", "wantEnd", "()V"⟩ ∈ gT := gin_5 (List.mem_of_getElem? (i := 230) rfl) rfl
theorem wd_1191 : Cond.code ⟨"LifeNoesModel", "wantEnd", "()V"⟩ prog_14_method_18_code 1 none ∈ gT := gin_5 (List.mem_of_getElem? (i := 231) rfl) rfl
theorem wd_1192 : Cond.methodLink "LifeNoesModel" 171 ⟨"LifeNoesModel", "isMark", "(I)Z"⟩ ∈ gT := gin_5 (List.mem_of_getElem? (i := 232) rfl) rfl
theorem wd_1194 : Cond.instanceMethod ⟨"LifeNoesModel", "isMark", "(I)Z"⟩ ∈ gT := gin_5 (List.mem_of_getElem? (i := 234) rfl) rfl
theorem wd_1195 : Cond.code ⟨"LifeNoesModel", "isMark", "(I)Z"⟩ prog_14_method_13_code 2 (some .boolean) ∈ gT := gin_5 (List.mem_of_getElem? (i := 235) rfl) rfl
theorem wd_1196 : Cond.constantLong "LifeNoesModel" 208 174563265846 ∈ gT := gin_5 (List.mem_of_getElem? (i := 236) rfl) rfl
theorem wd_1197 : Cond.methodLink "LifeNoesModel" 210 ⟨"LifeNoesModel", "wantProposal", "()V"⟩ ∈ gT := gin_5 (List.mem_of_getElem? (i := 237) rfl) rfl
theorem wd_1199 : Cond.instanceMethod ⟨"LifeNoesModel", "wantProposal", "()V"⟩ ∈ gT := gin_5 (List.mem_of_getElem? (i := 239) rfl) rfl
theorem wd_1200 : Cond.code ⟨"LifeNoesModel", "wantProposal", "()V"⟩ prog_14_method_21_code 3 none ∈ gT := gin_6 (List.mem_of_getElem? (i := 0) rfl) rfl
theorem wd_1201 : Cond.constantLong "LifeNoesModel" 195 12532058 ∈ gT := gin_6 (List.mem_of_getElem? (i := 1) rfl) rfl
theorem wd_1202 : Cond.methodLink "LifeNoesModel" 197 ⟨"LifeNoesModel", "wantWorths", "()V"⟩ ∈ gT := gin_6 (List.mem_of_getElem? (i := 2) rfl) rfl
theorem wd_1204 : Cond.instanceMethod ⟨"LifeNoesModel", "wantWorths", "()V"⟩ ∈ gT := gin_6 (List.mem_of_getElem? (i := 4) rfl) rfl
theorem wd_1205 : Cond.code ⟨"LifeNoesModel", "wantWorths", "()V"⟩ prog_14_method_20_code 5 none ∈ gT := gin_6 (List.mem_of_getElem? (i := 5) rfl) rfl
theorem wd_1206 : Cond.constantLong "LifeNoesModel" 213 279346 ∈ gT := gin_6 (List.mem_of_getElem? (i := 6) rfl) rfl
theorem wd_1207 : Cond.methodLink "LifeNoesModel" 215 ⟨"LifeNoesModel", "wantLaw", "(I)V"⟩ ∈ gT := gin_6 (List.mem_of_getElem? (i := 7) rfl) rfl
theorem wd_1209 : Cond.instanceMethod ⟨"LifeNoesModel", "wantLaw", "(I)V"⟩ ∈ gT := gin_6 (List.mem_of_getElem? (i := 9) rfl) rfl
theorem wd_1210 : Cond.code ⟨"LifeNoesModel", "wantLaw", "(I)V"⟩ prog_14_method_22_code 3 none ∈ gT := gin_6 (List.mem_of_getElem? (i := 10) rfl) rfl
theorem wd_1211 : Cond.constantLong "LifeNoesModel" 218 409469 ∈ gT := gin_6 (List.mem_of_getElem? (i := 11) rfl) rfl
theorem wd_1212 : Cond.constantLong "LifeNoesModel" 220 151331 ∈ gT := gin_6 (List.mem_of_getElem? (i := 12) rfl) rfl
theorem wd_1213 : Cond.methodLink "LifeNoesLaw" 29 ⟨"LifeNoesModel", "person", "(IIII)I"⟩ ∈ gT := gin_6 (List.mem_of_getElem? (i := 13) rfl) rfl
theorem wd_1214 : Cond.instanceMethod ⟨"LifeNoesModel", "person", "(IIII)I"⟩ ∈ gT := gin_6 (List.mem_of_getElem? (i := 14) rfl) rfl
theorem wd_1215 : Cond.selects "LifeNoesModel" ⟨"LifeNoesModel", "person", "(IIII)I"⟩ ⟨"LifeNoesModel", "person", "(IIII)I"⟩ ∈ gT := gin_6 (List.mem_of_getElem? (i := 15) rfl) rfl
theorem wd_1216 : Cond.code ⟨"LifeNoesModel", "person", "(IIII)I"⟩ prog_14_method_26_code 6 (some .int) ∈ gT := gin_6 (List.mem_of_getElem? (i := 16) rfl) rfl
theorem wd_1217 : Cond.methodLink "LifeNoesModel" 234 ⟨"LifeNoesModel", "isMind", "(II)Z"⟩ ∈ gT := gin_6 (List.mem_of_getElem? (i := 17) rfl) rfl
theorem wd_1218 : Cond.static ⟨"LifeNoesModel", "isMind", "(II)Z"⟩ ∈ gT := gin_6 (List.mem_of_getElem? (i := 18) rfl) rfl
theorem wd_1219 : Cond.code ⟨"LifeNoesModel", "isMind", "(II)Z"⟩ prog_14_method_25_code 2 (some .boolean) ∈ gT := gin_6 (List.mem_of_getElem? (i := 19) rfl) rfl
theorem wd_1220 : Cond.methodLink "LifeNoesLaw" 34 ⟨"LifeNoesModel", "personOf", "(II)I"⟩ ∈ gT := gin_6 (List.mem_of_getElem? (i := 20) rfl) rfl
theorem wd_1221 : Cond.instanceMethod ⟨"LifeNoesModel", "personOf", "(II)I"⟩ ∈ gT := gin_6 (List.mem_of_getElem? (i := 21) rfl) rfl
theorem wd_1222 : Cond.selects "LifeNoesModel" ⟨"LifeNoesModel", "personOf", "(II)I"⟩ ⟨"LifeNoesModel", "personOf", "(II)I"⟩ ∈ gT := gin_6 (List.mem_of_getElem? (i := 22) rfl) rfl
theorem wd_1223 : Cond.code ⟨"LifeNoesModel", "personOf", "(II)I"⟩ prog_14_method_27_code 3 (some .int) ∈ gT := gin_6 (List.mem_of_getElem? (i := 23) rfl) rfl
theorem wd_1224 : Cond.methodLink "LifeNoesModel" 238 ⟨"LifeNoesModel", "isPerson", "(I)Z"⟩ ∈ gT := gin_6 (List.mem_of_getElem? (i := 24) rfl) rfl
theorem wd_1226 : Cond.instanceMethod ⟨"LifeNoesModel", "isPerson", "(I)Z"⟩ ∈ gT := gin_6 (List.mem_of_getElem? (i := 26) rfl) rfl
theorem wd_1227 : Cond.code ⟨"LifeNoesModel", "isPerson", "(I)Z"⟩ prog_14_method_3_code 2 (some .boolean) ∈ gT := gin_6 (List.mem_of_getElem? (i := 27) rfl) rfl
theorem wd_1228 : Cond.methodLink "LifeNoesLaw" 39 ⟨"LifeNoesModel", "leave", "(I)I"⟩ ∈ gT := gin_6 (List.mem_of_getElem? (i := 28) rfl) rfl
theorem wd_1229 : Cond.instanceMethod ⟨"LifeNoesModel", "leave", "(I)I"⟩ ∈ gT := gin_6 (List.mem_of_getElem? (i := 29) rfl) rfl
theorem wd_1230 : Cond.selects "LifeNoesModel" ⟨"LifeNoesModel", "leave", "(I)I"⟩ ⟨"LifeNoesModel", "leave", "(I)I"⟩ ∈ gT := gin_6 (List.mem_of_getElem? (i := 30) rfl) rfl
theorem wd_1231 : Cond.code ⟨"LifeNoesModel", "leave", "(I)I"⟩ prog_14_method_28_code 4 (some .int) ∈ gT := gin_6 (List.mem_of_getElem? (i := 31) rfl) rfl
theorem wd_1232 : Cond.methodLink "LifeNoesLaw" 44 ⟨"LifeNoesModel", "mind", "(III)I"⟩ ∈ gT := gin_6 (List.mem_of_getElem? (i := 32) rfl) rfl
theorem wd_1233 : Cond.instanceMethod ⟨"LifeNoesModel", "mind", "(III)I"⟩ ∈ gT := gin_6 (List.mem_of_getElem? (i := 33) rfl) rfl
theorem wd_1234 : Cond.selects "LifeNoesModel" ⟨"LifeNoesModel", "mind", "(III)I"⟩ ⟨"LifeNoesModel", "mind", "(III)I"⟩ ∈ gT := gin_6 (List.mem_of_getElem? (i := 34) rfl) rfl
theorem wd_1235 : Cond.code ⟨"LifeNoesModel", "mind", "(III)I"⟩ prog_14_method_29_code 5 (some .int) ∈ gT := gin_6 (List.mem_of_getElem? (i := 35) rfl) rfl
theorem wd_1236 : Cond.methodLink "LifeNoesLaw" 48 ⟨"LifeNoesModel", "give", "(II)I"⟩ ∈ gT := gin_6 (List.mem_of_getElem? (i := 36) rfl) rfl
theorem wd_1237 : Cond.instanceMethod ⟨"LifeNoesModel", "give", "(II)I"⟩ ∈ gT := gin_6 (List.mem_of_getElem? (i := 37) rfl) rfl
theorem wd_1238 : Cond.selects "LifeNoesModel" ⟨"LifeNoesModel", "give", "(II)I"⟩ ⟨"LifeNoesModel", "give", "(II)I"⟩ ∈ gT := gin_6 (List.mem_of_getElem? (i := 38) rfl) rfl
theorem wd_1239 : Cond.code ⟨"LifeNoesModel", "give", "(II)I"⟩ prog_14_method_30_code 3 (some .int) ∈ gT := gin_6 (List.mem_of_getElem? (i := 39) rfl) rfl
theorem wd_1240 : Cond.methodLink "LifeNoesLaw" 52 ⟨"LifeNoesModel", "noes", "(II)I"⟩ ∈ gT := gin_6 (List.mem_of_getElem? (i := 40) rfl) rfl
theorem wd_1241 : Cond.instanceMethod ⟨"LifeNoesModel", "noes", "(II)I"⟩ ∈ gT := gin_6 (List.mem_of_getElem? (i := 41) rfl) rfl
theorem wd_1242 : Cond.selects "LifeNoesModel" ⟨"LifeNoesModel", "noes", "(II)I"⟩ ⟨"LifeNoesModel", "noes", "(II)I"⟩ ∈ gT := gin_6 (List.mem_of_getElem? (i := 42) rfl) rfl
theorem wd_1243 : Cond.code ⟨"LifeNoesModel", "noes", "(II)I"⟩ prog_14_method_31_code 4 (some .int) ∈ gT := gin_6 (List.mem_of_getElem? (i := 43) rfl) rfl
theorem wd_1244 : Cond.methodLink "LifeNoesLaw" 56 ⟨"LifeNoesModel", "proposal", "(I)I"⟩ ∈ gT := gin_6 (List.mem_of_getElem? (i := 44) rfl) rfl
theorem wd_1245 : Cond.instanceMethod ⟨"LifeNoesModel", "proposal", "(I)I"⟩ ∈ gT := gin_6 (List.mem_of_getElem? (i := 45) rfl) rfl
theorem wd_1246 : Cond.selects "LifeNoesModel" ⟨"LifeNoesModel", "proposal", "(I)I"⟩ ⟨"LifeNoesModel", "proposal", "(I)I"⟩ ∈ gT := gin_6 (List.mem_of_getElem? (i := 46) rfl) rfl
theorem wd_1247 : Cond.code ⟨"LifeNoesModel", "proposal", "(I)I"⟩ prog_14_method_32_code 3 (some .int) ∈ gT := gin_6 (List.mem_of_getElem? (i := 47) rfl) rfl
theorem wd_1248 : Cond.methodLink "LifeNoesLaw" 60 ⟨"LifeNoesModel", "weigh", "(II)I"⟩ ∈ gT := gin_6 (List.mem_of_getElem? (i := 48) rfl) rfl
theorem wd_1249 : Cond.instanceMethod ⟨"LifeNoesModel", "weigh", "(II)I"⟩ ∈ gT := gin_6 (List.mem_of_getElem? (i := 49) rfl) rfl
theorem wd_1250 : Cond.selects "LifeNoesModel" ⟨"LifeNoesModel", "weigh", "(II)I"⟩ ⟨"LifeNoesModel", "weigh", "(II)I"⟩ ∈ gT := gin_6 (List.mem_of_getElem? (i := 50) rfl) rfl
theorem wd_1251 : Cond.code ⟨"LifeNoesModel", "weigh", "(II)I"⟩ prog_14_method_33_code 4 (some .int) ∈ gT := gin_6 (List.mem_of_getElem? (i := 51) rfl) rfl
theorem wd_1252 : Cond.methodLink "LifeNoesModel" 241 ⟨"LifeNoesModel", "isProposal", "(I)Z"⟩ ∈ gT := gin_6 (List.mem_of_getElem? (i := 52) rfl) rfl
theorem wd_1254 : Cond.instanceMethod ⟨"LifeNoesModel", "isProposal", "(I)Z"⟩ ∈ gT := gin_6 (List.mem_of_getElem? (i := 54) rfl) rfl
theorem wd_1255 : Cond.code ⟨"LifeNoesModel", "isProposal", "(I)Z"⟩ prog_14_method_4_code 2 (some .boolean) ∈ gT := gin_6 (List.mem_of_getElem? (i := 55) rfl) rfl
theorem wd_1256 : Cond.methodLink "LifeNoesLaw" 64 ⟨"LifeNoesModel", "worth", "(III)I"⟩ ∈ gT := gin_6 (List.mem_of_getElem? (i := 56) rfl) rfl
theorem wd_1257 : Cond.instanceMethod ⟨"LifeNoesModel", "worth", "(III)I"⟩ ∈ gT := gin_6 (List.mem_of_getElem? (i := 57) rfl) rfl
theorem wd_1258 : Cond.selects "LifeNoesModel" ⟨"LifeNoesModel", "worth", "(III)I"⟩ ⟨"LifeNoesModel", "worth", "(III)I"⟩ ∈ gT := gin_6 (List.mem_of_getElem? (i := 58) rfl) rfl
theorem wd_1259 : Cond.code ⟨"LifeNoesModel", "worth", "(III)I"⟩ prog_14_method_34_code 5 (some .int) ∈ gT := gin_6 (List.mem_of_getElem? (i := 59) rfl) rfl
theorem wd_1260 : Cond.methodLink "LifeNoesModel" 244 ⟨"LifeNoesModel", "worthTo", "(II)I"⟩ ∈ gT := gin_6 (List.mem_of_getElem? (i := 60) rfl) rfl
theorem wd_1262 : Cond.instanceMethod ⟨"LifeNoesModel", "worthTo", "(II)I"⟩ ∈ gT := gin_6 (List.mem_of_getElem? (i := 62) rfl) rfl
theorem wd_1263 : Cond.code ⟨"LifeNoesModel", "worthTo", "(II)I"⟩ prog_14_method_6_code 3 (some .int) ∈ gT := gin_6 (List.mem_of_getElem? (i := 63) rfl) rfl
theorem wd_1264 : Cond.methodLink "LifeNoesLaw" 68 ⟨"LifeNoesModel", "proposalOf", "(II)I"⟩ ∈ gT := gin_6 (List.mem_of_getElem? (i := 64) rfl) rfl
theorem wd_1265 : Cond.instanceMethod ⟨"LifeNoesModel", "proposalOf", "(II)I"⟩ ∈ gT := gin_6 (List.mem_of_getElem? (i := 65) rfl) rfl
theorem wd_1266 : Cond.selects "LifeNoesModel" ⟨"LifeNoesModel", "proposalOf", "(II)I"⟩ ⟨"LifeNoesModel", "proposalOf", "(II)I"⟩ ∈ gT := gin_6 (List.mem_of_getElem? (i := 66) rfl) rfl
theorem wd_1267 : Cond.code ⟨"LifeNoesModel", "proposalOf", "(II)I"⟩ prog_14_method_35_code 3 (some .int) ∈ gT := gin_6 (List.mem_of_getElem? (i := 67) rfl) rfl
theorem wd_1268 : Cond.methodLink "LifeNoesLaw" 72 ⟨"LifeNoesModel", "set", "(II)I"⟩ ∈ gT := gin_6 (List.mem_of_getElem? (i := 68) rfl) rfl
theorem wd_1269 : Cond.instanceMethod ⟨"LifeNoesModel", "set", "(II)I"⟩ ∈ gT := gin_6 (List.mem_of_getElem? (i := 69) rfl) rfl
theorem wd_1270 : Cond.selects "LifeNoesModel" ⟨"LifeNoesModel", "set", "(II)I"⟩ ⟨"LifeNoesModel", "set", "(II)I"⟩ ∈ gT := gin_6 (List.mem_of_getElem? (i := 70) rfl) rfl
theorem wd_1271 : Cond.code ⟨"LifeNoesModel", "set", "(II)I"⟩ prog_14_method_37_code 5 (some .int) ∈ gT := gin_6 (List.mem_of_getElem? (i := 71) rfl) rfl
theorem wd_1272 : Cond.methodLink "LifeNoesModel" 247 ⟨"LifeNoesModel", "isLaw", "(I)Z"⟩ ∈ gT := gin_6 (List.mem_of_getElem? (i := 72) rfl) rfl
theorem wd_1273 : Cond.static ⟨"LifeNoesModel", "isLaw", "(I)Z"⟩ ∈ gT := gin_6 (List.mem_of_getElem? (i := 73) rfl) rfl
theorem wd_1274 : Cond.code ⟨"LifeNoesModel", "isLaw", "(I)Z"⟩ prog_14_method_36_code 1 (some .boolean) ∈ gT := gin_6 (List.mem_of_getElem? (i := 74) rfl) rfl
theorem wd_1275 : Cond.methodLink "LifeNoesLaw" 76 ⟨"LifeNoesModel", "law", "(I)I"⟩ ∈ gT := gin_6 (List.mem_of_getElem? (i := 75) rfl) rfl
theorem wd_1276 : Cond.instanceMethod ⟨"LifeNoesModel", "law", "(I)I"⟩ ∈ gT := gin_6 (List.mem_of_getElem? (i := 76) rfl) rfl
theorem wd_1277 : Cond.selects "LifeNoesModel" ⟨"LifeNoesModel", "law", "(I)I"⟩ ⟨"LifeNoesModel", "law", "(I)I"⟩ ∈ gT := gin_6 (List.mem_of_getElem? (i := 77) rfl) rfl
theorem wd_1278 : Cond.code ⟨"LifeNoesModel", "law", "(I)I"⟩ prog_14_method_38_code 2 (some .int) ∈ gT := gin_6 (List.mem_of_getElem? (i := 78) rfl) rfl
theorem wd_1279 : Cond.methodLink "LifeNoesLaw" 80 ⟨"LifeNoesModel", "would", "(I)I"⟩ ∈ gT := gin_6 (List.mem_of_getElem? (i := 79) rfl) rfl
theorem wd_1280 : Cond.instanceMethod ⟨"LifeNoesModel", "would", "(I)I"⟩ ∈ gT := gin_6 (List.mem_of_getElem? (i := 80) rfl) rfl
theorem wd_1281 : Cond.selects "LifeNoesModel" ⟨"LifeNoesModel", "would", "(I)I"⟩ ⟨"LifeNoesModel", "would", "(I)I"⟩ ∈ gT := gin_6 (List.mem_of_getElem? (i := 81) rfl) rfl
theorem wd_1282 : Cond.code ⟨"LifeNoesModel", "would", "(I)I"⟩ prog_14_method_46_code 2 (some .int) ∈ gT := gin_6 (List.mem_of_getElem? (i := 82) rfl) rfl
theorem wd_1283 : Cond.methodLink "LifeNoesModel" 262 ⟨"LifeNoesModel", "wouldSet", "(II)I"⟩ ∈ gT := gin_6 (List.mem_of_getElem? (i := 83) rfl) rfl
theorem wd_1285 : Cond.instanceMethod ⟨"LifeNoesModel", "wouldSet", "(II)I"⟩ ∈ gT := gin_6 (List.mem_of_getElem? (i := 85) rfl) rfl
theorem wd_1286 : Cond.code ⟨"LifeNoesModel", "wouldSet", "(II)I"⟩ prog_14_method_42_code 6 (some .int) ∈ gT := gin_6 (List.mem_of_getElem? (i := 86) rfl) rfl
theorem wd_1287 : Cond.methodLink "LifeNoesModel" 259 ⟨"LifeNoesModel", "wouldBy", "(III)Z"⟩ ∈ gT := gin_6 (List.mem_of_getElem? (i := 87) rfl) rfl
theorem wd_1289 : Cond.instanceMethod ⟨"LifeNoesModel", "wouldBy", "(III)Z"⟩ ∈ gT := gin_6 (List.mem_of_getElem? (i := 89) rfl) rfl
theorem wd_1290 : Cond.code ⟨"LifeNoesModel", "wouldBy", "(III)Z"⟩ prog_14_method_41_code 5 (some .boolean) ∈ gT := gin_6 (List.mem_of_getElem? (i := 90) rfl) rfl
theorem wd_1291 : Cond.methodLink "LifeNoesModel" 250 ⟨"LifeNoesModel", "isLow", "(III)Z"⟩ ∈ gT := gin_6 (List.mem_of_getElem? (i := 91) rfl) rfl
theorem wd_1293 : Cond.instanceMethod ⟨"LifeNoesModel", "isLow", "(III)Z"⟩ ∈ gT := gin_6 (List.mem_of_getElem? (i := 93) rfl) rfl
theorem wd_1294 : Cond.code ⟨"LifeNoesModel", "isLow", "(III)Z"⟩ prog_14_method_39_code 6 (some .boolean) ∈ gT := gin_6 (List.mem_of_getElem? (i := 94) rfl) rfl
theorem wd_1295 : Cond.methodLink "LifeNoesModel" 253 ⟨"LifeNoesModel", "isCalled", "(II)Z"⟩ ∈ gT := gin_6 (List.mem_of_getElem? (i := 95) rfl) rfl
theorem wd_1297 : Cond.instanceMethod ⟨"LifeNoesModel", "isCalled", "(II)Z"⟩ ∈ gT := gin_6 (List.mem_of_getElem? (i := 97) rfl) rfl
theorem wd_1298 : Cond.code ⟨"LifeNoesModel", "isCalled", "(II)Z"⟩ prog_14_method_40_code 7 (some .boolean) ∈ gT := gin_6 (List.mem_of_getElem? (i := 98) rfl) rfl
theorem wd_1299 : Cond.methodLink "LifeNoesLaw" 84 ⟨"LifeNoesModel", "says", "(I)I"⟩ ∈ gT := gin_6 (List.mem_of_getElem? (i := 99) rfl) rfl
theorem wd_1300 : Cond.instanceMethod ⟨"LifeNoesModel", "says", "(I)I"⟩ ∈ gT := gin_6 (List.mem_of_getElem? (i := 100) rfl) rfl
theorem wd_1301 : Cond.selects "LifeNoesModel" ⟨"LifeNoesModel", "says", "(I)I"⟩ ⟨"LifeNoesModel", "says", "(I)I"⟩ ∈ gT := gin_6 (List.mem_of_getElem? (i := 101) rfl) rfl
theorem wd_1302 : Cond.code ⟨"LifeNoesModel", "says", "(I)I"⟩ prog_14_method_47_code 2 (some .int) ∈ gT := gin_6 (List.mem_of_getElem? (i := 102) rfl) rfl
theorem wd_1303 : Cond.methodLink "LifeNoesModel" 265 ⟨"LifeNoesModel", "saySet", "(II)I"⟩ ∈ gT := gin_6 (List.mem_of_getElem? (i := 103) rfl) rfl
theorem wd_1305 : Cond.instanceMethod ⟨"LifeNoesModel", "saySet", "(II)I"⟩ ∈ gT := gin_6 (List.mem_of_getElem? (i := 105) rfl) rfl
theorem wd_1306 : Cond.code ⟨"LifeNoesModel", "saySet", "(II)I"⟩ prog_14_method_43_code 9 (some .int) ∈ gT := gin_6 (List.mem_of_getElem? (i := 106) rfl) rfl
theorem wd_1307 : Cond.methodLink "LifeNoesLaw" 88 ⟨"LifeNoesModel", "comes", "(I)I"⟩ ∈ gT := gin_6 (List.mem_of_getElem? (i := 107) rfl) rfl
theorem wd_1308 : Cond.instanceMethod ⟨"LifeNoesModel", "comes", "(I)I"⟩ ∈ gT := gin_6 (List.mem_of_getElem? (i := 108) rfl) rfl
theorem wd_1309 : Cond.selects "LifeNoesModel" ⟨"LifeNoesModel", "comes", "(I)I"⟩ ⟨"LifeNoesModel", "comes", "(I)I"⟩ ∈ gT := gin_6 (List.mem_of_getElem? (i := 109) rfl) rfl
theorem wd_1310 : Cond.code ⟨"LifeNoesModel", "comes", "(I)I"⟩ prog_14_method_49_code 2 (some .int) ∈ gT := gin_6 (List.mem_of_getElem? (i := 110) rfl) rfl
theorem wd_1311 : Cond.methodLink "LifeNoesModel" 277 ⟨"LifeNoesModel", "comesNow", "(I)I"⟩ ∈ gT := gin_6 (List.mem_of_getElem? (i := 111) rfl) rfl
theorem wd_1313 : Cond.instanceMethod ⟨"LifeNoesModel", "comesNow", "(I)I"⟩ ∈ gT := gin_6 (List.mem_of_getElem? (i := 113) rfl) rfl
theorem wd_1314 : Cond.code ⟨"LifeNoesModel", "comesNow", "(I)I"⟩ prog_14_method_48_code 4 (some .int) ∈ gT := gin_6 (List.mem_of_getElem? (i := 114) rfl) rfl
theorem wd_1315 : Cond.methodLink "LifeNoesModel" 274 ⟨"LifeNoesModel", "goes", "(III)Z"⟩ ∈ gT := gin_6 (List.mem_of_getElem? (i := 115) rfl) rfl
theorem wd_1317 : Cond.instanceMethod ⟨"LifeNoesModel", "goes", "(III)Z"⟩ ∈ gT := gin_6 (List.mem_of_getElem? (i := 117) rfl) rfl
theorem wd_1318 : Cond.code ⟨"LifeNoesModel", "goes", "(III)Z"⟩ prog_14_method_45_code 8 (some .boolean) ∈ gT := gin_6 (List.mem_of_getElem? (i := 118) rfl) rfl
theorem wd_1319 : Cond.methodLink "LifeNoesModel" 271 ⟨"LifeNoesModel", "ones", "(I)I"⟩ ∈ gT := gin_6 (List.mem_of_getElem? (i := 119) rfl) rfl
theorem wd_1320 : Cond.static ⟨"LifeNoesModel", "ones", "(I)I"⟩ ∈ gT := gin_6 (List.mem_of_getElem? (i := 120) rfl) rfl
theorem wd_1321 : Cond.code ⟨"LifeNoesModel", "ones", "(I)I"⟩ prog_14_method_44_code 3 (some .int) ∈ gT := gin_6 (List.mem_of_getElem? (i := 121) rfl) rfl
theorem wd_1322 : Cond.methodLink "LifeNoesLaw" 92 ⟨"LifeNoesModel", "lot", "()I"⟩ ∈ gT := gin_6 (List.mem_of_getElem? (i := 122) rfl) rfl
theorem wd_1323 : Cond.instanceMethod ⟨"LifeNoesModel", "lot", "()I"⟩ ∈ gT := gin_6 (List.mem_of_getElem? (i := 123) rfl) rfl
theorem wd_1324 : Cond.selects "LifeNoesModel" ⟨"LifeNoesModel", "lot", "()I"⟩ ⟨"LifeNoesModel", "lot", "()I"⟩ ∈ gT := gin_6 (List.mem_of_getElem? (i := 124) rfl) rfl
theorem wd_1325 : Cond.code ⟨"LifeNoesModel", "lot", "()I"⟩ prog_14_method_53_code 3 (some .int) ∈ gT := gin_6 (List.mem_of_getElem? (i := 125) rfl) rfl
theorem wd_1326 : Cond.methodLink "LifeNoesModel" 281 ⟨"LifeNoesModel", "weightsInAll", "()I"⟩ ∈ gT := gin_6 (List.mem_of_getElem? (i := 126) rfl) rfl
theorem wd_1328 : Cond.instanceMethod ⟨"LifeNoesModel", "weightsInAll", "()I"⟩ ∈ gT := gin_6 (List.mem_of_getElem? (i := 128) rfl) rfl
theorem wd_1329 : Cond.code ⟨"LifeNoesModel", "weightsInAll", "()I"⟩ prog_14_method_50_code 3 (some .int) ∈ gT := gin_6 (List.mem_of_getElem? (i := 129) rfl) rfl
theorem wd_1330 : Cond.methodLink "LifeNoesModel" 284 ⟨"LifeNoesModel", "next", "(I)I"⟩ ∈ gT := gin_6 (List.mem_of_getElem? (i := 130) rfl) rfl
theorem wd_1331 : Cond.static ⟨"LifeNoesModel", "next", "(I)I"⟩ ∈ gT := gin_6 (List.mem_of_getElem? (i := 131) rfl) rfl
theorem wd_1332 : Cond.code ⟨"LifeNoesModel", "next", "(I)I"⟩ prog_14_method_52_code 1 (some .int) ∈ gT := gin_6 (List.mem_of_getElem? (i := 132) rfl) rfl
theorem wd_1333 : Cond.constant "LifeNoesModel" 280 1103515245 ∈ gT := gin_6 (List.mem_of_getElem? (i := 133) rfl) rfl
theorem wd_1334 : Cond.methodLink "LifeNoesModel" 287 ⟨"LifeNoesModel", "lotOf", "(II)I"⟩ ∈ gT := gin_6 (List.mem_of_getElem? (i := 134) rfl) rfl
theorem wd_1336 : Cond.instanceMethod ⟨"LifeNoesModel", "lotOf", "(II)I"⟩ ∈ gT := gin_6 (List.mem_of_getElem? (i := 136) rfl) rfl
theorem wd_1337 : Cond.code ⟨"LifeNoesModel", "lotOf", "(II)I"⟩ prog_14_method_51_code 5 (some .int) ∈ gT := gin_6 (List.mem_of_getElem? (i := 137) rfl) rfl
theorem wd_1338 : Cond.methodLink "LifeNoesLaw" 96 ⟨"LifeNoesModel", "had", "(I)I"⟩ ∈ gT := gin_6 (List.mem_of_getElem? (i := 138) rfl) rfl
theorem wd_1339 : Cond.instanceMethod ⟨"LifeNoesModel", "had", "(I)I"⟩ ∈ gT := gin_6 (List.mem_of_getElem? (i := 139) rfl) rfl
theorem wd_1340 : Cond.selects "LifeNoesModel" ⟨"LifeNoesModel", "had", "(I)I"⟩ ⟨"LifeNoesModel", "had", "(I)I"⟩ ∈ gT := gin_6 (List.mem_of_getElem? (i := 140) rfl) rfl
theorem wd_1341 : Cond.code ⟨"LifeNoesModel", "had", "(I)I"⟩ prog_14_method_54_code 2 (some .int) ∈ gT := gin_6 (List.mem_of_getElem? (i := 141) rfl) rfl
theorem wd_1342 : Cond.constant "LifeNoesModel" 290 100000 ∈ gT := gin_6 (List.mem_of_getElem? (i := 142) rfl) rfl
theorem wd_1343 : Cond.methodLink "LifeNoesLaw" 100 ⟨"LifeNoesModel", "seed", "(I)I"⟩ ∈ gT := gin_6 (List.mem_of_getElem? (i := 143) rfl) rfl
theorem wd_1344 : Cond.instanceMethod ⟨"LifeNoesModel", "seed", "(I)I"⟩ ∈ gT := gin_6 (List.mem_of_getElem? (i := 144) rfl) rfl
theorem wd_1345 : Cond.selects "LifeNoesModel" ⟨"LifeNoesModel", "seed", "(I)I"⟩ ⟨"LifeNoesModel", "seed", "(I)I"⟩ ∈ gT := gin_6 (List.mem_of_getElem? (i := 145) rfl) rfl
theorem wd_1346 : Cond.code ⟨"LifeNoesModel", "seed", "(I)I"⟩ prog_14_method_55_code 3 (some .int) ∈ gT := gin_6 (List.mem_of_getElem? (i := 146) rfl) rfl
theorem wd_1347 : Cond.methodLink "LifeNoesLaw" 105 ⟨"LifeNoesModel", "value", "(III)J"⟩ ∈ gT := gin_6 (List.mem_of_getElem? (i := 147) rfl) rfl
theorem wd_1348 : Cond.instanceMethod ⟨"LifeNoesModel", "value", "(III)J"⟩ ∈ gT := gin_6 (List.mem_of_getElem? (i := 148) rfl) rfl
theorem wd_1349 : Cond.selects "LifeNoesModel" ⟨"LifeNoesModel", "value", "(III)J"⟩ ⟨"LifeNoesModel", "value", "(III)J"⟩ ∈ gT := gin_6 (List.mem_of_getElem? (i := 149) rfl) rfl
theorem wd_1350 : Cond.code ⟨"LifeNoesModel", "value", "(III)J"⟩ prog_14_method_62_code 4 (some .long) ∈ gT := gin_6 (List.mem_of_getElem? (i := 150) rfl) rfl
theorem wd_1351 : Cond.methodLink "LifeNoesModel" 316 ⟨"LifeNoesModel", "isSide", "(I)Z"⟩ ∈ gT := gin_6 (List.mem_of_getElem? (i := 151) rfl) rfl
theorem wd_1352 : Cond.static ⟨"LifeNoesModel", "isSide", "(I)Z"⟩ ∈ gT := gin_6 (List.mem_of_getElem? (i := 152) rfl) rfl
theorem wd_1353 : Cond.code ⟨"LifeNoesModel", "isSide", "(I)Z"⟩ prog_14_method_5_code 1 (some .boolean) ∈ gT := gin_6 (List.mem_of_getElem? (i := 153) rfl) rfl
theorem wd_1354 : Cond.methodLink "LifeNoesModel" 319 ⟨"LifeNoesModel", "valueSide", "(III)J"⟩ ∈ gT := gin_6 (List.mem_of_getElem? (i := 154) rfl) rfl
theorem wd_1356 : Cond.instanceMethod ⟨"LifeNoesModel", "valueSide", "(III)J"⟩ ∈ gT := gin_6 (List.mem_of_getElem? (i := 156) rfl) rfl
theorem wd_1357 : Cond.code ⟨"LifeNoesModel", "valueSide", "(III)J"⟩ prog_14_method_61_code 5 (some .long) ∈ gT := gin_6 (List.mem_of_getElem? (i := 157) rfl) rfl
theorem wd_1358 : Cond.methodLink "LifeNoesModel" 304 ⟨"LifeNoesModel", "valueOf", "(II)J"⟩ ∈ gT := gin_6 (List.mem_of_getElem? (i := 158) rfl) rfl
theorem wd_1360 : Cond.instanceMethod ⟨"LifeNoesModel", "valueOf", "(II)J"⟩ ∈ gT := gin_6 (List.mem_of_getElem? (i := 160) rfl) rfl
theorem wd_1361 : Cond.code ⟨"LifeNoesModel", "valueOf", "(II)J"⟩ prog_14_method_60_code 14 (some .long) ∈ gT := gin_6 (List.mem_of_getElem? (i := 161) rfl) rfl
theorem wd_1362 : Cond.methodLink "LifeNoesModel" 300 ⟨"LifeNoesModel", "brings", "(IZI)I"⟩ ∈ gT := gin_6 (List.mem_of_getElem? (i := 162) rfl) rfl
theorem wd_1364 : Cond.instanceMethod ⟨"LifeNoesModel", "brings", "(IZI)I"⟩ ∈ gT := gin_6 (List.mem_of_getElem? (i := 164) rfl) rfl
theorem wd_1365 : Cond.code ⟨"LifeNoesModel", "brings", "(IZI)I"⟩ prog_14_method_59_code 6 (some .int) ∈ gT := gin_6 (List.mem_of_getElem? (i := 165) rfl) rfl
theorem wd_1366 : Cond.methodLink "LifeNoesModel" 297 ⟨"LifeNoesModel", "spoiledIn", "(I)I"⟩ ∈ gT := gin_6 (List.mem_of_getElem? (i := 166) rfl) rfl
theorem wd_1368 : Cond.instanceMethod ⟨"LifeNoesModel", "spoiledIn", "(I)I"⟩ ∈ gT := gin_6 (List.mem_of_getElem? (i := 168) rfl) rfl
theorem wd_1369 : Cond.code ⟨"LifeNoesModel", "spoiledIn", "(I)I"⟩ prog_14_method_58_code 4 (some .int) ∈ gT := gin_6 (List.mem_of_getElem? (i := 169) rfl) rfl
theorem wd_1370 : Cond.methodLink "LifeNoesModel" 308 ⟨"LifeNoesModel", "power", "(JI)J"⟩ ∈ gT := gin_6 (List.mem_of_getElem? (i := 170) rfl) rfl
theorem wd_1371 : Cond.static ⟨"LifeNoesModel", "power", "(JI)J"⟩ ∈ gT := gin_6 (List.mem_of_getElem? (i := 171) rfl) rfl
theorem wd_1372 : Cond.code ⟨"LifeNoesModel", "power", "(JI)J"⟩ prog_14_method_57_code 6 (some .long) ∈ gT := gin_6 (List.mem_of_getElem? (i := 172) rfl) rfl
theorem wd_1373 : Cond.methodLink "LifeNoesModel" 312 ⟨"LifeNoesModel", "lowest", "(JJ)V"⟩ ∈ gT := gin_6 (List.mem_of_getElem? (i := 173) rfl) rfl
theorem wd_1375 : Cond.instanceMethod ⟨"LifeNoesModel", "lowest", "(JJ)V"⟩ ∈ gT := gin_6 (List.mem_of_getElem? (i := 175) rfl) rfl
theorem wd_1376 : Cond.code ⟨"LifeNoesModel", "lowest", "(JJ)V"⟩ prog_14_method_56_code 11 none ∈ gT := gin_6 (List.mem_of_getElem? (i := 176) rfl) rfl
theorem wd_1377 : Cond.constantLong "LifeNoesModel" 323 (-1000000000000) ∈ gT := gin_6 (List.mem_of_getElem? (i := 177) rfl) rfl
theorem wd_1378 : Cond.methodLink "LifeNoesLaw" 130 ⟨"LifeNoesModel", "spoilt", "(II)J"⟩ ∈ gT := gin_6 (List.mem_of_getElem? (i := 178) rfl) rfl
theorem wd_1379 : Cond.instanceMethod ⟨"LifeNoesModel", "spoilt", "(II)J"⟩ ∈ gT := gin_6 (List.mem_of_getElem? (i := 179) rfl) rfl
theorem wd_1380 : Cond.selects "LifeNoesModel" ⟨"LifeNoesModel", "spoilt", "(II)J"⟩ ⟨"LifeNoesModel", "spoilt", "(II)J"⟩ ∈ gT := gin_6 (List.mem_of_getElem? (i := 180) rfl) rfl
theorem wd_1381 : Cond.code ⟨"LifeNoesModel", "spoilt", "(II)J"⟩ prog_14_method_63_code 3 (some .long) ∈ gT := gin_6 (List.mem_of_getElem? (i := 181) rfl) rfl
theorem wd_1382 : Cond.methodLink "LifeNoesLaw" 109 ⟨"LifeNoesModel", "best", "(III)J"⟩ ∈ gT := gin_6 (List.mem_of_getElem? (i := 182) rfl) rfl
theorem wd_1383 : Cond.instanceMethod ⟨"LifeNoesModel", "best", "(III)J"⟩ ∈ gT := gin_6 (List.mem_of_getElem? (i := 183) rfl) rfl
theorem wd_1384 : Cond.selects "LifeNoesModel" ⟨"LifeNoesModel", "best", "(III)J"⟩ ⟨"LifeNoesModel", "best", "(III)J"⟩ ∈ gT := gin_6 (List.mem_of_getElem? (i := 184) rfl) rfl
theorem wd_1385 : Cond.code ⟨"LifeNoesModel", "best", "(III)J"⟩ prog_14_method_69_code 5 (some .long) ∈ gT := gin_6 (List.mem_of_getElem? (i := 185) rfl) rfl
theorem wd_1386 : Cond.methodLink "LifeNoesModel" 338 ⟨"LifeNoesModel", "bestBy", "(IIII)J"⟩ ∈ gT := gin_6 (List.mem_of_getElem? (i := 186) rfl) rfl
theorem wd_1388 : Cond.instanceMethod ⟨"LifeNoesModel", "bestBy", "(IIII)J"⟩ ∈ gT := gin_6 (List.mem_of_getElem? (i := 188) rfl) rfl
theorem wd_1389 : Cond.code ⟨"LifeNoesModel", "bestBy", "(IIII)J"⟩ prog_14_method_68_code 5 (some .long) ∈ gT := gin_6 (List.mem_of_getElem? (i := 189) rfl) rfl
theorem wd_1390 : Cond.methodLink "LifeNoesModel" 329 ⟨"LifeNoesModel", "bestOne", "(II)J"⟩ ∈ gT := gin_6 (List.mem_of_getElem? (i := 190) rfl) rfl
theorem wd_1392 : Cond.instanceMethod ⟨"LifeNoesModel", "bestOne", "(II)J"⟩ ∈ gT := gin_6 (List.mem_of_getElem? (i := 192) rfl) rfl
theorem wd_1393 : Cond.code ⟨"LifeNoesModel", "bestOne", "(II)J"⟩ prog_14_method_65_code 10 (some .long) ∈ gT := gin_6 (List.mem_of_getElem? (i := 193) rfl) rfl
theorem wd_1394 : Cond.methodLink "LifeNoesModel" 325 ⟨"LifeNoesModel", "hasNow", "(IIII)J"⟩ ∈ gT := gin_6 (List.mem_of_getElem? (i := 194) rfl) rfl
theorem wd_1396 : Cond.instanceMethod ⟨"LifeNoesModel", "hasNow", "(IIII)J"⟩ ∈ gT := gin_6 (List.mem_of_getElem? (i := 196) rfl) rfl
theorem wd_1397 : Cond.code ⟨"LifeNoesModel", "hasNow", "(IIII)J"⟩ prog_14_method_64_code 6 (some .long) ∈ gT := gin_6 (List.mem_of_getElem? (i := 197) rfl) rfl
theorem wd_1398 : Cond.methodLink "LifeNoesModel" 332 ⟨"LifeNoesModel", "bestTwo", "(III)J"⟩ ∈ gT := gin_6 (List.mem_of_getElem? (i := 198) rfl) rfl
theorem wd_1400 : Cond.instanceMethod ⟨"LifeNoesModel", "bestTwo", "(III)J"⟩ ∈ gT := gin_6 (List.mem_of_getElem? (i := 200) rfl) rfl
theorem wd_1401 : Cond.code ⟨"LifeNoesModel", "bestTwo", "(III)J"⟩ prog_14_method_66_code 11 (some .long) ∈ gT := gin_6 (List.mem_of_getElem? (i := 201) rfl) rfl
theorem wd_1402 : Cond.methodLink "LifeNoesModel" 335 ⟨"LifeNoesModel", "bestThree", "(III)J"⟩ ∈ gT := gin_6 (List.mem_of_getElem? (i := 202) rfl) rfl
theorem wd_1404 : Cond.instanceMethod ⟨"LifeNoesModel", "bestThree", "(III)J"⟩ ∈ gT := gin_6 (List.mem_of_getElem? (i := 204) rfl) rfl
theorem wd_1405 : Cond.code ⟨"LifeNoesModel", "bestThree", "(III)J"⟩ prog_14_method_67_code 11 (some .long) ∈ gT := gin_6 (List.mem_of_getElem? (i := 205) rfl) rfl
theorem wd_1406 : Cond.methodLink "LifeNoesLaw" 113 ⟨"LifeNoesModel", "should", "(III)I"⟩ ∈ gT := gin_6 (List.mem_of_getElem? (i := 206) rfl) rfl
theorem wd_1407 : Cond.instanceMethod ⟨"LifeNoesModel", "should", "(III)I"⟩ ∈ gT := gin_6 (List.mem_of_getElem? (i := 207) rfl) rfl
theorem wd_1408 : Cond.selects "LifeNoesModel" ⟨"LifeNoesModel", "should", "(III)I"⟩ ⟨"LifeNoesModel", "should", "(III)I"⟩ ∈ gT := gin_6 (List.mem_of_getElem? (i := 208) rfl) rfl
theorem wd_1409 : Cond.code ⟨"LifeNoesModel", "should", "(III)I"⟩ prog_14_method_70_code 11 (some .int) ∈ gT := gin_6 (List.mem_of_getElem? (i := 209) rfl) rfl
theorem wd_1410 : Cond.methodLink "LifeNoesLaw" 117 ⟨"LifeNoesModel", "barOf", "(II)I"⟩ ∈ gT := gin_6 (List.mem_of_getElem? (i := 210) rfl) rfl
theorem wd_1411 : Cond.instanceMethod ⟨"LifeNoesModel", "barOf", "(II)I"⟩ ∈ gT := gin_6 (List.mem_of_getElem? (i := 211) rfl) rfl
theorem wd_1412 : Cond.selects "LifeNoesModel" ⟨"LifeNoesModel", "barOf", "(II)I"⟩ ⟨"LifeNoesModel", "barOf", "(II)I"⟩ ∈ gT := gin_6 (List.mem_of_getElem? (i := 212) rfl) rfl
theorem wd_1413 : Cond.code ⟨"LifeNoesModel", "barOf", "(II)I"⟩ prog_14_method_71_code 11 (some .int) ∈ gT := gin_6 (List.mem_of_getElem? (i := 213) rfl) rfl
theorem wd_1414 : Cond.methodLink "LifeNoesLaw" 121 ⟨"LifeNoesModel", "lets", "(II)I"⟩ ∈ gT := gin_6 (List.mem_of_getElem? (i := 214) rfl) rfl
theorem wd_1415 : Cond.instanceMethod ⟨"LifeNoesModel", "lets", "(II)I"⟩ ∈ gT := gin_6 (List.mem_of_getElem? (i := 215) rfl) rfl
theorem wd_1416 : Cond.selects "LifeNoesModel" ⟨"LifeNoesModel", "lets", "(II)I"⟩ ⟨"LifeNoesModel", "lets", "(II)I"⟩ ∈ gT := gin_6 (List.mem_of_getElem? (i := 216) rfl) rfl
theorem wd_1417 : Cond.code ⟨"LifeNoesModel", "lets", "(II)I"⟩ prog_14_method_73_code 6 (some .int) ∈ gT := gin_6 (List.mem_of_getElem? (i := 217) rfl) rfl
theorem wd_1418 : Cond.methodLink "LifeNoesModel" 341 ⟨"LifeNoesModel", "passes", "(III)Z"⟩ ∈ gT := gin_6 (List.mem_of_getElem? (i := 218) rfl) rfl
theorem wd_1420 : Cond.instanceMethod ⟨"LifeNoesModel", "passes", "(III)Z"⟩ ∈ gT := gin_6 (List.mem_of_getElem? (i := 220) rfl) rfl
theorem wd_1421 : Cond.code ⟨"LifeNoesModel", "passes", "(III)Z"⟩ prog_14_method_72_code 8 (some .boolean) ∈ gT := gin_6 (List.mem_of_getElem? (i := 221) rfl) rfl
theorem wd_1422 : Cond.methodLink "LifeNoesModel" 344 ⟨"LifeNoesModel", "digitsOf", "(II)I"⟩ ∈ gT := gin_6 (List.mem_of_getElem? (i := 222) rfl) rfl
theorem wd_1424 : Cond.instanceMethod ⟨"LifeNoesModel", "digitsOf", "(II)I"⟩ ∈ gT := gin_6 (List.mem_of_getElem? (i := 224) rfl) rfl
theorem wd_1425 : Cond.code ⟨"LifeNoesModel", "digitsOf", "(II)I"⟩ prog_14_method_74_code 6 (some .int) ∈ gT := gin_6 (List.mem_of_getElem? (i := 225) rfl) rfl
theorem wd_1426 : Cond.methodLink "LifeNoesLaw" 125 ⟨"LifeNoesModel", "harm", "(I)I"⟩ ∈ gT := gin_6 (List.mem_of_getElem? (i := 226) rfl) rfl
theorem wd_1427 : Cond.instanceMethod ⟨"LifeNoesModel", "harm", "(I)I"⟩ ∈ gT := gin_6 (List.mem_of_getElem? (i := 227) rfl) rfl
theorem wd_1428 : Cond.selects "LifeNoesModel" ⟨"LifeNoesModel", "harm", "(I)I"⟩ ⟨"LifeNoesModel", "harm", "(I)I"⟩ ∈ gT := gin_6 (List.mem_of_getElem? (i := 228) rfl) rfl
theorem wd_1429 : Cond.code ⟨"LifeNoesModel", "harm", "(I)I"⟩ prog_14_method_75_code 11 (some .int) ∈ gT := gin_6 (List.mem_of_getElem? (i := 229) rfl) rfl
theorem wd_1430 : Cond.methodLink "LifeNoesLaw" 134 ⟨"LifeNoesModel", "prove", "(I)I"⟩ ∈ gT := gin_6 (List.mem_of_getElem? (i := 230) rfl) rfl
theorem wd_1431 : Cond.instanceMethod ⟨"LifeNoesModel", "prove", "(I)I"⟩ ∈ gT := gin_6 (List.mem_of_getElem? (i := 231) rfl) rfl
theorem wd_1432 : Cond.selects "LifeNoesModel" ⟨"LifeNoesModel", "prove", "(I)I"⟩ ⟨"LifeNoesModel", "prove", "(I)I"⟩ ∈ gT := gin_6 (List.mem_of_getElem? (i := 232) rfl) rfl
theorem wd_1433 : Cond.code ⟨"LifeNoesModel", "prove", "(I)I"⟩ prog_14_method_77_code 4 (some .int) ∈ gT := gin_6 (List.mem_of_getElem? (i := 233) rfl) rfl
theorem wd_1434 : Cond.methodLink "LifeNoesModel" 347 ⟨"LifeNoesModel", "findRows", "(II)V"⟩ ∈ gT := gin_6 (List.mem_of_getElem? (i := 234) rfl) rfl
theorem wd_1436 : Cond.instanceMethod ⟨"LifeNoesModel", "findRows", "(II)V"⟩ ∈ gT := gin_6 (List.mem_of_getElem? (i := 236) rfl) rfl
theorem wd_1437 : Cond.code ⟨"LifeNoesModel", "findRows", "(II)V"⟩ prog_14_method_76_code 7 none ∈ gT := gin_6 (List.mem_of_getElem? (i := 237) rfl) rfl
theorem wd_1438 : Cond.methodLink "LifeNoesLaw" 138 ⟨"LifeNoesModel", "row", "(II)I"⟩ ∈ gT := gin_6 (List.mem_of_getElem? (i := 238) rfl) rfl
theorem wd_1439 : Cond.instanceMethod ⟨"LifeNoesModel", "row", "(II)I"⟩ ∈ gT := gin_6 (List.mem_of_getElem? (i := 239) rfl) rfl
theorem wd_1440 : Cond.selects "LifeNoesModel" ⟨"LifeNoesModel", "row", "(II)I"⟩ ⟨"LifeNoesModel", "row", "(II)I"⟩ ∈ gT := gin_7 (List.mem_of_getElem? (i := 0) rfl) rfl
theorem wd_1441 : Cond.code ⟨"LifeNoesModel", "row", "(II)I"⟩ prog_14_method_79_code 3 (some .int) ∈ gT := gin_7 (List.mem_of_getElem? (i := 1) rfl) rfl
theorem wd_1442 : Cond.methodLink "LifeNoesModel" 351 ⟨"LifeNoesModel", "isRow", "(II)Z"⟩ ∈ gT := gin_7 (List.mem_of_getElem? (i := 2) rfl) rfl
theorem wd_1444 : Cond.instanceMethod ⟨"LifeNoesModel", "isRow", "(II)Z"⟩ ∈ gT := gin_7 (List.mem_of_getElem? (i := 4) rfl) rfl
theorem wd_1445 : Cond.code ⟨"LifeNoesModel", "isRow", "(II)Z"⟩ prog_14_method_78_code 3 (some .boolean) ∈ gT := gin_7 (List.mem_of_getElem? (i := 5) rfl) rfl
theorem wd_1446 : Cond.methodLink "LifeNoesLaw" 142 ⟨"LifeNoesModel", "alterRow", "(III)I"⟩ ∈ gT := gin_7 (List.mem_of_getElem? (i := 6) rfl) rfl
theorem wd_1447 : Cond.instanceMethod ⟨"LifeNoesModel", "alterRow", "(III)I"⟩ ∈ gT := gin_7 (List.mem_of_getElem? (i := 7) rfl) rfl
theorem wd_1448 : Cond.selects "LifeNoesModel" ⟨"LifeNoesModel", "alterRow", "(III)I"⟩ ⟨"LifeNoesModel", "alterRow", "(III)I"⟩ ∈ gT := gin_7 (List.mem_of_getElem? (i := 8) rfl) rfl
theorem wd_1449 : Cond.code ⟨"LifeNoesModel", "alterRow", "(III)I"⟩ prog_14_method_80_code 5 (some .int) ∈ gT := gin_7 (List.mem_of_getElem? (i := 9) rfl) rfl
theorem wd_1450 : Cond.methodLink "LifeNoesLaw" 146 ⟨"LifeNoesModel", "judge", "()I"⟩ ∈ gT := gin_7 (List.mem_of_getElem? (i := 10) rfl) rfl
theorem wd_1451 : Cond.instanceMethod ⟨"LifeNoesModel", "judge", "()I"⟩ ∈ gT := gin_7 (List.mem_of_getElem? (i := 11) rfl) rfl
theorem wd_1452 : Cond.selects "LifeNoesModel" ⟨"LifeNoesModel", "judge", "()I"⟩ ⟨"LifeNoesModel", "judge", "()I"⟩ ∈ gT := gin_7 (List.mem_of_getElem? (i := 12) rfl) rfl
theorem wd_1453 : Cond.code ⟨"LifeNoesModel", "judge", "()I"⟩ prog_14_method_81_code 3 (some .int) ∈ gT := gin_7 (List.mem_of_getElem? (i := 13) rfl) rfl
theorem wd_1454 : Cond.methodLink "LifeNoesLaw" 150 ⟨"LifeNoesModel", "worths", "(II)I"⟩ ∈ gT := gin_7 (List.mem_of_getElem? (i := 14) rfl) rfl
theorem wd_1455 : Cond.instanceMethod ⟨"LifeNoesModel", "worths", "(II)I"⟩ ∈ gT := gin_7 (List.mem_of_getElem? (i := 15) rfl) rfl
theorem wd_1456 : Cond.selects "LifeNoesModel" ⟨"LifeNoesModel", "worths", "(II)I"⟩ ⟨"LifeNoesModel", "worths", "(II)I"⟩ ∈ gT := gin_7 (List.mem_of_getElem? (i := 16) rfl) rfl
theorem wd_1457 : Cond.code ⟨"LifeNoesModel", "worths", "(II)I"⟩ prog_14_method_82_code 8 (some .int) ∈ gT := gin_7 (List.mem_of_getElem? (i := 17) rfl) rfl
theorem wd_1458 : Cond.methodLink "LifeNoesModel" 354 ⟨"LifeNoesModel", "isShelf", "(I)Z"⟩ ∈ gT := gin_7 (List.mem_of_getElem? (i := 18) rfl) rfl
theorem wd_1459 : Cond.static ⟨"LifeNoesModel", "isShelf", "(I)Z"⟩ ∈ gT := gin_7 (List.mem_of_getElem? (i := 19) rfl) rfl
theorem wd_1460 : Cond.code ⟨"LifeNoesModel", "isShelf", "(I)Z"⟩ prog_14_method_83_code 1 (some .boolean) ∈ gT := gin_7 (List.mem_of_getElem? (i := 20) rfl) rfl
theorem wd_1461 : Cond.methodLink "LifeNoesModel" 357 ⟨"LifeNoesModel", "lacksSort", "(II)I"⟩ ∈ gT := gin_7 (List.mem_of_getElem? (i := 21) rfl) rfl
theorem wd_1463 : Cond.instanceMethod ⟨"LifeNoesModel", "lacksSort", "(II)I"⟩ ∈ gT := gin_7 (List.mem_of_getElem? (i := 23) rfl) rfl
theorem wd_1464 : Cond.code ⟨"LifeNoesModel", "lacksSort", "(II)I"⟩ prog_14_method_86_code 3 (some .int) ∈ gT := gin_7 (List.mem_of_getElem? (i := 24) rfl) rfl
theorem wd_1465 : Cond.constantLong "LifeNoesModel" 360 (-9) ∈ gT := gin_7 (List.mem_of_getElem? (i := 25) rfl) rfl
theorem wd_1466 : Cond.constantLong "LifeNoesModel" 362 9 ∈ gT := gin_7 (List.mem_of_getElem? (i := 26) rfl) rfl
theorem wd_1467 : Cond.methodLink "LifeNoesLaw" 154 ⟨"LifeNoesModel", "sheet", "(III)I"⟩ ∈ gT := gin_7 (List.mem_of_getElem? (i := 27) rfl) rfl
theorem wd_1468 : Cond.instanceMethod ⟨"LifeNoesModel", "sheet", "(III)I"⟩ ∈ gT := gin_7 (List.mem_of_getElem? (i := 28) rfl) rfl
theorem wd_1469 : Cond.selects "LifeNoesModel" ⟨"LifeNoesModel", "sheet", "(III)I"⟩ ⟨"LifeNoesModel", "sheet", "(III)I"⟩ ∈ gT := gin_7 (List.mem_of_getElem? (i := 29) rfl) rfl
theorem wd_1470 : Cond.code ⟨"LifeNoesModel", "sheet", "(III)I"⟩ prog_14_method_84_code 5 (some .int) ∈ gT := gin_7 (List.mem_of_getElem? (i := 30) rfl) rfl
theorem wd_1471 : Cond.methodLink "LifeNoesLaw" 158 ⟨"LifeNoesModel", "put", "(III)I"⟩ ∈ gT := gin_7 (List.mem_of_getElem? (i := 31) rfl) rfl
theorem wd_1472 : Cond.instanceMethod ⟨"LifeNoesModel", "put", "(III)I"⟩ ∈ gT := gin_7 (List.mem_of_getElem? (i := 32) rfl) rfl
theorem wd_1473 : Cond.selects "LifeNoesModel" ⟨"LifeNoesModel", "put", "(III)I"⟩ ⟨"LifeNoesModel", "put", "(III)I"⟩ ∈ gT := gin_7 (List.mem_of_getElem? (i := 33) rfl) rfl
theorem wd_1474 : Cond.code ⟨"LifeNoesModel", "put", "(III)I"⟩ prog_14_method_85_code 4 (some .int) ∈ gT := gin_7 (List.mem_of_getElem? (i := 34) rfl) rfl
theorem wd_1475 : Cond.methodLink "LifeNoesLaw" 162 ⟨"LifeNoesModel", "item", "(III)I"⟩ ∈ gT := gin_7 (List.mem_of_getElem? (i := 35) rfl) rfl
theorem wd_1476 : Cond.instanceMethod ⟨"LifeNoesModel", "item", "(III)I"⟩ ∈ gT := gin_7 (List.mem_of_getElem? (i := 36) rfl) rfl
theorem wd_1477 : Cond.selects "LifeNoesModel" ⟨"LifeNoesModel", "item", "(III)I"⟩ ⟨"LifeNoesModel", "item", "(III)I"⟩ ∈ gT := gin_7 (List.mem_of_getElem? (i := 37) rfl) rfl
theorem wd_1478 : Cond.code ⟨"LifeNoesModel", "item", "(III)I"⟩ prog_14_method_87_code 5 (some .int) ∈ gT := gin_7 (List.mem_of_getElem? (i := 38) rfl) rfl
theorem wd_1479 : Cond.methodLink "LifeNoesLaw" 166 ⟨"LifeNoesModel", "shelf", "(III)I"⟩ ∈ gT := gin_7 (List.mem_of_getElem? (i := 39) rfl) rfl
theorem wd_1480 : Cond.instanceMethod ⟨"LifeNoesModel", "shelf", "(III)I"⟩ ∈ gT := gin_7 (List.mem_of_getElem? (i := 40) rfl) rfl
theorem wd_1481 : Cond.selects "LifeNoesModel" ⟨"LifeNoesModel", "shelf", "(III)I"⟩ ⟨"LifeNoesModel", "shelf", "(III)I"⟩ ∈ gT := gin_7 (List.mem_of_getElem? (i := 41) rfl) rfl
theorem wd_1482 : Cond.code ⟨"LifeNoesModel", "shelf", "(III)I"⟩ prog_14_method_89_code 4 (some .int) ∈ gT := gin_7 (List.mem_of_getElem? (i := 42) rfl) rfl
theorem wd_1483 : Cond.methodLink "LifeNoesModel" 364 ⟨"LifeNoesModel", "isHeld", "(II)Z"⟩ ∈ gT := gin_7 (List.mem_of_getElem? (i := 43) rfl) rfl
theorem wd_1485 : Cond.instanceMethod ⟨"LifeNoesModel", "isHeld", "(II)Z"⟩ ∈ gT := gin_7 (List.mem_of_getElem? (i := 45) rfl) rfl
theorem wd_1486 : Cond.code ⟨"LifeNoesModel", "isHeld", "(II)Z"⟩ prog_14_method_88_code 3 (some .boolean) ∈ gT := gin_7 (List.mem_of_getElem? (i := 46) rfl) rfl
theorem wd_1487 : Cond.methodLink "LifeNoesLaw" 170 ⟨"LifeNoesModel", "taken", "(II)I"⟩ ∈ gT := gin_7 (List.mem_of_getElem? (i := 47) rfl) rfl
theorem wd_1488 : Cond.instanceMethod ⟨"LifeNoesModel", "taken", "(II)I"⟩ ∈ gT := gin_7 (List.mem_of_getElem? (i := 48) rfl) rfl
theorem wd_1489 : Cond.selects "LifeNoesModel" ⟨"LifeNoesModel", "taken", "(II)I"⟩ ⟨"LifeNoesModel", "taken", "(II)I"⟩ ∈ gT := gin_7 (List.mem_of_getElem? (i := 49) rfl) rfl
theorem wd_1490 : Cond.code ⟨"LifeNoesModel", "taken", "(II)I"⟩ prog_14_method_92_code 4 (some .int) ∈ gT := gin_7 (List.mem_of_getElem? (i := 50) rfl) rfl
theorem wd_1491 : Cond.methodLink "LifeNoesModel" 367 ⟨"LifeNoesModel", "kindOn", "(I)I"⟩ ∈ gT := gin_7 (List.mem_of_getElem? (i := 51) rfl) rfl
theorem wd_1493 : Cond.instanceMethod ⟨"LifeNoesModel", "kindOn", "(I)I"⟩ ∈ gT := gin_7 (List.mem_of_getElem? (i := 53) rfl) rfl
theorem wd_1494 : Cond.code ⟨"LifeNoesModel", "kindOn", "(I)I"⟩ prog_14_method_90_code 2 (some .int) ∈ gT := gin_7 (List.mem_of_getElem? (i := 54) rfl) rfl
theorem wd_1495 : Cond.methodLink "LifeNoesModel" 370 ⟨"LifeNoesModel", "isUnder", "(II)Z"⟩ ∈ gT := gin_7 (List.mem_of_getElem? (i := 55) rfl) rfl
theorem wd_1496 : Cond.static ⟨"LifeNoesModel", "isUnder", "(II)Z"⟩ ∈ gT := gin_7 (List.mem_of_getElem? (i := 56) rfl) rfl
theorem wd_1497 : Cond.code ⟨"LifeNoesModel", "isUnder", "(II)Z"⟩ prog_14_method_91_code 2 (some .boolean) ∈ gT := gin_7 (List.mem_of_getElem? (i := 57) rfl) rfl
theorem wd_1498 : Cond.methodLink "LifeNoesLaw" 174 ⟨"LifeNoesModel", "act", "(III)I"⟩ ∈ gT := gin_7 (List.mem_of_getElem? (i := 58) rfl) rfl
theorem wd_1499 : Cond.instanceMethod ⟨"LifeNoesModel", "act", "(III)I"⟩ ∈ gT := gin_7 (List.mem_of_getElem? (i := 59) rfl) rfl
theorem wd_1500 : Cond.selects "LifeNoesModel" ⟨"LifeNoesModel", "act", "(III)I"⟩ ⟨"LifeNoesModel", "act", "(III)I"⟩ ∈ gT := gin_7 (List.mem_of_getElem? (i := 60) rfl) rfl
theorem wd_1501 : Cond.code ⟨"LifeNoesModel", "act", "(III)I"⟩ prog_14_method_103_code 6 (some .int) ∈ gT := gin_7 (List.mem_of_getElem? (i := 61) rfl) rfl
theorem wd_1502 : Cond.methodLink "LifeNoesModel" 391 ⟨"LifeNoesModel", "barsIt", "(I)I"⟩ ∈ gT := gin_7 (List.mem_of_getElem? (i := 62) rfl) rfl
theorem wd_1504 : Cond.instanceMethod ⟨"LifeNoesModel", "barsIt", "(I)I"⟩ ∈ gT := gin_7 (List.mem_of_getElem? (i := 64) rfl) rfl
theorem wd_1505 : Cond.code ⟨"LifeNoesModel", "barsIt", "(I)I"⟩ prog_14_method_96_code 2 (some .int) ∈ gT := gin_7 (List.mem_of_getElem? (i := 65) rfl) rfl
theorem wd_1506 : Cond.methodLink "LifeNoesModel" 388 ⟨"LifeNoesModel", "barBars", "(I)I"⟩ ∈ gT := gin_7 (List.mem_of_getElem? (i := 66) rfl) rfl
theorem wd_1508 : Cond.instanceMethod ⟨"LifeNoesModel", "barBars", "(I)I"⟩ ∈ gT := gin_7 (List.mem_of_getElem? (i := 68) rfl) rfl
theorem wd_1509 : Cond.code ⟨"LifeNoesModel", "barBars", "(I)I"⟩ prog_14_method_95_code 2 (some .int) ∈ gT := gin_7 (List.mem_of_getElem? (i := 69) rfl) rfl
theorem wd_1510 : Cond.methodLink "LifeNoesModel" 376 ⟨"LifeNoesModel", "ran", "(I)V"⟩ ∈ gT := gin_7 (List.mem_of_getElem? (i := 70) rfl) rfl
theorem wd_1512 : Cond.instanceMethod ⟨"LifeNoesModel", "ran", "(I)V"⟩ ∈ gT := gin_7 (List.mem_of_getElem? (i := 72) rfl) rfl
theorem wd_1513 : Cond.code ⟨"LifeNoesModel", "ran", "(I)V"⟩ prog_14_method_93_code 2 none ∈ gT := gin_7 (List.mem_of_getElem? (i := 73) rfl) rfl
theorem wd_1514 : Cond.methodLink "LifeNoesModel" 382 ⟨"LifeNoesModel", "plainBars", "(I)I"⟩ ∈ gT := gin_7 (List.mem_of_getElem? (i := 74) rfl) rfl
theorem wd_1516 : Cond.instanceMethod ⟨"LifeNoesModel", "plainBars", "(I)I"⟩ ∈ gT := gin_7 (List.mem_of_getElem? (i := 76) rfl) rfl
theorem wd_1517 : Cond.code ⟨"LifeNoesModel", "plainBars", "(I)I"⟩ prog_14_method_94_code 2 (some .int) ∈ gT := gin_7 (List.mem_of_getElem? (i := 77) rfl) rfl
theorem wd_1518 : Cond.methodLink "LifeNoesModel" 406 ⟨"LifeNoesModel", "waitsIt", "(I)I"⟩ ∈ gT := gin_7 (List.mem_of_getElem? (i := 78) rfl) rfl
theorem wd_1520 : Cond.instanceMethod ⟨"LifeNoesModel", "waitsIt", "(I)I"⟩ ∈ gT := gin_7 (List.mem_of_getElem? (i := 80) rfl) rfl
theorem wd_1521 : Cond.code ⟨"LifeNoesModel", "waitsIt", "(I)I"⟩ prog_14_method_98_code 3 (some .int) ∈ gT := gin_7 (List.mem_of_getElem? (i := 81) rfl) rfl
theorem wd_1522 : Cond.methodLink "LifeNoesModel" 394 ⟨"LifeNoesModel", "plainWaits", "(I)I"⟩ ∈ gT := gin_7 (List.mem_of_getElem? (i := 82) rfl) rfl
theorem wd_1524 : Cond.instanceMethod ⟨"LifeNoesModel", "plainWaits", "(I)I"⟩ ∈ gT := gin_7 (List.mem_of_getElem? (i := 84) rfl) rfl
theorem wd_1525 : Cond.code ⟨"LifeNoesModel", "plainWaits", "(I)I"⟩ prog_14_method_97_code 2 (some .int) ∈ gT := gin_7 (List.mem_of_getElem? (i := 85) rfl) rfl
theorem wd_1526 : Cond.methodLink "LifeNoesModel" 412 ⟨"LifeNoesModel", "sharesIt", "(I)I"⟩ ∈ gT := gin_7 (List.mem_of_getElem? (i := 86) rfl) rfl
theorem wd_1528 : Cond.instanceMethod ⟨"LifeNoesModel", "sharesIt", "(I)I"⟩ ∈ gT := gin_7 (List.mem_of_getElem? (i := 88) rfl) rfl
theorem wd_1529 : Cond.code ⟨"LifeNoesModel", "sharesIt", "(I)I"⟩ prog_14_method_100_code 3 (some .int) ∈ gT := gin_7 (List.mem_of_getElem? (i := 89) rfl) rfl
theorem wd_1530 : Cond.methodLink "LifeNoesModel" 403 ⟨"LifeNoesModel", "plainShares", "(I)I"⟩ ∈ gT := gin_7 (List.mem_of_getElem? (i := 90) rfl) rfl
theorem wd_1532 : Cond.instanceMethod ⟨"LifeNoesModel", "plainShares", "(I)I"⟩ ∈ gT := gin_7 (List.mem_of_getElem? (i := 92) rfl) rfl
theorem wd_1533 : Cond.code ⟨"LifeNoesModel", "plainShares", "(I)I"⟩ prog_14_method_99_code 2 (some .int) ∈ gT := gin_7 (List.mem_of_getElem? (i := 93) rfl) rfl
theorem wd_1534 : Cond.methodLink "LifeNoesModel" 415 ⟨"LifeNoesModel", "tellsIt", "(I)I"⟩ ∈ gT := gin_7 (List.mem_of_getElem? (i := 94) rfl) rfl
theorem wd_1536 : Cond.instanceMethod ⟨"LifeNoesModel", "tellsIt", "(I)I"⟩ ∈ gT := gin_7 (List.mem_of_getElem? (i := 96) rfl) rfl
theorem wd_1537 : Cond.code ⟨"LifeNoesModel", "tellsIt", "(I)I"⟩ prog_14_method_102_code 3 (some .int) ∈ gT := gin_7 (List.mem_of_getElem? (i := 97) rfl) rfl
theorem wd_1538 : Cond.methodLink "LifeNoesModel" 409 ⟨"LifeNoesModel", "plainTells", "(I)I"⟩ ∈ gT := gin_7 (List.mem_of_getElem? (i := 98) rfl) rfl
theorem wd_1540 : Cond.instanceMethod ⟨"LifeNoesModel", "plainTells", "(I)I"⟩ ∈ gT := gin_7 (List.mem_of_getElem? (i := 100) rfl) rfl
theorem wd_1541 : Cond.code ⟨"LifeNoesModel", "plainTells", "(I)I"⟩ prog_14_method_101_code 2 (some .int) ∈ gT := gin_7 (List.mem_of_getElem? (i := 101) rfl) rfl
theorem wd_1542 : Cond.methodLink "LifeNoesLaw" 178 ⟨"LifeNoesModel", "trace", "(I)I"⟩ ∈ gT := gin_7 (List.mem_of_getElem? (i := 102) rfl) rfl
theorem wd_1543 : Cond.instanceMethod ⟨"LifeNoesModel", "trace", "(I)I"⟩ ∈ gT := gin_7 (List.mem_of_getElem? (i := 103) rfl) rfl
theorem wd_1544 : Cond.selects "LifeNoesModel" ⟨"LifeNoesModel", "trace", "(I)I"⟩ ⟨"LifeNoesModel", "trace", "(I)I"⟩ ∈ gT := gin_7 (List.mem_of_getElem? (i := 104) rfl) rfl
theorem wd_1545 : Cond.code ⟨"LifeNoesModel", "trace", "(I)I"⟩ prog_14_method_104_code 2 (some .int) ∈ gT := gin_7 (List.mem_of_getElem? (i := 105) rfl) rfl
theorem wd_1546 : Cond.methodLink "LifeNoesLaw" 182 ⟨"LifeNoesModel", "many", "(I)I"⟩ ∈ gT := gin_7 (List.mem_of_getElem? (i := 106) rfl) rfl
theorem wd_1547 : Cond.instanceMethod ⟨"LifeNoesModel", "many", "(I)I"⟩ ∈ gT := gin_7 (List.mem_of_getElem? (i := 107) rfl) rfl
theorem wd_1548 : Cond.selects "LifeNoesModel" ⟨"LifeNoesModel", "many", "(I)I"⟩ ⟨"LifeNoesModel", "many", "(I)I"⟩ ∈ gT := gin_7 (List.mem_of_getElem? (i := 108) rfl) rfl
theorem wd_1549 : Cond.code ⟨"LifeNoesModel", "many", "(I)I"⟩ prog_14_method_105_code 4 (some .int) ∈ gT := gin_7 (List.mem_of_getElem? (i := 109) rfl) rfl
theorem wd_1550 : Cond.methodLink "LifeNoesLaw" 186 ⟨"LifeNoesModel", "keep", "()I"⟩ ∈ gT := gin_7 (List.mem_of_getElem? (i := 110) rfl) rfl
theorem wd_1551 : Cond.instanceMethod ⟨"LifeNoesModel", "keep", "()I"⟩ ∈ gT := gin_7 (List.mem_of_getElem? (i := 111) rfl) rfl
theorem wd_1552 : Cond.selects "LifeNoesModel" ⟨"LifeNoesModel", "keep", "()I"⟩ ⟨"LifeNoesModel", "keep", "()I"⟩ ∈ gT := gin_7 (List.mem_of_getElem? (i := 112) rfl) rfl
theorem wd_1553 : Cond.code ⟨"LifeNoesModel", "keep", "()I"⟩ prog_14_method_108_code 1 (some .int) ∈ gT := gin_7 (List.mem_of_getElem? (i := 113) rfl) rfl
theorem wd_1554 : Cond.methodLink "LifeNoesModel" 425 ⟨"LifeNoesModel", "moveAll", "(Z)V"⟩ ∈ gT := gin_7 (List.mem_of_getElem? (i := 114) rfl) rfl
theorem wd_1556 : Cond.instanceMethod ⟨"LifeNoesModel", "moveAll", "(Z)V"⟩ ∈ gT := gin_7 (List.mem_of_getElem? (i := 116) rfl) rfl
theorem wd_1557 : Cond.code ⟨"LifeNoesModel", "moveAll", "(Z)V"⟩ prog_14_method_107_code 2 none ∈ gT := gin_7 (List.mem_of_getElem? (i := 117) rfl) rfl
theorem wd_1558 : Cond.methodLink "LifeNoesModel" 421 ⟨"LifeNoesModel", "moveRow", "([IIZ)V"⟩ ∈ gT := gin_7 (List.mem_of_getElem? (i := 118) rfl) rfl
theorem wd_1560 : Cond.instanceMethod ⟨"LifeNoesModel", "moveRow", "([IIZ)V"⟩ ∈ gT := gin_7 (List.mem_of_getElem? (i := 120) rfl) rfl
theorem wd_1561 : Cond.code ⟨"LifeNoesModel", "moveRow", "([IIZ)V"⟩ prog_14_method_106_code 5 none ∈ gT := gin_7 (List.mem_of_getElem? (i := 121) rfl) rfl
theorem wd_1562 : Cond.methodLink "LifeNoesLaw" 190 ⟨"LifeNoesModel", "again", "()I"⟩ ∈ gT := gin_7 (List.mem_of_getElem? (i := 122) rfl) rfl
theorem wd_1563 : Cond.instanceMethod ⟨"LifeNoesModel", "again", "()I"⟩ ∈ gT := gin_7 (List.mem_of_getElem? (i := 123) rfl) rfl
theorem wd_1564 : Cond.selects "LifeNoesModel" ⟨"LifeNoesModel", "again", "()I"⟩ ⟨"LifeNoesModel", "again", "()I"⟩ ∈ gT := gin_7 (List.mem_of_getElem? (i := 124) rfl) rfl
theorem wd_1565 : Cond.code ⟨"LifeNoesModel", "again", "()I"⟩ prog_14_method_109_code 1 (some .int) ∈ gT := gin_7 (List.mem_of_getElem? (i := 125) rfl) rfl
theorem wd_1566 : Cond.constantLong "LifeNoesLaw" 13 4294967295 ∈ gT := gin_7 (List.mem_of_getElem? (i := 126) rfl) rfl
theorem wd_1567 : Cond.sameMethod "LifeNoes$Bar" "LifeNoes$Bar" "bars" "(I)I" ∈ gT := gin_7 (List.mem_of_getElem? (i := 127) rfl) rfl
theorem wd_1568 : Cond.selects "LifeNoes$Wait" ⟨"LifeNoes$Wait", "bars", "(I)I"⟩ ⟨"LifeNoes$Wait", "bars", "(I)I"⟩ ∈ gT := gin_7 (List.mem_of_getElem? (i := 128) rfl) rfl
theorem wd_1576 : Cond.fieldLink "java/lang/String" 9 "java/lang/String" "value" "[B" ∈ gT := gin_7 (List.mem_of_getElem? (i := 136) rfl) rfl
theorem wd_1577 : Cond.fieldLink "java/lang/String" 15 "java/lang/String" "coder" "B" ∈ gT := gin_7 (List.mem_of_getElem? (i := 137) rfl) rfl
theorem wd_1578 : Cond.selects "LifeNoes$TextReader" ⟨"LifeNoes$TextReader", "advance", "()V"⟩ ⟨"LifeNoes$TextReader", "advance", "()V"⟩ ∈ gT := gip_1 (List.mem_of_getElem? (i := 0) rfl) rfl
theorem wd_1579 : Cond.selects "LifeNoes$TextReader" ⟨"LifeNoes$TextReader", "takeNumber", "()V"⟩ ⟨"LifeNoes$TextReader", "takeNumber", "()V"⟩ ∈ gT := gip_1 (List.mem_of_getElem? (i := 1) rfl) rfl
theorem wd_1580 : Cond.selects "LifeNoes$TextReader" ⟨"LifeNoes$TextReader", "readStatement", "()Z"⟩ ⟨"LifeNoes$TextReader", "readStatement", "()Z"⟩ ∈ gT := gip_1 (List.mem_of_getElem? (i := 2) rfl) rfl
theorem wd_1581 : Cond.selects "LifeNoes$TextReader" ⟨"LifeNoes$TextReader", "kindNamed", "()I"⟩ ⟨"LifeNoes$TextReader", "kindNamed", "()I"⟩ ∈ gT := gip_1 (List.mem_of_getElem? (i := 3) rfl) rfl
theorem wd_1582 : Cond.selects "LifeNoes$TextReader" ⟨"LifeNoes$TextReader", "isName", "(Ljava/lang/String;)Z"⟩ ⟨"LifeNoes$TextReader", "isName", "(Ljava/lang/String;)Z"⟩ ∈ gT := gip_1 (List.mem_of_getElem? (i := 4) rfl) rfl
theorem wd_1583 : Cond.selects "LifeNoes$TextReader" ⟨"LifeNoes$TextReader", "readPerson", "(I)Z"⟩ ⟨"LifeNoes$TextReader", "readPerson", "(I)Z"⟩ ∈ gT := gip_1 (List.mem_of_getElem? (i := 5) rfl) rfl
theorem wd_1584 : Cond.selects "LifeNoes$TextReader" ⟨"LifeNoes$TextReader", "isNumber", "(II)Z"⟩ ⟨"LifeNoes$TextReader", "isNumber", "(II)Z"⟩ ∈ gT := gip_1 (List.mem_of_getElem? (i := 6) rfl) rfl
theorem wd_1585 : Cond.selects "LifeNoes$TextReader" ⟨"LifeNoes$TextReader", "readEnd", "()Z"⟩ ⟨"LifeNoes$TextReader", "readEnd", "()Z"⟩ ∈ gT := gip_1 (List.mem_of_getElem? (i := 7) rfl) rfl
theorem wd_1586 : Cond.selects "LifeNoes$TextReader" ⟨"LifeNoes$TextReader", "isByte", "(I)Z"⟩ ⟨"LifeNoes$TextReader", "isByte", "(I)Z"⟩ ∈ gT := gip_1 (List.mem_of_getElem? (i := 8) rfl) rfl
theorem wd_1587 : Cond.selects "LifeNoes$TextReader" ⟨"LifeNoes$TextReader", "readProposal", "()Z"⟩ ⟨"LifeNoes$TextReader", "readProposal", "()Z"⟩ ∈ gT := gip_1 (List.mem_of_getElem? (i := 9) rfl) rfl
theorem wd_1588 : Cond.selects "LifeNoes$TextReader" ⟨"LifeNoes$TextReader", "readWorths", "(I)Z"⟩ ⟨"LifeNoes$TextReader", "readWorths", "(I)Z"⟩ ∈ gT := gip_1 (List.mem_of_getElem? (i := 10) rfl) rfl
theorem wd_1589 : Cond.selects "LifeNoes$TextReader" ⟨"LifeNoes$TextReader", "readLaw", "(III)Z"⟩ ⟨"LifeNoes$TextReader", "readLaw", "(III)Z"⟩ ∈ gT := gip_1 (List.mem_of_getElem? (i := 11) rfl) rfl
theorem wd_1590 : Cond.selects "LifeNoes" ⟨"LifeNoes", "isPerson", "(I)Z"⟩ ⟨"LifeNoes", "isPerson", "(I)Z"⟩ ∈ gT := gip_1 (List.mem_of_getElem? (i := 12) rfl) rfl
theorem wd_1591 : Cond.selects "LifeNoes" ⟨"LifeNoes", "isProposal", "(I)Z"⟩ ⟨"LifeNoes", "isProposal", "(I)Z"⟩ ∈ gT := gip_1 (List.mem_of_getElem? (i := 13) rfl) rfl
theorem wd_1592 : Cond.selects "LifeNoes$Village" ⟨"LifeNoes$Village", "whoHasNoes", "(I)I"⟩ ⟨"LifeNoes$Village", "whoHasNoes", "(I)I"⟩ ∈ gT := gip_1 (List.mem_of_getElem? (i := 14) rfl) rfl
theorem wd_1593 : Cond.selects "LifeNoes$Village" ⟨"LifeNoes$Village", "calledOfLeague", "(II)I"⟩ ⟨"LifeNoes$Village", "calledOfLeague", "(II)I"⟩ ∈ gT := gip_1 (List.mem_of_getElem? (i := 15) rfl) rfl
theorem wd_1594 : Cond.selects "LifeNoes$Village" ⟨"LifeNoes$Village", "isInLeague", "(II)Z"⟩ ⟨"LifeNoes$Village", "isInLeague", "(II)Z"⟩ ∈ gT := gip_2 (List.mem_of_getElem? (i := 0) rfl) rfl
theorem wd_1595 : Cond.selects "LifeNoes$Village" ⟨"LifeNoes$Village", "dislikes", "(IIII)Z"⟩ ⟨"LifeNoes$Village", "dislikes", "(IIII)Z"⟩ ∈ gT := gip_2 (List.mem_of_getElem? (i := 1) rfl) rfl
theorem wd_1596 : Cond.selects "LifeNoes$Village" ⟨"LifeNoes$Village", "hasWorseOff", "(III)Z"⟩ ⟨"LifeNoes$Village", "hasWorseOff", "(III)Z"⟩ ∈ gT := gip_2 (List.mem_of_getElem? (i := 2) rfl) rfl
theorem wd_1597 : Cond.selects "LifeNoes$Village" ⟨"LifeNoes$Village", "oldestOf", "(I)I"⟩ ⟨"LifeNoes$Village", "oldestOf", "(I)I"⟩ ∈ gT := gip_2 (List.mem_of_getElem? (i := 3) rfl) rfl
theorem wd_1598 : Cond.selects "LifeNoes$Ahead" ⟨"LifeNoes$Ahead", "sumFrom", "(III)J"⟩ ⟨"LifeNoes$Ahead", "sumFrom", "(III)J"⟩ ∈ gT := gip_2 (List.mem_of_getElem? (i := 4) rfl) rfl
theorem wd_1599 : Cond.selects "LifeNoes$Ahead" ⟨"LifeNoes$Ahead", "gain", "(IZ)J"⟩ ⟨"LifeNoes$Ahead", "gain", "(IZ)J"⟩ ∈ gT := gip_2 (List.mem_of_getElem? (i := 5) rfl) rfl
theorem wd_1600 : Cond.selects "LifeNoes$Ahead" ⟨"LifeNoes$Ahead", "isLikedByAllButOne", "(I)Z"⟩ ⟨"LifeNoes$Ahead", "isLikedByAllButOne", "(I)Z"⟩ ∈ gT := gip_2 (List.mem_of_getElem? (i := 6) rfl) rfl
theorem wd_1601 : Cond.selects "LifeNoes$Ahead" ⟨"LifeNoes$Ahead", "bestSumFrom", "(III)J"⟩ ⟨"LifeNoes$Ahead", "bestSumFrom", "(III)J"⟩ ∈ gT := gip_2 (List.mem_of_getElem? (i := 7) rfl) rfl
theorem wd_1602 : Cond.selects "LifeNoes$Ahead" ⟨"LifeNoes$Ahead", "bestOf", "(IIII)J"⟩ ⟨"LifeNoes$Ahead", "bestOf", "(IIII)J"⟩ ∈ gT := gip_2 (List.mem_of_getElem? (i := 8) rfl) rfl
theorem wd_1603 : Cond.selects "LifeNoes$Ahead" ⟨"LifeNoes$Ahead", "ownBit", "()I"⟩ ⟨"LifeNoes$Ahead", "ownBit", "()I"⟩ ∈ gT := gip_2 (List.mem_of_getElem? (i := 9) rfl) rfl
theorem wd_1604 : Cond.selects "LifeNoes$Ahead" ⟨"LifeNoes$Ahead", "withSayers", "(IIIII)J"⟩ ⟨"LifeNoes$Ahead", "withSayers", "(IIIII)J"⟩ ∈ gT := gip_2 (List.mem_of_getElem? (i := 10) rfl) rfl
theorem wd_1605 : Cond.selects "LifeNoes$Ahead" ⟨"LifeNoes$Ahead", "rowFrom", "(IIII)I"⟩ ⟨"LifeNoes$Ahead", "rowFrom", "(IIII)I"⟩ ∈ gT := gip_2 (List.mem_of_getElem? (i := 11) rfl) rfl
theorem wd_1606 : Cond.selects "LifeNoes" ⟨"LifeNoes", "fillRows", "([[II)V"⟩ ⟨"LifeNoes", "fillRows", "([[II)V"⟩ ∈ gT := gip_2 (List.mem_of_getElem? (i := 12) rfl) rfl
theorem wd_1607 : Cond.selects "LifeNoes" ⟨"LifeNoes", "isInRows", "(II)Z"⟩ ⟨"LifeNoes", "isInRows", "(II)Z"⟩ ∈ gT := gip_2 (List.mem_of_getElem? (i := 13) rfl) rfl
theorem wd_1608 : Cond.selects "LifeNoes" ⟨"LifeNoes", "fillShelf", "(IIII)V"⟩ ⟨"LifeNoes", "fillShelf", "(IIII)V"⟩ ∈ gT := gip_2 (List.mem_of_getElem? (i := 14) rfl) rfl
theorem wd_1609 : Cond.selects "LifeNoes" ⟨"LifeNoes", "thingOn", "(I)LLifeNoes$Sayer;"⟩ ⟨"LifeNoes", "thingOn", "(I)LLifeNoes$Sayer;"⟩ ∈ gT := gip_2 (List.mem_of_getElem? (i := 15) rfl) rfl
theorem wd_1610 : Cond.selects "LifeNoesModel" ⟨"LifeNoesModel", "advance", "()V"⟩ ⟨"LifeNoesModel", "advance", "()V"⟩ ∈ gT := gip_3 (List.mem_of_getElem? (i := 0) rfl) rfl
theorem wd_1611 : Cond.selects "LifeNoesModel" ⟨"LifeNoesModel", "byteAt", "(I)I"⟩ ⟨"LifeNoesModel", "byteAt", "(I)I"⟩ ∈ gT := gip_3 (List.mem_of_getElem? (i := 1) rfl) rfl
theorem wd_1612 : Cond.selects "LifeNoesModel" ⟨"LifeNoesModel", "wantClause", "()V"⟩ ⟨"LifeNoesModel", "wantClause", "()V"⟩ ∈ gT := gip_3 (List.mem_of_getElem? (i := 2) rfl) rfl
theorem wd_1613 : Cond.selects "LifeNoesModel" ⟨"LifeNoesModel", "kindHere", "()I"⟩ ⟨"LifeNoesModel", "kindHere", "()I"⟩ ∈ gT := gip_3 (List.mem_of_getElem? (i := 3) rfl) rfl
theorem wd_1614 : Cond.selects "LifeNoesModel" ⟨"LifeNoesModel", "isWord", "(J)Z"⟩ ⟨"LifeNoesModel", "isWord", "(J)Z"⟩ ∈ gT := gip_3 (List.mem_of_getElem? (i := 4) rfl) rfl
theorem wd_1615 : Cond.selects "LifeNoesModel" ⟨"LifeNoesModel", "wantPerson", "(I)V"⟩ ⟨"LifeNoesModel", "wantPerson", "(I)V"⟩ ∈ gT := gip_3 (List.mem_of_getElem? (i := 5) rfl) rfl
theorem wd_1616 : Cond.selects "LifeNoesModel" ⟨"LifeNoesModel", "wantWord", "(J)V"⟩ ⟨"LifeNoesModel", "wantWord", "(J)V"⟩ ∈ gT := gip_3 (List.mem_of_getElem? (i := 6) rfl) rfl
theorem wd_1617 : Cond.selects "LifeNoesModel" ⟨"LifeNoesModel", "wantNumber", "(II)I"⟩ ⟨"LifeNoesModel", "wantNumber", "(II)I"⟩ ∈ gT := gip_3 (List.mem_of_getElem? (i := 7) rfl) rfl
theorem wd_1618 : Cond.selects "LifeNoesModel" ⟨"LifeNoesModel", "mayNumber", "(JII)I"⟩ ⟨"LifeNoesModel", "mayNumber", "(JII)I"⟩ ∈ gT := gip_3 (List.mem_of_getElem? (i := 8) rfl) rfl
theorem wd_1619 : Cond.selects "LifeNoesModel" ⟨"LifeNoesModel", "wantEnd", "()V"⟩ ⟨"LifeNoesModel", "wantEnd", "()V"⟩ ∈ gT := gip_3 (List.mem_of_getElem? (i := 9) rfl) rfl
theorem wd_1620 : Cond.selects "LifeNoesModel" ⟨"LifeNoesModel", "isMark", "(I)Z"⟩ ⟨"LifeNoesModel", "isMark", "(I)Z"⟩ ∈ gT := gip_3 (List.mem_of_getElem? (i := 10) rfl) rfl
theorem wd_1621 : Cond.selects "LifeNoesModel" ⟨"LifeNoesModel", "wantProposal", "()V"⟩ ⟨"LifeNoesModel", "wantProposal", "()V"⟩ ∈ gT := gip_3 (List.mem_of_getElem? (i := 11) rfl) rfl
theorem wd_1622 : Cond.selects "LifeNoesModel" ⟨"LifeNoesModel", "wantWorths", "()V"⟩ ⟨"LifeNoesModel", "wantWorths", "()V"⟩ ∈ gT := gip_3 (List.mem_of_getElem? (i := 12) rfl) rfl
theorem wd_1623 : Cond.selects "LifeNoesModel" ⟨"LifeNoesModel", "wantLaw", "(I)V"⟩ ⟨"LifeNoesModel", "wantLaw", "(I)V"⟩ ∈ gT := gip_3 (List.mem_of_getElem? (i := 13) rfl) rfl
theorem wd_1624 : Cond.selects "LifeNoesModel" ⟨"LifeNoesModel", "isPerson", "(I)Z"⟩ ⟨"LifeNoesModel", "isPerson", "(I)Z"⟩ ∈ gT := gip_3 (List.mem_of_getElem? (i := 14) rfl) rfl
theorem wd_1625 : Cond.selects "LifeNoesModel" ⟨"LifeNoesModel", "isProposal", "(I)Z"⟩ ⟨"LifeNoesModel", "isProposal", "(I)Z"⟩ ∈ gT := gip_3 (List.mem_of_getElem? (i := 15) rfl) rfl
theorem wd_1626 : Cond.selects "LifeNoesModel" ⟨"LifeNoesModel", "worthTo", "(II)I"⟩ ⟨"LifeNoesModel", "worthTo", "(II)I"⟩ ∈ gT := gip_4 (List.mem_of_getElem? (i := 0) rfl) rfl
theorem wd_1627 : Cond.selects "LifeNoesModel" ⟨"LifeNoesModel", "wouldSet", "(II)I"⟩ ⟨"LifeNoesModel", "wouldSet", "(II)I"⟩ ∈ gT := gip_4 (List.mem_of_getElem? (i := 1) rfl) rfl
theorem wd_1628 : Cond.selects "LifeNoesModel" ⟨"LifeNoesModel", "wouldBy", "(III)Z"⟩ ⟨"LifeNoesModel", "wouldBy", "(III)Z"⟩ ∈ gT := gip_4 (List.mem_of_getElem? (i := 2) rfl) rfl
theorem wd_1629 : Cond.selects "LifeNoesModel" ⟨"LifeNoesModel", "isLow", "(III)Z"⟩ ⟨"LifeNoesModel", "isLow", "(III)Z"⟩ ∈ gT := gip_4 (List.mem_of_getElem? (i := 3) rfl) rfl
theorem wd_1630 : Cond.selects "LifeNoesModel" ⟨"LifeNoesModel", "isCalled", "(II)Z"⟩ ⟨"LifeNoesModel", "isCalled", "(II)Z"⟩ ∈ gT := gip_4 (List.mem_of_getElem? (i := 4) rfl) rfl
theorem wd_1631 : Cond.selects "LifeNoesModel" ⟨"LifeNoesModel", "saySet", "(II)I"⟩ ⟨"LifeNoesModel", "saySet", "(II)I"⟩ ∈ gT := gip_4 (List.mem_of_getElem? (i := 5) rfl) rfl
theorem wd_1632 : Cond.selects "LifeNoesModel" ⟨"LifeNoesModel", "comesNow", "(I)I"⟩ ⟨"LifeNoesModel", "comesNow", "(I)I"⟩ ∈ gT := gip_4 (List.mem_of_getElem? (i := 6) rfl) rfl
theorem wd_1633 : Cond.selects "LifeNoesModel" ⟨"LifeNoesModel", "goes", "(III)Z"⟩ ⟨"LifeNoesModel", "goes", "(III)Z"⟩ ∈ gT := gip_4 (List.mem_of_getElem? (i := 7) rfl) rfl
theorem wd_1634 : Cond.selects "LifeNoesModel" ⟨"LifeNoesModel", "weightsInAll", "()I"⟩ ⟨"LifeNoesModel", "weightsInAll", "()I"⟩ ∈ gT := gip_4 (List.mem_of_getElem? (i := 8) rfl) rfl
theorem wd_1635 : Cond.selects "LifeNoesModel" ⟨"LifeNoesModel", "lotOf", "(II)I"⟩ ⟨"LifeNoesModel", "lotOf", "(II)I"⟩ ∈ gT := gip_4 (List.mem_of_getElem? (i := 9) rfl) rfl
theorem wd_1636 : Cond.selects "LifeNoesModel" ⟨"LifeNoesModel", "valueSide", "(III)J"⟩ ⟨"LifeNoesModel", "valueSide", "(III)J"⟩ ∈ gT := gip_4 (List.mem_of_getElem? (i := 10) rfl) rfl
theorem wd_1637 : Cond.selects "LifeNoesModel" ⟨"LifeNoesModel", "valueOf", "(II)J"⟩ ⟨"LifeNoesModel", "valueOf", "(II)J"⟩ ∈ gT := gip_4 (List.mem_of_getElem? (i := 11) rfl) rfl
theorem wd_1638 : Cond.selects "LifeNoesModel" ⟨"LifeNoesModel", "brings", "(IZI)I"⟩ ⟨"LifeNoesModel", "brings", "(IZI)I"⟩ ∈ gT := gip_4 (List.mem_of_getElem? (i := 12) rfl) rfl
theorem wd_1639 : Cond.selects "LifeNoesModel" ⟨"LifeNoesModel", "spoiledIn", "(I)I"⟩ ⟨"LifeNoesModel", "spoiledIn", "(I)I"⟩ ∈ gT := gip_4 (List.mem_of_getElem? (i := 13) rfl) rfl
theorem wd_1640 : Cond.selects "LifeNoesModel" ⟨"LifeNoesModel", "lowest", "(JJ)V"⟩ ⟨"LifeNoesModel", "lowest", "(JJ)V"⟩ ∈ gT := gip_4 (List.mem_of_getElem? (i := 14) rfl) rfl
theorem wd_1641 : Cond.selects "LifeNoesModel" ⟨"LifeNoesModel", "bestBy", "(IIII)J"⟩ ⟨"LifeNoesModel", "bestBy", "(IIII)J"⟩ ∈ gT := gip_4 (List.mem_of_getElem? (i := 15) rfl) rfl
theorem wd_1642 : Cond.selects "LifeNoesModel" ⟨"LifeNoesModel", "bestOne", "(II)J"⟩ ⟨"LifeNoesModel", "bestOne", "(II)J"⟩ ∈ gT := gip_5 (List.mem_of_getElem? (i := 0) rfl) rfl
theorem wd_1643 : Cond.selects "LifeNoesModel" ⟨"LifeNoesModel", "hasNow", "(IIII)J"⟩ ⟨"LifeNoesModel", "hasNow", "(IIII)J"⟩ ∈ gT := gip_5 (List.mem_of_getElem? (i := 1) rfl) rfl
theorem wd_1644 : Cond.selects "LifeNoesModel" ⟨"LifeNoesModel", "bestTwo", "(III)J"⟩ ⟨"LifeNoesModel", "bestTwo", "(III)J"⟩ ∈ gT := gip_5 (List.mem_of_getElem? (i := 2) rfl) rfl
theorem wd_1645 : Cond.selects "LifeNoesModel" ⟨"LifeNoesModel", "bestThree", "(III)J"⟩ ⟨"LifeNoesModel", "bestThree", "(III)J"⟩ ∈ gT := gip_5 (List.mem_of_getElem? (i := 3) rfl) rfl
theorem wd_1646 : Cond.selects "LifeNoesModel" ⟨"LifeNoesModel", "passes", "(III)Z"⟩ ⟨"LifeNoesModel", "passes", "(III)Z"⟩ ∈ gT := gip_5 (List.mem_of_getElem? (i := 4) rfl) rfl
theorem wd_1647 : Cond.selects "LifeNoesModel" ⟨"LifeNoesModel", "digitsOf", "(II)I"⟩ ⟨"LifeNoesModel", "digitsOf", "(II)I"⟩ ∈ gT := gip_5 (List.mem_of_getElem? (i := 5) rfl) rfl
theorem wd_1648 : Cond.selects "LifeNoesModel" ⟨"LifeNoesModel", "findRows", "(II)V"⟩ ⟨"LifeNoesModel", "findRows", "(II)V"⟩ ∈ gT := gip_5 (List.mem_of_getElem? (i := 6) rfl) rfl
theorem wd_1649 : Cond.selects "LifeNoesModel" ⟨"LifeNoesModel", "isRow", "(II)Z"⟩ ⟨"LifeNoesModel", "isRow", "(II)Z"⟩ ∈ gT := gip_5 (List.mem_of_getElem? (i := 7) rfl) rfl
theorem wd_1650 : Cond.selects "LifeNoesModel" ⟨"LifeNoesModel", "lacksSort", "(II)I"⟩ ⟨"LifeNoesModel", "lacksSort", "(II)I"⟩ ∈ gT := gip_5 (List.mem_of_getElem? (i := 8) rfl) rfl
theorem wd_1651 : Cond.selects "LifeNoesModel" ⟨"LifeNoesModel", "isHeld", "(II)Z"⟩ ⟨"LifeNoesModel", "isHeld", "(II)Z"⟩ ∈ gT := gip_5 (List.mem_of_getElem? (i := 9) rfl) rfl
theorem wd_1652 : Cond.selects "LifeNoesModel" ⟨"LifeNoesModel", "kindOn", "(I)I"⟩ ⟨"LifeNoesModel", "kindOn", "(I)I"⟩ ∈ gT := gip_5 (List.mem_of_getElem? (i := 10) rfl) rfl
theorem wd_1653 : Cond.selects "LifeNoesModel" ⟨"LifeNoesModel", "barsIt", "(I)I"⟩ ⟨"LifeNoesModel", "barsIt", "(I)I"⟩ ∈ gT := gip_5 (List.mem_of_getElem? (i := 11) rfl) rfl
theorem wd_1654 : Cond.selects "LifeNoesModel" ⟨"LifeNoesModel", "barBars", "(I)I"⟩ ⟨"LifeNoesModel", "barBars", "(I)I"⟩ ∈ gT := gip_5 (List.mem_of_getElem? (i := 12) rfl) rfl
theorem wd_1655 : Cond.selects "LifeNoesModel" ⟨"LifeNoesModel", "ran", "(I)V"⟩ ⟨"LifeNoesModel", "ran", "(I)V"⟩ ∈ gT := gip_5 (List.mem_of_getElem? (i := 13) rfl) rfl
theorem wd_1656 : Cond.selects "LifeNoesModel" ⟨"LifeNoesModel", "plainBars", "(I)I"⟩ ⟨"LifeNoesModel", "plainBars", "(I)I"⟩ ∈ gT := gip_5 (List.mem_of_getElem? (i := 14) rfl) rfl
theorem wd_1657 : Cond.selects "LifeNoesModel" ⟨"LifeNoesModel", "waitsIt", "(I)I"⟩ ⟨"LifeNoesModel", "waitsIt", "(I)I"⟩ ∈ gT := gip_5 (List.mem_of_getElem? (i := 15) rfl) rfl
theorem wd_1658 : Cond.selects "LifeNoesModel" ⟨"LifeNoesModel", "plainWaits", "(I)I"⟩ ⟨"LifeNoesModel", "plainWaits", "(I)I"⟩ ∈ gT := gip_6 (List.mem_of_getElem? (i := 0) rfl) rfl
theorem wd_1659 : Cond.selects "LifeNoesModel" ⟨"LifeNoesModel", "sharesIt", "(I)I"⟩ ⟨"LifeNoesModel", "sharesIt", "(I)I"⟩ ∈ gT := gip_6 (List.mem_of_getElem? (i := 1) rfl) rfl
theorem wd_1660 : Cond.selects "LifeNoesModel" ⟨"LifeNoesModel", "plainShares", "(I)I"⟩ ⟨"LifeNoesModel", "plainShares", "(I)I"⟩ ∈ gT := gip_6 (List.mem_of_getElem? (i := 2) rfl) rfl
theorem wd_1661 : Cond.selects "LifeNoesModel" ⟨"LifeNoesModel", "tellsIt", "(I)I"⟩ ⟨"LifeNoesModel", "tellsIt", "(I)I"⟩ ∈ gT := gip_6 (List.mem_of_getElem? (i := 3) rfl) rfl
theorem wd_1662 : Cond.selects "LifeNoesModel" ⟨"LifeNoesModel", "plainTells", "(I)I"⟩ ⟨"LifeNoesModel", "plainTells", "(I)I"⟩ ∈ gT := gip_6 (List.mem_of_getElem? (i := 4) rfl) rfl
theorem wd_1663 : Cond.selects "LifeNoesModel" ⟨"LifeNoesModel", "moveAll", "(Z)V"⟩ ⟨"LifeNoesModel", "moveAll", "(Z)V"⟩ ∈ gT := gip_6 (List.mem_of_getElem? (i := 5) rfl) rfl
theorem wd_1664 : Cond.selects "LifeNoesModel" ⟨"LifeNoesModel", "moveRow", "([IIZ)V"⟩ ⟨"LifeNoesModel", "moveRow", "([IIZ)V"⟩ ∈ gT := gip_6 (List.mem_of_getElem? (i := 6) rfl) rfl
