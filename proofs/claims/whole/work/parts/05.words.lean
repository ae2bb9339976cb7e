def zW : List Cond := lw_tbl.filter goodWord
theorem zW_good : ∀ w ∈ zW, goodWord w = true := fun _ h => (List.mem_filter.mp h).2
def zY (y : MethodName) (bytes : ByteArray) (mL : Nat) (rt : Option FieldType) (n : Nat) : Prop := Cond.code y bytes mL rt ∈ zW ∧ Cond.initialized y.cls ∈ zW ∧ (y.cls ≠ "java/lang/invoke/MethodHandle" ∧ y.cls ≠ "java/lang/invoke/VarHandle" ∧ (parseMethodDescriptor y.desc).map (fun d => d.parameters.length) = some n)
def zYV (y : MethodName) (C : String) : Prop := Cond.instanceMethod y ∈ zW ∧ Cond.selects C y y ∈ zW
theorem zW_s {w : Cond} (h : w ∈ k2_sels lw_privs) (g : goodWord w = true) : w ∈ zW := List.mem_filter.mpr ⟨List.mem_append_left _ h, g⟩
theorem zW_1 {w : Cond} (h : w ∈ tables_1_1) (g : goodWord w = true) : w ∈ zW := List.mem_filter.mpr ⟨List.mem_append_right _ (List.mem_append_left _ h), g⟩
theorem zW_2 {w : Cond} (h : w ∈ tables_1_2) (g : goodWord w = true) : w ∈ zW := List.mem_filter.mpr ⟨List.mem_append_right _ (List.mem_append_right _ (List.mem_append_left _ h)), g⟩
theorem zW_3 {w : Cond} (h : w ∈ tables_1_3) (g : goodWord w = true) : w ∈ zW := List.mem_filter.mpr ⟨List.mem_append_right _ (List.mem_append_right _ (List.mem_append_right _ (List.mem_append_left _ h))), g⟩
theorem zW_4 {w : Cond} (h : w ∈ tables_1_4) (g : goodWord w = true) : w ∈ zW := List.mem_filter.mpr ⟨List.mem_append_right _ (List.mem_append_right _ (List.mem_append_right _ (List.mem_append_right _ (List.mem_append_left _ h)))), g⟩
theorem zW_5 {w : Cond} (h : w ∈ tables_1_5) (g : goodWord w = true) : w ∈ zW := List.mem_filter.mpr ⟨List.mem_append_right _ (List.mem_append_right _ (List.mem_append_right _ (List.mem_append_right _ (List.mem_append_right _ (List.mem_append_left _ h))))), g⟩
theorem zW_6 {w : Cond} (h : w ∈ tables_1_6) (g : goodWord w = true) : w ∈ zW := List.mem_filter.mpr ⟨List.mem_append_right _ (List.mem_append_right _ (List.mem_append_right _ (List.mem_append_right _ (List.mem_append_right _ (List.mem_append_right _ (h)))))), g⟩
theorem zP_1 {q : MethodName × Nat} (h : q ∈ lw_privs_1) : Cond.selects q.1.cls q.1 q.1 ∈ zW := zW_s (List.mem_map.mpr ⟨q, List.mem_append_left _ h, rfl⟩) rfl
theorem zP_2 {q : MethodName × Nat} (h : q ∈ lw_privs_2) : Cond.selects q.1.cls q.1 q.1 ∈ zW := zW_s (List.mem_map.mpr ⟨q, List.mem_append_right _ (List.mem_append_left _ h), rfl⟩) rfl
theorem zP_3 {q : MethodName × Nat} (h : q ∈ lw_privs_3) : Cond.selects q.1.cls q.1 q.1 ∈ zW := zW_s (List.mem_map.mpr ⟨q, List.mem_append_right _ (List.mem_append_right _ (List.mem_append_left _ h)), rfl⟩) rfl
theorem zP_4 {q : MethodName × Nat} (h : q ∈ lw_privs_4) : Cond.selects q.1.cls q.1 q.1 ∈ zW := zW_s (List.mem_map.mpr ⟨q, List.mem_append_right _ (List.mem_append_right _ (List.mem_append_right _ (List.mem_append_left _ h))), rfl⟩) rfl
theorem zP_5 {q : MethodName × Nat} (h : q ∈ lw_privs_5) : Cond.selects q.1.cls q.1 q.1 ∈ zW := zW_s (List.mem_map.mpr ⟨q, List.mem_append_right _ (List.mem_append_right _ (List.mem_append_right _ (List.mem_append_right _ (List.mem_append_left _ h)))), rfl⟩) rfl
theorem zP_6 {q : MethodName × Nat} (h : q ∈ lw_privs_6) : Cond.selects q.1.cls q.1 q.1 ∈ zW := zW_s (List.mem_map.mpr ⟨q, List.mem_append_right _ (List.mem_append_right _ (List.mem_append_right _ (List.mem_append_right _ (List.mem_append_right _ (h))))), rfl⟩) rfl
theorem kl_L_8 : Cond.classLink RL 8 RX6 ∈ zW := zW_1 (List.mem_of_getElem? (i := 21) rfl) rfl
theorem ki_X6 : Cond.instantiable RX6 9 ∈ zW := zW_1 (List.mem_of_getElem? (i := 22) rfl) rfl
theorem ml_L_22 : Cond.methodLink RL 22 yX6_init ∈ zW := zW_1 (List.mem_of_getElem? (i := 23) rfl) rfl
theorem kl_X6_9 : Cond.classLink RX6 9 RX5 ∈ zW := zW_1 (List.mem_of_getElem? (i := 29) rfl) rfl
theorem ki_X5 : Cond.instantiable RX5 5 ∈ zW := zW_1 (List.mem_of_getElem? (i := 30) rfl) rfl
theorem fl_X5_9 : Cond.fieldLink RX5 9 "SubjectNet$Text" "words" "[I" ∈ zW := zW_1 (List.mem_of_getElem? (i := 35) rfl) rfl
theorem fl_X6_139 : Cond.fieldLink RX6 139 "SubjectNet$Text" "words" "[I" ∈ zW := zW_1 (List.mem_of_getElem? (i := 36) rfl) rfl
theorem fl_X6_136 : Cond.fieldLink RX6 136 "SubjectNet$Text" "wordCount" "I" ∈ zW := zW_1 (List.mem_of_getElem? (i := 37) rfl) rfl
theorem fl_X5_66 : Cond.fieldLink RX5 66 "SubjectNet$Text" "wordCount" "I" ∈ zW := zW_1 (List.mem_of_getElem? (i := 38) rfl) rfl
theorem fl_X5_18 : Cond.fieldLink RX5 18 "SubjectNet$Text" "size" "I" ∈ zW := zW_1 (List.mem_of_getElem? (i := 39) rfl) rfl
theorem fl_X6_62 : Cond.fieldLink RX6 62 "SubjectNet$Text" "size" "I" ∈ zW := zW_1 (List.mem_of_getElem? (i := 40) rfl) rfl
theorem fl_X5_15 : Cond.fieldLink RX5 15 "SubjectNet$Text" "signs" "[I" ∈ zW := zW_1 (List.mem_of_getElem? (i := 41) rfl) rfl
theorem fl_X5_22 : Cond.fieldLink RX5 22 "SubjectNet$Text" "next" "I" ∈ zW := zW_1 (List.mem_of_getElem? (i := 42) rfl) rfl
theorem ka_int : Cond.arrayClass .int ∈ zW := zW_1 (List.mem_of_getElem? (i := 54) rfl) rfl
theorem kl_X6_16 : Cond.classLink RX6 16 RX0 ∈ zW := zW_1 (List.mem_of_getElem? (i := 55) rfl) rfl
theorem ki_X0 : Cond.instantiable RX0 2 ∈ zW := zW_1 (List.mem_of_getElem? (i := 56) rfl) rfl
theorem kl_X0_9 : Cond.classLink RX0 9 RX1 ∈ zW := zW_1 (List.mem_of_getElem? (i := 61) rfl) rfl
theorem ki_X1 : Cond.instantiable RX1 7 ∈ zW := zW_1 (List.mem_of_getElem? (i := 62) rfl) rfl
theorem fl_X1_9 : Cond.fieldLink RX1 9 "SubjectNet$Guide" "longest" "[I" ∈ zW := zW_1 (List.mem_of_getElem? (i := 67) rfl) rfl
theorem fl_X6_213 : Cond.fieldLink RX6 213 "SubjectNet$Guide" "longest" "[I" ∈ zW := zW_1 (List.mem_of_getElem? (i := 68) rfl) rfl
theorem fl_X1_15 : Cond.fieldLink RX1 15 "SubjectNet$Guide" "many" "[J" ∈ zW := zW_1 (List.mem_of_getElem? (i := 69) rfl) rfl
theorem fl_X6_209 : Cond.fieldLink RX6 209 "SubjectNet$Guide" "many" "[J" ∈ zW := zW_1 (List.mem_of_getElem? (i := 70) rfl) rfl
theorem fl_X1_19 : Cond.fieldLink RX1 19 "SubjectNet$Guide" "layers" "[I" ∈ zW := zW_1 (List.mem_of_getElem? (i := 71) rfl) rfl
theorem fl_X1_31 : Cond.fieldLink RX1 31 "SubjectNet$Guide" "length" "I" ∈ zW := zW_1 (List.mem_of_getElem? (i := 72) rfl) rfl
theorem fl_X1_22 : Cond.fieldLink RX1 22 "SubjectNet$Guide" "aheadOf" "[I" ∈ zW := zW_1 (List.mem_of_getElem? (i := 73) rfl) rfl
theorem fl_X1_25 : Cond.fieldLink RX1 25 "SubjectNet$Guide" "cameFrom" "[I" ∈ zW := zW_1 (List.mem_of_getElem? (i := 74) rfl) rfl
theorem fl_X1_28 : Cond.fieldLink RX1 28 "SubjectNet$Guide" "queue" "[I" ∈ zW := zW_1 (List.mem_of_getElem? (i := 75) rfl) rfl
theorem ka_long : Cond.arrayClass .long ∈ zW := zW_1 (List.mem_of_getElem? (i := 91) rfl) rfl
theorem kl_X0_18 : Cond.classLink RX0 18 RX4 ∈ zW := zW_1 (List.mem_of_getElem? (i := 92) rfl) rfl
theorem ki_X4 : Cond.instantiable RX4 2 ∈ zW := zW_1 (List.mem_of_getElem? (i := 93) rfl) rfl
theorem fl_X4_9 : Cond.fieldLink RX4 9 "SubjectNet$Row" "numbers" "[J" ∈ zW := zW_1 (List.mem_of_getElem? (i := 98) rfl) rfl
theorem fl_X6_302 : Cond.fieldLink RX6 302 "SubjectNet$Row" "numbers" "[J" ∈ zW := zW_1 (List.mem_of_getElem? (i := 99) rfl) rfl
theorem fl_X4_15 : Cond.fieldLink RX4 15 "SubjectNet$Row" "size" "I" ∈ zW := zW_1 (List.mem_of_getElem? (i := 100) rfl) rfl
theorem fl_X6_120 : Cond.fieldLink RX6 120 "SubjectNet$Row" "size" "I" ∈ zW := zW_1 (List.mem_of_getElem? (i := 101) rfl) rfl
theorem fl_X0_12 : Cond.fieldLink RX0 12 "SubjectNet$Acts" "guide" "LSubjectNet$Guide;" ∈ zW := zW_1 (List.mem_of_getElem? (i := 107) rfl) rfl
theorem fl_X6_28 : Cond.fieldLink RX6 28 "SubjectNet$Acts" "guide" "LSubjectNet$Guide;" ∈ zW := zW_1 (List.mem_of_getElem? (i := 108) rfl) rfl
theorem fl_X0_21 : Cond.fieldLink RX0 21 "SubjectNet$Acts" "told" "LSubjectNet$Row;" ∈ zW := zW_1 (List.mem_of_getElem? (i := 109) rfl) rfl
theorem fl_X6_23 : Cond.fieldLink RX6 23 "SubjectNet$Acts" "told" "LSubjectNet$Row;" ∈ zW := zW_1 (List.mem_of_getElem? (i := 110) rfl) rfl
theorem kl_X6_33 : Cond.classLink RX6 33 RX3 ∈ zW := zW_1 (List.mem_of_getElem? (i := 116) rfl) rfl
theorem ki_X3 : Cond.instantiable RX3 3 ∈ zW := zW_1 (List.mem_of_getElem? (i := 117) rfl) rfl
theorem ml_X6_35 : Cond.methodLink RX6 35 yX3_init ∈ zW := zW_1 (List.mem_of_getElem? (i := 118) rfl) rfl
theorem kl_X3_9 : Cond.classLink RX3 9 RX2 ∈ zW := zW_1 (List.mem_of_getElem? (i := 122) rfl) rfl
theorem ki_X2 : Cond.instantiable RX2 9 ∈ zW := zW_1 (List.mem_of_getElem? (i := 124) rfl) rfl
theorem fl_X2_9 : Cond.fieldLink RX2 9 "SubjectNet$Net" "narrower" "[I" ∈ zW := zW_1 (List.mem_of_getElem? (i := 129) rfl) rfl
theorem fl_X0_31 : Cond.fieldLink RX0 31 "SubjectNet$Net" "narrower" "[I" ∈ zW := zW_1 (List.mem_of_getElem? (i := 130) rfl) rfl
theorem fl_X1_39 : Cond.fieldLink RX1 39 "SubjectNet$Net" "narrower" "[I" ∈ zW := zW_1 (List.mem_of_getElem? (i := 131) rfl) rfl
theorem fl_X6_179 : Cond.fieldLink RX6 179 "SubjectNet$Net" "narrower" "[I" ∈ zW := zW_1 (List.mem_of_getElem? (i := 132) rfl) rfl
theorem fl_X2_15 : Cond.fieldLink RX2 15 "SubjectNet$Net" "order" "[I" ∈ zW := zW_1 (List.mem_of_getElem? (i := 133) rfl) rfl
theorem fl_X1_60 : Cond.fieldLink RX1 60 "SubjectNet$Net" "order" "[I" ∈ zW := zW_1 (List.mem_of_getElem? (i := 134) rfl) rfl
theorem fl_X6_164 : Cond.fieldLink RX6 164 "SubjectNet$Net" "order" "[I" ∈ zW := zW_1 (List.mem_of_getElem? (i := 135) rfl) rfl
theorem fl_X2_18 : Cond.fieldLink RX2 18 "SubjectNet$Net" "items" "[J" ∈ zW := zW_1 (List.mem_of_getElem? (i := 136) rfl) rfl
theorem fl_X0_65 : Cond.fieldLink RX0 65 "SubjectNet$Net" "items" "[J" ∈ zW := zW_1 (List.mem_of_getElem? (i := 137) rfl) rfl
theorem fl_X6_265 : Cond.fieldLink RX6 265 "SubjectNet$Net" "items" "[J" ∈ zW := zW_1 (List.mem_of_getElem? (i := 138) rfl) rfl
theorem fl_X2_22 : Cond.fieldLink RX2 22 "SubjectNet$Net" "names" "[I" ∈ zW := zW_1 (List.mem_of_getElem? (i := 139) rfl) rfl
theorem fl_X6_113 : Cond.fieldLink RX6 113 "SubjectNet$Net" "names" "[I" ∈ zW := zW_1 (List.mem_of_getElem? (i := 140) rfl) rfl
theorem fl_X2_25 : Cond.fieldLink RX2 25 "SubjectNet$Net" "owners" "[I" ∈ zW := zW_1 (List.mem_of_getElem? (i := 141) rfl) rfl
theorem fl_X6_109 : Cond.fieldLink RX6 109 "SubjectNet$Net" "owners" "[I" ∈ zW := zW_1 (List.mem_of_getElem? (i := 142) rfl) rfl
theorem fl_X2_28 : Cond.fieldLink RX2 28 "SubjectNet$Net" "moving" "[I" ∈ zW := zW_1 (List.mem_of_getElem? (i := 143) rfl) rfl
theorem fl_X2_37 : Cond.fieldLink RX2 37 "SubjectNet$Net" "all" "I" ∈ zW := zW_1 (List.mem_of_getElem? (i := 144) rfl) rfl
theorem fl_X6_246 : Cond.fieldLink RX6 246 "SubjectNet$Net" "all" "I" ∈ zW := zW_1 (List.mem_of_getElem? (i := 145) rfl) rfl
theorem fl_X2_41 : Cond.fieldLink RX2 41 "SubjectNet$Net" "size" "I" ∈ zW := zW_1 (List.mem_of_getElem? (i := 146) rfl) rfl
theorem fl_X6_80 : Cond.fieldLink RX6 80 "SubjectNet$Net" "size" "I" ∈ zW := zW_1 (List.mem_of_getElem? (i := 147) rfl) rfl
theorem fl_X1_57 : Cond.fieldLink RX1 57 "SubjectNet$Net" "size" "I" ∈ zW := zW_1 (List.mem_of_getElem? (i := 148) rfl) rfl
theorem fl_X0_89 : Cond.fieldLink RX0 89 "SubjectNet$Net" "size" "I" ∈ zW := zW_1 (List.mem_of_getElem? (i := 149) rfl) rfl
theorem fl_X2_44 : Cond.fieldLink RX2 44 "SubjectNet$Net" "nameCount" "I" ∈ zW := zW_1 (List.mem_of_getElem? (i := 150) rfl) rfl
theorem fl_X6_81 : Cond.fieldLink RX6 81 "SubjectNet$Net" "nameCount" "I" ∈ zW := zW_1 (List.mem_of_getElem? (i := 151) rfl) rfl
theorem fl_X3_11 : Cond.fieldLink RX3 11 "SubjectNet$Past" "nets" "[LSubjectNet$Net;" ∈ zW := zW_1 (List.mem_of_getElem? (i := 171) rfl) rfl
theorem fl_X3_18 : Cond.fieldLink RX3 18 "SubjectNet$Past" "spare" "LSubjectNet$Net;" ∈ zW := zW_1 (List.mem_of_getElem? (i := 172) rfl) rfl
theorem fl_X3_26 : Cond.fieldLink RX3 26 "SubjectNet$Past" "size" "I" ∈ zW := zW_1 (List.mem_of_getElem? (i := 173) rfl) rfl
theorem fl_X6_285 : Cond.fieldLink RX6 285 "SubjectNet$Past" "size" "I" ∈ zW := zW_1 (List.mem_of_getElem? (i := 174) rfl) rfl
theorem kl_X6_40 : Cond.classLink RX6 40 RX2 ∈ zW := zW_1 (List.mem_of_getElem? (i := 182) rfl) rfl
theorem fl_X6_27 : Cond.fieldLink RX6 27 "SubjectNet" "told" "LSubjectNet$Row;" ∈ zW := zW_1 (List.mem_of_getElem? (i := 184) rfl) rfl
theorem fl_X6_12 : Cond.fieldLink RX6 12 "SubjectNet" "text" "LSubjectNet$Text;" ∈ zW := zW_1 (List.mem_of_getElem? (i := 185) rfl) rfl
theorem fl_X6_32 : Cond.fieldLink RX6 32 "SubjectNet" "guide" "LSubjectNet$Guide;" ∈ zW := zW_1 (List.mem_of_getElem? (i := 186) rfl) rfl
theorem fl_X6_19 : Cond.fieldLink RX6 19 "SubjectNet" "acts" "LSubjectNet$Acts;" ∈ zW := zW_1 (List.mem_of_getElem? (i := 187) rfl) rfl
theorem fl_X6_36 : Cond.fieldLink RX6 36 "SubjectNet" "past" "LSubjectNet$Past;" ∈ zW := zW_1 (List.mem_of_getElem? (i := 188) rfl) rfl
theorem fl_X6_43 : Cond.fieldLink RX6 43 "SubjectNet" "trial" "LSubjectNet$Net;" ∈ zW := zW_1 (List.mem_of_getElem? (i := 189) rfl) rfl
theorem fl_X6_47 : Cond.fieldLink RX6 47 "SubjectNet" "kept" "[LSubjectNet$Net;" ∈ zW := zW_1 (List.mem_of_getElem? (i := 190) rfl) rfl
theorem fl_X6_51 : Cond.fieldLink RX6 51 "SubjectNet" "filled" "[Z" ∈ zW := zW_1 (List.mem_of_getElem? (i := 191) rfl) rfl
theorem fl_X6_55 : Cond.fieldLink RX6 55 "SubjectNet" "now" "LSubjectNet$Net;" ∈ zW := zW_1 (List.mem_of_getElem? (i := 192) rfl) rfl
theorem ka_boolean : Cond.arrayClass .boolean ∈ zW := zW_1 (List.mem_of_getElem? (i := 212) rfl) rfl
theorem ml_L_26 : Cond.methodLink RL 26 yX6_sign ∈ zW := zW_1 (List.mem_of_getElem? (i := 213) rfl) rfl
theorem ml_X6_58 : Cond.methodLink RX6 58 yX5_addFour ∈ zW := zW_1 (List.mem_of_getElem? (i := 217) rfl) rfl
theorem ml_L_30 : Cond.methodLink RL 30 yX6_end ∈ zW := zW_1 (List.mem_of_getElem? (i := 221) rfl) rfl
theorem ml_X6_66 : Cond.methodLink RX6 66 yX5_cut ∈ zW := zW_1 (List.mem_of_getElem? (i := 225) rfl) rfl
theorem ml_L_35 : Cond.methodLink RL 35 yX6_term ∈ zW := zW_1 (List.mem_of_getElem? (i := 229) rfl) rfl
theorem ml_X6_69 : Cond.methodLink RX6 69 yX5_readOneName ∈ zW := zW_1 (List.mem_of_getElem? (i := 233) rfl) rfl
theorem ml_X5_25 : Cond.methodLink RX5 25 yX5_start ∈ zW := zW_1 (List.mem_of_getElem? (i := 237) rfl) rfl
theorem ml_X5_28 : Cond.methodLink RX5 28 yX5_readName ∈ zW := zW_2 (List.mem_of_getElem? (i := 1) rfl) rfl
theorem ml_X5_62 : Cond.methodLink RX5 62 yX5_isLetter ∈ zW := zW_2 (List.mem_of_getElem? (i := 5) rfl) rfl
theorem ml_X5_32 : Cond.methodLink RX5 32 yX5_clear ∈ zW := zW_2 (List.mem_of_getElem? (i := 9) rfl) rfl
theorem ml_X6_73 : Cond.methodLink RX6 73 yX5_wrongSign ∈ zW := zW_2 (List.mem_of_getElem? (i := 13) rfl) rfl
theorem ml_X6_76 : Cond.methodLink RX6 76 yX2_ownerOf ∈ zW := zW_2 (List.mem_of_getElem? (i := 17) rfl) rfl
theorem ml_X6_84 : Cond.methodLink RX6 84 yX3_remember ∈ zW := zW_2 (List.mem_of_getElem? (i := 21) rfl) rfl
theorem ml_X3_22 : Cond.methodLink RX3 22 yX2_copyFrom ∈ zW := zW_2 (List.mem_of_getElem? (i := 25) rfl) rfl
theorem kn_arraycopy : Cond.native arraycopyName ∈ zW := zW_2 (List.mem_of_getElem? (i := 31) rfl) rfl
theorem ml_X6_88 : Cond.methodLink RX6 88 yX2_newTerm ∈ zW := zW_2 (List.mem_of_getElem? (i := 32) rfl) rfl
theorem ml_X2_55 : Cond.methodLink RX2 55 yX2_addName ∈ zW := zW_2 (List.mem_of_getElem? (i := 39) rfl) rfl
theorem ml_X6_91 : Cond.methodLink RX6 91 yX6_settled ∈ zW := zW_2 (List.mem_of_getElem? (i := 43) rfl) rfl
theorem ml_X6_146 : Cond.methodLink RX6 146 yX3_commit ∈ zW := zW_2 (List.mem_of_getElem? (i := 47) rfl) rfl
theorem ml_X3_30 : Cond.methodLink RX3 30 yX3_forgetFirst ∈ zW := zW_2 (List.mem_of_getElem? (i := 51) rfl) rfl
theorem ml_L_40 : Cond.methodLink RL 40 yX6_label ∈ zW := zW_2 (List.mem_of_getElem? (i := 55) rfl) rfl
theorem ml_X6_94 : Cond.methodLink RX6 94 yX2_has ∈ zW := zW_2 (List.mem_of_getElem? (i := 59) rfl) rfl
theorem ml_X6_97 : Cond.methodLink RX6 97 yX2_addName ∈ zW := zW_2 (List.mem_of_getElem? (i := 63) rfl) rfl
theorem ml_X6_101 : Cond.methodLink RX6 101 yX2_namesOf ∈ zW := zW_2 (List.mem_of_getElem? (i := 64) rfl) rfl
theorem ml_L_44 : Cond.methodLink RL 44 yX6_named ∈ zW := zW_2 (List.mem_of_getElem? (i := 68) rfl) rfl
theorem ml_L_48 : Cond.methodLink RL 48 yX6_labels ∈ zW := zW_2 (List.mem_of_getElem? (i := 72) rfl) rfl
theorem ml_X6_104 : Cond.methodLink RX6 104 yX4_clear ∈ zW := zW_2 (List.mem_of_getElem? (i := 76) rfl) rfl
theorem ml_X6_116 : Cond.methodLink RX6 116 yX4_add ∈ zW := zW_2 (List.mem_of_getElem? (i := 80) rfl) rfl
theorem ml_L_52 : Cond.methodLink RL 52 yX6_links ∈ zW := zW_2 (List.mem_of_getElem? (i := 84) rfl) rfl
theorem ml_X6_121 : Cond.methodLink RX6 121 yX0_link ∈ zW := zW_2 (List.mem_of_getElem? (i := 88) rfl) rfl
theorem ml_X0_25 : Cond.methodLink RX0 25 yX2_hasPair ∈ zW := zW_2 (List.mem_of_getElem? (i := 92) rfl) rfl
theorem ml_X2_51 : Cond.methodLink RX2 51 yX2_has ∈ zW := zW_2 (List.mem_of_getElem? (i := 96) rfl) rfl
theorem ml_X0_38 : Cond.methodLink RX0 38 yX1_findWay ∈ zW := zW_2 (List.mem_of_getElem? (i := 98) rfl) rfl
theorem ml_X0_42 : Cond.methodLink RX0 42 yX1_tellWay ∈ zW := zW_2 (List.mem_of_getElem? (i := 103) rfl) rfl
theorem ml_X1_44 : Cond.methodLink RX1 44 yX4_tell ∈ zW := zW_2 (List.mem_of_getElem? (i := 107) rfl) rfl
theorem ml_X4_19 : Cond.methodLink RX4 19 yX4_clear ∈ zW := zW_2 (List.mem_of_getElem? (i := 111) rfl) rfl
theorem ml_X4_22 : Cond.methodLink RX4 22 yX4_add ∈ zW := zW_2 (List.mem_of_getElem? (i := 112) rfl) rfl
theorem ml_X1_50 : Cond.methodLink RX1 50 yX1_leastOf ∈ zW := zW_2 (List.mem_of_getElem? (i := 113) rfl) rfl
theorem ml_X1_54 : Cond.methodLink RX1 54 yX4_add ∈ zW := zW_2 (List.mem_of_getElem? (i := 116) rfl) rfl
theorem ml_X0_46 : Cond.methodLink RX0 46 yX2_come ∈ zW := zW_2 (List.mem_of_getElem? (i := 117) rfl) rfl
theorem ml_X2_63 : Cond.methodLink RX2 63 yX2_placeOf ∈ zW := zW_2 (List.mem_of_getElem? (i := 121) rfl) rfl
theorem ml_X2_67 : Cond.methodLink RX2 67 yX2_above ∈ zW := zW_2 (List.mem_of_getElem? (i := 125) rfl) rfl
theorem ml_X2_70 : Cond.methodLink RX2 70 yX2_below ∈ zW := zW_2 (List.mem_of_getElem? (i := 129) rfl) rfl
theorem ml_X2_73 : Cond.methodLink RX2 73 yX2_mend ∈ zW := zW_2 (List.mem_of_getElem? (i := 133) rfl) rfl
theorem ml_X2_77 : Cond.methodLink RX2 77 yX2_gather ∈ zW := zW_2 (List.mem_of_getElem? (i := 137) rfl) rfl
theorem ml_L_57 : Cond.methodLink RL 57 yX6_unlinks ∈ zW := zW_2 (List.mem_of_getElem? (i := 141) rfl) rfl
theorem ml_X6_125 : Cond.methodLink RX6 125 yX0_unlink ∈ zW := zW_2 (List.mem_of_getElem? (i := 145) rfl) rfl
theorem ml_X0_54 : Cond.methodLink RX0 54 yX2_linkCount ∈ zW := zW_2 (List.mem_of_getElem? (i := 149) rfl) rfl
theorem ml_X2_84 : Cond.methodLink RX2 84 yX2_linksAmong ∈ zW := zW_2 (List.mem_of_getElem? (i := 153) rfl) rfl
theorem ml_X2_87 : Cond.methodLink RX2 87 yJ6_bitCount_0f7a4 ∈ zW := zW_2 (List.mem_of_getElem? (i := 157) rfl) rfl
theorem kc_J6_265 : Cond.constant RJ6 265 (1431655765) ∈ zW := zW_2 (List.mem_of_getElem? (i := 160) rfl) rfl
theorem kc_J6_266 : Cond.constant RJ6 266 (858993459) ∈ zW := zW_2 (List.mem_of_getElem? (i := 161) rfl) rfl
theorem kc_J6_267 : Cond.constant RJ6 267 (252645135) ∈ zW := zW_2 (List.mem_of_getElem? (i := 162) rfl) rfl
theorem ml_L_61 : Cond.methodLink RL 61 yX6_net ∈ zW := zW_2 (List.mem_of_getElem? (i := 163) rfl) rfl
theorem ml_X6_128 : Cond.methodLink RX6 128 yX5_readLinks ∈ zW := zW_2 (List.mem_of_getElem? (i := 167) rfl) rfl
theorem ml_X5_35 : Cond.methodLink RX5 35 yX5_readTerm ∈ zW := zW_2 (List.mem_of_getElem? (i := 171) rfl) rfl
theorem ml_X5_57 : Cond.methodLink RX5 57 yX2_ownerOf ∈ zW := zW_2 (List.mem_of_getElem? (i := 175) rfl) rfl
theorem ml_X5_39 : Cond.methodLink RX5 39 yX5_passes ∈ zW := zW_2 (List.mem_of_getElem? (i := 176) rfl) rfl
theorem ml_X5_43 : Cond.methodLink RX5 43 yX5_addWord ∈ zW := zW_2 (List.mem_of_getElem? (i := 180) rfl) rfl
theorem ml_X6_132 : Cond.methodLink RX6 132 yX5_clear ∈ zW := zW_2 (List.mem_of_getElem? (i := 184) rfl) rfl
theorem ml_X6_133 : Cond.methodLink RX6 133 yX2_linkCount ∈ zW := zW_2 (List.mem_of_getElem? (i := 185) rfl) rfl
theorem ml_X6_142 : Cond.methodLink RX6 142 yX0_linkOrPass ∈ zW := zW_2 (List.mem_of_getElem? (i := 186) rfl) rfl
theorem ml_X0_50 : Cond.methodLink RX0 50 yX0_link ∈ zW := zW_2 (List.mem_of_getElem? (i := 190) rfl) rfl
theorem ml_X6_149 : Cond.methodLink RX6 149 yX4_tell ∈ zW := zW_2 (List.mem_of_getElem? (i := 191) rfl) rfl
theorem ml_L_77 : Cond.methodLink RL 77 yX6_would ∈ zW := zW_2 (List.mem_of_getElem? (i := 192) rfl) rfl
theorem ml_X6_167 : Cond.methodLink RX6 167 yX2_copyFrom ∈ zW := zW_2 (List.mem_of_getElem? (i := 196) rfl) rfl
theorem ml_L_81 : Cond.methodLink RL 81 yX6_kin ∈ zW := zW_2 (List.mem_of_getElem? (i := 197) rfl) rfl
theorem ml_X6_170 : Cond.methodLink RX6 170 yX6_kinOf ∈ zW := zW_2 (List.mem_of_getElem? (i := 201) rfl) rfl
theorem ml_X6_182 : Cond.methodLink RX6 182 yX2_broaderOf ∈ zW := zW_2 (List.mem_of_getElem? (i := 205) rfl) rfl
theorem ml_X6_185 : Cond.methodLink RX6 185 yX2_below ∈ zW := zW_2 (List.mem_of_getElem? (i := 209) rfl) rfl
theorem ml_X6_188 : Cond.methodLink RX6 188 yX2_above ∈ zW := zW_2 (List.mem_of_getElem? (i := 210) rfl) rfl
theorem ml_X6_174 : Cond.methodLink RX6 174 yJ6_bitCount_0f7a4 ∈ zW := zW_2 (List.mem_of_getElem? (i := 211) rfl) rfl
theorem ml_L_85 : Cond.methodLink RL 85 yX6_way ∈ zW := zW_2 (List.mem_of_getElem? (i := 212) rfl) rfl
theorem ml_X6_191 : Cond.methodLink RX6 191 yX2_hasPair ∈ zW := zW_2 (List.mem_of_getElem? (i := 216) rfl) rfl
theorem ml_X6_195 : Cond.methodLink RX6 195 yX1_findWay ∈ zW := zW_2 (List.mem_of_getElem? (i := 217) rfl) rfl
theorem ml_X6_201 : Cond.methodLink RX6 201 yX1_tellWay ∈ zW := zW_2 (List.mem_of_getElem? (i := 218) rfl) rfl
theorem ml_L_89 : Cond.methodLink RL 89 yX6_ways ∈ zW := zW_2 (List.mem_of_getElem? (i := 219) rfl) rfl
theorem ml_X6_205 : Cond.methodLink RX6 205 yX1_countWays ∈ zW := zW_2 (List.mem_of_getElem? (i := 223) rfl) rfl
theorem ml_X1_63 : Cond.methodLink RX1 63 yJ9_max_7cf53 ∈ zW := zW_2 (List.mem_of_getElem? (i := 227) rfl) rfl
theorem ml_L_93 : Cond.methodLink RL 93 yX6_between ∈ zW := zW_2 (List.mem_of_getElem? (i := 230) rfl) rfl
theorem ml_X6_216 : Cond.methodLink RX6 216 yX6_holds ∈ zW := zW_2 (List.mem_of_getElem? (i := 234) rfl) rfl
theorem ml_X6_219 : Cond.methodLink RX6 219 yX2_linksAmong ∈ zW := zW_2 (List.mem_of_getElem? (i := 235) rfl) rfl
theorem ml_L_97 : Cond.methodLink RL 97 yX6_meets ∈ zW := zW_2 (List.mem_of_getElem? (i := 236) rfl) rfl
theorem ml_X6_222 : Cond.methodLink RX6 222 yX2_withOthersBelow ∈ zW := zW_3 (List.mem_of_getElem? (i := 0) rfl) rfl
theorem ml_L_101 : Cond.methodLink RL 101 yX6_steps ∈ zW := zW_3 (List.mem_of_getElem? (i := 4) rfl) rfl
theorem ml_X6_225 : Cond.methodLink RX6 225 yX2_withNeighbours ∈ zW := zW_3 (List.mem_of_getElem? (i := 8) rfl) rfl
theorem ml_L_105 : Cond.methodLink RL 105 yX6_depth ∈ zW := zW_3 (List.mem_of_getElem? (i := 12) rfl) rfl
theorem ml_X6_228 : Cond.methodLink RX6 228 yX1_measureUpwards ∈ zW := zW_3 (List.mem_of_getElem? (i := 16) rfl) rfl
theorem ml_X1_69 : Cond.methodLink RX1 69 yX1_clearLongest ∈ zW := zW_3 (List.mem_of_getElem? (i := 20) rfl) rfl
theorem ml_X6_231 : Cond.methodLink RX6 231 yX1_measureDownwards ∈ zW := zW_3 (List.mem_of_getElem? (i := 24) rfl) rfl
theorem ml_L_109 : Cond.methodLink RL 109 yX6_tops ∈ zW := zW_3 (List.mem_of_getElem? (i := 28) rfl) rfl
theorem ml_L_113 : Cond.methodLink RL 113 yX6_needless ∈ zW := zW_3 (List.mem_of_getElem? (i := 32) rfl) rfl
theorem ml_X6_234 : Cond.methodLink RX6 234 yX2_needlessFrom ∈ zW := zW_3 (List.mem_of_getElem? (i := 36) rfl) rfl
theorem ml_L_117 : Cond.methodLink RL 117 yX6_chains ∈ zW := zW_3 (List.mem_of_getElem? (i := 40) rfl) rfl
theorem ml_X6_237 : Cond.methodLink RX6 237 yJ9_max_7cf53 ∈ zW := zW_3 (List.mem_of_getElem? (i := 44) rfl) rfl
theorem ml_X6_242 : Cond.methodLink RX6 242 yX1_matchBelow ∈ zW := zW_3 (List.mem_of_getElem? (i := 45) rfl) rfl
theorem ml_X1_72 : Cond.methodLink RX1 72 yX1_findFollower ∈ zW := zW_3 (List.mem_of_getElem? (i := 49) rfl) rfl
theorem ml_X1_76 : Cond.methodLink RX1 76 yX2_below ∈ zW := zW_3 (List.mem_of_getElem? (i := 53) rfl) rfl
theorem ml_X1_79 : Cond.methodLink RX1 79 yX1_changeFollowers ∈ zW := zW_3 (List.mem_of_getElem? (i := 54) rfl) rfl
theorem ml_X1_83 : Cond.methodLink RX1 83 yX1_followerOf ∈ zW := zW_3 (List.mem_of_getElem? (i := 58) rfl) rfl
theorem ml_L_121 : Cond.methodLink RL 121 yX6_apart ∈ zW := zW_3 (List.mem_of_getElem? (i := 62) rfl) rfl
theorem ml_L_125 : Cond.methodLink RL 125 yX6_posts ∈ zW := zW_3 (List.mem_of_getElem? (i := 66) rfl) rfl
theorem ml_X6_249 : Cond.methodLink RX6 249 yX0_post ∈ zW := zW_3 (List.mem_of_getElem? (i := 70) rfl) rfl
theorem ml_X0_58 : Cond.methodLink RX0 58 yX2_has ∈ zW := zW_3 (List.mem_of_getElem? (i := 74) rfl) rfl
theorem ml_X0_69 : Cond.methodLink RX0 69 yJ13_bitCount_95d88 ∈ zW := zW_3 (List.mem_of_getElem? (i := 78) rfl) rfl
theorem kc_J13_314 : Cond.constantLong RJ13 314 (6148914691236517205) ∈ zW := zW_3 (List.mem_of_getElem? (i := 81) rfl) rfl
theorem kc_J13_316 : Cond.constantLong RJ13 316 (3689348814741910323) ∈ zW := zW_3 (List.mem_of_getElem? (i := 82) rfl) rfl
theorem kc_J13_318 : Cond.constantLong RJ13 318 (1085102592571150095) ∈ zW := zW_3 (List.mem_of_getElem? (i := 83) rfl) rfl
theorem ml_L_129 : Cond.methodLink RL 129 yX6_unposts ∈ zW := zW_3 (List.mem_of_getElem? (i := 84) rfl) rfl
theorem ml_X6_252 : Cond.methodLink RX6 252 yX0_unpost ∈ zW := zW_3 (List.mem_of_getElem? (i := 88) rfl) rfl
theorem kc_X0_75 : Cond.constantLong RX0 75 (-1) ∈ zW := zW_3 (List.mem_of_getElem? (i := 92) rfl) rfl
theorem ml_L_133 : Cond.methodLink RL 133 yX6_search ∈ zW := zW_3 (List.mem_of_getElem? (i := 93) rfl) rfl
theorem ml_X6_255 : Cond.methodLink RX6 255 yX5_readSearch ∈ zW := zW_3 (List.mem_of_getElem? (i := 97) rfl) rfl
theorem ml_X5_47 : Cond.methodLink RX5 47 yX5_readHow ∈ zW := zW_3 (List.mem_of_getElem? (i := 101) rfl) rfl
theorem ml_X6_258 : Cond.methodLink RX6 258 yX2_searchOn ∈ zW := zW_3 (List.mem_of_getElem? (i := 105) rfl) rfl
theorem ml_X2_97 : Cond.methodLink RX2 97 yX2_itemsOf ∈ zW := zW_3 (List.mem_of_getElem? (i := 109) rfl) rfl
theorem kc_X2_101 : Cond.constantLong RX2 101 (-1) ∈ zW := zW_3 (List.mem_of_getElem? (i := 113) rfl) rfl
theorem ml_L_137 : Cond.methodLink RL 137 yX6_posted ∈ zW := zW_3 (List.mem_of_getElem? (i := 114) rfl) rfl
theorem ml_X6_262 : Cond.methodLink RX6 262 yX6_isItem ∈ zW := zW_3 (List.mem_of_getElem? (i := 118) rfl) rfl
theorem ml_L_141 : Cond.methodLink RL 141 yX6_goes ∈ zW := zW_3 (List.mem_of_getElem? (i := 119) rfl) rfl
theorem ml_X6_268 : Cond.methodLink RX6 268 yX0_leave ∈ zW := zW_3 (List.mem_of_getElem? (i := 123) rfl) rfl
theorem ml_X0_77 : Cond.methodLink RX0 77 yX2_broaderOf ∈ zW := zW_3 (List.mem_of_getElem? (i := 127) rfl) rfl
theorem ml_X0_81 : Cond.methodLink RX0 81 yX2_remove ∈ zW := zW_3 (List.mem_of_getElem? (i := 128) rfl) rfl
theorem ml_X2_59 : Cond.methodLink RX2 59 yX2_removeName ∈ zW := zW_3 (List.mem_of_getElem? (i := 132) rfl) rfl
theorem ml_X0_85 : Cond.methodLink RX0 85 yX2_comeToAll ∈ zW := zW_3 (List.mem_of_getElem? (i := 136) rfl) rfl
theorem ml_X2_80 : Cond.methodLink RX2 80 yX2_come ∈ zW := zW_3 (List.mem_of_getElem? (i := 140) rfl) rfl
theorem ml_L_145 : Cond.methodLink RL 145 yX6_merges ∈ zW := zW_3 (List.mem_of_getElem? (i := 141) rfl) rfl
theorem ml_X6_271 : Cond.methodLink RX6 271 yX0_merge ∈ zW := zW_3 (List.mem_of_getElem? (i := 145) rfl) rfl
theorem ml_X0_93 : Cond.methodLink RX0 93 yX0_tellsWayOverOthers ∈ zW := zW_3 (List.mem_of_getElem? (i := 149) rfl) rfl
theorem ml_X0_97 : Cond.methodLink RX0 97 yX2_handNames ∈ zW := zW_3 (List.mem_of_getElem? (i := 153) rfl) rfl
theorem ml_L_149 : Cond.methodLink RL 149 yX6_thins ∈ zW := zW_3 (List.mem_of_getElem? (i := 157) rfl) rfl
theorem ml_X6_274 : Cond.methodLink RX6 274 yX0_thin ∈ zW := zW_3 (List.mem_of_getElem? (i := 161) rfl) rfl
theorem ml_X0_100 : Cond.methodLink RX0 100 yX2_needlessFrom ∈ zW := zW_3 (List.mem_of_getElem? (i := 165) rfl) rfl
theorem ml_X0_103 : Cond.methodLink RX0 103 yJ6_bitCount_0f7a4 ∈ zW := zW_3 (List.mem_of_getElem? (i := 166) rfl) rfl
theorem ml_L_153 : Cond.methodLink RL 153 yX6_day ∈ zW := zW_3 (List.mem_of_getElem? (i := 167) rfl) rfl
theorem ml_X6_277 : Cond.methodLink RX6 277 yX5_readDay ∈ zW := zW_3 (List.mem_of_getElem? (i := 171) rfl) rfl
theorem ml_X5_50 : Cond.methodLink RX5 50 yX5_digitsBehind ∈ zW := zW_3 (List.mem_of_getElem? (i := 175) rfl) rfl
theorem ml_X5_54 : Cond.methodLink RX5 54 yX5_readNumber ∈ zW := zW_3 (List.mem_of_getElem? (i := 178) rfl) rfl
theorem ml_X6_281 : Cond.methodLink RX6 281 yX0_actOf ∈ zW := zW_3 (List.mem_of_getElem? (i := 182) rfl) rfl
theorem ml_X0_107 : Cond.methodLink RX0 107 yX0_unlink ∈ zW := zW_3 (List.mem_of_getElem? (i := 186) rfl) rfl
theorem ml_X0_110 : Cond.methodLink RX0 110 yX0_merge ∈ zW := zW_3 (List.mem_of_getElem? (i := 187) rfl) rfl
theorem ml_X0_113 : Cond.methodLink RX0 113 yX0_leave ∈ zW := zW_3 (List.mem_of_getElem? (i := 188) rfl) rfl
theorem ml_X0_116 : Cond.methodLink RX0 116 yX0_post ∈ zW := zW_3 (List.mem_of_getElem? (i := 189) rfl) rfl
theorem ml_X0_119 : Cond.methodLink RX0 119 yX0_thin ∈ zW := zW_3 (List.mem_of_getElem? (i := 190) rfl) rfl
theorem ml_L_157 : Cond.methodLink RL 157 yX6_undo ∈ zW := zW_3 (List.mem_of_getElem? (i := 191) rfl) rfl
theorem ml_X6_286 : Cond.methodLink RX6 286 yX3_back ∈ zW := zW_3 (List.mem_of_getElem? (i := 195) rfl) rfl
theorem ml_L_161 : Cond.methodLink RL 161 yX6_years ∈ zW := zW_3 (List.mem_of_getElem? (i := 199) rfl) rfl
theorem ml_X6_290 : Cond.methodLink RX6 290 yX6_drawn ∈ zW := zW_3 (List.mem_of_getElem? (i := 203) rfl) rfl
theorem kc_X6_296 : Cond.constant RX6 296 (1103515245) ∈ zW := zW_3 (List.mem_of_getElem? (i := 206) rfl) rfl
theorem ml_X6_293 : Cond.methodLink RX6 293 yX2_placesUnlike ∈ zW := zW_3 (List.mem_of_getElem? (i := 207) rfl) rfl
theorem ml_L_165 : Cond.methodLink RL 165 yX6_keep ∈ zW := zW_3 (List.mem_of_getElem? (i := 211) rfl) rfl
theorem ml_L_169 : Cond.methodLink RL 169 yX6_again ∈ zW := zW_3 (List.mem_of_getElem? (i := 215) rfl) rfl
theorem ml_L_173 : Cond.methodLink RL 173 yX6_count ∈ zW := zW_3 (List.mem_of_getElem? (i := 219) rfl) rfl
theorem ml_X6_297 : Cond.methodLink RX6 297 yX2_postings ∈ zW := zW_3 (List.mem_of_getElem? (i := 223) rfl) rfl
theorem ml_X2_92 : Cond.methodLink RX2 92 yJ13_bitCount_95d88 ∈ zW := zW_3 (List.mem_of_getElem? (i := 227) rfl) rfl
theorem ml_L_65 : Cond.methodLink RL 65 yL_place ∈ zW := zW_3 (List.mem_of_getElem? (i := 228) rfl) rfl
theorem kl_L_13 : Cond.classLink RL 13 "java/util/NoSuchElementException" ∈ zW := zW_3 (List.mem_of_getElem? (i := 231) rfl) rfl
theorem ml_L_7 : Cond.methodLink RL 7 yX6_place ∈ zW := zW_3 (List.mem_of_getElem? (i := 232) rfl) rfl
theorem kl_X6_152 : Cond.classLink RX6 152 "java/util/NoSuchElementException" ∈ zW := zW_3 (List.mem_of_getElem? (i := 236) rfl) rfl
theorem ka_byte : Cond.arrayClass .byte ∈ zW := zW_4 (List.mem_of_getElem? (i := 61) rfl) rfl
theorem ml_X6_159 : Cond.methodLink RX6 159 yX2_placeOf ∈ zW := zW_4 (List.mem_of_getElem? (i := 62) rfl) rfl
theorem ml_L_74 : Cond.methodLink RL 74 yL_at ∈ zW := zW_4 (List.mem_of_getElem? (i := 63) rfl) rfl
theorem ml_L_15 : Cond.methodLink RL 15 yX6_at ∈ zW := zW_4 (List.mem_of_getElem? (i := 66) rfl) rfl
theorem ml_L_177 : Cond.methodLink RL 177 yL_row ∈ zW := zW_4 (List.mem_of_getElem? (i := 71) rfl) rfl
theorem ml_L_18 : Cond.methodLink RL 18 yX6_row ∈ zW := zW_4 (List.mem_of_getElem? (i := 74) rfl) rfl
theorem ml_L_71 : Cond.methodLink RL 71 yX7_thrown ∈ zW := zW_4 (List.mem_of_getElem? (i := 79) rfl) rfl
theorem ml_L_29 : Cond.methodLink RL 29 yX7_sign ∈ zW := zW_4 (List.mem_of_getElem? (i := 83) rfl) rfl
theorem ml_L_34 : Cond.methodLink RL 34 yX7_end ∈ zW := zW_4 (List.mem_of_getElem? (i := 87) rfl) rfl
theorem ml_X7_21 : Cond.methodLink RX7 21 yX7_in ∈ zW := zW_4 (List.mem_of_getElem? (i := 91) rfl) rfl
theorem kl_L_23 : Cond.classLink RL 23 RX7 ∈ zW := zW_4 (List.mem_of_getElem? (i := 94) rfl) rfl
theorem ki_X7 : Cond.instantiable RX7 30 ∈ zW := zW_4 (List.mem_of_getElem? (i := 95) rfl) rfl
theorem ml_L_25 : Cond.methodLink RL 25 yX7_init ∈ zW := zW_4 (List.mem_of_getElem? (i := 96) rfl) rfl
theorem fl_X7_1 : Cond.fieldLink RX7 1 "SubjectNetModel" "thrown" "I" ∈ zW := zW_4 (List.mem_of_getElem? (i := 100) rfl) rfl
theorem fl_X7_11 : Cond.fieldLink RX7 11 "SubjectNetModel" "told" "I" ∈ zW := zW_4 (List.mem_of_getElem? (i := 101) rfl) rfl
theorem fl_X7_7 : Cond.fieldLink RX7 7 "SubjectNetModel" "row" "[J" ∈ zW := zW_4 (List.mem_of_getElem? (i := 102) rfl) rfl
theorem fl_X7_17 : Cond.fieldLink RX7 17 "SubjectNetModel" "tape" "[I" ∈ zW := zW_4 (List.mem_of_getElem? (i := 103) rfl) rfl
theorem fl_X7_14 : Cond.fieldLink RX7 14 "SubjectNetModel" "taped" "I" ∈ zW := zW_4 (List.mem_of_getElem? (i := 104) rfl) rfl
theorem fl_X7_28 : Cond.fieldLink RX7 28 "SubjectNetModel" "at" "I" ∈ zW := zW_4 (List.mem_of_getElem? (i := 105) rfl) rfl
theorem fl_X7_25 : Cond.fieldLink RX7 25 "SubjectNetModel" "to" "I" ∈ zW := zW_4 (List.mem_of_getElem? (i := 106) rfl) rfl
theorem fl_X7_71 : Cond.fieldLink RX7 71 "SubjectNetModel" "mem" "[I" ∈ zW := zW_4 (List.mem_of_getElem? (i := 107) rfl) rfl
theorem fl_X7_117 : Cond.fieldLink RX7 117 "SubjectNetModel" "undos" "I" ∈ zW := zW_4 (List.mem_of_getElem? (i := 108) rfl) rfl
theorem fl_X7_74 : Cond.fieldLink RX7 74 "SubjectNetModel" "places" "[I" ∈ zW := zW_4 (List.mem_of_getElem? (i := 109) rfl) rfl
theorem fl_X7_77 : Cond.fieldLink RX7 77 "SubjectNetModel" "movers" "[I" ∈ zW := zW_4 (List.mem_of_getElem? (i := 110) rfl) rfl
theorem fl_X7_80 : Cond.fieldLink RX7 80 "SubjectNetModel" "far" "[I" ∈ zW := zW_4 (List.mem_of_getElem? (i := 111) rfl) rfl
theorem fl_X7_83 : Cond.fieldLink RX7 83 "SubjectNetModel" "way" "[I" ∈ zW := zW_4 (List.mem_of_getElem? (i := 112) rfl) rfl
theorem fl_X7_188 : Cond.fieldLink RX7 188 "SubjectNetModel" "wayMany" "I" ∈ zW := zW_4 (List.mem_of_getElem? (i := 113) rfl) rfl
theorem fl_X7_86 : Cond.fieldLink RX7 86 "SubjectNetModel" "fromOf" "[I" ∈ zW := zW_4 (List.mem_of_getElem? (i := 114) rfl) rfl
theorem fl_X7_89 : Cond.fieldLink RX7 89 "SubjectNetModel" "toOf" "[I" ∈ zW := zW_4 (List.mem_of_getElem? (i := 115) rfl) rfl
theorem fl_X7_92 : Cond.fieldLink RX7 92 "SubjectNetModel" "longest" "[I" ∈ zW := zW_4 (List.mem_of_getElem? (i := 116) rfl) rfl
theorem fl_X7_95 : Cond.fieldLink RX7 95 "SubjectNetModel" "wayCount" "[J" ∈ zW := zW_4 (List.mem_of_getElem? (i := 117) rfl) rfl
theorem fl_X7_98 : Cond.fieldLink RX7 98 "SubjectNetModel" "thin" "[I" ∈ zW := zW_4 (List.mem_of_getElem? (i := 118) rfl) rfl
theorem fl_X7_101 : Cond.fieldLink RX7 101 "SubjectNetModel" "ahead" "[I" ∈ zW := zW_4 (List.mem_of_getElem? (i := 119) rfl) rfl
theorem fl_X7_269 : Cond.fieldLink RX7 269 "SubjectNetModel" "tried" "I" ∈ zW := zW_4 (List.mem_of_getElem? (i := 120) rfl) rfl
theorem fl_X7_299 : Cond.fieldLink RX7 299 "SubjectNetModel" "foundLow" "I" ∈ zW := zW_4 (List.mem_of_getElem? (i := 121) rfl) rfl
theorem fl_X7_302 : Cond.fieldLink RX7 302 "SubjectNetModel" "foundHigh" "I" ∈ zW := zW_4 (List.mem_of_getElem? (i := 122) rfl) rfl
theorem fl_X7_289 : Cond.fieldLink RX7 289 "SubjectNetModel" "nextLow" "I" ∈ zW := zW_4 (List.mem_of_getElem? (i := 123) rfl) rfl
theorem fl_X7_292 : Cond.fieldLink RX7 292 "SubjectNetModel" "nextHigh" "I" ∈ zW := zW_4 (List.mem_of_getElem? (i := 124) rfl) rfl
theorem fl_X7_104 : Cond.fieldLink RX7 104 "SubjectNetModel" "act" "[I" ∈ zW := zW_4 (List.mem_of_getElem? (i := 125) rfl) rfl
theorem fl_X7_107 : Cond.fieldLink RX7 107 "SubjectNetModel" "first" "[I" ∈ zW := zW_4 (List.mem_of_getElem? (i := 126) rfl) rfl
theorem fl_X7_110 : Cond.fieldLink RX7 110 "SubjectNetModel" "second" "[I" ∈ zW := zW_4 (List.mem_of_getElem? (i := 127) rfl) rfl
theorem fl_X7_349 : Cond.fieldLink RX7 349 "SubjectNetModel" "random" "I" ∈ zW := zW_4 (List.mem_of_getElem? (i := 128) rfl) rfl
theorem fl_X7_113 : Cond.fieldLink RX7 113 "SubjectNetModel" "isKept" "[Z" ∈ zW := zW_4 (List.mem_of_getElem? (i := 129) rfl) rfl
theorem ml_L_160 : Cond.methodLink RL 160 yX7_undo ∈ zW := zW_4 (List.mem_of_getElem? (i := 191) rfl) rfl
theorem ml_X7_120 : Cond.methodLink RX7 120 yX7_copies ∈ zW := zW_4 (List.mem_of_getElem? (i := 195) rfl) rfl
theorem ml_L_39 : Cond.methodLink RL 39 yX7_term ∈ zW := zW_4 (List.mem_of_getElem? (i := 199) rfl) rfl
theorem ml_X7_198 : Cond.methodLink RX7 198 yX7_reads ∈ zW := zW_4 (List.mem_of_getElem? (i := 203) rfl) rfl
theorem ml_X7_201 : Cond.methodLink RX7 201 yX7_readsLabel ∈ zW := zW_4 (List.mem_of_getElem? (i := 207) rfl) rfl
theorem ml_X7_62 : Cond.methodLink RX7 62 yX7_letter ∈ zW := zW_4 (List.mem_of_getElem? (i := 211) rfl) rfl
theorem kc_X7_58 : Cond.constantLong RX7 58 (97) ∈ zW := zW_4 (List.mem_of_getElem? (i := 215) rfl) rfl
theorem kc_X7_60 : Cond.constantLong RX7 60 (122) ∈ zW := zW_4 (List.mem_of_getElem? (i := 216) rfl) rfl
theorem ml_X7_45 : Cond.methodLink RX7 45 yX7_flag ∈ zW := zW_4 (List.mem_of_getElem? (i := 217) rfl) rfl
theorem ml_X7_204 : Cond.methodLink RX7 204 yX7_termOf ∈ zW := zW_4 (List.mem_of_getElem? (i := 220) rfl) rfl
theorem ml_X7_195 : Cond.methodLink RX7 195 yX7_labelMany ∈ zW := zW_4 (List.mem_of_getElem? (i := 224) rfl) rfl
theorem ml_X7_207 : Cond.methodLink RX7 207 yX7_firstFree ∈ zW := zW_4 (List.mem_of_getElem? (i := 228) rfl) rfl
theorem ml_X7_129 : Cond.methodLink RX7 129 yX7_there ∈ zW := zW_4 (List.mem_of_getElem? (i := 232) rfl) rfl
theorem ml_X7_133 : Cond.methodLink RX7 133 yX7_has ∈ zW := zW_4 (List.mem_of_getElem? (i := 236) rfl) rfl
theorem ml_X7_210 : Cond.methodLink RX7 210 yX7_gives ∈ zW := zW_4 (List.mem_of_getElem? (i := 239) rfl) rfl
theorem ml_X7_213 : Cond.methodLink RX7 213 yX7_done ∈ zW := zW_5 (List.mem_of_getElem? (i := 3) rfl) rfl
theorem ml_X7_124 : Cond.methodLink RX7 124 yX7_lays ∈ zW := zW_5 (List.mem_of_getElem? (i := 7) rfl) rfl
theorem ml_L_43 : Cond.methodLink RL 43 yX7_label ∈ zW := zW_5 (List.mem_of_getElem? (i := 11) rfl) rfl
theorem ml_X7_137 : Cond.methodLink RX7 137 yX7_isTerm ∈ zW := zW_5 (List.mem_of_getElem? (i := 15) rfl) rfl
theorem kc_X7_127 : Cond.constantLong RX7 127 (23) ∈ zW := zW_5 (List.mem_of_getElem? (i := 19) rfl) rfl
theorem ml_X7_216 : Cond.methodLink RX7 216 yX7_labelsOf ∈ zW := zW_5 (List.mem_of_getElem? (i := 20) rfl) rfl
theorem ml_L_47 : Cond.methodLink RL 47 yX7_named ∈ zW := zW_5 (List.mem_of_getElem? (i := 24) rfl) rfl
theorem ml_L_51 : Cond.methodLink RL 51 yX7_labels ∈ zW := zW_5 (List.mem_of_getElem? (i := 28) rfl) rfl
theorem ml_X7_191 : Cond.methodLink RX7 191 yX7_enters ∈ zW := zW_5 (List.mem_of_getElem? (i := 32) rfl) rfl
theorem ml_L_56 : Cond.methodLink RL 56 yX7_links ∈ zW := zW_5 (List.mem_of_getElem? (i := 36) rfl) rfl
theorem ml_X7_225 : Cond.methodLink RX7 225 yX7_linksOne ∈ zW := zW_5 (List.mem_of_getElem? (i := 40) rfl) rfl
theorem ml_X7_219 : Cond.methodLink RX7 219 yX7_areTwo ∈ zW := zW_5 (List.mem_of_getElem? (i := 44) rfl) rfl
theorem ml_X7_222 : Cond.methodLink RX7 222 yX7_comes ∈ zW := zW_5 (List.mem_of_getElem? (i := 48) rfl) rfl
theorem ml_X7_176 : Cond.methodLink RX7 176 yX7_isLinked ∈ zW := zW_5 (List.mem_of_getElem? (i := 52) rfl) rfl
theorem ml_X7_143 : Cond.methodLink RX7 143 yX7_narrower ∈ zW := zW_5 (List.mem_of_getElem? (i := 56) rfl) rfl
theorem ml_X7_163 : Cond.methodLink RX7 163 yX7_above ∈ zW := zW_5 (List.mem_of_getElem? (i := 60) rfl) rfl
theorem ml_X7_150 : Cond.methodLink RX7 150 yX7_reach ∈ zW := zW_5 (List.mem_of_getElem? (i := 64) rfl) rfl
theorem ml_X7_147 : Cond.methodLink RX7 147 yX7_broader ∈ zW := zW_5 (List.mem_of_getElem? (i := 68) rfl) rfl
theorem ml_X7_140 : Cond.methodLink RX7 140 yX7_isIn ∈ zW := zW_5 (List.mem_of_getElem? (i := 72) rfl) rfl
theorem ml_X7_180 : Cond.methodLink RX7 180 yX7_mends ∈ zW := zW_5 (List.mem_of_getElem? (i := 76) rfl) rfl
theorem ml_X7_160 : Cond.methodLink RX7 160 yX7_placeOf ∈ zW := zW_5 (List.mem_of_getElem? (i := 80) rfl) rfl
theorem ml_X7_157 : Cond.methodLink RX7 157 yX7_inPlace ∈ zW := zW_5 (List.mem_of_getElem? (i := 84) rfl) rfl
theorem ml_X7_166 : Cond.methodLink RX7 166 yX7_below ∈ zW := zW_5 (List.mem_of_getElem? (i := 88) rfl) rfl
theorem ml_X7_169 : Cond.methodLink RX7 169 yX7_placed ∈ zW := zW_5 (List.mem_of_getElem? (i := 92) rfl) rfl
theorem ml_X7_172 : Cond.methodLink RX7 172 yX7_addsMovers ∈ zW := zW_5 (List.mem_of_getElem? (i := 96) rfl) rfl
theorem ml_X7_228 : Cond.methodLink RX7 228 yX7_findsWay ∈ zW := zW_5 (List.mem_of_getElem? (i := 100) rfl) rfl
theorem ml_X7_184 : Cond.methodLink RX7 184 yX7_steps ∈ zW := zW_5 (List.mem_of_getElem? (i := 104) rfl) rfl
theorem ml_X7_232 : Cond.methodLink RX7 232 yX7_entersWay ∈ zW := zW_5 (List.mem_of_getElem? (i := 108) rfl) rfl
theorem ml_L_60 : Cond.methodLink RL 60 yX7_unlinks ∈ zW := zW_5 (List.mem_of_getElem? (i := 112) rfl) rfl
theorem ml_X7_238 : Cond.methodLink RX7 238 yX7_unlinksOne ∈ zW := zW_5 (List.mem_of_getElem? (i := 116) rfl) rfl
theorem ml_X7_235 : Cond.methodLink RX7 235 yX7_linkMany ∈ zW := zW_5 (List.mem_of_getElem? (i := 120) rfl) rfl
theorem ml_X7_154 : Cond.methodLink RX7 154 yX7_sizeOf ∈ zW := zW_5 (List.mem_of_getElem? (i := 124) rfl) rfl
theorem ml_L_64 : Cond.methodLink RL 64 yX7_net ∈ zW := zW_5 (List.mem_of_getElem? (i := 127) rfl) rfl
theorem ml_X7_247 : Cond.methodLink RX7 247 yX7_readsLinks ∈ zW := zW_5 (List.mem_of_getElem? (i := 131) rfl) rfl
theorem ml_X7_241 : Cond.methodLink RX7 241 yX7_readsTerm ∈ zW := zW_5 (List.mem_of_getElem? (i := 135) rfl) rfl
theorem ml_X7_244 : Cond.methodLink RX7 244 yX7_takes ∈ zW := zW_5 (List.mem_of_getElem? (i := 139) rfl) rfl
theorem ml_X7_41 : Cond.methodLink RX7 41 yX7_isHere ∈ zW := zW_5 (List.mem_of_getElem? (i := 143) rfl) rfl
theorem ml_L_70 : Cond.methodLink RL 70 yX7_place ∈ zW := zW_5 (List.mem_of_getElem? (i := 147) rfl) rfl
theorem ml_L_76 : Cond.methodLink RL 76 yX7_at ∈ zW := zW_5 (List.mem_of_getElem? (i := 151) rfl) rfl
theorem ml_L_80 : Cond.methodLink RL 80 yX7_would ∈ zW := zW_5 (List.mem_of_getElem? (i := 155) rfl) rfl
theorem ml_L_84 : Cond.methodLink RL 84 yX7_kin ∈ zW := zW_5 (List.mem_of_getElem? (i := 159) rfl) rfl
theorem kc_X7_250 : Cond.constantLong RX7 250 (3) ∈ zW := zW_5 (List.mem_of_getElem? (i := 163) rfl) rfl
theorem ml_L_88 : Cond.methodLink RL 88 yX7_way ∈ zW := zW_5 (List.mem_of_getElem? (i := 164) rfl) rfl
theorem ml_L_92 : Cond.methodLink RL 92 yX7_ways ∈ zW := zW_5 (List.mem_of_getElem? (i := 168) rfl) rfl
theorem ml_X7_252 : Cond.methodLink RX7 252 yX7_measures ∈ zW := zW_5 (List.mem_of_getElem? (i := 172) rfl) rfl
theorem ml_L_96 : Cond.methodLink RL 96 yX7_between ∈ zW := zW_5 (List.mem_of_getElem? (i := 176) rfl) rfl
theorem ml_X7_256 : Cond.methodLink RX7 256 yX7_isBelow ∈ zW := zW_5 (List.mem_of_getElem? (i := 180) rfl) rfl
theorem ml_L_100 : Cond.methodLink RL 100 yX7_meets ∈ zW := zW_5 (List.mem_of_getElem? (i := 184) rfl) rfl
theorem ml_L_104 : Cond.methodLink RL 104 yX7_steps_ ∈ zW := zW_5 (List.mem_of_getElem? (i := 188) rfl) rfl
theorem ml_L_108 : Cond.methodLink RL 108 yX7_depth ∈ zW := zW_5 (List.mem_of_getElem? (i := 192) rfl) rfl
theorem ml_X7_259 : Cond.methodLink RX7 259 yX7_deep ∈ zW := zW_5 (List.mem_of_getElem? (i := 196) rfl) rfl
theorem ml_L_112 : Cond.methodLink RL 112 yX7_tops ∈ zW := zW_5 (List.mem_of_getElem? (i := 200) rfl) rfl
theorem ml_L_116 : Cond.methodLink RL 116 yX7_needless ∈ zW := zW_5 (List.mem_of_getElem? (i := 204) rfl) rfl
theorem ml_X7_266 : Cond.methodLink RX7 266 yX7_laysNeedless ∈ zW := zW_5 (List.mem_of_getElem? (i := 208) rfl) rfl
theorem ml_X7_263 : Cond.methodLink RX7 263 yX7_isNeedless ∈ zW := zW_5 (List.mem_of_getElem? (i := 212) rfl) rfl
theorem ml_L_120 : Cond.methodLink RL 120 yX7_chains ∈ zW := zW_5 (List.mem_of_getElem? (i := 216) rfl) rfl
theorem ml_X7_272 : Cond.methodLink RX7 272 yX7_finds ∈ zW := zW_5 (List.mem_of_getElem? (i := 220) rfl) rfl
theorem ml_L_124 : Cond.methodLink RL 124 yX7_apart ∈ zW := zW_5 (List.mem_of_getElem? (i := 224) rfl) rfl
theorem ml_L_128 : Cond.methodLink RL 128 yX7_posts ∈ zW := zW_5 (List.mem_of_getElem? (i := 228) rfl) rfl
theorem ml_X7_286 : Cond.methodLink RX7 286 yX7_postsOne ∈ zW := zW_5 (List.mem_of_getElem? (i := 232) rfl) rfl
theorem ml_X7_277 : Cond.methodLink RX7 277 yX7_isItem ∈ zW := zW_5 (List.mem_of_getElem? (i := 236) rfl) rfl
theorem kc_X7_275 : Cond.constantLong RX7 275 (39) ∈ zW := zW_5 (List.mem_of_getElem? (i := 239) rfl) rfl
theorem ml_X7_280 : Cond.methodLink RX7 280 yX7_isPosted ∈ zW := zW_6 (List.mem_of_getElem? (i := 0) rfl) rfl
theorem ml_X7_283 : Cond.methodLink RX7 283 yX7_itemsOf ∈ zW := zW_6 (List.mem_of_getElem? (i := 4) rfl) rfl
theorem ml_L_132 : Cond.methodLink RL 132 yX7_unposts ∈ zW := zW_6 (List.mem_of_getElem? (i := 8) rfl) rfl
theorem ml_L_136 : Cond.methodLink RL 136 yX7_search ∈ zW := zW_6 (List.mem_of_getElem? (i := 12) rfl) rfl
theorem ml_X7_305 : Cond.methodLink RX7 305 yX7_readsNext ∈ zW := zW_6 (List.mem_of_getElem? (i := 16) rfl) rfl
theorem ml_X7_295 : Cond.methodLink RX7 295 yX7_laysNext ∈ zW := zW_6 (List.mem_of_getElem? (i := 20) rfl) rfl
theorem ml_X7_309 : Cond.methodLink RX7 309 yX7_joins ∈ zW := zW_6 (List.mem_of_getElem? (i := 24) rfl) rfl
theorem ml_X7_51 : Cond.methodLink RX7 51 yX7_takesOf ∈ zW := zW_6 (List.mem_of_getElem? (i := 29) rfl) rfl
theorem ml_X7_31 : Cond.methodLink RX7 31 yJ0_length_8abf5 ∈ zW := zW_6 (List.mem_of_getElem? (i := 33) rfl) rfl
theorem ml_J0_335 : Cond.methodLink RJ0 335 yJ0_coder_7d493 ∈ zW := zW_6 (List.mem_of_getElem? (i := 37) rfl) rfl
theorem fl_J0_38 : Cond.fieldLink RJ0 38 "java/lang/String" "COMPACT_STRINGS" "Z" ∈ zW := zW_6 (List.mem_of_getElem? (i := 41) rfl) rfl
theorem ml_X7_37 : Cond.methodLink RX7 37 yJ0_charAt_5068e ∈ zW := zW_6 (List.mem_of_getElem? (i := 43) rfl) rfl
theorem ml_J0_492 : Cond.methodLink RJ0 492 yJ0_isLatin1_aae02 ∈ zW := zW_6 (List.mem_of_getElem? (i := 47) rfl) rfl
theorem ml_J0_495 : Cond.methodLink RJ0 495 yJ1_charAt_3b067 ∈ zW := zW_6 (List.mem_of_getElem? (i := 51) rfl) rfl
theorem ml_J1_9 : Cond.methodLink RJ1 9 yJ0_checkIndex_df160 ∈ zW := zW_6 (List.mem_of_getElem? (i := 54) rfl) rfl
theorem fl_J0_1053 : Cond.fieldLink RJ0 1053 "jdk/internal/util/Preconditions" "SIOOBE_FORMATTER" "Ljava/util/function/BiFunction;" ∈ zW := zW_6 (List.mem_of_getElem? (i := 57) rfl) rfl
theorem ml_J0_1059 : Cond.methodLink RJ0 1059 yJ3_checkIndex_8e157 ∈ zW := zW_6 (List.mem_of_getElem? (i := 59) rfl) rfl
theorem ml_J0_498 : Cond.methodLink RJ0 498 yJ2_charAt_3b067 ∈ zW := zW_6 (List.mem_of_getElem? (i := 62) rfl) rfl
theorem ml_J2_67 : Cond.methodLink RJ2 67 yJ2_checkIndex_2214a ∈ zW := zW_6 (List.mem_of_getElem? (i := 65) rfl) rfl
theorem ml_J2_48 : Cond.methodLink RJ2 48 yJ2_length_9d52b ∈ zW := zW_6 (List.mem_of_getElem? (i := 68) rfl) rfl
theorem ml_J2_414 : Cond.methodLink RJ2 414 yJ0_checkIndex_df160 ∈ zW := zW_6 (List.mem_of_getElem? (i := 71) rfl) rfl
theorem ml_J2_71 : Cond.methodLink RJ2 71 yJ2_getChar_3b067 ∈ zW := zW_6 (List.mem_of_getElem? (i := 72) rfl) rfl
theorem fl_J2_44 : Cond.fieldLink RJ2 44 "java/lang/StringUTF16" "$assertionsDisabled" "Z" ∈ zW := zW_6 (List.mem_of_getElem? (i := 75) rfl) rfl
theorem fl_J2_59 : Cond.fieldLink RJ2 59 "java/lang/StringUTF16" "HI_BYTE_SHIFT" "I" ∈ zW := zW_6 (List.mem_of_getElem? (i := 77) rfl) rfl
theorem fl_J2_63 : Cond.fieldLink RJ2 63 "java/lang/StringUTF16" "LO_BYTE_SHIFT" "I" ∈ zW := zW_6 (List.mem_of_getElem? (i := 79) rfl) rfl
theorem ml_L_140 : Cond.methodLink RL 140 yX7_posted ∈ zW := zW_6 (List.mem_of_getElem? (i := 81) rfl) rfl
theorem ml_L_144 : Cond.methodLink RL 144 yX7_goes ∈ zW := zW_6 (List.mem_of_getElem? (i := 85) rfl) rfl
theorem ml_X7_323 : Cond.methodLink RX7 323 yX7_goesOne ∈ zW := zW_6 (List.mem_of_getElem? (i := 89) rfl) rfl
theorem ml_X7_314 : Cond.methodLink RX7 314 yX7_inherits ∈ zW := zW_6 (List.mem_of_getElem? (i := 93) rfl) rfl
theorem ml_X7_317 : Cond.methodLink RX7 317 yX7_dropsLabel ∈ zW := zW_6 (List.mem_of_getElem? (i := 97) rfl) rfl
theorem ml_X7_320 : Cond.methodLink RX7 320 yX7_leaves ∈ zW := zW_6 (List.mem_of_getElem? (i := 101) rfl) rfl
theorem ml_L_148 : Cond.methodLink RL 148 yX7_merges ∈ zW := zW_6 (List.mem_of_getElem? (i := 105) rfl) rfl
theorem ml_X7_332 : Cond.methodLink RX7 332 yX7_mergesOne ∈ zW := zW_6 (List.mem_of_getElem? (i := 109) rfl) rfl
theorem ml_X7_326 : Cond.methodLink RX7 326 yX7_findsOver ∈ zW := zW_6 (List.mem_of_getElem? (i := 113) rfl) rfl
theorem ml_X7_329 : Cond.methodLink RX7 329 yX7_takesLabels ∈ zW := zW_6 (List.mem_of_getElem? (i := 117) rfl) rfl
theorem ml_L_152 : Cond.methodLink RL 152 yX7_thins ∈ zW := zW_6 (List.mem_of_getElem? (i := 121) rfl) rfl
theorem ml_X7_335 : Cond.methodLink RX7 335 yX7_thinsOne ∈ zW := zW_6 (List.mem_of_getElem? (i := 125) rfl) rfl
theorem ml_L_156 : Cond.methodLink RL 156 yX7_day ∈ zW := zW_6 (List.mem_of_getElem? (i := 129) rfl) rfl
theorem ml_X7_343 : Cond.methodLink RX7 343 yX7_readsAct ∈ zW := zW_6 (List.mem_of_getElem? (i := 133) rfl) rfl
theorem ml_X7_340 : Cond.methodLink RX7 340 yX7_two ∈ zW := zW_6 (List.mem_of_getElem? (i := 138) rfl) rfl
theorem ml_X7_55 : Cond.methodLink RX7 55 yX7_digit ∈ zW := zW_6 (List.mem_of_getElem? (i := 142) rfl) rfl
theorem ml_X7_346 : Cond.methodLink RX7 346 yX7_doesAct ∈ zW := zW_6 (List.mem_of_getElem? (i := 147) rfl) rfl
theorem ml_L_164 : Cond.methodLink RL 164 yX7_years ∈ zW := zW_6 (List.mem_of_getElem? (i := 151) rfl) rfl
theorem kc_X7_353 : Cond.constantLong RX7 353 (60) ∈ zW := zW_6 (List.mem_of_getElem? (i := 155) rfl) rfl
theorem ml_X7_355 : Cond.methodLink RX7 355 yX7_draws ∈ zW := zW_6 (List.mem_of_getElem? (i := 156) rfl) rfl
theorem kc_X7_352 : Cond.constant RX7 352 (1103515245) ∈ zW := zW_6 (List.mem_of_getElem? (i := 160) rfl) rfl
theorem ml_L_168 : Cond.methodLink RL 168 yX7_keep ∈ zW := zW_6 (List.mem_of_getElem? (i := 161) rfl) rfl
theorem ml_L_172 : Cond.methodLink RL 172 yX7_again ∈ zW := zW_6 (List.mem_of_getElem? (i := 165) rfl) rfl
theorem ml_L_176 : Cond.methodLink RL 176 yX7_count ∈ zW := zW_6 (List.mem_of_getElem? (i := 169) rfl) rfl
theorem ml_X7_358 : Cond.methodLink RX7 358 yX7_postings ∈ zW := zW_6 (List.mem_of_getElem? (i := 173) rfl) rfl
theorem ml_L_179 : Cond.methodLink RL 179 yX7_row ∈ zW := zW_6 (List.mem_of_getElem? (i := 177) rfl) rfl
theorem fl_J0_9 : Cond.fieldLink RJ0 9 "java/lang/String" "value" "[B" ∈ zW := zW_6 (List.mem_of_getElem? (i := 193) rfl) rfl
theorem fl_J0_15 : Cond.fieldLink RJ0 15 "java/lang/String" "coder" "B" ∈ zW := zW_6 (List.mem_of_getElem? (i := 194) rfl) rfl
theorem kz_L : Cond.initialized RL ∈ zW := zW_1 (List.mem_of_getElem? (i := 0) rfl) rfl
theorem kz_X6 : Cond.initialized RX6 ∈ zW := zW_1 (List.mem_of_getElem? (i := 1) rfl) rfl
theorem kz_X5 : Cond.initialized RX5 ∈ zW := zW_1 (List.mem_of_getElem? (i := 2) rfl) rfl
theorem kz_X0 : Cond.initialized RX0 ∈ zW := zW_1 (List.mem_of_getElem? (i := 3) rfl) rfl
theorem kz_X1 : Cond.initialized RX1 ∈ zW := zW_1 (List.mem_of_getElem? (i := 4) rfl) rfl
theorem kz_X4 : Cond.initialized RX4 ∈ zW := zW_1 (List.mem_of_getElem? (i := 5) rfl) rfl
theorem kz_X3 : Cond.initialized RX3 ∈ zW := zW_1 (List.mem_of_getElem? (i := 6) rfl) rfl
theorem kz_X2 : Cond.initialized RX2 ∈ zW := zW_1 (List.mem_of_getElem? (i := 7) rfl) rfl
theorem kz_X7 : Cond.initialized RX7 ∈ zW := zW_1 (List.mem_of_getElem? (i := 8) rfl) rfl
theorem kz_J10 : Cond.initialized RJ10 ∈ zW := zW_1 (List.mem_of_getElem? (i := 9) rfl) rfl
theorem kz_J6 : Cond.initialized RJ6 ∈ zW := zW_1 (List.mem_of_getElem? (i := 10) rfl) rfl
theorem kz_J9 : Cond.initialized RJ9 ∈ zW := zW_1 (List.mem_of_getElem? (i := 15) rfl) rfl
theorem kz_J13 : Cond.initialized RJ13 ∈ zW := zW_1 (List.mem_of_getElem? (i := 16) rfl) rfl
theorem kz_J0 : Cond.initialized RJ0 ∈ zW := zW_1 (List.mem_of_getElem? (i := 17) rfl) rfl
theorem kz_J1 : Cond.initialized RJ1 ∈ zW := zW_1 (List.mem_of_getElem? (i := 18) rfl) rfl
theorem kz_J3 : Cond.initialized RJ3 ∈ zW := zW_1 (List.mem_of_getElem? (i := 19) rfl) rfl
theorem kz_J2 : Cond.initialized RJ2 ∈ zW := zW_1 (List.mem_of_getElem? (i := 20) rfl) rfl
theorem kz_System : Cond.initialized "java/lang/System" ∈ zW := zW_1 (List.mem_of_getElem? (i := 9) rfl) rfl
theorem ml_X2_31 : Cond.methodLink RX2 31 arraycopyName ∈ zW := zW_2 (List.mem_of_getElem? (i := 29) rfl) rfl
theorem ks_arraycopy : Cond.static arraycopyName ∈ zW := zW_2 (List.mem_of_getElem? (i := 30) rfl) rfl
theorem pk_X6_init : zY yX6_init cX6_init 2 none 0 := ⟨zW_1 (List.mem_of_getElem? (i := 25) rfl) rfl, kz_X6, by decide +kernel⟩
theorem pi_X6_init : Cond.instanceMethod yX6_init ∈ zW := zW_1 (List.mem_of_getElem? (i := 24) rfl) rfl
theorem pk_X5_init : zY yX5_init cX5_init 1 none 0 := ⟨zW_1 (List.mem_of_getElem? (i := 33) rfl) rfl, kz_X5, by decide +kernel⟩
theorem pi_X5_init : Cond.instanceMethod yX5_init ∈ zW := zW_1 (List.mem_of_getElem? (i := 32) rfl) rfl
theorem pk_X0_init : zY yX0_init cX0_init 1 none 0 := ⟨zW_1 (List.mem_of_getElem? (i := 59) rfl) rfl, kz_X0, by decide +kernel⟩
theorem pi_X0_init : Cond.instanceMethod yX0_init ∈ zW := zW_1 (List.mem_of_getElem? (i := 58) rfl) rfl
theorem pk_X1_init : zY yX1_init cX1_init 1 none 0 := ⟨zW_1 (List.mem_of_getElem? (i := 65) rfl) rfl, kz_X1, by decide +kernel⟩
theorem pi_X1_init : Cond.instanceMethod yX1_init ∈ zW := zW_1 (List.mem_of_getElem? (i := 64) rfl) rfl
theorem pk_X4_init : zY yX4_init cX4_init 1 none 0 := ⟨zW_1 (List.mem_of_getElem? (i := 96) rfl) rfl, kz_X4, by decide +kernel⟩
theorem pi_X4_init : Cond.instanceMethod yX4_init ∈ zW := zW_1 (List.mem_of_getElem? (i := 95) rfl) rfl
theorem pk_X3_init : zY yX3_init cX3_init 2 none 0 := ⟨zW_1 (List.mem_of_getElem? (i := 120) rfl) rfl, kz_X3, by decide +kernel⟩
theorem pi_X3_init : Cond.instanceMethod yX3_init ∈ zW := zW_1 (List.mem_of_getElem? (i := 119) rfl) rfl
theorem pk_X2_init : zY yX2_init cX2_init 1 none 0 := ⟨zW_1 (List.mem_of_getElem? (i := 127) rfl) rfl, kz_X2, by decide +kernel⟩
theorem pi_X2_init : Cond.instanceMethod yX2_init ∈ zW := zW_1 (List.mem_of_getElem? (i := 126) rfl) rfl
theorem pk_X6_sign : zY yX6_sign cX6_sign 2 (some .int) 1 := ⟨zW_1 (List.mem_of_getElem? (i := 216) rfl) rfl, kz_X6, by decide +kernel⟩
theorem pi_X6_sign : Cond.instanceMethod yX6_sign ∈ zW := zW_1 (List.mem_of_getElem? (i := 214) rfl) rfl
theorem pv_X6_sign : zYV yX6_sign RX6 := ⟨zW_1 (List.mem_of_getElem? (i := 214) rfl) rfl, zW_1 (List.mem_of_getElem? (i := 215) rfl) rfl⟩
theorem pk_X5_addFour : zY yX5_addFour cX5_addFour 3 (some .boolean) 1 := ⟨zW_1 (List.mem_of_getElem? (i := 220) rfl) rfl, kz_X5, by decide +kernel⟩
theorem pi_X5_addFour : Cond.instanceMethod yX5_addFour ∈ zW := zW_1 (List.mem_of_getElem? (i := 218) rfl) rfl
theorem pv_X5_addFour : zYV yX5_addFour RX5 := ⟨zW_1 (List.mem_of_getElem? (i := 218) rfl) rfl, zW_1 (List.mem_of_getElem? (i := 219) rfl) rfl⟩
theorem pk_X6_end : zY yX6_end cX6_end 2 (some .boolean) 1 := ⟨zW_1 (List.mem_of_getElem? (i := 224) rfl) rfl, kz_X6, by decide +kernel⟩
theorem pi_X6_end : Cond.instanceMethod yX6_end ∈ zW := zW_1 (List.mem_of_getElem? (i := 222) rfl) rfl
theorem pv_X6_end : zYV yX6_end RX6 := ⟨zW_1 (List.mem_of_getElem? (i := 222) rfl) rfl, zW_1 (List.mem_of_getElem? (i := 223) rfl) rfl⟩
theorem pk_X5_cut : zY yX5_cut cX5_cut 2 (some .boolean) 1 := ⟨zW_1 (List.mem_of_getElem? (i := 228) rfl) rfl, kz_X5, by decide +kernel⟩
theorem pi_X5_cut : Cond.instanceMethod yX5_cut ∈ zW := zW_1 (List.mem_of_getElem? (i := 226) rfl) rfl
theorem pv_X5_cut : zYV yX5_cut RX5 := ⟨zW_1 (List.mem_of_getElem? (i := 226) rfl) rfl, zW_1 (List.mem_of_getElem? (i := 227) rfl) rfl⟩
theorem pk_X6_term : zY yX6_term cX6_term 2 (some .int) 0 := ⟨zW_1 (List.mem_of_getElem? (i := 232) rfl) rfl, kz_X6, by decide +kernel⟩
theorem pi_X6_term : Cond.instanceMethod yX6_term ∈ zW := zW_1 (List.mem_of_getElem? (i := 230) rfl) rfl
theorem pv_X6_term : zYV yX6_term RX6 := ⟨zW_1 (List.mem_of_getElem? (i := 230) rfl) rfl, zW_1 (List.mem_of_getElem? (i := 231) rfl) rfl⟩
theorem pk_X5_readOneName : zY yX5_readOneName cX5_readOneName 3 (some .int) 0 := ⟨zW_1 (List.mem_of_getElem? (i := 236) rfl) rfl, kz_X5, by decide +kernel⟩
theorem pi_X5_readOneName : Cond.instanceMethod yX5_readOneName ∈ zW := zW_1 (List.mem_of_getElem? (i := 234) rfl) rfl
theorem pv_X5_readOneName : zYV yX5_readOneName RX5 := ⟨zW_1 (List.mem_of_getElem? (i := 234) rfl) rfl, zW_1 (List.mem_of_getElem? (i := 235) rfl) rfl⟩
theorem pk_X5_start : zY yX5_start cX5_start 1 none 0 := ⟨zW_2 (List.mem_of_getElem? (i := 0) rfl) rfl, kz_X5, by decide +kernel⟩
theorem pi_X5_start : Cond.instanceMethod yX5_start ∈ zW := zW_1 (List.mem_of_getElem? (i := 239) rfl) rfl
theorem pv_X5_start : zYV yX5_start RX5 := ⟨zW_1 (List.mem_of_getElem? (i := 239) rfl) rfl, zP_1 (q := (yX5_start, 5)) (List.mem_of_getElem? (i := 0) rfl)⟩
theorem pk_X5_readName : zY yX5_readName cX5_readName 2 (some .int) 0 := ⟨zW_2 (List.mem_of_getElem? (i := 4) rfl) rfl, kz_X5, by decide +kernel⟩
theorem pi_X5_readName : Cond.instanceMethod yX5_readName ∈ zW := zW_2 (List.mem_of_getElem? (i := 3) rfl) rfl
theorem pv_X5_readName : zYV yX5_readName RX5 := ⟨zW_2 (List.mem_of_getElem? (i := 3) rfl) rfl, zP_1 (q := (yX5_readName, 5)) (List.mem_of_getElem? (i := 1) rfl)⟩
theorem pk_X5_isLetter : zY yX5_isLetter cX5_isLetter 1 (some .boolean) 0 := ⟨zW_2 (List.mem_of_getElem? (i := 8) rfl) rfl, kz_X5, by decide +kernel⟩
theorem pi_X5_isLetter : Cond.instanceMethod yX5_isLetter ∈ zW := zW_2 (List.mem_of_getElem? (i := 7) rfl) rfl
theorem pv_X5_isLetter : zYV yX5_isLetter RX5 := ⟨zW_2 (List.mem_of_getElem? (i := 7) rfl) rfl, zP_1 (q := (yX5_isLetter, 5)) (List.mem_of_getElem? (i := 2) rfl)⟩
theorem pk_X5_clear : zY yX5_clear cX5_clear 1 none 0 := ⟨zW_2 (List.mem_of_getElem? (i := 12) rfl) rfl, kz_X5, by decide +kernel⟩
theorem pi_X5_clear : Cond.instanceMethod yX5_clear ∈ zW := zW_2 (List.mem_of_getElem? (i := 10) rfl) rfl
theorem pv_X5_clear : zYV yX5_clear RX5 := ⟨zW_2 (List.mem_of_getElem? (i := 10) rfl) rfl, zW_2 (List.mem_of_getElem? (i := 11) rfl) rfl⟩
theorem pk_X5_wrongSign : zY yX5_wrongSign cX5_wrongSign 1 (some .int) 0 := ⟨zW_2 (List.mem_of_getElem? (i := 16) rfl) rfl, kz_X5, by decide +kernel⟩
theorem pi_X5_wrongSign : Cond.instanceMethod yX5_wrongSign ∈ zW := zW_2 (List.mem_of_getElem? (i := 14) rfl) rfl
theorem pv_X5_wrongSign : zYV yX5_wrongSign RX5 := ⟨zW_2 (List.mem_of_getElem? (i := 14) rfl) rfl, zW_2 (List.mem_of_getElem? (i := 15) rfl) rfl⟩
theorem pk_X2_ownerOf : zY yX2_ownerOf cX2_ownerOf 3 (some .int) 1 := ⟨zW_2 (List.mem_of_getElem? (i := 20) rfl) rfl, kz_X2, by decide +kernel⟩
theorem pi_X2_ownerOf : Cond.instanceMethod yX2_ownerOf ∈ zW := zW_2 (List.mem_of_getElem? (i := 18) rfl) rfl
theorem pv_X2_ownerOf : zYV yX2_ownerOf RX2 := ⟨zW_2 (List.mem_of_getElem? (i := 18) rfl) rfl, zW_2 (List.mem_of_getElem? (i := 19) rfl) rfl⟩
theorem pk_X3_remember : zY yX3_remember cX3_remember 2 none 1 := ⟨zW_2 (List.mem_of_getElem? (i := 24) rfl) rfl, kz_X3, by decide +kernel⟩
theorem pi_X3_remember : Cond.instanceMethod yX3_remember ∈ zW := zW_2 (List.mem_of_getElem? (i := 22) rfl) rfl
theorem pv_X3_remember : zYV yX3_remember RX3 := ⟨zW_2 (List.mem_of_getElem? (i := 22) rfl) rfl, zW_2 (List.mem_of_getElem? (i := 23) rfl) rfl⟩
theorem pk_X2_copyFrom : zY yX2_copyFrom cX2_copyFrom 2 none 1 := ⟨zW_2 (List.mem_of_getElem? (i := 28) rfl) rfl, kz_X2, by decide +kernel⟩
theorem pi_X2_copyFrom : Cond.instanceMethod yX2_copyFrom ∈ zW := zW_2 (List.mem_of_getElem? (i := 26) rfl) rfl
theorem pv_X2_copyFrom : zYV yX2_copyFrom RX2 := ⟨zW_2 (List.mem_of_getElem? (i := 26) rfl) rfl, zW_2 (List.mem_of_getElem? (i := 27) rfl) rfl⟩
theorem pk_X2_newTerm : zY yX2_newTerm cX2_newTerm 3 (some .int) 1 := ⟨zW_2 (List.mem_of_getElem? (i := 35) rfl) rfl, kz_X2, by decide +kernel⟩
theorem pi_X2_newTerm : Cond.instanceMethod yX2_newTerm ∈ zW := zW_2 (List.mem_of_getElem? (i := 33) rfl) rfl
theorem pv_X2_newTerm : zYV yX2_newTerm RX2 := ⟨zW_2 (List.mem_of_getElem? (i := 33) rfl) rfl, zW_2 (List.mem_of_getElem? (i := 34) rfl) rfl⟩
theorem pk_X6_holds : zY yX6_holds cX6_holds 2 (some .boolean) 2 := ⟨zW_2 (List.mem_of_getElem? (i := 38) rfl) rfl, kz_X6, by decide +kernel⟩
theorem ps_X6_holds : Cond.static yX6_holds ∈ zW := zW_2 (List.mem_of_getElem? (i := 37) rfl) rfl
theorem pk_X2_addName : zY yX2_addName cX2_addName 3 none 2 := ⟨zW_2 (List.mem_of_getElem? (i := 42) rfl) rfl, kz_X2, by decide +kernel⟩
theorem pi_X2_addName : Cond.instanceMethod yX2_addName ∈ zW := zW_2 (List.mem_of_getElem? (i := 40) rfl) rfl
theorem pv_X2_addName : zYV yX2_addName RX2 := ⟨zW_2 (List.mem_of_getElem? (i := 40) rfl) rfl, zW_2 (List.mem_of_getElem? (i := 41) rfl) rfl⟩
theorem pk_X6_settled : zY yX6_settled cX6_settled 2 (some .int) 1 := ⟨zW_2 (List.mem_of_getElem? (i := 46) rfl) rfl, kz_X6, by decide +kernel⟩
theorem pi_X6_settled : Cond.instanceMethod yX6_settled ∈ zW := zW_2 (List.mem_of_getElem? (i := 45) rfl) rfl
theorem pv_X6_settled : zYV yX6_settled RX6 := ⟨zW_2 (List.mem_of_getElem? (i := 45) rfl) rfl, zP_1 (q := (yX6_settled, 9)) (List.mem_of_getElem? (i := 3) rfl)⟩
theorem pk_X3_commit : zY yX3_commit cX3_commit 2 none 0 := ⟨zW_2 (List.mem_of_getElem? (i := 50) rfl) rfl, kz_X3, by decide +kernel⟩
theorem pi_X3_commit : Cond.instanceMethod yX3_commit ∈ zW := zW_2 (List.mem_of_getElem? (i := 48) rfl) rfl
theorem pv_X3_commit : zYV yX3_commit RX3 := ⟨zW_2 (List.mem_of_getElem? (i := 48) rfl) rfl, zW_2 (List.mem_of_getElem? (i := 49) rfl) rfl⟩
theorem pk_X3_forgetFirst : zY yX3_forgetFirst cX3_forgetFirst 3 none 0 := ⟨zW_2 (List.mem_of_getElem? (i := 54) rfl) rfl, kz_X3, by decide +kernel⟩
theorem pi_X3_forgetFirst : Cond.instanceMethod yX3_forgetFirst ∈ zW := zW_2 (List.mem_of_getElem? (i := 53) rfl) rfl
theorem pv_X3_forgetFirst : zYV yX3_forgetFirst RX3 := ⟨zW_2 (List.mem_of_getElem? (i := 53) rfl) rfl, zP_1 (q := (yX3_forgetFirst, 3)) (List.mem_of_getElem? (i := 4) rfl)⟩
theorem pk_X6_label : zY yX6_label cX6_label 3 (some .int) 1 := ⟨zW_2 (List.mem_of_getElem? (i := 58) rfl) rfl, kz_X6, by decide +kernel⟩
theorem pi_X6_label : Cond.instanceMethod yX6_label ∈ zW := zW_2 (List.mem_of_getElem? (i := 56) rfl) rfl
theorem pv_X6_label : zYV yX6_label RX6 := ⟨zW_2 (List.mem_of_getElem? (i := 56) rfl) rfl, zW_2 (List.mem_of_getElem? (i := 57) rfl) rfl⟩
theorem pk_X2_has : zY yX2_has cX2_has 2 (some .boolean) 1 := ⟨zW_2 (List.mem_of_getElem? (i := 62) rfl) rfl, kz_X2, by decide +kernel⟩
theorem pi_X2_has : Cond.instanceMethod yX2_has ∈ zW := zW_2 (List.mem_of_getElem? (i := 60) rfl) rfl
theorem pv_X2_has : zYV yX2_has RX2 := ⟨zW_2 (List.mem_of_getElem? (i := 60) rfl) rfl, zW_2 (List.mem_of_getElem? (i := 61) rfl) rfl⟩
theorem pk_X2_namesOf : zY yX2_namesOf cX2_namesOf 4 (some .int) 1 := ⟨zW_2 (List.mem_of_getElem? (i := 67) rfl) rfl, kz_X2, by decide +kernel⟩
theorem pi_X2_namesOf : Cond.instanceMethod yX2_namesOf ∈ zW := zW_2 (List.mem_of_getElem? (i := 65) rfl) rfl
theorem pv_X2_namesOf : zYV yX2_namesOf RX2 := ⟨zW_2 (List.mem_of_getElem? (i := 65) rfl) rfl, zW_2 (List.mem_of_getElem? (i := 66) rfl) rfl⟩
theorem pk_X6_named : zY yX6_named cX6_named 3 (some .int) 0 := ⟨zW_2 (List.mem_of_getElem? (i := 71) rfl) rfl, kz_X6, by decide +kernel⟩
theorem pi_X6_named : Cond.instanceMethod yX6_named ∈ zW := zW_2 (List.mem_of_getElem? (i := 69) rfl) rfl
theorem pv_X6_named : zYV yX6_named RX6 := ⟨zW_2 (List.mem_of_getElem? (i := 69) rfl) rfl, zW_2 (List.mem_of_getElem? (i := 70) rfl) rfl⟩
theorem pk_X6_labels : zY yX6_labels cX6_labels 3 (some .int) 1 := ⟨zW_2 (List.mem_of_getElem? (i := 75) rfl) rfl, kz_X6, by decide +kernel⟩
theorem pi_X6_labels : Cond.instanceMethod yX6_labels ∈ zW := zW_2 (List.mem_of_getElem? (i := 73) rfl) rfl
theorem pv_X6_labels : zYV yX6_labels RX6 := ⟨zW_2 (List.mem_of_getElem? (i := 73) rfl) rfl, zW_2 (List.mem_of_getElem? (i := 74) rfl) rfl⟩
theorem pk_X4_clear : zY yX4_clear cX4_clear 1 none 0 := ⟨zW_2 (List.mem_of_getElem? (i := 79) rfl) rfl, kz_X4, by decide +kernel⟩
theorem pi_X4_clear : Cond.instanceMethod yX4_clear ∈ zW := zW_2 (List.mem_of_getElem? (i := 77) rfl) rfl
theorem pv_X4_clear : zYV yX4_clear RX4 := ⟨zW_2 (List.mem_of_getElem? (i := 77) rfl) rfl, zW_2 (List.mem_of_getElem? (i := 78) rfl) rfl⟩
theorem pk_X4_add : zY yX4_add cX4_add 3 none 1 := ⟨zW_2 (List.mem_of_getElem? (i := 83) rfl) rfl, kz_X4, by decide +kernel⟩
theorem pi_X4_add : Cond.instanceMethod yX4_add ∈ zW := zW_2 (List.mem_of_getElem? (i := 81) rfl) rfl
theorem pv_X4_add : zYV yX4_add RX4 := ⟨zW_2 (List.mem_of_getElem? (i := 81) rfl) rfl, zW_2 (List.mem_of_getElem? (i := 82) rfl) rfl⟩
theorem pk_X6_links : zY yX6_links cX6_links 3 (some .int) 2 := ⟨zW_2 (List.mem_of_getElem? (i := 87) rfl) rfl, kz_X6, by decide +kernel⟩
theorem pi_X6_links : Cond.instanceMethod yX6_links ∈ zW := zW_2 (List.mem_of_getElem? (i := 85) rfl) rfl
theorem pv_X6_links : zYV yX6_links RX6 := ⟨zW_2 (List.mem_of_getElem? (i := 85) rfl) rfl, zW_2 (List.mem_of_getElem? (i := 86) rfl) rfl⟩
theorem pk_X0_link : zY yX0_link cX0_link 4 (some .int) 3 := ⟨zW_2 (List.mem_of_getElem? (i := 91) rfl) rfl, kz_X0, by decide +kernel⟩
theorem pi_X0_link : Cond.instanceMethod yX0_link ∈ zW := zW_2 (List.mem_of_getElem? (i := 89) rfl) rfl
theorem pv_X0_link : zYV yX0_link RX0 := ⟨zW_2 (List.mem_of_getElem? (i := 89) rfl) rfl, zW_2 (List.mem_of_getElem? (i := 90) rfl) rfl⟩
theorem pk_X2_hasPair : zY yX2_hasPair cX2_hasPair 3 (some .boolean) 2 := ⟨zW_2 (List.mem_of_getElem? (i := 95) rfl) rfl, kz_X2, by decide +kernel⟩
theorem pi_X2_hasPair : Cond.instanceMethod yX2_hasPair ∈ zW := zW_2 (List.mem_of_getElem? (i := 93) rfl) rfl
theorem pv_X2_hasPair : zYV yX2_hasPair RX2 := ⟨zW_2 (List.mem_of_getElem? (i := 93) rfl) rfl, zW_2 (List.mem_of_getElem? (i := 94) rfl) rfl⟩
theorem pk_X1_findWay : zY yX1_findWay cX1_findWay 10 (some .int) 4 := ⟨zW_2 (List.mem_of_getElem? (i := 101) rfl) rfl, kz_X1, by decide +kernel⟩
theorem pi_X1_findWay : Cond.instanceMethod yX1_findWay ∈ zW := zW_2 (List.mem_of_getElem? (i := 99) rfl) rfl
theorem pv_X1_findWay : zYV yX1_findWay RX1 := ⟨zW_2 (List.mem_of_getElem? (i := 99) rfl) rfl, zW_2 (List.mem_of_getElem? (i := 100) rfl) rfl⟩
theorem pk_X1_tellWay : zY yX1_tellWay cX1_tellWay 6 none 3 := ⟨zW_2 (List.mem_of_getElem? (i := 106) rfl) rfl, kz_X1, by decide +kernel⟩
theorem pi_X1_tellWay : Cond.instanceMethod yX1_tellWay ∈ zW := zW_2 (List.mem_of_getElem? (i := 104) rfl) rfl
theorem pv_X1_tellWay : zYV yX1_tellWay RX1 := ⟨zW_2 (List.mem_of_getElem? (i := 104) rfl) rfl, zW_2 (List.mem_of_getElem? (i := 105) rfl) rfl⟩
theorem pk_X4_tell : zY yX4_tell cX4_tell 3 none 1 := ⟨zW_2 (List.mem_of_getElem? (i := 110) rfl) rfl, kz_X4, by decide +kernel⟩
theorem pi_X4_tell : Cond.instanceMethod yX4_tell ∈ zW := zW_2 (List.mem_of_getElem? (i := 108) rfl) rfl
theorem pv_X4_tell : zYV yX4_tell RX4 := ⟨zW_2 (List.mem_of_getElem? (i := 108) rfl) rfl, zW_2 (List.mem_of_getElem? (i := 109) rfl) rfl⟩
theorem pk_X1_leastOf : zY yX1_leastOf cX1_leastOf 2 (some .int) 1 := ⟨zW_2 (List.mem_of_getElem? (i := 115) rfl) rfl, kz_X1, by decide +kernel⟩
theorem ps_X1_leastOf : Cond.static yX1_leastOf ∈ zW := zW_2 (List.mem_of_getElem? (i := 114) rfl) rfl
theorem pk_X2_come : zY yX2_come cX2_come 4 (some .int) 2 := ⟨zW_2 (List.mem_of_getElem? (i := 120) rfl) rfl, kz_X2, by decide +kernel⟩
theorem pi_X2_come : Cond.instanceMethod yX2_come ∈ zW := zW_2 (List.mem_of_getElem? (i := 118) rfl) rfl
theorem pv_X2_come : zYV yX2_come RX2 := ⟨zW_2 (List.mem_of_getElem? (i := 118) rfl) rfl, zW_2 (List.mem_of_getElem? (i := 119) rfl) rfl⟩
theorem pk_X2_placeOf : zY yX2_placeOf cX2_placeOf 3 (some .int) 1 := ⟨zW_2 (List.mem_of_getElem? (i := 124) rfl) rfl, kz_X2, by decide +kernel⟩
theorem pi_X2_placeOf : Cond.instanceMethod yX2_placeOf ∈ zW := zW_2 (List.mem_of_getElem? (i := 122) rfl) rfl
theorem pv_X2_placeOf : zYV yX2_placeOf RX2 := ⟨zW_2 (List.mem_of_getElem? (i := 122) rfl) rfl, zW_2 (List.mem_of_getElem? (i := 123) rfl) rfl⟩
theorem pk_X2_above : zY yX2_above cX2_above 4 (some .int) 1 := ⟨zW_2 (List.mem_of_getElem? (i := 128) rfl) rfl, kz_X2, by decide +kernel⟩
theorem pi_X2_above : Cond.instanceMethod yX2_above ∈ zW := zW_2 (List.mem_of_getElem? (i := 126) rfl) rfl
theorem pv_X2_above : zYV yX2_above RX2 := ⟨zW_2 (List.mem_of_getElem? (i := 126) rfl) rfl, zW_2 (List.mem_of_getElem? (i := 127) rfl) rfl⟩
theorem pk_X2_below : zY yX2_below cX2_below 4 (some .int) 1 := ⟨zW_2 (List.mem_of_getElem? (i := 132) rfl) rfl, kz_X2, by decide +kernel⟩
theorem pi_X2_below : Cond.instanceMethod yX2_below ∈ zW := zW_2 (List.mem_of_getElem? (i := 130) rfl) rfl
theorem pv_X2_below : zYV yX2_below RX2 := ⟨zW_2 (List.mem_of_getElem? (i := 130) rfl) rfl, zW_2 (List.mem_of_getElem? (i := 131) rfl) rfl⟩
theorem pk_X2_mend : zY yX2_mend cX2_mend 9 (some .int) 4 := ⟨zW_2 (List.mem_of_getElem? (i := 136) rfl) rfl, kz_X2, by decide +kernel⟩
theorem pi_X2_mend : Cond.instanceMethod yX2_mend ∈ zW := zW_2 (List.mem_of_getElem? (i := 135) rfl) rfl
theorem pv_X2_mend : zYV yX2_mend RX2 := ⟨zW_2 (List.mem_of_getElem? (i := 135) rfl) rfl, zP_1 (q := (yX2_mend, 9)) (List.mem_of_getElem? (i := 5) rfl)⟩
theorem pk_X2_gather : zY yX2_gather cX2_gather 7 (some .int) 4 := ⟨zW_2 (List.mem_of_getElem? (i := 140) rfl) rfl, kz_X2, by decide +kernel⟩
theorem pi_X2_gather : Cond.instanceMethod yX2_gather ∈ zW := zW_2 (List.mem_of_getElem? (i := 139) rfl) rfl
theorem pv_X2_gather : zYV yX2_gather RX2 := ⟨zW_2 (List.mem_of_getElem? (i := 139) rfl) rfl, zP_1 (q := (yX2_gather, 9)) (List.mem_of_getElem? (i := 6) rfl)⟩
theorem pk_X6_unlinks : zY yX6_unlinks cX6_unlinks 3 (some .int) 2 := ⟨zW_2 (List.mem_of_getElem? (i := 144) rfl) rfl, kz_X6, by decide +kernel⟩
theorem pi_X6_unlinks : Cond.instanceMethod yX6_unlinks ∈ zW := zW_2 (List.mem_of_getElem? (i := 142) rfl) rfl
theorem pv_X6_unlinks : zYV yX6_unlinks RX6 := ⟨zW_2 (List.mem_of_getElem? (i := 142) rfl) rfl, zW_2 (List.mem_of_getElem? (i := 143) rfl) rfl⟩
theorem pk_X0_unlink : zY yX0_unlink cX0_unlink 4 (some .int) 3 := ⟨zW_2 (List.mem_of_getElem? (i := 148) rfl) rfl, kz_X0, by decide +kernel⟩
theorem pi_X0_unlink : Cond.instanceMethod yX0_unlink ∈ zW := zW_2 (List.mem_of_getElem? (i := 146) rfl) rfl
theorem pv_X0_unlink : zYV yX0_unlink RX0 := ⟨zW_2 (List.mem_of_getElem? (i := 146) rfl) rfl, zW_2 (List.mem_of_getElem? (i := 147) rfl) rfl⟩
theorem pk_X2_linkCount : zY yX2_linkCount cX2_linkCount 1 (some .int) 0 := ⟨zW_2 (List.mem_of_getElem? (i := 152) rfl) rfl, kz_X2, by decide +kernel⟩
theorem pi_X2_linkCount : Cond.instanceMethod yX2_linkCount ∈ zW := zW_2 (List.mem_of_getElem? (i := 150) rfl) rfl
theorem pv_X2_linkCount : zYV yX2_linkCount RX2 := ⟨zW_2 (List.mem_of_getElem? (i := 150) rfl) rfl, zW_2 (List.mem_of_getElem? (i := 151) rfl) rfl⟩
theorem pk_X2_linksAmong : zY yX2_linksAmong cX2_linksAmong 4 (some .int) 1 := ⟨zW_2 (List.mem_of_getElem? (i := 156) rfl) rfl, kz_X2, by decide +kernel⟩
theorem pi_X2_linksAmong : Cond.instanceMethod yX2_linksAmong ∈ zW := zW_2 (List.mem_of_getElem? (i := 154) rfl) rfl
theorem pv_X2_linksAmong : zYV yX2_linksAmong RX2 := ⟨zW_2 (List.mem_of_getElem? (i := 154) rfl) rfl, zW_2 (List.mem_of_getElem? (i := 155) rfl) rfl⟩
theorem pk_J6_bitCount_0f7a4 : zY yJ6_bitCount_0f7a4 cJ6_bitCount_0f7a4 1 (some .int) 1 := ⟨zW_2 (List.mem_of_getElem? (i := 159) rfl) rfl, kz_J6, by decide +kernel⟩
theorem ps_J6_bitCount_0f7a4 : Cond.static yJ6_bitCount_0f7a4 ∈ zW := zW_2 (List.mem_of_getElem? (i := 158) rfl) rfl
theorem pk_X6_net : zY yX6_net cX6_net 4 (some .int) 0 := ⟨zW_2 (List.mem_of_getElem? (i := 166) rfl) rfl, kz_X6, by decide +kernel⟩
theorem pi_X6_net : Cond.instanceMethod yX6_net ∈ zW := zW_2 (List.mem_of_getElem? (i := 164) rfl) rfl
theorem pv_X6_net : zYV yX6_net RX6 := ⟨zW_2 (List.mem_of_getElem? (i := 164) rfl) rfl, zW_2 (List.mem_of_getElem? (i := 165) rfl) rfl⟩
theorem pk_X5_readLinks : zY yX5_readLinks cX5_readLinks 5 (some .boolean) 1 := ⟨zW_2 (List.mem_of_getElem? (i := 170) rfl) rfl, kz_X5, by decide +kernel⟩
theorem pi_X5_readLinks : Cond.instanceMethod yX5_readLinks ∈ zW := zW_2 (List.mem_of_getElem? (i := 168) rfl) rfl
theorem pv_X5_readLinks : zYV yX5_readLinks RX5 := ⟨zW_2 (List.mem_of_getElem? (i := 168) rfl) rfl, zW_2 (List.mem_of_getElem? (i := 169) rfl) rfl⟩
theorem pk_X5_readTerm : zY yX5_readTerm cX5_readTerm 5 (some .int) 1 := ⟨zW_2 (List.mem_of_getElem? (i := 174) rfl) rfl, kz_X5, by decide +kernel⟩
theorem pi_X5_readTerm : Cond.instanceMethod yX5_readTerm ∈ zW := zW_2 (List.mem_of_getElem? (i := 173) rfl) rfl
theorem pv_X5_readTerm : zYV yX5_readTerm RX5 := ⟨zW_2 (List.mem_of_getElem? (i := 173) rfl) rfl, zP_1 (q := (yX5_readTerm, 5)) (List.mem_of_getElem? (i := 7) rfl)⟩
theorem pk_X5_passes : zY yX5_passes cX5_passes 2 (some .boolean) 1 := ⟨zW_2 (List.mem_of_getElem? (i := 179) rfl) rfl, kz_X5, by decide +kernel⟩
theorem pi_X5_passes : Cond.instanceMethod yX5_passes ∈ zW := zW_2 (List.mem_of_getElem? (i := 178) rfl) rfl
theorem pv_X5_passes : zYV yX5_passes RX5 := ⟨zW_2 (List.mem_of_getElem? (i := 178) rfl) rfl, zP_1 (q := (yX5_passes, 5)) (List.mem_of_getElem? (i := 8) rfl)⟩
theorem pk_X5_addWord : zY yX5_addWord cX5_addWord 2 none 1 := ⟨zW_2 (List.mem_of_getElem? (i := 183) rfl) rfl, kz_X5, by decide +kernel⟩
theorem pi_X5_addWord : Cond.instanceMethod yX5_addWord ∈ zW := zW_2 (List.mem_of_getElem? (i := 182) rfl) rfl
theorem pv_X5_addWord : zYV yX5_addWord RX5 := ⟨zW_2 (List.mem_of_getElem? (i := 182) rfl) rfl, zP_1 (q := (yX5_addWord, 5)) (List.mem_of_getElem? (i := 9) rfl)⟩
theorem pk_X0_linkOrPass : zY yX0_linkOrPass cX0_linkOrPass 4 (some .boolean) 2 := ⟨zW_2 (List.mem_of_getElem? (i := 189) rfl) rfl, kz_X0, by decide +kernel⟩
theorem pi_X0_linkOrPass : Cond.instanceMethod yX0_linkOrPass ∈ zW := zW_2 (List.mem_of_getElem? (i := 187) rfl) rfl
theorem pv_X0_linkOrPass : zYV yX0_linkOrPass RX0 := ⟨zW_2 (List.mem_of_getElem? (i := 187) rfl) rfl, zW_2 (List.mem_of_getElem? (i := 188) rfl) rfl⟩
theorem pk_X6_would : zY yX6_would cX6_would 5 (some .int) 2 := ⟨zW_2 (List.mem_of_getElem? (i := 195) rfl) rfl, kz_X6, by decide +kernel⟩
theorem pi_X6_would : Cond.instanceMethod yX6_would ∈ zW := zW_2 (List.mem_of_getElem? (i := 193) rfl) rfl
theorem pv_X6_would : zYV yX6_would RX6 := ⟨zW_2 (List.mem_of_getElem? (i := 193) rfl) rfl, zW_2 (List.mem_of_getElem? (i := 194) rfl) rfl⟩
theorem pk_X6_kin : zY yX6_kin cX6_kin 4 (some .int) 2 := ⟨zW_2 (List.mem_of_getElem? (i := 200) rfl) rfl, kz_X6, by decide +kernel⟩
theorem pi_X6_kin : Cond.instanceMethod yX6_kin ∈ zW := zW_2 (List.mem_of_getElem? (i := 198) rfl) rfl
theorem pv_X6_kin : zYV yX6_kin RX6 := ⟨zW_2 (List.mem_of_getElem? (i := 198) rfl) rfl, zW_2 (List.mem_of_getElem? (i := 199) rfl) rfl⟩
theorem pk_X6_kinOf : zY yX6_kinOf cX6_kinOf 3 (some .int) 2 := ⟨zW_2 (List.mem_of_getElem? (i := 204) rfl) rfl, kz_X6, by decide +kernel⟩
theorem pi_X6_kinOf : Cond.instanceMethod yX6_kinOf ∈ zW := zW_2 (List.mem_of_getElem? (i := 203) rfl) rfl
theorem pv_X6_kinOf : zYV yX6_kinOf RX6 := ⟨zW_2 (List.mem_of_getElem? (i := 203) rfl) rfl, zP_1 (q := (yX6_kinOf, 9)) (List.mem_of_getElem? (i := 10) rfl)⟩
theorem pk_X2_broaderOf : zY yX2_broaderOf cX2_broaderOf 4 (some .int) 1 := ⟨zW_2 (List.mem_of_getElem? (i := 208) rfl) rfl, kz_X2, by decide +kernel⟩
theorem pi_X2_broaderOf : Cond.instanceMethod yX2_broaderOf ∈ zW := zW_2 (List.mem_of_getElem? (i := 206) rfl) rfl
theorem pv_X2_broaderOf : zYV yX2_broaderOf RX2 := ⟨zW_2 (List.mem_of_getElem? (i := 206) rfl) rfl, zW_2 (List.mem_of_getElem? (i := 207) rfl) rfl⟩
theorem pk_X6_way : zY yX6_way cX6_way 4 (some .int) 2 := ⟨zW_2 (List.mem_of_getElem? (i := 215) rfl) rfl, kz_X6, by decide +kernel⟩
theorem pi_X6_way : Cond.instanceMethod yX6_way ∈ zW := zW_2 (List.mem_of_getElem? (i := 213) rfl) rfl
theorem pv_X6_way : zYV yX6_way RX6 := ⟨zW_2 (List.mem_of_getElem? (i := 213) rfl) rfl, zW_2 (List.mem_of_getElem? (i := 214) rfl) rfl⟩
theorem pk_X6_ways : zY yX6_ways cX6_ways 5 (some .int) 2 := ⟨zW_2 (List.mem_of_getElem? (i := 222) rfl) rfl, kz_X6, by decide +kernel⟩
theorem pi_X6_ways : Cond.instanceMethod yX6_ways ∈ zW := zW_2 (List.mem_of_getElem? (i := 220) rfl) rfl
theorem pv_X6_ways : zYV yX6_ways RX6 := ⟨zW_2 (List.mem_of_getElem? (i := 220) rfl) rfl, zW_2 (List.mem_of_getElem? (i := 221) rfl) rfl⟩
theorem pk_X1_countWays : zY yX1_countWays cX1_countWays 6 none 2 := ⟨zW_2 (List.mem_of_getElem? (i := 226) rfl) rfl, kz_X1, by decide +kernel⟩
theorem pi_X1_countWays : Cond.instanceMethod yX1_countWays ∈ zW := zW_2 (List.mem_of_getElem? (i := 224) rfl) rfl
theorem pv_X1_countWays : zYV yX1_countWays RX1 := ⟨zW_2 (List.mem_of_getElem? (i := 224) rfl) rfl, zW_2 (List.mem_of_getElem? (i := 225) rfl) rfl⟩
theorem pk_J9_max_7cf53 : zY yJ9_max_7cf53 cJ9_max_7cf53 2 (some .int) 2 := ⟨zW_2 (List.mem_of_getElem? (i := 229) rfl) rfl, kz_J9, by decide +kernel⟩
theorem ps_J9_max_7cf53 : Cond.static yJ9_max_7cf53 ∈ zW := zW_2 (List.mem_of_getElem? (i := 228) rfl) rfl
theorem pk_X6_between : zY yX6_between cX6_between 5 (some .int) 2 := ⟨zW_2 (List.mem_of_getElem? (i := 233) rfl) rfl, kz_X6, by decide +kernel⟩
theorem pi_X6_between : Cond.instanceMethod yX6_between ∈ zW := zW_2 (List.mem_of_getElem? (i := 231) rfl) rfl
theorem pv_X6_between : zYV yX6_between RX6 := ⟨zW_2 (List.mem_of_getElem? (i := 231) rfl) rfl, zW_2 (List.mem_of_getElem? (i := 232) rfl) rfl⟩
theorem pk_X6_meets : zY yX6_meets cX6_meets 4 (some .int) 2 := ⟨zW_2 (List.mem_of_getElem? (i := 239) rfl) rfl, kz_X6, by decide +kernel⟩
theorem pi_X6_meets : Cond.instanceMethod yX6_meets ∈ zW := zW_2 (List.mem_of_getElem? (i := 237) rfl) rfl
theorem pv_X6_meets : zYV yX6_meets RX6 := ⟨zW_2 (List.mem_of_getElem? (i := 237) rfl) rfl, zW_2 (List.mem_of_getElem? (i := 238) rfl) rfl⟩
theorem pk_X2_withOthersBelow : zY yX2_withOthersBelow cX2_withOthersBelow 4 (some .int) 1 := ⟨zW_3 (List.mem_of_getElem? (i := 3) rfl) rfl, kz_X2, by decide +kernel⟩
theorem pi_X2_withOthersBelow : Cond.instanceMethod yX2_withOthersBelow ∈ zW := zW_3 (List.mem_of_getElem? (i := 1) rfl) rfl
theorem pv_X2_withOthersBelow : zYV yX2_withOthersBelow RX2 := ⟨zW_3 (List.mem_of_getElem? (i := 1) rfl) rfl, zW_3 (List.mem_of_getElem? (i := 2) rfl) rfl⟩
theorem pk_X6_steps : zY yX6_steps cX6_steps 5 (some .int) 2 := ⟨zW_3 (List.mem_of_getElem? (i := 7) rfl) rfl, kz_X6, by decide +kernel⟩
theorem pi_X6_steps : Cond.instanceMethod yX6_steps ∈ zW := zW_3 (List.mem_of_getElem? (i := 5) rfl) rfl
theorem pv_X6_steps : zYV yX6_steps RX6 := ⟨zW_3 (List.mem_of_getElem? (i := 5) rfl) rfl, zW_3 (List.mem_of_getElem? (i := 6) rfl) rfl⟩
theorem pk_X2_withNeighbours : zY yX2_withNeighbours cX2_withNeighbours 4 (some .int) 1 := ⟨zW_3 (List.mem_of_getElem? (i := 11) rfl) rfl, kz_X2, by decide +kernel⟩
theorem pi_X2_withNeighbours : Cond.instanceMethod yX2_withNeighbours ∈ zW := zW_3 (List.mem_of_getElem? (i := 9) rfl) rfl
theorem pv_X2_withNeighbours : zYV yX2_withNeighbours RX2 := ⟨zW_3 (List.mem_of_getElem? (i := 9) rfl) rfl, zW_3 (List.mem_of_getElem? (i := 10) rfl) rfl⟩
theorem pk_X6_depth : zY yX6_depth cX6_depth 2 (some .int) 1 := ⟨zW_3 (List.mem_of_getElem? (i := 15) rfl) rfl, kz_X6, by decide +kernel⟩
theorem pi_X6_depth : Cond.instanceMethod yX6_depth ∈ zW := zW_3 (List.mem_of_getElem? (i := 13) rfl) rfl
theorem pv_X6_depth : zYV yX6_depth RX6 := ⟨zW_3 (List.mem_of_getElem? (i := 13) rfl) rfl, zW_3 (List.mem_of_getElem? (i := 14) rfl) rfl⟩
theorem pk_X1_measureUpwards : zY yX1_measureUpwards cX1_measureUpwards 5 none 1 := ⟨zW_3 (List.mem_of_getElem? (i := 19) rfl) rfl, kz_X1, by decide +kernel⟩
theorem pi_X1_measureUpwards : Cond.instanceMethod yX1_measureUpwards ∈ zW := zW_3 (List.mem_of_getElem? (i := 17) rfl) rfl
theorem pv_X1_measureUpwards : zYV yX1_measureUpwards RX1 := ⟨zW_3 (List.mem_of_getElem? (i := 17) rfl) rfl, zW_3 (List.mem_of_getElem? (i := 18) rfl) rfl⟩
theorem pk_X1_clearLongest : zY yX1_clearLongest cX1_clearLongest 2 none 0 := ⟨zW_3 (List.mem_of_getElem? (i := 23) rfl) rfl, kz_X1, by decide +kernel⟩
theorem pi_X1_clearLongest : Cond.instanceMethod yX1_clearLongest ∈ zW := zW_3 (List.mem_of_getElem? (i := 22) rfl) rfl
theorem pv_X1_clearLongest : zYV yX1_clearLongest RX1 := ⟨zW_3 (List.mem_of_getElem? (i := 22) rfl) rfl, zP_1 (q := (yX1_clearLongest, 7)) (List.mem_of_getElem? (i := 11) rfl)⟩
theorem pk_X1_measureDownwards : zY yX1_measureDownwards cX1_measureDownwards 5 none 1 := ⟨zW_3 (List.mem_of_getElem? (i := 27) rfl) rfl, kz_X1, by decide +kernel⟩
theorem pi_X1_measureDownwards : Cond.instanceMethod yX1_measureDownwards ∈ zW := zW_3 (List.mem_of_getElem? (i := 25) rfl) rfl
theorem pv_X1_measureDownwards : zYV yX1_measureDownwards RX1 := ⟨zW_3 (List.mem_of_getElem? (i := 25) rfl) rfl, zW_3 (List.mem_of_getElem? (i := 26) rfl) rfl⟩
theorem pk_X6_tops : zY yX6_tops cX6_tops 5 (some .int) 0 := ⟨zW_3 (List.mem_of_getElem? (i := 31) rfl) rfl, kz_X6, by decide +kernel⟩
theorem pi_X6_tops : Cond.instanceMethod yX6_tops ∈ zW := zW_3 (List.mem_of_getElem? (i := 29) rfl) rfl
theorem pv_X6_tops : zYV yX6_tops RX6 := ⟨zW_3 (List.mem_of_getElem? (i := 29) rfl) rfl, zW_3 (List.mem_of_getElem? (i := 30) rfl) rfl⟩
theorem pk_X6_needless : zY yX6_needless cX6_needless 4 (some .int) 0 := ⟨zW_3 (List.mem_of_getElem? (i := 35) rfl) rfl, kz_X6, by decide +kernel⟩
theorem pi_X6_needless : Cond.instanceMethod yX6_needless ∈ zW := zW_3 (List.mem_of_getElem? (i := 33) rfl) rfl
theorem pv_X6_needless : zYV yX6_needless RX6 := ⟨zW_3 (List.mem_of_getElem? (i := 33) rfl) rfl, zW_3 (List.mem_of_getElem? (i := 34) rfl) rfl⟩
theorem pk_X2_needlessFrom : zY yX2_needlessFrom cX2_needlessFrom 4 (some .int) 1 := ⟨zW_3 (List.mem_of_getElem? (i := 39) rfl) rfl, kz_X2, by decide +kernel⟩
theorem pi_X2_needlessFrom : Cond.instanceMethod yX2_needlessFrom ∈ zW := zW_3 (List.mem_of_getElem? (i := 37) rfl) rfl
theorem pv_X2_needlessFrom : zYV yX2_needlessFrom RX2 := ⟨zW_3 (List.mem_of_getElem? (i := 37) rfl) rfl, zW_3 (List.mem_of_getElem? (i := 38) rfl) rfl⟩
theorem pk_X6_chains : zY yX6_chains cX6_chains 3 (some .int) 0 := ⟨zW_3 (List.mem_of_getElem? (i := 43) rfl) rfl, kz_X6, by decide +kernel⟩
theorem pi_X6_chains : Cond.instanceMethod yX6_chains ∈ zW := zW_3 (List.mem_of_getElem? (i := 41) rfl) rfl
theorem pv_X6_chains : zYV yX6_chains RX6 := ⟨zW_3 (List.mem_of_getElem? (i := 41) rfl) rfl, zW_3 (List.mem_of_getElem? (i := 42) rfl) rfl⟩
theorem pk_X1_matchBelow : zY yX1_matchBelow cX1_matchBelow 4 (some .int) 1 := ⟨zW_3 (List.mem_of_getElem? (i := 48) rfl) rfl, kz_X1, by decide +kernel⟩
theorem pi_X1_matchBelow : Cond.instanceMethod yX1_matchBelow ∈ zW := zW_3 (List.mem_of_getElem? (i := 46) rfl) rfl
theorem pv_X1_matchBelow : zYV yX1_matchBelow RX1 := ⟨zW_3 (List.mem_of_getElem? (i := 46) rfl) rfl, zW_3 (List.mem_of_getElem? (i := 47) rfl) rfl⟩
theorem pk_X1_findFollower : zY yX1_findFollower cX1_findFollower 9 (some .boolean) 2 := ⟨zW_3 (List.mem_of_getElem? (i := 52) rfl) rfl, kz_X1, by decide +kernel⟩
theorem pi_X1_findFollower : Cond.instanceMethod yX1_findFollower ∈ zW := zW_3 (List.mem_of_getElem? (i := 51) rfl) rfl
theorem pv_X1_findFollower : zYV yX1_findFollower RX1 := ⟨zW_3 (List.mem_of_getElem? (i := 51) rfl) rfl, zP_1 (q := (yX1_findFollower, 7)) (List.mem_of_getElem? (i := 12) rfl)⟩
theorem pk_X1_changeFollowers : zY yX1_changeFollowers cX1_changeFollowers 7 none 2 := ⟨zW_3 (List.mem_of_getElem? (i := 57) rfl) rfl, kz_X1, by decide +kernel⟩
theorem pi_X1_changeFollowers : Cond.instanceMethod yX1_changeFollowers ∈ zW := zW_3 (List.mem_of_getElem? (i := 56) rfl) rfl
theorem pv_X1_changeFollowers : zYV yX1_changeFollowers RX1 := ⟨zW_3 (List.mem_of_getElem? (i := 56) rfl) rfl, zP_1 (q := (yX1_changeFollowers, 7)) (List.mem_of_getElem? (i := 13) rfl)⟩
theorem pk_X1_followerOf : zY yX1_followerOf cX1_followerOf 3 (some .int) 1 := ⟨zW_3 (List.mem_of_getElem? (i := 61) rfl) rfl, kz_X1, by decide +kernel⟩
theorem pi_X1_followerOf : Cond.instanceMethod yX1_followerOf ∈ zW := zW_3 (List.mem_of_getElem? (i := 60) rfl) rfl
theorem pv_X1_followerOf : zYV yX1_followerOf RX1 := ⟨zW_3 (List.mem_of_getElem? (i := 60) rfl) rfl, zP_1 (q := (yX1_followerOf, 7)) (List.mem_of_getElem? (i := 14) rfl)⟩
theorem pk_X6_apart : zY yX6_apart cX6_apart 4 (some .int) 1 := ⟨zW_3 (List.mem_of_getElem? (i := 65) rfl) rfl, kz_X6, by decide +kernel⟩
theorem pi_X6_apart : Cond.instanceMethod yX6_apart ∈ zW := zW_3 (List.mem_of_getElem? (i := 63) rfl) rfl
theorem pv_X6_apart : zYV yX6_apart RX6 := ⟨zW_3 (List.mem_of_getElem? (i := 63) rfl) rfl, zW_3 (List.mem_of_getElem? (i := 64) rfl) rfl⟩
theorem pk_X6_posts : zY yX6_posts cX6_posts 3 (some .int) 2 := ⟨zW_3 (List.mem_of_getElem? (i := 69) rfl) rfl, kz_X6, by decide +kernel⟩
theorem pi_X6_posts : Cond.instanceMethod yX6_posts ∈ zW := zW_3 (List.mem_of_getElem? (i := 67) rfl) rfl
theorem pv_X6_posts : zYV yX6_posts RX6 := ⟨zW_3 (List.mem_of_getElem? (i := 67) rfl) rfl, zW_3 (List.mem_of_getElem? (i := 68) rfl) rfl⟩
theorem pk_X0_post : zY yX0_post cX0_post 4 (some .int) 3 := ⟨zW_3 (List.mem_of_getElem? (i := 73) rfl) rfl, kz_X0, by decide +kernel⟩
theorem pi_X0_post : Cond.instanceMethod yX0_post ∈ zW := zW_3 (List.mem_of_getElem? (i := 71) rfl) rfl
theorem pv_X0_post : zYV yX0_post RX0 := ⟨zW_3 (List.mem_of_getElem? (i := 71) rfl) rfl, zW_3 (List.mem_of_getElem? (i := 72) rfl) rfl⟩
theorem pk_X6_isItem : zY yX6_isItem cX6_isItem 1 (some .boolean) 1 := ⟨zW_3 (List.mem_of_getElem? (i := 77) rfl) rfl, kz_X6, by decide +kernel⟩
theorem ps_X6_isItem : Cond.static yX6_isItem ∈ zW := zW_3 (List.mem_of_getElem? (i := 76) rfl) rfl
theorem pk_J13_bitCount_95d88 : zY yJ13_bitCount_95d88 cJ13_bitCount_95d88 2 (some .int) 1 := ⟨zW_3 (List.mem_of_getElem? (i := 80) rfl) rfl, kz_J13, by decide +kernel⟩
theorem ps_J13_bitCount_95d88 : Cond.static yJ13_bitCount_95d88 ∈ zW := zW_3 (List.mem_of_getElem? (i := 79) rfl) rfl
theorem pk_X6_unposts : zY yX6_unposts cX6_unposts 3 (some .int) 2 := ⟨zW_3 (List.mem_of_getElem? (i := 87) rfl) rfl, kz_X6, by decide +kernel⟩
theorem pi_X6_unposts : Cond.instanceMethod yX6_unposts ∈ zW := zW_3 (List.mem_of_getElem? (i := 85) rfl) rfl
theorem pv_X6_unposts : zYV yX6_unposts RX6 := ⟨zW_3 (List.mem_of_getElem? (i := 85) rfl) rfl, zW_3 (List.mem_of_getElem? (i := 86) rfl) rfl⟩
theorem pk_X0_unpost : zY yX0_unpost cX0_unpost 4 (some .int) 3 := ⟨zW_3 (List.mem_of_getElem? (i := 91) rfl) rfl, kz_X0, by decide +kernel⟩
theorem pi_X0_unpost : Cond.instanceMethod yX0_unpost ∈ zW := zW_3 (List.mem_of_getElem? (i := 89) rfl) rfl
theorem pv_X0_unpost : zYV yX0_unpost RX0 := ⟨zW_3 (List.mem_of_getElem? (i := 89) rfl) rfl, zW_3 (List.mem_of_getElem? (i := 90) rfl) rfl⟩
theorem pk_X6_search : zY yX6_search cX6_search 5 (some .int) 0 := ⟨zW_3 (List.mem_of_getElem? (i := 96) rfl) rfl, kz_X6, by decide +kernel⟩
theorem pi_X6_search : Cond.instanceMethod yX6_search ∈ zW := zW_3 (List.mem_of_getElem? (i := 94) rfl) rfl
theorem pv_X6_search : zYV yX6_search RX6 := ⟨zW_3 (List.mem_of_getElem? (i := 94) rfl) rfl, zW_3 (List.mem_of_getElem? (i := 95) rfl) rfl⟩
theorem pk_X5_readSearch : zY yX5_readSearch cX5_readSearch 6 (some .boolean) 1 := ⟨zW_3 (List.mem_of_getElem? (i := 100) rfl) rfl, kz_X5, by decide +kernel⟩
theorem pi_X5_readSearch : Cond.instanceMethod yX5_readSearch ∈ zW := zW_3 (List.mem_of_getElem? (i := 98) rfl) rfl
theorem pv_X5_readSearch : zYV yX5_readSearch RX5 := ⟨zW_3 (List.mem_of_getElem? (i := 98) rfl) rfl, zW_3 (List.mem_of_getElem? (i := 99) rfl) rfl⟩
theorem pk_X5_readHow : zY yX5_readHow cX5_readHow 1 (some .int) 0 := ⟨zW_3 (List.mem_of_getElem? (i := 104) rfl) rfl, kz_X5, by decide +kernel⟩
theorem pi_X5_readHow : Cond.instanceMethod yX5_readHow ∈ zW := zW_3 (List.mem_of_getElem? (i := 103) rfl) rfl
theorem pv_X5_readHow : zYV yX5_readHow RX5 := ⟨zW_3 (List.mem_of_getElem? (i := 103) rfl) rfl, zP_1 (q := (yX5_readHow, 5)) (List.mem_of_getElem? (i := 15) rfl)⟩
theorem pk_X2_searchOn : zY yX2_searchOn cX2_searchOn 6 (some .long) 2 := ⟨zW_3 (List.mem_of_getElem? (i := 108) rfl) rfl, kz_X2, by decide +kernel⟩
theorem pi_X2_searchOn : Cond.instanceMethod yX2_searchOn ∈ zW := zW_3 (List.mem_of_getElem? (i := 106) rfl) rfl
theorem pv_X2_searchOn : zYV yX2_searchOn RX2 := ⟨zW_3 (List.mem_of_getElem? (i := 106) rfl) rfl, zW_3 (List.mem_of_getElem? (i := 107) rfl) rfl⟩
theorem pk_X2_itemsOf : zY yX2_itemsOf cX2_itemsOf 7 (some .long) 2 := ⟨zW_3 (List.mem_of_getElem? (i := 112) rfl) rfl, kz_X2, by decide +kernel⟩
theorem pi_X2_itemsOf : Cond.instanceMethod yX2_itemsOf ∈ zW := zW_3 (List.mem_of_getElem? (i := 111) rfl) rfl
theorem pv_X2_itemsOf : zYV yX2_itemsOf RX2 := ⟨zW_3 (List.mem_of_getElem? (i := 111) rfl) rfl, zP_2 (q := (yX2_itemsOf, 9)) (List.mem_of_getElem? (i := 0) rfl)⟩
theorem pk_X6_posted : zY yX6_posted cX6_posted 4 (some .int) 1 := ⟨zW_3 (List.mem_of_getElem? (i := 117) rfl) rfl, kz_X6, by decide +kernel⟩
theorem pi_X6_posted : Cond.instanceMethod yX6_posted ∈ zW := zW_3 (List.mem_of_getElem? (i := 115) rfl) rfl
theorem pv_X6_posted : zYV yX6_posted RX6 := ⟨zW_3 (List.mem_of_getElem? (i := 115) rfl) rfl, zW_3 (List.mem_of_getElem? (i := 116) rfl) rfl⟩
theorem pk_X6_goes : zY yX6_goes cX6_goes 3 (some .int) 2 := ⟨zW_3 (List.mem_of_getElem? (i := 122) rfl) rfl, kz_X6, by decide +kernel⟩
theorem pi_X6_goes : Cond.instanceMethod yX6_goes ∈ zW := zW_3 (List.mem_of_getElem? (i := 120) rfl) rfl
theorem pv_X6_goes : zYV yX6_goes RX6 := ⟨zW_3 (List.mem_of_getElem? (i := 120) rfl) rfl, zW_3 (List.mem_of_getElem? (i := 121) rfl) rfl⟩
theorem pk_X0_leave : zY yX0_leave cX0_leave 9 (some .int) 3 := ⟨zW_3 (List.mem_of_getElem? (i := 126) rfl) rfl, kz_X0, by decide +kernel⟩
theorem pi_X0_leave : Cond.instanceMethod yX0_leave ∈ zW := zW_3 (List.mem_of_getElem? (i := 124) rfl) rfl
theorem pv_X0_leave : zYV yX0_leave RX0 := ⟨zW_3 (List.mem_of_getElem? (i := 124) rfl) rfl, zW_3 (List.mem_of_getElem? (i := 125) rfl) rfl⟩
theorem pk_X2_remove : zY yX2_remove cX2_remove 4 none 1 := ⟨zW_3 (List.mem_of_getElem? (i := 131) rfl) rfl, kz_X2, by decide +kernel⟩
theorem pi_X2_remove : Cond.instanceMethod yX2_remove ∈ zW := zW_3 (List.mem_of_getElem? (i := 129) rfl) rfl
theorem pv_X2_remove : zYV yX2_remove RX2 := ⟨zW_3 (List.mem_of_getElem? (i := 129) rfl) rfl, zW_3 (List.mem_of_getElem? (i := 130) rfl) rfl⟩
theorem pk_X2_removeName : zY yX2_removeName cX2_removeName 3 none 1 := ⟨zW_3 (List.mem_of_getElem? (i := 135) rfl) rfl, kz_X2, by decide +kernel⟩
theorem pi_X2_removeName : Cond.instanceMethod yX2_removeName ∈ zW := zW_3 (List.mem_of_getElem? (i := 134) rfl) rfl
theorem pv_X2_removeName : zYV yX2_removeName RX2 := ⟨zW_3 (List.mem_of_getElem? (i := 134) rfl) rfl, zP_2 (q := (yX2_removeName, 9)) (List.mem_of_getElem? (i := 1) rfl)⟩
theorem pk_X2_comeToAll : zY yX2_comeToAll cX2_comeToAll 4 none 2 := ⟨zW_3 (List.mem_of_getElem? (i := 139) rfl) rfl, kz_X2, by decide +kernel⟩
theorem pi_X2_comeToAll : Cond.instanceMethod yX2_comeToAll ∈ zW := zW_3 (List.mem_of_getElem? (i := 137) rfl) rfl
theorem pv_X2_comeToAll : zYV yX2_comeToAll RX2 := ⟨zW_3 (List.mem_of_getElem? (i := 137) rfl) rfl, zW_3 (List.mem_of_getElem? (i := 138) rfl) rfl⟩
theorem pk_X6_merges : zY yX6_merges cX6_merges 3 (some .int) 2 := ⟨zW_3 (List.mem_of_getElem? (i := 144) rfl) rfl, kz_X6, by decide +kernel⟩
theorem pi_X6_merges : Cond.instanceMethod yX6_merges ∈ zW := zW_3 (List.mem_of_getElem? (i := 142) rfl) rfl
theorem pv_X6_merges : zYV yX6_merges RX6 := ⟨zW_3 (List.mem_of_getElem? (i := 142) rfl) rfl, zW_3 (List.mem_of_getElem? (i := 143) rfl) rfl⟩
theorem pk_X0_merge : zY yX0_merge cX0_merge 7 (some .int) 3 := ⟨zW_3 (List.mem_of_getElem? (i := 148) rfl) rfl, kz_X0, by decide +kernel⟩
theorem pi_X0_merge : Cond.instanceMethod yX0_merge ∈ zW := zW_3 (List.mem_of_getElem? (i := 146) rfl) rfl
theorem pv_X0_merge : zYV yX0_merge RX0 := ⟨zW_3 (List.mem_of_getElem? (i := 146) rfl) rfl, zW_3 (List.mem_of_getElem? (i := 147) rfl) rfl⟩
theorem pk_X0_tellsWayOverOthers : zY yX0_tellsWayOverOthers cX0_tellsWayOverOthers 4 (some .boolean) 3 := ⟨zW_3 (List.mem_of_getElem? (i := 152) rfl) rfl, kz_X0, by decide +kernel⟩
theorem pi_X0_tellsWayOverOthers : Cond.instanceMethod yX0_tellsWayOverOthers ∈ zW := zW_3 (List.mem_of_getElem? (i := 151) rfl) rfl
theorem pv_X0_tellsWayOverOthers : zYV yX0_tellsWayOverOthers RX0 := ⟨zW_3 (List.mem_of_getElem? (i := 151) rfl) rfl, zP_2 (q := (yX0_tellsWayOverOthers, 2)) (List.mem_of_getElem? (i := 2) rfl)⟩
theorem pk_X2_handNames : zY yX2_handNames cX2_handNames 6 none 2 := ⟨zW_3 (List.mem_of_getElem? (i := 156) rfl) rfl, kz_X2, by decide +kernel⟩
theorem pi_X2_handNames : Cond.instanceMethod yX2_handNames ∈ zW := zW_3 (List.mem_of_getElem? (i := 154) rfl) rfl
theorem pv_X2_handNames : zYV yX2_handNames RX2 := ⟨zW_3 (List.mem_of_getElem? (i := 154) rfl) rfl, zW_3 (List.mem_of_getElem? (i := 155) rfl) rfl⟩
theorem pk_X6_thins : zY yX6_thins cX6_thins 1 (some .int) 0 := ⟨zW_3 (List.mem_of_getElem? (i := 160) rfl) rfl, kz_X6, by decide +kernel⟩
theorem pi_X6_thins : Cond.instanceMethod yX6_thins ∈ zW := zW_3 (List.mem_of_getElem? (i := 158) rfl) rfl
theorem pv_X6_thins : zYV yX6_thins RX6 := ⟨zW_3 (List.mem_of_getElem? (i := 158) rfl) rfl, zW_3 (List.mem_of_getElem? (i := 159) rfl) rfl⟩
theorem pk_X0_thin : zY yX0_thin cX0_thin 5 (some .int) 1 := ⟨zW_3 (List.mem_of_getElem? (i := 164) rfl) rfl, kz_X0, by decide +kernel⟩
theorem pi_X0_thin : Cond.instanceMethod yX0_thin ∈ zW := zW_3 (List.mem_of_getElem? (i := 162) rfl) rfl
theorem pv_X0_thin : zYV yX0_thin RX0 := ⟨zW_3 (List.mem_of_getElem? (i := 162) rfl) rfl, zW_3 (List.mem_of_getElem? (i := 163) rfl) rfl⟩
theorem pk_X6_day : zY yX6_day cX6_day 3 (some .int) 0 := ⟨zW_3 (List.mem_of_getElem? (i := 170) rfl) rfl, kz_X6, by decide +kernel⟩
theorem pi_X6_day : Cond.instanceMethod yX6_day ∈ zW := zW_3 (List.mem_of_getElem? (i := 168) rfl) rfl
theorem pv_X6_day : zYV yX6_day RX6 := ⟨zW_3 (List.mem_of_getElem? (i := 168) rfl) rfl, zW_3 (List.mem_of_getElem? (i := 169) rfl) rfl⟩
theorem pk_X5_readDay : zY yX5_readDay cX5_readDay 5 (some .boolean) 0 := ⟨zW_3 (List.mem_of_getElem? (i := 174) rfl) rfl, kz_X5, by decide +kernel⟩
theorem pi_X5_readDay : Cond.instanceMethod yX5_readDay ∈ zW := zW_3 (List.mem_of_getElem? (i := 172) rfl) rfl
theorem pv_X5_readDay : zYV yX5_readDay RX5 := ⟨zW_3 (List.mem_of_getElem? (i := 172) rfl) rfl, zW_3 (List.mem_of_getElem? (i := 173) rfl) rfl⟩
theorem pk_X5_digitsBehind : zY yX5_digitsBehind cX5_digitsBehind 1 (some .int) 1 := ⟨zW_3 (List.mem_of_getElem? (i := 177) rfl) rfl, kz_X5, by decide +kernel⟩
theorem ps_X5_digitsBehind : Cond.static yX5_digitsBehind ∈ zW := zW_3 (List.mem_of_getElem? (i := 176) rfl) rfl
theorem pk_X5_readNumber : zY yX5_readNumber cX5_readNumber 4 (some .int) 1 := ⟨zW_3 (List.mem_of_getElem? (i := 181) rfl) rfl, kz_X5, by decide +kernel⟩
theorem pi_X5_readNumber : Cond.instanceMethod yX5_readNumber ∈ zW := zW_3 (List.mem_of_getElem? (i := 180) rfl) rfl
theorem pv_X5_readNumber : zYV yX5_readNumber RX5 := ⟨zW_3 (List.mem_of_getElem? (i := 180) rfl) rfl, zP_2 (q := (yX5_readNumber, 5)) (List.mem_of_getElem? (i := 3) rfl)⟩
theorem pk_X0_actOf : zY yX0_actOf cX0_actOf 4 (some .int) 2 := ⟨zW_3 (List.mem_of_getElem? (i := 185) rfl) rfl, kz_X0, by decide +kernel⟩
theorem pi_X0_actOf : Cond.instanceMethod yX0_actOf ∈ zW := zW_3 (List.mem_of_getElem? (i := 183) rfl) rfl
theorem pv_X0_actOf : zYV yX0_actOf RX0 := ⟨zW_3 (List.mem_of_getElem? (i := 183) rfl) rfl, zW_3 (List.mem_of_getElem? (i := 184) rfl) rfl⟩
theorem pk_X6_undo : zY yX6_undo cX6_undo 1 (some .int) 0 := ⟨zW_3 (List.mem_of_getElem? (i := 194) rfl) rfl, kz_X6, by decide +kernel⟩
theorem pi_X6_undo : Cond.instanceMethod yX6_undo ∈ zW := zW_3 (List.mem_of_getElem? (i := 192) rfl) rfl
theorem pv_X6_undo : zYV yX6_undo RX6 := ⟨zW_3 (List.mem_of_getElem? (i := 192) rfl) rfl, zW_3 (List.mem_of_getElem? (i := 193) rfl) rfl⟩
theorem pk_X3_back : zY yX3_back cX3_back 3 (some (.object "SubjectNet$Net")) 1 := ⟨zW_3 (List.mem_of_getElem? (i := 198) rfl) rfl, kz_X3, by decide +kernel⟩
theorem pi_X3_back : Cond.instanceMethod yX3_back ∈ zW := zW_3 (List.mem_of_getElem? (i := 196) rfl) rfl
theorem pv_X3_back : zYV yX3_back RX3 := ⟨zW_3 (List.mem_of_getElem? (i := 196) rfl) rfl, zW_3 (List.mem_of_getElem? (i := 197) rfl) rfl⟩
theorem pk_X6_years : zY yX6_years cX6_years 10 (some .int) 2 := ⟨zW_3 (List.mem_of_getElem? (i := 202) rfl) rfl, kz_X6, by decide +kernel⟩
theorem pi_X6_years : Cond.instanceMethod yX6_years ∈ zW := zW_3 (List.mem_of_getElem? (i := 200) rfl) rfl
theorem pv_X6_years : zYV yX6_years RX6 := ⟨zW_3 (List.mem_of_getElem? (i := 200) rfl) rfl, zW_3 (List.mem_of_getElem? (i := 201) rfl) rfl⟩
theorem pk_X6_drawn : zY yX6_drawn cX6_drawn 1 (some .int) 1 := ⟨zW_3 (List.mem_of_getElem? (i := 205) rfl) rfl, kz_X6, by decide +kernel⟩
theorem ps_X6_drawn : Cond.static yX6_drawn ∈ zW := zW_3 (List.mem_of_getElem? (i := 204) rfl) rfl
theorem pk_X2_placesUnlike : zY yX2_placesUnlike cX2_placesUnlike 4 (some .int) 1 := ⟨zW_3 (List.mem_of_getElem? (i := 210) rfl) rfl, kz_X2, by decide +kernel⟩
theorem pi_X2_placesUnlike : Cond.instanceMethod yX2_placesUnlike ∈ zW := zW_3 (List.mem_of_getElem? (i := 208) rfl) rfl
theorem pv_X2_placesUnlike : zYV yX2_placesUnlike RX2 := ⟨zW_3 (List.mem_of_getElem? (i := 208) rfl) rfl, zW_3 (List.mem_of_getElem? (i := 209) rfl) rfl⟩
theorem pk_X6_keep : zY yX6_keep cX6_keep 2 (some .boolean) 1 := ⟨zW_3 (List.mem_of_getElem? (i := 214) rfl) rfl, kz_X6, by decide +kernel⟩
theorem pi_X6_keep : Cond.instanceMethod yX6_keep ∈ zW := zW_3 (List.mem_of_getElem? (i := 212) rfl) rfl
theorem pv_X6_keep : zYV yX6_keep RX6 := ⟨zW_3 (List.mem_of_getElem? (i := 212) rfl) rfl, zW_3 (List.mem_of_getElem? (i := 213) rfl) rfl⟩
theorem pk_X6_again : zY yX6_again cX6_again 2 (some .boolean) 1 := ⟨zW_3 (List.mem_of_getElem? (i := 218) rfl) rfl, kz_X6, by decide +kernel⟩
theorem pi_X6_again : Cond.instanceMethod yX6_again ∈ zW := zW_3 (List.mem_of_getElem? (i := 216) rfl) rfl
theorem pv_X6_again : zYV yX6_again RX6 := ⟨zW_3 (List.mem_of_getElem? (i := 216) rfl) rfl, zW_3 (List.mem_of_getElem? (i := 217) rfl) rfl⟩
theorem pk_X6_count : zY yX6_count cX6_count 2 (some .int) 1 := ⟨zW_3 (List.mem_of_getElem? (i := 222) rfl) rfl, kz_X6, by decide +kernel⟩
theorem pi_X6_count : Cond.instanceMethod yX6_count ∈ zW := zW_3 (List.mem_of_getElem? (i := 220) rfl) rfl
theorem pv_X6_count : zYV yX6_count RX6 := ⟨zW_3 (List.mem_of_getElem? (i := 220) rfl) rfl, zW_3 (List.mem_of_getElem? (i := 221) rfl) rfl⟩
theorem pk_X2_postings : zY yX2_postings cX2_postings 3 (some .int) 0 := ⟨zW_3 (List.mem_of_getElem? (i := 226) rfl) rfl, kz_X2, by decide +kernel⟩
theorem pi_X2_postings : Cond.instanceMethod yX2_postings ∈ zW := zW_3 (List.mem_of_getElem? (i := 224) rfl) rfl
theorem pv_X2_postings : zYV yX2_postings RX2 := ⟨zW_3 (List.mem_of_getElem? (i := 224) rfl) rfl, zW_3 (List.mem_of_getElem? (i := 225) rfl) rfl⟩
theorem pk_X6_place : zY yX6_place cX6_place 2 (some .int) 1 := ⟨zW_3 (List.mem_of_getElem? (i := 235) rfl) rfl, kz_X6, by decide +kernel⟩
theorem pi_X6_place : Cond.instanceMethod yX6_place ∈ zW := zW_3 (List.mem_of_getElem? (i := 233) rfl) rfl
theorem pv_X6_place : zYV yX6_place RX6 := ⟨zW_3 (List.mem_of_getElem? (i := 233) rfl) rfl, zW_3 (List.mem_of_getElem? (i := 234) rfl) rfl⟩
theorem pk_X6_at : zY yX6_at cX6_at 2 (some .int) 1 := ⟨zW_4 (List.mem_of_getElem? (i := 69) rfl) rfl, kz_X6, by decide +kernel⟩
theorem pi_X6_at : Cond.instanceMethod yX6_at ∈ zW := zW_4 (List.mem_of_getElem? (i := 67) rfl) rfl
theorem pv_X6_at : zYV yX6_at RX6 := ⟨zW_4 (List.mem_of_getElem? (i := 67) rfl) rfl, zW_4 (List.mem_of_getElem? (i := 68) rfl) rfl⟩
theorem pk_X6_row : zY yX6_row cX6_row 2 (some .long) 1 := ⟨zW_4 (List.mem_of_getElem? (i := 77) rfl) rfl, kz_X6, by decide +kernel⟩
theorem pi_X6_row : Cond.instanceMethod yX6_row ∈ zW := zW_4 (List.mem_of_getElem? (i := 75) rfl) rfl
theorem pv_X6_row : zYV yX6_row RX6 := ⟨zW_4 (List.mem_of_getElem? (i := 75) rfl) rfl, zW_4 (List.mem_of_getElem? (i := 76) rfl) rfl⟩
theorem pk_X7_thrown : zY yX7_thrown cX7_thrown 1 (some .int) 0 := ⟨zW_4 (List.mem_of_getElem? (i := 82) rfl) rfl, kz_X7, by decide +kernel⟩
theorem pi_X7_thrown : Cond.instanceMethod yX7_thrown ∈ zW := zW_4 (List.mem_of_getElem? (i := 80) rfl) rfl
theorem pv_X7_thrown : zYV yX7_thrown RX7 := ⟨zW_4 (List.mem_of_getElem? (i := 80) rfl) rfl, zW_4 (List.mem_of_getElem? (i := 81) rfl) rfl⟩
theorem pk_X7_sign : zY yX7_sign cX7_sign 3 (some .int) 1 := ⟨zW_4 (List.mem_of_getElem? (i := 86) rfl) rfl, kz_X7, by decide +kernel⟩
theorem pi_X7_sign : Cond.instanceMethod yX7_sign ∈ zW := zW_4 (List.mem_of_getElem? (i := 84) rfl) rfl
theorem pv_X7_sign : zYV yX7_sign RX7 := ⟨zW_4 (List.mem_of_getElem? (i := 84) rfl) rfl, zW_4 (List.mem_of_getElem? (i := 85) rfl) rfl⟩
theorem pk_X7_end : zY yX7_end cX7_end 2 (some .boolean) 1 := ⟨zW_4 (List.mem_of_getElem? (i := 90) rfl) rfl, kz_X7, by decide +kernel⟩
theorem pi_X7_end : Cond.instanceMethod yX7_end ∈ zW := zW_4 (List.mem_of_getElem? (i := 88) rfl) rfl
theorem pv_X7_end : zYV yX7_end RX7 := ⟨zW_4 (List.mem_of_getElem? (i := 88) rfl) rfl, zW_4 (List.mem_of_getElem? (i := 89) rfl) rfl⟩
theorem pk_X7_in : zY yX7_in cX7_in 6 (some .boolean) 3 := ⟨zW_4 (List.mem_of_getElem? (i := 93) rfl) rfl, kz_X7, by decide +kernel⟩
theorem ps_X7_in : Cond.static yX7_in ∈ zW := zW_4 (List.mem_of_getElem? (i := 92) rfl) rfl
theorem pk_X7_init : zY yX7_init cX7_init 1 none 0 := ⟨zW_4 (List.mem_of_getElem? (i := 98) rfl) rfl, kz_X7, by decide +kernel⟩
theorem pi_X7_init : Cond.instanceMethod yX7_init ∈ zW := zW_4 (List.mem_of_getElem? (i := 97) rfl) rfl
theorem pk_X7_undo : zY yX7_undo cX7_undo 1 (some .int) 0 := ⟨zW_4 (List.mem_of_getElem? (i := 194) rfl) rfl, kz_X7, by decide +kernel⟩
theorem pi_X7_undo : Cond.instanceMethod yX7_undo ∈ zW := zW_4 (List.mem_of_getElem? (i := 192) rfl) rfl
theorem pv_X7_undo : zYV yX7_undo RX7 := ⟨zW_4 (List.mem_of_getElem? (i := 192) rfl) rfl, zW_4 (List.mem_of_getElem? (i := 193) rfl) rfl⟩
theorem pk_X7_copies : zY yX7_copies cX7_copies 4 none 2 := ⟨zW_4 (List.mem_of_getElem? (i := 198) rfl) rfl, kz_X7, by decide +kernel⟩
theorem pi_X7_copies : Cond.instanceMethod yX7_copies ∈ zW := zW_4 (List.mem_of_getElem? (i := 197) rfl) rfl
theorem pv_X7_copies : zYV yX7_copies RX7 := ⟨zW_4 (List.mem_of_getElem? (i := 197) rfl) rfl, zP_2 (q := (yX7_copies, 30)) (List.mem_of_getElem? (i := 5) rfl)⟩
theorem pk_X7_term : zY yX7_term cX7_term 3 (some .int) 0 := ⟨zW_4 (List.mem_of_getElem? (i := 202) rfl) rfl, kz_X7, by decide +kernel⟩
theorem pi_X7_term : Cond.instanceMethod yX7_term ∈ zW := zW_4 (List.mem_of_getElem? (i := 200) rfl) rfl
theorem pv_X7_term : zYV yX7_term RX7 := ⟨zW_4 (List.mem_of_getElem? (i := 200) rfl) rfl, zW_4 (List.mem_of_getElem? (i := 201) rfl) rfl⟩
theorem pk_X7_reads : zY yX7_reads cX7_reads 1 none 0 := ⟨zW_4 (List.mem_of_getElem? (i := 206) rfl) rfl, kz_X7, by decide +kernel⟩
theorem pi_X7_reads : Cond.instanceMethod yX7_reads ∈ zW := zW_4 (List.mem_of_getElem? (i := 205) rfl) rfl
theorem pv_X7_reads : zYV yX7_reads RX7 := ⟨zW_4 (List.mem_of_getElem? (i := 205) rfl) rfl, zP_2 (q := (yX7_reads, 30)) (List.mem_of_getElem? (i := 6) rfl)⟩
theorem pk_X7_readsLabel : zY yX7_readsLabel cX7_readsLabel 2 (some .int) 0 := ⟨zW_4 (List.mem_of_getElem? (i := 210) rfl) rfl, kz_X7, by decide +kernel⟩
theorem pi_X7_readsLabel : Cond.instanceMethod yX7_readsLabel ∈ zW := zW_4 (List.mem_of_getElem? (i := 209) rfl) rfl
theorem pv_X7_readsLabel : zYV yX7_readsLabel RX7 := ⟨zW_4 (List.mem_of_getElem? (i := 209) rfl) rfl, zP_2 (q := (yX7_readsLabel, 30)) (List.mem_of_getElem? (i := 7) rfl)⟩
theorem pk_X7_letter : zY yX7_letter cX7_letter 2 (some .int) 0 := ⟨zW_4 (List.mem_of_getElem? (i := 214) rfl) rfl, kz_X7, by decide +kernel⟩
theorem pi_X7_letter : Cond.instanceMethod yX7_letter ∈ zW := zW_4 (List.mem_of_getElem? (i := 213) rfl) rfl
theorem pv_X7_letter : zYV yX7_letter RX7 := ⟨zW_4 (List.mem_of_getElem? (i := 213) rfl) rfl, zP_2 (q := (yX7_letter, 30)) (List.mem_of_getElem? (i := 8) rfl)⟩
theorem pk_X7_flag : zY yX7_flag cX7_flag 1 (some .int) 1 := ⟨zW_4 (List.mem_of_getElem? (i := 219) rfl) rfl, kz_X7, by decide +kernel⟩
theorem ps_X7_flag : Cond.static yX7_flag ∈ zW := zW_4 (List.mem_of_getElem? (i := 218) rfl) rfl
theorem pk_X7_termOf : zY yX7_termOf cX7_termOf 3 (some .int) 1 := ⟨zW_4 (List.mem_of_getElem? (i := 223) rfl) rfl, kz_X7, by decide +kernel⟩
theorem pi_X7_termOf : Cond.instanceMethod yX7_termOf ∈ zW := zW_4 (List.mem_of_getElem? (i := 222) rfl) rfl
theorem pv_X7_termOf : zYV yX7_termOf RX7 := ⟨zW_4 (List.mem_of_getElem? (i := 222) rfl) rfl, zP_2 (q := (yX7_termOf, 30)) (List.mem_of_getElem? (i := 9) rfl)⟩
theorem pk_X7_labelMany : zY yX7_labelMany cX7_labelMany 2 (some .int) 1 := ⟨zW_4 (List.mem_of_getElem? (i := 227) rfl) rfl, kz_X7, by decide +kernel⟩
theorem pi_X7_labelMany : Cond.instanceMethod yX7_labelMany ∈ zW := zW_4 (List.mem_of_getElem? (i := 226) rfl) rfl
theorem pv_X7_labelMany : zYV yX7_labelMany RX7 := ⟨zW_4 (List.mem_of_getElem? (i := 226) rfl) rfl, zP_2 (q := (yX7_labelMany, 30)) (List.mem_of_getElem? (i := 10) rfl)⟩
theorem pk_X7_firstFree : zY yX7_firstFree cX7_firstFree 2 (some .int) 0 := ⟨zW_4 (List.mem_of_getElem? (i := 231) rfl) rfl, kz_X7, by decide +kernel⟩
theorem pi_X7_firstFree : Cond.instanceMethod yX7_firstFree ∈ zW := zW_4 (List.mem_of_getElem? (i := 230) rfl) rfl
theorem pv_X7_firstFree : zYV yX7_firstFree RX7 := ⟨zW_4 (List.mem_of_getElem? (i := 230) rfl) rfl, zP_2 (q := (yX7_firstFree, 30)) (List.mem_of_getElem? (i := 11) rfl)⟩
theorem pk_X7_there : zY yX7_there cX7_there 2 (some .int) 1 := ⟨zW_4 (List.mem_of_getElem? (i := 235) rfl) rfl, kz_X7, by decide +kernel⟩
theorem pi_X7_there : Cond.instanceMethod yX7_there ∈ zW := zW_4 (List.mem_of_getElem? (i := 234) rfl) rfl
theorem pv_X7_there : zYV yX7_there RX7 := ⟨zW_4 (List.mem_of_getElem? (i := 234) rfl) rfl, zP_2 (q := (yX7_there, 30)) (List.mem_of_getElem? (i := 12) rfl)⟩
theorem pk_X7_has : zY yX7_has cX7_has 2 (some .boolean) 2 := ⟨zW_4 (List.mem_of_getElem? (i := 238) rfl) rfl, kz_X7, by decide +kernel⟩
theorem ps_X7_has : Cond.static yX7_has ∈ zW := zW_4 (List.mem_of_getElem? (i := 237) rfl) rfl
theorem pk_X7_gives : zY yX7_gives cX7_gives 4 none 2 := ⟨zW_5 (List.mem_of_getElem? (i := 2) rfl) rfl, kz_X7, by decide +kernel⟩
theorem pi_X7_gives : Cond.instanceMethod yX7_gives ∈ zW := zW_5 (List.mem_of_getElem? (i := 1) rfl) rfl
theorem pv_X7_gives : zYV yX7_gives RX7 := ⟨zW_5 (List.mem_of_getElem? (i := 1) rfl) rfl, zP_2 (q := (yX7_gives, 30)) (List.mem_of_getElem? (i := 13) rfl)⟩
theorem pk_X7_done : zY yX7_done cX7_done 2 (some .int) 1 := ⟨zW_5 (List.mem_of_getElem? (i := 6) rfl) rfl, kz_X7, by decide +kernel⟩
theorem pi_X7_done : Cond.instanceMethod yX7_done ∈ zW := zW_5 (List.mem_of_getElem? (i := 5) rfl) rfl
theorem pv_X7_done : zYV yX7_done RX7 := ⟨zW_5 (List.mem_of_getElem? (i := 5) rfl) rfl, zP_2 (q := (yX7_done, 30)) (List.mem_of_getElem? (i := 14) rfl)⟩
theorem pk_X7_lays : zY yX7_lays cX7_lays 2 none 0 := ⟨zW_5 (List.mem_of_getElem? (i := 10) rfl) rfl, kz_X7, by decide +kernel⟩
theorem pi_X7_lays : Cond.instanceMethod yX7_lays ∈ zW := zW_5 (List.mem_of_getElem? (i := 9) rfl) rfl
theorem pv_X7_lays : zYV yX7_lays RX7 := ⟨zW_5 (List.mem_of_getElem? (i := 9) rfl) rfl, zP_2 (q := (yX7_lays, 30)) (List.mem_of_getElem? (i := 15) rfl)⟩
theorem pk_X7_label : zY yX7_label cX7_label 3 (some .int) 1 := ⟨zW_5 (List.mem_of_getElem? (i := 14) rfl) rfl, kz_X7, by decide +kernel⟩
theorem pi_X7_label : Cond.instanceMethod yX7_label ∈ zW := zW_5 (List.mem_of_getElem? (i := 12) rfl) rfl
theorem pv_X7_label : zYV yX7_label RX7 := ⟨zW_5 (List.mem_of_getElem? (i := 12) rfl) rfl, zW_5 (List.mem_of_getElem? (i := 13) rfl) rfl⟩
theorem pk_X7_isTerm : zY yX7_isTerm cX7_isTerm 2 (some .boolean) 1 := ⟨zW_5 (List.mem_of_getElem? (i := 18) rfl) rfl, kz_X7, by decide +kernel⟩
theorem pi_X7_isTerm : Cond.instanceMethod yX7_isTerm ∈ zW := zW_5 (List.mem_of_getElem? (i := 17) rfl) rfl
theorem pv_X7_isTerm : zYV yX7_isTerm RX7 := ⟨zW_5 (List.mem_of_getElem? (i := 17) rfl) rfl, zP_3 (q := (yX7_isTerm, 30)) (List.mem_of_getElem? (i := 0) rfl)⟩
theorem pk_X7_labelsOf : zY yX7_labelsOf cX7_labelsOf 4 (some .int) 1 := ⟨zW_5 (List.mem_of_getElem? (i := 23) rfl) rfl, kz_X7, by decide +kernel⟩
theorem pi_X7_labelsOf : Cond.instanceMethod yX7_labelsOf ∈ zW := zW_5 (List.mem_of_getElem? (i := 22) rfl) rfl
theorem pv_X7_labelsOf : zYV yX7_labelsOf RX7 := ⟨zW_5 (List.mem_of_getElem? (i := 22) rfl) rfl, zP_3 (q := (yX7_labelsOf, 30)) (List.mem_of_getElem? (i := 1) rfl)⟩
theorem pk_X7_named : zY yX7_named cX7_named 3 (some .int) 0 := ⟨zW_5 (List.mem_of_getElem? (i := 27) rfl) rfl, kz_X7, by decide +kernel⟩
theorem pi_X7_named : Cond.instanceMethod yX7_named ∈ zW := zW_5 (List.mem_of_getElem? (i := 25) rfl) rfl
theorem pv_X7_named : zYV yX7_named RX7 := ⟨zW_5 (List.mem_of_getElem? (i := 25) rfl) rfl, zW_5 (List.mem_of_getElem? (i := 26) rfl) rfl⟩
theorem pk_X7_labels : zY yX7_labels cX7_labels 3 (some .int) 1 := ⟨zW_5 (List.mem_of_getElem? (i := 31) rfl) rfl, kz_X7, by decide +kernel⟩
theorem pi_X7_labels : Cond.instanceMethod yX7_labels ∈ zW := zW_5 (List.mem_of_getElem? (i := 29) rfl) rfl
theorem pv_X7_labels : zYV yX7_labels RX7 := ⟨zW_5 (List.mem_of_getElem? (i := 29) rfl) rfl, zW_5 (List.mem_of_getElem? (i := 30) rfl) rfl⟩
theorem pk_X7_enters : zY yX7_enters cX7_enters 3 none 1 := ⟨zW_5 (List.mem_of_getElem? (i := 35) rfl) rfl, kz_X7, by decide +kernel⟩
theorem pi_X7_enters : Cond.instanceMethod yX7_enters ∈ zW := zW_5 (List.mem_of_getElem? (i := 34) rfl) rfl
theorem pv_X7_enters : zYV yX7_enters RX7 := ⟨zW_5 (List.mem_of_getElem? (i := 34) rfl) rfl, zP_3 (q := (yX7_enters, 30)) (List.mem_of_getElem? (i := 2) rfl)⟩
theorem pk_X7_links : zY yX7_links cX7_links 4 (some .int) 2 := ⟨zW_5 (List.mem_of_getElem? (i := 39) rfl) rfl, kz_X7, by decide +kernel⟩
theorem pi_X7_links : Cond.instanceMethod yX7_links ∈ zW := zW_5 (List.mem_of_getElem? (i := 37) rfl) rfl
theorem pv_X7_links : zYV yX7_links RX7 := ⟨zW_5 (List.mem_of_getElem? (i := 37) rfl) rfl, zW_5 (List.mem_of_getElem? (i := 38) rfl) rfl⟩
theorem pk_X7_linksOne : zY yX7_linksOne cX7_linksOne 3 (some .int) 2 := ⟨zW_5 (List.mem_of_getElem? (i := 43) rfl) rfl, kz_X7, by decide +kernel⟩
theorem pi_X7_linksOne : Cond.instanceMethod yX7_linksOne ∈ zW := zW_5 (List.mem_of_getElem? (i := 42) rfl) rfl
theorem pv_X7_linksOne : zYV yX7_linksOne RX7 := ⟨zW_5 (List.mem_of_getElem? (i := 42) rfl) rfl, zP_3 (q := (yX7_linksOne, 30)) (List.mem_of_getElem? (i := 3) rfl)⟩
theorem pk_X7_areTwo : zY yX7_areTwo cX7_areTwo 3 (some .boolean) 2 := ⟨zW_5 (List.mem_of_getElem? (i := 47) rfl) rfl, kz_X7, by decide +kernel⟩
theorem pi_X7_areTwo : Cond.instanceMethod yX7_areTwo ∈ zW := zW_5 (List.mem_of_getElem? (i := 46) rfl) rfl
theorem pv_X7_areTwo : zYV yX7_areTwo RX7 := ⟨zW_5 (List.mem_of_getElem? (i := 46) rfl) rfl, zP_3 (q := (yX7_areTwo, 30)) (List.mem_of_getElem? (i := 4) rfl)⟩
theorem pk_X7_comes : zY yX7_comes cX7_comes 5 (some .int) 3 := ⟨zW_5 (List.mem_of_getElem? (i := 51) rfl) rfl, kz_X7, by decide +kernel⟩
theorem pi_X7_comes : Cond.instanceMethod yX7_comes ∈ zW := zW_5 (List.mem_of_getElem? (i := 50) rfl) rfl
theorem pv_X7_comes : zYV yX7_comes RX7 := ⟨zW_5 (List.mem_of_getElem? (i := 50) rfl) rfl, zP_3 (q := (yX7_comes, 30)) (List.mem_of_getElem? (i := 5) rfl)⟩
theorem pk_X7_isLinked : zY yX7_isLinked cX7_isLinked 4 (some .boolean) 3 := ⟨zW_5 (List.mem_of_getElem? (i := 55) rfl) rfl, kz_X7, by decide +kernel⟩
theorem pi_X7_isLinked : Cond.instanceMethod yX7_isLinked ∈ zW := zW_5 (List.mem_of_getElem? (i := 54) rfl) rfl
theorem pv_X7_isLinked : zYV yX7_isLinked RX7 := ⟨zW_5 (List.mem_of_getElem? (i := 54) rfl) rfl, zP_3 (q := (yX7_isLinked, 30)) (List.mem_of_getElem? (i := 6) rfl)⟩
theorem pk_X7_narrower : zY yX7_narrower cX7_narrower 3 (some .int) 2 := ⟨zW_5 (List.mem_of_getElem? (i := 59) rfl) rfl, kz_X7, by decide +kernel⟩
theorem pi_X7_narrower : Cond.instanceMethod yX7_narrower ∈ zW := zW_5 (List.mem_of_getElem? (i := 58) rfl) rfl
theorem pv_X7_narrower : zYV yX7_narrower RX7 := ⟨zW_5 (List.mem_of_getElem? (i := 58) rfl) rfl, zP_3 (q := (yX7_narrower, 30)) (List.mem_of_getElem? (i := 7) rfl)⟩
theorem pk_X7_above : zY yX7_above cX7_above 3 (some .int) 2 := ⟨zW_5 (List.mem_of_getElem? (i := 63) rfl) rfl, kz_X7, by decide +kernel⟩
theorem pi_X7_above : Cond.instanceMethod yX7_above ∈ zW := zW_5 (List.mem_of_getElem? (i := 62) rfl) rfl
theorem pv_X7_above : zYV yX7_above RX7 := ⟨zW_5 (List.mem_of_getElem? (i := 62) rfl) rfl, zP_3 (q := (yX7_above, 30)) (List.mem_of_getElem? (i := 8) rfl)⟩
theorem pk_X7_reach : zY yX7_reach cX7_reach 7 (some .int) 3 := ⟨zW_5 (List.mem_of_getElem? (i := 67) rfl) rfl, kz_X7, by decide +kernel⟩
theorem pi_X7_reach : Cond.instanceMethod yX7_reach ∈ zW := zW_5 (List.mem_of_getElem? (i := 66) rfl) rfl
theorem pv_X7_reach : zYV yX7_reach RX7 := ⟨zW_5 (List.mem_of_getElem? (i := 66) rfl) rfl, zP_3 (q := (yX7_reach, 30)) (List.mem_of_getElem? (i := 9) rfl)⟩
theorem pk_X7_broader : zY yX7_broader cX7_broader 5 (some .int) 2 := ⟨zW_5 (List.mem_of_getElem? (i := 71) rfl) rfl, kz_X7, by decide +kernel⟩
theorem pi_X7_broader : Cond.instanceMethod yX7_broader ∈ zW := zW_5 (List.mem_of_getElem? (i := 70) rfl) rfl
theorem pv_X7_broader : zYV yX7_broader RX7 := ⟨zW_5 (List.mem_of_getElem? (i := 70) rfl) rfl, zP_3 (q := (yX7_broader, 30)) (List.mem_of_getElem? (i := 10) rfl)⟩
theorem pk_X7_isIn : zY yX7_isIn cX7_isIn 3 (some .boolean) 2 := ⟨zW_5 (List.mem_of_getElem? (i := 75) rfl) rfl, kz_X7, by decide +kernel⟩
theorem pi_X7_isIn : Cond.instanceMethod yX7_isIn ∈ zW := zW_5 (List.mem_of_getElem? (i := 74) rfl) rfl
theorem pv_X7_isIn : zYV yX7_isIn RX7 := ⟨zW_5 (List.mem_of_getElem? (i := 74) rfl) rfl, zP_3 (q := (yX7_isIn, 30)) (List.mem_of_getElem? (i := 11) rfl)⟩
theorem pk_X7_mends : zY yX7_mends cX7_mends 13 (some .int) 3 := ⟨zW_5 (List.mem_of_getElem? (i := 79) rfl) rfl, kz_X7, by decide +kernel⟩
theorem pi_X7_mends : Cond.instanceMethod yX7_mends ∈ zW := zW_5 (List.mem_of_getElem? (i := 78) rfl) rfl
theorem pv_X7_mends : zYV yX7_mends RX7 := ⟨zW_5 (List.mem_of_getElem? (i := 78) rfl) rfl, zP_3 (q := (yX7_mends, 30)) (List.mem_of_getElem? (i := 12) rfl)⟩
theorem pk_X7_placeOf : zY yX7_placeOf cX7_placeOf 4 (some .int) 2 := ⟨zW_5 (List.mem_of_getElem? (i := 83) rfl) rfl, kz_X7, by decide +kernel⟩
theorem pi_X7_placeOf : Cond.instanceMethod yX7_placeOf ∈ zW := zW_5 (List.mem_of_getElem? (i := 82) rfl) rfl
theorem pv_X7_placeOf : zYV yX7_placeOf RX7 := ⟨zW_5 (List.mem_of_getElem? (i := 82) rfl) rfl, zP_3 (q := (yX7_placeOf, 30)) (List.mem_of_getElem? (i := 13) rfl)⟩
theorem pk_X7_inPlace : zY yX7_inPlace cX7_inPlace 3 (some .int) 2 := ⟨zW_5 (List.mem_of_getElem? (i := 87) rfl) rfl, kz_X7, by decide +kernel⟩
theorem pi_X7_inPlace : Cond.instanceMethod yX7_inPlace ∈ zW := zW_5 (List.mem_of_getElem? (i := 86) rfl) rfl
theorem pv_X7_inPlace : zYV yX7_inPlace RX7 := ⟨zW_5 (List.mem_of_getElem? (i := 86) rfl) rfl, zP_3 (q := (yX7_inPlace, 30)) (List.mem_of_getElem? (i := 14) rfl)⟩
theorem pk_X7_below : zY yX7_below cX7_below 3 (some .int) 2 := ⟨zW_5 (List.mem_of_getElem? (i := 91) rfl) rfl, kz_X7, by decide +kernel⟩
theorem pi_X7_below : Cond.instanceMethod yX7_below ∈ zW := zW_5 (List.mem_of_getElem? (i := 90) rfl) rfl
theorem pv_X7_below : zYV yX7_below RX7 := ⟨zW_5 (List.mem_of_getElem? (i := 90) rfl) rfl, zP_3 (q := (yX7_below, 30)) (List.mem_of_getElem? (i := 15) rfl)⟩
theorem pk_X7_placed : zY yX7_placed cX7_placed 2 (some .int) 1 := ⟨zW_5 (List.mem_of_getElem? (i := 95) rfl) rfl, kz_X7, by decide +kernel⟩
theorem pi_X7_placed : Cond.instanceMethod yX7_placed ∈ zW := zW_5 (List.mem_of_getElem? (i := 94) rfl) rfl
theorem pv_X7_placed : zYV yX7_placed RX7 := ⟨zW_5 (List.mem_of_getElem? (i := 94) rfl) rfl, zP_4 (q := (yX7_placed, 30)) (List.mem_of_getElem? (i := 0) rfl)⟩
theorem pk_X7_addsMovers : zY yX7_addsMovers cX7_addsMovers 8 (some .int) 5 := ⟨zW_5 (List.mem_of_getElem? (i := 99) rfl) rfl, kz_X7, by decide +kernel⟩
theorem pi_X7_addsMovers : Cond.instanceMethod yX7_addsMovers ∈ zW := zW_5 (List.mem_of_getElem? (i := 98) rfl) rfl
theorem pv_X7_addsMovers : zYV yX7_addsMovers RX7 := ⟨zW_5 (List.mem_of_getElem? (i := 98) rfl) rfl, zP_4 (q := (yX7_addsMovers, 30)) (List.mem_of_getElem? (i := 1) rfl)⟩
theorem pk_X7_findsWay : zY yX7_findsWay cX7_findsWay 9 (some .boolean) 4 := ⟨zW_5 (List.mem_of_getElem? (i := 103) rfl) rfl, kz_X7, by decide +kernel⟩
theorem pi_X7_findsWay : Cond.instanceMethod yX7_findsWay ∈ zW := zW_5 (List.mem_of_getElem? (i := 102) rfl) rfl
theorem pv_X7_findsWay : zYV yX7_findsWay RX7 := ⟨zW_5 (List.mem_of_getElem? (i := 102) rfl) rfl, zP_4 (q := (yX7_findsWay, 30)) (List.mem_of_getElem? (i := 2) rfl)⟩
theorem pk_X7_steps : zY yX7_steps cX7_steps 6 (some .boolean) 5 := ⟨zW_5 (List.mem_of_getElem? (i := 107) rfl) rfl, kz_X7, by decide +kernel⟩
theorem pi_X7_steps : Cond.instanceMethod yX7_steps ∈ zW := zW_5 (List.mem_of_getElem? (i := 106) rfl) rfl
theorem pv_X7_steps : zYV yX7_steps RX7 := ⟨zW_5 (List.mem_of_getElem? (i := 106) rfl) rfl, zP_4 (q := (yX7_steps, 30)) (List.mem_of_getElem? (i := 3) rfl)⟩
theorem pk_X7_entersWay : zY yX7_entersWay cX7_entersWay 2 none 0 := ⟨zW_5 (List.mem_of_getElem? (i := 111) rfl) rfl, kz_X7, by decide +kernel⟩
theorem pi_X7_entersWay : Cond.instanceMethod yX7_entersWay ∈ zW := zW_5 (List.mem_of_getElem? (i := 110) rfl) rfl
theorem pv_X7_entersWay : zYV yX7_entersWay RX7 := ⟨zW_5 (List.mem_of_getElem? (i := 110) rfl) rfl, zP_4 (q := (yX7_entersWay, 30)) (List.mem_of_getElem? (i := 4) rfl)⟩
theorem pk_X7_unlinks : zY yX7_unlinks cX7_unlinks 3 (some .int) 2 := ⟨zW_5 (List.mem_of_getElem? (i := 115) rfl) rfl, kz_X7, by decide +kernel⟩
theorem pi_X7_unlinks : Cond.instanceMethod yX7_unlinks ∈ zW := zW_5 (List.mem_of_getElem? (i := 113) rfl) rfl
theorem pv_X7_unlinks : zYV yX7_unlinks RX7 := ⟨zW_5 (List.mem_of_getElem? (i := 113) rfl) rfl, zW_5 (List.mem_of_getElem? (i := 114) rfl) rfl⟩
theorem pk_X7_unlinksOne : zY yX7_unlinksOne cX7_unlinksOne 3 (some .int) 2 := ⟨zW_5 (List.mem_of_getElem? (i := 119) rfl) rfl, kz_X7, by decide +kernel⟩
theorem pi_X7_unlinksOne : Cond.instanceMethod yX7_unlinksOne ∈ zW := zW_5 (List.mem_of_getElem? (i := 118) rfl) rfl
theorem pv_X7_unlinksOne : zYV yX7_unlinksOne RX7 := ⟨zW_5 (List.mem_of_getElem? (i := 118) rfl) rfl, zP_4 (q := (yX7_unlinksOne, 30)) (List.mem_of_getElem? (i := 5) rfl)⟩
theorem pk_X7_linkMany : zY yX7_linkMany cX7_linkMany 4 (some .int) 1 := ⟨zW_5 (List.mem_of_getElem? (i := 123) rfl) rfl, kz_X7, by decide +kernel⟩
theorem pi_X7_linkMany : Cond.instanceMethod yX7_linkMany ∈ zW := zW_5 (List.mem_of_getElem? (i := 122) rfl) rfl
theorem pv_X7_linkMany : zYV yX7_linkMany RX7 := ⟨zW_5 (List.mem_of_getElem? (i := 122) rfl) rfl, zP_4 (q := (yX7_linkMany, 30)) (List.mem_of_getElem? (i := 6) rfl)⟩
theorem pk_X7_sizeOf : zY yX7_sizeOf cX7_sizeOf 3 (some .int) 1 := ⟨zW_5 (List.mem_of_getElem? (i := 126) rfl) rfl, kz_X7, by decide +kernel⟩
theorem ps_X7_sizeOf : Cond.static yX7_sizeOf ∈ zW := zW_5 (List.mem_of_getElem? (i := 125) rfl) rfl
theorem pk_X7_net : zY yX7_net cX7_net 6 (some .int) 0 := ⟨zW_5 (List.mem_of_getElem? (i := 130) rfl) rfl, kz_X7, by decide +kernel⟩
theorem pi_X7_net : Cond.instanceMethod yX7_net ∈ zW := zW_5 (List.mem_of_getElem? (i := 128) rfl) rfl
theorem pv_X7_net : zYV yX7_net RX7 := ⟨zW_5 (List.mem_of_getElem? (i := 128) rfl) rfl, zW_5 (List.mem_of_getElem? (i := 129) rfl) rfl⟩
theorem pk_X7_readsLinks : zY yX7_readsLinks cX7_readsLinks 3 (some .int) 0 := ⟨zW_5 (List.mem_of_getElem? (i := 134) rfl) rfl, kz_X7, by decide +kernel⟩
theorem pi_X7_readsLinks : Cond.instanceMethod yX7_readsLinks ∈ zW := zW_5 (List.mem_of_getElem? (i := 133) rfl) rfl
theorem pv_X7_readsLinks : zYV yX7_readsLinks RX7 := ⟨zW_5 (List.mem_of_getElem? (i := 133) rfl) rfl, zP_4 (q := (yX7_readsLinks, 30)) (List.mem_of_getElem? (i := 7) rfl)⟩
theorem pk_X7_readsTerm : zY yX7_readsTerm cX7_readsTerm 4 (some .int) 0 := ⟨zW_5 (List.mem_of_getElem? (i := 138) rfl) rfl, kz_X7, by decide +kernel⟩
theorem pi_X7_readsTerm : Cond.instanceMethod yX7_readsTerm ∈ zW := zW_5 (List.mem_of_getElem? (i := 137) rfl) rfl
theorem pv_X7_readsTerm : zYV yX7_readsTerm RX7 := ⟨zW_5 (List.mem_of_getElem? (i := 137) rfl) rfl, zP_4 (q := (yX7_readsTerm, 30)) (List.mem_of_getElem? (i := 8) rfl)⟩
theorem pk_X7_takes : zY yX7_takes cX7_takes 3 (some .boolean) 1 := ⟨zW_5 (List.mem_of_getElem? (i := 142) rfl) rfl, kz_X7, by decide +kernel⟩
theorem pi_X7_takes : Cond.instanceMethod yX7_takes ∈ zW := zW_5 (List.mem_of_getElem? (i := 141) rfl) rfl
theorem pv_X7_takes : zYV yX7_takes RX7 := ⟨zW_5 (List.mem_of_getElem? (i := 141) rfl) rfl, zP_4 (q := (yX7_takes, 30)) (List.mem_of_getElem? (i := 9) rfl)⟩
theorem pk_X7_isHere : zY yX7_isHere cX7_isHere 2 (some .boolean) 1 := ⟨zW_5 (List.mem_of_getElem? (i := 146) rfl) rfl, kz_X7, by decide +kernel⟩
theorem pi_X7_isHere : Cond.instanceMethod yX7_isHere ∈ zW := zW_5 (List.mem_of_getElem? (i := 145) rfl) rfl
theorem pv_X7_isHere : zYV yX7_isHere RX7 := ⟨zW_5 (List.mem_of_getElem? (i := 145) rfl) rfl, zP_4 (q := (yX7_isHere, 30)) (List.mem_of_getElem? (i := 10) rfl)⟩
theorem pk_X7_place : zY yX7_place cX7_place 2 (some .int) 1 := ⟨zW_5 (List.mem_of_getElem? (i := 150) rfl) rfl, kz_X7, by decide +kernel⟩
theorem pi_X7_place : Cond.instanceMethod yX7_place ∈ zW := zW_5 (List.mem_of_getElem? (i := 148) rfl) rfl
theorem pv_X7_place : zYV yX7_place RX7 := ⟨zW_5 (List.mem_of_getElem? (i := 148) rfl) rfl, zW_5 (List.mem_of_getElem? (i := 149) rfl) rfl⟩
theorem pk_X7_at : zY yX7_at cX7_at 2 (some .int) 1 := ⟨zW_5 (List.mem_of_getElem? (i := 154) rfl) rfl, kz_X7, by decide +kernel⟩
theorem pi_X7_at : Cond.instanceMethod yX7_at ∈ zW := zW_5 (List.mem_of_getElem? (i := 152) rfl) rfl
theorem pv_X7_at : zYV yX7_at RX7 := ⟨zW_5 (List.mem_of_getElem? (i := 152) rfl) rfl, zW_5 (List.mem_of_getElem? (i := 153) rfl) rfl⟩
theorem pk_X7_would : zY yX7_would cX7_would 5 (some .int) 2 := ⟨zW_5 (List.mem_of_getElem? (i := 158) rfl) rfl, kz_X7, by decide +kernel⟩
theorem pi_X7_would : Cond.instanceMethod yX7_would ∈ zW := zW_5 (List.mem_of_getElem? (i := 156) rfl) rfl
theorem pv_X7_would : zYV yX7_would RX7 := ⟨zW_5 (List.mem_of_getElem? (i := 156) rfl) rfl, zW_5 (List.mem_of_getElem? (i := 157) rfl) rfl⟩
theorem pk_X7_kin : zY yX7_kin cX7_kin 4 (some .int) 2 := ⟨zW_5 (List.mem_of_getElem? (i := 162) rfl) rfl, kz_X7, by decide +kernel⟩
theorem pi_X7_kin : Cond.instanceMethod yX7_kin ∈ zW := zW_5 (List.mem_of_getElem? (i := 160) rfl) rfl
theorem pv_X7_kin : zYV yX7_kin RX7 := ⟨zW_5 (List.mem_of_getElem? (i := 160) rfl) rfl, zW_5 (List.mem_of_getElem? (i := 161) rfl) rfl⟩
theorem pk_X7_way : zY yX7_way cX7_way 3 (some .int) 2 := ⟨zW_5 (List.mem_of_getElem? (i := 167) rfl) rfl, kz_X7, by decide +kernel⟩
theorem pi_X7_way : Cond.instanceMethod yX7_way ∈ zW := zW_5 (List.mem_of_getElem? (i := 165) rfl) rfl
theorem pv_X7_way : zYV yX7_way RX7 := ⟨zW_5 (List.mem_of_getElem? (i := 165) rfl) rfl, zW_5 (List.mem_of_getElem? (i := 166) rfl) rfl⟩
theorem pk_X7_ways : zY yX7_ways cX7_ways 3 (some .int) 2 := ⟨zW_5 (List.mem_of_getElem? (i := 171) rfl) rfl, kz_X7, by decide +kernel⟩
theorem pi_X7_ways : Cond.instanceMethod yX7_ways ∈ zW := zW_5 (List.mem_of_getElem? (i := 169) rfl) rfl
theorem pv_X7_ways : zYV yX7_ways RX7 := ⟨zW_5 (List.mem_of_getElem? (i := 169) rfl) rfl, zW_5 (List.mem_of_getElem? (i := 170) rfl) rfl⟩
theorem pk_X7_measures : zY yX7_measures cX7_measures 5 none 1 := ⟨zW_5 (List.mem_of_getElem? (i := 175) rfl) rfl, kz_X7, by decide +kernel⟩
theorem pi_X7_measures : Cond.instanceMethod yX7_measures ∈ zW := zW_5 (List.mem_of_getElem? (i := 174) rfl) rfl
theorem pv_X7_measures : zYV yX7_measures RX7 := ⟨zW_5 (List.mem_of_getElem? (i := 174) rfl) rfl, zP_4 (q := (yX7_measures, 30)) (List.mem_of_getElem? (i := 11) rfl)⟩
theorem pk_X7_between : zY yX7_between cX7_between 6 (some .int) 2 := ⟨zW_5 (List.mem_of_getElem? (i := 179) rfl) rfl, kz_X7, by decide +kernel⟩
theorem pi_X7_between : Cond.instanceMethod yX7_between ∈ zW := zW_5 (List.mem_of_getElem? (i := 177) rfl) rfl
theorem pv_X7_between : zYV yX7_between RX7 := ⟨zW_5 (List.mem_of_getElem? (i := 177) rfl) rfl, zW_5 (List.mem_of_getElem? (i := 178) rfl) rfl⟩
theorem pk_X7_isBelow : zY yX7_isBelow cX7_isBelow 3 (some .boolean) 2 := ⟨zW_5 (List.mem_of_getElem? (i := 183) rfl) rfl, kz_X7, by decide +kernel⟩
theorem pi_X7_isBelow : Cond.instanceMethod yX7_isBelow ∈ zW := zW_5 (List.mem_of_getElem? (i := 182) rfl) rfl
theorem pv_X7_isBelow : zYV yX7_isBelow RX7 := ⟨zW_5 (List.mem_of_getElem? (i := 182) rfl) rfl, zP_4 (q := (yX7_isBelow, 30)) (List.mem_of_getElem? (i := 12) rfl)⟩
theorem pk_X7_meets : zY yX7_meets cX7_meets 6 (some .int) 2 := ⟨zW_5 (List.mem_of_getElem? (i := 187) rfl) rfl, kz_X7, by decide +kernel⟩
theorem pi_X7_meets : Cond.instanceMethod yX7_meets ∈ zW := zW_5 (List.mem_of_getElem? (i := 185) rfl) rfl
theorem pv_X7_meets : zYV yX7_meets RX7 := ⟨zW_5 (List.mem_of_getElem? (i := 185) rfl) rfl, zW_5 (List.mem_of_getElem? (i := 186) rfl) rfl⟩
theorem pk_X7_steps_ : zY yX7_steps_ cX7_steps_ 7 (some .int) 2 := ⟨zW_5 (List.mem_of_getElem? (i := 191) rfl) rfl, kz_X7, by decide +kernel⟩
theorem pi_X7_steps_ : Cond.instanceMethod yX7_steps_ ∈ zW := zW_5 (List.mem_of_getElem? (i := 189) rfl) rfl
theorem pv_X7_steps_ : zYV yX7_steps_ RX7 := ⟨zW_5 (List.mem_of_getElem? (i := 189) rfl) rfl, zW_5 (List.mem_of_getElem? (i := 190) rfl) rfl⟩
theorem pk_X7_depth : zY yX7_depth cX7_depth 2 (some .int) 1 := ⟨zW_5 (List.mem_of_getElem? (i := 195) rfl) rfl, kz_X7, by decide +kernel⟩
theorem pi_X7_depth : Cond.instanceMethod yX7_depth ∈ zW := zW_5 (List.mem_of_getElem? (i := 193) rfl) rfl
theorem pv_X7_depth : zYV yX7_depth RX7 := ⟨zW_5 (List.mem_of_getElem? (i := 193) rfl) rfl, zW_5 (List.mem_of_getElem? (i := 194) rfl) rfl⟩
theorem pk_X7_deep : zY yX7_deep cX7_deep 7 (some .int) 2 := ⟨zW_5 (List.mem_of_getElem? (i := 199) rfl) rfl, kz_X7, by decide +kernel⟩
theorem pi_X7_deep : Cond.instanceMethod yX7_deep ∈ zW := zW_5 (List.mem_of_getElem? (i := 198) rfl) rfl
theorem pv_X7_deep : zYV yX7_deep RX7 := ⟨zW_5 (List.mem_of_getElem? (i := 198) rfl) rfl, zP_4 (q := (yX7_deep, 30)) (List.mem_of_getElem? (i := 13) rfl)⟩
theorem pk_X7_tops : zY yX7_tops cX7_tops 4 (some .int) 0 := ⟨zW_5 (List.mem_of_getElem? (i := 203) rfl) rfl, kz_X7, by decide +kernel⟩
theorem pi_X7_tops : Cond.instanceMethod yX7_tops ∈ zW := zW_5 (List.mem_of_getElem? (i := 201) rfl) rfl
theorem pv_X7_tops : zYV yX7_tops RX7 := ⟨zW_5 (List.mem_of_getElem? (i := 201) rfl) rfl, zW_5 (List.mem_of_getElem? (i := 202) rfl) rfl⟩
theorem pk_X7_needless : zY yX7_needless cX7_needless 4 (some .int) 0 := ⟨zW_5 (List.mem_of_getElem? (i := 207) rfl) rfl, kz_X7, by decide +kernel⟩
theorem pi_X7_needless : Cond.instanceMethod yX7_needless ∈ zW := zW_5 (List.mem_of_getElem? (i := 205) rfl) rfl
theorem pv_X7_needless : zYV yX7_needless RX7 := ⟨zW_5 (List.mem_of_getElem? (i := 205) rfl) rfl, zW_5 (List.mem_of_getElem? (i := 206) rfl) rfl⟩
theorem pk_X7_laysNeedless : zY yX7_laysNeedless cX7_laysNeedless 4 (some .int) 0 := ⟨zW_5 (List.mem_of_getElem? (i := 211) rfl) rfl, kz_X7, by decide +kernel⟩
theorem pi_X7_laysNeedless : Cond.instanceMethod yX7_laysNeedless ∈ zW := zW_5 (List.mem_of_getElem? (i := 210) rfl) rfl
theorem pv_X7_laysNeedless : zYV yX7_laysNeedless RX7 := ⟨zW_5 (List.mem_of_getElem? (i := 210) rfl) rfl, zP_4 (q := (yX7_laysNeedless, 30)) (List.mem_of_getElem? (i := 14) rfl)⟩
theorem pk_X7_isNeedless : zY yX7_isNeedless cX7_isNeedless 4 (some .boolean) 2 := ⟨zW_5 (List.mem_of_getElem? (i := 215) rfl) rfl, kz_X7, by decide +kernel⟩
theorem pi_X7_isNeedless : Cond.instanceMethod yX7_isNeedless ∈ zW := zW_5 (List.mem_of_getElem? (i := 214) rfl) rfl
theorem pv_X7_isNeedless : zYV yX7_isNeedless RX7 := ⟨zW_5 (List.mem_of_getElem? (i := 214) rfl) rfl, zP_4 (q := (yX7_isNeedless, 30)) (List.mem_of_getElem? (i := 15) rfl)⟩
theorem pk_X7_chains : zY yX7_chains cX7_chains 4 (some .int) 0 := ⟨zW_5 (List.mem_of_getElem? (i := 219) rfl) rfl, kz_X7, by decide +kernel⟩
theorem pi_X7_chains : Cond.instanceMethod yX7_chains ∈ zW := zW_5 (List.mem_of_getElem? (i := 217) rfl) rfl
theorem pv_X7_chains : zYV yX7_chains RX7 := ⟨zW_5 (List.mem_of_getElem? (i := 217) rfl) rfl, zW_5 (List.mem_of_getElem? (i := 218) rfl) rfl⟩
theorem pk_X7_finds : zY yX7_finds cX7_finds 4 (some .boolean) 1 := ⟨zW_5 (List.mem_of_getElem? (i := 223) rfl) rfl, kz_X7, by decide +kernel⟩
theorem pi_X7_finds : Cond.instanceMethod yX7_finds ∈ zW := zW_5 (List.mem_of_getElem? (i := 222) rfl) rfl
theorem pv_X7_finds : zYV yX7_finds RX7 := ⟨zW_5 (List.mem_of_getElem? (i := 222) rfl) rfl, zP_5 (q := (yX7_finds, 30)) (List.mem_of_getElem? (i := 0) rfl)⟩
theorem pk_X7_apart : zY yX7_apart cX7_apart 4 (some .int) 1 := ⟨zW_5 (List.mem_of_getElem? (i := 227) rfl) rfl, kz_X7, by decide +kernel⟩
theorem pi_X7_apart : Cond.instanceMethod yX7_apart ∈ zW := zW_5 (List.mem_of_getElem? (i := 225) rfl) rfl
theorem pv_X7_apart : zYV yX7_apart RX7 := ⟨zW_5 (List.mem_of_getElem? (i := 225) rfl) rfl, zW_5 (List.mem_of_getElem? (i := 226) rfl) rfl⟩
theorem pk_X7_posts : zY yX7_posts cX7_posts 3 (some .int) 2 := ⟨zW_5 (List.mem_of_getElem? (i := 231) rfl) rfl, kz_X7, by decide +kernel⟩
theorem pi_X7_posts : Cond.instanceMethod yX7_posts ∈ zW := zW_5 (List.mem_of_getElem? (i := 229) rfl) rfl
theorem pv_X7_posts : zYV yX7_posts RX7 := ⟨zW_5 (List.mem_of_getElem? (i := 229) rfl) rfl, zW_5 (List.mem_of_getElem? (i := 230) rfl) rfl⟩
theorem pk_X7_postsOne : zY yX7_postsOne cX7_postsOne 3 (some .int) 2 := ⟨zW_5 (List.mem_of_getElem? (i := 235) rfl) rfl, kz_X7, by decide +kernel⟩
theorem pi_X7_postsOne : Cond.instanceMethod yX7_postsOne ∈ zW := zW_5 (List.mem_of_getElem? (i := 234) rfl) rfl
theorem pv_X7_postsOne : zYV yX7_postsOne RX7 := ⟨zW_5 (List.mem_of_getElem? (i := 234) rfl) rfl, zP_5 (q := (yX7_postsOne, 30)) (List.mem_of_getElem? (i := 1) rfl)⟩
theorem pk_X7_isItem : zY yX7_isItem cX7_isItem 1 (some .boolean) 1 := ⟨zW_5 (List.mem_of_getElem? (i := 238) rfl) rfl, kz_X7, by decide +kernel⟩
theorem ps_X7_isItem : Cond.static yX7_isItem ∈ zW := zW_5 (List.mem_of_getElem? (i := 237) rfl) rfl
theorem pk_X7_isPosted : zY yX7_isPosted cX7_isPosted 3 (some .boolean) 2 := ⟨zW_6 (List.mem_of_getElem? (i := 3) rfl) rfl, kz_X7, by decide +kernel⟩
theorem pi_X7_isPosted : Cond.instanceMethod yX7_isPosted ∈ zW := zW_6 (List.mem_of_getElem? (i := 2) rfl) rfl
theorem pv_X7_isPosted : zYV yX7_isPosted RX7 := ⟨zW_6 (List.mem_of_getElem? (i := 2) rfl) rfl, zP_5 (q := (yX7_isPosted, 30)) (List.mem_of_getElem? (i := 2) rfl)⟩
theorem pk_X7_itemsOf : zY yX7_itemsOf cX7_itemsOf 3 (some .int) 2 := ⟨zW_6 (List.mem_of_getElem? (i := 7) rfl) rfl, kz_X7, by decide +kernel⟩
theorem pi_X7_itemsOf : Cond.instanceMethod yX7_itemsOf ∈ zW := zW_6 (List.mem_of_getElem? (i := 6) rfl) rfl
theorem pv_X7_itemsOf : zYV yX7_itemsOf RX7 := ⟨zW_6 (List.mem_of_getElem? (i := 6) rfl) rfl, zP_5 (q := (yX7_itemsOf, 30)) (List.mem_of_getElem? (i := 3) rfl)⟩
theorem pk_X7_unposts : zY yX7_unposts cX7_unposts 3 (some .int) 2 := ⟨zW_6 (List.mem_of_getElem? (i := 11) rfl) rfl, kz_X7, by decide +kernel⟩
theorem pi_X7_unposts : Cond.instanceMethod yX7_unposts ∈ zW := zW_6 (List.mem_of_getElem? (i := 9) rfl) rfl
theorem pv_X7_unposts : zYV yX7_unposts RX7 := ⟨zW_6 (List.mem_of_getElem? (i := 9) rfl) rfl, zW_6 (List.mem_of_getElem? (i := 10) rfl) rfl⟩
theorem pk_X7_search : zY yX7_search cX7_search 4 (some .int) 0 := ⟨zW_6 (List.mem_of_getElem? (i := 15) rfl) rfl, kz_X7, by decide +kernel⟩
theorem pi_X7_search : Cond.instanceMethod yX7_search ∈ zW := zW_6 (List.mem_of_getElem? (i := 13) rfl) rfl
theorem pv_X7_search : zYV yX7_search RX7 := ⟨zW_6 (List.mem_of_getElem? (i := 13) rfl) rfl, zW_6 (List.mem_of_getElem? (i := 14) rfl) rfl⟩
theorem pk_X7_readsNext : zY yX7_readsNext cX7_readsNext 2 (some .boolean) 0 := ⟨zW_6 (List.mem_of_getElem? (i := 19) rfl) rfl, kz_X7, by decide +kernel⟩
theorem pi_X7_readsNext : Cond.instanceMethod yX7_readsNext ∈ zW := zW_6 (List.mem_of_getElem? (i := 18) rfl) rfl
theorem pv_X7_readsNext : zYV yX7_readsNext RX7 := ⟨zW_6 (List.mem_of_getElem? (i := 18) rfl) rfl, zP_5 (q := (yX7_readsNext, 30)) (List.mem_of_getElem? (i := 4) rfl)⟩
theorem pk_X7_laysNext : zY yX7_laysNext cX7_laysNext 5 none 2 := ⟨zW_6 (List.mem_of_getElem? (i := 23) rfl) rfl, kz_X7, by decide +kernel⟩
theorem pi_X7_laysNext : Cond.instanceMethod yX7_laysNext ∈ zW := zW_6 (List.mem_of_getElem? (i := 22) rfl) rfl
theorem pv_X7_laysNext : zYV yX7_laysNext RX7 := ⟨zW_6 (List.mem_of_getElem? (i := 22) rfl) rfl, zP_5 (q := (yX7_laysNext, 30)) (List.mem_of_getElem? (i := 5) rfl)⟩
theorem pk_X7_joins : zY yX7_joins cX7_joins 2 none 1 := ⟨zW_6 (List.mem_of_getElem? (i := 27) rfl) rfl, kz_X7, by decide +kernel⟩
theorem pi_X7_joins : Cond.instanceMethod yX7_joins ∈ zW := zW_6 (List.mem_of_getElem? (i := 26) rfl) rfl
theorem pv_X7_joins : zYV yX7_joins RX7 := ⟨zW_6 (List.mem_of_getElem? (i := 26) rfl) rfl, zP_5 (q := (yX7_joins, 30)) (List.mem_of_getElem? (i := 6) rfl)⟩
theorem pk_X7_takesOf : zY yX7_takesOf cX7_takesOf 3 (some .int) 1 := ⟨zW_6 (List.mem_of_getElem? (i := 32) rfl) rfl, kz_X7, by decide +kernel⟩
theorem pi_X7_takesOf : Cond.instanceMethod yX7_takesOf ∈ zW := zW_6 (List.mem_of_getElem? (i := 31) rfl) rfl
theorem pv_X7_takesOf : zYV yX7_takesOf RX7 := ⟨zW_6 (List.mem_of_getElem? (i := 31) rfl) rfl, zP_5 (q := (yX7_takesOf, 30)) (List.mem_of_getElem? (i := 7) rfl)⟩
theorem pk_J0_length_8abf5 : zY yJ0_length_8abf5 cJ0_length_8abf5 1 (some .int) 0 := ⟨zW_6 (List.mem_of_getElem? (i := 36) rfl) rfl, kz_J0, by decide +kernel⟩
theorem pi_J0_length_8abf5 : Cond.instanceMethod yJ0_length_8abf5 ∈ zW := zW_6 (List.mem_of_getElem? (i := 34) rfl) rfl
theorem pv_J0_length_8abf5 : zYV yJ0_length_8abf5 RJ0 := ⟨zW_6 (List.mem_of_getElem? (i := 34) rfl) rfl, zW_6 (List.mem_of_getElem? (i := 35) rfl) rfl⟩
theorem pk_J0_coder_7d493 : zY yJ0_coder_7d493 cJ0_coder_7d493 1 (some .byte) 0 := ⟨zW_6 (List.mem_of_getElem? (i := 40) rfl) rfl, kz_J0, by decide +kernel⟩
theorem pi_J0_coder_7d493 : Cond.instanceMethod yJ0_coder_7d493 ∈ zW := zW_6 (List.mem_of_getElem? (i := 38) rfl) rfl
theorem pv_J0_coder_7d493 : zYV yJ0_coder_7d493 RJ0 := ⟨zW_6 (List.mem_of_getElem? (i := 38) rfl) rfl, zW_6 (List.mem_of_getElem? (i := 39) rfl) rfl⟩
theorem pk_J0_charAt_5068e : zY yJ0_charAt_5068e cJ0_charAt_5068e 2 (some .char) 1 := ⟨zW_6 (List.mem_of_getElem? (i := 46) rfl) rfl, kz_J0, by decide +kernel⟩
theorem pi_J0_charAt_5068e : Cond.instanceMethod yJ0_charAt_5068e ∈ zW := zW_6 (List.mem_of_getElem? (i := 44) rfl) rfl
theorem pv_J0_charAt_5068e : zYV yJ0_charAt_5068e RJ0 := ⟨zW_6 (List.mem_of_getElem? (i := 44) rfl) rfl, zW_6 (List.mem_of_getElem? (i := 45) rfl) rfl⟩
theorem pk_J0_isLatin1_aae02 : zY yJ0_isLatin1_aae02 cJ0_isLatin1_aae02 1 (some .boolean) 0 := ⟨zW_6 (List.mem_of_getElem? (i := 50) rfl) rfl, kz_J0, by decide +kernel⟩
theorem pi_J0_isLatin1_aae02 : Cond.instanceMethod yJ0_isLatin1_aae02 ∈ zW := zW_6 (List.mem_of_getElem? (i := 48) rfl) rfl
theorem pv_J0_isLatin1_aae02 : zYV yJ0_isLatin1_aae02 RJ0 := ⟨zW_6 (List.mem_of_getElem? (i := 48) rfl) rfl, zW_6 (List.mem_of_getElem? (i := 49) rfl) rfl⟩
theorem pk_J1_charAt_3b067 : zY yJ1_charAt_3b067 cJ1_charAt_3b067 2 (some .char) 2 := ⟨zW_6 (List.mem_of_getElem? (i := 53) rfl) rfl, kz_J1, by decide +kernel⟩
theorem ps_J1_charAt_3b067 : Cond.static yJ1_charAt_3b067 ∈ zW := zW_6 (List.mem_of_getElem? (i := 52) rfl) rfl
theorem pk_J0_checkIndex_df160 : zY yJ0_checkIndex_df160 cJ0_checkIndex_df160 2 none 2 := ⟨zW_6 (List.mem_of_getElem? (i := 56) rfl) rfl, kz_J0, by decide +kernel⟩
theorem ps_J0_checkIndex_df160 : Cond.static yJ0_checkIndex_df160 ∈ zW := zW_6 (List.mem_of_getElem? (i := 55) rfl) rfl
theorem pk_J3_checkIndex_8e157 : zY yJ3_checkIndex_8e157 cJ3_checkIndex_8e157 3 (some .int) 3 := ⟨zW_6 (List.mem_of_getElem? (i := 61) rfl) rfl, kz_J3, by decide +kernel⟩
theorem ps_J3_checkIndex_8e157 : Cond.static yJ3_checkIndex_8e157 ∈ zW := zW_6 (List.mem_of_getElem? (i := 60) rfl) rfl
theorem pk_J2_charAt_3b067 : zY yJ2_charAt_3b067 cJ2_charAt_3b067 2 (some .char) 2 := ⟨zW_6 (List.mem_of_getElem? (i := 64) rfl) rfl, kz_J2, by decide +kernel⟩
theorem ps_J2_charAt_3b067 : Cond.static yJ2_charAt_3b067 ∈ zW := zW_6 (List.mem_of_getElem? (i := 63) rfl) rfl
theorem pk_J2_checkIndex_2214a : zY yJ2_checkIndex_2214a cJ2_checkIndex_2214a 2 none 2 := ⟨zW_6 (List.mem_of_getElem? (i := 67) rfl) rfl, kz_J2, by decide +kernel⟩
theorem ps_J2_checkIndex_2214a : Cond.static yJ2_checkIndex_2214a ∈ zW := zW_6 (List.mem_of_getElem? (i := 66) rfl) rfl
theorem pk_J2_length_9d52b : zY yJ2_length_9d52b cJ2_length_9d52b 1 (some .int) 1 := ⟨zW_6 (List.mem_of_getElem? (i := 70) rfl) rfl, kz_J2, by decide +kernel⟩
theorem ps_J2_length_9d52b : Cond.static yJ2_length_9d52b ∈ zW := zW_6 (List.mem_of_getElem? (i := 69) rfl) rfl
theorem pk_J2_getChar_3b067 : zY yJ2_getChar_3b067 cJ2_getChar_3b067 2 (some .char) 2 := ⟨zW_6 (List.mem_of_getElem? (i := 74) rfl) rfl, kz_J2, by decide +kernel⟩
theorem ps_J2_getChar_3b067 : Cond.static yJ2_getChar_3b067 ∈ zW := zW_6 (List.mem_of_getElem? (i := 73) rfl) rfl
theorem pk_X7_posted : zY yX7_posted cX7_posted 5 (some .int) 1 := ⟨zW_6 (List.mem_of_getElem? (i := 84) rfl) rfl, kz_X7, by decide +kernel⟩
theorem pi_X7_posted : Cond.instanceMethod yX7_posted ∈ zW := zW_6 (List.mem_of_getElem? (i := 82) rfl) rfl
theorem pv_X7_posted : zYV yX7_posted RX7 := ⟨zW_6 (List.mem_of_getElem? (i := 82) rfl) rfl, zW_6 (List.mem_of_getElem? (i := 83) rfl) rfl⟩
theorem pk_X7_goes : zY yX7_goes cX7_goes 3 (some .int) 2 := ⟨zW_6 (List.mem_of_getElem? (i := 88) rfl) rfl, kz_X7, by decide +kernel⟩
theorem pi_X7_goes : Cond.instanceMethod yX7_goes ∈ zW := zW_6 (List.mem_of_getElem? (i := 86) rfl) rfl
theorem pv_X7_goes : zYV yX7_goes RX7 := ⟨zW_6 (List.mem_of_getElem? (i := 86) rfl) rfl, zW_6 (List.mem_of_getElem? (i := 87) rfl) rfl⟩
theorem pk_X7_goesOne : zY yX7_goesOne cX7_goesOne 4 (some .int) 2 := ⟨zW_6 (List.mem_of_getElem? (i := 92) rfl) rfl, kz_X7, by decide +kernel⟩
theorem pi_X7_goesOne : Cond.instanceMethod yX7_goesOne ∈ zW := zW_6 (List.mem_of_getElem? (i := 91) rfl) rfl
theorem pv_X7_goesOne : zYV yX7_goesOne RX7 := ⟨zW_6 (List.mem_of_getElem? (i := 91) rfl) rfl, zP_5 (q := (yX7_goesOne, 30)) (List.mem_of_getElem? (i := 8) rfl)⟩
theorem pk_X7_inherits : zY yX7_inherits cX7_inherits 6 none 1 := ⟨zW_6 (List.mem_of_getElem? (i := 96) rfl) rfl, kz_X7, by decide +kernel⟩
theorem pi_X7_inherits : Cond.instanceMethod yX7_inherits ∈ zW := zW_6 (List.mem_of_getElem? (i := 95) rfl) rfl
theorem pv_X7_inherits : zYV yX7_inherits RX7 := ⟨zW_6 (List.mem_of_getElem? (i := 95) rfl) rfl, zP_5 (q := (yX7_inherits, 30)) (List.mem_of_getElem? (i := 9) rfl)⟩
theorem pk_X7_dropsLabel : zY yX7_dropsLabel cX7_dropsLabel 3 none 1 := ⟨zW_6 (List.mem_of_getElem? (i := 100) rfl) rfl, kz_X7, by decide +kernel⟩
theorem pi_X7_dropsLabel : Cond.instanceMethod yX7_dropsLabel ∈ zW := zW_6 (List.mem_of_getElem? (i := 99) rfl) rfl
theorem pv_X7_dropsLabel : zYV yX7_dropsLabel RX7 := ⟨zW_6 (List.mem_of_getElem? (i := 99) rfl) rfl, zP_5 (q := (yX7_dropsLabel, 30)) (List.mem_of_getElem? (i := 10) rfl)⟩
theorem pk_X7_leaves : zY yX7_leaves cX7_leaves 4 none 1 := ⟨zW_6 (List.mem_of_getElem? (i := 104) rfl) rfl, kz_X7, by decide +kernel⟩
theorem pi_X7_leaves : Cond.instanceMethod yX7_leaves ∈ zW := zW_6 (List.mem_of_getElem? (i := 103) rfl) rfl
theorem pv_X7_leaves : zYV yX7_leaves RX7 := ⟨zW_6 (List.mem_of_getElem? (i := 103) rfl) rfl, zP_5 (q := (yX7_leaves, 30)) (List.mem_of_getElem? (i := 11) rfl)⟩
theorem pk_X7_merges : zY yX7_merges cX7_merges 4 (some .int) 2 := ⟨zW_6 (List.mem_of_getElem? (i := 108) rfl) rfl, kz_X7, by decide +kernel⟩
theorem pi_X7_merges : Cond.instanceMethod yX7_merges ∈ zW := zW_6 (List.mem_of_getElem? (i := 106) rfl) rfl
theorem pv_X7_merges : zYV yX7_merges RX7 := ⟨zW_6 (List.mem_of_getElem? (i := 106) rfl) rfl, zW_6 (List.mem_of_getElem? (i := 107) rfl) rfl⟩
theorem pk_X7_mergesOne : zY yX7_mergesOne cX7_mergesOne 6 (some .int) 2 := ⟨zW_6 (List.mem_of_getElem? (i := 112) rfl) rfl, kz_X7, by decide +kernel⟩
theorem pi_X7_mergesOne : Cond.instanceMethod yX7_mergesOne ∈ zW := zW_6 (List.mem_of_getElem? (i := 111) rfl) rfl
theorem pv_X7_mergesOne : zYV yX7_mergesOne RX7 := ⟨zW_6 (List.mem_of_getElem? (i := 111) rfl) rfl, zP_5 (q := (yX7_mergesOne, 30)) (List.mem_of_getElem? (i := 12) rfl)⟩
theorem pk_X7_findsOver : zY yX7_findsOver cX7_findsOver 3 (some .boolean) 2 := ⟨zW_6 (List.mem_of_getElem? (i := 116) rfl) rfl, kz_X7, by decide +kernel⟩
theorem pi_X7_findsOver : Cond.instanceMethod yX7_findsOver ∈ zW := zW_6 (List.mem_of_getElem? (i := 115) rfl) rfl
theorem pv_X7_findsOver : zYV yX7_findsOver RX7 := ⟨zW_6 (List.mem_of_getElem? (i := 115) rfl) rfl, zP_5 (q := (yX7_findsOver, 30)) (List.mem_of_getElem? (i := 13) rfl)⟩
theorem pk_X7_takesLabels : zY yX7_takesLabels cX7_takesLabels 6 none 2 := ⟨zW_6 (List.mem_of_getElem? (i := 120) rfl) rfl, kz_X7, by decide +kernel⟩
theorem pi_X7_takesLabels : Cond.instanceMethod yX7_takesLabels ∈ zW := zW_6 (List.mem_of_getElem? (i := 119) rfl) rfl
theorem pv_X7_takesLabels : zYV yX7_takesLabels RX7 := ⟨zW_6 (List.mem_of_getElem? (i := 119) rfl) rfl, zP_5 (q := (yX7_takesLabels, 30)) (List.mem_of_getElem? (i := 14) rfl)⟩
theorem pk_X7_thins : zY yX7_thins cX7_thins 1 (some .int) 0 := ⟨zW_6 (List.mem_of_getElem? (i := 124) rfl) rfl, kz_X7, by decide +kernel⟩
theorem pi_X7_thins : Cond.instanceMethod yX7_thins ∈ zW := zW_6 (List.mem_of_getElem? (i := 122) rfl) rfl
theorem pv_X7_thins : zYV yX7_thins RX7 := ⟨zW_6 (List.mem_of_getElem? (i := 122) rfl) rfl, zW_6 (List.mem_of_getElem? (i := 123) rfl) rfl⟩
theorem pk_X7_thinsOne : zY yX7_thinsOne cX7_thinsOne 3 (some .int) 0 := ⟨zW_6 (List.mem_of_getElem? (i := 128) rfl) rfl, kz_X7, by decide +kernel⟩
theorem pi_X7_thinsOne : Cond.instanceMethod yX7_thinsOne ∈ zW := zW_6 (List.mem_of_getElem? (i := 127) rfl) rfl
theorem pv_X7_thinsOne : zYV yX7_thinsOne RX7 := ⟨zW_6 (List.mem_of_getElem? (i := 127) rfl) rfl, zP_5 (q := (yX7_thinsOne, 30)) (List.mem_of_getElem? (i := 15) rfl)⟩
theorem pk_X7_day : zY yX7_day cX7_day 3 (some .int) 0 := ⟨zW_6 (List.mem_of_getElem? (i := 132) rfl) rfl, kz_X7, by decide +kernel⟩
theorem pi_X7_day : Cond.instanceMethod yX7_day ∈ zW := zW_6 (List.mem_of_getElem? (i := 130) rfl) rfl
theorem pv_X7_day : zYV yX7_day RX7 := ⟨zW_6 (List.mem_of_getElem? (i := 130) rfl) rfl, zW_6 (List.mem_of_getElem? (i := 131) rfl) rfl⟩
theorem pk_X7_readsAct : zY yX7_readsAct cX7_readsAct 2 (some .boolean) 1 := ⟨zW_6 (List.mem_of_getElem? (i := 136) rfl) rfl, kz_X7, by decide +kernel⟩
theorem pi_X7_readsAct : Cond.instanceMethod yX7_readsAct ∈ zW := zW_6 (List.mem_of_getElem? (i := 135) rfl) rfl
theorem pv_X7_readsAct : zYV yX7_readsAct RX7 := ⟨zW_6 (List.mem_of_getElem? (i := 135) rfl) rfl, zP_6 (q := (yX7_readsAct, 30)) (List.mem_of_getElem? (i := 0) rfl)⟩
theorem pk_X7_two : zY yX7_two cX7_two 3 (some .int) 0 := ⟨zW_6 (List.mem_of_getElem? (i := 141) rfl) rfl, kz_X7, by decide +kernel⟩
theorem pi_X7_two : Cond.instanceMethod yX7_two ∈ zW := zW_6 (List.mem_of_getElem? (i := 140) rfl) rfl
theorem pv_X7_two : zYV yX7_two RX7 := ⟨zW_6 (List.mem_of_getElem? (i := 140) rfl) rfl, zP_6 (q := (yX7_two, 30)) (List.mem_of_getElem? (i := 1) rfl)⟩
theorem pk_X7_digit : zY yX7_digit cX7_digit 1 (some .int) 0 := ⟨zW_6 (List.mem_of_getElem? (i := 145) rfl) rfl, kz_X7, by decide +kernel⟩
theorem pi_X7_digit : Cond.instanceMethod yX7_digit ∈ zW := zW_6 (List.mem_of_getElem? (i := 144) rfl) rfl
theorem pv_X7_digit : zYV yX7_digit RX7 := ⟨zW_6 (List.mem_of_getElem? (i := 144) rfl) rfl, zP_6 (q := (yX7_digit, 30)) (List.mem_of_getElem? (i := 2) rfl)⟩
theorem pk_X7_doesAct : zY yX7_doesAct cX7_doesAct 2 (some .int) 1 := ⟨zW_6 (List.mem_of_getElem? (i := 150) rfl) rfl, kz_X7, by decide +kernel⟩
theorem pi_X7_doesAct : Cond.instanceMethod yX7_doesAct ∈ zW := zW_6 (List.mem_of_getElem? (i := 149) rfl) rfl
theorem pv_X7_doesAct : zYV yX7_doesAct RX7 := ⟨zW_6 (List.mem_of_getElem? (i := 149) rfl) rfl, zP_6 (q := (yX7_doesAct, 30)) (List.mem_of_getElem? (i := 3) rfl)⟩
theorem pk_X7_years : zY yX7_years cX7_years 9 (some .int) 2 := ⟨zW_6 (List.mem_of_getElem? (i := 154) rfl) rfl, kz_X7, by decide +kernel⟩
theorem pi_X7_years : Cond.instanceMethod yX7_years ∈ zW := zW_6 (List.mem_of_getElem? (i := 152) rfl) rfl
theorem pv_X7_years : zYV yX7_years RX7 := ⟨zW_6 (List.mem_of_getElem? (i := 152) rfl) rfl, zW_6 (List.mem_of_getElem? (i := 153) rfl) rfl⟩
theorem pk_X7_draws : zY yX7_draws cX7_draws 2 (some .int) 1 := ⟨zW_6 (List.mem_of_getElem? (i := 159) rfl) rfl, kz_X7, by decide +kernel⟩
theorem pi_X7_draws : Cond.instanceMethod yX7_draws ∈ zW := zW_6 (List.mem_of_getElem? (i := 158) rfl) rfl
theorem pv_X7_draws : zYV yX7_draws RX7 := ⟨zW_6 (List.mem_of_getElem? (i := 158) rfl) rfl, zP_6 (q := (yX7_draws, 30)) (List.mem_of_getElem? (i := 4) rfl)⟩
theorem pk_X7_keep : zY yX7_keep cX7_keep 2 (some .boolean) 1 := ⟨zW_6 (List.mem_of_getElem? (i := 164) rfl) rfl, kz_X7, by decide +kernel⟩
theorem pi_X7_keep : Cond.instanceMethod yX7_keep ∈ zW := zW_6 (List.mem_of_getElem? (i := 162) rfl) rfl
theorem pv_X7_keep : zYV yX7_keep RX7 := ⟨zW_6 (List.mem_of_getElem? (i := 162) rfl) rfl, zW_6 (List.mem_of_getElem? (i := 163) rfl) rfl⟩
theorem pk_X7_again : zY yX7_again cX7_again 2 (some .boolean) 1 := ⟨zW_6 (List.mem_of_getElem? (i := 168) rfl) rfl, kz_X7, by decide +kernel⟩
theorem pi_X7_again : Cond.instanceMethod yX7_again ∈ zW := zW_6 (List.mem_of_getElem? (i := 166) rfl) rfl
theorem pv_X7_again : zYV yX7_again RX7 := ⟨zW_6 (List.mem_of_getElem? (i := 166) rfl) rfl, zW_6 (List.mem_of_getElem? (i := 167) rfl) rfl⟩
theorem pk_X7_count : zY yX7_count cX7_count 2 (some .int) 1 := ⟨zW_6 (List.mem_of_getElem? (i := 172) rfl) rfl, kz_X7, by decide +kernel⟩
theorem pi_X7_count : Cond.instanceMethod yX7_count ∈ zW := zW_6 (List.mem_of_getElem? (i := 170) rfl) rfl
theorem pv_X7_count : zYV yX7_count RX7 := ⟨zW_6 (List.mem_of_getElem? (i := 170) rfl) rfl, zW_6 (List.mem_of_getElem? (i := 171) rfl) rfl⟩
theorem pk_X7_postings : zY yX7_postings cX7_postings 3 (some .int) 0 := ⟨zW_6 (List.mem_of_getElem? (i := 176) rfl) rfl, kz_X7, by decide +kernel⟩
theorem pi_X7_postings : Cond.instanceMethod yX7_postings ∈ zW := zW_6 (List.mem_of_getElem? (i := 175) rfl) rfl
theorem pv_X7_postings : zYV yX7_postings RX7 := ⟨zW_6 (List.mem_of_getElem? (i := 175) rfl) rfl, zP_6 (q := (yX7_postings, 30)) (List.mem_of_getElem? (i := 5) rfl)⟩
theorem pk_X7_row : zY yX7_row cX7_row 2 (some .long) 1 := ⟨zW_6 (List.mem_of_getElem? (i := 180) rfl) rfl, kz_X7, by decide +kernel⟩
theorem pi_X7_row : Cond.instanceMethod yX7_row ∈ zW := zW_6 (List.mem_of_getElem? (i := 178) rfl) rfl
theorem pv_X7_row : zYV yX7_row RX7 := ⟨zW_6 (List.mem_of_getElem? (i := 178) rfl) rfl, zW_6 (List.mem_of_getElem? (i := 179) rfl) rfl⟩
theorem in_X0 : ∀ w ∈ u_ws RX0 TX0 2, w ∈ zW := List.forall_mem_map.mpr (by
  intro k hk
  have hk := List.mem_range.mp hk
  match k, hk with
  | 0, _ => exact zW_1 (List.mem_of_getElem? (i := 111) rfl) rfl
  | 1, _ => exact zW_1 (List.mem_of_getElem? (i := 113) rfl) rfl)
theorem in_X1 : ∀ w ∈ u_ws RX1 TX1 7, w ∈ zW := List.forall_mem_map.mpr (by
  intro k hk
  have hk := List.mem_range.mp hk
  match k, hk with
  | 0, _ => exact zW_1 (List.mem_of_getElem? (i := 76) rfl) rfl
  | 1, _ => exact zW_1 (List.mem_of_getElem? (i := 78) rfl) rfl
  | 2, _ => exact zW_1 (List.mem_of_getElem? (i := 80) rfl) rfl
  | 3, _ => exact zW_1 (List.mem_of_getElem? (i := 82) rfl) rfl
  | 4, _ => exact zW_1 (List.mem_of_getElem? (i := 84) rfl) rfl
  | 5, _ => exact zW_1 (List.mem_of_getElem? (i := 86) rfl) rfl
  | 6, _ => exact zW_1 (List.mem_of_getElem? (i := 88) rfl) rfl)
theorem in_X2 : ∀ w ∈ u_ws RX2 TX2 9, w ∈ zW := List.forall_mem_map.mpr (by
  intro k hk
  have hk := List.mem_range.mp hk
  match k, hk with
  | 0, _ => exact zW_1 (List.mem_of_getElem? (i := 152) rfl) rfl
  | 1, _ => exact zW_1 (List.mem_of_getElem? (i := 154) rfl) rfl
  | 2, _ => exact zW_1 (List.mem_of_getElem? (i := 156) rfl) rfl
  | 3, _ => exact zW_1 (List.mem_of_getElem? (i := 158) rfl) rfl
  | 4, _ => exact zW_1 (List.mem_of_getElem? (i := 160) rfl) rfl
  | 5, _ => exact zW_1 (List.mem_of_getElem? (i := 162) rfl) rfl
  | 6, _ => exact zW_1 (List.mem_of_getElem? (i := 164) rfl) rfl
  | 7, _ => exact zW_1 (List.mem_of_getElem? (i := 166) rfl) rfl
  | 8, _ => exact zW_1 (List.mem_of_getElem? (i := 168) rfl) rfl)
theorem in_X3 : ∀ w ∈ u_ws RX3 TX3 3, w ∈ zW := List.forall_mem_map.mpr (by
  intro k hk
  have hk := List.mem_range.mp hk
  match k, hk with
  | 0, _ => exact zW_1 (List.mem_of_getElem? (i := 175) rfl) rfl
  | 1, _ => exact zW_1 (List.mem_of_getElem? (i := 177) rfl) rfl
  | 2, _ => exact zW_1 (List.mem_of_getElem? (i := 179) rfl) rfl)
theorem in_X4 : ∀ w ∈ u_ws RX4 TX4 2, w ∈ zW := List.forall_mem_map.mpr (by
  intro k hk
  have hk := List.mem_range.mp hk
  match k, hk with
  | 0, _ => exact zW_1 (List.mem_of_getElem? (i := 102) rfl) rfl
  | 1, _ => exact zW_1 (List.mem_of_getElem? (i := 104) rfl) rfl)
theorem in_X5 : ∀ w ∈ u_ws RX5 TX5 5, w ∈ zW := List.forall_mem_map.mpr (by
  intro k hk
  have hk := List.mem_range.mp hk
  match k, hk with
  | 0, _ => exact zW_1 (List.mem_of_getElem? (i := 43) rfl) rfl
  | 1, _ => exact zW_1 (List.mem_of_getElem? (i := 45) rfl) rfl
  | 2, _ => exact zW_1 (List.mem_of_getElem? (i := 47) rfl) rfl
  | 3, _ => exact zW_1 (List.mem_of_getElem? (i := 49) rfl) rfl
  | 4, _ => exact zW_1 (List.mem_of_getElem? (i := 51) rfl) rfl)
theorem in_X6 : ∀ w ∈ u_ws RX6 TX6 9, w ∈ zW := List.forall_mem_map.mpr (by
  intro k hk
  have hk := List.mem_range.mp hk
  match k, hk with
  | 0, _ => exact zW_1 (List.mem_of_getElem? (i := 193) rfl) rfl
  | 1, _ => exact zW_1 (List.mem_of_getElem? (i := 195) rfl) rfl
  | 2, _ => exact zW_1 (List.mem_of_getElem? (i := 197) rfl) rfl
  | 3, _ => exact zW_1 (List.mem_of_getElem? (i := 199) rfl) rfl
  | 4, _ => exact zW_1 (List.mem_of_getElem? (i := 201) rfl) rfl
  | 5, _ => exact zW_1 (List.mem_of_getElem? (i := 203) rfl) rfl
  | 6, _ => exact zW_1 (List.mem_of_getElem? (i := 205) rfl) rfl
  | 7, _ => exact zW_1 (List.mem_of_getElem? (i := 207) rfl) rfl
  | 8, _ => exact zW_1 (List.mem_of_getElem? (i := 209) rfl) rfl)
theorem in_X7 : ∀ w ∈ u_ws RX7 TX7 30, w ∈ zW := List.forall_mem_map.mpr (by
  intro k hk
  have hk := List.mem_range.mp hk
  match k, hk with
  | 0, _ => exact zW_4 (List.mem_of_getElem? (i := 130) rfl) rfl
  | 1, _ => exact zW_4 (List.mem_of_getElem? (i := 132) rfl) rfl
  | 2, _ => exact zW_4 (List.mem_of_getElem? (i := 134) rfl) rfl
  | 3, _ => exact zW_4 (List.mem_of_getElem? (i := 136) rfl) rfl
  | 4, _ => exact zW_4 (List.mem_of_getElem? (i := 138) rfl) rfl
  | 5, _ => exact zW_4 (List.mem_of_getElem? (i := 140) rfl) rfl
  | 6, _ => exact zW_4 (List.mem_of_getElem? (i := 142) rfl) rfl
  | 7, _ => exact zW_4 (List.mem_of_getElem? (i := 144) rfl) rfl
  | 8, _ => exact zW_4 (List.mem_of_getElem? (i := 146) rfl) rfl
  | 9, _ => exact zW_4 (List.mem_of_getElem? (i := 148) rfl) rfl
  | 10, _ => exact zW_4 (List.mem_of_getElem? (i := 150) rfl) rfl
  | 11, _ => exact zW_4 (List.mem_of_getElem? (i := 152) rfl) rfl
  | 12, _ => exact zW_4 (List.mem_of_getElem? (i := 154) rfl) rfl
  | 13, _ => exact zW_4 (List.mem_of_getElem? (i := 156) rfl) rfl
  | 14, _ => exact zW_4 (List.mem_of_getElem? (i := 158) rfl) rfl
  | 15, _ => exact zW_4 (List.mem_of_getElem? (i := 160) rfl) rfl
  | 16, _ => exact zW_4 (List.mem_of_getElem? (i := 162) rfl) rfl
  | 17, _ => exact zW_4 (List.mem_of_getElem? (i := 164) rfl) rfl
  | 18, _ => exact zW_4 (List.mem_of_getElem? (i := 166) rfl) rfl
  | 19, _ => exact zW_4 (List.mem_of_getElem? (i := 168) rfl) rfl
  | 20, _ => exact zW_4 (List.mem_of_getElem? (i := 170) rfl) rfl
  | 21, _ => exact zW_4 (List.mem_of_getElem? (i := 172) rfl) rfl
  | 22, _ => exact zW_4 (List.mem_of_getElem? (i := 174) rfl) rfl
  | 23, _ => exact zW_4 (List.mem_of_getElem? (i := 176) rfl) rfl
  | 24, _ => exact zW_4 (List.mem_of_getElem? (i := 178) rfl) rfl
  | 25, _ => exact zW_4 (List.mem_of_getElem? (i := 180) rfl) rfl
  | 26, _ => exact zW_4 (List.mem_of_getElem? (i := 182) rfl) rfl
  | 27, _ => exact zW_4 (List.mem_of_getElem? (i := 184) rfl) rfl
  | 28, _ => exact zW_4 (List.mem_of_getElem? (i := 186) rfl) rfl
  | 29, _ => exact zW_4 (List.mem_of_getElem? (i := 188) rfl) rfl
  | n + 30, h => exact absurd h (by omega))
