/-! ===== words of the tables, by their places (wip/whole/gen_all.py) ===== -/
theorem zT0 {w : Cond} (h : w ∈ k2_sels lw_privs) : w ∈ lw_tbl := List.mem_append_left _ h
theorem zT1 {w : Cond} (h : w ∈ tables_1_1) : w ∈ lw_tbl := List.mem_append_right _ (List.mem_append_left _ h)
theorem zT2 {w : Cond} (h : w ∈ tables_1_2) : w ∈ lw_tbl := List.mem_append_right _ (List.mem_append_right _ (List.mem_append_left _ h))
theorem zT3 {w : Cond} (h : w ∈ tables_1_3) : w ∈ lw_tbl := List.mem_append_right _ (List.mem_append_right _ (List.mem_append_right _ (List.mem_append_left _ h)))
theorem zT4 {w : Cond} (h : w ∈ tables_1_4) : w ∈ lw_tbl := List.mem_append_right _ (List.mem_append_right _ (List.mem_append_right _ (List.mem_append_right _ (List.mem_append_left _ h))))
theorem zT5 {w : Cond} (h : w ∈ tables_1_5) : w ∈ lw_tbl := List.mem_append_right _ (List.mem_append_right _ (List.mem_append_right _ (List.mem_append_right _ (List.mem_append_right _ (List.mem_append_left _ h)))))
theorem zT6 {w : Cond} (h : w ∈ tables_1_6) : w ∈ lw_tbl := List.mem_append_right _ (List.mem_append_right _ (List.mem_append_right _ (List.mem_append_right _ (List.mem_append_right _ (List.mem_append_right _ (List.mem_append_left _ h))))))
theorem zT7 {w : Cond} (h : w ∈ tables_1_7) : w ∈ lw_tbl := List.mem_append_right _ (List.mem_append_right _ (List.mem_append_right _ (List.mem_append_right _ (List.mem_append_right _ (List.mem_append_right _ (List.mem_append_right _ (List.mem_append_left _ h)))))))
theorem zT8 {w : Cond} (h : w ∈ tables_1_8) : w ∈ lw_tbl := List.mem_append_right _ (List.mem_append_right _ (List.mem_append_right _ (List.mem_append_right _ (List.mem_append_right _ (List.mem_append_right _ (List.mem_append_right _ (List.mem_append_right _ (List.mem_append_left _ h))))))))
theorem zT9 {w : Cond} (h : w ∈ tables_1_9) : w ∈ lw_tbl := List.mem_append_right _ (List.mem_append_right _ (List.mem_append_right _ (List.mem_append_right _ (List.mem_append_right _ (List.mem_append_right _ (List.mem_append_right _ (List.mem_append_right _ (List.mem_append_right _ (h)))))))))
theorem zm0 : Cond.methodLink "PretendDesk$Best" 3 (⟨"java/lang/Object", "<init>", "()V"⟩ : MethodName) ∈ zTb := zTb_in (zT2 (List.mem_of_getElem? (i := 190) (by decide +kernel))) rfl
theorem zm1 : Cond.instanceMethod (⟨"java/lang/Object", "<init>", "()V"⟩ : MethodName) ∈ zTb := zTb_in (zT1 (List.mem_of_getElem? (i := 31) (by decide +kernel))) rfl
theorem zm2 : Cond.code (⟨"java/lang/Object", "<init>", "()V"⟩ : MethodName) object_method_1_code 1 none ∈ zTb := zTb_in (zT1 (List.mem_of_getElem? (i := 32) (by decide +kernel))) rfl
theorem zm3 : Cond.arrayClass .int ∈ zTb := zTb_in (zT1 (List.mem_of_getElem? (i := 78) (by decide +kernel))) rfl
theorem zm4 : Cond.fieldLink "PretendDesk$Best" 9 "PretendDesk$Best" "looks" "[I" ∈ zTb := zTb_in (zT2 (List.mem_of_getElem? (i := 191) (by decide +kernel))) rfl
theorem zm5 : Cond.fieldLink "PretendDesk$Best" 15 "PretendDesk$Best" "asked" "[I" ∈ zTb := zTb_in (zT2 (List.mem_of_getElem? (i := 192) (by decide +kernel))) rfl
theorem zm6 : Cond.fieldLink "PretendDesk$Best" 18 "PretendDesk$Best" "age" "[I" ∈ zTb := zTb_in (zT2 (List.mem_of_getElem? (i := 193) (by decide +kernel))) rfl
theorem zm7 : Cond.arrayClass .boolean ∈ zTb := zTb_in (zT1 (List.mem_of_getElem? (i := 183) (by decide +kernel))) rfl
theorem zm8 : Cond.fieldLink "PretendDesk$Best" 21 "PretendDesk$Best" "pretends" "[Z" ∈ zTb := zTb_in (zT2 (List.mem_of_getElem? (i := 194) (by decide +kernel))) rfl
theorem zm9 : Cond.fieldLink "PretendDesk$Best" 25 "PretendDesk$Best" "turnsA" "[Z" ∈ zTb := zTb_in (zT2 (List.mem_of_getElem? (i := 195) (by decide +kernel))) rfl
theorem zm10 : Cond.fieldLink "PretendDesk$Best" 28 "PretendDesk$Best" "turnsB" "[Z" ∈ zTb := zTb_in (zT2 (List.mem_of_getElem? (i := 196) (by decide +kernel))) rfl
theorem zm11 : Cond.fieldLink "PretendDesk$Best" 31 "PretendDesk$Best" "turnsC" "[Z" ∈ zTb := zTb_in (zT2 (List.mem_of_getElem? (i := 197) (by decide +kernel))) rfl
theorem zm12 : Cond.fieldLink "PretendDesk$Best" 34 "PretendDesk$Best" "cases" "I" ∈ zTb := zTb_in (zT2 (List.mem_of_getElem? (i := 198) (by decide +kernel))) rfl
theorem zm13 : Cond.methodLink "PretendDesk$Best" 38 (⟨"PretendDesk$Best", "clearTurns", "([Z)V"⟩ : MethodName) ∈ zTb := zTb_in (zT5 (List.mem_of_getElem? (i := 105) (by decide +kernel))) rfl
theorem zm14 : Cond.code (⟨"PretendDesk$Best", "clearTurns", "([Z)V"⟩ : MethodName) prog_2_method_3_code 3 none ∈ zTb := zTb_in (zT5 (List.mem_of_getElem? (i := 108) (by decide +kernel))) rfl
theorem zm15 : Cond.instanceMethod (⟨"PretendDesk$Best", "clearTurns", "([Z)V"⟩ : MethodName) ∈ zTb := zTb_in (zT5 (List.mem_of_getElem? (i := 107) (by decide +kernel))) rfl
theorem zm16 : Cond.initialized "PretendDesk$Best" ∈ zTb := zTb_in (zT1 (List.mem_of_getElem? (i := 15) (by decide +kernel))) rfl
theorem zm17 : Cond.selects "PretendDesk$Best" (⟨"PretendDesk$Best", "clearTurns", "([Z)V"⟩ : MethodName) (⟨"PretendDesk$Best", "clearTurns", "([Z)V"⟩ : MethodName) ∈ zTb := zTb_in (zT0 (List.mem_of_getElem? (i := 21) (by decide +kernel))) rfl
theorem zm18 : Cond.methodLink "PretendDesk$Best" 42 (⟨"PretendDesk$Best", "turn", "([ZI)V"⟩ : MethodName) ∈ zTb := zTb_in (zT5 (List.mem_of_getElem? (i := 114) (by decide +kernel))) rfl
theorem zm19 : Cond.code (⟨"PretendDesk$Best", "turn", "([ZI)V"⟩ : MethodName) prog_2_method_5_code 3 none ∈ zTb := zTb_in (zT5 (List.mem_of_getElem? (i := 117) (by decide +kernel))) rfl
theorem zm20 : Cond.instanceMethod (⟨"PretendDesk$Best", "turn", "([ZI)V"⟩ : MethodName) ∈ zTb := zTb_in (zT5 (List.mem_of_getElem? (i := 116) (by decide +kernel))) rfl
theorem zm21 : Cond.selects "PretendDesk$Best" (⟨"PretendDesk$Best", "turn", "([ZI)V"⟩ : MethodName) (⟨"PretendDesk$Best", "turn", "([ZI)V"⟩ : MethodName) ∈ zTb := zTb_in (zT0 (List.mem_of_getElem? (i := 22) (by decide +kernel))) rfl
theorem zm22 : Cond.fieldLink "PretendDesk$Best" 46 "PretendDesk$Best" "any" "Z" ∈ zTb := zTb_in (zT2 (List.mem_of_getElem? (i := 199) (by decide +kernel))) rfl
theorem zm23 : Cond.fieldLink "PretendDesk$Best" 54 "PretendDesk$Best" "missed" "I" ∈ zTb := zTb_in (zT2 (List.mem_of_getElem? (i := 203) (by decide +kernel))) rfl
theorem zm24 : Cond.fieldLink "PretendDesk$Best" 57 "PretendDesk$Best" "honest" "I" ∈ zTb := zTb_in (zT2 (List.mem_of_getElem? (i := 204) (by decide +kernel))) rfl
theorem zm25 : Cond.fieldLink "PretendDesk$Best" 60 "PretendDesk$Best" "bestA" "I" ∈ zTb := zTb_in (zT2 (List.mem_of_getElem? (i := 200) (by decide +kernel))) rfl
theorem zm26 : Cond.fieldLink "PretendDesk$Best" 63 "PretendDesk$Best" "bestB" "I" ∈ zTb := zTb_in (zT2 (List.mem_of_getElem? (i := 201) (by decide +kernel))) rfl
theorem zm27 : Cond.fieldLink "PretendDesk$Best" 66 "PretendDesk$Best" "bestC" "I" ∈ zTb := zTb_in (zT2 (List.mem_of_getElem? (i := 202) (by decide +kernel))) rfl
theorem zm28 : Cond.methodLink "PretendDesk$Best" 50 (⟨"PretendDesk$Best", "weigh", "(IIII)V"⟩ : MethodName) ∈ zTb := zTb_in (zT5 (List.mem_of_getElem? (i := 122) (by decide +kernel))) rfl
theorem zm29 : Cond.code (⟨"PretendDesk$Best", "weigh", "(IIII)V"⟩ : MethodName) prog_2_method_7_code 9 none ∈ zTb := zTb_in (zT5 (List.mem_of_getElem? (i := 125) (by decide +kernel))) rfl
theorem zm30 : Cond.instanceMethod (⟨"PretendDesk$Best", "weigh", "(IIII)V"⟩ : MethodName) ∈ zTb := zTb_in (zT5 (List.mem_of_getElem? (i := 124) (by decide +kernel))) rfl
theorem zm31 : Cond.selects "PretendDesk$Best" (⟨"PretendDesk$Best", "weigh", "(IIII)V"⟩ : MethodName) (⟨"PretendDesk$Best", "weigh", "(IIII)V"⟩ : MethodName) ∈ zTb := zTb_in (zT0 (List.mem_of_getElem? (i := 23) (by decide +kernel))) rfl
theorem zm32 : Cond.methodLink "PretendDesk$Came" 3 (⟨"java/lang/Object", "<init>", "()V"⟩ : MethodName) ∈ zTb := zTb_in (zT1 (List.mem_of_getElem? (i := 208) (by decide +kernel))) rfl
theorem zm33 : Cond.classLink "PretendDesk$Came" 9 "PretendDesk$Page" ∈ zTb := zTb_in (zT1 (List.mem_of_getElem? (i := 209) (by decide +kernel))) rfl
theorem zm34 : Cond.instantiable "PretendDesk$Page" 2 ∈ zTb := zTb_in (zT1 (List.mem_of_getElem? (i := 168) (by decide +kernel))) rfl
theorem zm35 : Cond.initialized "PretendDesk$Page" ∈ zTb := zTb_in (zT1 (List.mem_of_getElem? (i := 10) (by decide +kernel))) rfl
theorem zm36 : Cond.methodLink "PretendDesk$Page" 3 (⟨"java/lang/Object", "<init>", "()V"⟩ : MethodName) ∈ zTb := zTb_in (zT1 (List.mem_of_getElem? (i := 172) (by decide +kernel))) rfl
theorem zm37 : Cond.fieldLink "PretendDesk$Page" 11 "PretendDesk$Page" "row" "[I" ∈ zTb := zTb_in (zT1 (List.mem_of_getElem? (i := 173) (by decide +kernel))) rfl
theorem zm38 : Cond.code (⟨"PretendDesk$Page", "<init>", "()V"⟩ : MethodName) prog_7_method_1_code 1 none ∈ zTb := zTb_in (zT1 (List.mem_of_getElem? (i := 171) (by decide +kernel))) rfl
theorem zm39 : Cond.instanceMethod (⟨"PretendDesk$Page", "<init>", "()V"⟩ : MethodName) ∈ zTb := zTb_in (zT1 (List.mem_of_getElem? (i := 170) (by decide +kernel))) rfl
theorem zm40 : Cond.fieldLink "PretendDesk$Came" 12 "PretendDesk$Came" "text" "LPretendDesk$Page;" ∈ zTb := zTb_in (zT1 (List.mem_of_getElem? (i := 211) (by decide +kernel))) rfl
theorem zm41 : Cond.fieldLink "PretendDesk$Came" 18 "PretendDesk$Came" "change" "[I" ∈ zTb := zTb_in (zT1 (List.mem_of_getElem? (i := 214) (by decide +kernel))) rfl
theorem zm42 : Cond.fieldLink "PretendDesk$Came" 22 "PretendDesk$Came" "line" "[I" ∈ zTb := zTb_in (zT1 (List.mem_of_getElem? (i := 216) (by decide +kernel))) rfl
theorem zm43 : Cond.fieldLink "PretendDesk$Came" 25 "PretendDesk$Came" "since" "I" ∈ zTb := zTb_in (zT1 (List.mem_of_getElem? (i := 221) (by decide +kernel))) rfl
theorem zm44 : Cond.methodLink "PretendDesk$Came" 29 (⟨"java/lang/Math", "max", "(II)I"⟩ : MethodName) ∈ zTb := zTb_in (zT5 (List.mem_of_getElem? (i := 45) (by decide +kernel))) rfl
theorem zm45 : Cond.static (⟨"java/lang/Math", "max", "(II)I"⟩ : MethodName) ∈ zTb := zTb_in (zT3 (List.mem_of_getElem? (i := 110) (by decide +kernel))) rfl
theorem zm46 : Cond.initialized "java/lang/Math" ∈ zTb := zTb_in (zT1 (List.mem_of_getElem? (i := 19) (by decide +kernel))) rfl
theorem zm47 : Cond.code (⟨"java/lang/Math", "max", "(II)I"⟩ : MethodName) prog_18_method_65_code 2 (some (.int)) ∈ zTb := zTb_in (zT3 (List.mem_of_getElem? (i := 111) (by decide +kernel))) rfl
theorem zm48 : Cond.fieldLink "PretendDesk$Came" 35 "PretendDesk$Came" "changes" "I" ∈ zTb := zTb_in (zT1 (List.mem_of_getElem? (i := 228) (by decide +kernel))) rfl
theorem zm49 : Cond.methodLink "PretendDesk$Came" 38 (⟨"java/lang/System", "arraycopy", "(Ljava/lang/Object;ILjava/lang/Object;II)V"⟩ : MethodName) ∈ zTb := zTb_in (zT6 (List.mem_of_getElem? (i := 11) (by decide +kernel))) rfl
theorem zm50 : Cond.native (⟨"java/lang/System", "arraycopy", "(Ljava/lang/Object;ILjava/lang/Object;II)V"⟩ : MethodName) ∈ zTb := zTb_in (zT3 (List.mem_of_getElem? (i := 132) (by decide +kernel))) rfl
theorem zm51 : Cond.static (⟨"java/lang/System", "arraycopy", "(Ljava/lang/Object;ILjava/lang/Object;II)V"⟩ : MethodName) ∈ zTb := zTb_in (zT3 (List.mem_of_getElem? (i := 131) (by decide +kernel))) rfl
theorem zm52 : Cond.initialized "java/lang/System" ∈ zTb := zTb_in (zT1 (List.mem_of_getElem? (i := 21) (by decide +kernel))) rfl
theorem zm53 : Cond.fieldLink "PretendDesk$Came" 44 "PretendDesk$Came" "lines" "I" ∈ zTb := zTb_in (zT1 (List.mem_of_getElem? (i := 231) (by decide +kernel))) rfl
theorem zm54 : Cond.methodLink "PretendDesk$Page" 27 (⟨"java/lang/System", "arraycopy", "(Ljava/lang/Object;ILjava/lang/Object;II)V"⟩ : MethodName) ∈ zTb := zTb_in (zT4 (List.mem_of_getElem? (i := 119) (by decide +kernel))) rfl
theorem zm55 : Cond.fieldLink "PretendDesk$Page" 15 "PretendDesk$Page" "count" "I" ∈ zTb := zTb_in (zT1 (List.mem_of_getElem? (i := 175) (by decide +kernel))) rfl
theorem zm56 : Cond.methodLink "PretendDesk$Came" 47 (⟨"PretendDesk$Page", "copy", "(LPretendDesk$Page;)V"⟩ : MethodName) ∈ zTb := zTb_in (zT6 (List.mem_of_getElem? (i := 172) (by decide +kernel))) rfl
theorem zm57 : Cond.code (⟨"PretendDesk$Page", "copy", "(LPretendDesk$Page;)V"⟩ : MethodName) prog_7_method_7_code 2 none ∈ zTb := zTb_in (zT4 (List.mem_of_getElem? (i := 118) (by decide +kernel))) rfl
theorem zm58 : Cond.instanceMethod (⟨"PretendDesk$Page", "copy", "(LPretendDesk$Page;)V"⟩ : MethodName) ∈ zTb := zTb_in (zT4 (List.mem_of_getElem? (i := 116) (by decide +kernel))) rfl
theorem zm59 : Cond.selects "PretendDesk$Page" (⟨"PretendDesk$Page", "copy", "(LPretendDesk$Page;)V"⟩ : MethodName) (⟨"PretendDesk$Page", "copy", "(LPretendDesk$Page;)V"⟩ : MethodName) ∈ zTb := zTb_in (zT4 (List.mem_of_getElem? (i := 117) (by decide +kernel))) rfl
theorem zm60 : Cond.methodLink "PretendDesk$Came" 51 (⟨"PretendDesk$Came", "tellLines", "([II)V"⟩ : MethodName) ∈ zTb := zTb_in (zT6 (List.mem_of_getElem? (i := 173) (by decide +kernel))) rfl
theorem zm61 : Cond.code (⟨"PretendDesk$Came", "tellLines", "([II)V"⟩ : MethodName) prog_3_method_4_code 3 none ∈ zTb := zTb_in (zT6 (List.mem_of_getElem? (i := 10) (by decide +kernel))) rfl
theorem zm62 : Cond.instanceMethod (⟨"PretendDesk$Came", "tellLines", "([II)V"⟩ : MethodName) ∈ zTb := zTb_in (zT6 (List.mem_of_getElem? (i := 8) (by decide +kernel))) rfl
theorem zm63 : Cond.initialized "PretendDesk$Came" ∈ zTb := zTb_in (zT1 (List.mem_of_getElem? (i := 11) (by decide +kernel))) rfl
theorem zm64 : Cond.selects "PretendDesk$Came" (⟨"PretendDesk$Came", "tellLines", "([II)V"⟩ : MethodName) (⟨"PretendDesk$Came", "tellLines", "([II)V"⟩ : MethodName) ∈ zTb := zTb_in (zT6 (List.mem_of_getElem? (i := 9) (by decide +kernel))) rfl
theorem zm65 : Cond.fieldLink "PretendDesk$Came" 55 "PretendDesk$Came" "name" "Ljava/lang/String;" ∈ zTb := zTb_in (zT1 (List.mem_of_getElem? (i := 219) (by decide +kernel))) rfl
theorem zm66 : Cond.fieldLink "PretendDesk$Came" 59 "PretendDesk$Came" "pieces" "I" ∈ zTb := zTb_in (zT1 (List.mem_of_getElem? (i := 223) (by decide +kernel))) rfl
theorem zm67 : Cond.fieldLink "PretendDesk$Came" 62 "PretendDesk$Came" "squares" "I" ∈ zTb := zTb_in (zT1 (List.mem_of_getElem? (i := 225) (by decide +kernel))) rfl
theorem zm68 : Cond.methodLink "PretendDesk$Forger" 3 (⟨"java/lang/Object", "<init>", "()V"⟩ : MethodName) ∈ zTb := zTb_in (zT2 (List.mem_of_getElem? (i := 157) (by decide +kernel))) rfl
theorem zm69 : Cond.classLink "PretendDesk$Forger" 9 "PretendDesk$Page" ∈ zTb := zTb_in (zT2 (List.mem_of_getElem? (i := 158) (by decide +kernel))) rfl
theorem zm70 : Cond.fieldLink "PretendDesk$Forger" 12 "PretendDesk$Forger" "forged" "LPretendDesk$Page;" ∈ zTb := zTb_in (zT2 (List.mem_of_getElem? (i := 160) (by decide +kernel))) rfl
theorem zm71 : Cond.fieldLink "PretendDesk$Forger" 18 "PretendDesk$Forger" "told" "LPretendDesk$Told;" ∈ zTb := zTb_in (zT2 (List.mem_of_getElem? (i := 161) (by decide +kernel))) rfl
theorem zm72 : Cond.fieldLink "PretendDesk$Forger" 22 "PretendDesk$Forger" "room" "LPretendDesk$Room;" ∈ zTb := zTb_in (zT2 (List.mem_of_getElem? (i := 162) (by decide +kernel))) rfl
theorem zm73 : Cond.fieldLink "PretendDesk$Forger" 26 "PretendDesk$Came" "changes" "I" ∈ zTb := zTb_in (zT1 (List.mem_of_getElem? (i := 227) (by decide +kernel))) rfl
theorem zm74 : Cond.fieldLink "PretendDesk$Forger" 121 "PretendDesk$Came" "change" "[I" ∈ zTb := zTb_in (zT1 (List.mem_of_getElem? (i := 215) (by decide +kernel))) rfl
theorem zm75 : Cond.methodLink "PretendDesk$Forger" 32 (⟨"PretendDesk$Forger", "priceOf", "(LPretendDesk$Came;I)I"⟩ : MethodName) ∈ zTb := zTb_in (zT5 (List.mem_of_getElem? (i := 149) (by decide +kernel))) rfl
theorem zm76 : Cond.code (⟨"PretendDesk$Forger", "priceOf", "(LPretendDesk$Came;I)I"⟩ : MethodName) prog_4_method_7_code 5 (some (.int)) ∈ zTb := zTb_in (zT5 (List.mem_of_getElem? (i := 152) (by decide +kernel))) rfl
theorem zm77 : Cond.instanceMethod (⟨"PretendDesk$Forger", "priceOf", "(LPretendDesk$Came;I)I"⟩ : MethodName) ∈ zTb := zTb_in (zT5 (List.mem_of_getElem? (i := 151) (by decide +kernel))) rfl
theorem zm78 : Cond.initialized "PretendDesk$Forger" ∈ zTb := zTb_in (zT1 (List.mem_of_getElem? (i := 14) (by decide +kernel))) rfl
theorem zm79 : Cond.selects "PretendDesk$Forger" (⟨"PretendDesk$Forger", "priceOf", "(LPretendDesk$Came;I)I"⟩ : MethodName) (⟨"PretendDesk$Forger", "priceOf", "(LPretendDesk$Came;I)I"⟩ : MethodName) ∈ zTb := zTb_in (zT0 (List.mem_of_getElem? (i := 24) (by decide +kernel))) rfl
theorem zm80 : Cond.fieldLink "PretendDesk$Forger" 36 "PretendDesk$Forger" "price" "I" ∈ zTb := zTb_in (zT2 (List.mem_of_getElem? (i := 164) (by decide +kernel))) rfl
theorem zm81 : Cond.constant "java/lang/Integer" 265 (1431655765 : Int32) ∈ zTb := zTb_in (zT5 (List.mem_of_getElem? (i := 73) (by decide +kernel))) rfl
theorem zm82 : Cond.constant "java/lang/Integer" 266 (858993459 : Int32) ∈ zTb := zTb_in (zT5 (List.mem_of_getElem? (i := 74) (by decide +kernel))) rfl
theorem zm83 : Cond.constant "java/lang/Integer" 267 (252645135 : Int32) ∈ zTb := zTb_in (zT5 (List.mem_of_getElem? (i := 75) (by decide +kernel))) rfl
theorem zm84 : Cond.methodLink "PretendDesk$Forger" 39 (⟨"java/lang/Integer", "bitCount", "(I)I"⟩ : MethodName) ∈ zTb := zTb_in (zT5 (List.mem_of_getElem? (i := 153) (by decide +kernel))) rfl
theorem zm85 : Cond.code (⟨"java/lang/Integer", "bitCount", "(I)I"⟩ : MethodName) prog_17_method_49_code 1 (some (.int)) ∈ zTb := zTb_in (zT5 (List.mem_of_getElem? (i := 72) (by decide +kernel))) rfl
theorem zm86 : Cond.static (⟨"java/lang/Integer", "bitCount", "(I)I"⟩ : MethodName) ∈ zTb := zTb_in (zT5 (List.mem_of_getElem? (i := 71) (by decide +kernel))) rfl
theorem zm87 : Cond.initialized "java/lang/Integer" ∈ zTb := zTb_in (zT1 (List.mem_of_getElem? (i := 24) (by decide +kernel))) rfl
theorem zm88 : Cond.fieldLink "PretendDesk$Forger" 45 "PretendDesk$Forger" "set" "I" ∈ zTb := zTb_in (zT2 (List.mem_of_getElem? (i := 166) (by decide +kernel))) rfl
theorem zm89 : Cond.fieldLink "PretendDesk$Forger" 114 "PretendDesk$Came" "text" "LPretendDesk$Page;" ∈ zTb := zTb_in (zT1 (List.mem_of_getElem? (i := 212) (by decide +kernel))) rfl
theorem zm90 : Cond.methodLink "PretendDesk$Forger" 117 (⟨"PretendDesk$Page", "copy", "(LPretendDesk$Page;)V"⟩ : MethodName) ∈ zTb := zTb_in (zT5 (List.mem_of_getElem? (i := 162) (by decide +kernel))) rfl
theorem zm91 : Cond.fieldLink "PretendDesk$Forger" 59 "PretendDesk$Forger" "waits" "I" ∈ zTb := zTb_in (zT2 (List.mem_of_getElem? (i := 163) (by decide +kernel))) rfl
theorem zm92 : Cond.methodLink "PretendDesk$Forger" 128 (⟨"PretendDesk$Page", "tell", "(III)V"⟩ : MethodName) ∈ zTb := zTb_in (zT5 (List.mem_of_getElem? (i := 167) (by decide +kernel))) rfl
theorem zm93 : Cond.code (⟨"PretendDesk$Page", "tell", "(III)V"⟩ : MethodName) prog_7_method_3_code 4 none ∈ zTb := zTb_in (zT4 (List.mem_of_getElem? (i := 101) (by decide +kernel))) rfl
theorem zm94 : Cond.instanceMethod (⟨"PretendDesk$Page", "tell", "(III)V"⟩ : MethodName) ∈ zTb := zTb_in (zT4 (List.mem_of_getElem? (i := 99) (by decide +kernel))) rfl
theorem zm95 : Cond.selects "PretendDesk$Page" (⟨"PretendDesk$Page", "tell", "(III)V"⟩ : MethodName) (⟨"PretendDesk$Page", "tell", "(III)V"⟩ : MethodName) ∈ zTb := zTb_in (zT4 (List.mem_of_getElem? (i := 100) (by decide +kernel))) rfl
theorem zm96 : Cond.methodLink "PretendDesk$Forger" 124 (⟨"PretendDesk$Forger", "alter", "(III)V"⟩ : MethodName) ∈ zTb := zTb_in (zT5 (List.mem_of_getElem? (i := 163) (by decide +kernel))) rfl
theorem zm97 : Cond.code (⟨"PretendDesk$Forger", "alter", "(III)V"⟩ : MethodName) prog_4_method_6_code 4 none ∈ zTb := zTb_in (zT5 (List.mem_of_getElem? (i := 166) (by decide +kernel))) rfl
theorem zm98 : Cond.instanceMethod (⟨"PretendDesk$Forger", "alter", "(III)V"⟩ : MethodName) ∈ zTb := zTb_in (zT5 (List.mem_of_getElem? (i := 165) (by decide +kernel))) rfl
theorem zm99 : Cond.selects "PretendDesk$Forger" (⟨"PretendDesk$Forger", "alter", "(III)V"⟩ : MethodName) (⟨"PretendDesk$Forger", "alter", "(III)V"⟩ : MethodName) ∈ zTb := zTb_in (zT0 (List.mem_of_getElem? (i := 27) (by decide +kernel))) rfl
theorem zm100 : Cond.methodLink "PretendDesk$Forger" 83 (⟨"PretendDesk$Forger", "forge", "(LPretendDesk$Came;I)V"⟩ : MethodName) ∈ zTb := zTb_in (zT5 (List.mem_of_getElem? (i := 158) (by decide +kernel))) rfl
theorem zm101 : Cond.code (⟨"PretendDesk$Forger", "forge", "(LPretendDesk$Came;I)V"⟩ : MethodName) prog_4_method_5_code 5 none ∈ zTb := zTb_in (zT5 (List.mem_of_getElem? (i := 161) (by decide +kernel))) rfl
theorem zm102 : Cond.instanceMethod (⟨"PretendDesk$Forger", "forge", "(LPretendDesk$Came;I)V"⟩ : MethodName) ∈ zTb := zTb_in (zT5 (List.mem_of_getElem? (i := 160) (by decide +kernel))) rfl
theorem zm103 : Cond.selects "PretendDesk$Forger" (⟨"PretendDesk$Forger", "forge", "(LPretendDesk$Came;I)V"⟩ : MethodName) (⟨"PretendDesk$Forger", "forge", "(LPretendDesk$Came;I)V"⟩ : MethodName) ∈ zTb := zTb_in (zT0 (List.mem_of_getElem? (i := 26) (by decide +kernel))) rfl
theorem zm104 : Cond.fieldLink "PretendDesk$Forger" 87 "PretendDesk$Room" "mine" "LPretendDesk$Opened;" ∈ zTb := zTb_in (zT2 (List.mem_of_getElem? (i := 124) (by decide +kernel))) rfl
theorem zm105 : Cond.fieldLink "PretendDesk$Opened" 11 "PretendDesk$Opened" "kind" "[I" ∈ zTb := zTb_in (zT2 (List.mem_of_getElem? (i := 100) (by decide +kernel))) rfl
theorem zm106 : Cond.fieldLink "PretendDesk$Opened" 15 "PretendDesk$Opened" "colour" "[I" ∈ zTb := zTb_in (zT2 (List.mem_of_getElem? (i := 102) (by decide +kernel))) rfl
theorem zm107 : Cond.fieldLink "PretendDesk$Opened" 18 "PretendDesk$Opened" "above" "[I" ∈ zTb := zTb_in (zT2 (List.mem_of_getElem? (i := 104) (by decide +kernel))) rfl
theorem zm108 : Cond.fieldLink "PretendDesk$Opened" 27 "PretendDesk$Opened" "count" "I" ∈ zTb := zTb_in (zT2 (List.mem_of_getElem? (i := 109) (by decide +kernel))) rfl
theorem zm109 : Cond.fieldLink "PretendDesk$Opened" 31 "PretendDesk$Page" "count" "I" ∈ zTb := zTb_in (zT1 (List.mem_of_getElem? (i := 174) (by decide +kernel))) rfl
theorem zm110 : Cond.fieldLink "PretendDesk$Opened" 21 "PretendDesk$Opened" "behind" "[I" ∈ zTb := zTb_in (zT2 (List.mem_of_getElem? (i := 105) (by decide +kernel))) rfl
theorem zm111 : Cond.methodLink "PretendDesk$Opened" 49 (⟨"java/lang/Math", "max", "(II)I"⟩ : MethodName) ∈ zTb := zTb_in (zT4 (List.mem_of_getElem? (i := 201) (by decide +kernel))) rfl
theorem zm112 : Cond.methodLink "PretendDesk$Opened" 46 (⟨"PretendDesk$Opened", "span", "()V"⟩ : MethodName) ∈ zTb := zTb_in (zT4 (List.mem_of_getElem? (i := 197) (by decide +kernel))) rfl
theorem zm113 : Cond.code (⟨"PretendDesk$Opened", "span", "()V"⟩ : MethodName) prog_6_method_4_code 3 none ∈ zTb := zTb_in (zT4 (List.mem_of_getElem? (i := 200) (by decide +kernel))) rfl
theorem zm114 : Cond.instanceMethod (⟨"PretendDesk$Opened", "span", "()V"⟩ : MethodName) ∈ zTb := zTb_in (zT4 (List.mem_of_getElem? (i := 199) (by decide +kernel))) rfl
theorem zm115 : Cond.initialized "PretendDesk$Opened" ∈ zTb := zTb_in (zT1 (List.mem_of_getElem? (i := 13) (by decide +kernel))) rfl
theorem zm116 : Cond.selects "PretendDesk$Opened" (⟨"PretendDesk$Opened", "span", "()V"⟩ : MethodName) (⟨"PretendDesk$Opened", "span", "()V"⟩ : MethodName) ∈ zTb := zTb_in (zT0 (List.mem_of_getElem? (i := 15) (by decide +kernel))) rfl
theorem zm117 : Cond.methodLink "PretendDesk$Opened" 34 (⟨"PretendDesk$Page", "told", "(II)I"⟩ : MethodName) ∈ zTb := zTb_in (zT4 (List.mem_of_getElem? (i := 184) (by decide +kernel))) rfl
theorem zm118 : Cond.code (⟨"PretendDesk$Page", "told", "(II)I"⟩ : MethodName) prog_7_method_2_code 3 (some (.int)) ∈ zTb := zTb_in (zT4 (List.mem_of_getElem? (i := 187) (by decide +kernel))) rfl
theorem zm119 : Cond.instanceMethod (⟨"PretendDesk$Page", "told", "(II)I"⟩ : MethodName) ∈ zTb := zTb_in (zT4 (List.mem_of_getElem? (i := 185) (by decide +kernel))) rfl
theorem zm120 : Cond.selects "PretendDesk$Page" (⟨"PretendDesk$Page", "told", "(II)I"⟩ : MethodName) (⟨"PretendDesk$Page", "told", "(II)I"⟩ : MethodName) ∈ zTb := zTb_in (zT4 (List.mem_of_getElem? (i := 186) (by decide +kernel))) rfl
theorem zm121 : Cond.fieldLink "PretendDesk$Opened" 24 "PretendDesk$Opened" "number" "[I" ∈ zTb := zTb_in (zT2 (List.mem_of_getElem? (i := 107) (by decide +kernel))) rfl
theorem zm122 : Cond.methodLink "PretendDesk$Page" 23 (⟨"PretendDesk$Page", "told", "(II)I"⟩ : MethodName) ∈ zTb := zTb_in (zT4 (List.mem_of_getElem? (i := 192) (by decide +kernel))) rfl
theorem zm123 : Cond.methodLink "PretendDesk$Opened" 38 (⟨"PretendDesk$Page", "shows", "(III)Z"⟩ : MethodName) ∈ zTb := zTb_in (zT4 (List.mem_of_getElem? (i := 188) (by decide +kernel))) rfl
theorem zm124 : Cond.code (⟨"PretendDesk$Page", "shows", "(III)Z"⟩ : MethodName) prog_7_method_6_code 5 (some (.boolean)) ∈ zTb := zTb_in (zT4 (List.mem_of_getElem? (i := 191) (by decide +kernel))) rfl
theorem zm125 : Cond.instanceMethod (⟨"PretendDesk$Page", "shows", "(III)Z"⟩ : MethodName) ∈ zTb := zTb_in (zT4 (List.mem_of_getElem? (i := 189) (by decide +kernel))) rfl
theorem zm126 : Cond.selects "PretendDesk$Page" (⟨"PretendDesk$Page", "shows", "(III)Z"⟩ : MethodName) (⟨"PretendDesk$Page", "shows", "(III)Z"⟩ : MethodName) ∈ zTb := zTb_in (zT4 (List.mem_of_getElem? (i := 190) (by decide +kernel))) rfl
theorem zm127 : Cond.methodLink "PretendDesk$Opened" 42 (⟨"PretendDesk$Opened", "add", "(LPretendDesk$Page;II)I"⟩ : MethodName) ∈ zTb := zTb_in (zT4 (List.mem_of_getElem? (i := 193) (by decide +kernel))) rfl
theorem zm128 : Cond.code (⟨"PretendDesk$Opened", "add", "(LPretendDesk$Page;II)I"⟩ : MethodName) prog_6_method_3_code 4 (some (.int)) ∈ zTb := zTb_in (zT4 (List.mem_of_getElem? (i := 196) (by decide +kernel))) rfl
theorem zm129 : Cond.instanceMethod (⟨"PretendDesk$Opened", "add", "(LPretendDesk$Page;II)I"⟩ : MethodName) ∈ zTb := zTb_in (zT4 (List.mem_of_getElem? (i := 195) (by decide +kernel))) rfl
theorem zm130 : Cond.selects "PretendDesk$Opened" (⟨"PretendDesk$Opened", "add", "(LPretendDesk$Page;II)I"⟩ : MethodName) (⟨"PretendDesk$Opened", "add", "(LPretendDesk$Page;II)I"⟩ : MethodName) ∈ zTb := zTb_in (zT0 (List.mem_of_getElem? (i := 14) (by decide +kernel))) rfl
theorem zm131 : Cond.methodLink "PretendDesk$Forger" 91 (⟨"PretendDesk$Opened", "open", "(LPretendDesk$Page;II)V"⟩ : MethodName) ∈ zTb := zTb_in (zT5 (List.mem_of_getElem? (i := 168) (by decide +kernel))) rfl
theorem zm132 : Cond.code (⟨"PretendDesk$Opened", "open", "(LPretendDesk$Page;II)V"⟩ : MethodName) prog_6_method_2_code 8 none ∈ zTb := zTb_in (zT4 (List.mem_of_getElem? (i := 183) (by decide +kernel))) rfl
theorem zm133 : Cond.instanceMethod (⟨"PretendDesk$Opened", "open", "(LPretendDesk$Page;II)V"⟩ : MethodName) ∈ zTb := zTb_in (zT4 (List.mem_of_getElem? (i := 181) (by decide +kernel))) rfl
theorem zm134 : Cond.selects "PretendDesk$Opened" (⟨"PretendDesk$Opened", "open", "(LPretendDesk$Page;II)V"⟩ : MethodName) (⟨"PretendDesk$Opened", "open", "(LPretendDesk$Page;II)V"⟩ : MethodName) ∈ zTb := zTb_in (zT4 (List.mem_of_getElem? (i := 182) (by decide +kernel))) rfl
theorem zm135 : Cond.fieldLink "PretendDesk$Forger" 97 "PretendDesk$Told" "worth" "[I" ∈ zTb := zTb_in (zT2 (List.mem_of_getElem? (i := 27) (by decide +kernel))) rfl
theorem zm136 : Cond.methodLink "PretendDesk$Forger" 103 (⟨"PretendDesk$Opened", "asked", "([I)I"⟩ : MethodName) ∈ zTb := zTb_in (zT5 (List.mem_of_getElem? (i := 169) (by decide +kernel))) rfl
theorem zm137 : Cond.code (⟨"PretendDesk$Opened", "asked", "([I)I"⟩ : MethodName) prog_6_method_6_code 4 (some (.int)) ∈ zTb := zTb_in (zT5 (List.mem_of_getElem? (i := 28) (by decide +kernel))) rfl
theorem zm138 : Cond.instanceMethod (⟨"PretendDesk$Opened", "asked", "([I)I"⟩ : MethodName) ∈ zTb := zTb_in (zT5 (List.mem_of_getElem? (i := 26) (by decide +kernel))) rfl
theorem zm139 : Cond.selects "PretendDesk$Opened" (⟨"PretendDesk$Opened", "asked", "([I)I"⟩ : MethodName) (⟨"PretendDesk$Opened", "asked", "([I)I"⟩ : MethodName) ∈ zTb := zTb_in (zT5 (List.mem_of_getElem? (i := 27) (by decide +kernel))) rfl
theorem zm140 : Cond.fieldLink "PretendDesk$Room" 87 "PretendDesk$Room" "like" "I" ∈ zTb := zTb_in (zT2 (List.mem_of_getElem? (i := 132) (by decide +kernel))) rfl
theorem zm141 : Cond.fieldLink "PretendDesk$Room" 90 "PretendDesk$Room" "looks" "I" ∈ zTb := zTb_in (zT2 (List.mem_of_getElem? (i := 135) (by decide +kernel))) rfl
theorem zm142 : Cond.fieldLink "PretendDesk$Room" 28 "PretendDesk$Room" "told" "LPretendDesk$Told;" ∈ zTb := zTb_in (zT2 (List.mem_of_getElem? (i := 130) (by decide +kernel))) rfl
theorem zm143 : Cond.fieldLink "PretendDesk$Room" 93 "PretendDesk$Told" "houses" "I" ∈ zTb := zTb_in (zT2 (List.mem_of_getElem? (i := 38) (by decide +kernel))) rfl
theorem zm144 : Cond.fieldLink "PretendDesk$Room" 98 "PretendDesk$Told" "house" "[LPretendDesk$House;" ∈ zTb := zTb_in (zT2 (List.mem_of_getElem? (i := 15) (by decide +kernel))) rfl
theorem zm145 : Cond.fieldLink "PretendDesk$Room" 66 "PretendDesk$House" "owned" "I" ∈ zTb := zTb_in (zT1 (List.mem_of_getElem? (i := 191) (by decide +kernel))) rfl
theorem zm146 : Cond.fieldLink "PretendDesk$Room" 18 "PretendDesk$Room" "its" "LPretendDesk$Opened;" ∈ zTb := zTb_in (zT2 (List.mem_of_getElem? (i := 126) (by decide +kernel))) rfl
theorem zm147 : Cond.fieldLink "PretendDesk$Room" 71 "PretendDesk$House" "page" "[LPretendDesk$Page;" ∈ zTb := zTb_in (zT1 (List.mem_of_getElem? (i := 185) (by decide +kernel))) rfl
theorem zm148 : Cond.methodLink "PretendDesk$Room" 75 (⟨"PretendDesk$Opened", "open", "(LPretendDesk$Page;II)V"⟩ : MethodName) ∈ zTb := zTb_in (zT5 (List.mem_of_getElem? (i := 4) (by decide +kernel))) rfl
theorem zm149 : Cond.fieldLink "PretendDesk$Room" 12 "PretendDesk$Room" "mine" "LPretendDesk$Opened;" ∈ zTb := zTb_in (zT2 (List.mem_of_getElem? (i := 123) (by decide +kernel))) rfl
theorem zm150 : Cond.fieldLink "PretendDesk$Room" 32 "PretendDesk$Opened" "count" "I" ∈ zTb := zTb_in (zT2 (List.mem_of_getElem? (i := 108) (by decide +kernel))) rfl
theorem zm151 : Cond.methodLink "PretendDesk$Room" 79 (⟨"java/lang/Math", "abs", "(I)I"⟩ : MethodName) ∈ zTb := zTb_in (zT5 (List.mem_of_getElem? (i := 5) (by decide +kernel))) rfl
theorem zm152 : Cond.static (⟨"java/lang/Math", "abs", "(I)I"⟩ : MethodName) ∈ zTb := zTb_in (zT5 (List.mem_of_getElem? (i := 6) (by decide +kernel))) rfl
theorem zm153 : Cond.code (⟨"java/lang/Math", "abs", "(I)I"⟩ : MethodName) prog_18_method_59_code 1 (some (.int)) ∈ zTb := zTb_in (zT5 (List.mem_of_getElem? (i := 7) (by decide +kernel))) rfl
theorem zm154 : Cond.fieldLink "PretendDesk$Room" 21 "PretendDesk$Room" "trees" "[I" ∈ zTb := zTb_in (zT2 (List.mem_of_getElem? (i := 128) (by decide +kernel))) rfl
theorem zm155 : Cond.methodLink "PretendDesk$Room" 36 (⟨"PretendDesk$Opened", "leads", "(I)Z"⟩ : MethodName) ∈ zTb := zTb_in (zT4 (List.mem_of_getElem? (i := 219) (by decide +kernel))) rfl
theorem zm156 : Cond.code (⟨"PretendDesk$Opened", "leads", "(I)Z"⟩ : MethodName) prog_6_method_7_code 2 (some (.boolean)) ∈ zTb := zTb_in (zT4 (List.mem_of_getElem? (i := 222) (by decide +kernel))) rfl
theorem zm157 : Cond.instanceMethod (⟨"PretendDesk$Opened", "leads", "(I)Z"⟩ : MethodName) ∈ zTb := zTb_in (zT4 (List.mem_of_getElem? (i := 220) (by decide +kernel))) rfl
theorem zm158 : Cond.selects "PretendDesk$Opened" (⟨"PretendDesk$Opened", "leads", "(I)Z"⟩ : MethodName) (⟨"PretendDesk$Opened", "leads", "(I)Z"⟩ : MethodName) ∈ zTb := zTb_in (zT4 (List.mem_of_getElem? (i := 221) (by decide +kernel))) rfl
theorem zm159 : Cond.fieldLink "PretendDesk$Room" 44 "PretendDesk$Opened" "behind" "[I" ∈ zTb := zTb_in (zT2 (List.mem_of_getElem? (i := 106) (by decide +kernel))) rfl
theorem zm160 : Cond.fieldLink "PretendDesk$Room" 25 "PretendDesk$Room" "rows" "[I" ∈ zTb := zTb_in (zT2 (List.mem_of_getElem? (i := 129) (by decide +kernel))) rfl
theorem zm161 : Cond.methodLink "PretendDesk$Room" 47 (⟨"java/lang/Math", "min", "(II)I"⟩ : MethodName) ∈ zTb := zTb_in (zT4 (List.mem_of_getElem? (i := 227) (by decide +kernel))) rfl
theorem zm162 : Cond.static (⟨"java/lang/Math", "min", "(II)I"⟩ : MethodName) ∈ zTb := zTb_in (zT3 (List.mem_of_getElem? (i := 128) (by decide +kernel))) rfl
theorem zm163 : Cond.code (⟨"java/lang/Math", "min", "(II)I"⟩ : MethodName) prog_18_method_69_code 2 (some (.int)) ∈ zTb := zTb_in (zT3 (List.mem_of_getElem? (i := 129) (by decide +kernel))) rfl
theorem zm164 : Cond.fieldLink "PretendDesk$Room" 56 "PretendDesk$Opened" "kind" "[I" ∈ zTb := zTb_in (zT2 (List.mem_of_getElem? (i := 101) (by decide +kernel))) rfl
theorem zm165 : Cond.fieldLink "PretendDesk$Room" 59 "PretendDesk$Opened" "colour" "[I" ∈ zTb := zTb_in (zT2 (List.mem_of_getElem? (i := 103) (by decide +kernel))) rfl
theorem zm166 : Cond.methodLink "PretendDesk$Room" 53 (⟨"PretendDesk$Room", "swap", "(II)I"⟩ : MethodName) ∈ zTb := zTb_in (zT4 (List.mem_of_getElem? (i := 228) (by decide +kernel))) rfl
theorem zm167 : Cond.code (⟨"PretendDesk$Room", "swap", "(II)I"⟩ : MethodName) prog_8_method_4_code 4 (some (.int)) ∈ zTb := zTb_in (zT4 (List.mem_of_getElem? (i := 231) (by decide +kernel))) rfl
theorem zm168 : Cond.instanceMethod (⟨"PretendDesk$Room", "swap", "(II)I"⟩ : MethodName) ∈ zTb := zTb_in (zT4 (List.mem_of_getElem? (i := 230) (by decide +kernel))) rfl
theorem zm169 : Cond.initialized "PretendDesk$Room" ∈ zTb := zTb_in (zT1 (List.mem_of_getElem? (i := 12) (by decide +kernel))) rfl
theorem zm170 : Cond.selects "PretendDesk$Room" (⟨"PretendDesk$Room", "swap", "(II)I"⟩ : MethodName) (⟨"PretendDesk$Room", "swap", "(II)I"⟩ : MethodName) ∈ zTb := zTb_in (zT0 (List.mem_of_getElem? (i := 17) (by decide +kernel))) rfl
theorem zm171 : Cond.methodLink "PretendDesk$Room" 40 (⟨"PretendDesk$Room", "compare", "(II)V"⟩ : MethodName) ∈ zTb := zTb_in (zT4 (List.mem_of_getElem? (i := 223) (by decide +kernel))) rfl
theorem zm172 : Cond.code (⟨"PretendDesk$Room", "compare", "(II)V"⟩ : MethodName) prog_8_method_3_code 10 none ∈ zTb := zTb_in (zT4 (List.mem_of_getElem? (i := 226) (by decide +kernel))) rfl
theorem zm173 : Cond.instanceMethod (⟨"PretendDesk$Room", "compare", "(II)V"⟩ : MethodName) ∈ zTb := zTb_in (zT4 (List.mem_of_getElem? (i := 225) (by decide +kernel))) rfl
theorem zm174 : Cond.selects "PretendDesk$Room" (⟨"PretendDesk$Room", "compare", "(II)V"⟩ : MethodName) (⟨"PretendDesk$Room", "compare", "(II)V"⟩ : MethodName) ∈ zTb := zTb_in (zT0 (List.mem_of_getElem? (i := 16) (by decide +kernel))) rfl
theorem zm175 : Cond.methodLink "PretendDesk$Room" 83 (⟨"PretendDesk$Room", "apart", "()I"⟩ : MethodName) ∈ zTb := zTb_in (zT5 (List.mem_of_getElem? (i := 8) (by decide +kernel))) rfl
theorem zm176 : Cond.code (⟨"PretendDesk$Room", "apart", "()I"⟩ : MethodName) prog_8_method_2_code 3 (some (.int)) ∈ zTb := zTb_in (zT4 (List.mem_of_getElem? (i := 218) (by decide +kernel))) rfl
theorem zm177 : Cond.instanceMethod (⟨"PretendDesk$Room", "apart", "()I"⟩ : MethodName) ∈ zTb := zTb_in (zT4 (List.mem_of_getElem? (i := 216) (by decide +kernel))) rfl
theorem zm178 : Cond.selects "PretendDesk$Room" (⟨"PretendDesk$Room", "apart", "()I"⟩ : MethodName) (⟨"PretendDesk$Room", "apart", "()I"⟩ : MethodName) ∈ zTb := zTb_in (zT4 (List.mem_of_getElem? (i := 217) (by decide +kernel))) rfl
theorem zm179 : Cond.methodLink "PretendDesk$Room" 62 (⟨"PretendDesk$Room", "closer", "(LPretendDesk$House;III)I"⟩ : MethodName) ∈ zTb := zTb_in (zT5 (List.mem_of_getElem? (i := 0) (by decide +kernel))) rfl
theorem zm180 : Cond.code (⟨"PretendDesk$Room", "closer", "(LPretendDesk$House;III)I"⟩ : MethodName) prog_8_method_6_code 7 (some (.int)) ∈ zTb := zTb_in (zT5 (List.mem_of_getElem? (i := 3) (by decide +kernel))) rfl
theorem zm181 : Cond.instanceMethod (⟨"PretendDesk$Room", "closer", "(LPretendDesk$House;III)I"⟩ : MethodName) ∈ zTb := zTb_in (zT5 (List.mem_of_getElem? (i := 2) (by decide +kernel))) rfl
theorem zm182 : Cond.selects "PretendDesk$Room" (⟨"PretendDesk$Room", "closer", "(LPretendDesk$House;III)I"⟩ : MethodName) (⟨"PretendDesk$Room", "closer", "(LPretendDesk$House;III)I"⟩ : MethodName) ∈ zTb := zTb_in (zT0 (List.mem_of_getElem? (i := 18) (by decide +kernel))) rfl
theorem zm183 : Cond.methodLink "PretendDesk$Forger" 107 (⟨"PretendDesk$Room", "liken", "(II)V"⟩ : MethodName) ∈ zTb := zTb_in (zT5 (List.mem_of_getElem? (i := 170) (by decide +kernel))) rfl
theorem zm184 : Cond.code (⟨"PretendDesk$Room", "liken", "(II)V"⟩ : MethodName) prog_8_method_7_code 5 none ∈ zTb := zTb_in (zT5 (List.mem_of_getElem? (i := 20) (by decide +kernel))) rfl
theorem zm185 : Cond.instanceMethod (⟨"PretendDesk$Room", "liken", "(II)V"⟩ : MethodName) ∈ zTb := zTb_in (zT5 (List.mem_of_getElem? (i := 18) (by decide +kernel))) rfl
theorem zm186 : Cond.selects "PretendDesk$Room" (⟨"PretendDesk$Room", "liken", "(II)V"⟩ : MethodName) (⟨"PretendDesk$Room", "liken", "(II)V"⟩ : MethodName) ∈ zTb := zTb_in (zT5 (List.mem_of_getElem? (i := 19) (by decide +kernel))) rfl
theorem zm187 : Cond.fieldLink "PretendDesk$Forger" 111 "PretendDesk$Room" "like" "I" ∈ zTb := zTb_in (zT2 (List.mem_of_getElem? (i := 131) (by decide +kernel))) rfl
theorem zm188 : Cond.fieldLink "PretendDesk$Forger" 74 "PretendDesk$Room" "looks" "I" ∈ zTb := zTb_in (zT2 (List.mem_of_getElem? (i := 134) (by decide +kernel))) rfl
theorem zm189 : Cond.methodLink "PretendDesk$Forger" 48 (⟨"PretendDesk$Forger", "aims", "(LPretendDesk$Came;IIII)Z"⟩ : MethodName) ∈ zTb := zTb_in (zT5 (List.mem_of_getElem? (i := 154) (by decide +kernel))) rfl
theorem zm190 : Cond.code (⟨"PretendDesk$Forger", "aims", "(LPretendDesk$Came;IIII)Z"⟩ : MethodName) prog_4_method_4_code 6 (some (.boolean)) ∈ zTb := zTb_in (zT5 (List.mem_of_getElem? (i := 157) (by decide +kernel))) rfl
theorem zm191 : Cond.instanceMethod (⟨"PretendDesk$Forger", "aims", "(LPretendDesk$Came;IIII)Z"⟩ : MethodName) ∈ zTb := zTb_in (zT5 (List.mem_of_getElem? (i := 156) (by decide +kernel))) rfl
theorem zm192 : Cond.selects "PretendDesk$Forger" (⟨"PretendDesk$Forger", "aims", "(LPretendDesk$Came;IIII)Z"⟩ : MethodName) (⟨"PretendDesk$Forger", "aims", "(LPretendDesk$Came;IIII)Z"⟩ : MethodName) ∈ zTb := zTb_in (zT0 (List.mem_of_getElem? (i := 25) (by decide +kernel))) rfl
theorem zm193 : Cond.fieldLink "PretendDesk$Forger" 52 "PretendDesk$Came" "name" "Ljava/lang/String;" ∈ zTb := zTb_in (zT1 (List.mem_of_getElem? (i := 218) (by decide +kernel))) rfl
theorem zm194 : Cond.methodLink "PretendDesk$Forger" 56 (⟨"PretendDesk$Came", "age", "(I)I"⟩ : MethodName) ∈ zTb := zTb_in (zT5 (List.mem_of_getElem? (i := 171) (by decide +kernel))) rfl
theorem zm195 : Cond.code (⟨"PretendDesk$Came", "age", "(I)I"⟩ : MethodName) prog_3_method_2_code 2 (some (.int)) ∈ zTb := zTb_in (zT5 (List.mem_of_getElem? (i := 44) (by decide +kernel))) rfl
theorem zm196 : Cond.instanceMethod (⟨"PretendDesk$Came", "age", "(I)I"⟩ : MethodName) ∈ zTb := zTb_in (zT5 (List.mem_of_getElem? (i := 42) (by decide +kernel))) rfl
theorem zm197 : Cond.selects "PretendDesk$Came" (⟨"PretendDesk$Came", "age", "(I)I"⟩ : MethodName) (⟨"PretendDesk$Came", "age", "(I)I"⟩ : MethodName) ∈ zTb := zTb_in (zT5 (List.mem_of_getElem? (i := 43) (by decide +kernel))) rfl
theorem zm198 : Cond.fieldLink "PretendDesk$Room" 112 "PretendDesk$Told" "markA" "I" ∈ zTb := zTb_in (zT2 (List.mem_of_getElem? (i := 44) (by decide +kernel))) rfl
theorem zm199 : Cond.fieldLink "PretendDesk$Room" 115 "PretendDesk$Told" "worth" "[I" ∈ zTb := zTb_in (zT2 (List.mem_of_getElem? (i := 28) (by decide +kernel))) rfl
theorem zm200 : Cond.methodLink "PretendDesk$Room" 118 (⟨"PretendDesk$Opened", "asked", "([I)I"⟩ : MethodName) ∈ zTb := zTb_in (zT5 (List.mem_of_getElem? (i := 50) (by decide +kernel))) rfl
theorem zm201 : Cond.fieldLink "PretendDesk$Room" 122 "PretendDesk$Told" "markB" "I" ∈ zTb := zTb_in (zT2 (List.mem_of_getElem? (i := 47) (by decide +kernel))) rfl
theorem zm202 : Cond.fieldLink "PretendDesk$Room" 102 "PretendDesk$House" "name" "Ljava/lang/String;" ∈ zTb := zTb_in (zT1 (List.mem_of_getElem? (i := 189) (by decide +kernel))) rfl
theorem zm203 : Cond.classLink "java/lang/String" 10 "java/lang/String" ∈ zTb := zTb_in (zT5 (List.mem_of_getElem? (i := 59) (by decide +kernel))) rfl
theorem zm204 : Cond.fieldLink "java/lang/String" 38 "java/lang/String" "COMPACT_STRINGS" "Z" ∈ zTb := zTb_in (zT4 (List.mem_of_getElem? (i := 2) (by decide +kernel))) rfl
theorem zm205 : Cond.fieldLink "java/lang/String" 15 "java/lang/String" "coder" "B" ∈ zTb := zTb_in (zT4 (List.mem_of_getElem? (i := 17) (by decide +kernel))) rfl
theorem zm206 : Cond.fieldLink "java/lang/String" 9 "java/lang/String" "value" "[B" ∈ zTb := zTb_in (zT4 (List.mem_of_getElem? (i := 16) (by decide +kernel))) rfl
theorem zm207 : Cond.methodLink "java/lang/String" 541 (⟨"java/lang/StringLatin1", "equals", "([B[B)Z"⟩ : MethodName) ∈ zTb := zTb_in (zT5 (List.mem_of_getElem? (i := 60) (by decide +kernel))) rfl
theorem zm208 : Cond.code (⟨"java/lang/StringLatin1", "equals", "([B[B)Z"⟩ : MethodName) prog_21_method_13_code 3 (some (.boolean)) ∈ zTb := zTb_in (zT5 (List.mem_of_getElem? (i := 62) (by decide +kernel))) rfl
theorem zm209 : Cond.static (⟨"java/lang/StringLatin1", "equals", "([B[B)Z"⟩ : MethodName) ∈ zTb := zTb_in (zT5 (List.mem_of_getElem? (i := 61) (by decide +kernel))) rfl
theorem zm210 : Cond.initialized "java/lang/StringLatin1" ∈ zTb := zTb_in (zT1 (List.mem_of_getElem? (i := 22) (by decide +kernel))) rfl
theorem zm211 : Cond.methodLink "PretendDesk$Room" 106 (⟨"java/lang/String", "equals", "(Ljava/lang/Object;)Z"⟩ : MethodName) ∈ zTb := zTb_in (zT5 (List.mem_of_getElem? (i := 55) (by decide +kernel))) rfl
theorem zm212 : Cond.code (⟨"java/lang/String", "equals", "(Ljava/lang/Object;)Z"⟩ : MethodName) prog_19_method_66_code 3 (some (.boolean)) ∈ zTb := zTb_in (zT5 (List.mem_of_getElem? (i := 58) (by decide +kernel))) rfl
theorem zm213 : Cond.instanceMethod (⟨"java/lang/String", "equals", "(Ljava/lang/Object;)Z"⟩ : MethodName) ∈ zTb := zTb_in (zT5 (List.mem_of_getElem? (i := 56) (by decide +kernel))) rfl
theorem zm214 : Cond.initialized "java/lang/String" ∈ zTb := zTb_in (zT1 (List.mem_of_getElem? (i := 6) (by decide +kernel))) rfl
theorem zm215 : Cond.selects "java/lang/String" (⟨"java/lang/String", "equals", "(Ljava/lang/Object;)Z"⟩ : MethodName) (⟨"java/lang/String", "equals", "(Ljava/lang/Object;)Z"⟩ : MethodName) ∈ zTb := zTb_in (zT5 (List.mem_of_getElem? (i := 57) (by decide +kernel))) rfl
theorem zm216 : Cond.methodLink "PretendDesk$Room" 125 (⟨"PretendDesk$Room", "isElsewhere", "(Ljava/lang/String;)Z"⟩ : MethodName) ∈ zTb := zTb_in (zT5 (List.mem_of_getElem? (i := 51) (by decide +kernel))) rfl
theorem zm217 : Cond.code (⟨"PretendDesk$Room", "isElsewhere", "(Ljava/lang/String;)Z"⟩ : MethodName) prog_8_method_8_code 2 (some (.boolean)) ∈ zTb := zTb_in (zT5 (List.mem_of_getElem? (i := 54) (by decide +kernel))) rfl
theorem zm218 : Cond.instanceMethod (⟨"PretendDesk$Room", "isElsewhere", "(Ljava/lang/String;)Z"⟩ : MethodName) ∈ zTb := zTb_in (zT5 (List.mem_of_getElem? (i := 52) (by decide +kernel))) rfl
theorem zm219 : Cond.selects "PretendDesk$Room" (⟨"PretendDesk$Room", "isElsewhere", "(Ljava/lang/String;)Z"⟩ : MethodName) (⟨"PretendDesk$Room", "isElsewhere", "(Ljava/lang/String;)Z"⟩ : MethodName) ∈ zTb := zTb_in (zT5 (List.mem_of_getElem? (i := 53) (by decide +kernel))) rfl
theorem zm220 : Cond.fieldLink "PretendDesk$Room" 129 "PretendDesk$Told" "markC" "I" ∈ zTb := zTb_in (zT2 (List.mem_of_getElem? (i := 50) (by decide +kernel))) rfl
theorem zm221 : Cond.methodLink "PretendDesk$Forger" 62 (⟨"PretendDesk$Room", "signsAt", "(Ljava/lang/String;I)I"⟩ : MethodName) ∈ zTb := zTb_in (zT5 (List.mem_of_getElem? (i := 172) (by decide +kernel))) rfl
theorem zm222 : Cond.code (⟨"PretendDesk$Room", "signsAt", "(Ljava/lang/String;I)I"⟩ : MethodName) prog_8_method_9_code 4 (some (.int)) ∈ zTb := zTb_in (zT5 (List.mem_of_getElem? (i := 49) (by decide +kernel))) rfl
theorem zm223 : Cond.instanceMethod (⟨"PretendDesk$Room", "signsAt", "(Ljava/lang/String;I)I"⟩ : MethodName) ∈ zTb := zTb_in (zT5 (List.mem_of_getElem? (i := 47) (by decide +kernel))) rfl
theorem zm224 : Cond.selects "PretendDesk$Room" (⟨"PretendDesk$Room", "signsAt", "(Ljava/lang/String;I)I"⟩ : MethodName) (⟨"PretendDesk$Room", "signsAt", "(Ljava/lang/String;I)I"⟩ : MethodName) ∈ zTb := zTb_in (zT5 (List.mem_of_getElem? (i := 48) (by decide +kernel))) rfl
theorem zm225 : Cond.methodLink "PretendDesk" 264 (⟨"java/lang/Integer", "bitCount", "(I)I"⟩ : MethodName) ∈ zTb := zTb_in (zT5 (List.mem_of_getElem? (i := 70) (by decide +kernel))) rfl
theorem zm226 : Cond.methodLink "PretendDesk" 269 (⟨"java/lang/Math", "max", "(II)I"⟩ : MethodName) ∈ zTb := zTb_in (zT5 (List.mem_of_getElem? (i := 76) (by decide +kernel))) rfl
theorem zm227 : Cond.code (⟨"PretendDesk", "said", "(I)I"⟩ : MethodName) prog_1_method_29_code 1 (some (.int)) ∈ zTb := zTb_in (zT5 (List.mem_of_getElem? (i := 69) (by decide +kernel))) rfl
theorem zm228 : Cond.static (⟨"PretendDesk", "said", "(I)I"⟩ : MethodName) ∈ zTb := zTb_in (zT5 (List.mem_of_getElem? (i := 68) (by decide +kernel))) rfl
theorem zm229 : Cond.initialized "PretendDesk" ∈ zTb := zTb_in (zT1 (List.mem_of_getElem? (i := 1) (by decide +kernel))) rfl
theorem zm230 : Cond.fieldLink "PretendDesk$Forger" 71 "PretendDesk$Forger" "says" "I" ∈ zTb := zTb_in (zT2 (List.mem_of_getElem? (i := 168) (by decide +kernel))) rfl
theorem zm231 : Cond.methodLink "PretendDesk$Forger" 77 (⟨"java/lang/Math", "max", "(II)I"⟩ : MethodName) ∈ zTb := zTb_in (zT5 (List.mem_of_getElem? (i := 182) (by decide +kernel))) rfl
theorem zm232 : Cond.methodLink "PretendDesk$House" 3 (⟨"java/lang/Object", "<init>", "()V"⟩ : MethodName) ∈ zTb := zTb_in (zT1 (List.mem_of_getElem? (i := 165) (by decide +kernel))) rfl
theorem zm233 : Cond.classLink "PretendDesk$House" 9 "PretendDesk$Page" ∈ zTb := zTb_in (zT1 (List.mem_of_getElem? (i := 166) (by decide +kernel))) rfl
theorem zm234 : Cond.fieldLink "PretendDesk$House" 11 "PretendDesk$House" "page" "[LPretendDesk$Page;" ∈ zTb := zTb_in (zT1 (List.mem_of_getElem? (i := 184) (by decide +kernel))) rfl
theorem zm235 : Cond.fieldLink "PretendDesk$House" 22 "PretendDesk$House" "name" "Ljava/lang/String;" ∈ zTb := zTb_in (zT1 (List.mem_of_getElem? (i := 187) (by decide +kernel))) rfl
theorem zm236 : Cond.fieldLink "PretendDesk$House" 26 "PretendDesk$House" "owned" "I" ∈ zTb := zTb_in (zT1 (List.mem_of_getElem? (i := 190) (by decide +kernel))) rfl
theorem zm237 : Cond.fieldLink "PretendDesk$House" 30 "PretendDesk$House" "squares" "I" ∈ zTb := zTb_in (zT1 (List.mem_of_getElem? (i := 193) (by decide +kernel))) rfl
theorem zm238 : Cond.methodLink "PretendDesk$House" 18 (⟨"PretendDesk$Page", "copy", "(LPretendDesk$Page;)V"⟩ : MethodName) ∈ zTb := zTb_in (zT6 (List.mem_of_getElem? (i := 167) (by decide +kernel))) rfl
theorem zm239 : Cond.methodLink "PretendDesk$Opened" 3 (⟨"java/lang/Object", "<init>", "()V"⟩ : MethodName) ∈ zTb := zTb_in (zT2 (List.mem_of_getElem? (i := 99) (by decide +kernel))) rfl
theorem zm240 : Cond.methodLink "PretendDesk$Page" 19 (⟨"PretendDesk$Page", "tell", "(III)V"⟩ : MethodName) ∈ zTb := zTb_in (zT4 (List.mem_of_getElem? (i := 98) (by decide +kernel))) rfl
theorem zm241 : Cond.methodLink "PretendDesk$Room" 5 (⟨"java/lang/Object", "<init>", "()V"⟩ : MethodName) ∈ zTb := zTb_in (zT2 (List.mem_of_getElem? (i := 93) (by decide +kernel))) rfl
theorem zm242 : Cond.classLink "PretendDesk$Room" 1 "PretendDesk$Opened" ∈ zTb := zTb_in (zT2 (List.mem_of_getElem? (i := 94) (by decide +kernel))) rfl
theorem zm243 : Cond.instantiable "PretendDesk$Opened" 6 ∈ zTb := zTb_in (zT2 (List.mem_of_getElem? (i := 95) (by decide +kernel))) rfl
theorem zm244 : Cond.code (⟨"PretendDesk$Opened", "<init>", "()V"⟩ : MethodName) prog_6_method_1_code 1 none ∈ zTb := zTb_in (zT2 (List.mem_of_getElem? (i := 98) (by decide +kernel))) rfl
theorem zm245 : Cond.instanceMethod (⟨"PretendDesk$Opened", "<init>", "()V"⟩ : MethodName) ∈ zTb := zTb_in (zT2 (List.mem_of_getElem? (i := 97) (by decide +kernel))) rfl
theorem zm246 : Cond.methodLink "PretendDesk$Runner" 3 (⟨"java/lang/Object", "<init>", "()V"⟩ : MethodName) ∈ zTb := zTb_in (zT2 (List.mem_of_getElem? (i := 239) (by decide +kernel))) rfl
theorem zm247 : Cond.fieldLink "PretendDesk$Runner" 9 "PretendDesk$Runner" "numbers" "[I" ∈ zTb := zTb_in (zT3 (List.mem_of_getElem? (i := 0) (by decide +kernel))) rfl
theorem zm248 : Cond.fieldLink "PretendDesk$Runner" 15 "PretendDesk$Runner" "traces" "[I" ∈ zTb := zTb_in (zT3 (List.mem_of_getElem? (i := 1) (by decide +kernel))) rfl
theorem zm249 : Cond.fieldLink "PretendDesk$Runner" 18 "PretendDesk$Runner" "got" "[I" ∈ zTb := zTb_in (zT3 (List.mem_of_getElem? (i := 2) (by decide +kernel))) rfl
theorem zm250 : Cond.fieldLink "PretendDesk$Runner" 21 "PretendDesk$Runner" "steps" "I" ∈ zTb := zTb_in (zT3 (List.mem_of_getElem? (i := 4) (by decide +kernel))) rfl
theorem zm251 : Cond.fieldLink "PretendDesk$Runner" 25 "PretendDesk$Came" "lines" "I" ∈ zTb := zTb_in (zT1 (List.mem_of_getElem? (i := 230) (by decide +kernel))) rfl
theorem zm252 : Cond.fieldLink "PretendDesk$Runner" 30 "PretendDesk$Came" "line" "[I" ∈ zTb := zTb_in (zT1 (List.mem_of_getElem? (i := 217) (by decide +kernel))) rfl
theorem zm253 : Cond.methodLink "PretendDesk$Runner" 33 (⟨"PretendDesk$Runner", "done", "([III)I"⟩ : MethodName) ∈ zTb := zTb_in (zT6 (List.mem_of_getElem? (i := 38) (by decide +kernel))) rfl
theorem zm254 : Cond.code (⟨"PretendDesk$Runner", "done", "([III)I"⟩ : MethodName) prog_9_method_3_code 7 (some (.int)) ∈ zTb := zTb_in (zT6 (List.mem_of_getElem? (i := 41) (by decide +kernel))) rfl
theorem zm255 : Cond.instanceMethod (⟨"PretendDesk$Runner", "done", "([III)I"⟩ : MethodName) ∈ zTb := zTb_in (zT6 (List.mem_of_getElem? (i := 40) (by decide +kernel))) rfl
theorem zm256 : Cond.initialized "PretendDesk$Runner" ∈ zTb := zTb_in (zT1 (List.mem_of_getElem? (i := 16) (by decide +kernel))) rfl
theorem zm257 : Cond.selects "PretendDesk$Runner" (⟨"PretendDesk$Runner", "done", "([III)I"⟩ : MethodName) (⟨"PretendDesk$Runner", "done", "([III)I"⟩ : MethodName) ∈ zTb := zTb_in (zT0 (List.mem_of_getElem? (i := 37) (by decide +kernel))) rfl
theorem zm258 : Cond.methodLink "PretendDesk$Speech" 3 (⟨"java/lang/Object", "<init>", "()V"⟩ : MethodName) ∈ zTb := zTb_in (zT1 (List.mem_of_getElem? (i := 128) (by decide +kernel))) rfl
theorem zm259 : Cond.arrayClass .char ∈ zTb := zTb_in (zT1 (List.mem_of_getElem? (i := 77) (by decide +kernel))) rfl
theorem zm260 : Cond.fieldLink "PretendDesk$Speech" 9 "PretendDesk$Speech" "word" "[C" ∈ zTb := zTb_in (zT1 (List.mem_of_getElem? (i := 129) (by decide +kernel))) rfl
theorem zm261 : Cond.fieldLink "PretendDesk$Speech" 15 "PretendDesk$Speech" "wordLength" "[I" ∈ zTb := zTb_in (zT1 (List.mem_of_getElem? (i := 130) (by decide +kernel))) rfl
theorem zm262 : Cond.fieldLink "PretendDesk$Speech" 19 "PretendDesk$Speech" "wordMeaning" "[I" ∈ zTb := zTb_in (zT1 (List.mem_of_getElem? (i := 131) (by decide +kernel))) rfl
theorem zm263 : Cond.fieldLink "PretendDesk$Speech" 22 "PretendDesk$Speech" "patternMeanings" "[I" ∈ zTb := zTb_in (zT1 (List.mem_of_getElem? (i := 132) (by decide +kernel))) rfl
theorem zm264 : Cond.fieldLink "PretendDesk$Speech" 25 "PretendDesk$Speech" "patternWeight" "[I" ∈ zTb := zTb_in (zT1 (List.mem_of_getElem? (i := 134) (by decide +kernel))) rfl
theorem zm265 : Cond.fieldLink "PretendDesk$Speech" 28 "PretendDesk$Speech" "letter" "[C" ∈ zTb := zTb_in (zT1 (List.mem_of_getElem? (i := 136) (by decide +kernel))) rfl
theorem zm266 : Cond.fieldLink "PretendDesk$Speech" 31 "PretendDesk$Speech" "words" "I" ∈ zTb := zTb_in (zT1 (List.mem_of_getElem? (i := 137) (by decide +kernel))) rfl
theorem zm267 : Cond.methodLink "PretendDesk$Speech" 35 (⟨"PretendDesk$Speech", "isWord", "(I[CII)Z"⟩ : MethodName) ∈ zTb := zTb_in (zT6 (List.mem_of_getElem? (i := 63) (by decide +kernel))) rfl
theorem zm268 : Cond.code (⟨"PretendDesk$Speech", "isWord", "(I[CII)Z"⟩ : MethodName) prog_10_method_3_code 6 (some (.boolean)) ∈ zTb := zTb_in (zT6 (List.mem_of_getElem? (i := 66) (by decide +kernel))) rfl
theorem zm269 : Cond.instanceMethod (⟨"PretendDesk$Speech", "isWord", "(I[CII)Z"⟩ : MethodName) ∈ zTb := zTb_in (zT6 (List.mem_of_getElem? (i := 65) (by decide +kernel))) rfl
theorem zm270 : Cond.initialized "PretendDesk$Speech" ∈ zTb := zTb_in (zT1 (List.mem_of_getElem? (i := 8) (by decide +kernel))) rfl
theorem zm271 : Cond.selects "PretendDesk$Speech" (⟨"PretendDesk$Speech", "isWord", "(I[CII)Z"⟩ : MethodName) (⟨"PretendDesk$Speech", "isWord", "(I[CII)Z"⟩ : MethodName) ∈ zTb := zTb_in (zT0 (List.mem_of_getElem? (i := 39) (by decide +kernel))) rfl
theorem zm272 : Cond.methodLink "PretendDesk$Speech" 39 (⟨"java/lang/System", "arraycopy", "(Ljava/lang/Object;ILjava/lang/Object;II)V"⟩ : MethodName) ∈ zTb := zTb_in (zT6 (List.mem_of_getElem? (i := 67) (by decide +kernel))) rfl
theorem zm273 : Cond.methodLink "PretendDesk$Speech" 45 (⟨"java/lang/Math", "max", "(II)I"⟩ : MethodName) ∈ zTb := zTb_in (zT6 (List.mem_of_getElem? (i := 68) (by decide +kernel))) rfl
theorem zm274 : Cond.fieldLink "PretendDesk$Speech" 51 "PretendDesk$Speech" "patterns" "I" ∈ zTb := zTb_in (zT1 (List.mem_of_getElem? (i := 139) (by decide +kernel))) rfl
theorem zm275 : Cond.methodLink "PretendDesk$Speech" 54 (⟨"java/lang/Math", "min", "(II)I"⟩ : MethodName) ∈ zTb := zTb_in (zT6 (List.mem_of_getElem? (i := 89) (by decide +kernel))) rfl
theorem zm276 : Cond.fieldLink "PretendDesk$Speech" 57 "PretendDesk$Speech" "length" "I" ∈ zTb := zTb_in (zT1 (List.mem_of_getElem? (i := 141) (by decide +kernel))) rfl
theorem zm277 : Cond.code (⟨"PretendDesk", "isLetter", "(C)Z"⟩ : MethodName) prog_1_method_84_code 1 (some (.boolean)) ∈ zTb := zTb_in (zT3 (List.mem_of_getElem? (i := 75) (by decide +kernel))) rfl
theorem zm278 : Cond.static (⟨"PretendDesk", "isLetter", "(C)Z"⟩ : MethodName) ∈ zTb := zTb_in (zT3 (List.mem_of_getElem? (i := 74) (by decide +kernel))) rfl
theorem zm279 : Cond.methodLink "PretendDesk$Speech" 64 (⟨"PretendDesk$Speech", "meaningOf", "(II)I"⟩ : MethodName) ∈ zTb := zTb_in (zT6 (List.mem_of_getElem? (i := 95) (by decide +kernel))) rfl
theorem zm280 : Cond.code (⟨"PretendDesk$Speech", "meaningOf", "(II)I"⟩ : MethodName) prog_10_method_7_code 4 (some (.int)) ∈ zTb := zTb_in (zT6 (List.mem_of_getElem? (i := 98) (by decide +kernel))) rfl
theorem zm281 : Cond.instanceMethod (⟨"PretendDesk$Speech", "meaningOf", "(II)I"⟩ : MethodName) ∈ zTb := zTb_in (zT6 (List.mem_of_getElem? (i := 97) (by decide +kernel))) rfl
theorem zm282 : Cond.selects "PretendDesk$Speech" (⟨"PretendDesk$Speech", "meaningOf", "(II)I"⟩ : MethodName) (⟨"PretendDesk$Speech", "meaningOf", "(II)I"⟩ : MethodName) ∈ zTb := zTb_in (zT0 (List.mem_of_getElem? (i := 40) (by decide +kernel))) rfl
theorem zm283 : Cond.methodLink "PretendDesk$Tape" 5 (⟨"java/lang/Object", "<init>", "()V"⟩ : MethodName) ∈ zTb := zTb_in (zT1 (List.mem_of_getElem? (i := 44) (by decide +kernel))) rfl
theorem zm284 : Cond.fieldLink "PretendDesk$Tape" 11 "PretendDesk$Tape" "bytes" "[C" ∈ zTb := zTb_in (zT1 (List.mem_of_getElem? (i := 80) (by decide +kernel))) rfl
theorem zm285 : Cond.fieldLink "PretendDesk$Tape" 15 "PretendDesk$Tape" "faultPlace" "I" ∈ zTb := zTb_in (zT1 (List.mem_of_getElem? (i := 86) (by decide +kernel))) rfl
theorem zm286 : Cond.fieldLink "PretendDesk$Tape" 19 "PretendDesk$Tape" "inside" "[I" ∈ zTb := zTb_in (zT1 (List.mem_of_getElem? (i := 90) (by decide +kernel))) rfl
theorem zm287 : Cond.classLink "PretendDesk$Tape" 23 "java/lang/StringBuilder" ∈ zTb := zTb_in (zT1 (List.mem_of_getElem? (i := 45) (by decide +kernel))) rfl
theorem zm288 : Cond.instantiable "java/lang/StringBuilder" 4 ∈ zTb := zTb_in (zT1 (List.mem_of_getElem? (i := 46) (by decide +kernel))) rfl
theorem zm289 : Cond.initialized "java/lang/StringBuilder" ∈ zTb := zTb_in (zT1 (List.mem_of_getElem? (i := 5) (by decide +kernel))) rfl
theorem zm290 : Cond.methodLink "java/lang/AbstractStringBuilder" 3 (⟨"java/lang/Object", "<init>", "()V"⟩ : MethodName) ∈ zTb := zTb_in (zT1 (List.mem_of_getElem? (i := 53) (by decide +kernel))) rfl
theorem zm291 : Cond.fieldLink "java/lang/AbstractStringBuilder" 18 "java/lang/String" "COMPACT_STRINGS" "Z" ∈ zTb := zTb_in (zT1 (List.mem_of_getElem? (i := 54) (by decide +kernel))) rfl
theorem zm292 : Cond.arrayClass .byte ∈ zTb := zTb_in (zT1 (List.mem_of_getElem? (i := 79) (by decide +kernel))) rfl
theorem zm293 : Cond.fieldLink "java/lang/AbstractStringBuilder" 15 "java/lang/AbstractStringBuilder" "value" "[B" ∈ zTb := zTb_in (zT1 (List.mem_of_getElem? (i := 63) (by decide +kernel))) rfl
theorem zm294 : Cond.fieldLink "java/lang/AbstractStringBuilder" 22 "java/lang/AbstractStringBuilder" "coder" "B" ∈ zTb := zTb_in (zT1 (List.mem_of_getElem? (i := 64) (by decide +kernel))) rfl
theorem zm295 : Cond.methodLink "java/lang/StringBuilder" 1 (⟨"java/lang/AbstractStringBuilder", "<init>", "(I)V"⟩ : MethodName) ∈ zTb := zTb_in (zT1 (List.mem_of_getElem? (i := 50) (by decide +kernel))) rfl
theorem zm296 : Cond.code (⟨"java/lang/AbstractStringBuilder", "<init>", "(I)V"⟩ : MethodName) prog_15_method_2_code 2 none ∈ zTb := zTb_in (zT1 (List.mem_of_getElem? (i := 52) (by decide +kernel))) rfl
theorem zm297 : Cond.instanceMethod (⟨"java/lang/AbstractStringBuilder", "<init>", "(I)V"⟩ : MethodName) ∈ zTb := zTb_in (zT1 (List.mem_of_getElem? (i := 51) (by decide +kernel))) rfl
theorem zm298 : Cond.initialized "java/lang/AbstractStringBuilder" ∈ zTb := zTb_in (zT1 (List.mem_of_getElem? (i := 4) (by decide +kernel))) rfl
theorem zm299 : Cond.methodLink "PretendDesk$Tape" 25 (⟨"java/lang/StringBuilder", "<init>", "()V"⟩ : MethodName) ∈ zTb := zTb_in (zT1 (List.mem_of_getElem? (i := 47) (by decide +kernel))) rfl
theorem zm300 : Cond.code (⟨"java/lang/StringBuilder", "<init>", "()V"⟩ : MethodName) prog_20_method_1_code 1 none ∈ zTb := zTb_in (zT1 (List.mem_of_getElem? (i := 49) (by decide +kernel))) rfl
theorem zm301 : Cond.instanceMethod (⟨"java/lang/StringBuilder", "<init>", "()V"⟩ : MethodName) ∈ zTb := zTb_in (zT1 (List.mem_of_getElem? (i := 48) (by decide +kernel))) rfl
theorem zm302 : Cond.fieldLink "PretendDesk$Tape" 26 "PretendDesk$Tape" "builder" "Ljava/lang/StringBuilder;" ∈ zTb := zTb_in (zT1 (List.mem_of_getElem? (i := 91) (by decide +kernel))) rfl
theorem zm303 : Cond.methodLink "PretendDesk$Tape" 30 (⟨"java/lang/System", "arraycopy", "(Ljava/lang/Object;ILjava/lang/Object;II)V"⟩ : MethodName) ∈ zTb := zTb_in (zT6 (List.mem_of_getElem? (i := 158) (by decide +kernel))) rfl
theorem zm304 : Cond.fieldLink "PretendDesk$Tape" 36 "PretendDesk$Tape" "length" "I" ∈ zTb := zTb_in (zT1 (List.mem_of_getElem? (i := 83) (by decide +kernel))) rfl
theorem zm305 : Cond.fieldLink "PretendDesk$Tape" 39 "PretendDesk$Tape" "fault" "I" ∈ zTb := zTb_in (zT1 (List.mem_of_getElem? (i := 84) (by decide +kernel))) rfl
theorem zm306 : Cond.fieldLink "PretendDesk$Tape" 42 "PretendDesk$Tape" "taken" "I" ∈ zTb := zTb_in (zT1 (List.mem_of_getElem? (i := 88) (by decide +kernel))) rfl
theorem zm307 : Cond.methodLink "PretendDesk$Tape" 45 (⟨"PretendDesk$Tape", "take", "()V"⟩ : MethodName) ∈ zTb := zTb_in (zT3 (List.mem_of_getElem? (i := 72) (by decide +kernel))) rfl
theorem zm308 : Cond.code (⟨"PretendDesk$Tape", "take", "()V"⟩ : MethodName) prog_11_method_4_code 1 none ∈ zTb := zTb_in (zT3 (List.mem_of_getElem? (i := 67) (by decide +kernel))) rfl
theorem zm309 : Cond.instanceMethod (⟨"PretendDesk$Tape", "take", "()V"⟩ : MethodName) ∈ zTb := zTb_in (zT3 (List.mem_of_getElem? (i := 65) (by decide +kernel))) rfl
theorem zm310 : Cond.initialized "PretendDesk$Tape" ∈ zTb := zTb_in (zT1 (List.mem_of_getElem? (i := 3) (by decide +kernel))) rfl
theorem zm311 : Cond.selects "PretendDesk$Tape" (⟨"PretendDesk$Tape", "take", "()V"⟩ : MethodName) (⟨"PretendDesk$Tape", "take", "()V"⟩ : MethodName) ∈ zTb := zTb_in (zT3 (List.mem_of_getElem? (i := 66) (by decide +kernel))) rfl
theorem zm312 : Cond.methodLink "PretendDesk$Tape" 55 (⟨"PretendDesk$Tape", "stuck", "(I)V"⟩ : MethodName) ∈ zTb := zTb_in (zT3 (List.mem_of_getElem? (i := 79) (by decide +kernel))) rfl
theorem zm313 : Cond.code (⟨"PretendDesk$Tape", "stuck", "(I)V"⟩ : MethodName) prog_11_method_5_code 2 none ∈ zTb := zTb_in (zT3 (List.mem_of_getElem? (i := 82) (by decide +kernel))) rfl
theorem zm314 : Cond.instanceMethod (⟨"PretendDesk$Tape", "stuck", "(I)V"⟩ : MethodName) ∈ zTb := zTb_in (zT3 (List.mem_of_getElem? (i := 81) (by decide +kernel))) rfl
theorem zm315 : Cond.selects "PretendDesk$Tape" (⟨"PretendDesk$Tape", "stuck", "(I)V"⟩ : MethodName) (⟨"PretendDesk$Tape", "stuck", "(I)V"⟩ : MethodName) ∈ zTb := zTb_in (zT0 (List.mem_of_getElem? (i := 0) (by decide +kernel))) rfl
theorem zm316 : Cond.code (⟨"PretendDesk", "isDigit", "(C)Z"⟩ : MethodName) prog_1_method_83_code 1 (some (.boolean)) ∈ zTb := zTb_in (zT3 (List.mem_of_getElem? (i := 78) (by decide +kernel))) rfl
theorem zm317 : Cond.static (⟨"PretendDesk", "isDigit", "(C)Z"⟩ : MethodName) ∈ zTb := zTb_in (zT3 (List.mem_of_getElem? (i := 77) (by decide +kernel))) rfl
theorem zm318 : Cond.methodLink "PretendDesk$Tape" 59 (⟨"PretendDesk$Tape", "wrong", "(II)V"⟩ : MethodName) ∈ zTb := zTb_in (zT3 (List.mem_of_getElem? (i := 83) (by decide +kernel))) rfl
theorem zm319 : Cond.code (⟨"PretendDesk$Tape", "wrong", "(II)V"⟩ : MethodName) prog_11_method_6_code 3 none ∈ zTb := zTb_in (zT3 (List.mem_of_getElem? (i := 86) (by decide +kernel))) rfl
theorem zm320 : Cond.instanceMethod (⟨"PretendDesk$Tape", "wrong", "(II)V"⟩ : MethodName) ∈ zTb := zTb_in (zT3 (List.mem_of_getElem? (i := 85) (by decide +kernel))) rfl
theorem zm321 : Cond.selects "PretendDesk$Tape" (⟨"PretendDesk$Tape", "wrong", "(II)V"⟩ : MethodName) (⟨"PretendDesk$Tape", "wrong", "(II)V"⟩ : MethodName) ∈ zTb := zTb_in (zT0 (List.mem_of_getElem? (i := 1) (by decide +kernel))) rfl
theorem zm322 : Cond.methodLink "java/lang/AbstractStringBuilder" 100 (⟨"java/lang/AbstractStringBuilder", "ensureCapacityInternal", "(I)V"⟩ : MethodName) ∈ zTb := zTb_in (zT3 (List.mem_of_getElem? (i := 98) (by decide +kernel))) rfl
theorem zm323 : Cond.code (⟨"java/lang/AbstractStringBuilder", "ensureCapacityInternal", "(I)V"⟩ : MethodName) prog_15_method_9_code 3 none ∈ zTb := zTb_in (zT3 (List.mem_of_getElem? (i := 101) (by decide +kernel))) rfl
theorem zm324 : Cond.sameMethod "java/lang/AbstractStringBuilder" "java/lang/AbstractStringBuilder" "ensureCapacityInternal" "(I)V" ∈ zTb := zTb_in (zT9 (List.mem_of_getElem? (i := 125) (by decide +kernel))) rfl
theorem zm325 : Cond.instanceMethod (⟨"java/lang/AbstractStringBuilder", "ensureCapacityInternal", "(I)V"⟩ : MethodName) ∈ zTb := zTb_in (zT3 (List.mem_of_getElem? (i := 100) (by decide +kernel))) rfl
theorem zm326 : Cond.fieldLink "java/lang/AbstractStringBuilder" 79 "java/lang/AbstractStringBuilder" "count" "I" ∈ zTb := zTb_in (zT1 (List.mem_of_getElem? (i := 67) (by decide +kernel))) rfl
theorem zm327 : Cond.fieldLink "java/lang/AbstractStringBuilder" 73 "java/lang/AbstractStringBuilder" "maybeLatin1" "Z" ∈ zTb := zTb_in (zT1 (List.mem_of_getElem? (i := 65) (by decide +kernel))) rfl
theorem zm328 : Cond.methodLink "java/lang/StringBuilder" 333 (⟨"java/lang/AbstractStringBuilder", "setLength", "(I)V"⟩ : MethodName) ∈ zTb := zTb_in (zT3 (List.mem_of_getElem? (i := 95) (by decide +kernel))) rfl
theorem zm329 : Cond.code (⟨"java/lang/AbstractStringBuilder", "setLength", "(I)V"⟩ : MethodName) prog_15_method_13_code 2 none ∈ zTb := zTb_in (zT3 (List.mem_of_getElem? (i := 97) (by decide +kernel))) rfl
theorem zm330 : Cond.sameMethod "java/lang/AbstractStringBuilder" "java/lang/AbstractStringBuilder" "setLength" "(I)V" ∈ zTb := zTb_in (zT9 (List.mem_of_getElem? (i := 124) (by decide +kernel))) rfl
theorem zm331 : Cond.instanceMethod (⟨"java/lang/AbstractStringBuilder", "setLength", "(I)V"⟩ : MethodName) ∈ zTb := zTb_in (zT3 (List.mem_of_getElem? (i := 96) (by decide +kernel))) rfl
theorem zm332 : Cond.superclass "java/lang/StringBuilder" "java/lang/AbstractStringBuilder" ∈ zTb := zTb_in (zT1 (List.mem_of_getElem? (i := 76) (by decide +kernel))) rfl
theorem zm333 : Cond.methodLink "PretendDesk$Tape" 63 (⟨"java/lang/StringBuilder", "setLength", "(I)V"⟩ : MethodName) ∈ zTb := zTb_in (zT3 (List.mem_of_getElem? (i := 91) (by decide +kernel))) rfl
theorem zm334 : Cond.code (⟨"java/lang/StringBuilder", "setLength", "(I)V"⟩ : MethodName) prog_20_method_89_code 2 none ∈ zTb := zTb_in (zT3 (List.mem_of_getElem? (i := 94) (by decide +kernel))) rfl
theorem zm335 : Cond.instanceMethod (⟨"java/lang/StringBuilder", "setLength", "(I)V"⟩ : MethodName) ∈ zTb := zTb_in (zT3 (List.mem_of_getElem? (i := 92) (by decide +kernel))) rfl
theorem zm336 : Cond.selects "java/lang/StringBuilder" (⟨"java/lang/StringBuilder", "setLength", "(I)V"⟩ : MethodName) (⟨"java/lang/StringBuilder", "setLength", "(I)V"⟩ : MethodName) ∈ zTb := zTb_in (zT3 (List.mem_of_getElem? (i := 93) (by decide +kernel))) rfl
theorem zm337 : Cond.methodLink "java/lang/AbstractStringBuilder" 83 (⟨"java/lang/AbstractStringBuilder", "isLatin1", "()Z"⟩ : MethodName) ∈ zTb := zTb_in (zT3 (List.mem_of_getElem? (i := 133) (by decide +kernel))) rfl
theorem zm338 : Cond.code (⟨"java/lang/AbstractStringBuilder", "isLatin1", "()Z"⟩ : MethodName) prog_15_method_68_code 1 (some (.boolean)) ∈ zTb := zTb_in (zT3 (List.mem_of_getElem? (i := 137) (by decide +kernel))) rfl
theorem zm339 : Cond.sameMethod "java/lang/AbstractStringBuilder" "java/lang/AbstractStringBuilder" "isLatin1" "()Z" ∈ zTb := zTb_in (zT3 (List.mem_of_getElem? (i := 135) (by decide +kernel))) rfl
theorem zm340 : Cond.instanceMethod (⟨"java/lang/AbstractStringBuilder", "isLatin1", "()Z"⟩ : MethodName) ∈ zTb := zTb_in (zT3 (List.mem_of_getElem? (i := 134) (by decide +kernel))) rfl
theorem zm341 : Cond.selects "java/lang/StringBuilder" (⟨"java/lang/AbstractStringBuilder", "isLatin1", "()Z"⟩ : MethodName) (⟨"java/lang/AbstractStringBuilder", "isLatin1", "()Z"⟩ : MethodName) ∈ zTb := zTb_in (zT3 (List.mem_of_getElem? (i := 136) (by decide +kernel))) rfl
theorem zm342 : Cond.methodLink "java/lang/AbstractStringBuilder" 191 (⟨"java/lang/StringLatin1", "canEncode", "(C)Z"⟩ : MethodName) ∈ zTb := zTb_in (zT3 (List.mem_of_getElem? (i := 158) (by decide +kernel))) rfl
theorem zm343 : Cond.code (⟨"java/lang/StringLatin1", "canEncode", "(C)Z"⟩ : MethodName) prog_21_method_3_code 1 (some (.boolean)) ∈ zTb := zTb_in (zT3 (List.mem_of_getElem? (i := 160) (by decide +kernel))) rfl
theorem zm344 : Cond.static (⟨"java/lang/StringLatin1", "canEncode", "(C)Z"⟩ : MethodName) ∈ zTb := zTb_in (zT3 (List.mem_of_getElem? (i := 159) (by decide +kernel))) rfl
theorem zm345 : Cond.methodLink "java/lang/StringBuilder" 50 (⟨"java/lang/AbstractStringBuilder", "append", "(C)Ljava/lang/AbstractStringBuilder;"⟩ : MethodName) ∈ zTb := zTb_in (zT3 (List.mem_of_getElem? (i := 155) (by decide +kernel))) rfl
theorem zm346 : Cond.code (⟨"java/lang/AbstractStringBuilder", "append", "(C)Ljava/lang/AbstractStringBuilder;"⟩ : MethodName) prog_15_method_31_code 2 (some (.object "java/lang/AbstractStringBuilder")) ∈ zTb := zTb_in (zT3 (List.mem_of_getElem? (i := 157) (by decide +kernel))) rfl
theorem zm347 : Cond.sameMethod "java/lang/AbstractStringBuilder" "java/lang/AbstractStringBuilder" "append" "(C)Ljava/lang/AbstractStringBuilder;" ∈ zTb := zTb_in (zT9 (List.mem_of_getElem? (i := 127) (by decide +kernel))) rfl
theorem zm348 : Cond.instanceMethod (⟨"java/lang/AbstractStringBuilder", "append", "(C)Ljava/lang/AbstractStringBuilder;"⟩ : MethodName) ∈ zTb := zTb_in (zT3 (List.mem_of_getElem? (i := 156) (by decide +kernel))) rfl
theorem zm349 : Cond.methodLink "PretendDesk$Tape" 66 (⟨"java/lang/StringBuilder", "append", "(C)Ljava/lang/StringBuilder;"⟩ : MethodName) ∈ zTb := zTb_in (zT3 (List.mem_of_getElem? (i := 151) (by decide +kernel))) rfl
theorem zm350 : Cond.code (⟨"java/lang/StringBuilder", "append", "(C)Ljava/lang/StringBuilder;"⟩ : MethodName) prog_20_method_14_code 2 (some (.object "java/lang/StringBuilder")) ∈ zTb := zTb_in (zT3 (List.mem_of_getElem? (i := 154) (by decide +kernel))) rfl
theorem zm351 : Cond.instanceMethod (⟨"java/lang/StringBuilder", "append", "(C)Ljava/lang/StringBuilder;"⟩ : MethodName) ∈ zTb := zTb_in (zT3 (List.mem_of_getElem? (i := 152) (by decide +kernel))) rfl
theorem zm352 : Cond.selects "java/lang/StringBuilder" (⟨"java/lang/StringBuilder", "append", "(C)Ljava/lang/StringBuilder;"⟩ : MethodName) (⟨"java/lang/StringBuilder", "append", "(C)Ljava/lang/StringBuilder;"⟩ : MethodName) ∈ zTb := zTb_in (zT3 (List.mem_of_getElem? (i := 153) (by decide +kernel))) rfl
theorem zm353 : Cond.classLink "java/lang/StringBuilder" 18 "java/lang/String" ∈ zTb := zTb_in (zT3 (List.mem_of_getElem? (i := 210) (by decide +kernel))) rfl
theorem zm354 : Cond.instantiable "java/lang/String" 4 ∈ zTb := zTb_in (zT3 (List.mem_of_getElem? (i := 211) (by decide +kernel))) rfl
theorem zm355 : Cond.methodLink "java/lang/String" 1 (⟨"java/lang/Object", "<init>", "()V"⟩ : MethodName) ∈ zTb := zTb_in (zT3 (List.mem_of_getElem? (i := 218) (by decide +kernel))) rfl
theorem zm356 : Cond.methodLink "java/lang/String" 552 (⟨"java/lang/AbstractStringBuilder", "getValue", "()[B"⟩ : MethodName) ∈ zTb := zTb_in (zT3 (List.mem_of_getElem? (i := 219) (by decide +kernel))) rfl
theorem zm357 : Cond.code (⟨"java/lang/AbstractStringBuilder", "getValue", "()[B"⟩ : MethodName) prog_15_method_64_code 1 (some (.array .byte)) ∈ zTb := zTb_in (zT3 (List.mem_of_getElem? (i := 223) (by decide +kernel))) rfl
theorem zm358 : Cond.sameMethod "java/lang/AbstractStringBuilder" "java/lang/AbstractStringBuilder" "getValue" "()[B" ∈ zTb := zTb_in (zT3 (List.mem_of_getElem? (i := 221) (by decide +kernel))) rfl
theorem zm359 : Cond.instanceMethod (⟨"java/lang/AbstractStringBuilder", "getValue", "()[B"⟩ : MethodName) ∈ zTb := zTb_in (zT3 (List.mem_of_getElem? (i := 220) (by decide +kernel))) rfl
theorem zm360 : Cond.selects "java/lang/StringBuilder" (⟨"java/lang/AbstractStringBuilder", "getValue", "()[B"⟩ : MethodName) (⟨"java/lang/AbstractStringBuilder", "getValue", "()[B"⟩ : MethodName) ∈ zTb := zTb_in (zT3 (List.mem_of_getElem? (i := 222) (by decide +kernel))) rfl
theorem zm361 : Cond.methodLink "java/lang/StringBuilder" 343 (⟨"java/lang/AbstractStringBuilder", "length", "()I"⟩ : MethodName) ∈ zTb := zTb_in (zT3 (List.mem_of_getElem? (i := 230) (by decide +kernel))) rfl
theorem zm362 : Cond.code (⟨"java/lang/AbstractStringBuilder", "length", "()I"⟩ : MethodName) prog_15_method_6_code 1 (some (.int)) ∈ zTb := zTb_in (zT3 (List.mem_of_getElem? (i := 231) (by decide +kernel))) rfl
theorem zm363 : Cond.sameMethod "java/lang/AbstractStringBuilder" "java/lang/AbstractStringBuilder" "length" "()I" ∈ zTb := zTb_in (zT3 (List.mem_of_getElem? (i := 226) (by decide +kernel))) rfl
theorem zm364 : Cond.instanceMethod (⟨"java/lang/AbstractStringBuilder", "length", "()I"⟩ : MethodName) ∈ zTb := zTb_in (zT3 (List.mem_of_getElem? (i := 225) (by decide +kernel))) rfl
theorem zm365 : Cond.methodLink "java/lang/String" 549 (⟨"java/lang/AbstractStringBuilder", "length", "()I"⟩ : MethodName) ∈ zTb := zTb_in (zT3 (List.mem_of_getElem? (i := 224) (by decide +kernel))) rfl
theorem zm366 : Cond.code (⟨"java/lang/StringBuilder", "length", "()I"⟩ : MethodName) prog_20_method_93_code 1 (some (.int)) ∈ zTb := zTb_in (zT3 (List.mem_of_getElem? (i := 229) (by decide +kernel))) rfl
theorem zm367 : Cond.instanceMethod (⟨"java/lang/StringBuilder", "length", "()I"⟩ : MethodName) ∈ zTb := zTb_in (zT3 (List.mem_of_getElem? (i := 228) (by decide +kernel))) rfl
theorem zm368 : Cond.selects "java/lang/StringBuilder" (⟨"java/lang/AbstractStringBuilder", "length", "()I"⟩ : MethodName) (⟨"java/lang/StringBuilder", "length", "()I"⟩ : MethodName) ∈ zTb := zTb_in (zT3 (List.mem_of_getElem? (i := 227) (by decide +kernel))) rfl
theorem zm369 : Cond.methodLink "java/lang/String" 1047 (⟨"java/lang/AbstractStringBuilder", "isLatin1", "()Z"⟩ : MethodName) ∈ zTb := zTb_in (zT3 (List.mem_of_getElem? (i := 232) (by decide +kernel))) rfl
theorem zm370 : Cond.methodLink "java/util/Arrays" 343 (⟨"java/util/Arrays", "checkLength", "(II)V"⟩ : MethodName) ∈ zTb := zTb_in (zT3 (List.mem_of_getElem? (i := 239) (by decide +kernel))) rfl
theorem zm371 : Cond.code (⟨"java/util/Arrays", "checkLength", "(II)V"⟩ : MethodName) prog_24_method_131_code 2 none ∈ zTb := zTb_in (zT4 (List.mem_of_getElem? (i := 1) (by decide +kernel))) rfl
theorem zm372 : Cond.static (⟨"java/util/Arrays", "checkLength", "(II)V"⟩ : MethodName) ∈ zTb := zTb_in (zT4 (List.mem_of_getElem? (i := 0) (by decide +kernel))) rfl
theorem zm373 : Cond.initialized "java/util/Arrays" ∈ zTb := zTb_in (zT1 (List.mem_of_getElem? (i := 20) (by decide +kernel))) rfl
theorem zm374 : Cond.methodLink "java/util/Arrays" 304 (⟨"java/lang/Math", "min", "(II)I"⟩ : MethodName) ∈ zTb := zTb_in (zT3 (List.mem_of_getElem? (i := 127) (by decide +kernel))) rfl
theorem zm375 : Cond.methodLink "java/util/Arrays" 150 (⟨"java/lang/System", "arraycopy", "(Ljava/lang/Object;ILjava/lang/Object;II)V"⟩ : MethodName) ∈ zTb := zTb_in (zT3 (List.mem_of_getElem? (i := 130) (by decide +kernel))) rfl
theorem zm376 : Cond.methodLink "java/util/Arrays" 339 (⟨"java/util/Arrays", "copyOfRangeByte", "([BII)[B"⟩ : MethodName) ∈ zTb := zTb_in (zT3 (List.mem_of_getElem? (i := 236) (by decide +kernel))) rfl
theorem zm377 : Cond.code (⟨"java/util/Arrays", "copyOfRangeByte", "([BII)[B"⟩ : MethodName) prog_24_method_133_code 5 (some (.array .byte)) ∈ zTb := zTb_in (zT3 (List.mem_of_getElem? (i := 238) (by decide +kernel))) rfl
theorem zm378 : Cond.static (⟨"java/util/Arrays", "copyOfRangeByte", "([BII)[B"⟩ : MethodName) ∈ zTb := zTb_in (zT3 (List.mem_of_getElem? (i := 237) (by decide +kernel))) rfl
theorem zm379 : Cond.methodLink "java/lang/String" 54 (⟨"java/util/Arrays", "copyOfRange", "([BII)[B"⟩ : MethodName) ∈ zTb := zTb_in (zT3 (List.mem_of_getElem? (i := 233) (by decide +kernel))) rfl
theorem zm380 : Cond.code (⟨"java/util/Arrays", "copyOfRange", "([BII)[B"⟩ : MethodName) prog_24_method_132_code 3 (some (.array .byte)) ∈ zTb := zTb_in (zT3 (List.mem_of_getElem? (i := 235) (by decide +kernel))) rfl
theorem zm381 : Cond.static (⟨"java/util/Arrays", "copyOfRange", "([BII)[B"⟩ : MethodName) ∈ zTb := zTb_in (zT3 (List.mem_of_getElem? (i := 234) (by decide +kernel))) rfl
theorem zm382 : Cond.methodLink "java/lang/String" 489 (⟨"java/lang/String", "<init>", "(Ljava/lang/AbstractStringBuilder;Ljava/lang/Void;)V"⟩ : MethodName) ∈ zTb := zTb_in (zT3 (List.mem_of_getElem? (i := 215) (by decide +kernel))) rfl
theorem zm383 : Cond.code (⟨"java/lang/String", "<init>", "(Ljava/lang/AbstractStringBuilder;Ljava/lang/Void;)V"⟩ : MethodName) prog_19_method_150_code 5 none ∈ zTb := zTb_in (zT3 (List.mem_of_getElem? (i := 217) (by decide +kernel))) rfl
theorem zm384 : Cond.instanceMethod (⟨"java/lang/String", "<init>", "(Ljava/lang/AbstractStringBuilder;Ljava/lang/Void;)V"⟩ : MethodName) ∈ zTb := zTb_in (zT3 (List.mem_of_getElem? (i := 216) (by decide +kernel))) rfl
theorem zm385 : Cond.methodLink "java/lang/StringBuilder" 137 (⟨"java/lang/String", "<init>", "(Ljava/lang/StringBuilder;)V"⟩ : MethodName) ∈ zTb := zTb_in (zT3 (List.mem_of_getElem? (i := 212) (by decide +kernel))) rfl
theorem zm386 : Cond.code (⟨"java/lang/String", "<init>", "(Ljava/lang/StringBuilder;)V"⟩ : MethodName) prog_19_method_53_code 2 none ∈ zTb := zTb_in (zT3 (List.mem_of_getElem? (i := 214) (by decide +kernel))) rfl
theorem zm387 : Cond.instanceMethod (⟨"java/lang/String", "<init>", "(Ljava/lang/StringBuilder;)V"⟩ : MethodName) ∈ zTb := zTb_in (zT3 (List.mem_of_getElem? (i := 213) (by decide +kernel))) rfl
theorem zm388 : Cond.methodLink "PretendDesk$Tape" 70 (⟨"java/lang/StringBuilder", "toString", "()Ljava/lang/String;"⟩ : MethodName) ∈ zTb := zTb_in (zT3 (List.mem_of_getElem? (i := 206) (by decide +kernel))) rfl
theorem zm389 : Cond.code (⟨"java/lang/StringBuilder", "toString", "()Ljava/lang/String;"⟩ : MethodName) prog_20_method_42_code 1 (some (.object "java/lang/String")) ∈ zTb := zTb_in (zT3 (List.mem_of_getElem? (i := 209) (by decide +kernel))) rfl
theorem zm390 : Cond.instanceMethod (⟨"java/lang/StringBuilder", "toString", "()Ljava/lang/String;"⟩ : MethodName) ∈ zTb := zTb_in (zT3 (List.mem_of_getElem? (i := 207) (by decide +kernel))) rfl
theorem zm391 : Cond.selects "java/lang/StringBuilder" (⟨"java/lang/StringBuilder", "toString", "()Ljava/lang/String;"⟩ : MethodName) (⟨"java/lang/StringBuilder", "toString", "()Ljava/lang/String;"⟩ : MethodName) ∈ zTb := zTb_in (zT3 (List.mem_of_getElem? (i := 208) (by decide +kernel))) rfl
theorem zm392 : Cond.code (⟨"PretendDesk", "isBlank", "(C)Z"⟩ : MethodName) prog_1_method_85_code 1 (some (.boolean)) ∈ zTb := zTb_in (zT4 (List.mem_of_getElem? (i := 53) (by decide +kernel))) rfl
theorem zm393 : Cond.static (⟨"PretendDesk", "isBlank", "(C)Z"⟩ : MethodName) ∈ zTb := zTb_in (zT4 (List.mem_of_getElem? (i := 52) (by decide +kernel))) rfl
theorem zm394 : Cond.fieldLink "PretendDesk$Tape" 77 "PretendDesk$Tape" "at" "I" ∈ zTb := zTb_in (zT1 (List.mem_of_getElem? (i := 92) (by decide +kernel))) rfl
theorem zm395 : Cond.fieldLink "PretendDesk$Tape" 98 "PretendDesk$Tape" "place" "I" ∈ zTb := zTb_in (zT1 (List.mem_of_getElem? (i := 94) (by decide +kernel))) rfl
theorem zm396 : Cond.fieldLink "PretendDesk$Tape" 92 "PretendDesk$Tape" "token" "I" ∈ zTb := zTb_in (zT1 (List.mem_of_getElem? (i := 93) (by decide +kernel))) rfl
theorem zm397 : Cond.methodLink "java/lang/String" 335 (⟨"java/lang/String", "coder", "()B"⟩ : MethodName) ∈ zTb := zTb_in (zT4 (List.mem_of_getElem? (i := 67) (by decide +kernel))) rfl
theorem zm398 : Cond.code (⟨"java/lang/String", "coder", "()B"⟩ : MethodName) prog_19_method_152_code 1 (some (.byte)) ∈ zTb := zTb_in (zT4 (List.mem_of_getElem? (i := 70) (by decide +kernel))) rfl
theorem zm399 : Cond.instanceMethod (⟨"java/lang/String", "coder", "()B"⟩ : MethodName) ∈ zTb := zTb_in (zT4 (List.mem_of_getElem? (i := 68) (by decide +kernel))) rfl
theorem zm400 : Cond.selects "java/lang/String" (⟨"java/lang/String", "coder", "()B"⟩ : MethodName) (⟨"java/lang/String", "coder", "()B"⟩ : MethodName) ∈ zTb := zTb_in (zT4 (List.mem_of_getElem? (i := 69) (by decide +kernel))) rfl
theorem zm401 : Cond.methodLink "PretendDesk$Tape" 143 (⟨"java/lang/String", "length", "()I"⟩ : MethodName) ∈ zTb := zTb_in (zT4 (List.mem_of_getElem? (i := 63) (by decide +kernel))) rfl
theorem zm402 : Cond.code (⟨"java/lang/String", "length", "()I"⟩ : MethodName) prog_19_method_54_code 1 (some (.int)) ∈ zTb := zTb_in (zT4 (List.mem_of_getElem? (i := 66) (by decide +kernel))) rfl
theorem zm403 : Cond.instanceMethod (⟨"java/lang/String", "length", "()I"⟩ : MethodName) ∈ zTb := zTb_in (zT4 (List.mem_of_getElem? (i := 64) (by decide +kernel))) rfl
theorem zm404 : Cond.selects "java/lang/String" (⟨"java/lang/String", "length", "()I"⟩ : MethodName) (⟨"java/lang/String", "length", "()I"⟩ : MethodName) ∈ zTb := zTb_in (zT4 (List.mem_of_getElem? (i := 65) (by decide +kernel))) rfl
theorem zm405 : Cond.methodLink "java/lang/String" 492 (⟨"java/lang/String", "isLatin1", "()Z"⟩ : MethodName) ∈ zTb := zTb_in (zT4 (List.mem_of_getElem? (i := 75) (by decide +kernel))) rfl
theorem zm406 : Cond.code (⟨"java/lang/String", "isLatin1", "()Z"⟩ : MethodName) prog_19_method_154_code 1 (some (.boolean)) ∈ zTb := zTb_in (zT4 (List.mem_of_getElem? (i := 78) (by decide +kernel))) rfl
theorem zm407 : Cond.instanceMethod (⟨"java/lang/String", "isLatin1", "()Z"⟩ : MethodName) ∈ zTb := zTb_in (zT4 (List.mem_of_getElem? (i := 76) (by decide +kernel))) rfl
theorem zm408 : Cond.selects "java/lang/String" (⟨"java/lang/String", "isLatin1", "()Z"⟩ : MethodName) (⟨"java/lang/String", "isLatin1", "()Z"⟩ : MethodName) ∈ zTb := zTb_in (zT4 (List.mem_of_getElem? (i := 77) (by decide +kernel))) rfl
theorem zm409 : Cond.fieldLink "java/lang/String" 1053 "jdk/internal/util/Preconditions" "SIOOBE_FORMATTER" "Ljava/util/function/BiFunction;" ∈ zTb := zTb_in (zT3 (List.mem_of_getElem? (i := 180) (by decide +kernel))) rfl
theorem zm410 : Cond.methodLink "java/lang/String" 1059 (⟨"jdk/internal/util/Preconditions", "checkIndex", "(IILjava/util/function/BiFunction;)I"⟩ : MethodName) ∈ zTb := zTb_in (zT3 (List.mem_of_getElem? (i := 203) (by decide +kernel))) rfl
theorem zm411 : Cond.code (⟨"jdk/internal/util/Preconditions", "checkIndex", "(IILjava/util/function/BiFunction;)I"⟩ : MethodName) prog_26_method_11_code 3 (some (.int)) ∈ zTb := zTb_in (zT3 (List.mem_of_getElem? (i := 205) (by decide +kernel))) rfl
theorem zm412 : Cond.static (⟨"jdk/internal/util/Preconditions", "checkIndex", "(IILjava/util/function/BiFunction;)I"⟩ : MethodName) ∈ zTb := zTb_in (zT3 (List.mem_of_getElem? (i := 204) (by decide +kernel))) rfl
theorem zm413 : Cond.initialized "jdk/internal/util/Preconditions" ∈ zTb := zTb_in (zT1 (List.mem_of_getElem? (i := 23) (by decide +kernel))) rfl
theorem zm414 : Cond.methodLink "java/lang/StringLatin1" 9 (⟨"java/lang/String", "checkIndex", "(II)V"⟩ : MethodName) ∈ zTb := zTb_in (zT4 (List.mem_of_getElem? (i := 82) (by decide +kernel))) rfl
theorem zm415 : Cond.code (⟨"java/lang/String", "checkIndex", "(II)V"⟩ : MethodName) prog_19_method_155_code 2 none ∈ zTb := zTb_in (zT3 (List.mem_of_getElem? (i := 202) (by decide +kernel))) rfl
theorem zm416 : Cond.static (⟨"java/lang/String", "checkIndex", "(II)V"⟩ : MethodName) ∈ zTb := zTb_in (zT3 (List.mem_of_getElem? (i := 201) (by decide +kernel))) rfl
theorem zm417 : Cond.methodLink "java/lang/String" 495 (⟨"java/lang/StringLatin1", "charAt", "([BI)C"⟩ : MethodName) ∈ zTb := zTb_in (zT4 (List.mem_of_getElem? (i := 79) (by decide +kernel))) rfl
theorem zm418 : Cond.code (⟨"java/lang/StringLatin1", "charAt", "([BI)C"⟩ : MethodName) prog_21_method_2_code 2 (some (.char)) ∈ zTb := zTb_in (zT4 (List.mem_of_getElem? (i := 81) (by decide +kernel))) rfl
theorem zm419 : Cond.static (⟨"java/lang/StringLatin1", "charAt", "([BI)C"⟩ : MethodName) ∈ zTb := zTb_in (zT4 (List.mem_of_getElem? (i := 80) (by decide +kernel))) rfl
theorem zm420 : Cond.methodLink "PretendDesk$Tape" 147 (⟨"java/lang/String", "charAt", "(I)C"⟩ : MethodName) ∈ zTb := zTb_in (zT4 (List.mem_of_getElem? (i := 71) (by decide +kernel))) rfl
theorem zm421 : Cond.code (⟨"java/lang/String", "charAt", "(I)C"⟩ : MethodName) prog_19_method_56_code 2 (some (.char)) ∈ zTb := zTb_in (zT4 (List.mem_of_getElem? (i := 74) (by decide +kernel))) rfl
theorem zm422 : Cond.instanceMethod (⟨"java/lang/String", "charAt", "(I)C"⟩ : MethodName) ∈ zTb := zTb_in (zT4 (List.mem_of_getElem? (i := 72) (by decide +kernel))) rfl
theorem zm423 : Cond.selects "java/lang/String" (⟨"java/lang/String", "charAt", "(I)C"⟩ : MethodName) (⟨"java/lang/String", "charAt", "(I)C"⟩ : MethodName) ∈ zTb := zTb_in (zT4 (List.mem_of_getElem? (i := 73) (by decide +kernel))) rfl
theorem zm424 : Cond.methodLink "PretendDesk$Tape" 138 (⟨"PretendDesk$Tape", "stepLetters", "()V"⟩ : MethodName) ∈ zTb := zTb_in (zT4 (List.mem_of_getElem? (i := 58) (by decide +kernel))) rfl
theorem zm425 : Cond.code (⟨"PretendDesk$Tape", "stepLetters", "()V"⟩ : MethodName) prog_11_method_21_code 5 none ∈ zTb := zTb_in (zT4 (List.mem_of_getElem? (i := 61) (by decide +kernel))) rfl
theorem zm426 : Cond.instanceMethod (⟨"PretendDesk$Tape", "stepLetters", "()V"⟩ : MethodName) ∈ zTb := zTb_in (zT4 (List.mem_of_getElem? (i := 60) (by decide +kernel))) rfl
theorem zm427 : Cond.selects "PretendDesk$Tape" (⟨"PretendDesk$Tape", "stepLetters", "()V"⟩ : MethodName) (⟨"PretendDesk$Tape", "stepLetters", "()V"⟩ : MethodName) ∈ zTb := zTb_in (zT0 (List.mem_of_getElem? (i := 6) (by decide +kernel))) rfl
theorem zm428 : Cond.fieldLink "PretendDesk$Tape" 132 "PretendDesk$Tape" "number" "I" ∈ zTb := zTb_in (zT1 (List.mem_of_getElem? (i := 95) (by decide +kernel))) rfl
theorem zm429 : Cond.methodLink "PretendDesk$Tape" 135 (⟨"PretendDesk$Tape", "stepDigits", "()V"⟩ : MethodName) ∈ zTb := zTb_in (zT4 (List.mem_of_getElem? (i := 54) (by decide +kernel))) rfl
theorem zm430 : Cond.code (⟨"PretendDesk$Tape", "stepDigits", "()V"⟩ : MethodName) prog_11_method_20_code 1 none ∈ zTb := zTb_in (zT4 (List.mem_of_getElem? (i := 57) (by decide +kernel))) rfl
theorem zm431 : Cond.instanceMethod (⟨"PretendDesk$Tape", "stepDigits", "()V"⟩ : MethodName) ∈ zTb := zTb_in (zT4 (List.mem_of_getElem? (i := 56) (by decide +kernel))) rfl
theorem zm432 : Cond.selects "PretendDesk$Tape" (⟨"PretendDesk$Tape", "stepDigits", "()V"⟩ : MethodName) (⟨"PretendDesk$Tape", "stepDigits", "()V"⟩ : MethodName) ∈ zTb := zTb_in (zT0 (List.mem_of_getElem? (i := 5) (by decide +kernel))) rfl
theorem zm433 : Cond.methodLink "PretendDesk$Tape" 80 (⟨"PretendDesk$Tape", "step", "()V"⟩ : MethodName) ∈ zTb := zTb_in (zT4 (List.mem_of_getElem? (i := 47) (by decide +kernel))) rfl
theorem zm434 : Cond.code (⟨"PretendDesk$Tape", "step", "()V"⟩ : MethodName) prog_11_method_19_code 3 none ∈ zTb := zTb_in (zT4 (List.mem_of_getElem? (i := 50) (by decide +kernel))) rfl
theorem zm435 : Cond.instanceMethod (⟨"PretendDesk$Tape", "step", "()V"⟩ : MethodName) ∈ zTb := zTb_in (zT4 (List.mem_of_getElem? (i := 49) (by decide +kernel))) rfl
theorem zm436 : Cond.selects "PretendDesk$Tape" (⟨"PretendDesk$Tape", "step", "()V"⟩ : MethodName) (⟨"PretendDesk$Tape", "step", "()V"⟩ : MethodName) ∈ zTb := zTb_in (zT0 (List.mem_of_getElem? (i := 4) (by decide +kernel))) rfl
theorem zm437 : Cond.fieldLink "PretendDesk$Tape" 83 "PretendDesk$Page" "count" "I" ∈ zTb := zTb_in (zT1 (List.mem_of_getElem? (i := 176) (by decide +kernel))) rfl
theorem zm438 : Cond.methodLink "PretendDesk$Tape" 101 (⟨"PretendDesk$Page", "isFull", "()Z"⟩ : MethodName) ∈ zTb := zTb_in (zT4 (List.mem_of_getElem? (i := 90) (by decide +kernel))) rfl
theorem zm439 : Cond.code (⟨"PretendDesk$Page", "isFull", "()Z"⟩ : MethodName) prog_7_method_4_code 1 (some (.boolean)) ∈ zTb := zTb_in (zT4 (List.mem_of_getElem? (i := 93) (by decide +kernel))) rfl
theorem zm440 : Cond.instanceMethod (⟨"PretendDesk$Page", "isFull", "()Z"⟩ : MethodName) ∈ zTb := zTb_in (zT4 (List.mem_of_getElem? (i := 91) (by decide +kernel))) rfl
theorem zm441 : Cond.selects "PretendDesk$Page" (⟨"PretendDesk$Page", "isFull", "()Z"⟩ : MethodName) (⟨"PretendDesk$Page", "isFull", "()Z"⟩ : MethodName) ∈ zTb := zTb_in (zT4 (List.mem_of_getElem? (i := 92) (by decide +kernel))) rfl
theorem zm442 : Cond.methodLink "PretendDesk$Tape" 105 (⟨"PretendDesk$Page", "add", "(II)I"⟩ : MethodName) ∈ zTb := zTb_in (zT4 (List.mem_of_getElem? (i := 94) (by decide +kernel))) rfl
theorem zm443 : Cond.code (⟨"PretendDesk$Page", "add", "(II)I"⟩ : MethodName) prog_7_method_5_code 3 (some (.int)) ∈ zTb := zTb_in (zT4 (List.mem_of_getElem? (i := 97) (by decide +kernel))) rfl
theorem zm444 : Cond.instanceMethod (⟨"PretendDesk$Page", "add", "(II)I"⟩ : MethodName) ∈ zTb := zTb_in (zT4 (List.mem_of_getElem? (i := 95) (by decide +kernel))) rfl
theorem zm445 : Cond.selects "PretendDesk$Page" (⟨"PretendDesk$Page", "add", "(II)I"⟩ : MethodName) (⟨"PretendDesk$Page", "add", "(II)I"⟩ : MethodName) ∈ zTb := zTb_in (zT4 (List.mem_of_getElem? (i := 96) (by decide +kernel))) rfl
theorem zm446 : Cond.methodLink "PretendDesk$Tape" 113 (⟨"PretendDesk$Tape", "readNumber", "(I)I"⟩ : MethodName) ∈ zTb := zTb_in (zT4 (List.mem_of_getElem? (i := 106) (by decide +kernel))) rfl
theorem zm447 : Cond.code (⟨"PretendDesk$Tape", "readNumber", "(I)I"⟩ : MethodName) prog_11_method_17_code 3 (some (.int)) ∈ zTb := zTb_in (zT4 (List.mem_of_getElem? (i := 109) (by decide +kernel))) rfl
theorem zm448 : Cond.instanceMethod (⟨"PretendDesk$Tape", "readNumber", "(I)I"⟩ : MethodName) ∈ zTb := zTb_in (zT4 (List.mem_of_getElem? (i := 108) (by decide +kernel))) rfl
theorem zm449 : Cond.selects "PretendDesk$Tape" (⟨"PretendDesk$Tape", "readNumber", "(I)I"⟩ : MethodName) (⟨"PretendDesk$Tape", "readNumber", "(I)I"⟩ : MethodName) ∈ zTb := zTb_in (zT0 (List.mem_of_getElem? (i := 9) (by decide +kernel))) rfl
theorem zm450 : Cond.methodLink "PretendDesk$Tape" 117 (⟨"PretendDesk$Page", "tell", "(III)V"⟩ : MethodName) ∈ zTb := zTb_in (zT4 (List.mem_of_getElem? (i := 110) (by decide +kernel))) rfl
theorem zm451 : Cond.methodLink "PretendDesk$Tape" 109 (⟨"PretendDesk$Tape", "readHead", "(LPretendDesk$Page;I)V"⟩ : MethodName) ∈ zTb := zTb_in (zT4 (List.mem_of_getElem? (i := 102) (by decide +kernel))) rfl
theorem zm452 : Cond.code (⟨"PretendDesk$Tape", "readHead", "(LPretendDesk$Page;I)V"⟩ : MethodName) prog_11_method_12_code 6 none ∈ zTb := zTb_in (zT4 (List.mem_of_getElem? (i := 105) (by decide +kernel))) rfl
theorem zm453 : Cond.instanceMethod (⟨"PretendDesk$Tape", "readHead", "(LPretendDesk$Page;I)V"⟩ : MethodName) ∈ zTb := zTb_in (zT4 (List.mem_of_getElem? (i := 104) (by decide +kernel))) rfl
theorem zm454 : Cond.selects "PretendDesk$Tape" (⟨"PretendDesk$Tape", "readHead", "(LPretendDesk$Page;I)V"⟩ : MethodName) (⟨"PretendDesk$Tape", "readHead", "(LPretendDesk$Page;I)V"⟩ : MethodName) ∈ zTb := zTb_in (zT0 (List.mem_of_getElem? (i := 8) (by decide +kernel))) rfl
theorem zm455 : Cond.methodLink "PretendDesk$Tape" 95 (⟨"PretendDesk$Tape", "expect", "(I)V"⟩ : MethodName) ∈ zTb := zTb_in (zT4 (List.mem_of_getElem? (i := 111) (by decide +kernel))) rfl
theorem zm456 : Cond.code (⟨"PretendDesk$Tape", "expect", "(I)V"⟩ : MethodName) prog_11_method_18_code 2 none ∈ zTb := zTb_in (zT4 (List.mem_of_getElem? (i := 114) (by decide +kernel))) rfl
theorem zm457 : Cond.instanceMethod (⟨"PretendDesk$Tape", "expect", "(I)V"⟩ : MethodName) ∈ zTb := zTb_in (zT4 (List.mem_of_getElem? (i := 113) (by decide +kernel))) rfl
theorem zm458 : Cond.selects "PretendDesk$Tape" (⟨"PretendDesk$Tape", "expect", "(I)V"⟩ : MethodName) (⟨"PretendDesk$Tape", "expect", "(I)V"⟩ : MethodName) ∈ zTb := zTb_in (zT0 (List.mem_of_getElem? (i := 10) (by decide +kernel))) rfl
theorem zm459 : Cond.methodLink "PretendDesk$Tape" 88 (⟨"PretendDesk$Tape", "readBox", "(LPretendDesk$Page;I)I"⟩ : MethodName) ∈ zTb := zTb_in (zT4 (List.mem_of_getElem? (i := 86) (by decide +kernel))) rfl
theorem zm460 : Cond.code (⟨"PretendDesk$Tape", "readBox", "(LPretendDesk$Page;I)I"⟩ : MethodName) prog_11_method_11_code 4 (some (.int)) ∈ zTb := zTb_in (zT4 (List.mem_of_getElem? (i := 89) (by decide +kernel))) rfl
theorem zm461 : Cond.instanceMethod (⟨"PretendDesk$Tape", "readBox", "(LPretendDesk$Page;I)I"⟩ : MethodName) ∈ zTb := zTb_in (zT4 (List.mem_of_getElem? (i := 88) (by decide +kernel))) rfl
theorem zm462 : Cond.selects "PretendDesk$Tape" (⟨"PretendDesk$Tape", "readBox", "(LPretendDesk$Page;I)I"⟩ : MethodName) (⟨"PretendDesk$Tape", "readBox", "(LPretendDesk$Page;I)I"⟩ : MethodName) ∈ zTb := zTb_in (zT0 (List.mem_of_getElem? (i := 7) (by decide +kernel))) rfl
theorem zm463 : Cond.methodLink "PretendDesk$Tape" 125 (⟨"PretendDesk$Tape", "readKind", "()I"⟩ : MethodName) ∈ zTb := zTb_in (zT5 (List.mem_of_getElem? (i := 239) (by decide +kernel))) rfl
theorem zm464 : Cond.code (⟨"PretendDesk$Tape", "readKind", "()I"⟩ : MethodName) prog_11_method_15_code 2 (some (.int)) ∈ zTb := zTb_in (zT6 (List.mem_of_getElem? (i := 2) (by decide +kernel))) rfl
theorem zm465 : Cond.instanceMethod (⟨"PretendDesk$Tape", "readKind", "()I"⟩ : MethodName) ∈ zTb := zTb_in (zT6 (List.mem_of_getElem? (i := 1) (by decide +kernel))) rfl
theorem zm466 : Cond.selects "PretendDesk$Tape" (⟨"PretendDesk$Tape", "readKind", "()I"⟩ : MethodName) (⟨"PretendDesk$Tape", "readKind", "()I"⟩ : MethodName) ∈ zTb := zTb_in (zT0 (List.mem_of_getElem? (i := 35) (by decide +kernel))) rfl
theorem zm467 : Cond.methodLink "PretendDesk$Tape" 129 (⟨"PretendDesk$Tape", "readBehind", "(II)I"⟩ : MethodName) ∈ zTb := zTb_in (zT6 (List.mem_of_getElem? (i := 3) (by decide +kernel))) rfl
theorem zm468 : Cond.code (⟨"PretendDesk$Tape", "readBehind", "(II)I"⟩ : MethodName) prog_11_method_16_code 3 (some (.int)) ∈ zTb := zTb_in (zT6 (List.mem_of_getElem? (i := 6) (by decide +kernel))) rfl
theorem zm469 : Cond.instanceMethod (⟨"PretendDesk$Tape", "readBehind", "(II)I"⟩ : MethodName) ∈ zTb := zTb_in (zT6 (List.mem_of_getElem? (i := 5) (by decide +kernel))) rfl
theorem zm470 : Cond.selects "PretendDesk$Tape" (⟨"PretendDesk$Tape", "readBehind", "(II)I"⟩ : MethodName) (⟨"PretendDesk$Tape", "readBehind", "(II)I"⟩ : MethodName) ∈ zTb := zTb_in (zT0 (List.mem_of_getElem? (i := 36) (by decide +kernel))) rfl
theorem zm471 : Cond.methodLink "PretendDesk$Tape" 121 (⟨"PretendDesk$Tape", "readLine", "([II)V"⟩ : MethodName) ∈ zTb := zTb_in (zT5 (List.mem_of_getElem? (i := 235) (by decide +kernel))) rfl
theorem zm472 : Cond.code (⟨"PretendDesk$Tape", "readLine", "([II)V"⟩ : MethodName) prog_11_method_14_code 8 none ∈ zTb := zTb_in (zT5 (List.mem_of_getElem? (i := 238) (by decide +kernel))) rfl
theorem zm473 : Cond.instanceMethod (⟨"PretendDesk$Tape", "readLine", "([II)V"⟩ : MethodName) ∈ zTb := zTb_in (zT5 (List.mem_of_getElem? (i := 237) (by decide +kernel))) rfl
theorem zm474 : Cond.selects "PretendDesk$Tape" (⟨"PretendDesk$Tape", "readLine", "([II)V"⟩ : MethodName) (⟨"PretendDesk$Tape", "readLine", "([II)V"⟩ : MethodName) ∈ zTb := zTb_in (zT0 (List.mem_of_getElem? (i := 34) (by decide +kernel))) rfl
theorem zm475 : Cond.methodLink "PretendDesk$Told" 3 (⟨"java/lang/Object", "<init>", "()V"⟩ : MethodName) ∈ zTb := zTb_in (zT1 (List.mem_of_getElem? (i := 38) (by decide +kernel))) rfl
theorem zm476 : Cond.classLink "PretendDesk$Told" 9 "PretendDesk$Tape" ∈ zTb := zTb_in (zT1 (List.mem_of_getElem? (i := 39) (by decide +kernel))) rfl
theorem zm477 : Cond.instantiable "PretendDesk$Tape" 11 ∈ zTb := zTb_in (zT1 (List.mem_of_getElem? (i := 40) (by decide +kernel))) rfl
theorem zm478 : Cond.code (⟨"PretendDesk$Tape", "<init>", "()V"⟩ : MethodName) prog_11_method_1_code 1 none ∈ zTb := zTb_in (zT1 (List.mem_of_getElem? (i := 43) (by decide +kernel))) rfl
theorem zm479 : Cond.instanceMethod (⟨"PretendDesk$Tape", "<init>", "()V"⟩ : MethodName) ∈ zTb := zTb_in (zT1 (List.mem_of_getElem? (i := 42) (by decide +kernel))) rfl
theorem zm480 : Cond.fieldLink "PretendDesk$Told" 12 "PretendDesk$Told" "tape" "LPretendDesk$Tape;" ∈ zTb := zTb_in (zT2 (List.mem_of_getElem? (i := 11) (by decide +kernel))) rfl
theorem zm481 : Cond.classLink "PretendDesk$Told" 18 "PretendDesk$House" ∈ zTb := zTb_in (zT1 (List.mem_of_getElem? (i := 119) (by decide +kernel))) rfl
theorem zm482 : Cond.fieldLink "PretendDesk$Told" 20 "PretendDesk$Told" "house" "[LPretendDesk$House;" ∈ zTb := zTb_in (zT2 (List.mem_of_getElem? (i := 13) (by decide +kernel))) rfl
theorem zm483 : Cond.classLink "PretendDesk$Told" 24 "PretendDesk$Came" ∈ zTb := zTb_in (zT1 (List.mem_of_getElem? (i := 121) (by decide +kernel))) rfl
theorem zm484 : Cond.fieldLink "PretendDesk$Told" 26 "PretendDesk$Told" "came" "[LPretendDesk$Came;" ∈ zTb := zTb_in (zT2 (List.mem_of_getElem? (i := 16) (by decide +kernel))) rfl
theorem zm485 : Cond.classLink "PretendDesk$Told" 30 "PretendDesk$Speech" ∈ zTb := zTb_in (zT1 (List.mem_of_getElem? (i := 123) (by decide +kernel))) rfl
theorem zm486 : Cond.instantiable "PretendDesk$Speech" 9 ∈ zTb := zTb_in (zT1 (List.mem_of_getElem? (i := 124) (by decide +kernel))) rfl
theorem zm487 : Cond.code (⟨"PretendDesk$Speech", "<init>", "()V"⟩ : MethodName) prog_10_method_1_code 1 none ∈ zTb := zTb_in (zT1 (List.mem_of_getElem? (i := 127) (by decide +kernel))) rfl
theorem zm488 : Cond.instanceMethod (⟨"PretendDesk$Speech", "<init>", "()V"⟩ : MethodName) ∈ zTb := zTb_in (zT1 (List.mem_of_getElem? (i := 126) (by decide +kernel))) rfl
theorem zm489 : Cond.fieldLink "PretendDesk$Told" 33 "PretendDesk$Told" "speech" "LPretendDesk$Speech;" ∈ zTb := zTb_in (zT2 (List.mem_of_getElem? (i := 18) (by decide +kernel))) rfl
theorem zm490 : Cond.fieldLink "PretendDesk$Told" 37 "PretendDesk$Told" "casePage" "[I" ∈ zTb := zTb_in (zT2 (List.mem_of_getElem? (i := 20) (by decide +kernel))) rfl
theorem zm491 : Cond.fieldLink "PretendDesk$Told" 41 "PretendDesk$Told" "caseDay" "[I" ∈ zTb := zTb_in (zT2 (List.mem_of_getElem? (i := 22) (by decide +kernel))) rfl
theorem zm492 : Cond.fieldLink "PretendDesk$Told" 44 "PretendDesk$Told" "casePretends" "[Z" ∈ zTb := zTb_in (zT2 (List.mem_of_getElem? (i := 24) (by decide +kernel))) rfl
theorem zm493 : Cond.fieldLink "PretendDesk$Told" 48 "PretendDesk$Told" "worth" "[I" ∈ zTb := zTb_in (zT2 (List.mem_of_getElem? (i := 26) (by decide +kernel))) rfl
theorem zm494 : Cond.fieldLink "PretendDesk$Told" 51 "PretendDesk$Told" "alike" "[I" ∈ zTb := zTb_in (zT2 (List.mem_of_getElem? (i := 30) (by decide +kernel))) rfl
theorem zm495 : Cond.fieldLink "PretendDesk$Told" 54 "PretendDesk$Told" "relay" "[I" ∈ zTb := zTb_in (zT2 (List.mem_of_getElem? (i := 32) (by decide +kernel))) rfl
theorem zm496 : Cond.fieldLink "PretendDesk$Told" 57 "PretendDesk$Told" "owner" "[I" ∈ zTb := zTb_in (zT2 (List.mem_of_getElem? (i := 34) (by decide +kernel))) rfl
theorem zm497 : Cond.fieldLink "PretendDesk$Told" 60 "PretendDesk$Told" "markA" "I" ∈ zTb := zTb_in (zT2 (List.mem_of_getElem? (i := 43) (by decide +kernel))) rfl
theorem zm498 : Cond.fieldLink "PretendDesk$Told" 64 "PretendDesk$Told" "markB" "I" ∈ zTb := zTb_in (zT2 (List.mem_of_getElem? (i := 46) (by decide +kernel))) rfl
theorem zm499 : Cond.fieldLink "PretendDesk$Told" 67 "PretendDesk$Told" "markC" "I" ∈ zTb := zTb_in (zT2 (List.mem_of_getElem? (i := 49) (by decide +kernel))) rfl
theorem zm500 : Cond.instantiable "PretendDesk$House" 4 ∈ zTb := zTb_in (zT1 (List.mem_of_getElem? (i := 161) (by decide +kernel))) rfl
theorem zm501 : Cond.initialized "PretendDesk$House" ∈ zTb := zTb_in (zT1 (List.mem_of_getElem? (i := 9) (by decide +kernel))) rfl
theorem zm502 : Cond.methodLink "PretendDesk$Told" 70 (⟨"PretendDesk$House", "<init>", "()V"⟩ : MethodName) ∈ zTb := zTb_in (zT1 (List.mem_of_getElem? (i := 162) (by decide +kernel))) rfl
theorem zm503 : Cond.code (⟨"PretendDesk$House", "<init>", "()V"⟩ : MethodName) prog_5_method_1_code 2 none ∈ zTb := zTb_in (zT1 (List.mem_of_getElem? (i := 164) (by decide +kernel))) rfl
theorem zm504 : Cond.instanceMethod (⟨"PretendDesk$House", "<init>", "()V"⟩ : MethodName) ∈ zTb := zTb_in (zT1 (List.mem_of_getElem? (i := 163) (by decide +kernel))) rfl
theorem zm505 : Cond.instantiable "PretendDesk$Came" 9 ∈ zTb := zTb_in (zT1 (List.mem_of_getElem? (i := 204) (by decide +kernel))) rfl
theorem zm506 : Cond.code (⟨"PretendDesk$Came", "<init>", "()V"⟩ : MethodName) prog_3_method_1_code 1 none ∈ zTb := zTb_in (zT1 (List.mem_of_getElem? (i := 207) (by decide +kernel))) rfl
theorem zm507 : Cond.instanceMethod (⟨"PretendDesk$Came", "<init>", "()V"⟩ : MethodName) ∈ zTb := zTb_in (zT1 (List.mem_of_getElem? (i := 206) (by decide +kernel))) rfl
theorem zm508 : Cond.methodLink "PretendDesk$Told" 72 (⟨"PretendDesk$Tape", "copy", "(LPretendDesk$Tape;)V"⟩ : MethodName) ∈ zTb := zTb_in (zT6 (List.mem_of_getElem? (i := 154) (by decide +kernel))) rfl
theorem zm509 : Cond.code (⟨"PretendDesk$Tape", "copy", "(LPretendDesk$Tape;)V"⟩ : MethodName) prog_11_method_2_code 2 none ∈ zTb := zTb_in (zT6 (List.mem_of_getElem? (i := 157) (by decide +kernel))) rfl
theorem zm510 : Cond.instanceMethod (⟨"PretendDesk$Tape", "copy", "(LPretendDesk$Tape;)V"⟩ : MethodName) ∈ zTb := zTb_in (zT6 (List.mem_of_getElem? (i := 155) (by decide +kernel))) rfl
theorem zm511 : Cond.selects "PretendDesk$Tape" (⟨"PretendDesk$Tape", "copy", "(LPretendDesk$Tape;)V"⟩ : MethodName) (⟨"PretendDesk$Tape", "copy", "(LPretendDesk$Tape;)V"⟩ : MethodName) ∈ zTb := zTb_in (zT6 (List.mem_of_getElem? (i := 156) (by decide +kernel))) rfl
theorem zm512 : Cond.methodLink "PretendDesk$Told" 76 (⟨"PretendDesk$Speech", "copy", "(LPretendDesk$Speech;)V"⟩ : MethodName) ∈ zTb := zTb_in (zT6 (List.mem_of_getElem? (i := 159) (by decide +kernel))) rfl
theorem zm513 : Cond.code (⟨"PretendDesk$Speech", "copy", "(LPretendDesk$Speech;)V"⟩ : MethodName) prog_10_method_8_code 2 none ∈ zTb := zTb_in (zT6 (List.mem_of_getElem? (i := 162) (by decide +kernel))) rfl
theorem zm514 : Cond.instanceMethod (⟨"PretendDesk$Speech", "copy", "(LPretendDesk$Speech;)V"⟩ : MethodName) ∈ zTb := zTb_in (zT6 (List.mem_of_getElem? (i := 160) (by decide +kernel))) rfl
theorem zm515 : Cond.selects "PretendDesk$Speech" (⟨"PretendDesk$Speech", "copy", "(LPretendDesk$Speech;)V"⟩ : MethodName) (⟨"PretendDesk$Speech", "copy", "(LPretendDesk$Speech;)V"⟩ : MethodName) ∈ zTb := zTb_in (zT6 (List.mem_of_getElem? (i := 161) (by decide +kernel))) rfl
theorem zm516 : Cond.methodLink "PretendDesk$Told" 79 (⟨"PretendDesk$House", "copy", "(LPretendDesk$House;)V"⟩ : MethodName) ∈ zTb := zTb_in (zT6 (List.mem_of_getElem? (i := 163) (by decide +kernel))) rfl
theorem zm517 : Cond.code (⟨"PretendDesk$House", "copy", "(LPretendDesk$House;)V"⟩ : MethodName) prog_5_method_2_code 3 none ∈ zTb := zTb_in (zT6 (List.mem_of_getElem? (i := 166) (by decide +kernel))) rfl
theorem zm518 : Cond.instanceMethod (⟨"PretendDesk$House", "copy", "(LPretendDesk$House;)V"⟩ : MethodName) ∈ zTb := zTb_in (zT6 (List.mem_of_getElem? (i := 164) (by decide +kernel))) rfl
theorem zm519 : Cond.selects "PretendDesk$House" (⟨"PretendDesk$House", "copy", "(LPretendDesk$House;)V"⟩ : MethodName) (⟨"PretendDesk$House", "copy", "(LPretendDesk$House;)V"⟩ : MethodName) ∈ zTb := zTb_in (zT6 (List.mem_of_getElem? (i := 165) (by decide +kernel))) rfl
theorem zm520 : Cond.methodLink "PretendDesk$Told" 85 (⟨"java/lang/System", "arraycopy", "(Ljava/lang/Object;ILjava/lang/Object;II)V"⟩ : MethodName) ∈ zTb := zTb_in (zT6 (List.mem_of_getElem? (i := 174) (by decide +kernel))) rfl
theorem zm521 : Cond.methodLink "PretendDesk$Told" 82 (⟨"PretendDesk$Came", "copy", "(LPretendDesk$Came;)V"⟩ : MethodName) ∈ zTb := zTb_in (zT6 (List.mem_of_getElem? (i := 168) (by decide +kernel))) rfl
theorem zm522 : Cond.code (⟨"PretendDesk$Came", "copy", "(LPretendDesk$Came;)V"⟩ : MethodName) prog_3_method_5_code 2 none ∈ zTb := zTb_in (zT6 (List.mem_of_getElem? (i := 171) (by decide +kernel))) rfl
theorem zm523 : Cond.instanceMethod (⟨"PretendDesk$Came", "copy", "(LPretendDesk$Came;)V"⟩ : MethodName) ∈ zTb := zTb_in (zT6 (List.mem_of_getElem? (i := 169) (by decide +kernel))) rfl
theorem zm524 : Cond.selects "PretendDesk$Came" (⟨"PretendDesk$Came", "copy", "(LPretendDesk$Came;)V"⟩ : MethodName) (⟨"PretendDesk$Came", "copy", "(LPretendDesk$Came;)V"⟩ : MethodName) ∈ zTb := zTb_in (zT6 (List.mem_of_getElem? (i := 170) (by decide +kernel))) rfl
theorem zm525 : Cond.fieldLink "PretendDesk$Told" 91 "PretendDesk$Told" "houses" "I" ∈ zTb := zTb_in (zT2 (List.mem_of_getElem? (i := 36) (by decide +kernel))) rfl
theorem zm526 : Cond.fieldLink "PretendDesk$Told" 94 "PretendDesk$Told" "pages" "I" ∈ zTb := zTb_in (zT2 (List.mem_of_getElem? (i := 39) (by decide +kernel))) rfl
theorem zm527 : Cond.fieldLink "PretendDesk$Told" 97 "PretendDesk$Told" "cases" "I" ∈ zTb := zTb_in (zT2 (List.mem_of_getElem? (i := 41) (by decide +kernel))) rfl
theorem zm528 : Cond.methodLink "PretendDesk" 3 (⟨"java/lang/Object", "<init>", "()V"⟩ : MethodName) ∈ zTb := zTb_in (zT1 (List.mem_of_getElem? (i := 30) (by decide +kernel))) rfl
theorem zm529 : Cond.classLink "PretendDesk" 9 "PretendDesk$Told" ∈ zTb := zTb_in (zT1 (List.mem_of_getElem? (i := 33) (by decide +kernel))) rfl
theorem zm530 : Cond.instantiable "PretendDesk$Told" 17 ∈ zTb := zTb_in (zT1 (List.mem_of_getElem? (i := 34) (by decide +kernel))) rfl
theorem zm531 : Cond.initialized "PretendDesk$Told" ∈ zTb := zTb_in (zT1 (List.mem_of_getElem? (i := 2) (by decide +kernel))) rfl
theorem zm532 : Cond.methodLink "PretendDesk" 11 (⟨"PretendDesk$Told", "<init>", "()V"⟩ : MethodName) ∈ zTb := zTb_in (zT1 (List.mem_of_getElem? (i := 35) (by decide +kernel))) rfl
theorem zm533 : Cond.code (⟨"PretendDesk$Told", "<init>", "()V"⟩ : MethodName) prog_12_method_1_code 2 none ∈ zTb := zTb_in (zT1 (List.mem_of_getElem? (i := 37) (by decide +kernel))) rfl
theorem zm534 : Cond.instanceMethod (⟨"PretendDesk$Told", "<init>", "()V"⟩ : MethodName) ∈ zTb := zTb_in (zT1 (List.mem_of_getElem? (i := 36) (by decide +kernel))) rfl
theorem zm535 : Cond.fieldLink "PretendDesk" 12 "PretendDesk" "now" "LPretendDesk$Told;" ∈ zTb := zTb_in (zT3 (List.mem_of_getElem? (i := 17) (by decide +kernel))) rfl
theorem zm536 : Cond.fieldLink "PretendDesk" 16 "PretendDesk" "images" "[LPretendDesk$Told;" ∈ zTb := zTb_in (zT3 (List.mem_of_getElem? (i := 18) (by decide +kernel))) rfl
theorem zm537 : Cond.classLink "PretendDesk" 20 "PretendDesk$Room" ∈ zTb := zTb_in (zT2 (List.mem_of_getElem? (i := 88) (by decide +kernel))) rfl
theorem zm538 : Cond.instantiable "PretendDesk$Room" 7 ∈ zTb := zTb_in (zT2 (List.mem_of_getElem? (i := 89) (by decide +kernel))) rfl
theorem zm539 : Cond.methodLink "PretendDesk" 22 (⟨"PretendDesk$Room", "<init>", "(LPretendDesk$Told;)V"⟩ : MethodName) ∈ zTb := zTb_in (zT2 (List.mem_of_getElem? (i := 90) (by decide +kernel))) rfl
theorem zm540 : Cond.code (⟨"PretendDesk$Room", "<init>", "(LPretendDesk$Told;)V"⟩ : MethodName) prog_8_method_1_code 2 none ∈ zTb := zTb_in (zT2 (List.mem_of_getElem? (i := 92) (by decide +kernel))) rfl
theorem zm541 : Cond.instanceMethod (⟨"PretendDesk$Room", "<init>", "(LPretendDesk$Told;)V"⟩ : MethodName) ∈ zTb := zTb_in (zT2 (List.mem_of_getElem? (i := 91) (by decide +kernel))) rfl
theorem zm542 : Cond.fieldLink "PretendDesk" 25 "PretendDesk" "room" "LPretendDesk$Room;" ∈ zTb := zTb_in (zT3 (List.mem_of_getElem? (i := 19) (by decide +kernel))) rfl
theorem zm543 : Cond.classLink "PretendDesk" 29 "PretendDesk$Forger" ∈ zTb := zTb_in (zT2 (List.mem_of_getElem? (i := 152) (by decide +kernel))) rfl
theorem zm544 : Cond.instantiable "PretendDesk$Forger" 7 ∈ zTb := zTb_in (zT2 (List.mem_of_getElem? (i := 153) (by decide +kernel))) rfl
theorem zm545 : Cond.methodLink "PretendDesk" 31 (⟨"PretendDesk$Forger", "<init>", "(LPretendDesk$Told;LPretendDesk$Room;)V"⟩ : MethodName) ∈ zTb := zTb_in (zT2 (List.mem_of_getElem? (i := 154) (by decide +kernel))) rfl
theorem zm546 : Cond.code (⟨"PretendDesk$Forger", "<init>", "(LPretendDesk$Told;LPretendDesk$Room;)V"⟩ : MethodName) prog_4_method_1_code 3 none ∈ zTb := zTb_in (zT2 (List.mem_of_getElem? (i := 156) (by decide +kernel))) rfl
theorem zm547 : Cond.instanceMethod (⟨"PretendDesk$Forger", "<init>", "(LPretendDesk$Told;LPretendDesk$Room;)V"⟩ : MethodName) ∈ zTb := zTb_in (zT2 (List.mem_of_getElem? (i := 155) (by decide +kernel))) rfl
theorem zm548 : Cond.fieldLink "PretendDesk" 34 "PretendDesk" "forger" "LPretendDesk$Forger;" ∈ zTb := zTb_in (zT3 (List.mem_of_getElem? (i := 20) (by decide +kernel))) rfl
theorem zm549 : Cond.classLink "PretendDesk" 38 "PretendDesk$Best" ∈ zTb := zTb_in (zT2 (List.mem_of_getElem? (i := 185) (by decide +kernel))) rfl
theorem zm550 : Cond.instantiable "PretendDesk$Best" 14 ∈ zTb := zTb_in (zT2 (List.mem_of_getElem? (i := 186) (by decide +kernel))) rfl
theorem zm551 : Cond.code (⟨"PretendDesk$Best", "<init>", "()V"⟩ : MethodName) prog_2_method_1_code 1 none ∈ zTb := zTb_in (zT2 (List.mem_of_getElem? (i := 189) (by decide +kernel))) rfl
theorem zm552 : Cond.instanceMethod (⟨"PretendDesk$Best", "<init>", "()V"⟩ : MethodName) ∈ zTb := zTb_in (zT2 (List.mem_of_getElem? (i := 188) (by decide +kernel))) rfl
theorem zm553 : Cond.fieldLink "PretendDesk" 41 "PretendDesk" "best" "LPretendDesk$Best;" ∈ zTb := zTb_in (zT3 (List.mem_of_getElem? (i := 21) (by decide +kernel))) rfl
theorem zm554 : Cond.classLink "PretendDesk" 45 "PretendDesk$Runner" ∈ zTb := zTb_in (zT2 (List.mem_of_getElem? (i := 234) (by decide +kernel))) rfl
theorem zm555 : Cond.instantiable "PretendDesk$Runner" 4 ∈ zTb := zTb_in (zT2 (List.mem_of_getElem? (i := 235) (by decide +kernel))) rfl
theorem zm556 : Cond.code (⟨"PretendDesk$Runner", "<init>", "()V"⟩ : MethodName) prog_9_method_1_code 1 none ∈ zTb := zTb_in (zT2 (List.mem_of_getElem? (i := 238) (by decide +kernel))) rfl
theorem zm557 : Cond.instanceMethod (⟨"PretendDesk$Runner", "<init>", "()V"⟩ : MethodName) ∈ zTb := zTb_in (zT2 (List.mem_of_getElem? (i := 237) (by decide +kernel))) rfl
theorem zm558 : Cond.fieldLink "PretendDesk" 48 "PretendDesk" "runner" "LPretendDesk$Runner;" ∈ zTb := zTb_in (zT3 (List.mem_of_getElem? (i := 22) (by decide +kernel))) rfl
theorem zm559 : Cond.classLink "PretendDesk" 52 "PretendDesk$Page" ∈ zTb := zTb_in (zT3 (List.mem_of_getElem? (i := 15) (by decide +kernel))) rfl
theorem zm560 : Cond.fieldLink "PretendDesk" 55 "PretendDesk" "freshPage" "LPretendDesk$Page;" ∈ zTb := zTb_in (zT3 (List.mem_of_getElem? (i := 23) (by decide +kernel))) rfl
theorem zm561 : Cond.fieldLink "PretendDesk" 59 "PretendDesk" "freshLines" "[I" ∈ zTb := zTb_in (zT3 (List.mem_of_getElem? (i := 24) (by decide +kernel))) rfl
theorem zm562 : Cond.fieldLink "PretendDesk" 63 "PretendDesk" "prices" "[I" ∈ zTb := zTb_in (zT3 (List.mem_of_getElem? (i := 25) (by decide +kernel))) rfl
theorem zm563 : Cond.fieldLink "PretendDesk" 66 "PretendDesk" "heard" "[I" ∈ zTb := zTb_in (zT3 (List.mem_of_getElem? (i := 26) (by decide +kernel))) rfl
theorem zm564 : Cond.fieldLink "PretendDesk" 69 "PretendDesk$Told" "tape" "LPretendDesk$Tape;" ∈ zTb := zTb_in (zT2 (List.mem_of_getElem? (i := 12) (by decide +kernel))) rfl
theorem zm565 : Cond.fieldLink "PretendDesk" 73 "PretendDesk$Tape" "length" "I" ∈ zTb := zTb_in (zT1 (List.mem_of_getElem? (i := 82) (by decide +kernel))) rfl
theorem zm566 : Cond.methodLink "PretendDesk" 79 (⟨"PretendDesk$Tape", "put", "(I)V"⟩ : MethodName) ∈ zTb := zTb_in (zT3 (List.mem_of_getElem? (i := 52) (by decide +kernel))) rfl
theorem zm567 : Cond.code (⟨"PretendDesk$Tape", "put", "(I)V"⟩ : MethodName) prog_11_method_3_code 3 none ∈ zTb := zTb_in (zT3 (List.mem_of_getElem? (i := 55) (by decide +kernel))) rfl
theorem zm568 : Cond.instanceMethod (⟨"PretendDesk$Tape", "put", "(I)V"⟩ : MethodName) ∈ zTb := zTb_in (zT3 (List.mem_of_getElem? (i := 53) (by decide +kernel))) rfl
theorem zm569 : Cond.selects "PretendDesk$Tape" (⟨"PretendDesk$Tape", "put", "(I)V"⟩ : MethodName) (⟨"PretendDesk$Tape", "put", "(I)V"⟩ : MethodName) ∈ zTb := zTb_in (zT3 (List.mem_of_getElem? (i := 54) (by decide +kernel))) rfl
theorem zm570 : Cond.fieldLink "PretendDesk" 83 "PretendDesk$Told" "houses" "I" ∈ zTb := zTb_in (zT2 (List.mem_of_getElem? (i := 37) (by decide +kernel))) rfl
theorem zm571 : Cond.methodLink "PretendDesk" 89 (⟨"PretendDesk$Tape", "takeRow", "(IZ)Z"⟩ : MethodName) ∈ zTb := zTb_in (zT3 (List.mem_of_getElem? (i := 68) (by decide +kernel))) rfl
theorem zm572 : Cond.code (⟨"PretendDesk$Tape", "takeRow", "(IZ)Z"⟩ : MethodName) prog_11_method_7_code 5 (some (.boolean)) ∈ zTb := zTb_in (zT3 (List.mem_of_getElem? (i := 71) (by decide +kernel))) rfl
theorem zm573 : Cond.instanceMethod (⟨"PretendDesk$Tape", "takeRow", "(IZ)Z"⟩ : MethodName) ∈ zTb := zTb_in (zT3 (List.mem_of_getElem? (i := 69) (by decide +kernel))) rfl
theorem zm574 : Cond.selects "PretendDesk$Tape" (⟨"PretendDesk$Tape", "takeRow", "(IZ)Z"⟩ : MethodName) (⟨"PretendDesk$Tape", "takeRow", "(IZ)Z"⟩ : MethodName) ∈ zTb := zTb_in (zT3 (List.mem_of_getElem? (i := 70) (by decide +kernel))) rfl
theorem zm575 : Cond.fieldLink "PretendDesk" 93 "PretendDesk$Told" "house" "[LPretendDesk$House;" ∈ zTb := zTb_in (zT2 (List.mem_of_getElem? (i := 14) (by decide +kernel))) rfl
theorem zm576 : Cond.methodLink "PretendDesk" 97 (⟨"PretendDesk$Tape", "row", "()Ljava/lang/String;"⟩ : MethodName) ∈ zTb := zTb_in (zT3 (List.mem_of_getElem? (i := 87) (by decide +kernel))) rfl
theorem zm577 : Cond.code (⟨"PretendDesk$Tape", "row", "()Ljava/lang/String;"⟩ : MethodName) prog_11_method_8_code 2 (some (.object "java/lang/String")) ∈ zTb := zTb_in (zT3 (List.mem_of_getElem? (i := 90) (by decide +kernel))) rfl
theorem zm578 : Cond.instanceMethod (⟨"PretendDesk$Tape", "row", "()Ljava/lang/String;"⟩ : MethodName) ∈ zTb := zTb_in (zT3 (List.mem_of_getElem? (i := 88) (by decide +kernel))) rfl
theorem zm579 : Cond.selects "PretendDesk$Tape" (⟨"PretendDesk$Tape", "row", "()Ljava/lang/String;"⟩ : MethodName) (⟨"PretendDesk$Tape", "row", "()Ljava/lang/String;"⟩ : MethodName) ∈ zTb := zTb_in (zT3 (List.mem_of_getElem? (i := 89) (by decide +kernel))) rfl
theorem zm580 : Cond.fieldLink "PretendDesk" 101 "PretendDesk$House" "name" "Ljava/lang/String;" ∈ zTb := zTb_in (zT1 (List.mem_of_getElem? (i := 188) (by decide +kernel))) rfl
theorem zm581 : Cond.methodLink "PretendDesk" 86 (⟨"PretendDesk$Tape", "take", "()V"⟩ : MethodName) ∈ zTb := zTb_in (zT3 (List.mem_of_getElem? (i := 64) (by decide +kernel))) rfl
theorem zm582 : Cond.fieldLink "PretendDesk" 136 "PretendDesk$Told" "pages" "I" ∈ zTb := zTb_in (zT2 (List.mem_of_getElem? (i := 40) (by decide +kernel))) rfl
theorem zm583 : Cond.methodLink "PretendDesk" 107 (⟨"PretendDesk", "isPage", "(I)Z"⟩ : MethodName) ∈ zTb := zTb_in (zT4 (List.mem_of_getElem? (i := 31) (by decide +kernel))) rfl
theorem zm584 : Cond.code (⟨"PretendDesk", "isPage", "(I)Z"⟩ : MethodName) prog_1_method_76_code 2 (some (.boolean)) ∈ zTb := zTb_in (zT4 (List.mem_of_getElem? (i := 34) (by decide +kernel))) rfl
theorem zm585 : Cond.instanceMethod (⟨"PretendDesk", "isPage", "(I)Z"⟩ : MethodName) ∈ zTb := zTb_in (zT4 (List.mem_of_getElem? (i := 33) (by decide +kernel))) rfl
theorem zm586 : Cond.selects "PretendDesk" (⟨"PretendDesk", "isPage", "(I)Z"⟩ : MethodName) (⟨"PretendDesk", "isPage", "(I)Z"⟩ : MethodName) ∈ zTb := zTb_in (zT0 (List.mem_of_getElem? (i := 2) (by decide +kernel))) rfl
theorem zm587 : Cond.fieldLink "PretendDesk" 111 "PretendDesk$Told" "came" "[LPretendDesk$Came;" ∈ zTb := zTb_in (zT2 (List.mem_of_getElem? (i := 17) (by decide +kernel))) rfl
theorem zm588 : Cond.fieldLink "PretendDesk" 115 "PretendDesk$Came" "name" "Ljava/lang/String;" ∈ zTb := zTb_in (zT1 (List.mem_of_getElem? (i := 220) (by decide +kernel))) rfl
theorem zm589 : Cond.methodLink "PretendDesk" 118 (⟨"PretendDesk", "isHouse", "(I)Z"⟩ : MethodName) ∈ zTb := zTb_in (zT4 (List.mem_of_getElem? (i := 39) (by decide +kernel))) rfl
theorem zm590 : Cond.code (⟨"PretendDesk", "isHouse", "(I)Z"⟩ : MethodName) prog_1_method_77_code 2 (some (.boolean)) ∈ zTb := zTb_in (zT4 (List.mem_of_getElem? (i := 42) (by decide +kernel))) rfl
theorem zm591 : Cond.instanceMethod (⟨"PretendDesk", "isHouse", "(I)Z"⟩ : MethodName) ∈ zTb := zTb_in (zT4 (List.mem_of_getElem? (i := 41) (by decide +kernel))) rfl
theorem zm592 : Cond.selects "PretendDesk" (⟨"PretendDesk", "isHouse", "(I)Z"⟩ : MethodName) (⟨"PretendDesk", "isHouse", "(I)Z"⟩ : MethodName) ∈ zTb := zTb_in (zT0 (List.mem_of_getElem? (i := 3) (by decide +kernel))) rfl
theorem zm593 : Cond.fieldLink "PretendDesk" 121 "PretendDesk$House" "owned" "I" ∈ zTb := zTb_in (zT1 (List.mem_of_getElem? (i := 192) (by decide +kernel))) rfl
theorem zm594 : Cond.methodLink "PretendDesk" 124 (⟨"PretendDesk$Tape", "takePage", "(LPretendDesk$Page;)Z"⟩ : MethodName) ∈ zTb := zTb_in (zT4 (List.mem_of_getElem? (i := 43) (by decide +kernel))) rfl
theorem zm595 : Cond.code (⟨"PretendDesk$Tape", "takePage", "(LPretendDesk$Page;)Z"⟩ : MethodName) prog_11_method_10_code 4 (some (.boolean)) ∈ zTb := zTb_in (zT4 (List.mem_of_getElem? (i := 46) (by decide +kernel))) rfl
theorem zm596 : Cond.instanceMethod (⟨"PretendDesk$Tape", "takePage", "(LPretendDesk$Page;)Z"⟩ : MethodName) ∈ zTb := zTb_in (zT4 (List.mem_of_getElem? (i := 44) (by decide +kernel))) rfl
theorem zm597 : Cond.selects "PretendDesk$Tape" (⟨"PretendDesk$Tape", "takePage", "(LPretendDesk$Page;)Z"⟩ : MethodName) (⟨"PretendDesk$Tape", "takePage", "(LPretendDesk$Page;)Z"⟩ : MethodName) ∈ zTb := zTb_in (zT4 (List.mem_of_getElem? (i := 45) (by decide +kernel))) rfl
theorem zm598 : Cond.fieldLink "PretendDesk" 128 "PretendDesk$House" "page" "[LPretendDesk$Page;" ∈ zTb := zTb_in (zT1 (List.mem_of_getElem? (i := 186) (by decide +kernel))) rfl
theorem zm599 : Cond.methodLink "PretendDesk" 132 (⟨"PretendDesk$Page", "copy", "(LPretendDesk$Page;)V"⟩ : MethodName) ∈ zTb := zTb_in (zT4 (List.mem_of_getElem? (i := 115) (by decide +kernel))) rfl
theorem zm600 : Cond.fieldLink "PretendDesk" 139 "PretendDesk$Came" "text" "LPretendDesk$Page;" ∈ zTb := zTb_in (zT1 (List.mem_of_getElem? (i := 213) (by decide +kernel))) rfl
theorem zm601 : Cond.fieldLink "PretendDesk" 145 "PretendDesk$Tape" "faultPlace" "I" ∈ zTb := zTb_in (zT1 (List.mem_of_getElem? (i := 87) (by decide +kernel))) rfl
theorem zm602 : Cond.fieldLink "PretendDesk" 142 "PretendDesk$Tape" "fault" "I" ∈ zTb := zTb_in (zT1 (List.mem_of_getElem? (i := 85) (by decide +kernel))) rfl
theorem zm603 : Cond.methodLink "PretendDesk" 148 (⟨"PretendDesk", "signNumber", "(I)I"⟩ : MethodName) ∈ zTb := zTb_in (zT4 (List.mem_of_getElem? (i := 132) (by decide +kernel))) rfl
theorem zm604 : Cond.code (⟨"PretendDesk", "signNumber", "(I)I"⟩ : MethodName) prog_1_method_14_code 1 (some (.int)) ∈ zTb := zTb_in (zT4 (List.mem_of_getElem? (i := 134) (by decide +kernel))) rfl
theorem zm605 : Cond.static (⟨"PretendDesk", "signNumber", "(I)I"⟩ : MethodName) ∈ zTb := zTb_in (zT4 (List.mem_of_getElem? (i := 133) (by decide +kernel))) rfl
theorem zm606 : Cond.fieldLink "PretendDesk" 152 "PretendDesk$Told" "alike" "[I" ∈ zTb := zTb_in (zT2 (List.mem_of_getElem? (i := 31) (by decide +kernel))) rfl
theorem zm607 : Cond.methodLink "PretendDesk" 159 (⟨"java/lang/String", "length", "()I"⟩ : MethodName) ∈ zTb := zTb_in (zT4 (List.mem_of_getElem? (i := 143) (by decide +kernel))) rfl
theorem zm608 : Cond.methodLink "PretendDesk" 164 (⟨"java/lang/Math", "min", "(II)I"⟩ : MethodName) ∈ zTb := zTb_in (zT4 (List.mem_of_getElem? (i := 144) (by decide +kernel))) rfl
theorem zm609 : Cond.methodLink "PretendDesk" 174 (⟨"java/lang/String", "charAt", "(I)C"⟩ : MethodName) ∈ zTb := zTb_in (zT4 (List.mem_of_getElem? (i := 149) (by decide +kernel))) rfl
theorem zm610 : Cond.methodLink "PretendDesk" 178 (⟨"PretendDesk", "signPrice", "(II)I"⟩ : MethodName) ∈ zTb := zTb_in (zT4 (List.mem_of_getElem? (i := 150) (by decide +kernel))) rfl
theorem zm611 : Cond.code (⟨"PretendDesk", "signPrice", "(II)I"⟩ : MethodName) prog_1_method_13_code 5 (some (.int)) ∈ zTb := zTb_in (zT4 (List.mem_of_getElem? (i := 153) (by decide +kernel))) rfl
theorem zm612 : Cond.instanceMethod (⟨"PretendDesk", "signPrice", "(II)I"⟩ : MethodName) ∈ zTb := zTb_in (zT4 (List.mem_of_getElem? (i := 152) (by decide +kernel))) rfl
theorem zm613 : Cond.selects "PretendDesk" (⟨"PretendDesk", "signPrice", "(II)I"⟩ : MethodName) (⟨"PretendDesk", "signPrice", "(II)I"⟩ : MethodName) ∈ zTb := zTb_in (zT0 (List.mem_of_getElem? (i := 13) (by decide +kernel))) rfl
theorem zm614 : Cond.methodLink "PretendDesk" 170 (⟨"PretendDesk", "leastSpelled", "(Ljava/lang/String;ILjava/lang/String;I)I"⟩ : MethodName) ∈ zTb := zTb_in (zT4 (List.mem_of_getElem? (i := 145) (by decide +kernel))) rfl
theorem zm615 : Cond.code (⟨"PretendDesk", "leastSpelled", "(Ljava/lang/String;ILjava/lang/String;I)I"⟩ : MethodName) prog_1_method_12_code 9 (some (.int)) ∈ zTb := zTb_in (zT4 (List.mem_of_getElem? (i := 148) (by decide +kernel))) rfl
theorem zm616 : Cond.instanceMethod (⟨"PretendDesk", "leastSpelled", "(Ljava/lang/String;ILjava/lang/String;I)I"⟩ : MethodName) ∈ zTb := zTb_in (zT4 (List.mem_of_getElem? (i := 147) (by decide +kernel))) rfl
theorem zm617 : Cond.selects "PretendDesk" (⟨"PretendDesk", "leastSpelled", "(Ljava/lang/String;ILjava/lang/String;I)I"⟩ : MethodName) (⟨"PretendDesk", "leastSpelled", "(Ljava/lang/String;ILjava/lang/String;I)I"⟩ : MethodName) ∈ zTb := zTb_in (zT0 (List.mem_of_getElem? (i := 12) (by decide +kernel))) rfl
theorem zm618 : Cond.methodLink "PretendDesk" 155 (⟨"PretendDesk", "spelled", "(Ljava/lang/String;Ljava/lang/String;)I"⟩ : MethodName) ∈ zTb := zTb_in (zT4 (List.mem_of_getElem? (i := 139) (by decide +kernel))) rfl
theorem zm619 : Cond.code (⟨"PretendDesk", "spelled", "(Ljava/lang/String;Ljava/lang/String;)I"⟩ : MethodName) prog_1_method_11_code 7 (some (.int)) ∈ zTb := zTb_in (zT4 (List.mem_of_getElem? (i := 142) (by decide +kernel))) rfl
theorem zm620 : Cond.instanceMethod (⟨"PretendDesk", "spelled", "(Ljava/lang/String;Ljava/lang/String;)I"⟩ : MethodName) ∈ zTb := zTb_in (zT4 (List.mem_of_getElem? (i := 141) (by decide +kernel))) rfl
theorem zm621 : Cond.selects "PretendDesk" (⟨"PretendDesk", "spelled", "(Ljava/lang/String;Ljava/lang/String;)I"⟩ : MethodName) (⟨"PretendDesk", "spelled", "(Ljava/lang/String;Ljava/lang/String;)I"⟩ : MethodName) ∈ zTb := zTb_in (zT0 (List.mem_of_getElem? (i := 11) (by decide +kernel))) rfl
theorem zm622 : Cond.methodLink "PretendDesk" 181 (⟨"PretendDesk", "isDay", "(I)Z"⟩ : MethodName) ∈ zTb := zTb_in (zT4 (List.mem_of_getElem? (i := 158) (by decide +kernel))) rfl
theorem zm623 : Cond.code (⟨"PretendDesk", "isDay", "(I)Z"⟩ : MethodName) prog_1_method_79_code 1 (some (.boolean)) ∈ zTb := zTb_in (zT4 (List.mem_of_getElem? (i := 160) (by decide +kernel))) rfl
theorem zm624 : Cond.static (⟨"PretendDesk", "isDay", "(I)Z"⟩ : MethodName) ∈ zTb := zTb_in (zT4 (List.mem_of_getElem? (i := 159) (by decide +kernel))) rfl
theorem zm625 : Cond.constant "PretendDesk" 184 (1048576 : Int32) ∈ zTb := zTb_in (zT4 (List.mem_of_getElem? (i := 161) (by decide +kernel))) rfl
theorem zm626 : Cond.fieldLink "PretendDesk" 185 "PretendDesk$Came" "since" "I" ∈ zTb := zTb_in (zT1 (List.mem_of_getElem? (i := 222) (by decide +kernel))) rfl
theorem zm627 : Cond.fieldLink "PretendDesk" 188 "PretendDesk$Came" "pieces" "I" ∈ zTb := zTb_in (zT1 (List.mem_of_getElem? (i := 224) (by decide +kernel))) rfl
theorem zm628 : Cond.fieldLink "PretendDesk" 191 "PretendDesk$Told" "worth" "[I" ∈ zTb := zTb_in (zT2 (List.mem_of_getElem? (i := 29) (by decide +kernel))) rfl
theorem zm629 : Cond.fieldLink "PretendDesk" 194 "PretendDesk$Told" "markA" "I" ∈ zTb := zTb_in (zT2 (List.mem_of_getElem? (i := 45) (by decide +kernel))) rfl
theorem zm630 : Cond.fieldLink "PretendDesk" 197 "PretendDesk$Told" "markB" "I" ∈ zTb := zTb_in (zT2 (List.mem_of_getElem? (i := 48) (by decide +kernel))) rfl
theorem zm631 : Cond.fieldLink "PretendDesk" 200 "PretendDesk$Told" "markC" "I" ∈ zTb := zTb_in (zT2 (List.mem_of_getElem? (i := 51) (by decide +kernel))) rfl
theorem zm632 : Cond.methodLink "PretendDesk" 272 (⟨"PretendDesk", "isLand", "(I)Z"⟩ : MethodName) ∈ zTb := zTb_in (zT4 (List.mem_of_getElem? (i := 177) (by decide +kernel))) rfl
theorem zm633 : Cond.code (⟨"PretendDesk", "isLand", "(I)Z"⟩ : MethodName) prog_1_method_78_code 1 (some (.boolean)) ∈ zTb := zTb_in (zT4 (List.mem_of_getElem? (i := 179) (by decide +kernel))) rfl
theorem zm634 : Cond.static (⟨"PretendDesk", "isLand", "(I)Z"⟩ : MethodName) ∈ zTb := zTb_in (zT4 (List.mem_of_getElem? (i := 178) (by decide +kernel))) rfl
theorem zm635 : Cond.methodLink "PretendDesk" 203 (⟨"PretendDesk", "isPerson", "(II)Z"⟩ : MethodName) ∈ zTb := zTb_in (zT4 (List.mem_of_getElem? (i := 174) (by decide +kernel))) rfl
theorem zm636 : Cond.code (⟨"PretendDesk", "isPerson", "(II)Z"⟩ : MethodName) prog_1_method_80_code 2 (some (.boolean)) ∈ zTb := zTb_in (zT4 (List.mem_of_getElem? (i := 176) (by decide +kernel))) rfl
theorem zm637 : Cond.static (⟨"PretendDesk", "isPerson", "(II)Z"⟩ : MethodName) ∈ zTb := zTb_in (zT4 (List.mem_of_getElem? (i := 175) (by decide +kernel))) rfl
theorem zm638 : Cond.fieldLink "PretendDesk" 207 "PretendDesk$Room" "mine" "LPretendDesk$Opened;" ∈ zTb := zTb_in (zT2 (List.mem_of_getElem? (i := 125) (by decide +kernel))) rfl
theorem zm639 : Cond.methodLink "PretendDesk" 211 (⟨"PretendDesk$Opened", "open", "(LPretendDesk$Page;II)V"⟩ : MethodName) ∈ zTb := zTb_in (zT4 (List.mem_of_getElem? (i := 180) (by decide +kernel))) rfl
theorem zm640 : Cond.methodLink "PretendDesk" 217 (⟨"PretendDesk$Opened", "shown", "()I"⟩ : MethodName) ∈ zTb := zTb_in (zT4 (List.mem_of_getElem? (i := 202) (by decide +kernel))) rfl
theorem zm641 : Cond.code (⟨"PretendDesk$Opened", "shown", "()I"⟩ : MethodName) prog_6_method_5_code 1 (some (.int)) ∈ zTb := zTb_in (zT4 (List.mem_of_getElem? (i := 205) (by decide +kernel))) rfl
theorem zm642 : Cond.instanceMethod (⟨"PretendDesk$Opened", "shown", "()I"⟩ : MethodName) ∈ zTb := zTb_in (zT4 (List.mem_of_getElem? (i := 203) (by decide +kernel))) rfl
theorem zm643 : Cond.selects "PretendDesk$Opened" (⟨"PretendDesk$Opened", "shown", "()I"⟩ : MethodName) (⟨"PretendDesk$Opened", "shown", "()I"⟩ : MethodName) ∈ zTb := zTb_in (zT4 (List.mem_of_getElem? (i := 204) (by decide +kernel))) rfl
theorem zm644 : Cond.fieldLink "PretendDesk" 220 "PretendDesk$Page" "count" "I" ∈ zTb := zTb_in (zT1 (List.mem_of_getElem? (i := 177) (by decide +kernel))) rfl
theorem zm645 : Cond.methodLink "PretendDesk" 223 (⟨"PretendDesk$Page", "told", "(II)I"⟩ : MethodName) ∈ zTb := zTb_in (zT4 (List.mem_of_getElem? (i := 210) (by decide +kernel))) rfl
theorem zm646 : Cond.fieldLink "PretendDesk" 226 "PretendDesk$Room" "its" "LPretendDesk$Opened;" ∈ zTb := zTb_in (zT2 (List.mem_of_getElem? (i := 127) (by decide +kernel))) rfl
theorem zm647 : Cond.methodLink "PretendDesk" 229 (⟨"PretendDesk$Room", "apart", "()I"⟩ : MethodName) ∈ zTb := zTb_in (zT4 (List.mem_of_getElem? (i := 215) (by decide +kernel))) rfl
theorem zm648 : Cond.methodLink "PretendDesk" 232 (⟨"PretendDesk$Room", "lookAt", "(LPretendDesk$House;II)I"⟩ : MethodName) ∈ zTb := zTb_in (zT4 (List.mem_of_getElem? (i := 236) (by decide +kernel))) rfl
theorem zm649 : Cond.code (⟨"PretendDesk$Room", "lookAt", "(LPretendDesk$House;II)I"⟩ : MethodName) prog_8_method_5_code 4 (some (.int)) ∈ zTb := zTb_in (zT4 (List.mem_of_getElem? (i := 239) (by decide +kernel))) rfl
theorem zm650 : Cond.instanceMethod (⟨"PretendDesk$Room", "lookAt", "(LPretendDesk$House;II)I"⟩ : MethodName) ∈ zTb := zTb_in (zT4 (List.mem_of_getElem? (i := 237) (by decide +kernel))) rfl
theorem zm651 : Cond.selects "PretendDesk$Room" (⟨"PretendDesk$Room", "lookAt", "(LPretendDesk$House;II)I"⟩ : MethodName) (⟨"PretendDesk$Room", "lookAt", "(LPretendDesk$House;II)I"⟩ : MethodName) ∈ zTb := zTb_in (zT4 (List.mem_of_getElem? (i := 238) (by decide +kernel))) rfl
theorem zm652 : Cond.methodLink "PretendDesk" 240 (⟨"PretendDesk$Room", "liken", "(II)V"⟩ : MethodName) ∈ zTb := zTb_in (zT5 (List.mem_of_getElem? (i := 17) (by decide +kernel))) rfl
theorem zm653 : Cond.fieldLink "PretendDesk" 244 "PretendDesk$Room" "like" "I" ∈ zTb := zTb_in (zT2 (List.mem_of_getElem? (i := 133) (by decide +kernel))) rfl
theorem zm654 : Cond.methodLink "PretendDesk" 236 (⟨"PretendDesk", "likeOf", "(III)I"⟩ : MethodName) ∈ zTb := zTb_in (zT5 (List.mem_of_getElem? (i := 13) (by decide +kernel))) rfl
theorem zm655 : Cond.code (⟨"PretendDesk", "likeOf", "(III)I"⟩ : MethodName) prog_1_method_23_code 4 (some (.int)) ∈ zTb := zTb_in (zT5 (List.mem_of_getElem? (i := 16) (by decide +kernel))) rfl
theorem zm656 : Cond.instanceMethod (⟨"PretendDesk", "likeOf", "(III)I"⟩ : MethodName) ∈ zTb := zTb_in (zT5 (List.mem_of_getElem? (i := 15) (by decide +kernel))) rfl
theorem zm657 : Cond.selects "PretendDesk" (⟨"PretendDesk", "likeOf", "(III)I"⟩ : MethodName) (⟨"PretendDesk", "likeOf", "(III)I"⟩ : MethodName) ∈ zTb := zTb_in (zT0 (List.mem_of_getElem? (i := 19) (by decide +kernel))) rfl
theorem zm658 : Cond.methodLink "PretendDesk" 247 (⟨"PretendDesk$Opened", "asked", "([I)I"⟩ : MethodName) ∈ zTb := zTb_in (zT5 (List.mem_of_getElem? (i := 25) (by decide +kernel))) rfl
theorem zm659 : Cond.methodLink "PretendDesk" 254 (⟨"PretendDesk$Came", "age", "(I)I"⟩ : MethodName) ∈ zTb := zTb_in (zT5 (List.mem_of_getElem? (i := 41) (by decide +kernel))) rfl
theorem zm660 : Cond.methodLink "PretendDesk" 257 (⟨"PretendDesk$Room", "signsAt", "(Ljava/lang/String;I)I"⟩ : MethodName) ∈ zTb := zTb_in (zT5 (List.mem_of_getElem? (i := 46) (by decide +kernel))) rfl
theorem zm661 : Cond.methodLink "PretendDesk" 251 (⟨"PretendDesk", "signsOf", "(III)I"⟩ : MethodName) ∈ zTb := zTb_in (zT5 (List.mem_of_getElem? (i := 37) (by decide +kernel))) rfl
theorem zm662 : Cond.code (⟨"PretendDesk", "signsOf", "(III)I"⟩ : MethodName) prog_1_method_27_code 5 (some (.int)) ∈ zTb := zTb_in (zT5 (List.mem_of_getElem? (i := 40) (by decide +kernel))) rfl
theorem zm663 : Cond.instanceMethod (⟨"PretendDesk", "signsOf", "(III)I"⟩ : MethodName) ∈ zTb := zTb_in (zT5 (List.mem_of_getElem? (i := 39) (by decide +kernel))) rfl
theorem zm664 : Cond.selects "PretendDesk" (⟨"PretendDesk", "signsOf", "(III)I"⟩ : MethodName) (⟨"PretendDesk", "signsOf", "(III)I"⟩ : MethodName) ∈ zTb := zTb_in (zT0 (List.mem_of_getElem? (i := 20) (by decide +kernel))) rfl
theorem zm665 : Cond.methodLink "PretendDesk" 261 (⟨"PretendDesk", "said", "(I)I"⟩ : MethodName) ∈ zTb := zTb_in (zT5 (List.mem_of_getElem? (i := 67) (by decide +kernel))) rfl
theorem zm666 : Cond.fieldLink "PretendDesk" 275 "PretendDesk$Told" "cases" "I" ∈ zTb := zTb_in (zT2 (List.mem_of_getElem? (i := 42) (by decide +kernel))) rfl
theorem zm667 : Cond.fieldLink "PretendDesk" 278 "PretendDesk$Told" "casePage" "[I" ∈ zTb := zTb_in (zT2 (List.mem_of_getElem? (i := 21) (by decide +kernel))) rfl
theorem zm668 : Cond.fieldLink "PretendDesk" 281 "PretendDesk$Told" "caseDay" "[I" ∈ zTb := zTb_in (zT2 (List.mem_of_getElem? (i := 23) (by decide +kernel))) rfl
theorem zm669 : Cond.fieldLink "PretendDesk" 284 "PretendDesk$Told" "casePretends" "[Z" ∈ zTb := zTb_in (zT2 (List.mem_of_getElem? (i := 25) (by decide +kernel))) rfl
theorem zm670 : Cond.methodLink "PretendDesk" 288 (⟨"PretendDesk$Best", "clear", "()V"⟩ : MethodName) ∈ zTb := zTb_in (zT5 (List.mem_of_getElem? (i := 101) (by decide +kernel))) rfl
theorem zm671 : Cond.code (⟨"PretendDesk$Best", "clear", "()V"⟩ : MethodName) prog_2_method_2_code 1 none ∈ zTb := zTb_in (zT5 (List.mem_of_getElem? (i := 104) (by decide +kernel))) rfl
theorem zm672 : Cond.instanceMethod (⟨"PretendDesk$Best", "clear", "()V"⟩ : MethodName) ∈ zTb := zTb_in (zT5 (List.mem_of_getElem? (i := 102) (by decide +kernel))) rfl
theorem zm673 : Cond.selects "PretendDesk$Best" (⟨"PretendDesk$Best", "clear", "()V"⟩ : MethodName) (⟨"PretendDesk$Best", "clear", "()V"⟩ : MethodName) ∈ zTb := zTb_in (zT5 (List.mem_of_getElem? (i := 103) (by decide +kernel))) rfl
theorem zm674 : Cond.methodLink "PretendDesk" 302 (⟨"PretendDesk$Best", "find", "(I)Z"⟩ : MethodName) ∈ zTb := zTb_in (zT5 (List.mem_of_getElem? (i := 118) (by decide +kernel))) rfl
theorem zm675 : Cond.code (⟨"PretendDesk$Best", "find", "(I)Z"⟩ : MethodName) prog_2_method_6_code 5 (some (.boolean)) ∈ zTb := zTb_in (zT5 (List.mem_of_getElem? (i := 121) (by decide +kernel))) rfl
theorem zm676 : Cond.instanceMethod (⟨"PretendDesk$Best", "find", "(I)Z"⟩ : MethodName) ∈ zTb := zTb_in (zT5 (List.mem_of_getElem? (i := 119) (by decide +kernel))) rfl
theorem zm677 : Cond.selects "PretendDesk$Best" (⟨"PretendDesk$Best", "find", "(I)Z"⟩ : MethodName) (⟨"PretendDesk$Best", "find", "(I)Z"⟩ : MethodName) ∈ zTb := zTb_in (zT5 (List.mem_of_getElem? (i := 120) (by decide +kernel))) rfl
theorem zm678 : Cond.methodLink "PretendDesk" 305 (⟨"PretendDesk$Best", "found", "(I)I"⟩ : MethodName) ∈ zTb := zTb_in (zT5 (List.mem_of_getElem? (i := 126) (by decide +kernel))) rfl
theorem zm679 : Cond.code (⟨"PretendDesk$Best", "found", "(I)I"⟩ : MethodName) prog_2_method_8_code 2 (some (.int)) ∈ zTb := zTb_in (zT5 (List.mem_of_getElem? (i := 129) (by decide +kernel))) rfl
theorem zm680 : Cond.instanceMethod (⟨"PretendDesk$Best", "found", "(I)I"⟩ : MethodName) ∈ zTb := zTb_in (zT5 (List.mem_of_getElem? (i := 127) (by decide +kernel))) rfl
theorem zm681 : Cond.selects "PretendDesk$Best" (⟨"PretendDesk$Best", "found", "(I)I"⟩ : MethodName) (⟨"PretendDesk$Best", "found", "(I)I"⟩ : MethodName) ∈ zTb := zTb_in (zT5 (List.mem_of_getElem? (i := 128) (by decide +kernel))) rfl
theorem zm682 : Cond.methodLink "PretendDesk" 291 (⟨"PretendDesk$Room", "isElsewhere", "(Ljava/lang/String;)Z"⟩ : MethodName) ∈ zTb := zTb_in (zT5 (List.mem_of_getElem? (i := 109) (by decide +kernel))) rfl
theorem zm683 : Cond.fieldLink "PretendDesk" 295 "PretendDesk$Room" "looks" "I" ∈ zTb := zTb_in (zT2 (List.mem_of_getElem? (i := 136) (by decide +kernel))) rfl
theorem zm684 : Cond.methodLink "PretendDesk" 298 (⟨"PretendDesk$Best", "add", "(IIIZ)V"⟩ : MethodName) ∈ zTb := zTb_in (zT5 (List.mem_of_getElem? (i := 110) (by decide +kernel))) rfl
theorem zm685 : Cond.code (⟨"PretendDesk$Best", "add", "(IIIZ)V"⟩ : MethodName) prog_2_method_4_code 5 none ∈ zTb := zTb_in (zT5 (List.mem_of_getElem? (i := 113) (by decide +kernel))) rfl
theorem zm686 : Cond.instanceMethod (⟨"PretendDesk$Best", "add", "(IIIZ)V"⟩ : MethodName) ∈ zTb := zTb_in (zT5 (List.mem_of_getElem? (i := 111) (by decide +kernel))) rfl
theorem zm687 : Cond.selects "PretendDesk$Best" (⟨"PretendDesk$Best", "add", "(IIIZ)V"⟩ : MethodName) (⟨"PretendDesk$Best", "add", "(IIIZ)V"⟩ : MethodName) ∈ zTb := zTb_in (zT5 (List.mem_of_getElem? (i := 112) (by decide +kernel))) rfl
theorem zm688 : Cond.fieldLink "PretendDesk" 308 "PretendDesk$Came" "changes" "I" ∈ zTb := zTb_in (zT1 (List.mem_of_getElem? (i := 229) (by decide +kernel))) rfl
theorem zm689 : Cond.methodLink "PretendDesk" 311 (⟨"PretendDesk$Came", "addChange", "(IIII)V"⟩ : MethodName) ∈ zTb := zTb_in (zT5 (List.mem_of_getElem? (i := 134) (by decide +kernel))) rfl
theorem zm690 : Cond.code (⟨"PretendDesk$Came", "addChange", "(IIII)V"⟩ : MethodName) prog_3_method_3_code 6 none ∈ zTb := zTb_in (zT5 (List.mem_of_getElem? (i := 137) (by decide +kernel))) rfl
theorem zm691 : Cond.instanceMethod (⟨"PretendDesk$Came", "addChange", "(IIII)V"⟩ : MethodName) ∈ zTb := zTb_in (zT5 (List.mem_of_getElem? (i := 135) (by decide +kernel))) rfl
theorem zm692 : Cond.selects "PretendDesk$Came" (⟨"PretendDesk$Came", "addChange", "(IIII)V"⟩ : MethodName) (⟨"PretendDesk$Came", "addChange", "(IIII)V"⟩ : MethodName) ∈ zTb := zTb_in (zT5 (List.mem_of_getElem? (i := 136) (by decide +kernel))) rfl
theorem zm693 : Cond.methodLink "PretendDesk" 315 (⟨"PretendDesk", "isAim", "(II)Z"⟩ : MethodName) ∈ zTb := zTb_in (zT5 (List.mem_of_getElem? (i := 142) (by decide +kernel))) rfl
theorem zm694 : Cond.code (⟨"PretendDesk", "isAim", "(II)Z"⟩ : MethodName) prog_1_method_39_code 2 (some (.boolean)) ∈ zTb := zTb_in (zT5 (List.mem_of_getElem? (i := 144) (by decide +kernel))) rfl
theorem zm695 : Cond.static (⟨"PretendDesk", "isAim", "(II)Z"⟩ : MethodName) ∈ zTb := zTb_in (zT5 (List.mem_of_getElem? (i := 143) (by decide +kernel))) rfl
theorem zm696 : Cond.methodLink "PretendDesk" 318 (⟨"PretendDesk$Forger", "passes", "(LPretendDesk$Came;III)Z"⟩ : MethodName) ∈ zTb := zTb_in (zT5 (List.mem_of_getElem? (i := 145) (by decide +kernel))) rfl
theorem zm697 : Cond.code (⟨"PretendDesk$Forger", "passes", "(LPretendDesk$Came;III)Z"⟩ : MethodName) prog_4_method_2_code 10 (some (.boolean)) ∈ zTb := zTb_in (zT5 (List.mem_of_getElem? (i := 148) (by decide +kernel))) rfl
theorem zm698 : Cond.instanceMethod (⟨"PretendDesk$Forger", "passes", "(LPretendDesk$Came;III)Z"⟩ : MethodName) ∈ zTb := zTb_in (zT5 (List.mem_of_getElem? (i := 146) (by decide +kernel))) rfl
theorem zm699 : Cond.selects "PretendDesk$Forger" (⟨"PretendDesk$Forger", "passes", "(LPretendDesk$Came;III)Z"⟩ : MethodName) (⟨"PretendDesk$Forger", "passes", "(LPretendDesk$Came;III)Z"⟩ : MethodName) ∈ zTb := zTb_in (zT5 (List.mem_of_getElem? (i := 147) (by decide +kernel))) rfl
theorem zm700 : Cond.fieldLink "PretendDesk" 328 "PretendDesk$Forger" "says" "I" ∈ zTb := zTb_in (zT2 (List.mem_of_getElem? (i := 169) (by decide +kernel))) rfl
theorem zm701 : Cond.fieldLink "PretendDesk" 325 "PretendDesk$Forger" "set" "I" ∈ zTb := zTb_in (zT2 (List.mem_of_getElem? (i := 167) (by decide +kernel))) rfl
theorem zm702 : Cond.fieldLink "PretendDesk" 322 "PretendDesk$Forger" "price" "I" ∈ zTb := zTb_in (zT2 (List.mem_of_getElem? (i := 165) (by decide +kernel))) rfl
theorem zm703 : Cond.methodLink "PretendDesk" 331 (⟨"PretendDesk$Forger", "leastMark", "(LPretendDesk$Came;III)I"⟩ : MethodName) ∈ zTb := zTb_in (zT5 (List.mem_of_getElem? (i := 178) (by decide +kernel))) rfl
theorem zm704 : Cond.code (⟨"PretendDesk$Forger", "leastMark", "(LPretendDesk$Came;III)I"⟩ : MethodName) prog_4_method_3_code 9 (some (.int)) ∈ zTb := zTb_in (zT5 (List.mem_of_getElem? (i := 181) (by decide +kernel))) rfl
theorem zm705 : Cond.instanceMethod (⟨"PretendDesk$Forger", "leastMark", "(LPretendDesk$Came;III)I"⟩ : MethodName) ∈ zTb := zTb_in (zT5 (List.mem_of_getElem? (i := 179) (by decide +kernel))) rfl
theorem zm706 : Cond.selects "PretendDesk$Forger" (⟨"PretendDesk$Forger", "leastMark", "(LPretendDesk$Came;III)I"⟩ : MethodName) (⟨"PretendDesk$Forger", "leastMark", "(LPretendDesk$Came;III)I"⟩ : MethodName) ∈ zTb := zTb_in (zT5 (List.mem_of_getElem? (i := 180) (by decide +kernel))) rfl
theorem zm707 : Cond.methodLink "PretendDesk" 343 (⟨"PretendDesk", "choices", "(II)J"⟩ : MethodName) ∈ zTb := zTb_in (zT5 (List.mem_of_getElem? (i := 195) (by decide +kernel))) rfl
theorem zm708 : Cond.code (⟨"PretendDesk", "choices", "(II)J"⟩ : MethodName) prog_1_method_44_code 5 (some (.long)) ∈ zTb := zTb_in (zT5 (List.mem_of_getElem? (i := 197) (by decide +kernel))) rfl
theorem zm709 : Cond.static (⟨"PretendDesk", "choices", "(II)J"⟩ : MethodName) ∈ zTb := zTb_in (zT5 (List.mem_of_getElem? (i := 196) (by decide +kernel))) rfl
theorem zm710 : Cond.methodLink "PretendDesk" 339 (⟨"PretendDesk", "allWays", "(I)J"⟩ : MethodName) ∈ zTb := zTb_in (zT5 (List.mem_of_getElem? (i := 198) (by decide +kernel))) rfl
theorem zm711 : Cond.code (⟨"PretendDesk", "allWays", "(I)J"⟩ : MethodName) prog_1_method_41_code 2 (some (.long)) ∈ zTb := zTb_in (zT5 (List.mem_of_getElem? (i := 201) (by decide +kernel))) rfl
theorem zm712 : Cond.instanceMethod (⟨"PretendDesk", "allWays", "(I)J"⟩ : MethodName) ∈ zTb := zTb_in (zT5 (List.mem_of_getElem? (i := 200) (by decide +kernel))) rfl
theorem zm713 : Cond.selects "PretendDesk" (⟨"PretendDesk", "allWays", "(I)J"⟩ : MethodName) (⟨"PretendDesk", "allWays", "(I)J"⟩ : MethodName) ∈ zTb := zTb_in (zT0 (List.mem_of_getElem? (i := 30) (by decide +kernel))) rfl
theorem zm714 : Cond.methodLink "PretendDesk" 346 (⟨"PretendDesk", "shares", "(II)I"⟩ : MethodName) ∈ zTb := zTb_in (zT5 (List.mem_of_getElem? (i := 191) (by decide +kernel))) rfl
theorem zm715 : Cond.code (⟨"PretendDesk", "shares", "(II)I"⟩ : MethodName) prog_1_method_43_code 3 (some (.int)) ∈ zTb := zTb_in (zT5 (List.mem_of_getElem? (i := 194) (by decide +kernel))) rfl
theorem zm716 : Cond.instanceMethod (⟨"PretendDesk", "shares", "(II)I"⟩ : MethodName) ∈ zTb := zTb_in (zT5 (List.mem_of_getElem? (i := 193) (by decide +kernel))) rfl
theorem zm717 : Cond.selects "PretendDesk" (⟨"PretendDesk", "shares", "(II)I"⟩ : MethodName) (⟨"PretendDesk", "shares", "(II)I"⟩ : MethodName) ∈ zTb := zTb_in (zT0 (List.mem_of_getElem? (i := 29) (by decide +kernel))) rfl
theorem zm718 : Cond.methodLink "PretendDesk" 335 (⟨"PretendDesk", "sharedWays", "(II)J"⟩ : MethodName) ∈ zTb := zTb_in (zT5 (List.mem_of_getElem? (i := 187) (by decide +kernel))) rfl
theorem zm719 : Cond.code (⟨"PretendDesk", "sharedWays", "(II)J"⟩ : MethodName) prog_1_method_42_code 8 (some (.long)) ∈ zTb := zTb_in (zT5 (List.mem_of_getElem? (i := 190) (by decide +kernel))) rfl
theorem zm720 : Cond.instanceMethod (⟨"PretendDesk", "sharedWays", "(II)J"⟩ : MethodName) ∈ zTb := zTb_in (zT5 (List.mem_of_getElem? (i := 189) (by decide +kernel))) rfl
theorem zm721 : Cond.selects "PretendDesk" (⟨"PretendDesk", "sharedWays", "(II)J"⟩ : MethodName) (⟨"PretendDesk", "sharedWays", "(II)J"⟩ : MethodName) ∈ zTb := zTb_in (zT0 (List.mem_of_getElem? (i := 28) (by decide +kernel))) rfl
theorem zm722 : Cond.methodLink "PretendDesk" 349 (⟨"PretendDesk", "ofOneHand", "(II)I"⟩ : MethodName) ∈ zTb := zTb_in (zT5 (List.mem_of_getElem? (i := 206) (by decide +kernel))) rfl
theorem zm723 : Cond.code (⟨"PretendDesk", "ofOneHand", "(II)I"⟩ : MethodName) prog_1_method_46_code 5 (some (.int)) ∈ zTb := zTb_in (zT5 (List.mem_of_getElem? (i := 209) (by decide +kernel))) rfl
theorem zm724 : Cond.instanceMethod (⟨"PretendDesk", "ofOneHand", "(II)I"⟩ : MethodName) ∈ zTb := zTb_in (zT5 (List.mem_of_getElem? (i := 208) (by decide +kernel))) rfl
theorem zm725 : Cond.selects "PretendDesk" (⟨"PretendDesk", "ofOneHand", "(II)I"⟩ : MethodName) (⟨"PretendDesk", "ofOneHand", "(II)I"⟩ : MethodName) ∈ zTb := zTb_in (zT0 (List.mem_of_getElem? (i := 31) (by decide +kernel))) rfl
theorem zm726 : Cond.constant "PretendDesk" 355 (65535 : Int32) ∈ zTb := zTb_in (zT5 (List.mem_of_getElem? (i := 218) (by decide +kernel))) rfl
theorem zm727 : Cond.methodLink "PretendDesk" 352 (⟨"PretendDesk", "sketched", "(II)I"⟩ : MethodName) ∈ zTb := zTb_in (zT5 (List.mem_of_getElem? (i := 214) (by decide +kernel))) rfl
theorem zm728 : Cond.code (⟨"PretendDesk", "sketched", "(II)I"⟩ : MethodName) prog_1_method_48_code 6 (some (.int)) ∈ zTb := zTb_in (zT5 (List.mem_of_getElem? (i := 217) (by decide +kernel))) rfl
theorem zm729 : Cond.instanceMethod (⟨"PretendDesk", "sketched", "(II)I"⟩ : MethodName) ∈ zTb := zTb_in (zT5 (List.mem_of_getElem? (i := 216) (by decide +kernel))) rfl
theorem zm730 : Cond.selects "PretendDesk" (⟨"PretendDesk", "sketched", "(II)I"⟩ : MethodName) (⟨"PretendDesk", "sketched", "(II)I"⟩ : MethodName) ∈ zTb := zTb_in (zT0 (List.mem_of_getElem? (i := 32) (by decide +kernel))) rfl
theorem zm731 : Cond.methodLink "PretendDesk" 356 (⟨"PretendDesk", "fits", "(II)I"⟩ : MethodName) ∈ zTb := zTb_in (zT5 (List.mem_of_getElem? (i := 223) (by decide +kernel))) rfl
theorem zm732 : Cond.code (⟨"PretendDesk", "fits", "(II)I"⟩ : MethodName) prog_1_method_50_code 6 (some (.int)) ∈ zTb := zTb_in (zT5 (List.mem_of_getElem? (i := 226) (by decide +kernel))) rfl
theorem zm733 : Cond.instanceMethod (⟨"PretendDesk", "fits", "(II)I"⟩ : MethodName) ∈ zTb := zTb_in (zT5 (List.mem_of_getElem? (i := 225) (by decide +kernel))) rfl
theorem zm734 : Cond.selects "PretendDesk" (⟨"PretendDesk", "fits", "(II)I"⟩ : MethodName) (⟨"PretendDesk", "fits", "(II)I"⟩ : MethodName) ∈ zTb := zTb_in (zT0 (List.mem_of_getElem? (i := 33) (by decide +kernel))) rfl
theorem zm735 : Cond.methodLink "PretendDesk" 359 (⟨"PretendDesk$Tape", "takeProgram", "([I)I"⟩ : MethodName) ∈ zTb := zTb_in (zT5 (List.mem_of_getElem? (i := 231) (by decide +kernel))) rfl
theorem zm736 : Cond.code (⟨"PretendDesk$Tape", "takeProgram", "([I)I"⟩ : MethodName) prog_11_method_13_code 4 (some (.int)) ∈ zTb := zTb_in (zT5 (List.mem_of_getElem? (i := 234) (by decide +kernel))) rfl
theorem zm737 : Cond.instanceMethod (⟨"PretendDesk$Tape", "takeProgram", "([I)I"⟩ : MethodName) ∈ zTb := zTb_in (zT5 (List.mem_of_getElem? (i := 232) (by decide +kernel))) rfl
theorem zm738 : Cond.selects "PretendDesk$Tape" (⟨"PretendDesk$Tape", "takeProgram", "([I)I"⟩ : MethodName) (⟨"PretendDesk$Tape", "takeProgram", "([I)I"⟩ : MethodName) ∈ zTb := zTb_in (zT5 (List.mem_of_getElem? (i := 233) (by decide +kernel))) rfl
theorem zm739 : Cond.methodLink "PretendDesk" 362 (⟨"PretendDesk$Came", "tellLines", "([II)V"⟩ : MethodName) ∈ zTb := zTb_in (zT6 (List.mem_of_getElem? (i := 7) (by decide +kernel))) rfl
theorem zm740 : Cond.methodLink "PretendDesk" 366 (⟨"PretendDesk", "isAddress", "(I)Z"⟩ : MethodName) ∈ zTb := zTb_in (zT6 (List.mem_of_getElem? (i := 16) (by decide +kernel))) rfl
theorem zm741 : Cond.code (⟨"PretendDesk", "isAddress", "(I)Z"⟩ : MethodName) prog_1_method_81_code 1 (some (.boolean)) ∈ zTb := zTb_in (zT6 (List.mem_of_getElem? (i := 18) (by decide +kernel))) rfl
theorem zm742 : Cond.static (⟨"PretendDesk", "isAddress", "(I)Z"⟩ : MethodName) ∈ zTb := zTb_in (zT6 (List.mem_of_getElem? (i := 17) (by decide +kernel))) rfl
theorem zm743 : Cond.fieldLink "PretendDesk" 369 "PretendDesk$Told" "relay" "[I" ∈ zTb := zTb_in (zT2 (List.mem_of_getElem? (i := 33) (by decide +kernel))) rfl
theorem zm744 : Cond.fieldLink "PretendDesk" 372 "PretendDesk$Told" "owner" "[I" ∈ zTb := zTb_in (zT2 (List.mem_of_getElem? (i := 35) (by decide +kernel))) rfl
theorem zm745 : Cond.methodLink "PretendDesk" 375 (⟨"PretendDesk", "isMade", "(I)Z"⟩ : MethodName) ∈ zTb := zTb_in (zT6 (List.mem_of_getElem? (i := 31) (by decide +kernel))) rfl
theorem zm746 : Cond.code (⟨"PretendDesk", "isMade", "(I)Z"⟩ : MethodName) prog_1_method_82_code 1 (some (.boolean)) ∈ zTb := zTb_in (zT6 (List.mem_of_getElem? (i := 33) (by decide +kernel))) rfl
theorem zm747 : Cond.static (⟨"PretendDesk", "isMade", "(I)Z"⟩ : MethodName) ∈ zTb := zTb_in (zT6 (List.mem_of_getElem? (i := 32) (by decide +kernel))) rfl
theorem zm748 : Cond.methodLink "PretendDesk" 378 (⟨"PretendDesk$Runner", "run", "(LPretendDesk$Came;I)V"⟩ : MethodName) ∈ zTb := zTb_in (zT6 (List.mem_of_getElem? (i := 34) (by decide +kernel))) rfl
theorem zm749 : Cond.code (⟨"PretendDesk$Runner", "run", "(LPretendDesk$Came;I)V"⟩ : MethodName) prog_9_method_2_code 4 none ∈ zTb := zTb_in (zT6 (List.mem_of_getElem? (i := 37) (by decide +kernel))) rfl
theorem zm750 : Cond.instanceMethod (⟨"PretendDesk$Runner", "run", "(LPretendDesk$Came;I)V"⟩ : MethodName) ∈ zTb := zTb_in (zT6 (List.mem_of_getElem? (i := 35) (by decide +kernel))) rfl
theorem zm751 : Cond.selects "PretendDesk$Runner" (⟨"PretendDesk$Runner", "run", "(LPretendDesk$Came;I)V"⟩ : MethodName) (⟨"PretendDesk$Runner", "run", "(LPretendDesk$Came;I)V"⟩ : MethodName) ∈ zTb := zTb_in (zT6 (List.mem_of_getElem? (i := 36) (by decide +kernel))) rfl
theorem zm752 : Cond.fieldLink "PretendDesk" 382 "PretendDesk$Runner" "got" "[I" ∈ zTb := zTb_in (zT3 (List.mem_of_getElem? (i := 3) (by decide +kernel))) rfl
theorem zm753 : Cond.fieldLink "PretendDesk" 385 "PretendDesk$Runner" "steps" "I" ∈ zTb := zTb_in (zT3 (List.mem_of_getElem? (i := 5) (by decide +kernel))) rfl
theorem zm754 : Cond.methodLink "PretendDesk" 391 (⟨"PretendDesk", "goes", "(IZ)I"⟩ : MethodName) ∈ zTb := zTb_in (zT6 (List.mem_of_getElem? (i := 54) (by decide +kernel))) rfl
theorem zm755 : Cond.code (⟨"PretendDesk", "goes", "(IZ)I"⟩ : MethodName) prog_1_method_54_code 5 (some (.int)) ∈ zTb := zTb_in (zT6 (List.mem_of_getElem? (i := 26) (by decide +kernel))) rfl
theorem zm756 : Cond.instanceMethod (⟨"PretendDesk", "goes", "(IZ)I"⟩ : MethodName) ∈ zTb := zTb_in (zT6 (List.mem_of_getElem? (i := 24) (by decide +kernel))) rfl
theorem zm757 : Cond.selects "PretendDesk" (⟨"PretendDesk", "goes", "(IZ)I"⟩ : MethodName) (⟨"PretendDesk", "goes", "(IZ)I"⟩ : MethodName) ∈ zTb := zTb_in (zT6 (List.mem_of_getElem? (i := 25) (by decide +kernel))) rfl
theorem zm758 : Cond.methodLink "PretendDesk" 388 (⟨"PretendDesk", "takenFrom", "(III)I"⟩ : MethodName) ∈ zTb := zTb_in (zT6 (List.mem_of_getElem? (i := 50) (by decide +kernel))) rfl
theorem zm759 : Cond.code (⟨"PretendDesk", "takenFrom", "(III)I"⟩ : MethodName) prog_1_method_58_code 8 (some (.int)) ∈ zTb := zTb_in (zT6 (List.mem_of_getElem? (i := 53) (by decide +kernel))) rfl
theorem zm760 : Cond.instanceMethod (⟨"PretendDesk", "takenFrom", "(III)I"⟩ : MethodName) ∈ zTb := zTb_in (zT6 (List.mem_of_getElem? (i := 52) (by decide +kernel))) rfl
theorem zm761 : Cond.selects "PretendDesk" (⟨"PretendDesk", "takenFrom", "(III)I"⟩ : MethodName) (⟨"PretendDesk", "takenFrom", "(III)I"⟩ : MethodName) ∈ zTb := zTb_in (zT0 (List.mem_of_getElem? (i := 38) (by decide +kernel))) rfl
theorem zm762 : Cond.fieldLink "PretendDesk" 395 "PretendDesk$Told" "speech" "LPretendDesk$Speech;" ∈ zTb := zTb_in (zT2 (List.mem_of_getElem? (i := 19) (by decide +kernel))) rfl
theorem zm763 : Cond.fieldLink "PretendDesk" 399 "PretendDesk$Tape" "bytes" "[C" ∈ zTb := zTb_in (zT1 (List.mem_of_getElem? (i := 81) (by decide +kernel))) rfl
theorem zm764 : Cond.fieldLink "PretendDesk" 403 "PretendDesk$Tape" "taken" "I" ∈ zTb := zTb_in (zT1 (List.mem_of_getElem? (i := 89) (by decide +kernel))) rfl
theorem zm765 : Cond.methodLink "PretendDesk" 406 (⟨"PretendDesk$Speech", "tellWord", "([CII)I"⟩ : MethodName) ∈ zTb := zTb_in (zT6 (List.mem_of_getElem? (i := 59) (by decide +kernel))) rfl
theorem zm766 : Cond.code (⟨"PretendDesk$Speech", "tellWord", "([CII)I"⟩ : MethodName) prog_10_method_2_code 5 (some (.int)) ∈ zTb := zTb_in (zT6 (List.mem_of_getElem? (i := 62) (by decide +kernel))) rfl
theorem zm767 : Cond.instanceMethod (⟨"PretendDesk$Speech", "tellWord", "([CII)I"⟩ : MethodName) ∈ zTb := zTb_in (zT6 (List.mem_of_getElem? (i := 60) (by decide +kernel))) rfl
theorem zm768 : Cond.selects "PretendDesk$Speech" (⟨"PretendDesk$Speech", "tellWord", "([CII)I"⟩ : MethodName) (⟨"PretendDesk$Speech", "tellWord", "([CII)I"⟩ : MethodName) ∈ zTb := zTb_in (zT6 (List.mem_of_getElem? (i := 61) (by decide +kernel))) rfl
theorem zm769 : Cond.methodLink "PretendDesk" 412 (⟨"PretendDesk$Speech", "tellPattern", "(II)I"⟩ : MethodName) ∈ zTb := zTb_in (zT6 (List.mem_of_getElem? (i := 73) (by decide +kernel))) rfl
theorem zm770 : Cond.code (⟨"PretendDesk$Speech", "tellPattern", "(II)I"⟩ : MethodName) prog_10_method_4_code 3 (some (.int)) ∈ zTb := zTb_in (zT6 (List.mem_of_getElem? (i := 76) (by decide +kernel))) rfl
theorem zm771 : Cond.instanceMethod (⟨"PretendDesk$Speech", "tellPattern", "(II)I"⟩ : MethodName) ∈ zTb := zTb_in (zT6 (List.mem_of_getElem? (i := 74) (by decide +kernel))) rfl
theorem zm772 : Cond.selects "PretendDesk$Speech" (⟨"PretendDesk$Speech", "tellPattern", "(II)I"⟩ : MethodName) (⟨"PretendDesk$Speech", "tellPattern", "(II)I"⟩ : MethodName) ∈ zTb := zTb_in (zT6 (List.mem_of_getElem? (i := 75) (by decide +kernel))) rfl
theorem zm773 : Cond.methodLink "PretendDesk" 415 (⟨"PretendDesk$Tape", "takeLetter", "()Z"⟩ : MethodName) ∈ zTb := zTb_in (zT6 (List.mem_of_getElem? (i := 81) (by decide +kernel))) rfl
theorem zm774 : Cond.code (⟨"PretendDesk$Tape", "takeLetter", "()Z"⟩ : MethodName) prog_11_method_9_code 2 (some (.boolean)) ∈ zTb := zTb_in (zT6 (List.mem_of_getElem? (i := 84) (by decide +kernel))) rfl
theorem zm775 : Cond.instanceMethod (⟨"PretendDesk$Tape", "takeLetter", "()Z"⟩ : MethodName) ∈ zTb := zTb_in (zT6 (List.mem_of_getElem? (i := 82) (by decide +kernel))) rfl
theorem zm776 : Cond.selects "PretendDesk$Tape" (⟨"PretendDesk$Tape", "takeLetter", "()Z"⟩ : MethodName) (⟨"PretendDesk$Tape", "takeLetter", "()Z"⟩ : MethodName) ∈ zTb := zTb_in (zT6 (List.mem_of_getElem? (i := 83) (by decide +kernel))) rfl
theorem zm777 : Cond.methodLink "PretendDesk" 419 (⟨"PretendDesk$Speech", "tellLetter", "([CI)V"⟩ : MethodName) ∈ zTb := zTb_in (zT6 (List.mem_of_getElem? (i := 85) (by decide +kernel))) rfl
theorem zm778 : Cond.code (⟨"PretendDesk$Speech", "tellLetter", "([CI)V"⟩ : MethodName) prog_10_method_5_code 3 none ∈ zTb := zTb_in (zT6 (List.mem_of_getElem? (i := 88) (by decide +kernel))) rfl
theorem zm779 : Cond.instanceMethod (⟨"PretendDesk$Speech", "tellLetter", "([CI)V"⟩ : MethodName) ∈ zTb := zTb_in (zT6 (List.mem_of_getElem? (i := 86) (by decide +kernel))) rfl
theorem zm780 : Cond.selects "PretendDesk$Speech" (⟨"PretendDesk$Speech", "tellLetter", "([CI)V"⟩ : MethodName) (⟨"PretendDesk$Speech", "tellLetter", "([CI)V"⟩ : MethodName) ∈ zTb := zTb_in (zT6 (List.mem_of_getElem? (i := 87) (by decide +kernel))) rfl
theorem zm781 : Cond.methodLink "PretendDesk" 423 (⟨"PretendDesk$Speech", "hear", "([I)I"⟩ : MethodName) ∈ zTb := zTb_in (zT6 (List.mem_of_getElem? (i := 90) (by decide +kernel))) rfl
theorem zm782 : Cond.code (⟨"PretendDesk$Speech", "hear", "([I)I"⟩ : MethodName) prog_10_method_6_code 8 (some (.int)) ∈ zTb := zTb_in (zT6 (List.mem_of_getElem? (i := 93) (by decide +kernel))) rfl
theorem zm783 : Cond.instanceMethod (⟨"PretendDesk$Speech", "hear", "([I)I"⟩ : MethodName) ∈ zTb := zTb_in (zT6 (List.mem_of_getElem? (i := 91) (by decide +kernel))) rfl
theorem zm784 : Cond.selects "PretendDesk$Speech" (⟨"PretendDesk$Speech", "hear", "([I)I"⟩ : MethodName) (⟨"PretendDesk$Speech", "hear", "([I)I"⟩ : MethodName) ∈ zTb := zTb_in (zT6 (List.mem_of_getElem? (i := 92) (by decide +kernel))) rfl
theorem zm785 : Cond.fieldLink "PretendDesk" 426 "PretendDesk$Speech" "patterns" "I" ∈ zTb := zTb_in (zT1 (List.mem_of_getElem? (i := 140) (by decide +kernel))) rfl
theorem zm786 : Cond.fieldLink "PretendDesk" 432 "PretendDesk$Speech" "patternMeanings" "[I" ∈ zTb := zTb_in (zT1 (List.mem_of_getElem? (i := 133) (by decide +kernel))) rfl
theorem zm787 : Cond.methodLink "PretendDesk" 429 (⟨"PretendDesk", "firstHolding", "(I)I"⟩ : MethodName) ∈ zTb := zTb_in (zT6 (List.mem_of_getElem? (i := 107) (by decide +kernel))) rfl
theorem zm788 : Cond.code (⟨"PretendDesk", "firstHolding", "(I)I"⟩ : MethodName) prog_1_method_64_code 5 (some (.int)) ∈ zTb := zTb_in (zT6 (List.mem_of_getElem? (i := 110) (by decide +kernel))) rfl
theorem zm789 : Cond.instanceMethod (⟨"PretendDesk", "firstHolding", "(I)I"⟩ : MethodName) ∈ zTb := zTb_in (zT6 (List.mem_of_getElem? (i := 109) (by decide +kernel))) rfl
theorem zm790 : Cond.selects "PretendDesk" (⟨"PretendDesk", "firstHolding", "(I)I"⟩ : MethodName) (⟨"PretendDesk", "firstHolding", "(I)I"⟩ : MethodName) ∈ zTb := zTb_in (zT0 (List.mem_of_getElem? (i := 41) (by decide +kernel))) rfl
theorem zm791 : Cond.fieldLink "PretendDesk" 435 "PretendDesk$Speech" "patternWeight" "[I" ∈ zTb := zTb_in (zT1 (List.mem_of_getElem? (i := 135) (by decide +kernel))) rfl
theorem zm792 : Cond.constant "PretendDesk" 438 (33554432 : Int32) ∈ zTb := zTb_in (zT6 (List.mem_of_getElem? (i := 119) (by decide +kernel))) rfl
theorem zm793 : Cond.fieldLink "PretendDesk" 442 "PretendDesk$House" "squares" "I" ∈ zTb := zTb_in (zT1 (List.mem_of_getElem? (i := 194) (by decide +kernel))) rfl
theorem zm794 : Cond.fieldLink "PretendDesk" 439 "PretendDesk$Came" "squares" "I" ∈ zTb := zTb_in (zT1 (List.mem_of_getElem? (i := 226) (by decide +kernel))) rfl
theorem zm795 : Cond.methodLink "PretendDesk" 449 (⟨"PretendDesk", "turnedRight", "(I)I"⟩ : MethodName) ∈ zTb := zTb_in (zT6 (List.mem_of_getElem? (i := 131) (by decide +kernel))) rfl
theorem zm796 : Cond.code (⟨"PretendDesk", "turnedRight", "(I)I"⟩ : MethodName) prog_1_method_70_code 5 (some (.int)) ∈ zTb := zTb_in (zT6 (List.mem_of_getElem? (i := 133) (by decide +kernel))) rfl
theorem zm797 : Cond.static (⟨"PretendDesk", "turnedRight", "(I)I"⟩ : MethodName) ∈ zTb := zTb_in (zT6 (List.mem_of_getElem? (i := 132) (by decide +kernel))) rfl
theorem zm798 : Cond.methodLink "PretendDesk" 446 (⟨"PretendDesk", "moved", "(III)I"⟩ : MethodName) ∈ zTb := zTb_in (zT6 (List.mem_of_getElem? (i := 128) (by decide +kernel))) rfl
theorem zm799 : Cond.code (⟨"PretendDesk", "moved", "(III)I"⟩ : MethodName) prog_1_method_71_code 8 (some (.int)) ∈ zTb := zTb_in (zT6 (List.mem_of_getElem? (i := 130) (by decide +kernel))) rfl
theorem zm800 : Cond.static (⟨"PretendDesk", "moved", "(III)I"⟩ : MethodName) ∈ zTb := zTb_in (zT6 (List.mem_of_getElem? (i := 129) (by decide +kernel))) rfl
theorem zm801 : Cond.methodLink "PretendDesk" 443 (⟨"PretendDesk", "unlikeOf", "(II)I"⟩ : MethodName) ∈ zTb := zTb_in (zT6 (List.mem_of_getElem? (i := 124) (by decide +kernel))) rfl
theorem zm802 : Cond.code (⟨"PretendDesk", "unlikeOf", "(II)I"⟩ : MethodName) prog_1_method_69_code 9 (some (.int)) ∈ zTb := zTb_in (zT6 (List.mem_of_getElem? (i := 127) (by decide +kernel))) rfl
theorem zm803 : Cond.instanceMethod (⟨"PretendDesk", "unlikeOf", "(II)I"⟩ : MethodName) ∈ zTb := zTb_in (zT6 (List.mem_of_getElem? (i := 126) (by decide +kernel))) rfl
theorem zm804 : Cond.selects "PretendDesk" (⟨"PretendDesk", "unlikeOf", "(II)I"⟩ : MethodName) (⟨"PretendDesk", "unlikeOf", "(II)I"⟩ : MethodName) ∈ zTb := zTb_in (zT0 (List.mem_of_getElem? (i := 42) (by decide +kernel))) rfl
theorem zm805 : Cond.methodLink "PretendDesk" 455 (⟨"PretendDesk", "countOf", "(II)I"⟩ : MethodName) ∈ zTb := zTb_in (zT6 (List.mem_of_getElem? (i := 142) (by decide +kernel))) rfl
theorem zm806 : Cond.code (⟨"PretendDesk", "countOf", "(II)I"⟩ : MethodName) prog_1_method_73_code 3 (some (.int)) ∈ zTb := zTb_in (zT6 (List.mem_of_getElem? (i := 145) (by decide +kernel))) rfl
theorem zm807 : Cond.instanceMethod (⟨"PretendDesk", "countOf", "(II)I"⟩ : MethodName) ∈ zTb := zTb_in (zT6 (List.mem_of_getElem? (i := 144) (by decide +kernel))) rfl
theorem zm808 : Cond.selects "PretendDesk" (⟨"PretendDesk", "countOf", "(II)I"⟩ : MethodName) (⟨"PretendDesk", "countOf", "(II)I"⟩ : MethodName) ∈ zTb := zTb_in (zT0 (List.mem_of_getElem? (i := 43) (by decide +kernel))) rfl
theorem zm809 : Cond.fieldLink "PretendDesk" 452 "PretendDesk$Speech" "words" "I" ∈ zTb := zTb_in (zT1 (List.mem_of_getElem? (i := 138) (by decide +kernel))) rfl
theorem zm810 : Cond.methodLink "PretendDesk" 458 (⟨"PretendDesk$Told", "copy", "(LPretendDesk$Told;)V"⟩ : MethodName) ∈ zTb := zTb_in (zT6 (List.mem_of_getElem? (i := 150) (by decide +kernel))) rfl
theorem zm811 : Cond.code (⟨"PretendDesk$Told", "copy", "(LPretendDesk$Told;)V"⟩ : MethodName) prog_12_method_2_code 3 none ∈ zTb := zTb_in (zT6 (List.mem_of_getElem? (i := 153) (by decide +kernel))) rfl
theorem zm812 : Cond.instanceMethod (⟨"PretendDesk$Told", "copy", "(LPretendDesk$Told;)V"⟩ : MethodName) ∈ zTb := zTb_in (zT6 (List.mem_of_getElem? (i := 151) (by decide +kernel))) rfl
theorem zm813 : Cond.selects "PretendDesk$Told" (⟨"PretendDesk$Told", "copy", "(LPretendDesk$Told;)V"⟩ : MethodName) (⟨"PretendDesk$Told", "copy", "(LPretendDesk$Told;)V"⟩ : MethodName) ∈ zTb := zTb_in (zT6 (List.mem_of_getElem? (i := 152) (by decide +kernel))) rfl
theorem zm814 : Cond.methodLink "PretendDeskModel" 1 (⟨"java/lang/Object", "<init>", "()V"⟩ : MethodName) ∈ zTb := zTb_in (zT6 (List.mem_of_getElem? (i := 184) (by decide +kernel))) rfl
theorem zm815 : Cond.fieldLink "PretendDeskModel" 7 "PretendDeskModel" "all" "[I" ∈ zTb := zTb_in (zT6 (List.mem_of_getElem? (i := 185) (by decide +kernel))) rfl
theorem zm816 : Cond.fieldLink "PretendDeskModel" 13 "PretendDeskModel" "has" "[Z" ∈ zTb := zTb_in (zT6 (List.mem_of_getElem? (i := 186) (by decide +kernel))) rfl
theorem zm817 : Cond.fieldLink "PretendDeskModel" 17 "PretendDeskModel" "within" "[I" ∈ zTb := zTb_in (zT6 (List.mem_of_getElem? (i := 197) (by decide +kernel))) rfl
theorem zm818 : Cond.fieldLink "PretendDeskModel" 20 "PretendDeskModel" "read" "[I" ∈ zTb := zTb_in (zT6 (List.mem_of_getElem? (i := 198) (by decide +kernel))) rfl
theorem zm819 : Cond.fieldLink "PretendDeskModel" 23 "PretendDeskModel" "spelled" "[I" ∈ zTb := zTb_in (zT6 (List.mem_of_getElem? (i := 199) (by decide +kernel))) rfl
theorem zm820 : Cond.fieldLink "PretendDeskModel" 26 "PretendDeskModel" "gone" "[Z" ∈ zTb := zTb_in (zT6 (List.mem_of_getElem? (i := 201) (by decide +kernel))) rfl
theorem zm821 : Cond.fieldLink "PretendDeskModel" 29 "PretendDeskModel" "colour" "[I" ∈ zTb := zTb_in (zT6 (List.mem_of_getElem? (i := 202) (by decide +kernel))) rfl
theorem zm822 : Cond.fieldLink "PretendDeskModel" 32 "PretendDeskModel" "shown" "[Z" ∈ zTb := zTb_in (zT6 (List.mem_of_getElem? (i := 203) (by decide +kernel))) rfl
theorem zm823 : Cond.fieldLink "PretendDeskModel" 35 "PretendDeskModel" "over" "[I" ∈ zTb := zTb_in (zT6 (List.mem_of_getElem? (i := 204) (by decide +kernel))) rfl
theorem zm824 : Cond.fieldLink "PretendDeskModel" 38 "PretendDeskModel" "stack" "[I" ∈ zTb := zTb_in (zT6 (List.mem_of_getElem? (i := 205) (by decide +kernel))) rfl
theorem zm825 : Cond.fieldLink "PretendDeskModel" 41 "PretendDeskModel" "begun" "[I" ∈ zTb := zTb_in (zT6 (List.mem_of_getElem? (i := 206) (by decide +kernel))) rfl
theorem zm826 : Cond.fieldLink "PretendDeskModel" 44 "PretendDeskModel" "many" "[I" ∈ zTb := zTb_in (zT6 (List.mem_of_getElem? (i := 207) (by decide +kernel))) rfl
theorem zm827 : Cond.fieldLink "PretendDeskModel" 47 "PretendDeskModel" "kinds" "[I" ∈ zTb := zTb_in (zT6 (List.mem_of_getElem? (i := 208) (by decide +kernel))) rfl
theorem zm828 : Cond.fieldLink "PretendDeskModel" 50 "PretendDeskModel" "colours" "[I" ∈ zTb := zTb_in (zT6 (List.mem_of_getElem? (i := 209) (by decide +kernel))) rfl
theorem zm829 : Cond.fieldLink "PretendDeskModel" 53 "PretendDeskModel" "first" "[I" ∈ zTb := zTb_in (zT6 (List.mem_of_getElem? (i := 210) (by decide +kernel))) rfl
theorem zm830 : Cond.fieldLink "PretendDeskModel" 56 "PretendDeskModel" "apart" "[I" ∈ zTb := zTb_in (zT6 (List.mem_of_getElem? (i := 213) (by decide +kernel))) rfl
theorem zm831 : Cond.fieldLink "PretendDeskModel" 59 "PretendDeskModel" "row" "[I" ∈ zTb := zTb_in (zT6 (List.mem_of_getElem? (i := 214) (by decide +kernel))) rfl
theorem zm832 : Cond.fieldLink "PretendDeskModel" 62 "PretendDeskModel" "caseLook" "[I" ∈ zTb := zTb_in (zT6 (List.mem_of_getElem? (i := 220) (by decide +kernel))) rfl
theorem zm833 : Cond.fieldLink "PretendDeskModel" 65 "PretendDeskModel" "caseAsk" "[I" ∈ zTb := zTb_in (zT6 (List.mem_of_getElem? (i := 221) (by decide +kernel))) rfl
theorem zm834 : Cond.fieldLink "PretendDeskModel" 68 "PretendDeskModel" "caseAge" "[I" ∈ zTb := zTb_in (zT6 (List.mem_of_getElem? (i := 222) (by decide +kernel))) rfl
theorem zm835 : Cond.fieldLink "PretendDeskModel" 71 "PretendDeskModel" "told" "[I" ∈ zTb := zTb_in (zT6 (List.mem_of_getElem? (i := 223) (by decide +kernel))) rfl
theorem zm836 : Cond.fieldLink "PretendDeskModel" 74 "PretendDeskModel" "fitted" "[I" ∈ zTb := zTb_in (zT6 (List.mem_of_getElem? (i := 224) (by decide +kernel))) rfl
theorem zm837 : Cond.fieldLink "PretendDeskModel" 77 "PretendDeskModel" "line" "[I" ∈ zTb := zTb_in (zT6 (List.mem_of_getElem? (i := 228) (by decide +kernel))) rfl
theorem zm838 : Cond.fieldLink "PretendDeskModel" 80 "PretendDeskModel" "register" "[I" ∈ zTb := zTb_in (zT6 (List.mem_of_getElem? (i := 229) (by decide +kernel))) rfl
theorem zm839 : Cond.fieldLink "PretendDeskModel" 83 "PretendDeskModel" "traces" "[I" ∈ zTb := zTb_in (zT6 (List.mem_of_getElem? (i := 230) (by decide +kernel))) rfl
theorem zm840 : Cond.fieldLink "PretendDeskModel" 86 "PretendDeskModel" "come" "[I" ∈ zTb := zTb_in (zT6 (List.mem_of_getElem? (i := 231) (by decide +kernel))) rfl
theorem zm841 : Cond.methodLink "PretendDeskModel" 89 (⟨"PretendDeskModel", "isIn", "(III)Z"⟩ : MethodName) ∈ zTb := zTb_in (zT7 (List.mem_of_getElem? (i := 113) (by decide +kernel))) rfl
theorem zm842 : Cond.code (⟨"PretendDeskModel", "isIn", "(III)Z"⟩ : MethodName) prog_14_method_2_code 3 (some (.boolean)) ∈ zTb := zTb_in (zT7 (List.mem_of_getElem? (i := 115) (by decide +kernel))) rfl
theorem zm843 : Cond.static (⟨"PretendDeskModel", "isIn", "(III)Z"⟩ : MethodName) ∈ zTb := zTb_in (zT7 (List.mem_of_getElem? (i := 114) (by decide +kernel))) rfl
theorem zm844 : Cond.initialized "PretendDeskModel" ∈ zTb := zTb_in (zT1 (List.mem_of_getElem? (i := 17) (by decide +kernel))) rfl
theorem zm845 : Cond.methodLink "PretendDeskModel" 93 (⟨"PretendDeskModel", "pageAt", "(I)I"⟩ : MethodName) ∈ zTb := zTb_in (zT7 (List.mem_of_getElem? (i := 184) (by decide +kernel))) rfl
theorem zm846 : Cond.code (⟨"PretendDeskModel", "pageAt", "(I)I"⟩ : MethodName) prog_14_method_8_code 1 (some (.int)) ∈ zTb := zTb_in (zT7 (List.mem_of_getElem? (i := 186) (by decide +kernel))) rfl
theorem zm847 : Cond.static (⟨"PretendDeskModel", "pageAt", "(I)I"⟩ : MethodName) ∈ zTb := zTb_in (zT7 (List.mem_of_getElem? (i := 185) (by decide +kernel))) rfl
theorem zm848 : Cond.methodLink "PretendDeskModel" 97 (⟨"PretendDeskModel", "houseAt", "(I)I"⟩ : MethodName) ∈ zTb := zTb_in (zT7 (List.mem_of_getElem? (i := 116) (by decide +kernel))) rfl
theorem zm849 : Cond.code (⟨"PretendDeskModel", "houseAt", "(I)I"⟩ : MethodName) prog_14_method_7_code 1 (some (.int)) ∈ zTb := zTb_in (zT7 (List.mem_of_getElem? (i := 118) (by decide +kernel))) rfl
theorem zm850 : Cond.static (⟨"PretendDeskModel", "houseAt", "(I)I"⟩ : MethodName) ∈ zTb := zTb_in (zT7 (List.mem_of_getElem? (i := 117) (by decide +kernel))) rfl
theorem zm851 : Cond.fieldLink "PretendDeskModel" 100 "PretendDeskModel" "size" "I" ∈ zTb := zTb_in (zT6 (List.mem_of_getElem? (i := 187) (by decide +kernel))) rfl
theorem zm852 : Cond.methodLink "PretendDeskModel" 104 (⟨"PretendDeskModel", "three", "(III)I"⟩ : MethodName) ∈ zTb := zTb_in (zT7 (List.mem_of_getElem? (i := 137) (by decide +kernel))) rfl
theorem zm853 : Cond.code (⟨"PretendDeskModel", "three", "(III)I"⟩ : MethodName) prog_14_method_17_code 3 (some (.int)) ∈ zTb := zTb_in (zT7 (List.mem_of_getElem? (i := 139) (by decide +kernel))) rfl
theorem zm854 : Cond.static (⟨"PretendDeskModel", "three", "(III)I"⟩ : MethodName) ∈ zTb := zTb_in (zT7 (List.mem_of_getElem? (i := 138) (by decide +kernel))) rfl
theorem zm855 : Cond.methodLink "PretendDeskModel" 108 (⟨"PretendDeskModel", "four", "(IIII)I"⟩ : MethodName) ∈ zTb := zTb_in (zT7 (List.mem_of_getElem? (i := 140) (by decide +kernel))) rfl
theorem zm856 : Cond.code (⟨"PretendDeskModel", "four", "(IIII)I"⟩ : MethodName) prog_14_method_18_code 4 (some (.int)) ∈ zTb := zTb_in (zT7 (List.mem_of_getElem? (i := 142) (by decide +kernel))) rfl
theorem zm857 : Cond.static (⟨"PretendDeskModel", "four", "(IIII)I"⟩ : MethodName) ∈ zTb := zTb_in (zT7 (List.mem_of_getElem? (i := 141) (by decide +kernel))) rfl
theorem zm858 : Cond.methodLink "PretendDeskModel" 112 (⟨"PretendDeskModel", "two", "(II)I"⟩ : MethodName) ∈ zTb := zTb_in (zT7 (List.mem_of_getElem? (i := 143) (by decide +kernel))) rfl
theorem zm859 : Cond.code (⟨"PretendDeskModel", "two", "(II)I"⟩ : MethodName) prog_14_method_16_code 2 (some (.int)) ∈ zTb := zTb_in (zT7 (List.mem_of_getElem? (i := 145) (by decide +kernel))) rfl
theorem zm860 : Cond.static (⟨"PretendDeskModel", "two", "(II)I"⟩ : MethodName) ∈ zTb := zTb_in (zT7 (List.mem_of_getElem? (i := 144) (by decide +kernel))) rfl
theorem zm861 : Cond.fieldLink "PretendDeskModel" 116 "PretendDeskModel" "next" "I" ∈ zTb := zTb_in (zT6 (List.mem_of_getElem? (i := 188) (by decide +kernel))) rfl
theorem zm862 : Cond.methodLink "PretendDeskModel" 119 (⟨"PretendDeskModel", "byteAt", "(I)I"⟩ : MethodName) ∈ zTb := zTb_in (zT7 (List.mem_of_getElem? (i := 127) (by decide +kernel))) rfl
theorem zm863 : Cond.code (⟨"PretendDeskModel", "byteAt", "(I)I"⟩ : MethodName) prog_14_method_13_code 2 (some (.int)) ∈ zTb := zTb_in (zT7 (List.mem_of_getElem? (i := 130) (by decide +kernel))) rfl
theorem zm864 : Cond.instanceMethod (⟨"PretendDeskModel", "byteAt", "(I)I"⟩ : MethodName) ∈ zTb := zTb_in (zT7 (List.mem_of_getElem? (i := 129) (by decide +kernel))) rfl
theorem zm865 : Cond.selects "PretendDeskModel" (⟨"PretendDeskModel", "byteAt", "(I)I"⟩ : MethodName) (⟨"PretendDeskModel", "byteAt", "(I)I"⟩ : MethodName) ∈ zTb := zTb_in (zT0 (List.mem_of_getElem? (i := 48) (by decide +kernel))) rfl
theorem zm866 : Cond.fieldLink "PretendDeskModel" 122 "PretendDeskModel" "where" "I" ∈ zTb := zTb_in (zT6 (List.mem_of_getElem? (i := 189) (by decide +kernel))) rfl
theorem zm867 : Cond.methodLink "PretendDeskModel" 128 (⟨"PretendDeskModel", "isLetter", "(I)Z"⟩ : MethodName) ∈ zTb := zTb_in (zT7 (List.mem_of_getElem? (i := 131) (by decide +kernel))) rfl
theorem zm868 : Cond.code (⟨"PretendDeskModel", "isLetter", "(I)Z"⟩ : MethodName) prog_14_method_14_code 1 (some (.boolean)) ∈ zTb := zTb_in (zT7 (List.mem_of_getElem? (i := 133) (by decide +kernel))) rfl
theorem zm869 : Cond.static (⟨"PretendDeskModel", "isLetter", "(I)Z"⟩ : MethodName) ∈ zTb := zTb_in (zT7 (List.mem_of_getElem? (i := 132) (by decide +kernel))) rfl
theorem zm870 : Cond.methodLink "PretendDeskModel" 138 (⟨"PretendDeskModel", "isDigit", "(I)Z"⟩ : MethodName) ∈ zTb := zTb_in (zT7 (List.mem_of_getElem? (i := 146) (by decide +kernel))) rfl
theorem zm871 : Cond.code (⟨"PretendDeskModel", "isDigit", "(I)Z"⟩ : MethodName) prog_14_method_15_code 1 (some (.boolean)) ∈ zTb := zTb_in (zT7 (List.mem_of_getElem? (i := 148) (by decide +kernel))) rfl
theorem zm872 : Cond.static (⟨"PretendDeskModel", "isDigit", "(I)Z"⟩ : MethodName) ∈ zTb := zTb_in (zT7 (List.mem_of_getElem? (i := 147) (by decide +kernel))) rfl
theorem zm873 : Cond.fieldLink "PretendDeskModel" 144 "PretendDeskModel" "sign" "I" ∈ zTb := zTb_in (zT6 (List.mem_of_getElem? (i := 192) (by decide +kernel))) rfl
theorem zm874 : Cond.fieldLink "PretendDeskModel" 141 "PretendDeskModel" "number" "I" ∈ zTb := zTb_in (zT6 (List.mem_of_getElem? (i := 191) (by decide +kernel))) rfl
theorem zm875 : Cond.fieldLink "PretendDeskModel" 125 "PretendDeskModel" "token" "I" ∈ zTb := zTb_in (zT6 (List.mem_of_getElem? (i := 190) (by decide +kernel))) rfl
theorem zm876 : Cond.methodLink "PretendDeskModel" 132 (⟨"PretendDeskModel", "wordOf", "(I)I"⟩ : MethodName) ∈ zTb := zTb_in (zT7 (List.mem_of_getElem? (i := 134) (by decide +kernel))) rfl
theorem zm877 : Cond.code (⟨"PretendDeskModel", "wordOf", "(I)I"⟩ : MethodName) prog_14_method_19_code 1 (some (.int)) ∈ zTb := zTb_in (zT7 (List.mem_of_getElem? (i := 136) (by decide +kernel))) rfl
theorem zm878 : Cond.static (⟨"PretendDeskModel", "wordOf", "(I)I"⟩ : MethodName) ∈ zTb := zTb_in (zT7 (List.mem_of_getElem? (i := 135) (by decide +kernel))) rfl
theorem zm879 : Cond.fieldLink "PretendDeskModel" 135 "PretendDeskModel" "word" "I" ∈ zTb := zTb_in (zT6 (List.mem_of_getElem? (i := 193) (by decide +kernel))) rfl
theorem zm880 : Cond.fieldLink "PretendDeskModel" 147 "PretendDeskModel" "wrong" "Z" ∈ zTb := zTb_in (zT6 (List.mem_of_getElem? (i := 194) (by decide +kernel))) rfl
theorem zm881 : Cond.fieldLink "PretendDeskModel" 151 "PretendDeskModel" "boxes" "I" ∈ zTb := zTb_in (zT6 (List.mem_of_getElem? (i := 195) (by decide +kernel))) rfl
theorem zm882 : Cond.fieldLink "PretendDeskModel" 154 "PretendDeskModel" "depth" "I" ∈ zTb := zTb_in (zT6 (List.mem_of_getElem? (i := 196) (by decide +kernel))) rfl
theorem zm883 : Cond.methodLink "PretendDeskModel" 160 (⟨"PretendDeskModel", "also", "(II)V"⟩ : MethodName) ∈ zTb := zTb_in (zT7 (List.mem_of_getElem? (i := 157) (by decide +kernel))) rfl
theorem zm884 : Cond.code (⟨"PretendDeskModel", "also", "(II)V"⟩ : MethodName) prog_14_method_22_code 3 none ∈ zTb := zTb_in (zT7 (List.mem_of_getElem? (i := 160) (by decide +kernel))) rfl
theorem zm885 : Cond.instanceMethod (⟨"PretendDeskModel", "also", "(II)V"⟩ : MethodName) ∈ zTb := zTb_in (zT7 (List.mem_of_getElem? (i := 159) (by decide +kernel))) rfl
theorem zm886 : Cond.selects "PretendDeskModel" (⟨"PretendDeskModel", "also", "(II)V"⟩ : MethodName) (⟨"PretendDeskModel", "also", "(II)V"⟩ : MethodName) ∈ zTb := zTb_in (zT0 (List.mem_of_getElem? (i := 51) (by decide +kernel))) rfl
theorem zm887 : Cond.methodLink "PretendDeskModel" 157 (⟨"PretendDeskModel", "ends", "()V"⟩ : MethodName) ∈ zTb := zTb_in (zT7 (List.mem_of_getElem? (i := 153) (by decide +kernel))) rfl
theorem zm888 : Cond.code (⟨"PretendDeskModel", "ends", "()V"⟩ : MethodName) prog_14_method_21_code 1 none ∈ zTb := zTb_in (zT7 (List.mem_of_getElem? (i := 156) (by decide +kernel))) rfl
theorem zm889 : Cond.instanceMethod (⟨"PretendDeskModel", "ends", "()V"⟩ : MethodName) ∈ zTb := zTb_in (zT7 (List.mem_of_getElem? (i := 155) (by decide +kernel))) rfl
theorem zm890 : Cond.selects "PretendDeskModel" (⟨"PretendDeskModel", "ends", "()V"⟩ : MethodName) (⟨"PretendDeskModel", "ends", "()V"⟩ : MethodName) ∈ zTb := zTb_in (zT0 (List.mem_of_getElem? (i := 50) (by decide +kernel))) rfl
theorem zm891 : Cond.methodLink "PretendDeskModel" 164 (⟨"PretendDeskModel", "advance", "()V"⟩ : MethodName) ∈ zTb := zTb_in (zT7 (List.mem_of_getElem? (i := 123) (by decide +kernel))) rfl
theorem zm892 : Cond.code (⟨"PretendDeskModel", "advance", "()V"⟩ : MethodName) prog_14_method_20_code 3 none ∈ zTb := zTb_in (zT7 (List.mem_of_getElem? (i := 126) (by decide +kernel))) rfl
theorem zm893 : Cond.instanceMethod (⟨"PretendDeskModel", "advance", "()V"⟩ : MethodName) ∈ zTb := zTb_in (zT7 (List.mem_of_getElem? (i := 125) (by decide +kernel))) rfl
theorem zm894 : Cond.selects "PretendDeskModel" (⟨"PretendDeskModel", "advance", "()V"⟩ : MethodName) (⟨"PretendDeskModel", "advance", "()V"⟩ : MethodName) ∈ zTb := zTb_in (zT0 (List.mem_of_getElem? (i := 47) (by decide +kernel))) rfl
theorem zm895 : Cond.methodLink "PretendDeskModel" 167 (⟨"PretendDeskModel", "numbered", "(I)I"⟩ : MethodName) ∈ zTb := zTb_in (zT7 (List.mem_of_getElem? (i := 161) (by decide +kernel))) rfl
theorem zm896 : Cond.code (⟨"PretendDeskModel", "numbered", "(I)I"⟩ : MethodName) prog_14_method_24_code 3 (some (.int)) ∈ zTb := zTb_in (zT7 (List.mem_of_getElem? (i := 164) (by decide +kernel))) rfl
theorem zm897 : Cond.instanceMethod (⟨"PretendDeskModel", "numbered", "(I)I"⟩ : MethodName) ∈ zTb := zTb_in (zT7 (List.mem_of_getElem? (i := 163) (by decide +kernel))) rfl
theorem zm898 : Cond.selects "PretendDeskModel" (⟨"PretendDeskModel", "numbered", "(I)I"⟩ : MethodName) (⟨"PretendDeskModel", "numbered", "(I)I"⟩ : MethodName) ∈ zTb := zTb_in (zT0 (List.mem_of_getElem? (i := 52) (by decide +kernel))) rfl
theorem zm899 : Cond.methodLink "PretendDeskModel" 170 (⟨"PretendDeskModel", "isWord", "(I)Z"⟩ : MethodName) ∈ zTb := zTb_in (zT7 (List.mem_of_getElem? (i := 165) (by decide +kernel))) rfl
theorem zm900 : Cond.code (⟨"PretendDeskModel", "isWord", "(I)Z"⟩ : MethodName) prog_14_method_25_code 2 (some (.boolean)) ∈ zTb := zTb_in (zT7 (List.mem_of_getElem? (i := 168) (by decide +kernel))) rfl
theorem zm901 : Cond.instanceMethod (⟨"PretendDeskModel", "isWord", "(I)Z"⟩ : MethodName) ∈ zTb := zTb_in (zT7 (List.mem_of_getElem? (i := 167) (by decide +kernel))) rfl
theorem zm902 : Cond.selects "PretendDeskModel" (⟨"PretendDeskModel", "isWord", "(I)Z"⟩ : MethodName) (⟨"PretendDeskModel", "isWord", "(I)Z"⟩ : MethodName) ∈ zTb := zTb_in (zT0 (List.mem_of_getElem? (i := 53) (by decide +kernel))) rfl
theorem zm903 : Cond.methodLink "PretendDeskModel" 173 (⟨"PretendDeskModel", "isSign", "(I)Z"⟩ : MethodName) ∈ zTb := zTb_in (zT7 (List.mem_of_getElem? (i := 169) (by decide +kernel))) rfl
theorem zm904 : Cond.code (⟨"PretendDeskModel", "isSign", "(I)Z"⟩ : MethodName) prog_14_method_26_code 2 (some (.boolean)) ∈ zTb := zTb_in (zT7 (List.mem_of_getElem? (i := 172) (by decide +kernel))) rfl
theorem zm905 : Cond.instanceMethod (⟨"PretendDeskModel", "isSign", "(I)Z"⟩ : MethodName) ∈ zTb := zTb_in (zT7 (List.mem_of_getElem? (i := 171) (by decide +kernel))) rfl
theorem zm906 : Cond.selects "PretendDeskModel" (⟨"PretendDeskModel", "isSign", "(I)Z"⟩ : MethodName) (⟨"PretendDeskModel", "isSign", "(I)Z"⟩ : MethodName) ∈ zTb := zTb_in (zT0 (List.mem_of_getElem? (i := 54) (by decide +kernel))) rfl
theorem zm907 : Cond.methodLink "PretendDeskModel" 176 (⟨"PretendDeskModel", "aBox", "()V"⟩ : MethodName) ∈ zTb := zTb_in (zT7 (List.mem_of_getElem? (i := 149) (by decide +kernel))) rfl
theorem zm908 : Cond.code (⟨"PretendDeskModel", "aBox", "()V"⟩ : MethodName) prog_14_method_27_code 3 none ∈ zTb := zTb_in (zT7 (List.mem_of_getElem? (i := 152) (by decide +kernel))) rfl
theorem zm909 : Cond.instanceMethod (⟨"PretendDeskModel", "aBox", "()V"⟩ : MethodName) ∈ zTb := zTb_in (zT7 (List.mem_of_getElem? (i := 151) (by decide +kernel))) rfl
theorem zm910 : Cond.selects "PretendDeskModel" (⟨"PretendDeskModel", "aBox", "()V"⟩ : MethodName) (⟨"PretendDeskModel", "aBox", "()V"⟩ : MethodName) ∈ zTb := zTb_in (zT0 (List.mem_of_getElem? (i := 49) (by decide +kernel))) rfl
theorem zm911 : Cond.methodLink "PretendDeskModel" 179 (⟨"PretendDeskModel", "begins", "()V"⟩ : MethodName) ∈ zTb := zTb_in (zT7 (List.mem_of_getElem? (i := 105) (by decide +kernel))) rfl
theorem zm912 : Cond.code (⟨"PretendDeskModel", "begins", "()V"⟩ : MethodName) prog_14_method_23_code 1 none ∈ zTb := zTb_in (zT7 (List.mem_of_getElem? (i := 108) (by decide +kernel))) rfl
theorem zm913 : Cond.instanceMethod (⟨"PretendDeskModel", "begins", "()V"⟩ : MethodName) ∈ zTb := zTb_in (zT7 (List.mem_of_getElem? (i := 107) (by decide +kernel))) rfl
theorem zm914 : Cond.selects "PretendDeskModel" (⟨"PretendDeskModel", "begins", "()V"⟩ : MethodName) (⟨"PretendDeskModel", "begins", "()V"⟩ : MethodName) ∈ zTb := zTb_in (zT0 (List.mem_of_getElem? (i := 44) (by decide +kernel))) rfl
theorem zm915 : Cond.methodLink "PretendDeskModel" 182 (⟨"PretendDeskModel", "isHouse", "(I)Z"⟩ : MethodName) ∈ zTb := zTb_in (zT7 (List.mem_of_getElem? (i := 109) (by decide +kernel))) rfl
theorem zm916 : Cond.code (⟨"PretendDeskModel", "isHouse", "(I)Z"⟩ : MethodName) prog_14_method_4_code 2 (some (.boolean)) ∈ zTb := zTb_in (zT7 (List.mem_of_getElem? (i := 112) (by decide +kernel))) rfl
theorem zm917 : Cond.instanceMethod (⟨"PretendDeskModel", "isHouse", "(I)Z"⟩ : MethodName) ∈ zTb := zTb_in (zT7 (List.mem_of_getElem? (i := 111) (by decide +kernel))) rfl
theorem zm918 : Cond.selects "PretendDeskModel" (⟨"PretendDeskModel", "isHouse", "(I)Z"⟩ : MethodName) (⟨"PretendDeskModel", "isHouse", "(I)Z"⟩ : MethodName) ∈ zTb := zTb_in (zT0 (List.mem_of_getElem? (i := 45) (by decide +kernel))) rfl
theorem zm919 : Cond.methodLink "PretendDeskModel" 185 (⟨"PretendDeskModel", "reads", "()Z"⟩ : MethodName) ∈ zTb := zTb_in (zT7 (List.mem_of_getElem? (i := 119) (by decide +kernel))) rfl
theorem zm920 : Cond.code (⟨"PretendDeskModel", "reads", "()Z"⟩ : MethodName) prog_14_method_28_code 1 (some (.boolean)) ∈ zTb := zTb_in (zT7 (List.mem_of_getElem? (i := 122) (by decide +kernel))) rfl
theorem zm921 : Cond.instanceMethod (⟨"PretendDeskModel", "reads", "()Z"⟩ : MethodName) ∈ zTb := zTb_in (zT7 (List.mem_of_getElem? (i := 121) (by decide +kernel))) rfl
theorem zm922 : Cond.selects "PretendDeskModel" (⟨"PretendDeskModel", "reads", "()Z"⟩ : MethodName) (⟨"PretendDeskModel", "reads", "()Z"⟩ : MethodName) ∈ zTb := zTb_in (zT0 (List.mem_of_getElem? (i := 46) (by decide +kernel))) rfl
theorem zm923 : Cond.methodLink "PretendDeskModel" 189 (⟨"PretendDeskModel", "ownTree", "(II)I"⟩ : MethodName) ∈ zTb := zTb_in (zT7 (List.mem_of_getElem? (i := 173) (by decide +kernel))) rfl
theorem zm924 : Cond.code (⟨"PretendDeskModel", "ownTree", "(II)I"⟩ : MethodName) prog_14_method_10_code 2 (some (.int)) ∈ zTb := zTb_in (zT7 (List.mem_of_getElem? (i := 175) (by decide +kernel))) rfl
theorem zm925 : Cond.static (⟨"PretendDeskModel", "ownTree", "(II)I"⟩ : MethodName) ∈ zTb := zTb_in (zT7 (List.mem_of_getElem? (i := 174) (by decide +kernel))) rfl
theorem zm926 : Cond.methodLink "PretendDeskModel" 192 (⟨"PretendDeskModel", "keeps", "(I)V"⟩ : MethodName) ∈ zTb := zTb_in (zT7 (List.mem_of_getElem? (i := 176) (by decide +kernel))) rfl
theorem zm927 : Cond.code (⟨"PretendDeskModel", "keeps", "(I)V"⟩ : MethodName) prog_14_method_29_code 3 none ∈ zTb := zTb_in (zT7 (List.mem_of_getElem? (i := 179) (by decide +kernel))) rfl
theorem zm928 : Cond.instanceMethod (⟨"PretendDeskModel", "keeps", "(I)V"⟩ : MethodName) ∈ zTb := zTb_in (zT7 (List.mem_of_getElem? (i := 178) (by decide +kernel))) rfl
theorem zm929 : Cond.selects "PretendDeskModel" (⟨"PretendDeskModel", "keeps", "(I)V"⟩ : MethodName) (⟨"PretendDeskModel", "keeps", "(I)V"⟩ : MethodName) ∈ zTb := zTb_in (zT0 (List.mem_of_getElem? (i := 55) (by decide +kernel))) rfl
theorem zm930 : Cond.methodLink "PretendDeskModel" 196 (⟨"PretendDeskModel", "signOf", "(I)I"⟩ : MethodName) ∈ zTb := zTb_in (zT7 (List.mem_of_getElem? (i := 195) (by decide +kernel))) rfl
theorem zm931 : Cond.code (⟨"PretendDeskModel", "signOf", "(I)I"⟩ : MethodName) prog_14_method_32_code 1 (some (.int)) ∈ zTb := zTb_in (zT7 (List.mem_of_getElem? (i := 197) (by decide +kernel))) rfl
theorem zm932 : Cond.static (⟨"PretendDeskModel", "signOf", "(I)I"⟩ : MethodName) ∈ zTb := zTb_in (zT7 (List.mem_of_getElem? (i := 196) (by decide +kernel))) rfl
theorem zm933 : Cond.methodLink "PretendDeskModel" 199 (⟨"PretendDeskModel", "named", "(I)Z"⟩ : MethodName) ∈ zTb := zTb_in (zT7 (List.mem_of_getElem? (i := 191) (by decide +kernel))) rfl
theorem zm934 : Cond.code (⟨"PretendDeskModel", "named", "(I)Z"⟩ : MethodName) prog_14_method_33_code 4 (some (.boolean)) ∈ zTb := zTb_in (zT7 (List.mem_of_getElem? (i := 194) (by decide +kernel))) rfl
theorem zm935 : Cond.instanceMethod (⟨"PretendDeskModel", "named", "(I)Z"⟩ : MethodName) ∈ zTb := zTb_in (zT7 (List.mem_of_getElem? (i := 193) (by decide +kernel))) rfl
theorem zm936 : Cond.selects "PretendDeskModel" (⟨"PretendDeskModel", "named", "(I)Z"⟩ : MethodName) (⟨"PretendDeskModel", "named", "(I)Z"⟩ : MethodName) ∈ zTb := zTb_in (zT0 (List.mem_of_getElem? (i := 56) (by decide +kernel))) rfl
theorem zm937 : Cond.methodLink "PretendDeskModel" 202 (⟨"PretendDeskModel", "isPage", "(I)Z"⟩ : MethodName) ∈ zTb := zTb_in (zT7 (List.mem_of_getElem? (i := 202) (by decide +kernel))) rfl
theorem zm938 : Cond.code (⟨"PretendDeskModel", "isPage", "(I)Z"⟩ : MethodName) prog_14_method_5_code 2 (some (.boolean)) ∈ zTb := zTb_in (zT7 (List.mem_of_getElem? (i := 205) (by decide +kernel))) rfl
theorem zm939 : Cond.instanceMethod (⟨"PretendDeskModel", "isPage", "(I)Z"⟩ : MethodName) ∈ zTb := zTb_in (zT7 (List.mem_of_getElem? (i := 204) (by decide +kernel))) rfl
theorem zm940 : Cond.selects "PretendDeskModel" (⟨"PretendDeskModel", "isPage", "(I)Z"⟩ : MethodName) (⟨"PretendDeskModel", "isPage", "(I)Z"⟩ : MethodName) ∈ zTb := zTb_in (zT0 (List.mem_of_getElem? (i := 57) (by decide +kernel))) rfl
theorem zm941 : Cond.methodLink "PretendDeskModel" 205 (⟨"PretendDeskModel", "lesser", "(II)I"⟩ : MethodName) ∈ zTb := zTb_in (zT7 (List.mem_of_getElem? (i := 222) (by decide +kernel))) rfl
theorem zm942 : Cond.code (⟨"PretendDeskModel", "lesser", "(II)I"⟩ : MethodName) prog_14_method_39_code 2 (some (.int)) ∈ zTb := zTb_in (zT7 (List.mem_of_getElem? (i := 224) (by decide +kernel))) rfl
theorem zm943 : Cond.static (⟨"PretendDeskModel", "lesser", "(II)I"⟩ : MethodName) ∈ zTb := zTb_in (zT7 (List.mem_of_getElem? (i := 223) (by decide +kernel))) rfl
theorem zm944 : Cond.methodLink "PretendDeskModel" 208 (⟨"PretendDeskModel", "priceOf", "(II)I"⟩ : MethodName) ∈ zTb := zTb_in (zT7 (List.mem_of_getElem? (i := 225) (by decide +kernel))) rfl
theorem zm945 : Cond.code (⟨"PretendDeskModel", "priceOf", "(II)I"⟩ : MethodName) prog_14_method_38_code 4 (some (.int)) ∈ zTb := zTb_in (zT7 (List.mem_of_getElem? (i := 228) (by decide +kernel))) rfl
theorem zm946 : Cond.instanceMethod (⟨"PretendDeskModel", "priceOf", "(II)I"⟩ : MethodName) ∈ zTb := zTb_in (zT7 (List.mem_of_getElem? (i := 227) (by decide +kernel))) rfl
theorem zm947 : Cond.selects "PretendDeskModel" (⟨"PretendDeskModel", "priceOf", "(II)I"⟩ : MethodName) (⟨"PretendDeskModel", "priceOf", "(II)I"⟩ : MethodName) ∈ zTb := zTb_in (zT0 (List.mem_of_getElem? (i := 59) (by decide +kernel))) rfl
theorem zm948 : Cond.methodLink "PretendDeskModel" 211 (⟨"PretendDeskModel", "spells", "(II)I"⟩ : MethodName) ∈ zTb := zTb_in (zT7 (List.mem_of_getElem? (i := 218) (by decide +kernel))) rfl
theorem zm949 : Cond.code (⟨"PretendDeskModel", "spells", "(II)I"⟩ : MethodName) prog_14_method_40_code 6 (some (.int)) ∈ zTb := zTb_in (zT7 (List.mem_of_getElem? (i := 221) (by decide +kernel))) rfl
theorem zm950 : Cond.instanceMethod (⟨"PretendDeskModel", "spells", "(II)I"⟩ : MethodName) ∈ zTb := zTb_in (zT7 (List.mem_of_getElem? (i := 220) (by decide +kernel))) rfl
theorem zm951 : Cond.selects "PretendDeskModel" (⟨"PretendDeskModel", "spells", "(II)I"⟩ : MethodName) (⟨"PretendDeskModel", "spells", "(II)I"⟩ : MethodName) ∈ zTb := zTb_in (zT0 (List.mem_of_getElem? (i := 58) (by decide +kernel))) rfl
theorem zm952 : Cond.constant "PretendDeskModel" 214 (1048575 : Int32) ∈ zTb := zTb_in (zT7 (List.mem_of_getElem? (i := 233) (by decide +kernel))) rfl
theorem zm953 : Cond.fieldLink "PretendDeskModel" 215 "PretendDeskModel" "tree" "I" ∈ zTb := zTb_in (zT6 (List.mem_of_getElem? (i := 200) (by decide +kernel))) rfl
theorem zm954 : Cond.methodLink "PretendDeskModel" 218 (⟨"PretendDeskModel", "boxOf", "(II)I"⟩ : MethodName) ∈ zTb := zTb_in (zT8 (List.mem_of_getElem? (i := 12) (by decide +kernel))) rfl
theorem zm955 : Cond.code (⟨"PretendDeskModel", "boxOf", "(II)I"⟩ : MethodName) prog_14_method_45_code 3 (some (.int)) ∈ zTb := zTb_in (zT8 (List.mem_of_getElem? (i := 15) (by decide +kernel))) rfl
theorem zm956 : Cond.instanceMethod (⟨"PretendDeskModel", "boxOf", "(II)I"⟩ : MethodName) ∈ zTb := zTb_in (zT8 (List.mem_of_getElem? (i := 14) (by decide +kernel))) rfl
theorem zm957 : Cond.selects "PretendDeskModel" (⟨"PretendDeskModel", "boxOf", "(II)I"⟩ : MethodName) (⟨"PretendDeskModel", "boxOf", "(II)I"⟩ : MethodName) ∈ zTb := zTb_in (zT0 (List.mem_of_getElem? (i := 61) (by decide +kernel))) rfl
theorem zm958 : Cond.fieldLink "PretendDeskModel" 221 "PretendDeskModel" "opened" "I" ∈ zTb := zTb_in (zT6 (List.mem_of_getElem? (i := 211) (by decide +kernel))) rfl
theorem zm959 : Cond.fieldLink "PretendDeskModel" 224 "PretendDeskModel" "asked" "I" ∈ zTb := zTb_in (zT6 (List.mem_of_getElem? (i := 212) (by decide +kernel))) rfl
theorem zm960 : Cond.methodLink "PretendDeskModel" 227 (⟨"PretendDeskModel", "closes", "(II)V"⟩ : MethodName) ∈ zTb := zTb_in (zT8 (List.mem_of_getElem? (i := 20) (by decide +kernel))) rfl
theorem zm961 : Cond.code (⟨"PretendDeskModel", "closes", "(II)V"⟩ : MethodName) prog_14_method_47_code 4 none ∈ zTb := zTb_in (zT8 (List.mem_of_getElem? (i := 23) (by decide +kernel))) rfl
theorem zm962 : Cond.instanceMethod (⟨"PretendDeskModel", "closes", "(II)V"⟩ : MethodName) ∈ zTb := zTb_in (zT8 (List.mem_of_getElem? (i := 22) (by decide +kernel))) rfl
theorem zm963 : Cond.selects "PretendDeskModel" (⟨"PretendDeskModel", "closes", "(II)V"⟩ : MethodName) (⟨"PretendDeskModel", "closes", "(II)V"⟩ : MethodName) ∈ zTb := zTb_in (zT0 (List.mem_of_getElem? (i := 63) (by decide +kernel))) rfl
theorem zm964 : Cond.methodLink "PretendDeskModel" 230 (⟨"PretendDeskModel", "without", "(I)I"⟩ : MethodName) ∈ zTb := zTb_in (zT8 (List.mem_of_getElem? (i := 48) (by decide +kernel))) rfl
theorem zm965 : Cond.code (⟨"PretendDeskModel", "without", "(I)I"⟩ : MethodName) prog_14_method_50_code 2 (some (.int)) ∈ zTb := zTb_in (zT8 (List.mem_of_getElem? (i := 51) (by decide +kernel))) rfl
theorem zm966 : Cond.instanceMethod (⟨"PretendDeskModel", "without", "(I)I"⟩ : MethodName) ∈ zTb := zTb_in (zT8 (List.mem_of_getElem? (i := 50) (by decide +kernel))) rfl
theorem zm967 : Cond.selects "PretendDeskModel" (⟨"PretendDeskModel", "without", "(I)I"⟩ : MethodName) (⟨"PretendDeskModel", "without", "(I)I"⟩ : MethodName) ∈ zTb := zTb_in (zT0 (List.mem_of_getElem? (i := 68) (by decide +kernel))) rfl
theorem zm968 : Cond.methodLink "PretendDeskModel" 233 (⟨"PretendDeskModel", "changed", "(II)I"⟩ : MethodName) ∈ zTb := zTb_in (zT8 (List.mem_of_getElem? (i := 52) (by decide +kernel))) rfl
theorem zm969 : Cond.code (⟨"PretendDeskModel", "changed", "(II)I"⟩ : MethodName) prog_14_method_49_code 3 (some (.int)) ∈ zTb := zTb_in (zT8 (List.mem_of_getElem? (i := 55) (by decide +kernel))) rfl
theorem zm970 : Cond.instanceMethod (⟨"PretendDeskModel", "changed", "(II)I"⟩ : MethodName) ∈ zTb := zTb_in (zT8 (List.mem_of_getElem? (i := 54) (by decide +kernel))) rfl
theorem zm971 : Cond.selects "PretendDeskModel" (⟨"PretendDeskModel", "changed", "(II)I"⟩ : MethodName) (⟨"PretendDeskModel", "changed", "(II)I"⟩ : MethodName) ∈ zTb := zTb_in (zT0 (List.mem_of_getElem? (i := 69) (by decide +kernel))) rfl
theorem zm972 : Cond.methodLink "PretendDeskModel" 236 (⟨"PretendDeskModel", "isLast", "(II)Z"⟩ : MethodName) ∈ zTb := zTb_in (zT8 (List.mem_of_getElem? (i := 40) (by decide +kernel))) rfl
theorem zm973 : Cond.code (⟨"PretendDeskModel", "isLast", "(II)Z"⟩ : MethodName) prog_14_method_53_code 5 (some (.boolean)) ∈ zTb := zTb_in (zT8 (List.mem_of_getElem? (i := 43) (by decide +kernel))) rfl
theorem zm974 : Cond.instanceMethod (⟨"PretendDeskModel", "isLast", "(II)Z"⟩ : MethodName) ∈ zTb := zTb_in (zT8 (List.mem_of_getElem? (i := 42) (by decide +kernel))) rfl
theorem zm975 : Cond.selects "PretendDeskModel" (⟨"PretendDeskModel", "isLast", "(II)Z"⟩ : MethodName) (⟨"PretendDeskModel", "isLast", "(II)Z"⟩ : MethodName) ∈ zTb := zTb_in (zT0 (List.mem_of_getElem? (i := 66) (by decide +kernel))) rfl
theorem zm976 : Cond.methodLink "PretendDeskModel" 240 (⟨"PretendDeskModel", "lays", "(II)V"⟩ : MethodName) ∈ zTb := zTb_in (zT8 (List.mem_of_getElem? (i := 44) (by decide +kernel))) rfl
theorem zm977 : Cond.code (⟨"PretendDeskModel", "lays", "(II)V"⟩ : MethodName) prog_14_method_51_code 9 none ∈ zTb := zTb_in (zT8 (List.mem_of_getElem? (i := 47) (by decide +kernel))) rfl
theorem zm978 : Cond.instanceMethod (⟨"PretendDeskModel", "lays", "(II)V"⟩ : MethodName) ∈ zTb := zTb_in (zT8 (List.mem_of_getElem? (i := 46) (by decide +kernel))) rfl
theorem zm979 : Cond.selects "PretendDeskModel" (⟨"PretendDeskModel", "lays", "(II)V"⟩ : MethodName) (⟨"PretendDeskModel", "lays", "(II)V"⟩ : MethodName) ∈ zTb := zTb_in (zT0 (List.mem_of_getElem? (i := 67) (by decide +kernel))) rfl
theorem zm980 : Cond.methodLink "PretendDeskModel" 243 (⟨"PretendDeskModel", "takes", "(I)V"⟩ : MethodName) ∈ zTb := zTb_in (zT8 (List.mem_of_getElem? (i := 8) (by decide +kernel))) rfl
theorem zm981 : Cond.code (⟨"PretendDeskModel", "takes", "(I)V"⟩ : MethodName) prog_14_method_46_code 3 none ∈ zTb := zTb_in (zT8 (List.mem_of_getElem? (i := 11) (by decide +kernel))) rfl
theorem zm982 : Cond.instanceMethod (⟨"PretendDeskModel", "takes", "(I)V"⟩ : MethodName) ∈ zTb := zTb_in (zT8 (List.mem_of_getElem? (i := 10) (by decide +kernel))) rfl
theorem zm983 : Cond.selects "PretendDeskModel" (⟨"PretendDeskModel", "takes", "(I)V"⟩ : MethodName) (⟨"PretendDeskModel", "takes", "(I)V"⟩ : MethodName) ∈ zTb := zTb_in (zT0 (List.mem_of_getElem? (i := 60) (by decide +kernel))) rfl
theorem zm984 : Cond.methodLink "PretendDeskModel" 246 (⟨"PretendDeskModel", "opens", "(III)V"⟩ : MethodName) ∈ zTb := zTb_in (zT8 (List.mem_of_getElem? (i := 16) (by decide +kernel))) rfl
theorem zm985 : Cond.code (⟨"PretendDeskModel", "opens", "(III)V"⟩ : MethodName) prog_14_method_48_code 8 none ∈ zTb := zTb_in (zT8 (List.mem_of_getElem? (i := 19) (by decide +kernel))) rfl
theorem zm986 : Cond.instanceMethod (⟨"PretendDeskModel", "opens", "(III)V"⟩ : MethodName) ∈ zTb := zTb_in (zT8 (List.mem_of_getElem? (i := 18) (by decide +kernel))) rfl
theorem zm987 : Cond.selects "PretendDeskModel" (⟨"PretendDeskModel", "opens", "(III)V"⟩ : MethodName) (⟨"PretendDeskModel", "opens", "(III)V"⟩ : MethodName) ∈ zTb := zTb_in (zT0 (List.mem_of_getElem? (i := 62) (by decide +kernel))) rfl
theorem zm988 : Cond.methodLink "PretendDeskModel" 250 (⟨"PretendDeskModel", "farNow", "()I"⟩ : MethodName) ∈ zTb := zTb_in (zT8 (List.mem_of_getElem? (i := 36) (by decide +kernel))) rfl
theorem zm989 : Cond.code (⟨"PretendDeskModel", "farNow", "()I"⟩ : MethodName) prog_14_method_52_code 3 (some (.int)) ∈ zTb := zTb_in (zT8 (List.mem_of_getElem? (i := 39) (by decide +kernel))) rfl
theorem zm990 : Cond.instanceMethod (⟨"PretendDeskModel", "farNow", "()I"⟩ : MethodName) ∈ zTb := zTb_in (zT8 (List.mem_of_getElem? (i := 38) (by decide +kernel))) rfl
theorem zm991 : Cond.selects "PretendDeskModel" (⟨"PretendDeskModel", "farNow", "()I"⟩ : MethodName) (⟨"PretendDeskModel", "farNow", "()I"⟩ : MethodName) ∈ zTb := zTb_in (zT0 (List.mem_of_getElem? (i := 65) (by decide +kernel))) rfl
theorem zm992 : Cond.methodLink "PretendDeskModel" 254 (⟨"PretendDeskModel", "isPerson", "(II)Z"⟩ : MethodName) ∈ zTb := zTb_in (zT8 (List.mem_of_getElem? (i := 2) (by decide +kernel))) rfl
theorem zm993 : Cond.code (⟨"PretendDeskModel", "isPerson", "(II)Z"⟩ : MethodName) prog_14_method_6_code 2 (some (.boolean)) ∈ zTb := zTb_in (zT8 (List.mem_of_getElem? (i := 4) (by decide +kernel))) rfl
theorem zm994 : Cond.static (⟨"PretendDeskModel", "isPerson", "(II)Z"⟩ : MethodName) ∈ zTb := zTb_in (zT8 (List.mem_of_getElem? (i := 3) (by decide +kernel))) rfl
theorem zm995 : Cond.methodLink "PretendDeskModel" 257 (⟨"PretendDeskModel", "treeOf", "(I)I"⟩ : MethodName) ∈ zTb := zTb_in (zT8 (List.mem_of_getElem? (i := 5) (by decide +kernel))) rfl
theorem zm996 : Cond.code (⟨"PretendDeskModel", "treeOf", "(I)I"⟩ : MethodName) prog_14_method_9_code 1 (some (.int)) ∈ zTb := zTb_in (zT8 (List.mem_of_getElem? (i := 7) (by decide +kernel))) rfl
theorem zm997 : Cond.static (⟨"PretendDeskModel", "treeOf", "(I)I"⟩ : MethodName) ∈ zTb := zTb_in (zT8 (List.mem_of_getElem? (i := 6) (by decide +kernel))) rfl
theorem zm998 : Cond.methodLink "PretendDeskModel" 260 (⟨"PretendDeskModel", "farOf", "(IIIIII)I"⟩ : MethodName) ∈ zTb := zTb_in (zT8 (List.mem_of_getElem? (i := 32) (by decide +kernel))) rfl
theorem zm999 : Cond.code (⟨"PretendDeskModel", "farOf", "(IIIIII)I"⟩ : MethodName) prog_14_method_54_code 7 (some (.int)) ∈ zTb := zTb_in (zT8 (List.mem_of_getElem? (i := 35) (by decide +kernel))) rfl
theorem zm1000 : Cond.instanceMethod (⟨"PretendDeskModel", "farOf", "(IIIIII)I"⟩ : MethodName) ∈ zTb := zTb_in (zT8 (List.mem_of_getElem? (i := 34) (by decide +kernel))) rfl
theorem zm1001 : Cond.selects "PretendDeskModel" (⟨"PretendDeskModel", "farOf", "(IIIIII)I"⟩ : MethodName) (⟨"PretendDeskModel", "farOf", "(IIIIII)I"⟩ : MethodName) ∈ zTb := zTb_in (zT0 (List.mem_of_getElem? (i := 64) (by decide +kernel))) rfl
theorem zm1002 : Cond.methodLink "PretendDeskModel" 264 (⟨"PretendDeskModel", "shows", "(III)V"⟩ : MethodName) ∈ zTb := zTb_in (zT8 (List.mem_of_getElem? (i := 60) (by decide +kernel))) rfl
theorem zm1003 : Cond.code (⟨"PretendDeskModel", "shows", "(III)V"⟩ : MethodName) prog_14_method_59_code 4 none ∈ zTb := zTb_in (zT8 (List.mem_of_getElem? (i := 63) (by decide +kernel))) rfl
theorem zm1004 : Cond.instanceMethod (⟨"PretendDeskModel", "shows", "(III)V"⟩ : MethodName) ∈ zTb := zTb_in (zT8 (List.mem_of_getElem? (i := 62) (by decide +kernel))) rfl
theorem zm1005 : Cond.selects "PretendDeskModel" (⟨"PretendDeskModel", "shows", "(III)V"⟩ : MethodName) (⟨"PretendDeskModel", "shows", "(III)V"⟩ : MethodName) ∈ zTb := zTb_in (zT0 (List.mem_of_getElem? (i := 70) (by decide +kernel))) rfl
theorem zm1006 : Cond.methodLink "PretendDeskModel" 267 (⟨"PretendDeskModel", "lookAt", "(III)I"⟩ : MethodName) ∈ zTb := zTb_in (zT8 (List.mem_of_getElem? (i := 64) (by decide +kernel))) rfl
theorem zm1007 : Cond.code (⟨"PretendDeskModel", "lookAt", "(III)I"⟩ : MethodName) prog_14_method_58_code 6 (some (.int)) ∈ zTb := zTb_in (zT8 (List.mem_of_getElem? (i := 67) (by decide +kernel))) rfl
theorem zm1008 : Cond.instanceMethod (⟨"PretendDeskModel", "lookAt", "(III)I"⟩ : MethodName) ∈ zTb := zTb_in (zT8 (List.mem_of_getElem? (i := 66) (by decide +kernel))) rfl
theorem zm1009 : Cond.selects "PretendDeskModel" (⟨"PretendDeskModel", "lookAt", "(III)I"⟩ : MethodName) (⟨"PretendDeskModel", "lookAt", "(III)I"⟩ : MethodName) ∈ zTb := zTb_in (zT0 (List.mem_of_getElem? (i := 71) (by decide +kernel))) rfl
theorem zm1010 : Cond.fieldLink "PretendDeskModel" 270 "PretendDeskModel" "likeLook" "I" ∈ zTb := zTb_in (zT6 (List.mem_of_getElem? (i := 215) (by decide +kernel))) rfl
theorem zm1011 : Cond.methodLink "PretendDeskModel" 273 (⟨"PretendDeskModel", "likeNow", "(II)I"⟩ : MethodName) ∈ zTb := zTb_in (zT8 (List.mem_of_getElem? (i := 72) (by decide +kernel))) rfl
theorem zm1012 : Cond.code (⟨"PretendDeskModel", "likeNow", "(II)I"⟩ : MethodName) prog_14_method_61_code 6 (some (.int)) ∈ zTb := zTb_in (zT8 (List.mem_of_getElem? (i := 75) (by decide +kernel))) rfl
theorem zm1013 : Cond.instanceMethod (⟨"PretendDeskModel", "likeNow", "(II)I"⟩ : MethodName) ∈ zTb := zTb_in (zT8 (List.mem_of_getElem? (i := 74) (by decide +kernel))) rfl
theorem zm1014 : Cond.selects "PretendDeskModel" (⟨"PretendDeskModel", "likeNow", "(II)I"⟩ : MethodName) (⟨"PretendDeskModel", "likeNow", "(II)I"⟩ : MethodName) ∈ zTb := zTb_in (zT0 (List.mem_of_getElem? (i := 72) (by decide +kernel))) rfl
theorem zm1015 : Cond.fieldLink "PretendDeskModel" 276 "PretendDeskModel" "askIs" "I" ∈ zTb := zTb_in (zT6 (List.mem_of_getElem? (i := 218) (by decide +kernel))) rfl
theorem zm1016 : Cond.fieldLink "PretendDeskModel" 279 "PretendDeskModel" "likeIs" "I" ∈ zTb := zTb_in (zT6 (List.mem_of_getElem? (i := 216) (by decide +kernel))) rfl
theorem zm1017 : Cond.fieldLink "PretendDeskModel" 282 "PretendDeskModel" "lookIs" "I" ∈ zTb := zTb_in (zT6 (List.mem_of_getElem? (i := 217) (by decide +kernel))) rfl
theorem zm1018 : Cond.methodLink "PretendDeskModel" 285 (⟨"PretendDeskModel", "isNameOf", "(II)Z"⟩ : MethodName) ∈ zTb := zTb_in (zT8 (List.mem_of_getElem? (i := 100) (by decide +kernel))) rfl
theorem zm1019 : Cond.code (⟨"PretendDeskModel", "isNameOf", "(II)Z"⟩ : MethodName) prog_14_method_42_code 5 (some (.boolean)) ∈ zTb := zTb_in (zT8 (List.mem_of_getElem? (i := 103) (by decide +kernel))) rfl
theorem zm1020 : Cond.instanceMethod (⟨"PretendDeskModel", "isNameOf", "(II)Z"⟩ : MethodName) ∈ zTb := zTb_in (zT8 (List.mem_of_getElem? (i := 102) (by decide +kernel))) rfl
theorem zm1021 : Cond.selects "PretendDeskModel" (⟨"PretendDeskModel", "isNameOf", "(II)Z"⟩ : MethodName) (⟨"PretendDeskModel", "isNameOf", "(II)Z"⟩ : MethodName) ∈ zTb := zTb_in (zT0 (List.mem_of_getElem? (i := 75) (by decide +kernel))) rfl
theorem zm1022 : Cond.fieldLink "PretendDeskModel" 288 "PretendDeskModel" "isElsewhere" "Z" ∈ zTb := zTb_in (zT6 (List.mem_of_getElem? (i := 219) (by decide +kernel))) rfl
theorem zm1023 : Cond.methodLink "PretendDeskModel" 291 (⟨"PretendDeskModel", "ones", "(I)I"⟩ : MethodName) ∈ zTb := zTb_in (zT8 (List.mem_of_getElem? (i := 119) (by decide +kernel))) rfl
theorem zm1024 : Cond.code (⟨"PretendDeskModel", "ones", "(I)I"⟩ : MethodName) prog_14_method_3_code 3 (some (.int)) ∈ zTb := zTb_in (zT8 (List.mem_of_getElem? (i := 121) (by decide +kernel))) rfl
theorem zm1025 : Cond.static (⟨"PretendDeskModel", "ones", "(I)I"⟩ : MethodName) ∈ zTb := zTb_in (zT8 (List.mem_of_getElem? (i := 120) (by decide +kernel))) rfl
theorem zm1026 : Cond.methodLink "PretendDeskModel" 294 (⟨"PretendDeskModel", "judges", "(III)V"⟩ : MethodName) ∈ zTb := zTb_in (zT8 (List.mem_of_getElem? (i := 96) (by decide +kernel))) rfl
theorem zm1027 : Cond.code (⟨"PretendDeskModel", "judges", "(III)V"⟩ : MethodName) prog_14_method_67_code 4 none ∈ zTb := zTb_in (zT8 (List.mem_of_getElem? (i := 99) (by decide +kernel))) rfl
theorem zm1028 : Cond.instanceMethod (⟨"PretendDeskModel", "judges", "(III)V"⟩ : MethodName) ∈ zTb := zTb_in (zT8 (List.mem_of_getElem? (i := 98) (by decide +kernel))) rfl
theorem zm1029 : Cond.selects "PretendDeskModel" (⟨"PretendDeskModel", "judges", "(III)V"⟩ : MethodName) (⟨"PretendDeskModel", "judges", "(III)V"⟩ : MethodName) ∈ zTb := zTb_in (zT0 (List.mem_of_getElem? (i := 74) (by decide +kernel))) rfl
theorem zm1030 : Cond.methodLink "PretendDeskModel" 297 (⟨"PretendDeskModel", "ageOf", "(II)I"⟩ : MethodName) ∈ zTb := zTb_in (zT8 (List.mem_of_getElem? (i := 104) (by decide +kernel))) rfl
theorem zm1031 : Cond.code (⟨"PretendDeskModel", "ageOf", "(II)I"⟩ : MethodName) prog_14_method_66_code 3 (some (.int)) ∈ zTb := zTb_in (zT8 (List.mem_of_getElem? (i := 107) (by decide +kernel))) rfl
theorem zm1032 : Cond.instanceMethod (⟨"PretendDeskModel", "ageOf", "(II)I"⟩ : MethodName) ∈ zTb := zTb_in (zT8 (List.mem_of_getElem? (i := 106) (by decide +kernel))) rfl
theorem zm1033 : Cond.selects "PretendDeskModel" (⟨"PretendDeskModel", "ageOf", "(II)I"⟩ : MethodName) (⟨"PretendDeskModel", "ageOf", "(II)I"⟩ : MethodName) ∈ zTb := zTb_in (zT0 (List.mem_of_getElem? (i := 76) (by decide +kernel))) rfl
theorem zm1034 : Cond.methodLink "PretendDeskModel" 300 (⟨"PretendDeskModel", "signsBy", "(I)I"⟩ : MethodName) ∈ zTb := zTb_in (zT8 (List.mem_of_getElem? (i := 108) (by decide +kernel))) rfl
theorem zm1035 : Cond.code (⟨"PretendDeskModel", "signsBy", "(I)I"⟩ : MethodName) prog_14_method_68_code 3 (some (.int)) ∈ zTb := zTb_in (zT8 (List.mem_of_getElem? (i := 111) (by decide +kernel))) rfl
theorem zm1036 : Cond.instanceMethod (⟨"PretendDeskModel", "signsBy", "(I)I"⟩ : MethodName) ∈ zTb := zTb_in (zT8 (List.mem_of_getElem? (i := 110) (by decide +kernel))) rfl
theorem zm1037 : Cond.selects "PretendDeskModel" (⟨"PretendDeskModel", "signsBy", "(I)I"⟩ : MethodName) (⟨"PretendDeskModel", "signsBy", "(I)I"⟩ : MethodName) ∈ zTb := zTb_in (zT0 (List.mem_of_getElem? (i := 77) (by decide +kernel))) rfl
theorem zm1038 : Cond.methodLink "PretendDeskModel" 303 (⟨"PretendDeskModel", "signsOf", "(III)I"⟩ : MethodName) ∈ zTb := zTb_in (zT8 (List.mem_of_getElem? (i := 92) (by decide +kernel))) rfl
theorem zm1039 : Cond.code (⟨"PretendDeskModel", "signsOf", "(III)I"⟩ : MethodName) prog_14_method_70_code 4 (some (.int)) ∈ zTb := zTb_in (zT8 (List.mem_of_getElem? (i := 95) (by decide +kernel))) rfl
theorem zm1040 : Cond.instanceMethod (⟨"PretendDeskModel", "signsOf", "(III)I"⟩ : MethodName) ∈ zTb := zTb_in (zT8 (List.mem_of_getElem? (i := 94) (by decide +kernel))) rfl
theorem zm1041 : Cond.selects "PretendDeskModel" (⟨"PretendDeskModel", "signsOf", "(III)I"⟩ : MethodName) (⟨"PretendDeskModel", "signsOf", "(III)I"⟩ : MethodName) ∈ zTb := zTb_in (zT0 (List.mem_of_getElem? (i := 73) (by decide +kernel))) rfl
theorem zm1042 : Cond.methodLink "PretendDeskModel" 306 (⟨"PretendDeskModel", "sayOf", "(I)I"⟩ : MethodName) ∈ zTb := zTb_in (zT8 (List.mem_of_getElem? (i := 116) (by decide +kernel))) rfl
theorem zm1043 : Cond.code (⟨"PretendDeskModel", "sayOf", "(I)I"⟩ : MethodName) prog_14_method_69_code 1 (some (.int)) ∈ zTb := zTb_in (zT8 (List.mem_of_getElem? (i := 118) (by decide +kernel))) rfl
theorem zm1044 : Cond.static (⟨"PretendDeskModel", "sayOf", "(I)I"⟩ : MethodName) ∈ zTb := zTb_in (zT8 (List.mem_of_getElem? (i := 117) (by decide +kernel))) rfl
theorem zm1045 : Cond.methodLink "PretendDeskModel" 309 (⟨"PretendDeskModel", "weighs", "()V"⟩ : MethodName) ∈ zTb := zTb_in (zT8 (List.mem_of_getElem? (i := 146) (by decide +kernel))) rfl
theorem zm1046 : Cond.code (⟨"PretendDeskModel", "weighs", "()V"⟩ : MethodName) prog_14_method_77_code 3 none ∈ zTb := zTb_in (zT8 (List.mem_of_getElem? (i := 149) (by decide +kernel))) rfl
theorem zm1047 : Cond.instanceMethod (⟨"PretendDeskModel", "weighs", "()V"⟩ : MethodName) ∈ zTb := zTb_in (zT8 (List.mem_of_getElem? (i := 148) (by decide +kernel))) rfl
theorem zm1048 : Cond.selects "PretendDeskModel" (⟨"PretendDeskModel", "weighs", "()V"⟩ : MethodName) (⟨"PretendDeskModel", "weighs", "()V"⟩ : MethodName) ∈ zTb := zTb_in (zT0 (List.mem_of_getElem? (i := 79) (by decide +kernel))) rfl
theorem zm1049 : Cond.methodLink "PretendDeskModel" 312 (⟨"PretendDeskModel", "tells", "(II)Z"⟩ : MethodName) ∈ zTb := zTb_in (zT8 (List.mem_of_getElem? (i := 150) (by decide +kernel))) rfl
theorem zm1050 : Cond.code (⟨"PretendDeskModel", "tells", "(II)Z"⟩ : MethodName) prog_14_method_80_code 4 (some (.boolean)) ∈ zTb := zTb_in (zT8 (List.mem_of_getElem? (i := 153) (by decide +kernel))) rfl
theorem zm1051 : Cond.instanceMethod (⟨"PretendDeskModel", "tells", "(II)Z"⟩ : MethodName) ∈ zTb := zTb_in (zT8 (List.mem_of_getElem? (i := 152) (by decide +kernel))) rfl
theorem zm1052 : Cond.selects "PretendDeskModel" (⟨"PretendDeskModel", "tells", "(II)Z"⟩ : MethodName) (⟨"PretendDeskModel", "tells", "(II)Z"⟩ : MethodName) ∈ zTb := zTb_in (zT0 (List.mem_of_getElem? (i := 80) (by decide +kernel))) rfl
theorem zm1053 : Cond.methodLink "PretendDeskModel" 315 (⟨"PretendDeskModel", "missed", "(Z)I"⟩ : MethodName) ∈ zTb := zTb_in (zT8 (List.mem_of_getElem? (i := 154) (by decide +kernel))) rfl
theorem zm1054 : Cond.code (⟨"PretendDeskModel", "missed", "(Z)I"⟩ : MethodName) prog_14_method_78_code 6 (some (.int)) ∈ zTb := zTb_in (zT8 (List.mem_of_getElem? (i := 157) (by decide +kernel))) rfl
theorem zm1055 : Cond.instanceMethod (⟨"PretendDeskModel", "missed", "(Z)I"⟩ : MethodName) ∈ zTb := zTb_in (zT8 (List.mem_of_getElem? (i := 156) (by decide +kernel))) rfl
theorem zm1056 : Cond.selects "PretendDeskModel" (⟨"PretendDeskModel", "missed", "(Z)I"⟩ : MethodName) (⟨"PretendDeskModel", "missed", "(Z)I"⟩ : MethodName) ∈ zTb := zTb_in (zT0 (List.mem_of_getElem? (i := 81) (by decide +kernel))) rfl
theorem zm1057 : Cond.methodLink "PretendDeskModel" 319 (⟨"PretendDeskModel", "isAhead", "(II)Z"⟩ : MethodName) ∈ zTb := zTb_in (zT8 (List.mem_of_getElem? (i := 158) (by decide +kernel))) rfl
theorem zm1058 : Cond.code (⟨"PretendDeskModel", "isAhead", "(II)Z"⟩ : MethodName) prog_14_method_79_code 3 (some (.boolean)) ∈ zTb := zTb_in (zT8 (List.mem_of_getElem? (i := 161) (by decide +kernel))) rfl
theorem zm1059 : Cond.instanceMethod (⟨"PretendDeskModel", "isAhead", "(II)Z"⟩ : MethodName) ∈ zTb := zTb_in (zT8 (List.mem_of_getElem? (i := 160) (by decide +kernel))) rfl
theorem zm1060 : Cond.selects "PretendDeskModel" (⟨"PretendDeskModel", "isAhead", "(II)Z"⟩ : MethodName) (⟨"PretendDeskModel", "isAhead", "(II)Z"⟩ : MethodName) ∈ zTb := zTb_in (zT0 (List.mem_of_getElem? (i := 82) (by decide +kernel))) rfl
theorem zm1061 : Cond.methodLink "PretendDeskModel" 322 (⟨"PretendDeskModel", "fits", "(I)V"⟩ : MethodName) ∈ zTb := zTb_in (zT8 (List.mem_of_getElem? (i := 142) (by decide +kernel))) rfl
theorem zm1062 : Cond.code (⟨"PretendDeskModel", "fits", "(I)V"⟩ : MethodName) prog_14_method_81_code 8 none ∈ zTb := zTb_in (zT8 (List.mem_of_getElem? (i := 145) (by decide +kernel))) rfl
theorem zm1063 : Cond.instanceMethod (⟨"PretendDeskModel", "fits", "(I)V"⟩ : MethodName) ∈ zTb := zTb_in (zT8 (List.mem_of_getElem? (i := 144) (by decide +kernel))) rfl
theorem zm1064 : Cond.selects "PretendDeskModel" (⟨"PretendDeskModel", "fits", "(I)V"⟩ : MethodName) (⟨"PretendDeskModel", "fits", "(I)V"⟩ : MethodName) ∈ zTb := zTb_in (zT0 (List.mem_of_getElem? (i := 78) (by decide +kernel))) rfl
theorem zm1065 : Cond.fieldLink "PretendDeskModel" 325 "PretendDeskModel" "waits" "I" ∈ zTb := zTb_in (zT6 (List.mem_of_getElem? (i := 225) (by decide +kernel))) rfl
theorem zm1066 : Cond.fieldLink "PretendDeskModel" 328 "PretendDeskModel" "priceNow" "I" ∈ zTb := zTb_in (zT6 (List.mem_of_getElem? (i := 226) (by decide +kernel))) rfl
theorem zm1067 : Cond.methodLink "PretendDeskModel" 331 (⟨"PretendDeskModel", "isForger", "(IIII)Z"⟩ : MethodName) ∈ zTb := zTb_in (zT8 (List.mem_of_getElem? (i := 170) (by decide +kernel))) rfl
theorem zm1068 : Cond.code (⟨"PretendDeskModel", "isForger", "(IIII)Z"⟩ : MethodName) prog_14_method_86_code 5 (some (.boolean)) ∈ zTb := zTb_in (zT8 (List.mem_of_getElem? (i := 173) (by decide +kernel))) rfl
theorem zm1069 : Cond.instanceMethod (⟨"PretendDeskModel", "isForger", "(IIII)Z"⟩ : MethodName) ∈ zTb := zTb_in (zT8 (List.mem_of_getElem? (i := 172) (by decide +kernel))) rfl
theorem zm1070 : Cond.selects "PretendDeskModel" (⟨"PretendDeskModel", "isForger", "(IIII)Z"⟩ : MethodName) (⟨"PretendDeskModel", "isForger", "(IIII)Z"⟩ : MethodName) ∈ zTb := zTb_in (zT0 (List.mem_of_getElem? (i := 83) (by decide +kernel))) rfl
theorem zm1071 : Cond.methodLink "PretendDeskModel" 335 (⟨"PretendDeskModel", "forges", "(III)V"⟩ : MethodName) ∈ zTb := zTb_in (zT8 (List.mem_of_getElem? (i := 174) (by decide +kernel))) rfl
theorem zm1072 : Cond.code (⟨"PretendDeskModel", "forges", "(III)V"⟩ : MethodName) prog_14_method_84_code 6 none ∈ zTb := zTb_in (zT8 (List.mem_of_getElem? (i := 177) (by decide +kernel))) rfl
theorem zm1073 : Cond.instanceMethod (⟨"PretendDeskModel", "forges", "(III)V"⟩ : MethodName) ∈ zTb := zTb_in (zT8 (List.mem_of_getElem? (i := 176) (by decide +kernel))) rfl
theorem zm1074 : Cond.selects "PretendDeskModel" (⟨"PretendDeskModel", "forges", "(III)V"⟩ : MethodName) (⟨"PretendDeskModel", "forges", "(III)V"⟩ : MethodName) ∈ zTb := zTb_in (zT0 (List.mem_of_getElem? (i := 84) (by decide +kernel))) rfl
theorem zm1075 : Cond.methodLink "PretendDeskModel" 338 (⟨"PretendDeskModel", "isForgery", "(II)Z"⟩ : MethodName) ∈ zTb := zTb_in (zT8 (List.mem_of_getElem? (i := 178) (by decide +kernel))) rfl
theorem zm1076 : Cond.code (⟨"PretendDeskModel", "isForgery", "(II)Z"⟩ : MethodName) prog_14_method_85_code 3 (some (.boolean)) ∈ zTb := zTb_in (zT8 (List.mem_of_getElem? (i := 181) (by decide +kernel))) rfl
theorem zm1077 : Cond.instanceMethod (⟨"PretendDeskModel", "isForgery", "(II)Z"⟩ : MethodName) ∈ zTb := zTb_in (zT8 (List.mem_of_getElem? (i := 180) (by decide +kernel))) rfl
theorem zm1078 : Cond.selects "PretendDeskModel" (⟨"PretendDeskModel", "isForgery", "(II)Z"⟩ : MethodName) (⟨"PretendDeskModel", "isForgery", "(II)Z"⟩ : MethodName) ∈ zTb := zTb_in (zT0 (List.mem_of_getElem? (i := 85) (by decide +kernel))) rfl
theorem zm1079 : Cond.methodLink "PretendDeskModel" 341 (⟨"PretendDeskModel", "pieces", "(I)I"⟩ : MethodName) ∈ zTb := zTb_in (zT8 (List.mem_of_getElem? (i := 194) (by decide +kernel))) rfl
theorem zm1080 : Cond.code (⟨"PretendDeskModel", "pieces", "(I)I"⟩ : MethodName) prog_14_method_90_code 2 (some (.int)) ∈ zTb := zTb_in (zT8 (List.mem_of_getElem? (i := 197) (by decide +kernel))) rfl
theorem zm1081 : Cond.instanceMethod (⟨"PretendDeskModel", "pieces", "(I)I"⟩ : MethodName) ∈ zTb := zTb_in (zT8 (List.mem_of_getElem? (i := 196) (by decide +kernel))) rfl
theorem zm1082 : Cond.selects "PretendDeskModel" (⟨"PretendDeskModel", "pieces", "(I)I"⟩ : MethodName) (⟨"PretendDeskModel", "pieces", "(I)I"⟩ : MethodName) ∈ zTb := zTb_in (zT0 (List.mem_of_getElem? (i := 87) (by decide +kernel))) rfl
theorem zm1083 : Cond.methodLink "PretendDeskModel" 344 (⟨"PretendDeskModel", "choose", "(II)I"⟩ : MethodName) ∈ zTb := zTb_in (zT8 (List.mem_of_getElem? (i := 198) (by decide +kernel))) rfl
theorem zm1084 : Cond.code (⟨"PretendDeskModel", "choose", "(II)I"⟩ : MethodName) prog_14_method_89_code 5 (some (.int)) ∈ zTb := zTb_in (zT8 (List.mem_of_getElem? (i := 200) (by decide +kernel))) rfl
theorem zm1085 : Cond.static (⟨"PretendDeskModel", "choose", "(II)I"⟩ : MethodName) ∈ zTb := zTb_in (zT8 (List.mem_of_getElem? (i := 199) (by decide +kernel))) rfl
theorem zm1086 : Cond.methodLink "PretendDeskModel" 347 (⟨"PretendDeskModel", "oddsOf", "(II)I"⟩ : MethodName) ∈ zTb := zTb_in (zT8 (List.mem_of_getElem? (i := 190) (by decide +kernel))) rfl
theorem zm1087 : Cond.code (⟨"PretendDeskModel", "oddsOf", "(II)I"⟩ : MethodName) prog_14_method_91_code 7 (some (.int)) ∈ zTb := zTb_in (zT8 (List.mem_of_getElem? (i := 193) (by decide +kernel))) rfl
theorem zm1088 : Cond.instanceMethod (⟨"PretendDeskModel", "oddsOf", "(II)I"⟩ : MethodName) ∈ zTb := zTb_in (zT8 (List.mem_of_getElem? (i := 192) (by decide +kernel))) rfl
theorem zm1089 : Cond.selects "PretendDeskModel" (⟨"PretendDeskModel", "oddsOf", "(II)I"⟩ : MethodName) (⟨"PretendDeskModel", "oddsOf", "(II)I"⟩ : MethodName) ∈ zTb := zTb_in (zT0 (List.mem_of_getElem? (i := 86) (by decide +kernel))) rfl
theorem zm1090 : Cond.methodLink "PretendDeskModel" 350 (⟨"PretendDeskModel", "isOneHand", "(III)Z"⟩ : MethodName) ∈ zTb := zTb_in (zT8 (List.mem_of_getElem? (i := 205) (by decide +kernel))) rfl
theorem zm1091 : Cond.code (⟨"PretendDeskModel", "isOneHand", "(III)Z"⟩ : MethodName) prog_14_method_93_code 5 (some (.boolean)) ∈ zTb := zTb_in (zT8 (List.mem_of_getElem? (i := 208) (by decide +kernel))) rfl
theorem zm1092 : Cond.instanceMethod (⟨"PretendDeskModel", "isOneHand", "(III)Z"⟩ : MethodName) ∈ zTb := zTb_in (zT8 (List.mem_of_getElem? (i := 207) (by decide +kernel))) rfl
theorem zm1093 : Cond.selects "PretendDeskModel" (⟨"PretendDeskModel", "isOneHand", "(III)Z"⟩ : MethodName) (⟨"PretendDeskModel", "isOneHand", "(III)Z"⟩ : MethodName) ∈ zTb := zTb_in (zT0 (List.mem_of_getElem? (i := 88) (by decide +kernel))) rfl
theorem zm1094 : Cond.constant "PretendDeskModel" 353 (65535 : Int32) ∈ zTb := zTb_in (zT8 (List.mem_of_getElem? (i := 217) (by decide +kernel))) rfl
theorem zm1095 : Cond.methodLink "PretendDeskModel" 354 (⟨"PretendDeskModel", "sketchOf", "(II)I"⟩ : MethodName) ∈ zTb := zTb_in (zT8 (List.mem_of_getElem? (i := 213) (by decide +kernel))) rfl
theorem zm1096 : Cond.code (⟨"PretendDeskModel", "sketchOf", "(II)I"⟩ : MethodName) prog_14_method_95_code 6 (some (.int)) ∈ zTb := zTb_in (zT8 (List.mem_of_getElem? (i := 216) (by decide +kernel))) rfl
theorem zm1097 : Cond.instanceMethod (⟨"PretendDeskModel", "sketchOf", "(II)I"⟩ : MethodName) ∈ zTb := zTb_in (zT8 (List.mem_of_getElem? (i := 215) (by decide +kernel))) rfl
theorem zm1098 : Cond.selects "PretendDeskModel" (⟨"PretendDeskModel", "sketchOf", "(II)I"⟩ : MethodName) (⟨"PretendDeskModel", "sketchOf", "(II)I"⟩ : MethodName) ∈ zTb := zTb_in (zT0 (List.mem_of_getElem? (i := 89) (by decide +kernel))) rfl
theorem zm1099 : Cond.fieldLink "PretendDeskModel" 357 "PretendDeskModel" "lines" "I" ∈ zTb := zTb_in (zT6 (List.mem_of_getElem? (i := 227) (by decide +kernel))) rfl
theorem zm1100 : Cond.methodLink "PretendDeskModel" 360 (⟨"PretendDeskModel", "puts", "(II)V"⟩ : MethodName) ∈ zTb := zTb_in (zT8 (List.mem_of_getElem? (i := 234) (by decide +kernel))) rfl
theorem zm1101 : Cond.code (⟨"PretendDeskModel", "puts", "(II)V"⟩ : MethodName) prog_14_method_100_code 3 none ∈ zTb := zTb_in (zT8 (List.mem_of_getElem? (i := 237) (by decide +kernel))) rfl
theorem zm1102 : Cond.instanceMethod (⟨"PretendDeskModel", "puts", "(II)V"⟩ : MethodName) ∈ zTb := zTb_in (zT8 (List.mem_of_getElem? (i := 236) (by decide +kernel))) rfl
theorem zm1103 : Cond.selects "PretendDeskModel" (⟨"PretendDeskModel", "puts", "(II)V"⟩ : MethodName) (⟨"PretendDeskModel", "puts", "(II)V"⟩ : MethodName) ∈ zTb := zTb_in (zT0 (List.mem_of_getElem? (i := 91) (by decide +kernel))) rfl
theorem zm1104 : Cond.methodLink "PretendDeskModel" 363 (⟨"PretendDeskModel", "must", "(I)V"⟩ : MethodName) ∈ zTb := zTb_in (zT8 (List.mem_of_getElem? (i := 238) (by decide +kernel))) rfl
theorem zm1105 : Cond.code (⟨"PretendDeskModel", "must", "(I)V"⟩ : MethodName) prog_14_method_99_code 2 none ∈ zTb := zTb_in (zT9 (List.mem_of_getElem? (i := 1) (by decide +kernel))) rfl
theorem zm1106 : Cond.instanceMethod (⟨"PretendDeskModel", "must", "(I)V"⟩ : MethodName) ∈ zTb := zTb_in (zT9 (List.mem_of_getElem? (i := 0) (by decide +kernel))) rfl
theorem zm1107 : Cond.selects "PretendDeskModel" (⟨"PretendDeskModel", "must", "(I)V"⟩ : MethodName) (⟨"PretendDeskModel", "must", "(I)V"⟩ : MethodName) ∈ zTb := zTb_in (zT0 (List.mem_of_getElem? (i := 92) (by decide +kernel))) rfl
theorem zm1108 : Cond.methodLink "PretendDeskModel" 366 (⟨"PretendDeskModel", "oneTo", "(II)V"⟩ : MethodName) ∈ zTb := zTb_in (zT9 (List.mem_of_getElem? (i := 2) (by decide +kernel))) rfl
theorem zm1109 : Cond.code (⟨"PretendDeskModel", "oneTo", "(II)V"⟩ : MethodName) prog_14_method_101_code 3 none ∈ zTb := zTb_in (zT9 (List.mem_of_getElem? (i := 5) (by decide +kernel))) rfl
theorem zm1110 : Cond.instanceMethod (⟨"PretendDeskModel", "oneTo", "(II)V"⟩ : MethodName) ∈ zTb := zTb_in (zT9 (List.mem_of_getElem? (i := 4) (by decide +kernel))) rfl
theorem zm1111 : Cond.selects "PretendDeskModel" (⟨"PretendDeskModel", "oneTo", "(II)V"⟩ : MethodName) (⟨"PretendDeskModel", "oneTo", "(II)V"⟩ : MethodName) ∈ zTb := zTb_in (zT0 (List.mem_of_getElem? (i := 93) (by decide +kernel))) rfl
theorem zm1112 : Cond.methodLink "PretendDeskModel" 369 (⟨"PretendDeskModel", "aLine", "()V"⟩ : MethodName) ∈ zTb := zTb_in (zT8 (List.mem_of_getElem? (i := 230) (by decide +kernel))) rfl
theorem zm1113 : Cond.code (⟨"PretendDeskModel", "aLine", "()V"⟩ : MethodName) prog_14_method_102_code 2 none ∈ zTb := zTb_in (zT8 (List.mem_of_getElem? (i := 233) (by decide +kernel))) rfl
theorem zm1114 : Cond.instanceMethod (⟨"PretendDeskModel", "aLine", "()V"⟩ : MethodName) ∈ zTb := zTb_in (zT8 (List.mem_of_getElem? (i := 232) (by decide +kernel))) rfl
theorem zm1115 : Cond.selects "PretendDeskModel" (⟨"PretendDeskModel", "aLine", "()V"⟩ : MethodName) (⟨"PretendDeskModel", "aLine", "()V"⟩ : MethodName) ∈ zTb := zTb_in (zT0 (List.mem_of_getElem? (i := 90) (by decide +kernel))) rfl
theorem zm1116 : Cond.methodLink "PretendDeskModel" 372 (⟨"PretendDeskModel", "isAddress", "(I)Z"⟩ : MethodName) ∈ zTb := zTb_in (zT9 (List.mem_of_getElem? (i := 10) (by decide +kernel))) rfl
theorem zm1117 : Cond.code (⟨"PretendDeskModel", "isAddress", "(I)Z"⟩ : MethodName) prog_14_method_105_code 1 (some (.boolean)) ∈ zTb := zTb_in (zT9 (List.mem_of_getElem? (i := 12) (by decide +kernel))) rfl
theorem zm1118 : Cond.static (⟨"PretendDeskModel", "isAddress", "(I)Z"⟩ : MethodName) ∈ zTb := zTb_in (zT9 (List.mem_of_getElem? (i := 11) (by decide +kernel))) rfl
theorem zm1119 : Cond.fieldLink "PretendDeskModel" 375 "PretendDeskModel" "relays" "I" ∈ zTb := zTb_in (zT6 (List.mem_of_getElem? (i := 232) (by decide +kernel))) rfl
theorem zm1120 : Cond.methodLink "PretendDeskModel" 378 (⟨"PretendDeskModel", "endOf", "(I)I"⟩ : MethodName) ∈ zTb := zTb_in (zT9 (List.mem_of_getElem? (i := 21) (by decide +kernel))) rfl
theorem zm1121 : Cond.code (⟨"PretendDeskModel", "endOf", "(I)I"⟩ : MethodName) prog_14_method_108_code 3 (some (.int)) ∈ zTb := zTb_in (zT9 (List.mem_of_getElem? (i := 24) (by decide +kernel))) rfl
theorem zm1122 : Cond.instanceMethod (⟨"PretendDeskModel", "endOf", "(I)I"⟩ : MethodName) ∈ zTb := zTb_in (zT9 (List.mem_of_getElem? (i := 23) (by decide +kernel))) rfl
theorem zm1123 : Cond.selects "PretendDeskModel" (⟨"PretendDeskModel", "endOf", "(I)I"⟩ : MethodName) (⟨"PretendDeskModel", "endOf", "(I)I"⟩ : MethodName) ∈ zTb := zTb_in (zT0 (List.mem_of_getElem? (i := 94) (by decide +kernel))) rfl
theorem zm1124 : Cond.methodLink "PretendDeskModel" 381 (⟨"PretendDeskModel", "isMade", "(I)Z"⟩ : MethodName) ∈ zTb := zTb_in (zT9 (List.mem_of_getElem? (i := 29) (by decide +kernel))) rfl
theorem zm1125 : Cond.code (⟨"PretendDeskModel", "isMade", "(I)Z"⟩ : MethodName) prog_14_method_110_code 1 (some (.boolean)) ∈ zTb := zTb_in (zT9 (List.mem_of_getElem? (i := 31) (by decide +kernel))) rfl
theorem zm1126 : Cond.static (⟨"PretendDeskModel", "isMade", "(I)Z"⟩ : MethodName) ∈ zTb := zTb_in (zT9 (List.mem_of_getElem? (i := 30) (by decide +kernel))) rfl
theorem zm1127 : Cond.methodLink "PretendDeskModel" 384 (⟨"PretendDeskModel", "does", "(II)I"⟩ : MethodName) ∈ zTb := zTb_in (zT9 (List.mem_of_getElem? (i := 32) (by decide +kernel))) rfl
theorem zm1128 : Cond.code (⟨"PretendDeskModel", "does", "(II)I"⟩ : MethodName) prog_14_method_104_code 8 (some (.int)) ∈ zTb := zTb_in (zT9 (List.mem_of_getElem? (i := 35) (by decide +kernel))) rfl
theorem zm1129 : Cond.instanceMethod (⟨"PretendDeskModel", "does", "(II)I"⟩ : MethodName) ∈ zTb := zTb_in (zT9 (List.mem_of_getElem? (i := 34) (by decide +kernel))) rfl
theorem zm1130 : Cond.selects "PretendDeskModel" (⟨"PretendDeskModel", "does", "(II)I"⟩ : MethodName) (⟨"PretendDeskModel", "does", "(II)I"⟩ : MethodName) ∈ zTb := zTb_in (zT0 (List.mem_of_getElem? (i := 95) (by decide +kernel))) rfl
theorem zm1131 : Cond.methodLink "PretendDeskModel" 387 (⟨"PretendDeskModel", "takenWith", "(III)I"⟩ : MethodName) ∈ zTb := zTb_in (zT9 (List.mem_of_getElem? (i := 44) (by decide +kernel))) rfl
theorem zm1132 : Cond.code (⟨"PretendDeskModel", "takenWith", "(III)I"⟩ : MethodName) prog_14_method_113_code 9 (some (.int)) ∈ zTb := zTb_in (zT9 (List.mem_of_getElem? (i := 47) (by decide +kernel))) rfl
theorem zm1133 : Cond.instanceMethod (⟨"PretendDeskModel", "takenWith", "(III)I"⟩ : MethodName) ∈ zTb := zTb_in (zT9 (List.mem_of_getElem? (i := 46) (by decide +kernel))) rfl
theorem zm1134 : Cond.selects "PretendDeskModel" (⟨"PretendDeskModel", "takenWith", "(III)I"⟩ : MethodName) (⟨"PretendDeskModel", "takenWith", "(III)I"⟩ : MethodName) ∈ zTb := zTb_in (zT0 (List.mem_of_getElem? (i := 96) (by decide +kernel))) rfl
theorem zm1135 : Cond.methodLink "PretendDeskModel" 390 (⟨"PretendDeskModel", "isSaid", "(III)Z"⟩ : MethodName) ∈ zTb := zTb_in (zT9 (List.mem_of_getElem? (i := 56) (by decide +kernel))) rfl
theorem zm1136 : Cond.code (⟨"PretendDeskModel", "isSaid", "(III)Z"⟩ : MethodName) prog_14_method_115_code 6 (some (.boolean)) ∈ zTb := zTb_in (zT9 (List.mem_of_getElem? (i := 59) (by decide +kernel))) rfl
theorem zm1137 : Cond.instanceMethod (⟨"PretendDeskModel", "isSaid", "(III)Z"⟩ : MethodName) ∈ zTb := zTb_in (zT9 (List.mem_of_getElem? (i := 58) (by decide +kernel))) rfl
theorem zm1138 : Cond.selects "PretendDeskModel" (⟨"PretendDeskModel", "isSaid", "(III)Z"⟩ : MethodName) (⟨"PretendDeskModel", "isSaid", "(III)Z"⟩ : MethodName) ∈ zTb := zTb_in (zT0 (List.mem_of_getElem? (i := 98) (by decide +kernel))) rfl
theorem zm1139 : Cond.methodLink "PretendDeskModel" 393 (⟨"PretendDeskModel", "wordAt", "(II)I"⟩ : MethodName) ∈ zTb := zTb_in (zT9 (List.mem_of_getElem? (i := 52) (by decide +kernel))) rfl
theorem zm1140 : Cond.code (⟨"PretendDeskModel", "wordAt", "(II)I"⟩ : MethodName) prog_14_method_116_code 4 (some (.int)) ∈ zTb := zTb_in (zT9 (List.mem_of_getElem? (i := 55) (by decide +kernel))) rfl
theorem zm1141 : Cond.instanceMethod (⟨"PretendDeskModel", "wordAt", "(II)I"⟩ : MethodName) ∈ zTb := zTb_in (zT9 (List.mem_of_getElem? (i := 54) (by decide +kernel))) rfl
theorem zm1142 : Cond.selects "PretendDeskModel" (⟨"PretendDeskModel", "wordAt", "(II)I"⟩ : MethodName) (⟨"PretendDeskModel", "wordAt", "(II)I"⟩ : MethodName) ∈ zTb := zTb_in (zT0 (List.mem_of_getElem? (i := 97) (by decide +kernel))) rfl
theorem zm1143 : Cond.fieldLink "PretendDeskModel" 396 "PretendDeskModel" "meant" "I" ∈ zTb := zTb_in (zT6 (List.mem_of_getElem? (i := 233) (by decide +kernel))) rfl
theorem zm1144 : Cond.methodLink "PretendDeskModel" 399 (⟨"PretendDeskModel", "sentences", "(I)I"⟩ : MethodName) ∈ zTb := zTb_in (zT9 (List.mem_of_getElem? (i := 68) (by decide +kernel))) rfl
theorem zm1145 : Cond.code (⟨"PretendDeskModel", "sentences", "(I)I"⟩ : MethodName) prog_14_method_119_code 10 (some (.int)) ∈ zTb := zTb_in (zT9 (List.mem_of_getElem? (i := 71) (by decide +kernel))) rfl
theorem zm1146 : Cond.instanceMethod (⟨"PretendDeskModel", "sentences", "(I)I"⟩ : MethodName) ∈ zTb := zTb_in (zT9 (List.mem_of_getElem? (i := 70) (by decide +kernel))) rfl
theorem zm1147 : Cond.selects "PretendDeskModel" (⟨"PretendDeskModel", "sentences", "(I)I"⟩ : MethodName) (⟨"PretendDeskModel", "sentences", "(I)I"⟩ : MethodName) ∈ zTb := zTb_in (zT0 (List.mem_of_getElem? (i := 99) (by decide +kernel))) rfl
theorem zm1148 : Cond.methodLink "PretendDeskModel" 402 (⟨"PretendDeskModel", "sentence", "(I)I"⟩ : MethodName) ∈ zTb := zTb_in (zT9 (List.mem_of_getElem? (i := 84) (by decide +kernel))) rfl
theorem zm1149 : Cond.code (⟨"PretendDeskModel", "sentence", "(I)I"⟩ : MethodName) prog_14_method_121_code 3 (some (.int)) ∈ zTb := zTb_in (zT9 (List.mem_of_getElem? (i := 75) (by decide +kernel))) rfl
theorem zm1150 : Cond.instanceMethod (⟨"PretendDeskModel", "sentence", "(I)I"⟩ : MethodName) ∈ zTb := zTb_in (zT9 (List.mem_of_getElem? (i := 73) (by decide +kernel))) rfl
theorem zm1151 : Cond.selects "PretendDeskModel" (⟨"PretendDeskModel", "sentence", "(I)I"⟩ : MethodName) (⟨"PretendDeskModel", "sentence", "(I)I"⟩ : MethodName) ∈ zTb := zTb_in (zT9 (List.mem_of_getElem? (i := 74) (by decide +kernel))) rfl
theorem zm1152 : Cond.methodLink "PretendDeskModel" 405 (⟨"PretendDeskModel", "firstOf", "(I)I"⟩ : MethodName) ∈ zTb := zTb_in (zT9 (List.mem_of_getElem? (i := 80) (by decide +kernel))) rfl
theorem zm1153 : Cond.code (⟨"PretendDeskModel", "firstOf", "(I)I"⟩ : MethodName) prog_14_method_122_code 4 (some (.int)) ∈ zTb := zTb_in (zT9 (List.mem_of_getElem? (i := 83) (by decide +kernel))) rfl
theorem zm1154 : Cond.instanceMethod (⟨"PretendDeskModel", "firstOf", "(I)I"⟩ : MethodName) ∈ zTb := zTb_in (zT9 (List.mem_of_getElem? (i := 82) (by decide +kernel))) rfl
theorem zm1155 : Cond.selects "PretendDeskModel" (⟨"PretendDeskModel", "firstOf", "(I)I"⟩ : MethodName) (⟨"PretendDeskModel", "firstOf", "(I)I"⟩ : MethodName) ∈ zTb := zTb_in (zT0 (List.mem_of_getElem? (i := 100) (by decide +kernel))) rfl
theorem zm1156 : Cond.constant "PretendDeskModel" 408 (33554431 : Int32) ∈ zTb := zTb_in (zT9 (List.mem_of_getElem? (i := 93) (by decide +kernel))) rfl
theorem zm1157 : Cond.methodLink "PretendDeskModel" 412 (⟨"PretendDeskModel", "quarter", "(I)I"⟩ : MethodName) ∈ zTb := zTb_in (zT9 (List.mem_of_getElem? (i := 105) (by decide +kernel))) rfl
theorem zm1158 : Cond.code (⟨"PretendDeskModel", "quarter", "(I)I"⟩ : MethodName) prog_14_method_126_code 3 (some (.int)) ∈ zTb := zTb_in (zT9 (List.mem_of_getElem? (i := 107) (by decide +kernel))) rfl
theorem zm1159 : Cond.static (⟨"PretendDeskModel", "quarter", "(I)I"⟩ : MethodName) ∈ zTb := zTb_in (zT9 (List.mem_of_getElem? (i := 106) (by decide +kernel))) rfl
theorem zm1160 : Cond.methodLink "PretendDeskModel" 409 (⟨"PretendDeskModel", "moved", "(III)I"⟩ : MethodName) ∈ zTb := zTb_in (zT9 (List.mem_of_getElem? (i := 102) (by decide +kernel))) rfl
theorem zm1161 : Cond.code (⟨"PretendDeskModel", "moved", "(III)I"⟩ : MethodName) prog_14_method_127_code 7 (some (.int)) ∈ zTb := zTb_in (zT9 (List.mem_of_getElem? (i := 104) (by decide +kernel))) rfl
theorem zm1162 : Cond.static (⟨"PretendDeskModel", "moved", "(III)I"⟩ : MethodName) ∈ zTb := zTb_in (zT9 (List.mem_of_getElem? (i := 103) (by decide +kernel))) rfl
theorem zm1163 : Cond.methodLink "PretendDeskModel" 415 (⟨"PretendDeskModel", "unlikeOf", "(II)I"⟩ : MethodName) ∈ zTb := zTb_in (zT9 (List.mem_of_getElem? (i := 98) (by decide +kernel))) rfl
theorem zm1164 : Cond.code (⟨"PretendDeskModel", "unlikeOf", "(II)I"⟩ : MethodName) prog_14_method_128_code 7 (some (.int)) ∈ zTb := zTb_in (zT9 (List.mem_of_getElem? (i := 101) (by decide +kernel))) rfl
theorem zm1165 : Cond.instanceMethod (⟨"PretendDeskModel", "unlikeOf", "(II)I"⟩ : MethodName) ∈ zTb := zTb_in (zT9 (List.mem_of_getElem? (i := 100) (by decide +kernel))) rfl
theorem zm1166 : Cond.selects "PretendDeskModel" (⟨"PretendDeskModel", "unlikeOf", "(II)I"⟩ : MethodName) (⟨"PretendDeskModel", "unlikeOf", "(II)I"⟩ : MethodName) ∈ zTb := zTb_in (zT0 (List.mem_of_getElem? (i := 101) (by decide +kernel))) rfl
theorem zm1167 : Cond.laysFinal "PretendDesk" "PretendDesk" "now" "LPretendDesk$Told;" ∈ zTb := zTb_in (zT3 (List.mem_of_getElem? (i := 27) (by decide +kernel))) rfl
theorem zm1168 : Cond.laysFinal "PretendDesk" "PretendDesk" "images" "[LPretendDesk$Told;" ∈ zTb := zTb_in (zT3 (List.mem_of_getElem? (i := 29) (by decide +kernel))) rfl
theorem zm1169 : Cond.laysFinal "PretendDesk" "PretendDesk" "room" "LPretendDesk$Room;" ∈ zTb := zTb_in (zT3 (List.mem_of_getElem? (i := 31) (by decide +kernel))) rfl
theorem zm1170 : Cond.laysFinal "PretendDesk" "PretendDesk" "forger" "LPretendDesk$Forger;" ∈ zTb := zTb_in (zT3 (List.mem_of_getElem? (i := 33) (by decide +kernel))) rfl
theorem zm1171 : Cond.laysFinal "PretendDesk" "PretendDesk" "best" "LPretendDesk$Best;" ∈ zTb := zTb_in (zT3 (List.mem_of_getElem? (i := 35) (by decide +kernel))) rfl
theorem zm1172 : Cond.laysFinal "PretendDesk" "PretendDesk" "runner" "LPretendDesk$Runner;" ∈ zTb := zTb_in (zT3 (List.mem_of_getElem? (i := 37) (by decide +kernel))) rfl
theorem zm1173 : Cond.laysFinal "PretendDesk" "PretendDesk" "freshPage" "LPretendDesk$Page;" ∈ zTb := zTb_in (zT3 (List.mem_of_getElem? (i := 39) (by decide +kernel))) rfl
theorem zm1174 : Cond.laysFinal "PretendDesk" "PretendDesk" "freshLines" "[I" ∈ zTb := zTb_in (zT3 (List.mem_of_getElem? (i := 41) (by decide +kernel))) rfl
theorem zm1175 : Cond.laysFinal "PretendDesk" "PretendDesk" "prices" "[I" ∈ zTb := zTb_in (zT3 (List.mem_of_getElem? (i := 43) (by decide +kernel))) rfl
theorem zm1176 : Cond.laysFinal "PretendDesk" "PretendDesk" "heard" "[I" ∈ zTb := zTb_in (zT3 (List.mem_of_getElem? (i := 45) (by decide +kernel))) rfl
theorem zm1177 : Cond.laysFinal "PretendDesk$Told" "PretendDesk$Told" "tape" "LPretendDesk$Tape;" ∈ zTb := zTb_in (zT2 (List.mem_of_getElem? (i := 52) (by decide +kernel))) rfl
theorem zm1178 : Cond.laysFinal "PretendDesk$Told" "PretendDesk$Told" "house" "[LPretendDesk$House;" ∈ zTb := zTb_in (zT2 (List.mem_of_getElem? (i := 54) (by decide +kernel))) rfl
theorem zm1179 : Cond.laysFinal "PretendDesk$Told" "PretendDesk$Told" "came" "[LPretendDesk$Came;" ∈ zTb := zTb_in (zT2 (List.mem_of_getElem? (i := 56) (by decide +kernel))) rfl
theorem zm1180 : Cond.laysFinal "PretendDesk$Told" "PretendDesk$Told" "speech" "LPretendDesk$Speech;" ∈ zTb := zTb_in (zT2 (List.mem_of_getElem? (i := 58) (by decide +kernel))) rfl
theorem zm1181 : Cond.laysFinal "PretendDesk$Told" "PretendDesk$Told" "casePage" "[I" ∈ zTb := zTb_in (zT2 (List.mem_of_getElem? (i := 60) (by decide +kernel))) rfl
theorem zm1182 : Cond.laysFinal "PretendDesk$Told" "PretendDesk$Told" "caseDay" "[I" ∈ zTb := zTb_in (zT2 (List.mem_of_getElem? (i := 62) (by decide +kernel))) rfl
theorem zm1183 : Cond.laysFinal "PretendDesk$Told" "PretendDesk$Told" "casePretends" "[Z" ∈ zTb := zTb_in (zT2 (List.mem_of_getElem? (i := 64) (by decide +kernel))) rfl
theorem zm1184 : Cond.laysFinal "PretendDesk$Told" "PretendDesk$Told" "worth" "[I" ∈ zTb := zTb_in (zT2 (List.mem_of_getElem? (i := 66) (by decide +kernel))) rfl
theorem zm1185 : Cond.laysFinal "PretendDesk$Told" "PretendDesk$Told" "alike" "[I" ∈ zTb := zTb_in (zT2 (List.mem_of_getElem? (i := 68) (by decide +kernel))) rfl
theorem zm1186 : Cond.laysFinal "PretendDesk$Told" "PretendDesk$Told" "relay" "[I" ∈ zTb := zTb_in (zT2 (List.mem_of_getElem? (i := 70) (by decide +kernel))) rfl
theorem zm1187 : Cond.laysFinal "PretendDesk$Told" "PretendDesk$Told" "owner" "[I" ∈ zTb := zTb_in (zT2 (List.mem_of_getElem? (i := 72) (by decide +kernel))) rfl
theorem zm1188 : Cond.lays "PretendDesk$Told" "PretendDesk$Told" "houses" "I" ∈ zTb := zTb_in (zT2 (List.mem_of_getElem? (i := 74) (by decide +kernel))) rfl
theorem zm1189 : Cond.lays "PretendDesk$Told" "PretendDesk$Told" "pages" "I" ∈ zTb := zTb_in (zT2 (List.mem_of_getElem? (i := 76) (by decide +kernel))) rfl
theorem zm1190 : Cond.lays "PretendDesk$Told" "PretendDesk$Told" "cases" "I" ∈ zTb := zTb_in (zT2 (List.mem_of_getElem? (i := 78) (by decide +kernel))) rfl
theorem zm1191 : Cond.lays "PretendDesk$Told" "PretendDesk$Told" "markA" "I" ∈ zTb := zTb_in (zT2 (List.mem_of_getElem? (i := 80) (by decide +kernel))) rfl
theorem zm1192 : Cond.lays "PretendDesk$Told" "PretendDesk$Told" "markB" "I" ∈ zTb := zTb_in (zT2 (List.mem_of_getElem? (i := 82) (by decide +kernel))) rfl
theorem zm1193 : Cond.lays "PretendDesk$Told" "PretendDesk$Told" "markC" "I" ∈ zTb := zTb_in (zT2 (List.mem_of_getElem? (i := 84) (by decide +kernel))) rfl
theorem zm1194 : Cond.laysFinal "PretendDesk$Tape" "PretendDesk$Tape" "bytes" "[C" ∈ zTb := zTb_in (zT1 (List.mem_of_getElem? (i := 96) (by decide +kernel))) rfl
theorem zm1195 : Cond.lays "PretendDesk$Tape" "PretendDesk$Tape" "length" "I" ∈ zTb := zTb_in (zT1 (List.mem_of_getElem? (i := 98) (by decide +kernel))) rfl
theorem zm1196 : Cond.lays "PretendDesk$Tape" "PretendDesk$Tape" "fault" "I" ∈ zTb := zTb_in (zT1 (List.mem_of_getElem? (i := 100) (by decide +kernel))) rfl
theorem zm1197 : Cond.lays "PretendDesk$Tape" "PretendDesk$Tape" "faultPlace" "I" ∈ zTb := zTb_in (zT1 (List.mem_of_getElem? (i := 102) (by decide +kernel))) rfl
theorem zm1198 : Cond.lays "PretendDesk$Tape" "PretendDesk$Tape" "taken" "I" ∈ zTb := zTb_in (zT1 (List.mem_of_getElem? (i := 104) (by decide +kernel))) rfl
theorem zm1199 : Cond.laysFinal "PretendDesk$Tape" "PretendDesk$Tape" "inside" "[I" ∈ zTb := zTb_in (zT1 (List.mem_of_getElem? (i := 106) (by decide +kernel))) rfl
theorem zm1200 : Cond.laysFinal "PretendDesk$Tape" "PretendDesk$Tape" "builder" "Ljava/lang/StringBuilder;" ∈ zTb := zTb_in (zT1 (List.mem_of_getElem? (i := 108) (by decide +kernel))) rfl
theorem zm1201 : Cond.lays "PretendDesk$Tape" "PretendDesk$Tape" "at" "I" ∈ zTb := zTb_in (zT1 (List.mem_of_getElem? (i := 110) (by decide +kernel))) rfl
theorem zm1202 : Cond.lays "PretendDesk$Tape" "PretendDesk$Tape" "token" "I" ∈ zTb := zTb_in (zT1 (List.mem_of_getElem? (i := 112) (by decide +kernel))) rfl
theorem zm1203 : Cond.lays "PretendDesk$Tape" "PretendDesk$Tape" "place" "I" ∈ zTb := zTb_in (zT1 (List.mem_of_getElem? (i := 114) (by decide +kernel))) rfl
theorem zm1204 : Cond.lays "PretendDesk$Tape" "PretendDesk$Tape" "number" "I" ∈ zTb := zTb_in (zT1 (List.mem_of_getElem? (i := 116) (by decide +kernel))) rfl
theorem zm1205 : Cond.laysFinal "PretendDesk$House" "PretendDesk$House" "page" "[LPretendDesk$Page;" ∈ zTb := zTb_in (zT1 (List.mem_of_getElem? (i := 195) (by decide +kernel))) rfl
theorem zm1206 : Cond.lays "PretendDesk$House" "PretendDesk$House" "name" "Ljava/lang/String;" ∈ zTb := zTb_in (zT1 (List.mem_of_getElem? (i := 197) (by decide +kernel))) rfl
theorem zm1207 : Cond.lays "PretendDesk$House" "PretendDesk$House" "owned" "I" ∈ zTb := zTb_in (zT1 (List.mem_of_getElem? (i := 199) (by decide +kernel))) rfl
theorem zm1208 : Cond.lays "PretendDesk$House" "PretendDesk$House" "squares" "I" ∈ zTb := zTb_in (zT1 (List.mem_of_getElem? (i := 201) (by decide +kernel))) rfl
theorem zm1209 : Cond.laysFinal "PretendDesk$Came" "PretendDesk$Came" "text" "LPretendDesk$Page;" ∈ zTb := zTb_in (zT1 (List.mem_of_getElem? (i := 232) (by decide +kernel))) rfl
theorem zm1210 : Cond.laysFinal "PretendDesk$Came" "PretendDesk$Came" "change" "[I" ∈ zTb := zTb_in (zT1 (List.mem_of_getElem? (i := 234) (by decide +kernel))) rfl
theorem zm1211 : Cond.laysFinal "PretendDesk$Came" "PretendDesk$Came" "line" "[I" ∈ zTb := zTb_in (zT1 (List.mem_of_getElem? (i := 236) (by decide +kernel))) rfl
theorem zm1212 : Cond.lays "PretendDesk$Came" "PretendDesk$Came" "name" "Ljava/lang/String;" ∈ zTb := zTb_in (zT1 (List.mem_of_getElem? (i := 238) (by decide +kernel))) rfl
theorem zm1213 : Cond.lays "PretendDesk$Came" "PretendDesk$Came" "since" "I" ∈ zTb := zTb_in (zT2 (List.mem_of_getElem? (i := 0) (by decide +kernel))) rfl
theorem zm1214 : Cond.lays "PretendDesk$Came" "PretendDesk$Came" "pieces" "I" ∈ zTb := zTb_in (zT2 (List.mem_of_getElem? (i := 2) (by decide +kernel))) rfl
theorem zm1215 : Cond.lays "PretendDesk$Came" "PretendDesk$Came" "squares" "I" ∈ zTb := zTb_in (zT2 (List.mem_of_getElem? (i := 4) (by decide +kernel))) rfl
theorem zm1216 : Cond.lays "PretendDesk$Came" "PretendDesk$Came" "changes" "I" ∈ zTb := zTb_in (zT2 (List.mem_of_getElem? (i := 6) (by decide +kernel))) rfl
theorem zm1217 : Cond.lays "PretendDesk$Came" "PretendDesk$Came" "lines" "I" ∈ zTb := zTb_in (zT2 (List.mem_of_getElem? (i := 8) (by decide +kernel))) rfl
theorem zm1218 : Cond.laysFinal "PretendDesk$Page" "PretendDesk$Page" "row" "[I" ∈ zTb := zTb_in (zT1 (List.mem_of_getElem? (i := 178) (by decide +kernel))) rfl
theorem zm1219 : Cond.lays "PretendDesk$Page" "PretendDesk$Page" "count" "I" ∈ zTb := zTb_in (zT1 (List.mem_of_getElem? (i := 180) (by decide +kernel))) rfl
theorem zm1220 : Cond.laysFinal "PretendDesk$Speech" "PretendDesk$Speech" "word" "[C" ∈ zTb := zTb_in (zT1 (List.mem_of_getElem? (i := 142) (by decide +kernel))) rfl
theorem zm1221 : Cond.laysFinal "PretendDesk$Speech" "PretendDesk$Speech" "wordLength" "[I" ∈ zTb := zTb_in (zT1 (List.mem_of_getElem? (i := 144) (by decide +kernel))) rfl
theorem zm1222 : Cond.laysFinal "PretendDesk$Speech" "PretendDesk$Speech" "wordMeaning" "[I" ∈ zTb := zTb_in (zT1 (List.mem_of_getElem? (i := 146) (by decide +kernel))) rfl
theorem zm1223 : Cond.laysFinal "PretendDesk$Speech" "PretendDesk$Speech" "patternMeanings" "[I" ∈ zTb := zTb_in (zT1 (List.mem_of_getElem? (i := 148) (by decide +kernel))) rfl
theorem zm1224 : Cond.laysFinal "PretendDesk$Speech" "PretendDesk$Speech" "patternWeight" "[I" ∈ zTb := zTb_in (zT1 (List.mem_of_getElem? (i := 150) (by decide +kernel))) rfl
theorem zm1225 : Cond.laysFinal "PretendDesk$Speech" "PretendDesk$Speech" "letter" "[C" ∈ zTb := zTb_in (zT1 (List.mem_of_getElem? (i := 152) (by decide +kernel))) rfl
theorem zm1226 : Cond.lays "PretendDesk$Speech" "PretendDesk$Speech" "words" "I" ∈ zTb := zTb_in (zT1 (List.mem_of_getElem? (i := 154) (by decide +kernel))) rfl
theorem zm1227 : Cond.lays "PretendDesk$Speech" "PretendDesk$Speech" "patterns" "I" ∈ zTb := zTb_in (zT1 (List.mem_of_getElem? (i := 156) (by decide +kernel))) rfl
theorem zm1228 : Cond.lays "PretendDesk$Speech" "PretendDesk$Speech" "length" "I" ∈ zTb := zTb_in (zT1 (List.mem_of_getElem? (i := 158) (by decide +kernel))) rfl
theorem zm1229 : Cond.laysFinal "PretendDesk$Opened" "PretendDesk$Opened" "kind" "[I" ∈ zTb := zTb_in (zT2 (List.mem_of_getElem? (i := 110) (by decide +kernel))) rfl
theorem zm1230 : Cond.laysFinal "PretendDesk$Opened" "PretendDesk$Opened" "colour" "[I" ∈ zTb := zTb_in (zT2 (List.mem_of_getElem? (i := 112) (by decide +kernel))) rfl
theorem zm1231 : Cond.laysFinal "PretendDesk$Opened" "PretendDesk$Opened" "above" "[I" ∈ zTb := zTb_in (zT2 (List.mem_of_getElem? (i := 114) (by decide +kernel))) rfl
theorem zm1232 : Cond.laysFinal "PretendDesk$Opened" "PretendDesk$Opened" "behind" "[I" ∈ zTb := zTb_in (zT2 (List.mem_of_getElem? (i := 116) (by decide +kernel))) rfl
theorem zm1233 : Cond.laysFinal "PretendDesk$Opened" "PretendDesk$Opened" "number" "[I" ∈ zTb := zTb_in (zT2 (List.mem_of_getElem? (i := 118) (by decide +kernel))) rfl
theorem zm1234 : Cond.lays "PretendDesk$Opened" "PretendDesk$Opened" "count" "I" ∈ zTb := zTb_in (zT2 (List.mem_of_getElem? (i := 120) (by decide +kernel))) rfl
theorem zm1235 : Cond.laysFinal "PretendDesk$Room" "PretendDesk$Room" "mine" "LPretendDesk$Opened;" ∈ zTb := zTb_in (zT2 (List.mem_of_getElem? (i := 137) (by decide +kernel))) rfl
theorem zm1236 : Cond.laysFinal "PretendDesk$Room" "PretendDesk$Room" "its" "LPretendDesk$Opened;" ∈ zTb := zTb_in (zT2 (List.mem_of_getElem? (i := 139) (by decide +kernel))) rfl
theorem zm1237 : Cond.laysFinal "PretendDesk$Room" "PretendDesk$Room" "trees" "[I" ∈ zTb := zTb_in (zT2 (List.mem_of_getElem? (i := 141) (by decide +kernel))) rfl
theorem zm1238 : Cond.laysFinal "PretendDesk$Room" "PretendDesk$Room" "rows" "[I" ∈ zTb := zTb_in (zT2 (List.mem_of_getElem? (i := 143) (by decide +kernel))) rfl
theorem zm1239 : Cond.laysFinal "PretendDesk$Room" "PretendDesk$Room" "told" "LPretendDesk$Told;" ∈ zTb := zTb_in (zT2 (List.mem_of_getElem? (i := 145) (by decide +kernel))) rfl
theorem zm1240 : Cond.lays "PretendDesk$Room" "PretendDesk$Room" "like" "I" ∈ zTb := zTb_in (zT2 (List.mem_of_getElem? (i := 147) (by decide +kernel))) rfl
theorem zm1241 : Cond.lays "PretendDesk$Room" "PretendDesk$Room" "looks" "I" ∈ zTb := zTb_in (zT2 (List.mem_of_getElem? (i := 149) (by decide +kernel))) rfl
theorem zm1242 : Cond.laysFinal "PretendDesk$Forger" "PretendDesk$Forger" "forged" "LPretendDesk$Page;" ∈ zTb := zTb_in (zT2 (List.mem_of_getElem? (i := 170) (by decide +kernel))) rfl
theorem zm1243 : Cond.laysFinal "PretendDesk$Forger" "PretendDesk$Forger" "told" "LPretendDesk$Told;" ∈ zTb := zTb_in (zT2 (List.mem_of_getElem? (i := 172) (by decide +kernel))) rfl
theorem zm1244 : Cond.laysFinal "PretendDesk$Forger" "PretendDesk$Forger" "room" "LPretendDesk$Room;" ∈ zTb := zTb_in (zT2 (List.mem_of_getElem? (i := 174) (by decide +kernel))) rfl
theorem zm1245 : Cond.lays "PretendDesk$Forger" "PretendDesk$Forger" "waits" "I" ∈ zTb := zTb_in (zT2 (List.mem_of_getElem? (i := 176) (by decide +kernel))) rfl
theorem zm1246 : Cond.lays "PretendDesk$Forger" "PretendDesk$Forger" "price" "I" ∈ zTb := zTb_in (zT2 (List.mem_of_getElem? (i := 178) (by decide +kernel))) rfl
theorem zm1247 : Cond.lays "PretendDesk$Forger" "PretendDesk$Forger" "set" "I" ∈ zTb := zTb_in (zT2 (List.mem_of_getElem? (i := 180) (by decide +kernel))) rfl
theorem zm1248 : Cond.lays "PretendDesk$Forger" "PretendDesk$Forger" "says" "I" ∈ zTb := zTb_in (zT2 (List.mem_of_getElem? (i := 182) (by decide +kernel))) rfl
theorem zm1249 : Cond.laysFinal "PretendDesk$Best" "PretendDesk$Best" "looks" "[I" ∈ zTb := zTb_in (zT2 (List.mem_of_getElem? (i := 205) (by decide +kernel))) rfl
theorem zm1250 : Cond.laysFinal "PretendDesk$Best" "PretendDesk$Best" "asked" "[I" ∈ zTb := zTb_in (zT2 (List.mem_of_getElem? (i := 207) (by decide +kernel))) rfl
theorem zm1251 : Cond.laysFinal "PretendDesk$Best" "PretendDesk$Best" "age" "[I" ∈ zTb := zTb_in (zT2 (List.mem_of_getElem? (i := 209) (by decide +kernel))) rfl
theorem zm1252 : Cond.laysFinal "PretendDesk$Best" "PretendDesk$Best" "pretends" "[Z" ∈ zTb := zTb_in (zT2 (List.mem_of_getElem? (i := 211) (by decide +kernel))) rfl
theorem zm1253 : Cond.laysFinal "PretendDesk$Best" "PretendDesk$Best" "turnsA" "[Z" ∈ zTb := zTb_in (zT2 (List.mem_of_getElem? (i := 213) (by decide +kernel))) rfl
theorem zm1254 : Cond.laysFinal "PretendDesk$Best" "PretendDesk$Best" "turnsB" "[Z" ∈ zTb := zTb_in (zT2 (List.mem_of_getElem? (i := 215) (by decide +kernel))) rfl
theorem zm1255 : Cond.laysFinal "PretendDesk$Best" "PretendDesk$Best" "turnsC" "[Z" ∈ zTb := zTb_in (zT2 (List.mem_of_getElem? (i := 217) (by decide +kernel))) rfl
theorem zm1256 : Cond.lays "PretendDesk$Best" "PretendDesk$Best" "cases" "I" ∈ zTb := zTb_in (zT2 (List.mem_of_getElem? (i := 219) (by decide +kernel))) rfl
theorem zm1257 : Cond.lays "PretendDesk$Best" "PretendDesk$Best" "any" "Z" ∈ zTb := zTb_in (zT2 (List.mem_of_getElem? (i := 221) (by decide +kernel))) rfl
theorem zm1258 : Cond.lays "PretendDesk$Best" "PretendDesk$Best" "bestA" "I" ∈ zTb := zTb_in (zT2 (List.mem_of_getElem? (i := 223) (by decide +kernel))) rfl
theorem zm1259 : Cond.lays "PretendDesk$Best" "PretendDesk$Best" "bestB" "I" ∈ zTb := zTb_in (zT2 (List.mem_of_getElem? (i := 225) (by decide +kernel))) rfl
theorem zm1260 : Cond.lays "PretendDesk$Best" "PretendDesk$Best" "bestC" "I" ∈ zTb := zTb_in (zT2 (List.mem_of_getElem? (i := 227) (by decide +kernel))) rfl
theorem zm1261 : Cond.lays "PretendDesk$Best" "PretendDesk$Best" "missed" "I" ∈ zTb := zTb_in (zT2 (List.mem_of_getElem? (i := 229) (by decide +kernel))) rfl
theorem zm1262 : Cond.lays "PretendDesk$Best" "PretendDesk$Best" "honest" "I" ∈ zTb := zTb_in (zT2 (List.mem_of_getElem? (i := 231) (by decide +kernel))) rfl
theorem zm1263 : Cond.laysFinal "PretendDesk$Runner" "PretendDesk$Runner" "numbers" "[I" ∈ zTb := zTb_in (zT3 (List.mem_of_getElem? (i := 6) (by decide +kernel))) rfl
theorem zm1264 : Cond.laysFinal "PretendDesk$Runner" "PretendDesk$Runner" "traces" "[I" ∈ zTb := zTb_in (zT3 (List.mem_of_getElem? (i := 8) (by decide +kernel))) rfl
theorem zm1265 : Cond.laysFinal "PretendDesk$Runner" "PretendDesk$Runner" "got" "[I" ∈ zTb := zTb_in (zT3 (List.mem_of_getElem? (i := 10) (by decide +kernel))) rfl
theorem zm1266 : Cond.lays "PretendDesk$Runner" "PretendDesk$Runner" "steps" "I" ∈ zTb := zTb_in (zT3 (List.mem_of_getElem? (i := 12) (by decide +kernel))) rfl
theorem zm1267 : Cond.laysFinal "PretendDeskModel" "PretendDeskModel" "all" "[I" ∈ zTb := zTb_in (zT6 (List.mem_of_getElem? (i := 234) (by decide +kernel))) rfl
theorem zm1268 : Cond.laysFinal "PretendDeskModel" "PretendDeskModel" "has" "[Z" ∈ zTb := zTb_in (zT6 (List.mem_of_getElem? (i := 236) (by decide +kernel))) rfl
theorem zm1269 : Cond.lays "PretendDeskModel" "PretendDeskModel" "size" "I" ∈ zTb := zTb_in (zT6 (List.mem_of_getElem? (i := 238) (by decide +kernel))) rfl
theorem zm1270 : Cond.lays "PretendDeskModel" "PretendDeskModel" "next" "I" ∈ zTb := zTb_in (zT7 (List.mem_of_getElem? (i := 0) (by decide +kernel))) rfl
theorem zm1271 : Cond.lays "PretendDeskModel" "PretendDeskModel" "where" "I" ∈ zTb := zTb_in (zT7 (List.mem_of_getElem? (i := 2) (by decide +kernel))) rfl
theorem zm1272 : Cond.lays "PretendDeskModel" "PretendDeskModel" "token" "I" ∈ zTb := zTb_in (zT7 (List.mem_of_getElem? (i := 4) (by decide +kernel))) rfl
theorem zm1273 : Cond.lays "PretendDeskModel" "PretendDeskModel" "number" "I" ∈ zTb := zTb_in (zT7 (List.mem_of_getElem? (i := 6) (by decide +kernel))) rfl
theorem zm1274 : Cond.lays "PretendDeskModel" "PretendDeskModel" "sign" "I" ∈ zTb := zTb_in (zT7 (List.mem_of_getElem? (i := 8) (by decide +kernel))) rfl
theorem zm1275 : Cond.lays "PretendDeskModel" "PretendDeskModel" "word" "I" ∈ zTb := zTb_in (zT7 (List.mem_of_getElem? (i := 10) (by decide +kernel))) rfl
theorem zm1276 : Cond.lays "PretendDeskModel" "PretendDeskModel" "wrong" "Z" ∈ zTb := zTb_in (zT7 (List.mem_of_getElem? (i := 12) (by decide +kernel))) rfl
theorem zm1277 : Cond.lays "PretendDeskModel" "PretendDeskModel" "boxes" "I" ∈ zTb := zTb_in (zT7 (List.mem_of_getElem? (i := 14) (by decide +kernel))) rfl
theorem zm1278 : Cond.lays "PretendDeskModel" "PretendDeskModel" "depth" "I" ∈ zTb := zTb_in (zT7 (List.mem_of_getElem? (i := 16) (by decide +kernel))) rfl
theorem zm1279 : Cond.laysFinal "PretendDeskModel" "PretendDeskModel" "within" "[I" ∈ zTb := zTb_in (zT7 (List.mem_of_getElem? (i := 18) (by decide +kernel))) rfl
theorem zm1280 : Cond.laysFinal "PretendDeskModel" "PretendDeskModel" "read" "[I" ∈ zTb := zTb_in (zT7 (List.mem_of_getElem? (i := 20) (by decide +kernel))) rfl
theorem zm1281 : Cond.laysFinal "PretendDeskModel" "PretendDeskModel" "spelled" "[I" ∈ zTb := zTb_in (zT7 (List.mem_of_getElem? (i := 22) (by decide +kernel))) rfl
theorem zm1282 : Cond.lays "PretendDeskModel" "PretendDeskModel" "tree" "I" ∈ zTb := zTb_in (zT7 (List.mem_of_getElem? (i := 24) (by decide +kernel))) rfl
theorem zm1283 : Cond.laysFinal "PretendDeskModel" "PretendDeskModel" "gone" "[Z" ∈ zTb := zTb_in (zT7 (List.mem_of_getElem? (i := 26) (by decide +kernel))) rfl
theorem zm1284 : Cond.laysFinal "PretendDeskModel" "PretendDeskModel" "colour" "[I" ∈ zTb := zTb_in (zT7 (List.mem_of_getElem? (i := 28) (by decide +kernel))) rfl
theorem zm1285 : Cond.laysFinal "PretendDeskModel" "PretendDeskModel" "shown" "[Z" ∈ zTb := zTb_in (zT7 (List.mem_of_getElem? (i := 30) (by decide +kernel))) rfl
theorem zm1286 : Cond.laysFinal "PretendDeskModel" "PretendDeskModel" "over" "[I" ∈ zTb := zTb_in (zT7 (List.mem_of_getElem? (i := 32) (by decide +kernel))) rfl
theorem zm1287 : Cond.laysFinal "PretendDeskModel" "PretendDeskModel" "stack" "[I" ∈ zTb := zTb_in (zT7 (List.mem_of_getElem? (i := 34) (by decide +kernel))) rfl
theorem zm1288 : Cond.laysFinal "PretendDeskModel" "PretendDeskModel" "begun" "[I" ∈ zTb := zTb_in (zT7 (List.mem_of_getElem? (i := 36) (by decide +kernel))) rfl
theorem zm1289 : Cond.laysFinal "PretendDeskModel" "PretendDeskModel" "many" "[I" ∈ zTb := zTb_in (zT7 (List.mem_of_getElem? (i := 38) (by decide +kernel))) rfl
theorem zm1290 : Cond.laysFinal "PretendDeskModel" "PretendDeskModel" "kinds" "[I" ∈ zTb := zTb_in (zT7 (List.mem_of_getElem? (i := 40) (by decide +kernel))) rfl
theorem zm1291 : Cond.laysFinal "PretendDeskModel" "PretendDeskModel" "colours" "[I" ∈ zTb := zTb_in (zT7 (List.mem_of_getElem? (i := 42) (by decide +kernel))) rfl
theorem zm1292 : Cond.laysFinal "PretendDeskModel" "PretendDeskModel" "first" "[I" ∈ zTb := zTb_in (zT7 (List.mem_of_getElem? (i := 44) (by decide +kernel))) rfl
theorem zm1293 : Cond.lays "PretendDeskModel" "PretendDeskModel" "opened" "I" ∈ zTb := zTb_in (zT7 (List.mem_of_getElem? (i := 46) (by decide +kernel))) rfl
theorem zm1294 : Cond.lays "PretendDeskModel" "PretendDeskModel" "asked" "I" ∈ zTb := zTb_in (zT7 (List.mem_of_getElem? (i := 48) (by decide +kernel))) rfl
theorem zm1295 : Cond.laysFinal "PretendDeskModel" "PretendDeskModel" "apart" "[I" ∈ zTb := zTb_in (zT7 (List.mem_of_getElem? (i := 50) (by decide +kernel))) rfl
theorem zm1296 : Cond.laysFinal "PretendDeskModel" "PretendDeskModel" "row" "[I" ∈ zTb := zTb_in (zT7 (List.mem_of_getElem? (i := 52) (by decide +kernel))) rfl
theorem zm1297 : Cond.lays "PretendDeskModel" "PretendDeskModel" "likeLook" "I" ∈ zTb := zTb_in (zT7 (List.mem_of_getElem? (i := 54) (by decide +kernel))) rfl
theorem zm1298 : Cond.lays "PretendDeskModel" "PretendDeskModel" "likeIs" "I" ∈ zTb := zTb_in (zT7 (List.mem_of_getElem? (i := 56) (by decide +kernel))) rfl
theorem zm1299 : Cond.lays "PretendDeskModel" "PretendDeskModel" "lookIs" "I" ∈ zTb := zTb_in (zT7 (List.mem_of_getElem? (i := 58) (by decide +kernel))) rfl
theorem zm1300 : Cond.lays "PretendDeskModel" "PretendDeskModel" "askIs" "I" ∈ zTb := zTb_in (zT7 (List.mem_of_getElem? (i := 60) (by decide +kernel))) rfl
theorem zm1301 : Cond.lays "PretendDeskModel" "PretendDeskModel" "isElsewhere" "Z" ∈ zTb := zTb_in (zT7 (List.mem_of_getElem? (i := 62) (by decide +kernel))) rfl
theorem zm1302 : Cond.laysFinal "PretendDeskModel" "PretendDeskModel" "caseLook" "[I" ∈ zTb := zTb_in (zT7 (List.mem_of_getElem? (i := 64) (by decide +kernel))) rfl
theorem zm1303 : Cond.laysFinal "PretendDeskModel" "PretendDeskModel" "caseAsk" "[I" ∈ zTb := zTb_in (zT7 (List.mem_of_getElem? (i := 66) (by decide +kernel))) rfl
theorem zm1304 : Cond.laysFinal "PretendDeskModel" "PretendDeskModel" "caseAge" "[I" ∈ zTb := zTb_in (zT7 (List.mem_of_getElem? (i := 68) (by decide +kernel))) rfl
theorem zm1305 : Cond.laysFinal "PretendDeskModel" "PretendDeskModel" "told" "[I" ∈ zTb := zTb_in (zT7 (List.mem_of_getElem? (i := 70) (by decide +kernel))) rfl
theorem zm1306 : Cond.laysFinal "PretendDeskModel" "PretendDeskModel" "fitted" "[I" ∈ zTb := zTb_in (zT7 (List.mem_of_getElem? (i := 72) (by decide +kernel))) rfl
theorem zm1307 : Cond.lays "PretendDeskModel" "PretendDeskModel" "waits" "I" ∈ zTb := zTb_in (zT7 (List.mem_of_getElem? (i := 74) (by decide +kernel))) rfl
theorem zm1308 : Cond.lays "PretendDeskModel" "PretendDeskModel" "priceNow" "I" ∈ zTb := zTb_in (zT7 (List.mem_of_getElem? (i := 76) (by decide +kernel))) rfl
theorem zm1309 : Cond.lays "PretendDeskModel" "PretendDeskModel" "lines" "I" ∈ zTb := zTb_in (zT7 (List.mem_of_getElem? (i := 78) (by decide +kernel))) rfl
theorem zm1310 : Cond.laysFinal "PretendDeskModel" "PretendDeskModel" "line" "[I" ∈ zTb := zTb_in (zT7 (List.mem_of_getElem? (i := 80) (by decide +kernel))) rfl
theorem zm1311 : Cond.laysFinal "PretendDeskModel" "PretendDeskModel" "register" "[I" ∈ zTb := zTb_in (zT7 (List.mem_of_getElem? (i := 82) (by decide +kernel))) rfl
theorem zm1312 : Cond.laysFinal "PretendDeskModel" "PretendDeskModel" "traces" "[I" ∈ zTb := zTb_in (zT7 (List.mem_of_getElem? (i := 84) (by decide +kernel))) rfl
theorem zm1313 : Cond.laysFinal "PretendDeskModel" "PretendDeskModel" "come" "[I" ∈ zTb := zTb_in (zT7 (List.mem_of_getElem? (i := 86) (by decide +kernel))) rfl
theorem zm1314 : Cond.lays "PretendDeskModel" "PretendDeskModel" "relays" "I" ∈ zTb := zTb_in (zT7 (List.mem_of_getElem? (i := 88) (by decide +kernel))) rfl
theorem zm1315 : Cond.lays "PretendDeskModel" "PretendDeskModel" "meant" "I" ∈ zTb := zTb_in (zT7 (List.mem_of_getElem? (i := 90) (by decide +kernel))) rfl
theorem zm1316 : Cond.laysFinal "java/lang/String" "java/lang/String" "value" "[B" ∈ zTb := zTb_in (zT4 (List.mem_of_getElem? (i := 18) (by decide +kernel))) rfl
theorem zm1317 : Cond.laysFinal "java/lang/String" "java/lang/String" "coder" "B" ∈ zTb := zTb_in (zT4 (List.mem_of_getElem? (i := 20) (by decide +kernel))) rfl
theorem zm1318 : Cond.lays "java/lang/String" "java/lang/String" "hash" "I" ∈ zTb := zTb_in (zT4 (List.mem_of_getElem? (i := 22) (by decide +kernel))) rfl
theorem zm1319 : Cond.lays "java/lang/String" "java/lang/String" "hashIsZero" "Z" ∈ zTb := zTb_in (zT4 (List.mem_of_getElem? (i := 24) (by decide +kernel))) rfl
theorem zm1320 : Cond.lays "java/lang/StringBuilder" "java/lang/AbstractStringBuilder" "value" "[B" ∈ zTb := zTb_in (zT1 (List.mem_of_getElem? (i := 68) (by decide +kernel))) rfl
theorem zm1321 : Cond.lays "java/lang/StringBuilder" "java/lang/AbstractStringBuilder" "coder" "B" ∈ zTb := zTb_in (zT1 (List.mem_of_getElem? (i := 70) (by decide +kernel))) rfl
theorem zm1322 : Cond.lays "java/lang/StringBuilder" "java/lang/AbstractStringBuilder" "maybeLatin1" "Z" ∈ zTb := zTb_in (zT1 (List.mem_of_getElem? (i := 72) (by decide +kernel))) rfl
theorem zm1323 : Cond.lays "java/lang/StringBuilder" "java/lang/AbstractStringBuilder" "count" "I" ∈ zTb := zTb_in (zT1 (List.mem_of_getElem? (i := 74) (by decide +kernel))) rfl
