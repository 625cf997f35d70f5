/-! ===== words of the law (wip/whole/gen_law.py) ===== -/
theorem zlt3_48 : Cond.methodLink "PretendDeskLaw" 13 (⟨"PretendDesk", "feed", "(IIIII)I"⟩ : MethodName) ∈ zTb := zTb_in (zT3 (List.mem_of_getElem? (i := 48) (by decide +kernel))) rfl
theorem zlt3_49 : Cond.instanceMethod (⟨"PretendDesk", "feed", "(IIIII)I"⟩ : MethodName) ∈ zTb := zTb_in (zT3 (List.mem_of_getElem? (i := 49) (by decide +kernel))) rfl
theorem zlt3_50 : Cond.selects "PretendDesk" (⟨"PretendDesk", "feed", "(IIIII)I"⟩ : MethodName) (⟨"PretendDesk", "feed", "(IIIII)I"⟩ : MethodName) ∈ zTb := zTb_in (zT3 (List.mem_of_getElem? (i := 50) (by decide +kernel))) rfl
theorem zlt3_51 : Cond.code (⟨"PretendDesk", "feed", "(IIIII)I"⟩ : MethodName) prog_1_method_2_code 7 (some (.int)) ∈ zTb := zTb_in (zT3 (List.mem_of_getElem? (i := 51) (by decide +kernel))) rfl
theorem zlt3_56 : Cond.methodLink "PretendDeskLaw" 18 (⟨"PretendDesk", "end", "(I)I"⟩ : MethodName) ∈ zTb := zTb_in (zT3 (List.mem_of_getElem? (i := 56) (by decide +kernel))) rfl
theorem zlt3_57 : Cond.instanceMethod (⟨"PretendDesk", "end", "(I)I"⟩ : MethodName) ∈ zTb := zTb_in (zT3 (List.mem_of_getElem? (i := 57) (by decide +kernel))) rfl
theorem zlt3_58 : Cond.selects "PretendDesk" (⟨"PretendDesk", "end", "(I)I"⟩ : MethodName) (⟨"PretendDesk", "end", "(I)I"⟩ : MethodName) ∈ zTb := zTb_in (zT3 (List.mem_of_getElem? (i := 58) (by decide +kernel))) rfl
theorem zlt3_59 : Cond.code (⟨"PretendDesk", "end", "(I)I"⟩ : MethodName) prog_1_method_3_code 2 (some (.int)) ∈ zTb := zTb_in (zT3 (List.mem_of_getElem? (i := 59) (by decide +kernel))) rfl
theorem zlt3_60 : Cond.methodLink "PretendDeskLaw" 23 (⟨"PretendDesk", "house", "()I"⟩ : MethodName) ∈ zTb := zTb_in (zT3 (List.mem_of_getElem? (i := 60) (by decide +kernel))) rfl
theorem zlt3_61 : Cond.instanceMethod (⟨"PretendDesk", "house", "()I"⟩ : MethodName) ∈ zTb := zTb_in (zT3 (List.mem_of_getElem? (i := 61) (by decide +kernel))) rfl
theorem zlt3_62 : Cond.selects "PretendDesk" (⟨"PretendDesk", "house", "()I"⟩ : MethodName) (⟨"PretendDesk", "house", "()I"⟩ : MethodName) ∈ zTb := zTb_in (zT3 (List.mem_of_getElem? (i := 62) (by decide +kernel))) rfl
theorem zlt3_63 : Cond.code (⟨"PretendDesk", "house", "()I"⟩ : MethodName) prog_1_method_4_code 1 (some (.int)) ∈ zTb := zTb_in (zT3 (List.mem_of_getElem? (i := 63) (by decide +kernel))) rfl
theorem zlt4_120 : Cond.methodLink "PretendDeskLaw" 37 (⟨"PretendDesk", "page", "()I"⟩ : MethodName) ∈ zTb := zTb_in (zT4 (List.mem_of_getElem? (i := 120) (by decide +kernel))) rfl
theorem zlt4_121 : Cond.instanceMethod (⟨"PretendDesk", "page", "()I"⟩ : MethodName) ∈ zTb := zTb_in (zT4 (List.mem_of_getElem? (i := 121) (by decide +kernel))) rfl
theorem zlt4_122 : Cond.selects "PretendDesk" (⟨"PretendDesk", "page", "()I"⟩ : MethodName) (⟨"PretendDesk", "page", "()I"⟩ : MethodName) ∈ zTb := zTb_in (zT4 (List.mem_of_getElem? (i := 122) (by decide +kernel))) rfl
theorem zlt4_123 : Cond.code (⟨"PretendDesk", "page", "()I"⟩ : MethodName) prog_1_method_7_code 1 (some (.int)) ∈ zTb := zTb_in (zT4 (List.mem_of_getElem? (i := 123) (by decide +kernel))) rfl
theorem zlt4_124 : Cond.methodLink "PretendDeskLaw" 41 (⟨"PretendDesk", "fault", "(I)I"⟩ : MethodName) ∈ zTb := zTb_in (zT4 (List.mem_of_getElem? (i := 124) (by decide +kernel))) rfl
theorem zlt4_125 : Cond.instanceMethod (⟨"PretendDesk", "fault", "(I)I"⟩ : MethodName) ∈ zTb := zTb_in (zT4 (List.mem_of_getElem? (i := 125) (by decide +kernel))) rfl
theorem zlt4_126 : Cond.selects "PretendDesk" (⟨"PretendDesk", "fault", "(I)I"⟩ : MethodName) (⟨"PretendDesk", "fault", "(I)I"⟩ : MethodName) ∈ zTb := zTb_in (zT4 (List.mem_of_getElem? (i := 126) (by decide +kernel))) rfl
theorem zlt4_127 : Cond.code (⟨"PretendDesk", "fault", "(I)I"⟩ : MethodName) prog_1_method_8_code 2 (some (.int)) ∈ zTb := zTb_in (zT4 (List.mem_of_getElem? (i := 127) (by decide +kernel))) rfl
theorem zlt4_128 : Cond.methodLink "PretendDeskLaw" 45 (⟨"PretendDesk", "alike", "(III)Z"⟩ : MethodName) ∈ zTb := zTb_in (zT4 (List.mem_of_getElem? (i := 128) (by decide +kernel))) rfl
theorem zlt4_129 : Cond.instanceMethod (⟨"PretendDesk", "alike", "(III)Z"⟩ : MethodName) ∈ zTb := zTb_in (zT4 (List.mem_of_getElem? (i := 129) (by decide +kernel))) rfl
theorem zlt4_130 : Cond.selects "PretendDesk" (⟨"PretendDesk", "alike", "(III)Z"⟩ : MethodName) (⟨"PretendDesk", "alike", "(III)Z"⟩ : MethodName) ∈ zTb := zTb_in (zT4 (List.mem_of_getElem? (i := 130) (by decide +kernel))) rfl
theorem zlt4_131 : Cond.code (⟨"PretendDesk", "alike", "(III)Z"⟩ : MethodName) prog_1_method_9_code 6 (some (.boolean)) ∈ zTb := zTb_in (zT4 (List.mem_of_getElem? (i := 131) (by decide +kernel))) rfl
theorem zlt4_135 : Cond.methodLink "PretendDeskLaw" 50 (⟨"PretendDesk", "spell", "(II)I"⟩ : MethodName) ∈ zTb := zTb_in (zT4 (List.mem_of_getElem? (i := 135) (by decide +kernel))) rfl
theorem zlt4_136 : Cond.instanceMethod (⟨"PretendDesk", "spell", "(II)I"⟩ : MethodName) ∈ zTb := zTb_in (zT4 (List.mem_of_getElem? (i := 136) (by decide +kernel))) rfl
theorem zlt4_137 : Cond.selects "PretendDesk" (⟨"PretendDesk", "spell", "(II)I"⟩ : MethodName) (⟨"PretendDesk", "spell", "(II)I"⟩ : MethodName) ∈ zTb := zTb_in (zT4 (List.mem_of_getElem? (i := 137) (by decide +kernel))) rfl
theorem zlt4_138 : Cond.code (⟨"PretendDesk", "spell", "(II)I"⟩ : MethodName) prog_1_method_10_code 5 (some (.int)) ∈ zTb := zTb_in (zT4 (List.mem_of_getElem? (i := 138) (by decide +kernel))) rfl
theorem zlt4_154 : Cond.methodLink "PretendDeskLaw" 55 (⟨"PretendDesk", "stands", "(III)Z"⟩ : MethodName) ∈ zTb := zTb_in (zT4 (List.mem_of_getElem? (i := 154) (by decide +kernel))) rfl
theorem zlt4_155 : Cond.instanceMethod (⟨"PretendDesk", "stands", "(III)Z"⟩ : MethodName) ∈ zTb := zTb_in (zT4 (List.mem_of_getElem? (i := 155) (by decide +kernel))) rfl
theorem zlt4_156 : Cond.selects "PretendDesk" (⟨"PretendDesk", "stands", "(III)Z"⟩ : MethodName) (⟨"PretendDesk", "stands", "(III)Z"⟩ : MethodName) ∈ zTb := zTb_in (zT4 (List.mem_of_getElem? (i := 156) (by decide +kernel))) rfl
theorem zlt4_157 : Cond.code (⟨"PretendDesk", "stands", "(III)Z"⟩ : MethodName) prog_1_method_15_code 4 (some (.boolean)) ∈ zTb := zTb_in (zT4 (List.mem_of_getElem? (i := 157) (by decide +kernel))) rfl
theorem zlt4_162 : Cond.methodLink "PretendDeskLaw" 59 (⟨"PretendDesk", "worth", "(II)Z"⟩ : MethodName) ∈ zTb := zTb_in (zT4 (List.mem_of_getElem? (i := 162) (by decide +kernel))) rfl
theorem zlt4_163 : Cond.instanceMethod (⟨"PretendDesk", "worth", "(II)Z"⟩ : MethodName) ∈ zTb := zTb_in (zT4 (List.mem_of_getElem? (i := 163) (by decide +kernel))) rfl
theorem zlt4_164 : Cond.selects "PretendDesk" (⟨"PretendDesk", "worth", "(II)Z"⟩ : MethodName) (⟨"PretendDesk", "worth", "(II)Z"⟩ : MethodName) ∈ zTb := zTb_in (zT4 (List.mem_of_getElem? (i := 164) (by decide +kernel))) rfl
theorem zlt4_165 : Cond.code (⟨"PretendDesk", "worth", "(II)Z"⟩ : MethodName) prog_1_method_16_code 3 (some (.boolean)) ∈ zTb := zTb_in (zT4 (List.mem_of_getElem? (i := 165) (by decide +kernel))) rfl
theorem zlt4_166 : Cond.methodLink "PretendDeskLaw" 94 (⟨"PretendDesk", "marks", "(III)Z"⟩ : MethodName) ∈ zTb := zTb_in (zT4 (List.mem_of_getElem? (i := 166) (by decide +kernel))) rfl
theorem zlt4_167 : Cond.instanceMethod (⟨"PretendDesk", "marks", "(III)Z"⟩ : MethodName) ∈ zTb := zTb_in (zT4 (List.mem_of_getElem? (i := 167) (by decide +kernel))) rfl
theorem zlt4_168 : Cond.selects "PretendDesk" (⟨"PretendDesk", "marks", "(III)Z"⟩ : MethodName) (⟨"PretendDesk", "marks", "(III)Z"⟩ : MethodName) ∈ zTb := zTb_in (zT4 (List.mem_of_getElem? (i := 168) (by decide +kernel))) rfl
theorem zlt4_169 : Cond.code (⟨"PretendDesk", "marks", "(III)Z"⟩ : MethodName) prog_1_method_17_code 4 (some (.boolean)) ∈ zTb := zTb_in (zT4 (List.mem_of_getElem? (i := 169) (by decide +kernel))) rfl
theorem zlt4_170 : Cond.methodLink "PretendDeskLaw" 64 (⟨"PretendDesk", "boxes", "(III)I"⟩ : MethodName) ∈ zTb := zTb_in (zT4 (List.mem_of_getElem? (i := 170) (by decide +kernel))) rfl
theorem zlt4_171 : Cond.instanceMethod (⟨"PretendDesk", "boxes", "(III)I"⟩ : MethodName) ∈ zTb := zTb_in (zT4 (List.mem_of_getElem? (i := 171) (by decide +kernel))) rfl
theorem zlt4_172 : Cond.selects "PretendDesk" (⟨"PretendDesk", "boxes", "(III)I"⟩ : MethodName) (⟨"PretendDesk", "boxes", "(III)I"⟩ : MethodName) ∈ zTb := zTb_in (zT4 (List.mem_of_getElem? (i := 172) (by decide +kernel))) rfl
theorem zlt4_173 : Cond.code (⟨"PretendDesk", "boxes", "(III)I"⟩ : MethodName) prog_1_method_18_code 4 (some (.int)) ∈ zTb := zTb_in (zT4 (List.mem_of_getElem? (i := 173) (by decide +kernel))) rfl
theorem zlt4_206 : Cond.methodLink "PretendDeskLaw" 69 (⟨"PretendDesk", "box", "(III)I"⟩ : MethodName) ∈ zTb := zTb_in (zT4 (List.mem_of_getElem? (i := 206) (by decide +kernel))) rfl
theorem zlt4_207 : Cond.instanceMethod (⟨"PretendDesk", "box", "(III)I"⟩ : MethodName) ∈ zTb := zTb_in (zT4 (List.mem_of_getElem? (i := 207) (by decide +kernel))) rfl
theorem zlt4_208 : Cond.selects "PretendDesk" (⟨"PretendDesk", "box", "(III)I"⟩ : MethodName) (⟨"PretendDesk", "box", "(III)I"⟩ : MethodName) ∈ zTb := zTb_in (zT4 (List.mem_of_getElem? (i := 208) (by decide +kernel))) rfl
theorem zlt4_209 : Cond.code (⟨"PretendDesk", "box", "(III)I"⟩ : MethodName) prog_1_method_19_code 5 (some (.int)) ∈ zTb := zTb_in (zT4 (List.mem_of_getElem? (i := 209) (by decide +kernel))) rfl
theorem zlt4_211 : Cond.methodLink "PretendDeskLaw" 73 (⟨"PretendDesk", "far", "(IIII)I"⟩ : MethodName) ∈ zTb := zTb_in (zT4 (List.mem_of_getElem? (i := 211) (by decide +kernel))) rfl
theorem zlt4_212 : Cond.instanceMethod (⟨"PretendDesk", "far", "(IIII)I"⟩ : MethodName) ∈ zTb := zTb_in (zT4 (List.mem_of_getElem? (i := 212) (by decide +kernel))) rfl
theorem zlt4_213 : Cond.selects "PretendDesk" (⟨"PretendDesk", "far", "(IIII)I"⟩ : MethodName) (⟨"PretendDesk", "far", "(IIII)I"⟩ : MethodName) ∈ zTb := zTb_in (zT4 (List.mem_of_getElem? (i := 213) (by decide +kernel))) rfl
theorem zlt4_214 : Cond.code (⟨"PretendDesk", "far", "(IIII)I"⟩ : MethodName) prog_1_method_20_code 5 (some (.int)) ∈ zTb := zTb_in (zT4 (List.mem_of_getElem? (i := 214) (by decide +kernel))) rfl
theorem zlt4_232 : Cond.methodLink "PretendDeskLaw" 78 (⟨"PretendDesk", "look", "(IIII)I"⟩ : MethodName) ∈ zTb := zTb_in (zT4 (List.mem_of_getElem? (i := 232) (by decide +kernel))) rfl
theorem zlt4_233 : Cond.instanceMethod (⟨"PretendDesk", "look", "(IIII)I"⟩ : MethodName) ∈ zTb := zTb_in (zT4 (List.mem_of_getElem? (i := 233) (by decide +kernel))) rfl
theorem zlt4_234 : Cond.selects "PretendDesk" (⟨"PretendDesk", "look", "(IIII)I"⟩ : MethodName) (⟨"PretendDesk", "look", "(IIII)I"⟩ : MethodName) ∈ zTb := zTb_in (zT4 (List.mem_of_getElem? (i := 234) (by decide +kernel))) rfl
theorem zlt4_235 : Cond.code (⟨"PretendDesk", "look", "(IIII)I"⟩ : MethodName) prog_1_method_21_code 5 (some (.int)) ∈ zTb := zTb_in (zT4 (List.mem_of_getElem? (i := 235) (by decide +kernel))) rfl
theorem zlt4_27 : Cond.methodLink "PretendDeskLaw" 28 (⟨"PretendDesk", "name", "(I)Z"⟩ : MethodName) ∈ zTb := zTb_in (zT4 (List.mem_of_getElem? (i := 27) (by decide +kernel))) rfl
theorem zlt4_28 : Cond.instanceMethod (⟨"PretendDesk", "name", "(I)Z"⟩ : MethodName) ∈ zTb := zTb_in (zT4 (List.mem_of_getElem? (i := 28) (by decide +kernel))) rfl
theorem zlt4_29 : Cond.selects "PretendDesk" (⟨"PretendDesk", "name", "(I)Z"⟩ : MethodName) (⟨"PretendDesk", "name", "(I)Z"⟩ : MethodName) ∈ zTb := zTb_in (zT4 (List.mem_of_getElem? (i := 29) (by decide +kernel))) rfl
theorem zlt4_30 : Cond.code (⟨"PretendDesk", "name", "(I)Z"⟩ : MethodName) prog_1_method_5_code 2 (some (.boolean)) ∈ zTb := zTb_in (zT4 (List.mem_of_getElem? (i := 30) (by decide +kernel))) rfl
theorem zlt4_35 : Cond.methodLink "PretendDeskLaw" 33 (⟨"PretendDesk", "own", "(I)I"⟩ : MethodName) ∈ zTb := zTb_in (zT4 (List.mem_of_getElem? (i := 35) (by decide +kernel))) rfl
theorem zlt4_36 : Cond.instanceMethod (⟨"PretendDesk", "own", "(I)I"⟩ : MethodName) ∈ zTb := zTb_in (zT4 (List.mem_of_getElem? (i := 36) (by decide +kernel))) rfl
theorem zlt4_37 : Cond.selects "PretendDesk" (⟨"PretendDesk", "own", "(I)I"⟩ : MethodName) (⟨"PretendDesk", "own", "(I)I"⟩ : MethodName) ∈ zTb := zTb_in (zT4 (List.mem_of_getElem? (i := 37) (by decide +kernel))) rfl
theorem zlt4_38 : Cond.code (⟨"PretendDesk", "own", "(I)I"⟩ : MethodName) prog_1_method_6_code 3 (some (.int)) ∈ zTb := zTb_in (zT4 (List.mem_of_getElem? (i := 38) (by decide +kernel))) rfl
theorem zlt5_10 : Cond.instanceMethod (⟨"PretendDesk", "like", "(III)I"⟩ : MethodName) ∈ zTb := zTb_in (zT5 (List.mem_of_getElem? (i := 10) (by decide +kernel))) rfl
theorem zlt5_100 : Cond.code (⟨"PretendDesk", "fit", "(II)I"⟩ : MethodName) prog_1_method_35_code 7 (some (.int)) ∈ zTb := zTb_in (zT5 (List.mem_of_getElem? (i := 100) (by decide +kernel))) rfl
theorem zlt5_11 : Cond.selects "PretendDesk" (⟨"PretendDesk", "like", "(III)I"⟩ : MethodName) (⟨"PretendDesk", "like", "(III)I"⟩ : MethodName) ∈ zTb := zTb_in (zT5 (List.mem_of_getElem? (i := 11) (by decide +kernel))) rfl
theorem zlt5_12 : Cond.code (⟨"PretendDesk", "like", "(III)I"⟩ : MethodName) prog_1_method_22_code 4 (some (.int)) ∈ zTb := zTb_in (zT5 (List.mem_of_getElem? (i := 12) (by decide +kernel))) rfl
theorem zlt5_130 : Cond.methodLink "PretendDeskLaw" 127 (⟨"PretendDesk", "change", "(IIIII)I"⟩ : MethodName) ∈ zTb := zTb_in (zT5 (List.mem_of_getElem? (i := 130) (by decide +kernel))) rfl
theorem zlt5_131 : Cond.instanceMethod (⟨"PretendDesk", "change", "(IIIII)I"⟩ : MethodName) ∈ zTb := zTb_in (zT5 (List.mem_of_getElem? (i := 131) (by decide +kernel))) rfl
theorem zlt5_132 : Cond.selects "PretendDesk" (⟨"PretendDesk", "change", "(IIIII)I"⟩ : MethodName) (⟨"PretendDesk", "change", "(IIIII)I"⟩ : MethodName) ∈ zTb := zTb_in (zT5 (List.mem_of_getElem? (i := 132) (by decide +kernel))) rfl
theorem zlt5_133 : Cond.code (⟨"PretendDesk", "change", "(IIIII)I"⟩ : MethodName) prog_1_method_36_code 9 (some (.int)) ∈ zTb := zTb_in (zT5 (List.mem_of_getElem? (i := 133) (by decide +kernel))) rfl
theorem zlt5_138 : Cond.methodLink "PretendDeskLaw" 131 (⟨"PretendDesk", "pass", "(IIIII)I"⟩ : MethodName) ∈ zTb := zTb_in (zT5 (List.mem_of_getElem? (i := 138) (by decide +kernel))) rfl
theorem zlt5_139 : Cond.instanceMethod (⟨"PretendDesk", "pass", "(IIIII)I"⟩ : MethodName) ∈ zTb := zTb_in (zT5 (List.mem_of_getElem? (i := 139) (by decide +kernel))) rfl
theorem zlt5_140 : Cond.selects "PretendDesk" (⟨"PretendDesk", "pass", "(IIIII)I"⟩ : MethodName) (⟨"PretendDesk", "pass", "(IIIII)I"⟩ : MethodName) ∈ zTb := zTb_in (zT5 (List.mem_of_getElem? (i := 140) (by decide +kernel))) rfl
theorem zlt5_141 : Cond.code (⟨"PretendDesk", "pass", "(IIIII)I"⟩ : MethodName) prog_1_method_37_code 6 (some (.int)) ∈ zTb := zTb_in (zT5 (List.mem_of_getElem? (i := 141) (by decide +kernel))) rfl
theorem zlt5_174 : Cond.methodLink "PretendDeskLaw" 135 (⟨"PretendDesk", "met", "(IIII)I"⟩ : MethodName) ∈ zTb := zTb_in (zT5 (List.mem_of_getElem? (i := 174) (by decide +kernel))) rfl
theorem zlt5_175 : Cond.instanceMethod (⟨"PretendDesk", "met", "(IIII)I"⟩ : MethodName) ∈ zTb := zTb_in (zT5 (List.mem_of_getElem? (i := 175) (by decide +kernel))) rfl
theorem zlt5_176 : Cond.selects "PretendDesk" (⟨"PretendDesk", "met", "(IIII)I"⟩ : MethodName) (⟨"PretendDesk", "met", "(IIII)I"⟩ : MethodName) ∈ zTb := zTb_in (zT5 (List.mem_of_getElem? (i := 176) (by decide +kernel))) rfl
theorem zlt5_177 : Cond.code (⟨"PretendDesk", "met", "(IIII)I"⟩ : MethodName) prog_1_method_38_code 6 (some (.int)) ∈ zTb := zTb_in (zT5 (List.mem_of_getElem? (i := 177) (by decide +kernel))) rfl
theorem zlt5_183 : Cond.methodLink "PretendDeskLaw" 139 (⟨"PretendDesk", "odds", "(III)I"⟩ : MethodName) ∈ zTb := zTb_in (zT5 (List.mem_of_getElem? (i := 183) (by decide +kernel))) rfl
theorem zlt5_184 : Cond.instanceMethod (⟨"PretendDesk", "odds", "(III)I"⟩ : MethodName) ∈ zTb := zTb_in (zT5 (List.mem_of_getElem? (i := 184) (by decide +kernel))) rfl
theorem zlt5_185 : Cond.selects "PretendDesk" (⟨"PretendDesk", "odds", "(III)I"⟩ : MethodName) (⟨"PretendDesk", "odds", "(III)I"⟩ : MethodName) ∈ zTb := zTb_in (zT5 (List.mem_of_getElem? (i := 185) (by decide +kernel))) rfl
theorem zlt5_186 : Cond.code (⟨"PretendDesk", "odds", "(III)I"⟩ : MethodName) prog_1_method_40_code 4 (some (.int)) ∈ zTb := zTb_in (zT5 (List.mem_of_getElem? (i := 186) (by decide +kernel))) rfl
theorem zlt5_202 : Cond.methodLink "PretendDeskLaw" 143 (⟨"PretendDesk", "ring", "(II)I"⟩ : MethodName) ∈ zTb := zTb_in (zT5 (List.mem_of_getElem? (i := 202) (by decide +kernel))) rfl
theorem zlt5_203 : Cond.instanceMethod (⟨"PretendDesk", "ring", "(II)I"⟩ : MethodName) ∈ zTb := zTb_in (zT5 (List.mem_of_getElem? (i := 203) (by decide +kernel))) rfl
theorem zlt5_204 : Cond.selects "PretendDesk" (⟨"PretendDesk", "ring", "(II)I"⟩ : MethodName) (⟨"PretendDesk", "ring", "(II)I"⟩ : MethodName) ∈ zTb := zTb_in (zT5 (List.mem_of_getElem? (i := 204) (by decide +kernel))) rfl
theorem zlt5_205 : Cond.code (⟨"PretendDesk", "ring", "(II)I"⟩ : MethodName) prog_1_method_45_code 7 (some (.int)) ∈ zTb := zTb_in (zT5 (List.mem_of_getElem? (i := 205) (by decide +kernel))) rfl
theorem zlt5_21 : Cond.methodLink "PretendDeskLaw" 86 (⟨"PretendDesk", "asks", "(III)I"⟩ : MethodName) ∈ zTb := zTb_in (zT5 (List.mem_of_getElem? (i := 21) (by decide +kernel))) rfl
theorem zlt5_210 : Cond.methodLink "PretendDeskLaw" 147 (⟨"PretendDesk", "sketch", "(II)I"⟩ : MethodName) ∈ zTb := zTb_in (zT5 (List.mem_of_getElem? (i := 210) (by decide +kernel))) rfl
theorem zlt5_211 : Cond.instanceMethod (⟨"PretendDesk", "sketch", "(II)I"⟩ : MethodName) ∈ zTb := zTb_in (zT5 (List.mem_of_getElem? (i := 211) (by decide +kernel))) rfl
theorem zlt5_212 : Cond.selects "PretendDesk" (⟨"PretendDesk", "sketch", "(II)I"⟩ : MethodName) (⟨"PretendDesk", "sketch", "(II)I"⟩ : MethodName) ∈ zTb := zTb_in (zT5 (List.mem_of_getElem? (i := 212) (by decide +kernel))) rfl
theorem zlt5_213 : Cond.code (⟨"PretendDesk", "sketch", "(II)I"⟩ : MethodName) prog_1_method_47_code 3 (some (.int)) ∈ zTb := zTb_in (zT5 (List.mem_of_getElem? (i := 213) (by decide +kernel))) rfl
theorem zlt5_219 : Cond.methodLink "PretendDeskLaw" 151 (⟨"PretendDesk", "leaves", "(II)I"⟩ : MethodName) ∈ zTb := zTb_in (zT5 (List.mem_of_getElem? (i := 219) (by decide +kernel))) rfl
theorem zlt5_22 : Cond.instanceMethod (⟨"PretendDesk", "asks", "(III)I"⟩ : MethodName) ∈ zTb := zTb_in (zT5 (List.mem_of_getElem? (i := 22) (by decide +kernel))) rfl
theorem zlt5_220 : Cond.instanceMethod (⟨"PretendDesk", "leaves", "(II)I"⟩ : MethodName) ∈ zTb := zTb_in (zT5 (List.mem_of_getElem? (i := 220) (by decide +kernel))) rfl
theorem zlt5_221 : Cond.selects "PretendDesk" (⟨"PretendDesk", "leaves", "(II)I"⟩ : MethodName) (⟨"PretendDesk", "leaves", "(II)I"⟩ : MethodName) ∈ zTb := zTb_in (zT5 (List.mem_of_getElem? (i := 221) (by decide +kernel))) rfl
theorem zlt5_222 : Cond.code (⟨"PretendDesk", "leaves", "(II)I"⟩ : MethodName) prog_1_method_49_code 4 (some (.int)) ∈ zTb := zTb_in (zT5 (List.mem_of_getElem? (i := 222) (by decide +kernel))) rfl
theorem zlt5_227 : Cond.methodLink "PretendDeskLaw" 159 (⟨"PretendDesk", "program", "(I)I"⟩ : MethodName) ∈ zTb := zTb_in (zT5 (List.mem_of_getElem? (i := 227) (by decide +kernel))) rfl
theorem zlt5_228 : Cond.instanceMethod (⟨"PretendDesk", "program", "(I)I"⟩ : MethodName) ∈ zTb := zTb_in (zT5 (List.mem_of_getElem? (i := 228) (by decide +kernel))) rfl
theorem zlt5_229 : Cond.selects "PretendDesk" (⟨"PretendDesk", "program", "(I)I"⟩ : MethodName) (⟨"PretendDesk", "program", "(I)I"⟩ : MethodName) ∈ zTb := zTb_in (zT5 (List.mem_of_getElem? (i := 229) (by decide +kernel))) rfl
theorem zlt5_23 : Cond.selects "PretendDesk" (⟨"PretendDesk", "asks", "(III)I"⟩ : MethodName) (⟨"PretendDesk", "asks", "(III)I"⟩ : MethodName) ∈ zTb := zTb_in (zT5 (List.mem_of_getElem? (i := 23) (by decide +kernel))) rfl
theorem zlt5_230 : Cond.code (⟨"PretendDesk", "program", "(I)I"⟩ : MethodName) prog_1_method_51_code 3 (some (.int)) ∈ zTb := zTb_in (zT5 (List.mem_of_getElem? (i := 230) (by decide +kernel))) rfl
theorem zlt5_24 : Cond.code (⟨"PretendDesk", "asks", "(III)I"⟩ : MethodName) prog_1_method_24_code 4 (some (.int)) ∈ zTb := zTb_in (zT5 (List.mem_of_getElem? (i := 24) (by decide +kernel))) rfl
theorem zlt5_29 : Cond.methodLink "PretendDeskLaw" 90 (⟨"PretendDesk", "strange", "()I"⟩ : MethodName) ∈ zTb := zTb_in (zT5 (List.mem_of_getElem? (i := 29) (by decide +kernel))) rfl
theorem zlt5_30 : Cond.instanceMethod (⟨"PretendDesk", "strange", "()I"⟩ : MethodName) ∈ zTb := zTb_in (zT5 (List.mem_of_getElem? (i := 30) (by decide +kernel))) rfl
theorem zlt5_31 : Cond.selects "PretendDesk" (⟨"PretendDesk", "strange", "()I"⟩ : MethodName) (⟨"PretendDesk", "strange", "()I"⟩ : MethodName) ∈ zTb := zTb_in (zT5 (List.mem_of_getElem? (i := 31) (by decide +kernel))) rfl
theorem zlt5_32 : Cond.code (⟨"PretendDesk", "strange", "()I"⟩ : MethodName) prog_1_method_25_code 7 (some (.int)) ∈ zTb := zTb_in (zT5 (List.mem_of_getElem? (i := 32) (by decide +kernel))) rfl
theorem zlt5_33 : Cond.methodLink "PretendDeskLaw" 98 (⟨"PretendDesk", "signs", "(III)I"⟩ : MethodName) ∈ zTb := zTb_in (zT5 (List.mem_of_getElem? (i := 33) (by decide +kernel))) rfl
theorem zlt5_34 : Cond.instanceMethod (⟨"PretendDesk", "signs", "(III)I"⟩ : MethodName) ∈ zTb := zTb_in (zT5 (List.mem_of_getElem? (i := 34) (by decide +kernel))) rfl
theorem zlt5_35 : Cond.selects "PretendDesk" (⟨"PretendDesk", "signs", "(III)I"⟩ : MethodName) (⟨"PretendDesk", "signs", "(III)I"⟩ : MethodName) ∈ zTb := zTb_in (zT5 (List.mem_of_getElem? (i := 35) (by decide +kernel))) rfl
theorem zlt5_36 : Cond.code (⟨"PretendDesk", "signs", "(III)I"⟩ : MethodName) prog_1_method_26_code 4 (some (.int)) ∈ zTb := zTb_in (zT5 (List.mem_of_getElem? (i := 36) (by decide +kernel))) rfl
theorem zlt5_63 : Cond.methodLink "PretendDeskLaw" 102 (⟨"PretendDesk", "say", "(III)I"⟩ : MethodName) ∈ zTb := zTb_in (zT5 (List.mem_of_getElem? (i := 63) (by decide +kernel))) rfl
theorem zlt5_64 : Cond.instanceMethod (⟨"PretendDesk", "say", "(III)I"⟩ : MethodName) ∈ zTb := zTb_in (zT5 (List.mem_of_getElem? (i := 64) (by decide +kernel))) rfl
theorem zlt5_65 : Cond.selects "PretendDesk" (⟨"PretendDesk", "say", "(III)I"⟩ : MethodName) (⟨"PretendDesk", "say", "(III)I"⟩ : MethodName) ∈ zTb := zTb_in (zT5 (List.mem_of_getElem? (i := 65) (by decide +kernel))) rfl
theorem zlt5_66 : Cond.code (⟨"PretendDesk", "say", "(III)I"⟩ : MethodName) prog_1_method_28_code 4 (some (.int)) ∈ zTb := zTb_in (zT5 (List.mem_of_getElem? (i := 66) (by decide +kernel))) rfl
theorem zlt5_77 : Cond.methodLink "PretendDeskLaw" 155 (⟨"PretendDesk", "warn", "(III)I"⟩ : MethodName) ∈ zTb := zTb_in (zT5 (List.mem_of_getElem? (i := 77) (by decide +kernel))) rfl
theorem zlt5_78 : Cond.instanceMethod (⟨"PretendDesk", "warn", "(III)I"⟩ : MethodName) ∈ zTb := zTb_in (zT5 (List.mem_of_getElem? (i := 78) (by decide +kernel))) rfl
theorem zlt5_79 : Cond.selects "PretendDesk" (⟨"PretendDesk", "warn", "(III)I"⟩ : MethodName) (⟨"PretendDesk", "warn", "(III)I"⟩ : MethodName) ∈ zTb := zTb_in (zT5 (List.mem_of_getElem? (i := 79) (by decide +kernel))) rfl
theorem zlt5_80 : Cond.code (⟨"PretendDesk", "warn", "(III)I"⟩ : MethodName) prog_1_method_30_code 6 (some (.int)) ∈ zTb := zTb_in (zT5 (List.mem_of_getElem? (i := 80) (by decide +kernel))) rfl
theorem zlt5_81 : Cond.methodLink "PretendDeskLaw" 106 (⟨"PretendDesk", "differs", "(IIIII)I"⟩ : MethodName) ∈ zTb := zTb_in (zT5 (List.mem_of_getElem? (i := 81) (by decide +kernel))) rfl
theorem zlt5_82 : Cond.instanceMethod (⟨"PretendDesk", "differs", "(IIIII)I"⟩ : MethodName) ∈ zTb := zTb_in (zT5 (List.mem_of_getElem? (i := 82) (by decide +kernel))) rfl
theorem zlt5_83 : Cond.selects "PretendDesk" (⟨"PretendDesk", "differs", "(IIIII)I"⟩ : MethodName) (⟨"PretendDesk", "differs", "(IIIII)I"⟩ : MethodName) ∈ zTb := zTb_in (zT5 (List.mem_of_getElem? (i := 83) (by decide +kernel))) rfl
theorem zlt5_84 : Cond.code (⟨"PretendDesk", "differs", "(IIIII)I"⟩ : MethodName) prog_1_method_31_code 6 (some (.int)) ∈ zTb := zTb_in (zT5 (List.mem_of_getElem? (i := 84) (by decide +kernel))) rfl
theorem zlt5_85 : Cond.methodLink "PretendDeskLaw" 110 (⟨"PretendDesk", "hides", "(II)I"⟩ : MethodName) ∈ zTb := zTb_in (zT5 (List.mem_of_getElem? (i := 85) (by decide +kernel))) rfl
theorem zlt5_86 : Cond.instanceMethod (⟨"PretendDesk", "hides", "(II)I"⟩ : MethodName) ∈ zTb := zTb_in (zT5 (List.mem_of_getElem? (i := 86) (by decide +kernel))) rfl
theorem zlt5_87 : Cond.selects "PretendDesk" (⟨"PretendDesk", "hides", "(II)I"⟩ : MethodName) (⟨"PretendDesk", "hides", "(II)I"⟩ : MethodName) ∈ zTb := zTb_in (zT5 (List.mem_of_getElem? (i := 87) (by decide +kernel))) rfl
theorem zlt5_88 : Cond.code (⟨"PretendDesk", "hides", "(II)I"⟩ : MethodName) prog_1_method_32_code 6 (some (.int)) ∈ zTb := zTb_in (zT5 (List.mem_of_getElem? (i := 88) (by decide +kernel))) rfl
theorem zlt5_89 : Cond.methodLink "PretendDeskLaw" 114 (⟨"PretendDesk", "late", "(II)I"⟩ : MethodName) ∈ zTb := zTb_in (zT5 (List.mem_of_getElem? (i := 89) (by decide +kernel))) rfl
theorem zlt5_9 : Cond.methodLink "PretendDeskLaw" 82 (⟨"PretendDesk", "like", "(III)I"⟩ : MethodName) ∈ zTb := zTb_in (zT5 (List.mem_of_getElem? (i := 9) (by decide +kernel))) rfl
theorem zlt5_90 : Cond.instanceMethod (⟨"PretendDesk", "late", "(II)I"⟩ : MethodName) ∈ zTb := zTb_in (zT5 (List.mem_of_getElem? (i := 90) (by decide +kernel))) rfl
theorem zlt5_91 : Cond.selects "PretendDesk" (⟨"PretendDesk", "late", "(II)I"⟩ : MethodName) (⟨"PretendDesk", "late", "(II)I"⟩ : MethodName) ∈ zTb := zTb_in (zT5 (List.mem_of_getElem? (i := 91) (by decide +kernel))) rfl
theorem zlt5_92 : Cond.code (⟨"PretendDesk", "late", "(II)I"⟩ : MethodName) prog_1_method_33_code 6 (some (.int)) ∈ zTb := zTb_in (zT5 (List.mem_of_getElem? (i := 92) (by decide +kernel))) rfl
theorem zlt5_93 : Cond.methodLink "PretendDeskLaw" 118 (⟨"PretendDesk", "keep", "(IIZ)I"⟩ : MethodName) ∈ zTb := zTb_in (zT5 (List.mem_of_getElem? (i := 93) (by decide +kernel))) rfl
theorem zlt5_94 : Cond.instanceMethod (⟨"PretendDesk", "keep", "(IIZ)I"⟩ : MethodName) ∈ zTb := zTb_in (zT5 (List.mem_of_getElem? (i := 94) (by decide +kernel))) rfl
theorem zlt5_95 : Cond.selects "PretendDesk" (⟨"PretendDesk", "keep", "(IIZ)I"⟩ : MethodName) (⟨"PretendDesk", "keep", "(IIZ)I"⟩ : MethodName) ∈ zTb := zTb_in (zT5 (List.mem_of_getElem? (i := 95) (by decide +kernel))) rfl
theorem zlt5_96 : Cond.code (⟨"PretendDesk", "keep", "(IIZ)I"⟩ : MethodName) prog_1_method_34_code 4 (some (.int)) ∈ zTb := zTb_in (zT5 (List.mem_of_getElem? (i := 96) (by decide +kernel))) rfl
theorem zlt5_97 : Cond.methodLink "PretendDeskLaw" 123 (⟨"PretendDesk", "fit", "(II)I"⟩ : MethodName) ∈ zTb := zTb_in (zT5 (List.mem_of_getElem? (i := 97) (by decide +kernel))) rfl
theorem zlt5_98 : Cond.instanceMethod (⟨"PretendDesk", "fit", "(II)I"⟩ : MethodName) ∈ zTb := zTb_in (zT5 (List.mem_of_getElem? (i := 98) (by decide +kernel))) rfl
theorem zlt5_99 : Cond.selects "PretendDesk" (⟨"PretendDesk", "fit", "(II)I"⟩ : MethodName) (⟨"PretendDesk", "fit", "(II)I"⟩ : MethodName) ∈ zTb := zTb_in (zT5 (List.mem_of_getElem? (i := 99) (by decide +kernel))) rfl
theorem zlt6_100 : Cond.instanceMethod (⟨"PretendDesk", "sentence", "(I)I"⟩ : MethodName) ∈ zTb := zTb_in (zT6 (List.mem_of_getElem? (i := 100) (by decide +kernel))) rfl
theorem zlt6_101 : Cond.selects "PretendDesk" (⟨"PretendDesk", "sentence", "(I)I"⟩ : MethodName) (⟨"PretendDesk", "sentence", "(I)I"⟩ : MethodName) ∈ zTb := zTb_in (zT6 (List.mem_of_getElem? (i := 101) (by decide +kernel))) rfl
theorem zlt6_102 : Cond.code (⟨"PretendDesk", "sentence", "(I)I"⟩ : MethodName) prog_1_method_62_code 2 (some (.int)) ∈ zTb := zTb_in (zT6 (List.mem_of_getElem? (i := 102) (by decide +kernel))) rfl
theorem zlt6_103 : Cond.methodLink "PretendDeskLaw" 204 (⟨"PretendDesk", "holds", "(I)I"⟩ : MethodName) ∈ zTb := zTb_in (zT6 (List.mem_of_getElem? (i := 103) (by decide +kernel))) rfl
theorem zlt6_104 : Cond.instanceMethod (⟨"PretendDesk", "holds", "(I)I"⟩ : MethodName) ∈ zTb := zTb_in (zT6 (List.mem_of_getElem? (i := 104) (by decide +kernel))) rfl
theorem zlt6_105 : Cond.selects "PretendDesk" (⟨"PretendDesk", "holds", "(I)I"⟩ : MethodName) (⟨"PretendDesk", "holds", "(I)I"⟩ : MethodName) ∈ zTb := zTb_in (zT6 (List.mem_of_getElem? (i := 105) (by decide +kernel))) rfl
theorem zlt6_106 : Cond.code (⟨"PretendDesk", "holds", "(I)I"⟩ : MethodName) prog_1_method_63_code 2 (some (.int)) ∈ zTb := zTb_in (zT6 (List.mem_of_getElem? (i := 106) (by decide +kernel))) rfl
theorem zlt6_111 : Cond.methodLink "PretendDeskLaw" 208 (⟨"PretendDesk", "presses", "()I"⟩ : MethodName) ∈ zTb := zTb_in (zT6 (List.mem_of_getElem? (i := 111) (by decide +kernel))) rfl
theorem zlt6_112 : Cond.instanceMethod (⟨"PretendDesk", "presses", "()I"⟩ : MethodName) ∈ zTb := zTb_in (zT6 (List.mem_of_getElem? (i := 112) (by decide +kernel))) rfl
theorem zlt6_113 : Cond.selects "PretendDesk" (⟨"PretendDesk", "presses", "()I"⟩ : MethodName) (⟨"PretendDesk", "presses", "()I"⟩ : MethodName) ∈ zTb := zTb_in (zT6 (List.mem_of_getElem? (i := 113) (by decide +kernel))) rfl
theorem zlt6_114 : Cond.code (⟨"PretendDesk", "presses", "()I"⟩ : MethodName) prog_1_method_65_code 3 (some (.int)) ∈ zTb := zTb_in (zT6 (List.mem_of_getElem? (i := 114) (by decide +kernel))) rfl
theorem zlt6_115 : Cond.methodLink "PretendDeskLaw" 212 (⟨"PretendDesk", "picture", "(ZII)Z"⟩ : MethodName) ∈ zTb := zTb_in (zT6 (List.mem_of_getElem? (i := 115) (by decide +kernel))) rfl
theorem zlt6_116 : Cond.instanceMethod (⟨"PretendDesk", "picture", "(ZII)Z"⟩ : MethodName) ∈ zTb := zTb_in (zT6 (List.mem_of_getElem? (i := 116) (by decide +kernel))) rfl
theorem zlt6_117 : Cond.selects "PretendDesk" (⟨"PretendDesk", "picture", "(ZII)Z"⟩ : MethodName) (⟨"PretendDesk", "picture", "(ZII)Z"⟩ : MethodName) ∈ zTb := zTb_in (zT6 (List.mem_of_getElem? (i := 117) (by decide +kernel))) rfl
theorem zlt6_118 : Cond.code (⟨"PretendDesk", "picture", "(ZII)Z"⟩ : MethodName) prog_1_method_66_code 5 (some (.boolean)) ∈ zTb := zTb_in (zT6 (List.mem_of_getElem? (i := 118) (by decide +kernel))) rfl
theorem zlt6_12 : Cond.methodLink "PretendDeskLaw" 163 (⟨"PretendDesk", "relay", "(II)Z"⟩ : MethodName) ∈ zTb := zTb_in (zT6 (List.mem_of_getElem? (i := 12) (by decide +kernel))) rfl
theorem zlt6_120 : Cond.methodLink "PretendDeskLaw" 217 (⟨"PretendDesk", "unlike", "(II)I"⟩ : MethodName) ∈ zTb := zTb_in (zT6 (List.mem_of_getElem? (i := 120) (by decide +kernel))) rfl
theorem zlt6_121 : Cond.instanceMethod (⟨"PretendDesk", "unlike", "(II)I"⟩ : MethodName) ∈ zTb := zTb_in (zT6 (List.mem_of_getElem? (i := 121) (by decide +kernel))) rfl
theorem zlt6_122 : Cond.selects "PretendDesk" (⟨"PretendDesk", "unlike", "(II)I"⟩ : MethodName) (⟨"PretendDesk", "unlike", "(II)I"⟩ : MethodName) ∈ zTb := zTb_in (zT6 (List.mem_of_getElem? (i := 122) (by decide +kernel))) rfl
theorem zlt6_123 : Cond.code (⟨"PretendDesk", "unlike", "(II)I"⟩ : MethodName) prog_1_method_67_code 3 (some (.int)) ∈ zTb := zTb_in (zT6 (List.mem_of_getElem? (i := 123) (by decide +kernel))) rfl
theorem zlt6_13 : Cond.instanceMethod (⟨"PretendDesk", "relay", "(II)Z"⟩ : MethodName) ∈ zTb := zTb_in (zT6 (List.mem_of_getElem? (i := 13) (by decide +kernel))) rfl
theorem zlt6_134 : Cond.methodLink "PretendDeskLaw" 221 (⟨"PretendDesk", "near", "(I)I"⟩ : MethodName) ∈ zTb := zTb_in (zT6 (List.mem_of_getElem? (i := 134) (by decide +kernel))) rfl
theorem zlt6_135 : Cond.instanceMethod (⟨"PretendDesk", "near", "(I)I"⟩ : MethodName) ∈ zTb := zTb_in (zT6 (List.mem_of_getElem? (i := 135) (by decide +kernel))) rfl
theorem zlt6_136 : Cond.selects "PretendDesk" (⟨"PretendDesk", "near", "(I)I"⟩ : MethodName) (⟨"PretendDesk", "near", "(I)I"⟩ : MethodName) ∈ zTb := zTb_in (zT6 (List.mem_of_getElem? (i := 136) (by decide +kernel))) rfl
theorem zlt6_137 : Cond.code (⟨"PretendDesk", "near", "(I)I"⟩ : MethodName) prog_1_method_68_code 6 (some (.int)) ∈ zTb := zTb_in (zT6 (List.mem_of_getElem? (i := 137) (by decide +kernel))) rfl
theorem zlt6_138 : Cond.methodLink "PretendDeskLaw" 225 (⟨"PretendDesk", "count", "(I)I"⟩ : MethodName) ∈ zTb := zTb_in (zT6 (List.mem_of_getElem? (i := 138) (by decide +kernel))) rfl
theorem zlt6_139 : Cond.instanceMethod (⟨"PretendDesk", "count", "(I)I"⟩ : MethodName) ∈ zTb := zTb_in (zT6 (List.mem_of_getElem? (i := 139) (by decide +kernel))) rfl
theorem zlt6_14 : Cond.selects "PretendDesk" (⟨"PretendDesk", "relay", "(II)Z"⟩ : MethodName) (⟨"PretendDesk", "relay", "(II)Z"⟩ : MethodName) ∈ zTb := zTb_in (zT6 (List.mem_of_getElem? (i := 14) (by decide +kernel))) rfl
theorem zlt6_140 : Cond.selects "PretendDesk" (⟨"PretendDesk", "count", "(I)I"⟩ : MethodName) (⟨"PretendDesk", "count", "(I)I"⟩ : MethodName) ∈ zTb := zTb_in (zT6 (List.mem_of_getElem? (i := 140) (by decide +kernel))) rfl
theorem zlt6_141 : Cond.code (⟨"PretendDesk", "count", "(I)I"⟩ : MethodName) prog_1_method_72_code 2 (some (.int)) ∈ zTb := zTb_in (zT6 (List.mem_of_getElem? (i := 141) (by decide +kernel))) rfl
theorem zlt6_146 : Cond.methodLink "PretendDeskLaw" 229 (⟨"PretendDesk", "image", "(I)Z"⟩ : MethodName) ∈ zTb := zTb_in (zT6 (List.mem_of_getElem? (i := 146) (by decide +kernel))) rfl
theorem zlt6_147 : Cond.instanceMethod (⟨"PretendDesk", "image", "(I)Z"⟩ : MethodName) ∈ zTb := zTb_in (zT6 (List.mem_of_getElem? (i := 147) (by decide +kernel))) rfl
theorem zlt6_148 : Cond.selects "PretendDesk" (⟨"PretendDesk", "image", "(I)Z"⟩ : MethodName) (⟨"PretendDesk", "image", "(I)Z"⟩ : MethodName) ∈ zTb := zTb_in (zT6 (List.mem_of_getElem? (i := 148) (by decide +kernel))) rfl
theorem zlt6_149 : Cond.code (⟨"PretendDesk", "image", "(I)Z"⟩ : MethodName) prog_1_method_74_code 2 (some (.boolean)) ∈ zTb := zTb_in (zT6 (List.mem_of_getElem? (i := 149) (by decide +kernel))) rfl
theorem zlt6_15 : Cond.code (⟨"PretendDesk", "relay", "(II)Z"⟩ : MethodName) prog_1_method_52_code 3 (some (.boolean)) ∈ zTb := zTb_in (zT6 (List.mem_of_getElem? (i := 15) (by decide +kernel))) rfl
theorem zlt6_175 : Cond.methodLink "PretendDeskLaw" 233 (⟨"PretendDesk", "again", "(I)Z"⟩ : MethodName) ∈ zTb := zTb_in (zT6 (List.mem_of_getElem? (i := 175) (by decide +kernel))) rfl
theorem zlt6_176 : Cond.instanceMethod (⟨"PretendDesk", "again", "(I)Z"⟩ : MethodName) ∈ zTb := zTb_in (zT6 (List.mem_of_getElem? (i := 176) (by decide +kernel))) rfl
theorem zlt6_177 : Cond.selects "PretendDesk" (⟨"PretendDesk", "again", "(I)Z"⟩ : MethodName) (⟨"PretendDesk", "again", "(I)Z"⟩ : MethodName) ∈ zTb := zTb_in (zT6 (List.mem_of_getElem? (i := 177) (by decide +kernel))) rfl
theorem zlt6_178 : Cond.code (⟨"PretendDesk", "again", "(I)Z"⟩ : MethodName) prog_1_method_75_code 2 (some (.boolean)) ∈ zTb := zTb_in (zT6 (List.mem_of_getElem? (i := 178) (by decide +kernel))) rfl
theorem zlt6_19 : Cond.methodLink "PretendDeskLaw" 167 (⟨"PretendDesk", "owner", "(II)Z"⟩ : MethodName) ∈ zTb := zTb_in (zT6 (List.mem_of_getElem? (i := 19) (by decide +kernel))) rfl
theorem zlt6_20 : Cond.instanceMethod (⟨"PretendDesk", "owner", "(II)Z"⟩ : MethodName) ∈ zTb := zTb_in (zT6 (List.mem_of_getElem? (i := 20) (by decide +kernel))) rfl
theorem zlt6_21 : Cond.selects "PretendDesk" (⟨"PretendDesk", "owner", "(II)Z"⟩ : MethodName) (⟨"PretendDesk", "owner", "(II)Z"⟩ : MethodName) ∈ zTb := zTb_in (zT6 (List.mem_of_getElem? (i := 21) (by decide +kernel))) rfl
theorem zlt6_22 : Cond.code (⟨"PretendDesk", "owner", "(II)Z"⟩ : MethodName) prog_1_method_53_code 3 (some (.boolean)) ∈ zTb := zTb_in (zT6 (List.mem_of_getElem? (i := 22) (by decide +kernel))) rfl
theorem zlt6_23 : Cond.methodLink "PretendDeskLaw" 171 (⟨"PretendDesk", "goes", "(IZ)I"⟩ : MethodName) ∈ zTb := zTb_in (zT6 (List.mem_of_getElem? (i := 23) (by decide +kernel))) rfl
theorem zlt6_27 : Cond.methodLink "PretendDeskLaw" 176 (⟨"PretendDesk", "sent", "(III)I"⟩ : MethodName) ∈ zTb := zTb_in (zT6 (List.mem_of_getElem? (i := 27) (by decide +kernel))) rfl
theorem zlt6_28 : Cond.instanceMethod (⟨"PretendDesk", "sent", "(III)I"⟩ : MethodName) ∈ zTb := zTb_in (zT6 (List.mem_of_getElem? (i := 28) (by decide +kernel))) rfl
theorem zlt6_29 : Cond.selects "PretendDesk" (⟨"PretendDesk", "sent", "(III)I"⟩ : MethodName) (⟨"PretendDesk", "sent", "(III)I"⟩ : MethodName) ∈ zTb := zTb_in (zT6 (List.mem_of_getElem? (i := 29) (by decide +kernel))) rfl
theorem zlt6_30 : Cond.code (⟨"PretendDesk", "sent", "(III)I"⟩ : MethodName) prog_1_method_55_code 4 (some (.int)) ∈ zTb := zTb_in (zT6 (List.mem_of_getElem? (i := 30) (by decide +kernel))) rfl
theorem zlt6_42 : Cond.methodLink "PretendDeskLaw" 180 (⟨"PretendDesk", "steps", "(II)I"⟩ : MethodName) ∈ zTb := zTb_in (zT6 (List.mem_of_getElem? (i := 42) (by decide +kernel))) rfl
theorem zlt6_43 : Cond.instanceMethod (⟨"PretendDesk", "steps", "(II)I"⟩ : MethodName) ∈ zTb := zTb_in (zT6 (List.mem_of_getElem? (i := 43) (by decide +kernel))) rfl
theorem zlt6_44 : Cond.selects "PretendDesk" (⟨"PretendDesk", "steps", "(II)I"⟩ : MethodName) (⟨"PretendDesk", "steps", "(II)I"⟩ : MethodName) ∈ zTb := zTb_in (zT6 (List.mem_of_getElem? (i := 44) (by decide +kernel))) rfl
theorem zlt6_45 : Cond.code (⟨"PretendDesk", "steps", "(II)I"⟩ : MethodName) prog_1_method_56_code 3 (some (.int)) ∈ zTb := zTb_in (zT6 (List.mem_of_getElem? (i := 45) (by decide +kernel))) rfl
theorem zlt6_46 : Cond.methodLink "PretendDeskLaw" 184 (⟨"PretendDesk", "taken", "(II)I"⟩ : MethodName) ∈ zTb := zTb_in (zT6 (List.mem_of_getElem? (i := 46) (by decide +kernel))) rfl
theorem zlt6_47 : Cond.instanceMethod (⟨"PretendDesk", "taken", "(II)I"⟩ : MethodName) ∈ zTb := zTb_in (zT6 (List.mem_of_getElem? (i := 47) (by decide +kernel))) rfl
theorem zlt6_48 : Cond.selects "PretendDesk" (⟨"PretendDesk", "taken", "(II)I"⟩ : MethodName) (⟨"PretendDesk", "taken", "(II)I"⟩ : MethodName) ∈ zTb := zTb_in (zT6 (List.mem_of_getElem? (i := 48) (by decide +kernel))) rfl
theorem zlt6_49 : Cond.code (⟨"PretendDesk", "taken", "(II)I"⟩ : MethodName) prog_1_method_57_code 6 (some (.int)) ∈ zTb := zTb_in (zT6 (List.mem_of_getElem? (i := 49) (by decide +kernel))) rfl
theorem zlt6_55 : Cond.methodLink "PretendDeskLaw" 188 (⟨"PretendDesk", "word", "(I)I"⟩ : MethodName) ∈ zTb := zTb_in (zT6 (List.mem_of_getElem? (i := 55) (by decide +kernel))) rfl
theorem zlt6_56 : Cond.instanceMethod (⟨"PretendDesk", "word", "(I)I"⟩ : MethodName) ∈ zTb := zTb_in (zT6 (List.mem_of_getElem? (i := 56) (by decide +kernel))) rfl
theorem zlt6_57 : Cond.selects "PretendDesk" (⟨"PretendDesk", "word", "(I)I"⟩ : MethodName) (⟨"PretendDesk", "word", "(I)I"⟩ : MethodName) ∈ zTb := zTb_in (zT6 (List.mem_of_getElem? (i := 57) (by decide +kernel))) rfl
theorem zlt6_58 : Cond.code (⟨"PretendDesk", "word", "(I)I"⟩ : MethodName) prog_1_method_59_code 2 (some (.int)) ∈ zTb := zTb_in (zT6 (List.mem_of_getElem? (i := 58) (by decide +kernel))) rfl
theorem zlt6_69 : Cond.methodLink "PretendDeskLaw" 192 (⟨"PretendDesk", "pattern", "(II)I"⟩ : MethodName) ∈ zTb := zTb_in (zT6 (List.mem_of_getElem? (i := 69) (by decide +kernel))) rfl
theorem zlt6_70 : Cond.instanceMethod (⟨"PretendDesk", "pattern", "(II)I"⟩ : MethodName) ∈ zTb := zTb_in (zT6 (List.mem_of_getElem? (i := 70) (by decide +kernel))) rfl
theorem zlt6_71 : Cond.selects "PretendDesk" (⟨"PretendDesk", "pattern", "(II)I"⟩ : MethodName) (⟨"PretendDesk", "pattern", "(II)I"⟩ : MethodName) ∈ zTb := zTb_in (zT6 (List.mem_of_getElem? (i := 71) (by decide +kernel))) rfl
theorem zlt6_72 : Cond.code (⟨"PretendDesk", "pattern", "(II)I"⟩ : MethodName) prog_1_method_60_code 4 (some (.int)) ∈ zTb := zTb_in (zT6 (List.mem_of_getElem? (i := 72) (by decide +kernel))) rfl
theorem zlt6_77 : Cond.methodLink "PretendDeskLaw" 196 (⟨"PretendDesk", "letter", "()I"⟩ : MethodName) ∈ zTb := zTb_in (zT6 (List.mem_of_getElem? (i := 77) (by decide +kernel))) rfl
theorem zlt6_78 : Cond.instanceMethod (⟨"PretendDesk", "letter", "()I"⟩ : MethodName) ∈ zTb := zTb_in (zT6 (List.mem_of_getElem? (i := 78) (by decide +kernel))) rfl
theorem zlt6_79 : Cond.selects "PretendDesk" (⟨"PretendDesk", "letter", "()I"⟩ : MethodName) (⟨"PretendDesk", "letter", "()I"⟩ : MethodName) ∈ zTb := zTb_in (zT6 (List.mem_of_getElem? (i := 79) (by decide +kernel))) rfl
theorem zlt6_80 : Cond.code (⟨"PretendDesk", "letter", "()I"⟩ : MethodName) prog_1_method_61_code 1 (some (.int)) ∈ zTb := zTb_in (zT6 (List.mem_of_getElem? (i := 80) (by decide +kernel))) rfl
theorem zlt6_99 : Cond.methodLink "PretendDeskLaw" 200 (⟨"PretendDesk", "sentence", "(I)I"⟩ : MethodName) ∈ zTb := zTb_in (zT6 (List.mem_of_getElem? (i := 99) (by decide +kernel))) rfl
theorem zlt7_100 : Cond.code (⟨"PretendDeskModel", "end", "(I)I"⟩ : MethodName) prog_14_method_12_code 2 (some (.int)) ∈ zTb := zTb_in (zT7 (List.mem_of_getElem? (i := 100) (by decide +kernel))) rfl
theorem zlt7_101 : Cond.methodLink "PretendDeskLaw" 36 (⟨"PretendDeskModel", "own", "(I)I"⟩ : MethodName) ∈ zTb := zTb_in (zT7 (List.mem_of_getElem? (i := 101) (by decide +kernel))) rfl
theorem zlt7_102 : Cond.instanceMethod (⟨"PretendDeskModel", "own", "(I)I"⟩ : MethodName) ∈ zTb := zTb_in (zT7 (List.mem_of_getElem? (i := 102) (by decide +kernel))) rfl
theorem zlt7_103 : Cond.selects "PretendDeskModel" (⟨"PretendDeskModel", "own", "(I)I"⟩ : MethodName) (⟨"PretendDeskModel", "own", "(I)I"⟩ : MethodName) ∈ zTb := zTb_in (zT7 (List.mem_of_getElem? (i := 103) (by decide +kernel))) rfl
theorem zlt7_104 : Cond.code (⟨"PretendDeskModel", "own", "(I)I"⟩ : MethodName) prog_14_method_30_code 3 (some (.int)) ∈ zTb := zTb_in (zT7 (List.mem_of_getElem? (i := 104) (by decide +kernel))) rfl
theorem zlt7_180 : Cond.methodLink "PretendDeskLaw" 40 (⟨"PretendDeskModel", "page", "()I"⟩ : MethodName) ∈ zTb := zTb_in (zT7 (List.mem_of_getElem? (i := 180) (by decide +kernel))) rfl
theorem zlt7_181 : Cond.instanceMethod (⟨"PretendDeskModel", "page", "()I"⟩ : MethodName) ∈ zTb := zTb_in (zT7 (List.mem_of_getElem? (i := 181) (by decide +kernel))) rfl
theorem zlt7_182 : Cond.selects "PretendDeskModel" (⟨"PretendDeskModel", "page", "()I"⟩ : MethodName) (⟨"PretendDeskModel", "page", "()I"⟩ : MethodName) ∈ zTb := zTb_in (zT7 (List.mem_of_getElem? (i := 182) (by decide +kernel))) rfl
theorem zlt7_183 : Cond.code (⟨"PretendDeskModel", "page", "()I"⟩ : MethodName) prog_14_method_31_code 3 (some (.int)) ∈ zTb := zTb_in (zT7 (List.mem_of_getElem? (i := 183) (by decide +kernel))) rfl
theorem zlt7_187 : Cond.methodLink "PretendDeskLaw" 27 (⟨"PretendDeskModel", "house", "()I"⟩ : MethodName) ∈ zTb := zTb_in (zT7 (List.mem_of_getElem? (i := 187) (by decide +kernel))) rfl
theorem zlt7_188 : Cond.instanceMethod (⟨"PretendDeskModel", "house", "()I"⟩ : MethodName) ∈ zTb := zTb_in (zT7 (List.mem_of_getElem? (i := 188) (by decide +kernel))) rfl
theorem zlt7_189 : Cond.selects "PretendDeskModel" (⟨"PretendDeskModel", "house", "()I"⟩ : MethodName) (⟨"PretendDeskModel", "house", "()I"⟩ : MethodName) ∈ zTb := zTb_in (zT7 (List.mem_of_getElem? (i := 189) (by decide +kernel))) rfl
theorem zlt7_190 : Cond.code (⟨"PretendDeskModel", "house", "()I"⟩ : MethodName) prog_14_method_34_code 1 (some (.int)) ∈ zTb := zTb_in (zT7 (List.mem_of_getElem? (i := 190) (by decide +kernel))) rfl
theorem zlt7_198 : Cond.methodLink "PretendDeskLaw" 32 (⟨"PretendDeskModel", "name", "(I)Z"⟩ : MethodName) ∈ zTb := zTb_in (zT7 (List.mem_of_getElem? (i := 198) (by decide +kernel))) rfl
theorem zlt7_199 : Cond.instanceMethod (⟨"PretendDeskModel", "name", "(I)Z"⟩ : MethodName) ∈ zTb := zTb_in (zT7 (List.mem_of_getElem? (i := 199) (by decide +kernel))) rfl
theorem zlt7_200 : Cond.selects "PretendDeskModel" (⟨"PretendDeskModel", "name", "(I)Z"⟩ : MethodName) (⟨"PretendDeskModel", "name", "(I)Z"⟩ : MethodName) ∈ zTb := zTb_in (zT7 (List.mem_of_getElem? (i := 200) (by decide +kernel))) rfl
theorem zlt7_201 : Cond.code (⟨"PretendDeskModel", "name", "(I)Z"⟩ : MethodName) prog_14_method_35_code 2 (some (.boolean)) ∈ zTb := zTb_in (zT7 (List.mem_of_getElem? (i := 201) (by decide +kernel))) rfl
theorem zlt7_206 : Cond.methodLink "PretendDeskLaw" 44 (⟨"PretendDeskModel", "fault", "(I)I"⟩ : MethodName) ∈ zTb := zTb_in (zT7 (List.mem_of_getElem? (i := 206) (by decide +kernel))) rfl
theorem zlt7_207 : Cond.instanceMethod (⟨"PretendDeskModel", "fault", "(I)I"⟩ : MethodName) ∈ zTb := zTb_in (zT7 (List.mem_of_getElem? (i := 207) (by decide +kernel))) rfl
theorem zlt7_208 : Cond.selects "PretendDeskModel" (⟨"PretendDeskModel", "fault", "(I)I"⟩ : MethodName) (⟨"PretendDeskModel", "fault", "(I)I"⟩ : MethodName) ∈ zTb := zTb_in (zT7 (List.mem_of_getElem? (i := 208) (by decide +kernel))) rfl
theorem zlt7_209 : Cond.code (⟨"PretendDeskModel", "fault", "(I)I"⟩ : MethodName) prog_14_method_36_code 2 (some (.int)) ∈ zTb := zTb_in (zT7 (List.mem_of_getElem? (i := 209) (by decide +kernel))) rfl
theorem zlt7_210 : Cond.methodLink "PretendDeskLaw" 49 (⟨"PretendDeskModel", "alike", "(III)Z"⟩ : MethodName) ∈ zTb := zTb_in (zT7 (List.mem_of_getElem? (i := 210) (by decide +kernel))) rfl
theorem zlt7_211 : Cond.instanceMethod (⟨"PretendDeskModel", "alike", "(III)Z"⟩ : MethodName) ∈ zTb := zTb_in (zT7 (List.mem_of_getElem? (i := 211) (by decide +kernel))) rfl
theorem zlt7_212 : Cond.selects "PretendDeskModel" (⟨"PretendDeskModel", "alike", "(III)Z"⟩ : MethodName) (⟨"PretendDeskModel", "alike", "(III)Z"⟩ : MethodName) ∈ zTb := zTb_in (zT7 (List.mem_of_getElem? (i := 212) (by decide +kernel))) rfl
theorem zlt7_213 : Cond.code (⟨"PretendDeskModel", "alike", "(III)Z"⟩ : MethodName) prog_14_method_37_code 4 (some (.boolean)) ∈ zTb := zTb_in (zT7 (List.mem_of_getElem? (i := 213) (by decide +kernel))) rfl
theorem zlt7_214 : Cond.methodLink "PretendDeskLaw" 54 (⟨"PretendDeskModel", "spell", "(II)I"⟩ : MethodName) ∈ zTb := zTb_in (zT7 (List.mem_of_getElem? (i := 214) (by decide +kernel))) rfl
theorem zlt7_215 : Cond.instanceMethod (⟨"PretendDeskModel", "spell", "(II)I"⟩ : MethodName) ∈ zTb := zTb_in (zT7 (List.mem_of_getElem? (i := 215) (by decide +kernel))) rfl
theorem zlt7_216 : Cond.selects "PretendDeskModel" (⟨"PretendDeskModel", "spell", "(II)I"⟩ : MethodName) (⟨"PretendDeskModel", "spell", "(II)I"⟩ : MethodName) ∈ zTb := zTb_in (zT7 (List.mem_of_getElem? (i := 216) (by decide +kernel))) rfl
theorem zlt7_217 : Cond.code (⟨"PretendDeskModel", "spell", "(II)I"⟩ : MethodName) prog_14_method_41_code 3 (some (.int)) ∈ zTb := zTb_in (zT7 (List.mem_of_getElem? (i := 217) (by decide +kernel))) rfl
theorem zlt7_229 : Cond.methodLink "PretendDeskLaw" 58 (⟨"PretendDeskModel", "stands", "(III)Z"⟩ : MethodName) ∈ zTb := zTb_in (zT7 (List.mem_of_getElem? (i := 229) (by decide +kernel))) rfl
theorem zlt7_230 : Cond.instanceMethod (⟨"PretendDeskModel", "stands", "(III)Z"⟩ : MethodName) ∈ zTb := zTb_in (zT7 (List.mem_of_getElem? (i := 230) (by decide +kernel))) rfl
theorem zlt7_231 : Cond.selects "PretendDeskModel" (⟨"PretendDeskModel", "stands", "(III)Z"⟩ : MethodName) (⟨"PretendDeskModel", "stands", "(III)Z"⟩ : MethodName) ∈ zTb := zTb_in (zT7 (List.mem_of_getElem? (i := 231) (by decide +kernel))) rfl
theorem zlt7_232 : Cond.code (⟨"PretendDeskModel", "stands", "(III)Z"⟩ : MethodName) prog_14_method_43_code 4 (some (.boolean)) ∈ zTb := zTb_in (zT7 (List.mem_of_getElem? (i := 232) (by decide +kernel))) rfl
theorem zlt7_234 : Cond.methodLink "PretendDeskLaw" 63 (⟨"PretendDeskModel", "worth", "(II)Z"⟩ : MethodName) ∈ zTb := zTb_in (zT7 (List.mem_of_getElem? (i := 234) (by decide +kernel))) rfl
theorem zlt7_235 : Cond.instanceMethod (⟨"PretendDeskModel", "worth", "(II)Z"⟩ : MethodName) ∈ zTb := zTb_in (zT7 (List.mem_of_getElem? (i := 235) (by decide +kernel))) rfl
theorem zlt7_236 : Cond.selects "PretendDeskModel" (⟨"PretendDeskModel", "worth", "(II)Z"⟩ : MethodName) (⟨"PretendDeskModel", "worth", "(II)Z"⟩ : MethodName) ∈ zTb := zTb_in (zT7 (List.mem_of_getElem? (i := 236) (by decide +kernel))) rfl
theorem zlt7_237 : Cond.code (⟨"PretendDeskModel", "worth", "(II)Z"⟩ : MethodName) prog_14_method_44_code 3 (some (.boolean)) ∈ zTb := zTb_in (zT7 (List.mem_of_getElem? (i := 237) (by decide +kernel))) rfl
theorem zlt7_238 : Cond.methodLink "PretendDeskLaw" 68 (⟨"PretendDeskModel", "boxes", "(III)I"⟩ : MethodName) ∈ zTb := zTb_in (zT7 (List.mem_of_getElem? (i := 238) (by decide +kernel))) rfl
theorem zlt7_239 : Cond.instanceMethod (⟨"PretendDeskModel", "boxes", "(III)I"⟩ : MethodName) ∈ zTb := zTb_in (zT7 (List.mem_of_getElem? (i := 239) (by decide +kernel))) rfl
theorem zlt7_93 : Cond.methodLink "PretendDeskLaw" 17 (⟨"PretendDeskModel", "feed", "(IIIII)I"⟩ : MethodName) ∈ zTb := zTb_in (zT7 (List.mem_of_getElem? (i := 93) (by decide +kernel))) rfl
theorem zlt7_94 : Cond.instanceMethod (⟨"PretendDeskModel", "feed", "(IIIII)I"⟩ : MethodName) ∈ zTb := zTb_in (zT7 (List.mem_of_getElem? (i := 94) (by decide +kernel))) rfl
theorem zlt7_95 : Cond.selects "PretendDeskModel" (⟨"PretendDeskModel", "feed", "(IIIII)I"⟩ : MethodName) (⟨"PretendDeskModel", "feed", "(IIIII)I"⟩ : MethodName) ∈ zTb := zTb_in (zT7 (List.mem_of_getElem? (i := 95) (by decide +kernel))) rfl
theorem zlt7_96 : Cond.code (⟨"PretendDeskModel", "feed", "(IIIII)I"⟩ : MethodName) prog_14_method_11_code 8 (some (.int)) ∈ zTb := zTb_in (zT7 (List.mem_of_getElem? (i := 96) (by decide +kernel))) rfl
theorem zlt7_97 : Cond.methodLink "PretendDeskLaw" 22 (⟨"PretendDeskModel", "end", "(I)I"⟩ : MethodName) ∈ zTb := zTb_in (zT7 (List.mem_of_getElem? (i := 97) (by decide +kernel))) rfl
theorem zlt7_98 : Cond.instanceMethod (⟨"PretendDeskModel", "end", "(I)I"⟩ : MethodName) ∈ zTb := zTb_in (zT7 (List.mem_of_getElem? (i := 98) (by decide +kernel))) rfl
theorem zlt7_99 : Cond.selects "PretendDeskModel" (⟨"PretendDeskModel", "end", "(I)I"⟩ : MethodName) (⟨"PretendDeskModel", "end", "(I)I"⟩ : MethodName) ∈ zTb := zTb_in (zT7 (List.mem_of_getElem? (i := 99) (by decide +kernel))) rfl
theorem zlt8_0 : Cond.selects "PretendDeskModel" (⟨"PretendDeskModel", "boxes", "(III)I"⟩ : MethodName) (⟨"PretendDeskModel", "boxes", "(III)I"⟩ : MethodName) ∈ zTb := zTb_in (zT8 (List.mem_of_getElem? (i := 0) (by decide +kernel))) rfl
theorem zlt8_1 : Cond.code (⟨"PretendDeskModel", "boxes", "(III)I"⟩ : MethodName) prog_14_method_55_code 4 (some (.int)) ∈ zTb := zTb_in (zT8 (List.mem_of_getElem? (i := 1) (by decide +kernel))) rfl
theorem zlt8_112 : Cond.methodLink "PretendDeskLaw" 105 (⟨"PretendDeskModel", "say", "(III)I"⟩ : MethodName) ∈ zTb := zTb_in (zT8 (List.mem_of_getElem? (i := 112) (by decide +kernel))) rfl
theorem zlt8_113 : Cond.instanceMethod (⟨"PretendDeskModel", "say", "(III)I"⟩ : MethodName) ∈ zTb := zTb_in (zT8 (List.mem_of_getElem? (i := 113) (by decide +kernel))) rfl
theorem zlt8_114 : Cond.selects "PretendDeskModel" (⟨"PretendDeskModel", "say", "(III)I"⟩ : MethodName) (⟨"PretendDeskModel", "say", "(III)I"⟩ : MethodName) ∈ zTb := zTb_in (zT8 (List.mem_of_getElem? (i := 114) (by decide +kernel))) rfl
theorem zlt8_115 : Cond.code (⟨"PretendDeskModel", "say", "(III)I"⟩ : MethodName) prog_14_method_72_code 4 (some (.int)) ∈ zTb := zTb_in (zT8 (List.mem_of_getElem? (i := 115) (by decide +kernel))) rfl
theorem zlt8_122 : Cond.methodLink "PretendDeskLaw" 109 (⟨"PretendDeskModel", "differs", "(IIIII)I"⟩ : MethodName) ∈ zTb := zTb_in (zT8 (List.mem_of_getElem? (i := 122) (by decide +kernel))) rfl
theorem zlt8_123 : Cond.instanceMethod (⟨"PretendDeskModel", "differs", "(IIIII)I"⟩ : MethodName) ∈ zTb := zTb_in (zT8 (List.mem_of_getElem? (i := 123) (by decide +kernel))) rfl
theorem zlt8_124 : Cond.selects "PretendDeskModel" (⟨"PretendDeskModel", "differs", "(IIIII)I"⟩ : MethodName) (⟨"PretendDeskModel", "differs", "(IIIII)I"⟩ : MethodName) ∈ zTb := zTb_in (zT8 (List.mem_of_getElem? (i := 124) (by decide +kernel))) rfl
theorem zlt8_125 : Cond.code (⟨"PretendDeskModel", "differs", "(IIIII)I"⟩ : MethodName) prog_14_method_73_code 6 (some (.int)) ∈ zTb := zTb_in (zT8 (List.mem_of_getElem? (i := 125) (by decide +kernel))) rfl
theorem zlt8_126 : Cond.methodLink "PretendDeskLaw" 113 (⟨"PretendDeskModel", "hides", "(II)I"⟩ : MethodName) ∈ zTb := zTb_in (zT8 (List.mem_of_getElem? (i := 126) (by decide +kernel))) rfl
theorem zlt8_127 : Cond.instanceMethod (⟨"PretendDeskModel", "hides", "(II)I"⟩ : MethodName) ∈ zTb := zTb_in (zT8 (List.mem_of_getElem? (i := 127) (by decide +kernel))) rfl
theorem zlt8_128 : Cond.selects "PretendDeskModel" (⟨"PretendDeskModel", "hides", "(II)I"⟩ : MethodName) (⟨"PretendDeskModel", "hides", "(II)I"⟩ : MethodName) ∈ zTb := zTb_in (zT8 (List.mem_of_getElem? (i := 128) (by decide +kernel))) rfl
theorem zlt8_129 : Cond.code (⟨"PretendDeskModel", "hides", "(II)I"⟩ : MethodName) prog_14_method_74_code 7 (some (.int)) ∈ zTb := zTb_in (zT8 (List.mem_of_getElem? (i := 129) (by decide +kernel))) rfl
theorem zlt8_130 : Cond.methodLink "PretendDeskLaw" 117 (⟨"PretendDeskModel", "late", "(II)I"⟩ : MethodName) ∈ zTb := zTb_in (zT8 (List.mem_of_getElem? (i := 130) (by decide +kernel))) rfl
theorem zlt8_131 : Cond.instanceMethod (⟨"PretendDeskModel", "late", "(II)I"⟩ : MethodName) ∈ zTb := zTb_in (zT8 (List.mem_of_getElem? (i := 131) (by decide +kernel))) rfl
theorem zlt8_132 : Cond.selects "PretendDeskModel" (⟨"PretendDeskModel", "late", "(II)I"⟩ : MethodName) (⟨"PretendDeskModel", "late", "(II)I"⟩ : MethodName) ∈ zTb := zTb_in (zT8 (List.mem_of_getElem? (i := 132) (by decide +kernel))) rfl
theorem zlt8_133 : Cond.code (⟨"PretendDeskModel", "late", "(II)I"⟩ : MethodName) prog_14_method_75_code 5 (some (.int)) ∈ zTb := zTb_in (zT8 (List.mem_of_getElem? (i := 133) (by decide +kernel))) rfl
theorem zlt8_134 : Cond.methodLink "PretendDeskLaw" 122 (⟨"PretendDeskModel", "keep", "(IIZ)I"⟩ : MethodName) ∈ zTb := zTb_in (zT8 (List.mem_of_getElem? (i := 134) (by decide +kernel))) rfl
theorem zlt8_135 : Cond.instanceMethod (⟨"PretendDeskModel", "keep", "(IIZ)I"⟩ : MethodName) ∈ zTb := zTb_in (zT8 (List.mem_of_getElem? (i := 135) (by decide +kernel))) rfl
theorem zlt8_136 : Cond.selects "PretendDeskModel" (⟨"PretendDeskModel", "keep", "(IIZ)I"⟩ : MethodName) (⟨"PretendDeskModel", "keep", "(IIZ)I"⟩ : MethodName) ∈ zTb := zTb_in (zT8 (List.mem_of_getElem? (i := 136) (by decide +kernel))) rfl
theorem zlt8_137 : Cond.code (⟨"PretendDeskModel", "keep", "(IIZ)I"⟩ : MethodName) prog_14_method_76_code 5 (some (.int)) ∈ zTb := zTb_in (zT8 (List.mem_of_getElem? (i := 137) (by decide +kernel))) rfl
theorem zlt8_138 : Cond.methodLink "PretendDeskLaw" 126 (⟨"PretendDeskModel", "fit", "(II)I"⟩ : MethodName) ∈ zTb := zTb_in (zT8 (List.mem_of_getElem? (i := 138) (by decide +kernel))) rfl
theorem zlt8_139 : Cond.instanceMethod (⟨"PretendDeskModel", "fit", "(II)I"⟩ : MethodName) ∈ zTb := zTb_in (zT8 (List.mem_of_getElem? (i := 139) (by decide +kernel))) rfl
theorem zlt8_140 : Cond.selects "PretendDeskModel" (⟨"PretendDeskModel", "fit", "(II)I"⟩ : MethodName) (⟨"PretendDeskModel", "fit", "(II)I"⟩ : MethodName) ∈ zTb := zTb_in (zT8 (List.mem_of_getElem? (i := 140) (by decide +kernel))) rfl
theorem zlt8_141 : Cond.code (⟨"PretendDeskModel", "fit", "(II)I"⟩ : MethodName) prog_14_method_82_code 3 (some (.int)) ∈ zTb := zTb_in (zT8 (List.mem_of_getElem? (i := 141) (by decide +kernel))) rfl
theorem zlt8_162 : Cond.methodLink "PretendDeskLaw" 130 (⟨"PretendDeskModel", "change", "(IIIII)I"⟩ : MethodName) ∈ zTb := zTb_in (zT8 (List.mem_of_getElem? (i := 162) (by decide +kernel))) rfl
theorem zlt8_163 : Cond.instanceMethod (⟨"PretendDeskModel", "change", "(IIIII)I"⟩ : MethodName) ∈ zTb := zTb_in (zT8 (List.mem_of_getElem? (i := 163) (by decide +kernel))) rfl
theorem zlt8_164 : Cond.selects "PretendDeskModel" (⟨"PretendDeskModel", "change", "(IIIII)I"⟩ : MethodName) (⟨"PretendDeskModel", "change", "(IIIII)I"⟩ : MethodName) ∈ zTb := zTb_in (zT8 (List.mem_of_getElem? (i := 164) (by decide +kernel))) rfl
theorem zlt8_165 : Cond.code (⟨"PretendDeskModel", "change", "(IIIII)I"⟩ : MethodName) prog_14_method_83_code 9 (some (.int)) ∈ zTb := zTb_in (zT8 (List.mem_of_getElem? (i := 165) (by decide +kernel))) rfl
theorem zlt8_166 : Cond.methodLink "PretendDeskLaw" 134 (⟨"PretendDeskModel", "pass", "(IIIII)I"⟩ : MethodName) ∈ zTb := zTb_in (zT8 (List.mem_of_getElem? (i := 166) (by decide +kernel))) rfl
theorem zlt8_167 : Cond.instanceMethod (⟨"PretendDeskModel", "pass", "(IIIII)I"⟩ : MethodName) ∈ zTb := zTb_in (zT8 (List.mem_of_getElem? (i := 167) (by decide +kernel))) rfl
theorem zlt8_168 : Cond.selects "PretendDeskModel" (⟨"PretendDeskModel", "pass", "(IIIII)I"⟩ : MethodName) (⟨"PretendDeskModel", "pass", "(IIIII)I"⟩ : MethodName) ∈ zTb := zTb_in (zT8 (List.mem_of_getElem? (i := 168) (by decide +kernel))) rfl
theorem zlt8_169 : Cond.code (⟨"PretendDeskModel", "pass", "(IIIII)I"⟩ : MethodName) prog_14_method_87_code 11 (some (.int)) ∈ zTb := zTb_in (zT8 (List.mem_of_getElem? (i := 169) (by decide +kernel))) rfl
theorem zlt8_182 : Cond.methodLink "PretendDeskLaw" 138 (⟨"PretendDeskModel", "met", "(IIII)I"⟩ : MethodName) ∈ zTb := zTb_in (zT8 (List.mem_of_getElem? (i := 182) (by decide +kernel))) rfl
theorem zlt8_183 : Cond.instanceMethod (⟨"PretendDeskModel", "met", "(IIII)I"⟩ : MethodName) ∈ zTb := zTb_in (zT8 (List.mem_of_getElem? (i := 183) (by decide +kernel))) rfl
theorem zlt8_184 : Cond.selects "PretendDeskModel" (⟨"PretendDeskModel", "met", "(IIII)I"⟩ : MethodName) (⟨"PretendDeskModel", "met", "(IIII)I"⟩ : MethodName) ∈ zTb := zTb_in (zT8 (List.mem_of_getElem? (i := 184) (by decide +kernel))) rfl
theorem zlt8_185 : Cond.code (⟨"PretendDeskModel", "met", "(IIII)I"⟩ : MethodName) prog_14_method_88_code 9 (some (.int)) ∈ zTb := zTb_in (zT8 (List.mem_of_getElem? (i := 185) (by decide +kernel))) rfl
theorem zlt8_186 : Cond.methodLink "PretendDeskLaw" 142 (⟨"PretendDeskModel", "odds", "(III)I"⟩ : MethodName) ∈ zTb := zTb_in (zT8 (List.mem_of_getElem? (i := 186) (by decide +kernel))) rfl
theorem zlt8_187 : Cond.instanceMethod (⟨"PretendDeskModel", "odds", "(III)I"⟩ : MethodName) ∈ zTb := zTb_in (zT8 (List.mem_of_getElem? (i := 187) (by decide +kernel))) rfl
theorem zlt8_188 : Cond.selects "PretendDeskModel" (⟨"PretendDeskModel", "odds", "(III)I"⟩ : MethodName) (⟨"PretendDeskModel", "odds", "(III)I"⟩ : MethodName) ∈ zTb := zTb_in (zT8 (List.mem_of_getElem? (i := 188) (by decide +kernel))) rfl
theorem zlt8_189 : Cond.code (⟨"PretendDeskModel", "odds", "(III)I"⟩ : MethodName) prog_14_method_92_code 4 (some (.int)) ∈ zTb := zTb_in (zT8 (List.mem_of_getElem? (i := 189) (by decide +kernel))) rfl
theorem zlt8_201 : Cond.methodLink "PretendDeskLaw" 146 (⟨"PretendDeskModel", "ring", "(II)I"⟩ : MethodName) ∈ zTb := zTb_in (zT8 (List.mem_of_getElem? (i := 201) (by decide +kernel))) rfl
theorem zlt8_202 : Cond.instanceMethod (⟨"PretendDeskModel", "ring", "(II)I"⟩ : MethodName) ∈ zTb := zTb_in (zT8 (List.mem_of_getElem? (i := 202) (by decide +kernel))) rfl
theorem zlt8_203 : Cond.selects "PretendDeskModel" (⟨"PretendDeskModel", "ring", "(II)I"⟩ : MethodName) (⟨"PretendDeskModel", "ring", "(II)I"⟩ : MethodName) ∈ zTb := zTb_in (zT8 (List.mem_of_getElem? (i := 203) (by decide +kernel))) rfl
theorem zlt8_204 : Cond.code (⟨"PretendDeskModel", "ring", "(II)I"⟩ : MethodName) prog_14_method_94_code 7 (some (.int)) ∈ zTb := zTb_in (zT8 (List.mem_of_getElem? (i := 204) (by decide +kernel))) rfl
theorem zlt8_209 : Cond.methodLink "PretendDeskLaw" 150 (⟨"PretendDeskModel", "sketch", "(II)I"⟩ : MethodName) ∈ zTb := zTb_in (zT8 (List.mem_of_getElem? (i := 209) (by decide +kernel))) rfl
theorem zlt8_210 : Cond.instanceMethod (⟨"PretendDeskModel", "sketch", "(II)I"⟩ : MethodName) ∈ zTb := zTb_in (zT8 (List.mem_of_getElem? (i := 210) (by decide +kernel))) rfl
theorem zlt8_211 : Cond.selects "PretendDeskModel" (⟨"PretendDeskModel", "sketch", "(II)I"⟩ : MethodName) (⟨"PretendDeskModel", "sketch", "(II)I"⟩ : MethodName) ∈ zTb := zTb_in (zT8 (List.mem_of_getElem? (i := 211) (by decide +kernel))) rfl
theorem zlt8_212 : Cond.code (⟨"PretendDeskModel", "sketch", "(II)I"⟩ : MethodName) prog_14_method_96_code 3 (some (.int)) ∈ zTb := zTb_in (zT8 (List.mem_of_getElem? (i := 212) (by decide +kernel))) rfl
theorem zlt8_218 : Cond.methodLink "PretendDeskLaw" 154 (⟨"PretendDeskModel", "leaves", "(II)I"⟩ : MethodName) ∈ zTb := zTb_in (zT8 (List.mem_of_getElem? (i := 218) (by decide +kernel))) rfl
theorem zlt8_219 : Cond.instanceMethod (⟨"PretendDeskModel", "leaves", "(II)I"⟩ : MethodName) ∈ zTb := zTb_in (zT8 (List.mem_of_getElem? (i := 219) (by decide +kernel))) rfl
theorem zlt8_220 : Cond.selects "PretendDeskModel" (⟨"PretendDeskModel", "leaves", "(II)I"⟩ : MethodName) (⟨"PretendDeskModel", "leaves", "(II)I"⟩ : MethodName) ∈ zTb := zTb_in (zT8 (List.mem_of_getElem? (i := 220) (by decide +kernel))) rfl
theorem zlt8_221 : Cond.code (⟨"PretendDeskModel", "leaves", "(II)I"⟩ : MethodName) prog_14_method_97_code 6 (some (.int)) ∈ zTb := zTb_in (zT8 (List.mem_of_getElem? (i := 221) (by decide +kernel))) rfl
theorem zlt8_222 : Cond.methodLink "PretendDeskLaw" 158 (⟨"PretendDeskModel", "warn", "(III)I"⟩ : MethodName) ∈ zTb := zTb_in (zT8 (List.mem_of_getElem? (i := 222) (by decide +kernel))) rfl
theorem zlt8_223 : Cond.instanceMethod (⟨"PretendDeskModel", "warn", "(III)I"⟩ : MethodName) ∈ zTb := zTb_in (zT8 (List.mem_of_getElem? (i := 223) (by decide +kernel))) rfl
theorem zlt8_224 : Cond.selects "PretendDeskModel" (⟨"PretendDeskModel", "warn", "(III)I"⟩ : MethodName) (⟨"PretendDeskModel", "warn", "(III)I"⟩ : MethodName) ∈ zTb := zTb_in (zT8 (List.mem_of_getElem? (i := 224) (by decide +kernel))) rfl
theorem zlt8_225 : Cond.code (⟨"PretendDeskModel", "warn", "(III)I"⟩ : MethodName) prog_14_method_98_code 7 (some (.int)) ∈ zTb := zTb_in (zT8 (List.mem_of_getElem? (i := 225) (by decide +kernel))) rfl
theorem zlt8_226 : Cond.methodLink "PretendDeskLaw" 162 (⟨"PretendDeskModel", "program", "(I)I"⟩ : MethodName) ∈ zTb := zTb_in (zT8 (List.mem_of_getElem? (i := 226) (by decide +kernel))) rfl
theorem zlt8_227 : Cond.instanceMethod (⟨"PretendDeskModel", "program", "(I)I"⟩ : MethodName) ∈ zTb := zTb_in (zT8 (List.mem_of_getElem? (i := 227) (by decide +kernel))) rfl
theorem zlt8_228 : Cond.selects "PretendDeskModel" (⟨"PretendDeskModel", "program", "(I)I"⟩ : MethodName) (⟨"PretendDeskModel", "program", "(I)I"⟩ : MethodName) ∈ zTb := zTb_in (zT8 (List.mem_of_getElem? (i := 228) (by decide +kernel))) rfl
theorem zlt8_229 : Cond.code (⟨"PretendDeskModel", "program", "(I)I"⟩ : MethodName) prog_14_method_103_code 3 (some (.int)) ∈ zTb := zTb_in (zT8 (List.mem_of_getElem? (i := 229) (by decide +kernel))) rfl
theorem zlt8_24 : Cond.methodLink "PretendDeskLaw" 72 (⟨"PretendDeskModel", "box", "(III)I"⟩ : MethodName) ∈ zTb := zTb_in (zT8 (List.mem_of_getElem? (i := 24) (by decide +kernel))) rfl
theorem zlt8_25 : Cond.instanceMethod (⟨"PretendDeskModel", "box", "(III)I"⟩ : MethodName) ∈ zTb := zTb_in (zT8 (List.mem_of_getElem? (i := 25) (by decide +kernel))) rfl
theorem zlt8_26 : Cond.selects "PretendDeskModel" (⟨"PretendDeskModel", "box", "(III)I"⟩ : MethodName) (⟨"PretendDeskModel", "box", "(III)I"⟩ : MethodName) ∈ zTb := zTb_in (zT8 (List.mem_of_getElem? (i := 26) (by decide +kernel))) rfl
theorem zlt8_27 : Cond.code (⟨"PretendDeskModel", "box", "(III)I"⟩ : MethodName) prog_14_method_56_code 4 (some (.int)) ∈ zTb := zTb_in (zT8 (List.mem_of_getElem? (i := 27) (by decide +kernel))) rfl
theorem zlt8_28 : Cond.methodLink "PretendDeskLaw" 77 (⟨"PretendDeskModel", "far", "(IIII)I"⟩ : MethodName) ∈ zTb := zTb_in (zT8 (List.mem_of_getElem? (i := 28) (by decide +kernel))) rfl
theorem zlt8_29 : Cond.instanceMethod (⟨"PretendDeskModel", "far", "(IIII)I"⟩ : MethodName) ∈ zTb := zTb_in (zT8 (List.mem_of_getElem? (i := 29) (by decide +kernel))) rfl
theorem zlt8_30 : Cond.selects "PretendDeskModel" (⟨"PretendDeskModel", "far", "(IIII)I"⟩ : MethodName) (⟨"PretendDeskModel", "far", "(IIII)I"⟩ : MethodName) ∈ zTb := zTb_in (zT8 (List.mem_of_getElem? (i := 30) (by decide +kernel))) rfl
theorem zlt8_31 : Cond.code (⟨"PretendDeskModel", "far", "(IIII)I"⟩ : MethodName) prog_14_method_57_code 5 (some (.int)) ∈ zTb := zTb_in (zT8 (List.mem_of_getElem? (i := 31) (by decide +kernel))) rfl
theorem zlt8_56 : Cond.methodLink "PretendDeskLaw" 81 (⟨"PretendDeskModel", "look", "(IIII)I"⟩ : MethodName) ∈ zTb := zTb_in (zT8 (List.mem_of_getElem? (i := 56) (by decide +kernel))) rfl
theorem zlt8_57 : Cond.instanceMethod (⟨"PretendDeskModel", "look", "(IIII)I"⟩ : MethodName) ∈ zTb := zTb_in (zT8 (List.mem_of_getElem? (i := 57) (by decide +kernel))) rfl
theorem zlt8_58 : Cond.selects "PretendDeskModel" (⟨"PretendDeskModel", "look", "(IIII)I"⟩ : MethodName) (⟨"PretendDeskModel", "look", "(IIII)I"⟩ : MethodName) ∈ zTb := zTb_in (zT8 (List.mem_of_getElem? (i := 58) (by decide +kernel))) rfl
theorem zlt8_59 : Cond.code (⟨"PretendDeskModel", "look", "(IIII)I"⟩ : MethodName) prog_14_method_60_code 5 (some (.int)) ∈ zTb := zTb_in (zT8 (List.mem_of_getElem? (i := 59) (by decide +kernel))) rfl
theorem zlt8_68 : Cond.methodLink "PretendDeskLaw" 85 (⟨"PretendDeskModel", "like", "(III)I"⟩ : MethodName) ∈ zTb := zTb_in (zT8 (List.mem_of_getElem? (i := 68) (by decide +kernel))) rfl
theorem zlt8_69 : Cond.instanceMethod (⟨"PretendDeskModel", "like", "(III)I"⟩ : MethodName) ∈ zTb := zTb_in (zT8 (List.mem_of_getElem? (i := 69) (by decide +kernel))) rfl
theorem zlt8_70 : Cond.selects "PretendDeskModel" (⟨"PretendDeskModel", "like", "(III)I"⟩ : MethodName) (⟨"PretendDeskModel", "like", "(III)I"⟩ : MethodName) ∈ zTb := zTb_in (zT8 (List.mem_of_getElem? (i := 70) (by decide +kernel))) rfl
theorem zlt8_71 : Cond.code (⟨"PretendDeskModel", "like", "(III)I"⟩ : MethodName) prog_14_method_62_code 4 (some (.int)) ∈ zTb := zTb_in (zT8 (List.mem_of_getElem? (i := 71) (by decide +kernel))) rfl
theorem zlt8_76 : Cond.methodLink "PretendDeskLaw" 89 (⟨"PretendDeskModel", "asks", "(III)I"⟩ : MethodName) ∈ zTb := zTb_in (zT8 (List.mem_of_getElem? (i := 76) (by decide +kernel))) rfl
theorem zlt8_77 : Cond.instanceMethod (⟨"PretendDeskModel", "asks", "(III)I"⟩ : MethodName) ∈ zTb := zTb_in (zT8 (List.mem_of_getElem? (i := 77) (by decide +kernel))) rfl
theorem zlt8_78 : Cond.selects "PretendDeskModel" (⟨"PretendDeskModel", "asks", "(III)I"⟩ : MethodName) (⟨"PretendDeskModel", "asks", "(III)I"⟩ : MethodName) ∈ zTb := zTb_in (zT8 (List.mem_of_getElem? (i := 78) (by decide +kernel))) rfl
theorem zlt8_79 : Cond.code (⟨"PretendDeskModel", "asks", "(III)I"⟩ : MethodName) prog_14_method_63_code 4 (some (.int)) ∈ zTb := zTb_in (zT8 (List.mem_of_getElem? (i := 79) (by decide +kernel))) rfl
theorem zlt8_80 : Cond.methodLink "PretendDeskLaw" 93 (⟨"PretendDeskModel", "strange", "()I"⟩ : MethodName) ∈ zTb := zTb_in (zT8 (List.mem_of_getElem? (i := 80) (by decide +kernel))) rfl
theorem zlt8_81 : Cond.instanceMethod (⟨"PretendDeskModel", "strange", "()I"⟩ : MethodName) ∈ zTb := zTb_in (zT8 (List.mem_of_getElem? (i := 81) (by decide +kernel))) rfl
theorem zlt8_82 : Cond.selects "PretendDeskModel" (⟨"PretendDeskModel", "strange", "()I"⟩ : MethodName) (⟨"PretendDeskModel", "strange", "()I"⟩ : MethodName) ∈ zTb := zTb_in (zT8 (List.mem_of_getElem? (i := 82) (by decide +kernel))) rfl
theorem zlt8_83 : Cond.code (⟨"PretendDeskModel", "strange", "()I"⟩ : MethodName) prog_14_method_64_code 7 (some (.int)) ∈ zTb := zTb_in (zT8 (List.mem_of_getElem? (i := 83) (by decide +kernel))) rfl
theorem zlt8_84 : Cond.methodLink "PretendDeskLaw" 97 (⟨"PretendDeskModel", "marks", "(III)Z"⟩ : MethodName) ∈ zTb := zTb_in (zT8 (List.mem_of_getElem? (i := 84) (by decide +kernel))) rfl
theorem zlt8_85 : Cond.instanceMethod (⟨"PretendDeskModel", "marks", "(III)Z"⟩ : MethodName) ∈ zTb := zTb_in (zT8 (List.mem_of_getElem? (i := 85) (by decide +kernel))) rfl
theorem zlt8_86 : Cond.selects "PretendDeskModel" (⟨"PretendDeskModel", "marks", "(III)Z"⟩ : MethodName) (⟨"PretendDeskModel", "marks", "(III)Z"⟩ : MethodName) ∈ zTb := zTb_in (zT8 (List.mem_of_getElem? (i := 86) (by decide +kernel))) rfl
theorem zlt8_87 : Cond.code (⟨"PretendDeskModel", "marks", "(III)Z"⟩ : MethodName) prog_14_method_65_code 4 (some (.boolean)) ∈ zTb := zTb_in (zT8 (List.mem_of_getElem? (i := 87) (by decide +kernel))) rfl
theorem zlt8_88 : Cond.methodLink "PretendDeskLaw" 101 (⟨"PretendDeskModel", "signs", "(III)I"⟩ : MethodName) ∈ zTb := zTb_in (zT8 (List.mem_of_getElem? (i := 88) (by decide +kernel))) rfl
theorem zlt8_89 : Cond.instanceMethod (⟨"PretendDeskModel", "signs", "(III)I"⟩ : MethodName) ∈ zTb := zTb_in (zT8 (List.mem_of_getElem? (i := 89) (by decide +kernel))) rfl
theorem zlt8_90 : Cond.selects "PretendDeskModel" (⟨"PretendDeskModel", "signs", "(III)I"⟩ : MethodName) (⟨"PretendDeskModel", "signs", "(III)I"⟩ : MethodName) ∈ zTb := zTb_in (zT8 (List.mem_of_getElem? (i := 90) (by decide +kernel))) rfl
theorem zlt8_91 : Cond.code (⟨"PretendDeskModel", "signs", "(III)I"⟩ : MethodName) prog_14_method_71_code 4 (some (.int)) ∈ zTb := zTb_in (zT8 (List.mem_of_getElem? (i := 91) (by decide +kernel))) rfl
theorem zlt9_108 : Cond.methodLink "PretendDeskLaw" 224 (⟨"PretendDeskModel", "near", "(I)I"⟩ : MethodName) ∈ zTb := zTb_in (zT9 (List.mem_of_getElem? (i := 108) (by decide +kernel))) rfl
theorem zlt9_109 : Cond.instanceMethod (⟨"PretendDeskModel", "near", "(I)I"⟩ : MethodName) ∈ zTb := zTb_in (zT9 (List.mem_of_getElem? (i := 109) (by decide +kernel))) rfl
theorem zlt9_110 : Cond.selects "PretendDeskModel" (⟨"PretendDeskModel", "near", "(I)I"⟩ : MethodName) (⟨"PretendDeskModel", "near", "(I)I"⟩ : MethodName) ∈ zTb := zTb_in (zT9 (List.mem_of_getElem? (i := 110) (by decide +kernel))) rfl
theorem zlt9_111 : Cond.code (⟨"PretendDeskModel", "near", "(I)I"⟩ : MethodName) prog_14_method_130_code 4 (some (.int)) ∈ zTb := zTb_in (zT9 (List.mem_of_getElem? (i := 111) (by decide +kernel))) rfl
theorem zlt9_112 : Cond.methodLink "PretendDeskLaw" 228 (⟨"PretendDeskModel", "count", "(I)I"⟩ : MethodName) ∈ zTb := zTb_in (zT9 (List.mem_of_getElem? (i := 112) (by decide +kernel))) rfl
theorem zlt9_113 : Cond.instanceMethod (⟨"PretendDeskModel", "count", "(I)I"⟩ : MethodName) ∈ zTb := zTb_in (zT9 (List.mem_of_getElem? (i := 113) (by decide +kernel))) rfl
theorem zlt9_114 : Cond.selects "PretendDeskModel" (⟨"PretendDeskModel", "count", "(I)I"⟩ : MethodName) (⟨"PretendDeskModel", "count", "(I)I"⟩ : MethodName) ∈ zTb := zTb_in (zT9 (List.mem_of_getElem? (i := 114) (by decide +kernel))) rfl
theorem zlt9_115 : Cond.code (⟨"PretendDeskModel", "count", "(I)I"⟩ : MethodName) prog_14_method_131_code 2 (some (.int)) ∈ zTb := zTb_in (zT9 (List.mem_of_getElem? (i := 115) (by decide +kernel))) rfl
theorem zlt9_116 : Cond.methodLink "PretendDeskLaw" 232 (⟨"PretendDeskModel", "image", "(I)Z"⟩ : MethodName) ∈ zTb := zTb_in (zT9 (List.mem_of_getElem? (i := 116) (by decide +kernel))) rfl
theorem zlt9_117 : Cond.instanceMethod (⟨"PretendDeskModel", "image", "(I)Z"⟩ : MethodName) ∈ zTb := zTb_in (zT9 (List.mem_of_getElem? (i := 117) (by decide +kernel))) rfl
theorem zlt9_118 : Cond.selects "PretendDeskModel" (⟨"PretendDeskModel", "image", "(I)Z"⟩ : MethodName) (⟨"PretendDeskModel", "image", "(I)Z"⟩ : MethodName) ∈ zTb := zTb_in (zT9 (List.mem_of_getElem? (i := 118) (by decide +kernel))) rfl
theorem zlt9_119 : Cond.code (⟨"PretendDeskModel", "image", "(I)Z"⟩ : MethodName) prog_14_method_132_code 3 (some (.boolean)) ∈ zTb := zTb_in (zT9 (List.mem_of_getElem? (i := 119) (by decide +kernel))) rfl
theorem zlt9_120 : Cond.methodLink "PretendDeskLaw" 236 (⟨"PretendDeskModel", "again", "(I)Z"⟩ : MethodName) ∈ zTb := zTb_in (zT9 (List.mem_of_getElem? (i := 120) (by decide +kernel))) rfl
theorem zlt9_121 : Cond.instanceMethod (⟨"PretendDeskModel", "again", "(I)Z"⟩ : MethodName) ∈ zTb := zTb_in (zT9 (List.mem_of_getElem? (i := 121) (by decide +kernel))) rfl
theorem zlt9_122 : Cond.selects "PretendDeskModel" (⟨"PretendDeskModel", "again", "(I)Z"⟩ : MethodName) (⟨"PretendDeskModel", "again", "(I)Z"⟩ : MethodName) ∈ zTb := zTb_in (zT9 (List.mem_of_getElem? (i := 122) (by decide +kernel))) rfl
theorem zlt9_123 : Cond.code (⟨"PretendDeskModel", "again", "(I)Z"⟩ : MethodName) prog_14_method_133_code 3 (some (.boolean)) ∈ zTb := zTb_in (zT9 (List.mem_of_getElem? (i := 123) (by decide +kernel))) rfl
theorem zlt9_13 : Cond.methodLink "PretendDeskLaw" 170 (⟨"PretendDeskModel", "owner", "(II)Z"⟩ : MethodName) ∈ zTb := zTb_in (zT9 (List.mem_of_getElem? (i := 13) (by decide +kernel))) rfl
theorem zlt9_14 : Cond.instanceMethod (⟨"PretendDeskModel", "owner", "(II)Z"⟩ : MethodName) ∈ zTb := zTb_in (zT9 (List.mem_of_getElem? (i := 14) (by decide +kernel))) rfl
theorem zlt9_15 : Cond.selects "PretendDeskModel" (⟨"PretendDeskModel", "owner", "(II)Z"⟩ : MethodName) (⟨"PretendDeskModel", "owner", "(II)Z"⟩ : MethodName) ∈ zTb := zTb_in (zT9 (List.mem_of_getElem? (i := 15) (by decide +kernel))) rfl
theorem zlt9_16 : Cond.code (⟨"PretendDeskModel", "owner", "(II)Z"⟩ : MethodName) prog_14_method_107_code 3 (some (.boolean)) ∈ zTb := zTb_in (zT9 (List.mem_of_getElem? (i := 16) (by decide +kernel))) rfl
theorem zlt9_17 : Cond.methodLink "PretendDeskLaw" 175 (⟨"PretendDeskModel", "goes", "(IZ)I"⟩ : MethodName) ∈ zTb := zTb_in (zT9 (List.mem_of_getElem? (i := 17) (by decide +kernel))) rfl
theorem zlt9_18 : Cond.instanceMethod (⟨"PretendDeskModel", "goes", "(IZ)I"⟩ : MethodName) ∈ zTb := zTb_in (zT9 (List.mem_of_getElem? (i := 18) (by decide +kernel))) rfl
theorem zlt9_19 : Cond.selects "PretendDeskModel" (⟨"PretendDeskModel", "goes", "(IZ)I"⟩ : MethodName) (⟨"PretendDeskModel", "goes", "(IZ)I"⟩ : MethodName) ∈ zTb := zTb_in (zT9 (List.mem_of_getElem? (i := 19) (by decide +kernel))) rfl
theorem zlt9_20 : Cond.code (⟨"PretendDeskModel", "goes", "(IZ)I"⟩ : MethodName) prog_14_method_109_code 4 (some (.int)) ∈ zTb := zTb_in (zT9 (List.mem_of_getElem? (i := 20) (by decide +kernel))) rfl
theorem zlt9_25 : Cond.methodLink "PretendDeskLaw" 179 (⟨"PretendDeskModel", "sent", "(III)I"⟩ : MethodName) ∈ zTb := zTb_in (zT9 (List.mem_of_getElem? (i := 25) (by decide +kernel))) rfl
theorem zlt9_26 : Cond.instanceMethod (⟨"PretendDeskModel", "sent", "(III)I"⟩ : MethodName) ∈ zTb := zTb_in (zT9 (List.mem_of_getElem? (i := 26) (by decide +kernel))) rfl
theorem zlt9_27 : Cond.selects "PretendDeskModel" (⟨"PretendDeskModel", "sent", "(III)I"⟩ : MethodName) (⟨"PretendDeskModel", "sent", "(III)I"⟩ : MethodName) ∈ zTb := zTb_in (zT9 (List.mem_of_getElem? (i := 27) (by decide +kernel))) rfl
theorem zlt9_28 : Cond.code (⟨"PretendDeskModel", "sent", "(III)I"⟩ : MethodName) prog_14_method_111_code 5 (some (.int)) ∈ zTb := zTb_in (zT9 (List.mem_of_getElem? (i := 28) (by decide +kernel))) rfl
theorem zlt9_36 : Cond.methodLink "PretendDeskLaw" 183 (⟨"PretendDeskModel", "steps", "(II)I"⟩ : MethodName) ∈ zTb := zTb_in (zT9 (List.mem_of_getElem? (i := 36) (by decide +kernel))) rfl
theorem zlt9_37 : Cond.instanceMethod (⟨"PretendDeskModel", "steps", "(II)I"⟩ : MethodName) ∈ zTb := zTb_in (zT9 (List.mem_of_getElem? (i := 37) (by decide +kernel))) rfl
theorem zlt9_38 : Cond.selects "PretendDeskModel" (⟨"PretendDeskModel", "steps", "(II)I"⟩ : MethodName) (⟨"PretendDeskModel", "steps", "(II)I"⟩ : MethodName) ∈ zTb := zTb_in (zT9 (List.mem_of_getElem? (i := 38) (by decide +kernel))) rfl
theorem zlt9_39 : Cond.code (⟨"PretendDeskModel", "steps", "(II)I"⟩ : MethodName) prog_14_method_112_code 3 (some (.int)) ∈ zTb := zTb_in (zT9 (List.mem_of_getElem? (i := 39) (by decide +kernel))) rfl
theorem zlt9_40 : Cond.methodLink "PretendDeskLaw" 187 (⟨"PretendDeskModel", "taken", "(II)I"⟩ : MethodName) ∈ zTb := zTb_in (zT9 (List.mem_of_getElem? (i := 40) (by decide +kernel))) rfl
theorem zlt9_41 : Cond.instanceMethod (⟨"PretendDeskModel", "taken", "(II)I"⟩ : MethodName) ∈ zTb := zTb_in (zT9 (List.mem_of_getElem? (i := 41) (by decide +kernel))) rfl
theorem zlt9_42 : Cond.selects "PretendDeskModel" (⟨"PretendDeskModel", "taken", "(II)I"⟩ : MethodName) (⟨"PretendDeskModel", "taken", "(II)I"⟩ : MethodName) ∈ zTb := zTb_in (zT9 (List.mem_of_getElem? (i := 42) (by decide +kernel))) rfl
theorem zlt9_43 : Cond.code (⟨"PretendDeskModel", "taken", "(II)I"⟩ : MethodName) prog_14_method_114_code 6 (some (.int)) ∈ zTb := zTb_in (zT9 (List.mem_of_getElem? (i := 43) (by decide +kernel))) rfl
theorem zlt9_48 : Cond.methodLink "PretendDeskLaw" 191 (⟨"PretendDeskModel", "word", "(I)I"⟩ : MethodName) ∈ zTb := zTb_in (zT9 (List.mem_of_getElem? (i := 48) (by decide +kernel))) rfl
theorem zlt9_49 : Cond.instanceMethod (⟨"PretendDeskModel", "word", "(I)I"⟩ : MethodName) ∈ zTb := zTb_in (zT9 (List.mem_of_getElem? (i := 49) (by decide +kernel))) rfl
theorem zlt9_50 : Cond.selects "PretendDeskModel" (⟨"PretendDeskModel", "word", "(I)I"⟩ : MethodName) (⟨"PretendDeskModel", "word", "(I)I"⟩ : MethodName) ∈ zTb := zTb_in (zT9 (List.mem_of_getElem? (i := 50) (by decide +kernel))) rfl
theorem zlt9_51 : Cond.code (⟨"PretendDeskModel", "word", "(I)I"⟩ : MethodName) prog_14_method_117_code 5 (some (.int)) ∈ zTb := zTb_in (zT9 (List.mem_of_getElem? (i := 51) (by decide +kernel))) rfl
theorem zlt9_6 : Cond.methodLink "PretendDeskLaw" 166 (⟨"PretendDeskModel", "relay", "(II)Z"⟩ : MethodName) ∈ zTb := zTb_in (zT9 (List.mem_of_getElem? (i := 6) (by decide +kernel))) rfl
theorem zlt9_60 : Cond.methodLink "PretendDeskLaw" 195 (⟨"PretendDeskModel", "pattern", "(II)I"⟩ : MethodName) ∈ zTb := zTb_in (zT9 (List.mem_of_getElem? (i := 60) (by decide +kernel))) rfl
theorem zlt9_61 : Cond.instanceMethod (⟨"PretendDeskModel", "pattern", "(II)I"⟩ : MethodName) ∈ zTb := zTb_in (zT9 (List.mem_of_getElem? (i := 61) (by decide +kernel))) rfl
theorem zlt9_62 : Cond.selects "PretendDeskModel" (⟨"PretendDeskModel", "pattern", "(II)I"⟩ : MethodName) (⟨"PretendDeskModel", "pattern", "(II)I"⟩ : MethodName) ∈ zTb := zTb_in (zT9 (List.mem_of_getElem? (i := 62) (by decide +kernel))) rfl
theorem zlt9_63 : Cond.code (⟨"PretendDeskModel", "pattern", "(II)I"⟩ : MethodName) prog_14_method_118_code 3 (some (.int)) ∈ zTb := zTb_in (zT9 (List.mem_of_getElem? (i := 63) (by decide +kernel))) rfl
theorem zlt9_64 : Cond.methodLink "PretendDeskLaw" 199 (⟨"PretendDeskModel", "letter", "()I"⟩ : MethodName) ∈ zTb := zTb_in (zT9 (List.mem_of_getElem? (i := 64) (by decide +kernel))) rfl
theorem zlt9_65 : Cond.instanceMethod (⟨"PretendDeskModel", "letter", "()I"⟩ : MethodName) ∈ zTb := zTb_in (zT9 (List.mem_of_getElem? (i := 65) (by decide +kernel))) rfl
theorem zlt9_66 : Cond.selects "PretendDeskModel" (⟨"PretendDeskModel", "letter", "()I"⟩ : MethodName) (⟨"PretendDeskModel", "letter", "()I"⟩ : MethodName) ∈ zTb := zTb_in (zT9 (List.mem_of_getElem? (i := 66) (by decide +kernel))) rfl
theorem zlt9_67 : Cond.code (⟨"PretendDeskModel", "letter", "()I"⟩ : MethodName) prog_14_method_120_code 3 (some (.int)) ∈ zTb := zTb_in (zT9 (List.mem_of_getElem? (i := 67) (by decide +kernel))) rfl
theorem zlt9_7 : Cond.instanceMethod (⟨"PretendDeskModel", "relay", "(II)Z"⟩ : MethodName) ∈ zTb := zTb_in (zT9 (List.mem_of_getElem? (i := 7) (by decide +kernel))) rfl
theorem zlt9_72 : Cond.methodLink "PretendDeskLaw" 203 (⟨"PretendDeskModel", "sentence", "(I)I"⟩ : MethodName) ∈ zTb := zTb_in (zT9 (List.mem_of_getElem? (i := 72) (by decide +kernel))) rfl
theorem zlt9_76 : Cond.methodLink "PretendDeskLaw" 207 (⟨"PretendDeskModel", "holds", "(I)I"⟩ : MethodName) ∈ zTb := zTb_in (zT9 (List.mem_of_getElem? (i := 76) (by decide +kernel))) rfl
theorem zlt9_77 : Cond.instanceMethod (⟨"PretendDeskModel", "holds", "(I)I"⟩ : MethodName) ∈ zTb := zTb_in (zT9 (List.mem_of_getElem? (i := 77) (by decide +kernel))) rfl
theorem zlt9_78 : Cond.selects "PretendDeskModel" (⟨"PretendDeskModel", "holds", "(I)I"⟩ : MethodName) (⟨"PretendDeskModel", "holds", "(I)I"⟩ : MethodName) ∈ zTb := zTb_in (zT9 (List.mem_of_getElem? (i := 78) (by decide +kernel))) rfl
theorem zlt9_79 : Cond.code (⟨"PretendDeskModel", "holds", "(I)I"⟩ : MethodName) prog_14_method_123_code 2 (some (.int)) ∈ zTb := zTb_in (zT9 (List.mem_of_getElem? (i := 79) (by decide +kernel))) rfl
theorem zlt9_8 : Cond.selects "PretendDeskModel" (⟨"PretendDeskModel", "relay", "(II)Z"⟩ : MethodName) (⟨"PretendDeskModel", "relay", "(II)Z"⟩ : MethodName) ∈ zTb := zTb_in (zT9 (List.mem_of_getElem? (i := 8) (by decide +kernel))) rfl
theorem zlt9_85 : Cond.methodLink "PretendDeskLaw" 211 (⟨"PretendDeskModel", "presses", "()I"⟩ : MethodName) ∈ zTb := zTb_in (zT9 (List.mem_of_getElem? (i := 85) (by decide +kernel))) rfl
theorem zlt9_86 : Cond.instanceMethod (⟨"PretendDeskModel", "presses", "()I"⟩ : MethodName) ∈ zTb := zTb_in (zT9 (List.mem_of_getElem? (i := 86) (by decide +kernel))) rfl
theorem zlt9_87 : Cond.selects "PretendDeskModel" (⟨"PretendDeskModel", "presses", "()I"⟩ : MethodName) (⟨"PretendDeskModel", "presses", "()I"⟩ : MethodName) ∈ zTb := zTb_in (zT9 (List.mem_of_getElem? (i := 87) (by decide +kernel))) rfl
theorem zlt9_88 : Cond.code (⟨"PretendDeskModel", "presses", "()I"⟩ : MethodName) prog_14_method_124_code 3 (some (.int)) ∈ zTb := zTb_in (zT9 (List.mem_of_getElem? (i := 88) (by decide +kernel))) rfl
theorem zlt9_89 : Cond.methodLink "PretendDeskLaw" 216 (⟨"PretendDeskModel", "picture", "(ZII)Z"⟩ : MethodName) ∈ zTb := zTb_in (zT9 (List.mem_of_getElem? (i := 89) (by decide +kernel))) rfl
theorem zlt9_9 : Cond.code (⟨"PretendDeskModel", "relay", "(II)Z"⟩ : MethodName) prog_14_method_106_code 3 (some (.boolean)) ∈ zTb := zTb_in (zT9 (List.mem_of_getElem? (i := 9) (by decide +kernel))) rfl
theorem zlt9_90 : Cond.instanceMethod (⟨"PretendDeskModel", "picture", "(ZII)Z"⟩ : MethodName) ∈ zTb := zTb_in (zT9 (List.mem_of_getElem? (i := 90) (by decide +kernel))) rfl
theorem zlt9_91 : Cond.selects "PretendDeskModel" (⟨"PretendDeskModel", "picture", "(ZII)Z"⟩ : MethodName) (⟨"PretendDeskModel", "picture", "(ZII)Z"⟩ : MethodName) ∈ zTb := zTb_in (zT9 (List.mem_of_getElem? (i := 91) (by decide +kernel))) rfl
theorem zlt9_92 : Cond.code (⟨"PretendDeskModel", "picture", "(ZII)Z"⟩ : MethodName) prog_14_method_125_code 4 (some (.boolean)) ∈ zTb := zTb_in (zT9 (List.mem_of_getElem? (i := 92) (by decide +kernel))) rfl
theorem zlt9_94 : Cond.methodLink "PretendDeskLaw" 220 (⟨"PretendDeskModel", "unlike", "(II)I"⟩ : MethodName) ∈ zTb := zTb_in (zT9 (List.mem_of_getElem? (i := 94) (by decide +kernel))) rfl
theorem zlt9_95 : Cond.instanceMethod (⟨"PretendDeskModel", "unlike", "(II)I"⟩ : MethodName) ∈ zTb := zTb_in (zT9 (List.mem_of_getElem? (i := 95) (by decide +kernel))) rfl
theorem zlt9_96 : Cond.selects "PretendDeskModel" (⟨"PretendDeskModel", "unlike", "(II)I"⟩ : MethodName) (⟨"PretendDeskModel", "unlike", "(II)I"⟩ : MethodName) ∈ zTb := zTb_in (zT9 (List.mem_of_getElem? (i := 96) (by decide +kernel))) rfl
theorem zlt9_97 : Cond.code (⟨"PretendDeskModel", "unlike", "(II)I"⟩ : MethodName) prog_14_method_129_code 3 (some (.int)) ∈ zTb := zTb_in (zT9 (List.mem_of_getElem? (i := 97) (by decide +kernel))) rfl
