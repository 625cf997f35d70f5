/-! ===== words of the tables, by their places (wip/whole/gen_all.py) ===== -/
theorem zT0 {w : Cond} (h : w ∈ k2_sels lw_privs) : w ∈ lw_tbl := List.mem_append_left _ h
theorem zT1 {w : Cond} (h : w ∈ tables_1_1) : w ∈ lw_tbl := List.mem_append_right _ (List.mem_append_left _ h)
theorem zT2 {w : Cond} (h : w ∈ tables_1_2) : w ∈ lw_tbl := List.mem_append_right _ (List.mem_append_right _ (List.mem_append_left _ h))
theorem zT3 {w : Cond} (h : w ∈ tables_1_3) : w ∈ lw_tbl := List.mem_append_right _ (List.mem_append_right _ (List.mem_append_right _ (List.mem_append_left _ h)))
theorem zT4 {w : Cond} (h : w ∈ tables_1_4) : w ∈ lw_tbl := List.mem_append_right _ (List.mem_append_right _ (List.mem_append_right _ (List.mem_append_right _ (List.mem_append_left _ h))))
theorem zT5 {w : Cond} (h : w ∈ tables_1_5) : w ∈ lw_tbl := List.mem_append_right _ (List.mem_append_right _ (List.mem_append_right _ (List.mem_append_right _ (List.mem_append_right _ (List.mem_append_left _ h)))))
theorem zT6 {w : Cond} (h : w ∈ tables_1_6) : w ∈ lw_tbl := List.mem_append_right _ (List.mem_append_right _ (List.mem_append_right _ (List.mem_append_right _ (List.mem_append_right _ (List.mem_append_right _ (List.mem_append_left _ h))))))
theorem zT7 {w : Cond} (h : w ∈ tables_1_7) : w ∈ lw_tbl := List.mem_append_right _ (List.mem_append_right _ (List.mem_append_right _ (List.mem_append_right _ (List.mem_append_right _ (List.mem_append_right _ (List.mem_append_right _ (List.mem_append_left _ h)))))))
theorem zT8 {w : Cond} (h : w ∈ tables_1_8) : w ∈ lw_tbl := List.mem_append_right _ (List.mem_append_right _ (List.mem_append_right _ (List.mem_append_right _ (List.mem_append_right _ (List.mem_append_right _ (List.mem_append_right _ (List.mem_append_right _ (List.mem_append_left _ h))))))))
theorem zT9 {w : Cond} (h : w ∈ tables_1_9) : w ∈ lw_tbl := List.mem_append_right _ (List.mem_append_right _ (List.mem_append_right _ (List.mem_append_right _ (List.mem_append_right _ (List.mem_append_right _ (List.mem_append_right _ (List.mem_append_right _ (List.mem_append_right _ (h)))))))))
theorem zmp0_0 : Cond.selects "PretendDesk$Tape" (⟨"PretendDesk$Tape", "stuck", "(I)V"⟩ : MethodName) (⟨"PretendDesk$Tape", "stuck", "(I)V"⟩ : MethodName) ∈ zTb := zTb_in (zT0 (List.mem_of_getElem? (i := 0) (by decide +kernel))) rfl
theorem zmp0_1 : Cond.selects "PretendDesk$Tape" (⟨"PretendDesk$Tape", "wrong", "(II)V"⟩ : MethodName) (⟨"PretendDesk$Tape", "wrong", "(II)V"⟩ : MethodName) ∈ zTb := zTb_in (zT0 (List.mem_of_getElem? (i := 1) (by decide +kernel))) rfl
theorem zmp0_2 : Cond.selects "PretendDesk" (⟨"PretendDesk", "isPage", "(I)Z"⟩ : MethodName) (⟨"PretendDesk", "isPage", "(I)Z"⟩ : MethodName) ∈ zTb := zTb_in (zT0 (List.mem_of_getElem? (i := 2) (by decide +kernel))) rfl
theorem zmp0_3 : Cond.selects "PretendDesk" (⟨"PretendDesk", "isHouse", "(I)Z"⟩ : MethodName) (⟨"PretendDesk", "isHouse", "(I)Z"⟩ : MethodName) ∈ zTb := zTb_in (zT0 (List.mem_of_getElem? (i := 3) (by decide +kernel))) rfl
theorem zmp0_4 : Cond.selects "PretendDesk$Tape" (⟨"PretendDesk$Tape", "step", "()V"⟩ : MethodName) (⟨"PretendDesk$Tape", "step", "()V"⟩ : MethodName) ∈ zTb := zTb_in (zT0 (List.mem_of_getElem? (i := 4) (by decide +kernel))) rfl
theorem zmp0_5 : Cond.selects "PretendDesk$Tape" (⟨"PretendDesk$Tape", "stepDigits", "()V"⟩ : MethodName) (⟨"PretendDesk$Tape", "stepDigits", "()V"⟩ : MethodName) ∈ zTb := zTb_in (zT0 (List.mem_of_getElem? (i := 5) (by decide +kernel))) rfl
theorem zmp0_6 : Cond.selects "PretendDesk$Tape" (⟨"PretendDesk$Tape", "stepLetters", "()V"⟩ : MethodName) (⟨"PretendDesk$Tape", "stepLetters", "()V"⟩ : MethodName) ∈ zTb := zTb_in (zT0 (List.mem_of_getElem? (i := 6) (by decide +kernel))) rfl
theorem zmp0_7 : Cond.selects "PretendDesk$Tape" (⟨"PretendDesk$Tape", "readBox", "(LPretendDesk$Page;I)I"⟩ : MethodName) (⟨"PretendDesk$Tape", "readBox", "(LPretendDesk$Page;I)I"⟩ : MethodName) ∈ zTb := zTb_in (zT0 (List.mem_of_getElem? (i := 7) (by decide +kernel))) rfl
theorem zmp0_8 : Cond.selects "PretendDesk$Tape" (⟨"PretendDesk$Tape", "readHead", "(LPretendDesk$Page;I)V"⟩ : MethodName) (⟨"PretendDesk$Tape", "readHead", "(LPretendDesk$Page;I)V"⟩ : MethodName) ∈ zTb := zTb_in (zT0 (List.mem_of_getElem? (i := 8) (by decide +kernel))) rfl
theorem zmp0_9 : Cond.selects "PretendDesk$Tape" (⟨"PretendDesk$Tape", "readNumber", "(I)I"⟩ : MethodName) (⟨"PretendDesk$Tape", "readNumber", "(I)I"⟩ : MethodName) ∈ zTb := zTb_in (zT0 (List.mem_of_getElem? (i := 9) (by decide +kernel))) rfl
theorem zmp0_10 : Cond.selects "PretendDesk$Tape" (⟨"PretendDesk$Tape", "expect", "(I)V"⟩ : MethodName) (⟨"PretendDesk$Tape", "expect", "(I)V"⟩ : MethodName) ∈ zTb := zTb_in (zT0 (List.mem_of_getElem? (i := 10) (by decide +kernel))) rfl
theorem zmp0_11 : Cond.selects "PretendDesk" (⟨"PretendDesk", "spelled", "(Ljava/lang/String;Ljava/lang/String;)I"⟩ : MethodName) (⟨"PretendDesk", "spelled", "(Ljava/lang/String;Ljava/lang/String;)I"⟩ : MethodName) ∈ zTb := zTb_in (zT0 (List.mem_of_getElem? (i := 11) (by decide +kernel))) rfl
theorem zmp0_12 : Cond.selects "PretendDesk" (⟨"PretendDesk", "leastSpelled", "(Ljava/lang/String;ILjava/lang/String;I)I"⟩ : MethodName) (⟨"PretendDesk", "leastSpelled", "(Ljava/lang/String;ILjava/lang/String;I)I"⟩ : MethodName) ∈ zTb := zTb_in (zT0 (List.mem_of_getElem? (i := 12) (by decide +kernel))) rfl
theorem zmp0_13 : Cond.selects "PretendDesk" (⟨"PretendDesk", "signPrice", "(II)I"⟩ : MethodName) (⟨"PretendDesk", "signPrice", "(II)I"⟩ : MethodName) ∈ zTb := zTb_in (zT0 (List.mem_of_getElem? (i := 13) (by decide +kernel))) rfl
theorem zmp0_14 : Cond.selects "PretendDesk$Opened" (⟨"PretendDesk$Opened", "add", "(LPretendDesk$Page;II)I"⟩ : MethodName) (⟨"PretendDesk$Opened", "add", "(LPretendDesk$Page;II)I"⟩ : MethodName) ∈ zTb := zTb_in (zT0 (List.mem_of_getElem? (i := 14) (by decide +kernel))) rfl
theorem zmp0_15 : Cond.selects "PretendDesk$Opened" (⟨"PretendDesk$Opened", "span", "()V"⟩ : MethodName) (⟨"PretendDesk$Opened", "span", "()V"⟩ : MethodName) ∈ zTb := zTb_in (zT0 (List.mem_of_getElem? (i := 15) (by decide +kernel))) rfl
theorem zmp0_16 : Cond.selects "PretendDesk$Room" (⟨"PretendDesk$Room", "compare", "(II)V"⟩ : MethodName) (⟨"PretendDesk$Room", "compare", "(II)V"⟩ : MethodName) ∈ zTb := zTb_in (zT0 (List.mem_of_getElem? (i := 16) (by decide +kernel))) rfl
theorem zmp0_17 : Cond.selects "PretendDesk$Room" (⟨"PretendDesk$Room", "swap", "(II)I"⟩ : MethodName) (⟨"PretendDesk$Room", "swap", "(II)I"⟩ : MethodName) ∈ zTb := zTb_in (zT0 (List.mem_of_getElem? (i := 17) (by decide +kernel))) rfl
theorem zmp0_18 : Cond.selects "PretendDesk$Room" (⟨"PretendDesk$Room", "closer", "(LPretendDesk$House;III)I"⟩ : MethodName) (⟨"PretendDesk$Room", "closer", "(LPretendDesk$House;III)I"⟩ : MethodName) ∈ zTb := zTb_in (zT0 (List.mem_of_getElem? (i := 18) (by decide +kernel))) rfl
theorem zmp0_19 : Cond.selects "PretendDesk" (⟨"PretendDesk", "likeOf", "(III)I"⟩ : MethodName) (⟨"PretendDesk", "likeOf", "(III)I"⟩ : MethodName) ∈ zTb := zTb_in (zT0 (List.mem_of_getElem? (i := 19) (by decide +kernel))) rfl
theorem zmp0_20 : Cond.selects "PretendDesk" (⟨"PretendDesk", "signsOf", "(III)I"⟩ : MethodName) (⟨"PretendDesk", "signsOf", "(III)I"⟩ : MethodName) ∈ zTb := zTb_in (zT0 (List.mem_of_getElem? (i := 20) (by decide +kernel))) rfl
theorem zmp0_21 : Cond.selects "PretendDesk$Best" (⟨"PretendDesk$Best", "clearTurns", "([Z)V"⟩ : MethodName) (⟨"PretendDesk$Best", "clearTurns", "([Z)V"⟩ : MethodName) ∈ zTb := zTb_in (zT0 (List.mem_of_getElem? (i := 21) (by decide +kernel))) rfl
theorem zmp0_22 : Cond.selects "PretendDesk$Best" (⟨"PretendDesk$Best", "turn", "([ZI)V"⟩ : MethodName) (⟨"PretendDesk$Best", "turn", "([ZI)V"⟩ : MethodName) ∈ zTb := zTb_in (zT0 (List.mem_of_getElem? (i := 22) (by decide +kernel))) rfl
theorem zmp0_23 : Cond.selects "PretendDesk$Best" (⟨"PretendDesk$Best", "weigh", "(IIII)V"⟩ : MethodName) (⟨"PretendDesk$Best", "weigh", "(IIII)V"⟩ : MethodName) ∈ zTb := zTb_in (zT0 (List.mem_of_getElem? (i := 23) (by decide +kernel))) rfl
theorem zmp0_24 : Cond.selects "PretendDesk$Forger" (⟨"PretendDesk$Forger", "priceOf", "(LPretendDesk$Came;I)I"⟩ : MethodName) (⟨"PretendDesk$Forger", "priceOf", "(LPretendDesk$Came;I)I"⟩ : MethodName) ∈ zTb := zTb_in (zT0 (List.mem_of_getElem? (i := 24) (by decide +kernel))) rfl
theorem zmp0_25 : Cond.selects "PretendDesk$Forger" (⟨"PretendDesk$Forger", "aims", "(LPretendDesk$Came;IIII)Z"⟩ : MethodName) (⟨"PretendDesk$Forger", "aims", "(LPretendDesk$Came;IIII)Z"⟩ : MethodName) ∈ zTb := zTb_in (zT0 (List.mem_of_getElem? (i := 25) (by decide +kernel))) rfl
theorem zmp0_26 : Cond.selects "PretendDesk$Forger" (⟨"PretendDesk$Forger", "forge", "(LPretendDesk$Came;I)V"⟩ : MethodName) (⟨"PretendDesk$Forger", "forge", "(LPretendDesk$Came;I)V"⟩ : MethodName) ∈ zTb := zTb_in (zT0 (List.mem_of_getElem? (i := 26) (by decide +kernel))) rfl
theorem zmp0_27 : Cond.selects "PretendDesk$Forger" (⟨"PretendDesk$Forger", "alter", "(III)V"⟩ : MethodName) (⟨"PretendDesk$Forger", "alter", "(III)V"⟩ : MethodName) ∈ zTb := zTb_in (zT0 (List.mem_of_getElem? (i := 27) (by decide +kernel))) rfl
theorem zmp0_28 : Cond.selects "PretendDesk" (⟨"PretendDesk", "sharedWays", "(II)J"⟩ : MethodName) (⟨"PretendDesk", "sharedWays", "(II)J"⟩ : MethodName) ∈ zTb := zTb_in (zT0 (List.mem_of_getElem? (i := 28) (by decide +kernel))) rfl
theorem zmp0_29 : Cond.selects "PretendDesk" (⟨"PretendDesk", "shares", "(II)I"⟩ : MethodName) (⟨"PretendDesk", "shares", "(II)I"⟩ : MethodName) ∈ zTb := zTb_in (zT0 (List.mem_of_getElem? (i := 29) (by decide +kernel))) rfl
theorem zmp0_30 : Cond.selects "PretendDesk" (⟨"PretendDesk", "allWays", "(I)J"⟩ : MethodName) (⟨"PretendDesk", "allWays", "(I)J"⟩ : MethodName) ∈ zTb := zTb_in (zT0 (List.mem_of_getElem? (i := 30) (by decide +kernel))) rfl
theorem zmp0_31 : Cond.selects "PretendDesk" (⟨"PretendDesk", "ofOneHand", "(II)I"⟩ : MethodName) (⟨"PretendDesk", "ofOneHand", "(II)I"⟩ : MethodName) ∈ zTb := zTb_in (zT0 (List.mem_of_getElem? (i := 31) (by decide +kernel))) rfl
theorem zmp0_32 : Cond.selects "PretendDesk" (⟨"PretendDesk", "sketched", "(II)I"⟩ : MethodName) (⟨"PretendDesk", "sketched", "(II)I"⟩ : MethodName) ∈ zTb := zTb_in (zT0 (List.mem_of_getElem? (i := 32) (by decide +kernel))) rfl
theorem zmp0_33 : Cond.selects "PretendDesk" (⟨"PretendDesk", "fits", "(II)I"⟩ : MethodName) (⟨"PretendDesk", "fits", "(II)I"⟩ : MethodName) ∈ zTb := zTb_in (zT0 (List.mem_of_getElem? (i := 33) (by decide +kernel))) rfl
theorem zmp0_34 : Cond.selects "PretendDesk$Tape" (⟨"PretendDesk$Tape", "readLine", "([II)V"⟩ : MethodName) (⟨"PretendDesk$Tape", "readLine", "([II)V"⟩ : MethodName) ∈ zTb := zTb_in (zT0 (List.mem_of_getElem? (i := 34) (by decide +kernel))) rfl
theorem zmp0_35 : Cond.selects "PretendDesk$Tape" (⟨"PretendDesk$Tape", "readKind", "()I"⟩ : MethodName) (⟨"PretendDesk$Tape", "readKind", "()I"⟩ : MethodName) ∈ zTb := zTb_in (zT0 (List.mem_of_getElem? (i := 35) (by decide +kernel))) rfl
theorem zmp0_36 : Cond.selects "PretendDesk$Tape" (⟨"PretendDesk$Tape", "readBehind", "(II)I"⟩ : MethodName) (⟨"PretendDesk$Tape", "readBehind", "(II)I"⟩ : MethodName) ∈ zTb := zTb_in (zT0 (List.mem_of_getElem? (i := 36) (by decide +kernel))) rfl
theorem zmp0_37 : Cond.selects "PretendDesk$Runner" (⟨"PretendDesk$Runner", "done", "([III)I"⟩ : MethodName) (⟨"PretendDesk$Runner", "done", "([III)I"⟩ : MethodName) ∈ zTb := zTb_in (zT0 (List.mem_of_getElem? (i := 37) (by decide +kernel))) rfl
theorem zmp0_38 : Cond.selects "PretendDesk" (⟨"PretendDesk", "takenFrom", "(III)I"⟩ : MethodName) (⟨"PretendDesk", "takenFrom", "(III)I"⟩ : MethodName) ∈ zTb := zTb_in (zT0 (List.mem_of_getElem? (i := 38) (by decide +kernel))) rfl
theorem zmp0_39 : Cond.selects "PretendDesk$Speech" (⟨"PretendDesk$Speech", "isWord", "(I[CII)Z"⟩ : MethodName) (⟨"PretendDesk$Speech", "isWord", "(I[CII)Z"⟩ : MethodName) ∈ zTb := zTb_in (zT0 (List.mem_of_getElem? (i := 39) (by decide +kernel))) rfl
theorem zmp0_40 : Cond.selects "PretendDesk$Speech" (⟨"PretendDesk$Speech", "meaningOf", "(II)I"⟩ : MethodName) (⟨"PretendDesk$Speech", "meaningOf", "(II)I"⟩ : MethodName) ∈ zTb := zTb_in (zT0 (List.mem_of_getElem? (i := 40) (by decide +kernel))) rfl
theorem zmp0_41 : Cond.selects "PretendDesk" (⟨"PretendDesk", "firstHolding", "(I)I"⟩ : MethodName) (⟨"PretendDesk", "firstHolding", "(I)I"⟩ : MethodName) ∈ zTb := zTb_in (zT0 (List.mem_of_getElem? (i := 41) (by decide +kernel))) rfl
theorem zmp0_42 : Cond.selects "PretendDesk" (⟨"PretendDesk", "unlikeOf", "(II)I"⟩ : MethodName) (⟨"PretendDesk", "unlikeOf", "(II)I"⟩ : MethodName) ∈ zTb := zTb_in (zT0 (List.mem_of_getElem? (i := 42) (by decide +kernel))) rfl
theorem zmp0_43 : Cond.selects "PretendDesk" (⟨"PretendDesk", "countOf", "(II)I"⟩ : MethodName) (⟨"PretendDesk", "countOf", "(II)I"⟩ : MethodName) ∈ zTb := zTb_in (zT0 (List.mem_of_getElem? (i := 43) (by decide +kernel))) rfl
theorem zmp0_44 : Cond.selects "PretendDeskModel" (⟨"PretendDeskModel", "begins", "()V"⟩ : MethodName) (⟨"PretendDeskModel", "begins", "()V"⟩ : MethodName) ∈ zTb := zTb_in (zT0 (List.mem_of_getElem? (i := 44) (by decide +kernel))) rfl
theorem zmp0_45 : Cond.selects "PretendDeskModel" (⟨"PretendDeskModel", "isHouse", "(I)Z"⟩ : MethodName) (⟨"PretendDeskModel", "isHouse", "(I)Z"⟩ : MethodName) ∈ zTb := zTb_in (zT0 (List.mem_of_getElem? (i := 45) (by decide +kernel))) rfl
theorem zmp0_46 : Cond.selects "PretendDeskModel" (⟨"PretendDeskModel", "reads", "()Z"⟩ : MethodName) (⟨"PretendDeskModel", "reads", "()Z"⟩ : MethodName) ∈ zTb := zTb_in (zT0 (List.mem_of_getElem? (i := 46) (by decide +kernel))) rfl
theorem zmp0_47 : Cond.selects "PretendDeskModel" (⟨"PretendDeskModel", "advance", "()V"⟩ : MethodName) (⟨"PretendDeskModel", "advance", "()V"⟩ : MethodName) ∈ zTb := zTb_in (zT0 (List.mem_of_getElem? (i := 47) (by decide +kernel))) rfl
theorem zmp0_48 : Cond.selects "PretendDeskModel" (⟨"PretendDeskModel", "byteAt", "(I)I"⟩ : MethodName) (⟨"PretendDeskModel", "byteAt", "(I)I"⟩ : MethodName) ∈ zTb := zTb_in (zT0 (List.mem_of_getElem? (i := 48) (by decide +kernel))) rfl
theorem zmp0_49 : Cond.selects "PretendDeskModel" (⟨"PretendDeskModel", "aBox", "()V"⟩ : MethodName) (⟨"PretendDeskModel", "aBox", "()V"⟩ : MethodName) ∈ zTb := zTb_in (zT0 (List.mem_of_getElem? (i := 49) (by decide +kernel))) rfl
theorem zmp0_50 : Cond.selects "PretendDeskModel" (⟨"PretendDeskModel", "ends", "()V"⟩ : MethodName) (⟨"PretendDeskModel", "ends", "()V"⟩ : MethodName) ∈ zTb := zTb_in (zT0 (List.mem_of_getElem? (i := 50) (by decide +kernel))) rfl
theorem zmp0_51 : Cond.selects "PretendDeskModel" (⟨"PretendDeskModel", "also", "(II)V"⟩ : MethodName) (⟨"PretendDeskModel", "also", "(II)V"⟩ : MethodName) ∈ zTb := zTb_in (zT0 (List.mem_of_getElem? (i := 51) (by decide +kernel))) rfl
theorem zmp0_52 : Cond.selects "PretendDeskModel" (⟨"PretendDeskModel", "numbered", "(I)I"⟩ : MethodName) (⟨"PretendDeskModel", "numbered", "(I)I"⟩ : MethodName) ∈ zTb := zTb_in (zT0 (List.mem_of_getElem? (i := 52) (by decide +kernel))) rfl
theorem zmp0_53 : Cond.selects "PretendDeskModel" (⟨"PretendDeskModel", "isWord", "(I)Z"⟩ : MethodName) (⟨"PretendDeskModel", "isWord", "(I)Z"⟩ : MethodName) ∈ zTb := zTb_in (zT0 (List.mem_of_getElem? (i := 53) (by decide +kernel))) rfl
theorem zmp0_54 : Cond.selects "PretendDeskModel" (⟨"PretendDeskModel", "isSign", "(I)Z"⟩ : MethodName) (⟨"PretendDeskModel", "isSign", "(I)Z"⟩ : MethodName) ∈ zTb := zTb_in (zT0 (List.mem_of_getElem? (i := 54) (by decide +kernel))) rfl
theorem zmp0_55 : Cond.selects "PretendDeskModel" (⟨"PretendDeskModel", "keeps", "(I)V"⟩ : MethodName) (⟨"PretendDeskModel", "keeps", "(I)V"⟩ : MethodName) ∈ zTb := zTb_in (zT0 (List.mem_of_getElem? (i := 55) (by decide +kernel))) rfl
theorem zmp0_56 : Cond.selects "PretendDeskModel" (⟨"PretendDeskModel", "named", "(I)Z"⟩ : MethodName) (⟨"PretendDeskModel", "named", "(I)Z"⟩ : MethodName) ∈ zTb := zTb_in (zT0 (List.mem_of_getElem? (i := 56) (by decide +kernel))) rfl
theorem zmp0_57 : Cond.selects "PretendDeskModel" (⟨"PretendDeskModel", "isPage", "(I)Z"⟩ : MethodName) (⟨"PretendDeskModel", "isPage", "(I)Z"⟩ : MethodName) ∈ zTb := zTb_in (zT0 (List.mem_of_getElem? (i := 57) (by decide +kernel))) rfl
theorem zmp0_58 : Cond.selects "PretendDeskModel" (⟨"PretendDeskModel", "spells", "(II)I"⟩ : MethodName) (⟨"PretendDeskModel", "spells", "(II)I"⟩ : MethodName) ∈ zTb := zTb_in (zT0 (List.mem_of_getElem? (i := 58) (by decide +kernel))) rfl
theorem zmp0_59 : Cond.selects "PretendDeskModel" (⟨"PretendDeskModel", "priceOf", "(II)I"⟩ : MethodName) (⟨"PretendDeskModel", "priceOf", "(II)I"⟩ : MethodName) ∈ zTb := zTb_in (zT0 (List.mem_of_getElem? (i := 59) (by decide +kernel))) rfl
theorem zmp0_60 : Cond.selects "PretendDeskModel" (⟨"PretendDeskModel", "takes", "(I)V"⟩ : MethodName) (⟨"PretendDeskModel", "takes", "(I)V"⟩ : MethodName) ∈ zTb := zTb_in (zT0 (List.mem_of_getElem? (i := 60) (by decide +kernel))) rfl
theorem zmp0_61 : Cond.selects "PretendDeskModel" (⟨"PretendDeskModel", "boxOf", "(II)I"⟩ : MethodName) (⟨"PretendDeskModel", "boxOf", "(II)I"⟩ : MethodName) ∈ zTb := zTb_in (zT0 (List.mem_of_getElem? (i := 61) (by decide +kernel))) rfl
theorem zmp0_62 : Cond.selects "PretendDeskModel" (⟨"PretendDeskModel", "opens", "(III)V"⟩ : MethodName) (⟨"PretendDeskModel", "opens", "(III)V"⟩ : MethodName) ∈ zTb := zTb_in (zT0 (List.mem_of_getElem? (i := 62) (by decide +kernel))) rfl
theorem zmp0_63 : Cond.selects "PretendDeskModel" (⟨"PretendDeskModel", "closes", "(II)V"⟩ : MethodName) (⟨"PretendDeskModel", "closes", "(II)V"⟩ : MethodName) ∈ zTb := zTb_in (zT0 (List.mem_of_getElem? (i := 63) (by decide +kernel))) rfl
theorem zmp0_64 : Cond.selects "PretendDeskModel" (⟨"PretendDeskModel", "farOf", "(IIIIII)I"⟩ : MethodName) (⟨"PretendDeskModel", "farOf", "(IIIIII)I"⟩ : MethodName) ∈ zTb := zTb_in (zT0 (List.mem_of_getElem? (i := 64) (by decide +kernel))) rfl
theorem zmp0_65 : Cond.selects "PretendDeskModel" (⟨"PretendDeskModel", "farNow", "()I"⟩ : MethodName) (⟨"PretendDeskModel", "farNow", "()I"⟩ : MethodName) ∈ zTb := zTb_in (zT0 (List.mem_of_getElem? (i := 65) (by decide +kernel))) rfl
theorem zmp0_66 : Cond.selects "PretendDeskModel" (⟨"PretendDeskModel", "isLast", "(II)Z"⟩ : MethodName) (⟨"PretendDeskModel", "isLast", "(II)Z"⟩ : MethodName) ∈ zTb := zTb_in (zT0 (List.mem_of_getElem? (i := 66) (by decide +kernel))) rfl
theorem zmp0_67 : Cond.selects "PretendDeskModel" (⟨"PretendDeskModel", "lays", "(II)V"⟩ : MethodName) (⟨"PretendDeskModel", "lays", "(II)V"⟩ : MethodName) ∈ zTb := zTb_in (zT0 (List.mem_of_getElem? (i := 67) (by decide +kernel))) rfl
theorem zmp0_68 : Cond.selects "PretendDeskModel" (⟨"PretendDeskModel", "without", "(I)I"⟩ : MethodName) (⟨"PretendDeskModel", "without", "(I)I"⟩ : MethodName) ∈ zTb := zTb_in (zT0 (List.mem_of_getElem? (i := 68) (by decide +kernel))) rfl
theorem zmp0_69 : Cond.selects "PretendDeskModel" (⟨"PretendDeskModel", "changed", "(II)I"⟩ : MethodName) (⟨"PretendDeskModel", "changed", "(II)I"⟩ : MethodName) ∈ zTb := zTb_in (zT0 (List.mem_of_getElem? (i := 69) (by decide +kernel))) rfl
theorem zmp0_70 : Cond.selects "PretendDeskModel" (⟨"PretendDeskModel", "shows", "(III)V"⟩ : MethodName) (⟨"PretendDeskModel", "shows", "(III)V"⟩ : MethodName) ∈ zTb := zTb_in (zT0 (List.mem_of_getElem? (i := 70) (by decide +kernel))) rfl
theorem zmp0_71 : Cond.selects "PretendDeskModel" (⟨"PretendDeskModel", "lookAt", "(III)I"⟩ : MethodName) (⟨"PretendDeskModel", "lookAt", "(III)I"⟩ : MethodName) ∈ zTb := zTb_in (zT0 (List.mem_of_getElem? (i := 71) (by decide +kernel))) rfl
theorem zmp0_72 : Cond.selects "PretendDeskModel" (⟨"PretendDeskModel", "likeNow", "(II)I"⟩ : MethodName) (⟨"PretendDeskModel", "likeNow", "(II)I"⟩ : MethodName) ∈ zTb := zTb_in (zT0 (List.mem_of_getElem? (i := 72) (by decide +kernel))) rfl
theorem zmp0_73 : Cond.selects "PretendDeskModel" (⟨"PretendDeskModel", "signsOf", "(III)I"⟩ : MethodName) (⟨"PretendDeskModel", "signsOf", "(III)I"⟩ : MethodName) ∈ zTb := zTb_in (zT0 (List.mem_of_getElem? (i := 73) (by decide +kernel))) rfl
theorem zmp0_74 : Cond.selects "PretendDeskModel" (⟨"PretendDeskModel", "judges", "(III)V"⟩ : MethodName) (⟨"PretendDeskModel", "judges", "(III)V"⟩ : MethodName) ∈ zTb := zTb_in (zT0 (List.mem_of_getElem? (i := 74) (by decide +kernel))) rfl
theorem zmp0_75 : Cond.selects "PretendDeskModel" (⟨"PretendDeskModel", "isNameOf", "(II)Z"⟩ : MethodName) (⟨"PretendDeskModel", "isNameOf", "(II)Z"⟩ : MethodName) ∈ zTb := zTb_in (zT0 (List.mem_of_getElem? (i := 75) (by decide +kernel))) rfl
theorem zmp0_76 : Cond.selects "PretendDeskModel" (⟨"PretendDeskModel", "ageOf", "(II)I"⟩ : MethodName) (⟨"PretendDeskModel", "ageOf", "(II)I"⟩ : MethodName) ∈ zTb := zTb_in (zT0 (List.mem_of_getElem? (i := 76) (by decide +kernel))) rfl
theorem zmp0_77 : Cond.selects "PretendDeskModel" (⟨"PretendDeskModel", "signsBy", "(I)I"⟩ : MethodName) (⟨"PretendDeskModel", "signsBy", "(I)I"⟩ : MethodName) ∈ zTb := zTb_in (zT0 (List.mem_of_getElem? (i := 77) (by decide +kernel))) rfl
theorem zmp0_78 : Cond.selects "PretendDeskModel" (⟨"PretendDeskModel", "fits", "(I)V"⟩ : MethodName) (⟨"PretendDeskModel", "fits", "(I)V"⟩ : MethodName) ∈ zTb := zTb_in (zT0 (List.mem_of_getElem? (i := 78) (by decide +kernel))) rfl
theorem zmp0_79 : Cond.selects "PretendDeskModel" (⟨"PretendDeskModel", "weighs", "()V"⟩ : MethodName) (⟨"PretendDeskModel", "weighs", "()V"⟩ : MethodName) ∈ zTb := zTb_in (zT0 (List.mem_of_getElem? (i := 79) (by decide +kernel))) rfl
theorem zmp0_80 : Cond.selects "PretendDeskModel" (⟨"PretendDeskModel", "tells", "(II)Z"⟩ : MethodName) (⟨"PretendDeskModel", "tells", "(II)Z"⟩ : MethodName) ∈ zTb := zTb_in (zT0 (List.mem_of_getElem? (i := 80) (by decide +kernel))) rfl
theorem zmp0_81 : Cond.selects "PretendDeskModel" (⟨"PretendDeskModel", "missed", "(Z)I"⟩ : MethodName) (⟨"PretendDeskModel", "missed", "(Z)I"⟩ : MethodName) ∈ zTb := zTb_in (zT0 (List.mem_of_getElem? (i := 81) (by decide +kernel))) rfl
theorem zmp0_82 : Cond.selects "PretendDeskModel" (⟨"PretendDeskModel", "isAhead", "(II)Z"⟩ : MethodName) (⟨"PretendDeskModel", "isAhead", "(II)Z"⟩ : MethodName) ∈ zTb := zTb_in (zT0 (List.mem_of_getElem? (i := 82) (by decide +kernel))) rfl
theorem zmp0_83 : Cond.selects "PretendDeskModel" (⟨"PretendDeskModel", "isForger", "(IIII)Z"⟩ : MethodName) (⟨"PretendDeskModel", "isForger", "(IIII)Z"⟩ : MethodName) ∈ zTb := zTb_in (zT0 (List.mem_of_getElem? (i := 83) (by decide +kernel))) rfl
theorem zmp0_84 : Cond.selects "PretendDeskModel" (⟨"PretendDeskModel", "forges", "(III)V"⟩ : MethodName) (⟨"PretendDeskModel", "forges", "(III)V"⟩ : MethodName) ∈ zTb := zTb_in (zT0 (List.mem_of_getElem? (i := 84) (by decide +kernel))) rfl
theorem zmp0_85 : Cond.selects "PretendDeskModel" (⟨"PretendDeskModel", "isForgery", "(II)Z"⟩ : MethodName) (⟨"PretendDeskModel", "isForgery", "(II)Z"⟩ : MethodName) ∈ zTb := zTb_in (zT0 (List.mem_of_getElem? (i := 85) (by decide +kernel))) rfl
theorem zmp0_86 : Cond.selects "PretendDeskModel" (⟨"PretendDeskModel", "oddsOf", "(II)I"⟩ : MethodName) (⟨"PretendDeskModel", "oddsOf", "(II)I"⟩ : MethodName) ∈ zTb := zTb_in (zT0 (List.mem_of_getElem? (i := 86) (by decide +kernel))) rfl
theorem zmp0_87 : Cond.selects "PretendDeskModel" (⟨"PretendDeskModel", "pieces", "(I)I"⟩ : MethodName) (⟨"PretendDeskModel", "pieces", "(I)I"⟩ : MethodName) ∈ zTb := zTb_in (zT0 (List.mem_of_getElem? (i := 87) (by decide +kernel))) rfl
theorem zmp0_88 : Cond.selects "PretendDeskModel" (⟨"PretendDeskModel", "isOneHand", "(III)Z"⟩ : MethodName) (⟨"PretendDeskModel", "isOneHand", "(III)Z"⟩ : MethodName) ∈ zTb := zTb_in (zT0 (List.mem_of_getElem? (i := 88) (by decide +kernel))) rfl
theorem zmp0_89 : Cond.selects "PretendDeskModel" (⟨"PretendDeskModel", "sketchOf", "(II)I"⟩ : MethodName) (⟨"PretendDeskModel", "sketchOf", "(II)I"⟩ : MethodName) ∈ zTb := zTb_in (zT0 (List.mem_of_getElem? (i := 89) (by decide +kernel))) rfl
theorem zmp0_90 : Cond.selects "PretendDeskModel" (⟨"PretendDeskModel", "aLine", "()V"⟩ : MethodName) (⟨"PretendDeskModel", "aLine", "()V"⟩ : MethodName) ∈ zTb := zTb_in (zT0 (List.mem_of_getElem? (i := 90) (by decide +kernel))) rfl
theorem zmp0_91 : Cond.selects "PretendDeskModel" (⟨"PretendDeskModel", "puts", "(II)V"⟩ : MethodName) (⟨"PretendDeskModel", "puts", "(II)V"⟩ : MethodName) ∈ zTb := zTb_in (zT0 (List.mem_of_getElem? (i := 91) (by decide +kernel))) rfl
theorem zmp0_92 : Cond.selects "PretendDeskModel" (⟨"PretendDeskModel", "must", "(I)V"⟩ : MethodName) (⟨"PretendDeskModel", "must", "(I)V"⟩ : MethodName) ∈ zTb := zTb_in (zT0 (List.mem_of_getElem? (i := 92) (by decide +kernel))) rfl
theorem zmp0_93 : Cond.selects "PretendDeskModel" (⟨"PretendDeskModel", "oneTo", "(II)V"⟩ : MethodName) (⟨"PretendDeskModel", "oneTo", "(II)V"⟩ : MethodName) ∈ zTb := zTb_in (zT0 (List.mem_of_getElem? (i := 93) (by decide +kernel))) rfl
theorem zmp0_94 : Cond.selects "PretendDeskModel" (⟨"PretendDeskModel", "endOf", "(I)I"⟩ : MethodName) (⟨"PretendDeskModel", "endOf", "(I)I"⟩ : MethodName) ∈ zTb := zTb_in (zT0 (List.mem_of_getElem? (i := 94) (by decide +kernel))) rfl
theorem zmp0_95 : Cond.selects "PretendDeskModel" (⟨"PretendDeskModel", "does", "(II)I"⟩ : MethodName) (⟨"PretendDeskModel", "does", "(II)I"⟩ : MethodName) ∈ zTb := zTb_in (zT0 (List.mem_of_getElem? (i := 95) (by decide +kernel))) rfl
theorem zmp0_96 : Cond.selects "PretendDeskModel" (⟨"PretendDeskModel", "takenWith", "(III)I"⟩ : MethodName) (⟨"PretendDeskModel", "takenWith", "(III)I"⟩ : MethodName) ∈ zTb := zTb_in (zT0 (List.mem_of_getElem? (i := 96) (by decide +kernel))) rfl
theorem zmp0_97 : Cond.selects "PretendDeskModel" (⟨"PretendDeskModel", "wordAt", "(II)I"⟩ : MethodName) (⟨"PretendDeskModel", "wordAt", "(II)I"⟩ : MethodName) ∈ zTb := zTb_in (zT0 (List.mem_of_getElem? (i := 97) (by decide +kernel))) rfl
theorem zmp0_98 : Cond.selects "PretendDeskModel" (⟨"PretendDeskModel", "isSaid", "(III)Z"⟩ : MethodName) (⟨"PretendDeskModel", "isSaid", "(III)Z"⟩ : MethodName) ∈ zTb := zTb_in (zT0 (List.mem_of_getElem? (i := 98) (by decide +kernel))) rfl
theorem zmp0_99 : Cond.selects "PretendDeskModel" (⟨"PretendDeskModel", "sentences", "(I)I"⟩ : MethodName) (⟨"PretendDeskModel", "sentences", "(I)I"⟩ : MethodName) ∈ zTb := zTb_in (zT0 (List.mem_of_getElem? (i := 99) (by decide +kernel))) rfl
theorem zmp0_100 : Cond.selects "PretendDeskModel" (⟨"PretendDeskModel", "firstOf", "(I)I"⟩ : MethodName) (⟨"PretendDeskModel", "firstOf", "(I)I"⟩ : MethodName) ∈ zTb := zTb_in (zT0 (List.mem_of_getElem? (i := 100) (by decide +kernel))) rfl
theorem zmp0_101 : Cond.selects "PretendDeskModel" (⟨"PretendDeskModel", "unlikeOf", "(II)I"⟩ : MethodName) (⟨"PretendDeskModel", "unlikeOf", "(II)I"⟩ : MethodName) ∈ zTb := zTb_in (zT0 (List.mem_of_getElem? (i := 101) (by decide +kernel))) rfl
theorem zmt1_1 : Cond.initialized "PretendDesk" ∈ zTb := zTb_in (zT1 (List.mem_of_getElem? (i := 1) (by decide +kernel))) rfl
theorem zmt1_2 : Cond.initialized "PretendDesk$Told" ∈ zTb := zTb_in (zT1 (List.mem_of_getElem? (i := 2) (by decide +kernel))) rfl
theorem zmt1_3 : Cond.initialized "PretendDesk$Tape" ∈ zTb := zTb_in (zT1 (List.mem_of_getElem? (i := 3) (by decide +kernel))) rfl
theorem zmt1_4 : Cond.initialized "java/lang/AbstractStringBuilder" ∈ zTb := zTb_in (zT1 (List.mem_of_getElem? (i := 4) (by decide +kernel))) rfl
theorem zmt1_5 : Cond.initialized "java/lang/StringBuilder" ∈ zTb := zTb_in (zT1 (List.mem_of_getElem? (i := 5) (by decide +kernel))) rfl
theorem zmt1_6 : Cond.initialized "java/lang/String" ∈ zTb := zTb_in (zT1 (List.mem_of_getElem? (i := 6) (by decide +kernel))) rfl
theorem zmt1_8 : Cond.initialized "PretendDesk$Speech" ∈ zTb := zTb_in (zT1 (List.mem_of_getElem? (i := 8) (by decide +kernel))) rfl
theorem zmt1_9 : Cond.initialized "PretendDesk$House" ∈ zTb := zTb_in (zT1 (List.mem_of_getElem? (i := 9) (by decide +kernel))) rfl
theorem zmt1_10 : Cond.initialized "PretendDesk$Page" ∈ zTb := zTb_in (zT1 (List.mem_of_getElem? (i := 10) (by decide +kernel))) rfl
theorem zmt1_11 : Cond.initialized "PretendDesk$Came" ∈ zTb := zTb_in (zT1 (List.mem_of_getElem? (i := 11) (by decide +kernel))) rfl
theorem zmt1_12 : Cond.initialized "PretendDesk$Room" ∈ zTb := zTb_in (zT1 (List.mem_of_getElem? (i := 12) (by decide +kernel))) rfl
theorem zmt1_13 : Cond.initialized "PretendDesk$Opened" ∈ zTb := zTb_in (zT1 (List.mem_of_getElem? (i := 13) (by decide +kernel))) rfl
theorem zmt1_14 : Cond.initialized "PretendDesk$Forger" ∈ zTb := zTb_in (zT1 (List.mem_of_getElem? (i := 14) (by decide +kernel))) rfl
theorem zmt1_15 : Cond.initialized "PretendDesk$Best" ∈ zTb := zTb_in (zT1 (List.mem_of_getElem? (i := 15) (by decide +kernel))) rfl
theorem zmt1_16 : Cond.initialized "PretendDesk$Runner" ∈ zTb := zTb_in (zT1 (List.mem_of_getElem? (i := 16) (by decide +kernel))) rfl
theorem zmt1_17 : Cond.initialized "PretendDeskModel" ∈ zTb := zTb_in (zT1 (List.mem_of_getElem? (i := 17) (by decide +kernel))) rfl
theorem zmt1_19 : Cond.initialized "java/lang/Math" ∈ zTb := zTb_in (zT1 (List.mem_of_getElem? (i := 19) (by decide +kernel))) rfl
theorem zmt1_20 : Cond.initialized "java/util/Arrays" ∈ zTb := zTb_in (zT1 (List.mem_of_getElem? (i := 20) (by decide +kernel))) rfl
theorem zmt1_21 : Cond.initialized "java/lang/System" ∈ zTb := zTb_in (zT1 (List.mem_of_getElem? (i := 21) (by decide +kernel))) rfl
theorem zmt1_22 : Cond.initialized "java/lang/StringLatin1" ∈ zTb := zTb_in (zT1 (List.mem_of_getElem? (i := 22) (by decide +kernel))) rfl
theorem zmt1_23 : Cond.initialized "jdk/internal/util/Preconditions" ∈ zTb := zTb_in (zT1 (List.mem_of_getElem? (i := 23) (by decide +kernel))) rfl
theorem zmt1_24 : Cond.initialized "java/lang/Integer" ∈ zTb := zTb_in (zT1 (List.mem_of_getElem? (i := 24) (by decide +kernel))) rfl
theorem zmt1_30 : Cond.methodLink "PretendDesk" 3 (⟨"java/lang/Object", "<init>", "()V"⟩ : MethodName) ∈ zTb := zTb_in (zT1 (List.mem_of_getElem? (i := 30) (by decide +kernel))) rfl
theorem zmt1_31 : Cond.instanceMethod (⟨"java/lang/Object", "<init>", "()V"⟩ : MethodName) ∈ zTb := zTb_in (zT1 (List.mem_of_getElem? (i := 31) (by decide +kernel))) rfl
theorem zmt1_32 : Cond.code (⟨"java/lang/Object", "<init>", "()V"⟩ : MethodName) object_method_1_code 1 none ∈ zTb := zTb_in (zT1 (List.mem_of_getElem? (i := 32) (by decide +kernel))) rfl
theorem zmt1_33 : Cond.classLink "PretendDesk" 9 "PretendDesk$Told" ∈ zTb := zTb_in (zT1 (List.mem_of_getElem? (i := 33) (by decide +kernel))) rfl
theorem zmt1_34 : Cond.instantiable "PretendDesk$Told" 17 ∈ zTb := zTb_in (zT1 (List.mem_of_getElem? (i := 34) (by decide +kernel))) rfl
theorem zmt1_35 : Cond.methodLink "PretendDesk" 11 (⟨"PretendDesk$Told", "<init>", "()V"⟩ : MethodName) ∈ zTb := zTb_in (zT1 (List.mem_of_getElem? (i := 35) (by decide +kernel))) rfl
theorem zmt1_36 : Cond.instanceMethod (⟨"PretendDesk$Told", "<init>", "()V"⟩ : MethodName) ∈ zTb := zTb_in (zT1 (List.mem_of_getElem? (i := 36) (by decide +kernel))) rfl
theorem zmt1_37 : Cond.code (⟨"PretendDesk$Told", "<init>", "()V"⟩ : MethodName) prog_12_method_1_code 2 none ∈ zTb := zTb_in (zT1 (List.mem_of_getElem? (i := 37) (by decide +kernel))) rfl
theorem zmt1_38 : Cond.methodLink "PretendDesk$Told" 3 (⟨"java/lang/Object", "<init>", "()V"⟩ : MethodName) ∈ zTb := zTb_in (zT1 (List.mem_of_getElem? (i := 38) (by decide +kernel))) rfl
theorem zmt1_39 : Cond.classLink "PretendDesk$Told" 9 "PretendDesk$Tape" ∈ zTb := zTb_in (zT1 (List.mem_of_getElem? (i := 39) (by decide +kernel))) rfl
theorem zmt1_40 : Cond.instantiable "PretendDesk$Tape" 11 ∈ zTb := zTb_in (zT1 (List.mem_of_getElem? (i := 40) (by decide +kernel))) rfl
theorem zmt1_42 : Cond.instanceMethod (⟨"PretendDesk$Tape", "<init>", "()V"⟩ : MethodName) ∈ zTb := zTb_in (zT1 (List.mem_of_getElem? (i := 42) (by decide +kernel))) rfl
theorem zmt1_43 : Cond.code (⟨"PretendDesk$Tape", "<init>", "()V"⟩ : MethodName) prog_11_method_1_code 1 none ∈ zTb := zTb_in (zT1 (List.mem_of_getElem? (i := 43) (by decide +kernel))) rfl
theorem zmt1_44 : Cond.methodLink "PretendDesk$Tape" 5 (⟨"java/lang/Object", "<init>", "()V"⟩ : MethodName) ∈ zTb := zTb_in (zT1 (List.mem_of_getElem? (i := 44) (by decide +kernel))) rfl
theorem zmt1_45 : Cond.classLink "PretendDesk$Tape" 23 "java/lang/StringBuilder" ∈ zTb := zTb_in (zT1 (List.mem_of_getElem? (i := 45) (by decide +kernel))) rfl
theorem zmt1_46 : Cond.instantiable "java/lang/StringBuilder" 4 ∈ zTb := zTb_in (zT1 (List.mem_of_getElem? (i := 46) (by decide +kernel))) rfl
theorem zmt1_47 : Cond.methodLink "PretendDesk$Tape" 25 (⟨"java/lang/StringBuilder", "<init>", "()V"⟩ : MethodName) ∈ zTb := zTb_in (zT1 (List.mem_of_getElem? (i := 47) (by decide +kernel))) rfl
theorem zmt1_48 : Cond.instanceMethod (⟨"java/lang/StringBuilder", "<init>", "()V"⟩ : MethodName) ∈ zTb := zTb_in (zT1 (List.mem_of_getElem? (i := 48) (by decide +kernel))) rfl
theorem zmt1_49 : Cond.code (⟨"java/lang/StringBuilder", "<init>", "()V"⟩ : MethodName) prog_20_method_1_code 1 none ∈ zTb := zTb_in (zT1 (List.mem_of_getElem? (i := 49) (by decide +kernel))) rfl
theorem zmt1_50 : Cond.methodLink "java/lang/StringBuilder" 1 (⟨"java/lang/AbstractStringBuilder", "<init>", "(I)V"⟩ : MethodName) ∈ zTb := zTb_in (zT1 (List.mem_of_getElem? (i := 50) (by decide +kernel))) rfl
theorem zmt1_51 : Cond.instanceMethod (⟨"java/lang/AbstractStringBuilder", "<init>", "(I)V"⟩ : MethodName) ∈ zTb := zTb_in (zT1 (List.mem_of_getElem? (i := 51) (by decide +kernel))) rfl
theorem zmt1_52 : Cond.code (⟨"java/lang/AbstractStringBuilder", "<init>", "(I)V"⟩ : MethodName) prog_15_method_2_code 2 none ∈ zTb := zTb_in (zT1 (List.mem_of_getElem? (i := 52) (by decide +kernel))) rfl
theorem zmt1_53 : Cond.methodLink "java/lang/AbstractStringBuilder" 3 (⟨"java/lang/Object", "<init>", "()V"⟩ : MethodName) ∈ zTb := zTb_in (zT1 (List.mem_of_getElem? (i := 53) (by decide +kernel))) rfl
theorem zmt1_54 : Cond.fieldLink "java/lang/AbstractStringBuilder" 18 "java/lang/String" "COMPACT_STRINGS" "Z" ∈ zTb := zTb_in (zT1 (List.mem_of_getElem? (i := 54) (by decide +kernel))) rfl
theorem zmt1_63 : Cond.fieldLink "java/lang/AbstractStringBuilder" 15 "java/lang/AbstractStringBuilder" "value" "[B" ∈ zTb := zTb_in (zT1 (List.mem_of_getElem? (i := 63) (by decide +kernel))) rfl
theorem zmt1_64 : Cond.fieldLink "java/lang/AbstractStringBuilder" 22 "java/lang/AbstractStringBuilder" "coder" "B" ∈ zTb := zTb_in (zT1 (List.mem_of_getElem? (i := 64) (by decide +kernel))) rfl
theorem zmt1_65 : Cond.fieldLink "java/lang/AbstractStringBuilder" 73 "java/lang/AbstractStringBuilder" "maybeLatin1" "Z" ∈ zTb := zTb_in (zT1 (List.mem_of_getElem? (i := 65) (by decide +kernel))) rfl
theorem zmt1_67 : Cond.fieldLink "java/lang/AbstractStringBuilder" 79 "java/lang/AbstractStringBuilder" "count" "I" ∈ zTb := zTb_in (zT1 (List.mem_of_getElem? (i := 67) (by decide +kernel))) rfl
theorem zmt1_68 : Cond.lays "java/lang/StringBuilder" "java/lang/AbstractStringBuilder" "value" "[B" ∈ zTb := zTb_in (zT1 (List.mem_of_getElem? (i := 68) (by decide +kernel))) rfl
theorem zmt1_70 : Cond.lays "java/lang/StringBuilder" "java/lang/AbstractStringBuilder" "coder" "B" ∈ zTb := zTb_in (zT1 (List.mem_of_getElem? (i := 70) (by decide +kernel))) rfl
theorem zmt1_72 : Cond.lays "java/lang/StringBuilder" "java/lang/AbstractStringBuilder" "maybeLatin1" "Z" ∈ zTb := zTb_in (zT1 (List.mem_of_getElem? (i := 72) (by decide +kernel))) rfl
theorem zmt1_74 : Cond.lays "java/lang/StringBuilder" "java/lang/AbstractStringBuilder" "count" "I" ∈ zTb := zTb_in (zT1 (List.mem_of_getElem? (i := 74) (by decide +kernel))) rfl
theorem zmt1_76 : Cond.superclass "java/lang/StringBuilder" "java/lang/AbstractStringBuilder" ∈ zTb := zTb_in (zT1 (List.mem_of_getElem? (i := 76) (by decide +kernel))) rfl
theorem zmt1_77 : Cond.arrayClass .char ∈ zTb := zTb_in (zT1 (List.mem_of_getElem? (i := 77) (by decide +kernel))) rfl
theorem zmt1_78 : Cond.arrayClass .int ∈ zTb := zTb_in (zT1 (List.mem_of_getElem? (i := 78) (by decide +kernel))) rfl
theorem zmt1_79 : Cond.arrayClass .byte ∈ zTb := zTb_in (zT1 (List.mem_of_getElem? (i := 79) (by decide +kernel))) rfl
theorem zmt1_80 : Cond.fieldLink "PretendDesk$Tape" 11 "PretendDesk$Tape" "bytes" "[C" ∈ zTb := zTb_in (zT1 (List.mem_of_getElem? (i := 80) (by decide +kernel))) rfl
theorem zmt1_81 : Cond.fieldLink "PretendDesk" 399 "PretendDesk$Tape" "bytes" "[C" ∈ zTb := zTb_in (zT1 (List.mem_of_getElem? (i := 81) (by decide +kernel))) rfl
theorem zmt1_82 : Cond.fieldLink "PretendDesk" 73 "PretendDesk$Tape" "length" "I" ∈ zTb := zTb_in (zT1 (List.mem_of_getElem? (i := 82) (by decide +kernel))) rfl
theorem zmt1_83 : Cond.fieldLink "PretendDesk$Tape" 36 "PretendDesk$Tape" "length" "I" ∈ zTb := zTb_in (zT1 (List.mem_of_getElem? (i := 83) (by decide +kernel))) rfl
theorem zmt1_84 : Cond.fieldLink "PretendDesk$Tape" 39 "PretendDesk$Tape" "fault" "I" ∈ zTb := zTb_in (zT1 (List.mem_of_getElem? (i := 84) (by decide +kernel))) rfl
theorem zmt1_85 : Cond.fieldLink "PretendDesk" 142 "PretendDesk$Tape" "fault" "I" ∈ zTb := zTb_in (zT1 (List.mem_of_getElem? (i := 85) (by decide +kernel))) rfl
theorem zmt1_86 : Cond.fieldLink "PretendDesk$Tape" 15 "PretendDesk$Tape" "faultPlace" "I" ∈ zTb := zTb_in (zT1 (List.mem_of_getElem? (i := 86) (by decide +kernel))) rfl
theorem zmt1_87 : Cond.fieldLink "PretendDesk" 145 "PretendDesk$Tape" "faultPlace" "I" ∈ zTb := zTb_in (zT1 (List.mem_of_getElem? (i := 87) (by decide +kernel))) rfl
theorem zmt1_88 : Cond.fieldLink "PretendDesk$Tape" 42 "PretendDesk$Tape" "taken" "I" ∈ zTb := zTb_in (zT1 (List.mem_of_getElem? (i := 88) (by decide +kernel))) rfl
theorem zmt1_89 : Cond.fieldLink "PretendDesk" 403 "PretendDesk$Tape" "taken" "I" ∈ zTb := zTb_in (zT1 (List.mem_of_getElem? (i := 89) (by decide +kernel))) rfl
theorem zmt1_90 : Cond.fieldLink "PretendDesk$Tape" 19 "PretendDesk$Tape" "inside" "[I" ∈ zTb := zTb_in (zT1 (List.mem_of_getElem? (i := 90) (by decide +kernel))) rfl
theorem zmt1_91 : Cond.fieldLink "PretendDesk$Tape" 26 "PretendDesk$Tape" "builder" "Ljava/lang/StringBuilder;" ∈ zTb := zTb_in (zT1 (List.mem_of_getElem? (i := 91) (by decide +kernel))) rfl
theorem zmt1_92 : Cond.fieldLink "PretendDesk$Tape" 77 "PretendDesk$Tape" "at" "I" ∈ zTb := zTb_in (zT1 (List.mem_of_getElem? (i := 92) (by decide +kernel))) rfl
theorem zmt1_93 : Cond.fieldLink "PretendDesk$Tape" 92 "PretendDesk$Tape" "token" "I" ∈ zTb := zTb_in (zT1 (List.mem_of_getElem? (i := 93) (by decide +kernel))) rfl
theorem zmt1_94 : Cond.fieldLink "PretendDesk$Tape" 98 "PretendDesk$Tape" "place" "I" ∈ zTb := zTb_in (zT1 (List.mem_of_getElem? (i := 94) (by decide +kernel))) rfl
theorem zmt1_95 : Cond.fieldLink "PretendDesk$Tape" 132 "PretendDesk$Tape" "number" "I" ∈ zTb := zTb_in (zT1 (List.mem_of_getElem? (i := 95) (by decide +kernel))) rfl
theorem zmt1_96 : Cond.laysFinal "PretendDesk$Tape" "PretendDesk$Tape" "bytes" "[C" ∈ zTb := zTb_in (zT1 (List.mem_of_getElem? (i := 96) (by decide +kernel))) rfl
theorem zmt1_98 : Cond.lays "PretendDesk$Tape" "PretendDesk$Tape" "length" "I" ∈ zTb := zTb_in (zT1 (List.mem_of_getElem? (i := 98) (by decide +kernel))) rfl
theorem zmt1_100 : Cond.lays "PretendDesk$Tape" "PretendDesk$Tape" "fault" "I" ∈ zTb := zTb_in (zT1 (List.mem_of_getElem? (i := 100) (by decide +kernel))) rfl
theorem zmt1_102 : Cond.lays "PretendDesk$Tape" "PretendDesk$Tape" "faultPlace" "I" ∈ zTb := zTb_in (zT1 (List.mem_of_getElem? (i := 102) (by decide +kernel))) rfl
theorem zmt1_104 : Cond.lays "PretendDesk$Tape" "PretendDesk$Tape" "taken" "I" ∈ zTb := zTb_in (zT1 (List.mem_of_getElem? (i := 104) (by decide +kernel))) rfl
theorem zmt1_106 : Cond.laysFinal "PretendDesk$Tape" "PretendDesk$Tape" "inside" "[I" ∈ zTb := zTb_in (zT1 (List.mem_of_getElem? (i := 106) (by decide +kernel))) rfl
theorem zmt1_108 : Cond.laysFinal "PretendDesk$Tape" "PretendDesk$Tape" "builder" "Ljava/lang/StringBuilder;" ∈ zTb := zTb_in (zT1 (List.mem_of_getElem? (i := 108) (by decide +kernel))) rfl
theorem zmt1_110 : Cond.lays "PretendDesk$Tape" "PretendDesk$Tape" "at" "I" ∈ zTb := zTb_in (zT1 (List.mem_of_getElem? (i := 110) (by decide +kernel))) rfl
theorem zmt1_112 : Cond.lays "PretendDesk$Tape" "PretendDesk$Tape" "token" "I" ∈ zTb := zTb_in (zT1 (List.mem_of_getElem? (i := 112) (by decide +kernel))) rfl
theorem zmt1_114 : Cond.lays "PretendDesk$Tape" "PretendDesk$Tape" "place" "I" ∈ zTb := zTb_in (zT1 (List.mem_of_getElem? (i := 114) (by decide +kernel))) rfl
theorem zmt1_116 : Cond.lays "PretendDesk$Tape" "PretendDesk$Tape" "number" "I" ∈ zTb := zTb_in (zT1 (List.mem_of_getElem? (i := 116) (by decide +kernel))) rfl
theorem zmt1_119 : Cond.classLink "PretendDesk$Told" 18 "PretendDesk$House" ∈ zTb := zTb_in (zT1 (List.mem_of_getElem? (i := 119) (by decide +kernel))) rfl
theorem zmt1_121 : Cond.classLink "PretendDesk$Told" 24 "PretendDesk$Came" ∈ zTb := zTb_in (zT1 (List.mem_of_getElem? (i := 121) (by decide +kernel))) rfl
theorem zmt1_123 : Cond.classLink "PretendDesk$Told" 30 "PretendDesk$Speech" ∈ zTb := zTb_in (zT1 (List.mem_of_getElem? (i := 123) (by decide +kernel))) rfl
theorem zmt1_124 : Cond.instantiable "PretendDesk$Speech" 9 ∈ zTb := zTb_in (zT1 (List.mem_of_getElem? (i := 124) (by decide +kernel))) rfl
theorem zmt1_126 : Cond.instanceMethod (⟨"PretendDesk$Speech", "<init>", "()V"⟩ : MethodName) ∈ zTb := zTb_in (zT1 (List.mem_of_getElem? (i := 126) (by decide +kernel))) rfl
theorem zmt1_127 : Cond.code (⟨"PretendDesk$Speech", "<init>", "()V"⟩ : MethodName) prog_10_method_1_code 1 none ∈ zTb := zTb_in (zT1 (List.mem_of_getElem? (i := 127) (by decide +kernel))) rfl
theorem zmt1_128 : Cond.methodLink "PretendDesk$Speech" 3 (⟨"java/lang/Object", "<init>", "()V"⟩ : MethodName) ∈ zTb := zTb_in (zT1 (List.mem_of_getElem? (i := 128) (by decide +kernel))) rfl
theorem zmt1_129 : Cond.fieldLink "PretendDesk$Speech" 9 "PretendDesk$Speech" "word" "[C" ∈ zTb := zTb_in (zT1 (List.mem_of_getElem? (i := 129) (by decide +kernel))) rfl
theorem zmt1_130 : Cond.fieldLink "PretendDesk$Speech" 15 "PretendDesk$Speech" "wordLength" "[I" ∈ zTb := zTb_in (zT1 (List.mem_of_getElem? (i := 130) (by decide +kernel))) rfl
theorem zmt1_131 : Cond.fieldLink "PretendDesk$Speech" 19 "PretendDesk$Speech" "wordMeaning" "[I" ∈ zTb := zTb_in (zT1 (List.mem_of_getElem? (i := 131) (by decide +kernel))) rfl
theorem zmt1_132 : Cond.fieldLink "PretendDesk$Speech" 22 "PretendDesk$Speech" "patternMeanings" "[I" ∈ zTb := zTb_in (zT1 (List.mem_of_getElem? (i := 132) (by decide +kernel))) rfl
theorem zmt1_133 : Cond.fieldLink "PretendDesk" 432 "PretendDesk$Speech" "patternMeanings" "[I" ∈ zTb := zTb_in (zT1 (List.mem_of_getElem? (i := 133) (by decide +kernel))) rfl
theorem zmt1_134 : Cond.fieldLink "PretendDesk$Speech" 25 "PretendDesk$Speech" "patternWeight" "[I" ∈ zTb := zTb_in (zT1 (List.mem_of_getElem? (i := 134) (by decide +kernel))) rfl
theorem zmt1_135 : Cond.fieldLink "PretendDesk" 435 "PretendDesk$Speech" "patternWeight" "[I" ∈ zTb := zTb_in (zT1 (List.mem_of_getElem? (i := 135) (by decide +kernel))) rfl
theorem zmt1_136 : Cond.fieldLink "PretendDesk$Speech" 28 "PretendDesk$Speech" "letter" "[C" ∈ zTb := zTb_in (zT1 (List.mem_of_getElem? (i := 136) (by decide +kernel))) rfl
theorem zmt1_137 : Cond.fieldLink "PretendDesk$Speech" 31 "PretendDesk$Speech" "words" "I" ∈ zTb := zTb_in (zT1 (List.mem_of_getElem? (i := 137) (by decide +kernel))) rfl
theorem zmt1_138 : Cond.fieldLink "PretendDesk" 452 "PretendDesk$Speech" "words" "I" ∈ zTb := zTb_in (zT1 (List.mem_of_getElem? (i := 138) (by decide +kernel))) rfl
theorem zmt1_139 : Cond.fieldLink "PretendDesk$Speech" 51 "PretendDesk$Speech" "patterns" "I" ∈ zTb := zTb_in (zT1 (List.mem_of_getElem? (i := 139) (by decide +kernel))) rfl
theorem zmt1_140 : Cond.fieldLink "PretendDesk" 426 "PretendDesk$Speech" "patterns" "I" ∈ zTb := zTb_in (zT1 (List.mem_of_getElem? (i := 140) (by decide +kernel))) rfl
theorem zmt1_141 : Cond.fieldLink "PretendDesk$Speech" 57 "PretendDesk$Speech" "length" "I" ∈ zTb := zTb_in (zT1 (List.mem_of_getElem? (i := 141) (by decide +kernel))) rfl
theorem zmt1_142 : Cond.laysFinal "PretendDesk$Speech" "PretendDesk$Speech" "word" "[C" ∈ zTb := zTb_in (zT1 (List.mem_of_getElem? (i := 142) (by decide +kernel))) rfl
theorem zmt1_144 : Cond.laysFinal "PretendDesk$Speech" "PretendDesk$Speech" "wordLength" "[I" ∈ zTb := zTb_in (zT1 (List.mem_of_getElem? (i := 144) (by decide +kernel))) rfl
theorem zmt1_146 : Cond.laysFinal "PretendDesk$Speech" "PretendDesk$Speech" "wordMeaning" "[I" ∈ zTb := zTb_in (zT1 (List.mem_of_getElem? (i := 146) (by decide +kernel))) rfl
theorem zmt1_148 : Cond.laysFinal "PretendDesk$Speech" "PretendDesk$Speech" "patternMeanings" "[I" ∈ zTb := zTb_in (zT1 (List.mem_of_getElem? (i := 148) (by decide +kernel))) rfl
theorem zmt1_150 : Cond.laysFinal "PretendDesk$Speech" "PretendDesk$Speech" "patternWeight" "[I" ∈ zTb := zTb_in (zT1 (List.mem_of_getElem? (i := 150) (by decide +kernel))) rfl
theorem zmt1_152 : Cond.laysFinal "PretendDesk$Speech" "PretendDesk$Speech" "letter" "[C" ∈ zTb := zTb_in (zT1 (List.mem_of_getElem? (i := 152) (by decide +kernel))) rfl
theorem zmt1_154 : Cond.lays "PretendDesk$Speech" "PretendDesk$Speech" "words" "I" ∈ zTb := zTb_in (zT1 (List.mem_of_getElem? (i := 154) (by decide +kernel))) rfl
theorem zmt1_156 : Cond.lays "PretendDesk$Speech" "PretendDesk$Speech" "patterns" "I" ∈ zTb := zTb_in (zT1 (List.mem_of_getElem? (i := 156) (by decide +kernel))) rfl
theorem zmt1_158 : Cond.lays "PretendDesk$Speech" "PretendDesk$Speech" "length" "I" ∈ zTb := zTb_in (zT1 (List.mem_of_getElem? (i := 158) (by decide +kernel))) rfl
theorem zmt1_161 : Cond.instantiable "PretendDesk$House" 4 ∈ zTb := zTb_in (zT1 (List.mem_of_getElem? (i := 161) (by decide +kernel))) rfl
theorem zmt1_162 : Cond.methodLink "PretendDesk$Told" 70 (⟨"PretendDesk$House", "<init>", "()V"⟩ : MethodName) ∈ zTb := zTb_in (zT1 (List.mem_of_getElem? (i := 162) (by decide +kernel))) rfl
theorem zmt1_163 : Cond.instanceMethod (⟨"PretendDesk$House", "<init>", "()V"⟩ : MethodName) ∈ zTb := zTb_in (zT1 (List.mem_of_getElem? (i := 163) (by decide +kernel))) rfl
theorem zmt1_164 : Cond.code (⟨"PretendDesk$House", "<init>", "()V"⟩ : MethodName) prog_5_method_1_code 2 none ∈ zTb := zTb_in (zT1 (List.mem_of_getElem? (i := 164) (by decide +kernel))) rfl
theorem zmt1_165 : Cond.methodLink "PretendDesk$House" 3 (⟨"java/lang/Object", "<init>", "()V"⟩ : MethodName) ∈ zTb := zTb_in (zT1 (List.mem_of_getElem? (i := 165) (by decide +kernel))) rfl
theorem zmt1_166 : Cond.classLink "PretendDesk$House" 9 "PretendDesk$Page" ∈ zTb := zTb_in (zT1 (List.mem_of_getElem? (i := 166) (by decide +kernel))) rfl
theorem zmt1_168 : Cond.instantiable "PretendDesk$Page" 2 ∈ zTb := zTb_in (zT1 (List.mem_of_getElem? (i := 168) (by decide +kernel))) rfl
theorem zmt1_170 : Cond.instanceMethod (⟨"PretendDesk$Page", "<init>", "()V"⟩ : MethodName) ∈ zTb := zTb_in (zT1 (List.mem_of_getElem? (i := 170) (by decide +kernel))) rfl
theorem zmt1_171 : Cond.code (⟨"PretendDesk$Page", "<init>", "()V"⟩ : MethodName) prog_7_method_1_code 1 none ∈ zTb := zTb_in (zT1 (List.mem_of_getElem? (i := 171) (by decide +kernel))) rfl
theorem zmt1_172 : Cond.methodLink "PretendDesk$Page" 3 (⟨"java/lang/Object", "<init>", "()V"⟩ : MethodName) ∈ zTb := zTb_in (zT1 (List.mem_of_getElem? (i := 172) (by decide +kernel))) rfl
theorem zmt1_173 : Cond.fieldLink "PretendDesk$Page" 11 "PretendDesk$Page" "row" "[I" ∈ zTb := zTb_in (zT1 (List.mem_of_getElem? (i := 173) (by decide +kernel))) rfl
theorem zmt1_174 : Cond.fieldLink "PretendDesk$Opened" 31 "PretendDesk$Page" "count" "I" ∈ zTb := zTb_in (zT1 (List.mem_of_getElem? (i := 174) (by decide +kernel))) rfl
theorem zmt1_175 : Cond.fieldLink "PretendDesk$Page" 15 "PretendDesk$Page" "count" "I" ∈ zTb := zTb_in (zT1 (List.mem_of_getElem? (i := 175) (by decide +kernel))) rfl
theorem zmt1_176 : Cond.fieldLink "PretendDesk$Tape" 83 "PretendDesk$Page" "count" "I" ∈ zTb := zTb_in (zT1 (List.mem_of_getElem? (i := 176) (by decide +kernel))) rfl
theorem zmt1_177 : Cond.fieldLink "PretendDesk" 220 "PretendDesk$Page" "count" "I" ∈ zTb := zTb_in (zT1 (List.mem_of_getElem? (i := 177) (by decide +kernel))) rfl
theorem zmt1_178 : Cond.laysFinal "PretendDesk$Page" "PretendDesk$Page" "row" "[I" ∈ zTb := zTb_in (zT1 (List.mem_of_getElem? (i := 178) (by decide +kernel))) rfl
theorem zmt1_180 : Cond.lays "PretendDesk$Page" "PretendDesk$Page" "count" "I" ∈ zTb := zTb_in (zT1 (List.mem_of_getElem? (i := 180) (by decide +kernel))) rfl
theorem zmt1_183 : Cond.arrayClass .boolean ∈ zTb := zTb_in (zT1 (List.mem_of_getElem? (i := 183) (by decide +kernel))) rfl
theorem zmt1_184 : Cond.fieldLink "PretendDesk$House" 11 "PretendDesk$House" "page" "[LPretendDesk$Page;" ∈ zTb := zTb_in (zT1 (List.mem_of_getElem? (i := 184) (by decide +kernel))) rfl
theorem zmt1_185 : Cond.fieldLink "PretendDesk$Room" 71 "PretendDesk$House" "page" "[LPretendDesk$Page;" ∈ zTb := zTb_in (zT1 (List.mem_of_getElem? (i := 185) (by decide +kernel))) rfl
theorem zmt1_186 : Cond.fieldLink "PretendDesk" 128 "PretendDesk$House" "page" "[LPretendDesk$Page;" ∈ zTb := zTb_in (zT1 (List.mem_of_getElem? (i := 186) (by decide +kernel))) rfl
theorem zmt1_187 : Cond.fieldLink "PretendDesk$House" 22 "PretendDesk$House" "name" "Ljava/lang/String;" ∈ zTb := zTb_in (zT1 (List.mem_of_getElem? (i := 187) (by decide +kernel))) rfl
theorem zmt1_188 : Cond.fieldLink "PretendDesk" 101 "PretendDesk$House" "name" "Ljava/lang/String;" ∈ zTb := zTb_in (zT1 (List.mem_of_getElem? (i := 188) (by decide +kernel))) rfl
theorem zmt1_189 : Cond.fieldLink "PretendDesk$Room" 102 "PretendDesk$House" "name" "Ljava/lang/String;" ∈ zTb := zTb_in (zT1 (List.mem_of_getElem? (i := 189) (by decide +kernel))) rfl
theorem zmt1_190 : Cond.fieldLink "PretendDesk$House" 26 "PretendDesk$House" "owned" "I" ∈ zTb := zTb_in (zT1 (List.mem_of_getElem? (i := 190) (by decide +kernel))) rfl
theorem zmt1_191 : Cond.fieldLink "PretendDesk$Room" 66 "PretendDesk$House" "owned" "I" ∈ zTb := zTb_in (zT1 (List.mem_of_getElem? (i := 191) (by decide +kernel))) rfl
theorem zmt1_192 : Cond.fieldLink "PretendDesk" 121 "PretendDesk$House" "owned" "I" ∈ zTb := zTb_in (zT1 (List.mem_of_getElem? (i := 192) (by decide +kernel))) rfl
theorem zmt1_193 : Cond.fieldLink "PretendDesk$House" 30 "PretendDesk$House" "squares" "I" ∈ zTb := zTb_in (zT1 (List.mem_of_getElem? (i := 193) (by decide +kernel))) rfl
theorem zmt1_194 : Cond.fieldLink "PretendDesk" 442 "PretendDesk$House" "squares" "I" ∈ zTb := zTb_in (zT1 (List.mem_of_getElem? (i := 194) (by decide +kernel))) rfl
theorem zmt1_195 : Cond.laysFinal "PretendDesk$House" "PretendDesk$House" "page" "[LPretendDesk$Page;" ∈ zTb := zTb_in (zT1 (List.mem_of_getElem? (i := 195) (by decide +kernel))) rfl
theorem zmt1_197 : Cond.lays "PretendDesk$House" "PretendDesk$House" "name" "Ljava/lang/String;" ∈ zTb := zTb_in (zT1 (List.mem_of_getElem? (i := 197) (by decide +kernel))) rfl
theorem zmt1_199 : Cond.lays "PretendDesk$House" "PretendDesk$House" "owned" "I" ∈ zTb := zTb_in (zT1 (List.mem_of_getElem? (i := 199) (by decide +kernel))) rfl
theorem zmt1_201 : Cond.lays "PretendDesk$House" "PretendDesk$House" "squares" "I" ∈ zTb := zTb_in (zT1 (List.mem_of_getElem? (i := 201) (by decide +kernel))) rfl
theorem zmt1_204 : Cond.instantiable "PretendDesk$Came" 9 ∈ zTb := zTb_in (zT1 (List.mem_of_getElem? (i := 204) (by decide +kernel))) rfl
theorem zmt1_206 : Cond.instanceMethod (⟨"PretendDesk$Came", "<init>", "()V"⟩ : MethodName) ∈ zTb := zTb_in (zT1 (List.mem_of_getElem? (i := 206) (by decide +kernel))) rfl
theorem zmt1_207 : Cond.code (⟨"PretendDesk$Came", "<init>", "()V"⟩ : MethodName) prog_3_method_1_code 1 none ∈ zTb := zTb_in (zT1 (List.mem_of_getElem? (i := 207) (by decide +kernel))) rfl
theorem zmt1_208 : Cond.methodLink "PretendDesk$Came" 3 (⟨"java/lang/Object", "<init>", "()V"⟩ : MethodName) ∈ zTb := zTb_in (zT1 (List.mem_of_getElem? (i := 208) (by decide +kernel))) rfl
theorem zmt1_209 : Cond.classLink "PretendDesk$Came" 9 "PretendDesk$Page" ∈ zTb := zTb_in (zT1 (List.mem_of_getElem? (i := 209) (by decide +kernel))) rfl
theorem zmt1_211 : Cond.fieldLink "PretendDesk$Came" 12 "PretendDesk$Came" "text" "LPretendDesk$Page;" ∈ zTb := zTb_in (zT1 (List.mem_of_getElem? (i := 211) (by decide +kernel))) rfl
theorem zmt1_212 : Cond.fieldLink "PretendDesk$Forger" 114 "PretendDesk$Came" "text" "LPretendDesk$Page;" ∈ zTb := zTb_in (zT1 (List.mem_of_getElem? (i := 212) (by decide +kernel))) rfl
theorem zmt1_213 : Cond.fieldLink "PretendDesk" 139 "PretendDesk$Came" "text" "LPretendDesk$Page;" ∈ zTb := zTb_in (zT1 (List.mem_of_getElem? (i := 213) (by decide +kernel))) rfl
theorem zmt1_214 : Cond.fieldLink "PretendDesk$Came" 18 "PretendDesk$Came" "change" "[I" ∈ zTb := zTb_in (zT1 (List.mem_of_getElem? (i := 214) (by decide +kernel))) rfl
theorem zmt1_215 : Cond.fieldLink "PretendDesk$Forger" 121 "PretendDesk$Came" "change" "[I" ∈ zTb := zTb_in (zT1 (List.mem_of_getElem? (i := 215) (by decide +kernel))) rfl
theorem zmt1_216 : Cond.fieldLink "PretendDesk$Came" 22 "PretendDesk$Came" "line" "[I" ∈ zTb := zTb_in (zT1 (List.mem_of_getElem? (i := 216) (by decide +kernel))) rfl
theorem zmt1_217 : Cond.fieldLink "PretendDesk$Runner" 30 "PretendDesk$Came" "line" "[I" ∈ zTb := zTb_in (zT1 (List.mem_of_getElem? (i := 217) (by decide +kernel))) rfl
theorem zmt1_218 : Cond.fieldLink "PretendDesk$Forger" 52 "PretendDesk$Came" "name" "Ljava/lang/String;" ∈ zTb := zTb_in (zT1 (List.mem_of_getElem? (i := 218) (by decide +kernel))) rfl
theorem zmt1_219 : Cond.fieldLink "PretendDesk$Came" 55 "PretendDesk$Came" "name" "Ljava/lang/String;" ∈ zTb := zTb_in (zT1 (List.mem_of_getElem? (i := 219) (by decide +kernel))) rfl
theorem zmt1_220 : Cond.fieldLink "PretendDesk" 115 "PretendDesk$Came" "name" "Ljava/lang/String;" ∈ zTb := zTb_in (zT1 (List.mem_of_getElem? (i := 220) (by decide +kernel))) rfl
theorem zmt1_221 : Cond.fieldLink "PretendDesk$Came" 25 "PretendDesk$Came" "since" "I" ∈ zTb := zTb_in (zT1 (List.mem_of_getElem? (i := 221) (by decide +kernel))) rfl
theorem zmt1_222 : Cond.fieldLink "PretendDesk" 185 "PretendDesk$Came" "since" "I" ∈ zTb := zTb_in (zT1 (List.mem_of_getElem? (i := 222) (by decide +kernel))) rfl
theorem zmt1_223 : Cond.fieldLink "PretendDesk$Came" 59 "PretendDesk$Came" "pieces" "I" ∈ zTb := zTb_in (zT1 (List.mem_of_getElem? (i := 223) (by decide +kernel))) rfl
theorem zmt1_224 : Cond.fieldLink "PretendDesk" 188 "PretendDesk$Came" "pieces" "I" ∈ zTb := zTb_in (zT1 (List.mem_of_getElem? (i := 224) (by decide +kernel))) rfl
theorem zmt1_225 : Cond.fieldLink "PretendDesk$Came" 62 "PretendDesk$Came" "squares" "I" ∈ zTb := zTb_in (zT1 (List.mem_of_getElem? (i := 225) (by decide +kernel))) rfl
theorem zmt1_226 : Cond.fieldLink "PretendDesk" 439 "PretendDesk$Came" "squares" "I" ∈ zTb := zTb_in (zT1 (List.mem_of_getElem? (i := 226) (by decide +kernel))) rfl
theorem zmt1_227 : Cond.fieldLink "PretendDesk$Forger" 26 "PretendDesk$Came" "changes" "I" ∈ zTb := zTb_in (zT1 (List.mem_of_getElem? (i := 227) (by decide +kernel))) rfl
theorem zmt1_228 : Cond.fieldLink "PretendDesk$Came" 35 "PretendDesk$Came" "changes" "I" ∈ zTb := zTb_in (zT1 (List.mem_of_getElem? (i := 228) (by decide +kernel))) rfl
theorem zmt1_229 : Cond.fieldLink "PretendDesk" 308 "PretendDesk$Came" "changes" "I" ∈ zTb := zTb_in (zT1 (List.mem_of_getElem? (i := 229) (by decide +kernel))) rfl
theorem zmt1_230 : Cond.fieldLink "PretendDesk$Runner" 25 "PretendDesk$Came" "lines" "I" ∈ zTb := zTb_in (zT1 (List.mem_of_getElem? (i := 230) (by decide +kernel))) rfl
theorem zmt1_231 : Cond.fieldLink "PretendDesk$Came" 44 "PretendDesk$Came" "lines" "I" ∈ zTb := zTb_in (zT1 (List.mem_of_getElem? (i := 231) (by decide +kernel))) rfl
theorem zmt1_232 : Cond.laysFinal "PretendDesk$Came" "PretendDesk$Came" "text" "LPretendDesk$Page;" ∈ zTb := zTb_in (zT1 (List.mem_of_getElem? (i := 232) (by decide +kernel))) rfl
theorem zmt1_234 : Cond.laysFinal "PretendDesk$Came" "PretendDesk$Came" "change" "[I" ∈ zTb := zTb_in (zT1 (List.mem_of_getElem? (i := 234) (by decide +kernel))) rfl
theorem zmt1_236 : Cond.laysFinal "PretendDesk$Came" "PretendDesk$Came" "line" "[I" ∈ zTb := zTb_in (zT1 (List.mem_of_getElem? (i := 236) (by decide +kernel))) rfl
theorem zmt1_238 : Cond.lays "PretendDesk$Came" "PretendDesk$Came" "name" "Ljava/lang/String;" ∈ zTb := zTb_in (zT1 (List.mem_of_getElem? (i := 238) (by decide +kernel))) rfl
theorem zmt2_0 : Cond.lays "PretendDesk$Came" "PretendDesk$Came" "since" "I" ∈ zTb := zTb_in (zT2 (List.mem_of_getElem? (i := 0) (by decide +kernel))) rfl
theorem zmt2_2 : Cond.lays "PretendDesk$Came" "PretendDesk$Came" "pieces" "I" ∈ zTb := zTb_in (zT2 (List.mem_of_getElem? (i := 2) (by decide +kernel))) rfl
theorem zmt2_4 : Cond.lays "PretendDesk$Came" "PretendDesk$Came" "squares" "I" ∈ zTb := zTb_in (zT2 (List.mem_of_getElem? (i := 4) (by decide +kernel))) rfl
theorem zmt2_6 : Cond.lays "PretendDesk$Came" "PretendDesk$Came" "changes" "I" ∈ zTb := zTb_in (zT2 (List.mem_of_getElem? (i := 6) (by decide +kernel))) rfl
theorem zmt2_8 : Cond.lays "PretendDesk$Came" "PretendDesk$Came" "lines" "I" ∈ zTb := zTb_in (zT2 (List.mem_of_getElem? (i := 8) (by decide +kernel))) rfl
theorem zmt2_11 : Cond.fieldLink "PretendDesk$Told" 12 "PretendDesk$Told" "tape" "LPretendDesk$Tape;" ∈ zTb := zTb_in (zT2 (List.mem_of_getElem? (i := 11) (by decide +kernel))) rfl
theorem zmt2_12 : Cond.fieldLink "PretendDesk" 69 "PretendDesk$Told" "tape" "LPretendDesk$Tape;" ∈ zTb := zTb_in (zT2 (List.mem_of_getElem? (i := 12) (by decide +kernel))) rfl
theorem zmt2_13 : Cond.fieldLink "PretendDesk$Told" 20 "PretendDesk$Told" "house" "[LPretendDesk$House;" ∈ zTb := zTb_in (zT2 (List.mem_of_getElem? (i := 13) (by decide +kernel))) rfl
theorem zmt2_14 : Cond.fieldLink "PretendDesk" 93 "PretendDesk$Told" "house" "[LPretendDesk$House;" ∈ zTb := zTb_in (zT2 (List.mem_of_getElem? (i := 14) (by decide +kernel))) rfl
theorem zmt2_15 : Cond.fieldLink "PretendDesk$Room" 98 "PretendDesk$Told" "house" "[LPretendDesk$House;" ∈ zTb := zTb_in (zT2 (List.mem_of_getElem? (i := 15) (by decide +kernel))) rfl
theorem zmt2_16 : Cond.fieldLink "PretendDesk$Told" 26 "PretendDesk$Told" "came" "[LPretendDesk$Came;" ∈ zTb := zTb_in (zT2 (List.mem_of_getElem? (i := 16) (by decide +kernel))) rfl
theorem zmt2_17 : Cond.fieldLink "PretendDesk" 111 "PretendDesk$Told" "came" "[LPretendDesk$Came;" ∈ zTb := zTb_in (zT2 (List.mem_of_getElem? (i := 17) (by decide +kernel))) rfl
theorem zmt2_18 : Cond.fieldLink "PretendDesk$Told" 33 "PretendDesk$Told" "speech" "LPretendDesk$Speech;" ∈ zTb := zTb_in (zT2 (List.mem_of_getElem? (i := 18) (by decide +kernel))) rfl
theorem zmt2_19 : Cond.fieldLink "PretendDesk" 395 "PretendDesk$Told" "speech" "LPretendDesk$Speech;" ∈ zTb := zTb_in (zT2 (List.mem_of_getElem? (i := 19) (by decide +kernel))) rfl
theorem zmt2_20 : Cond.fieldLink "PretendDesk$Told" 37 "PretendDesk$Told" "casePage" "[I" ∈ zTb := zTb_in (zT2 (List.mem_of_getElem? (i := 20) (by decide +kernel))) rfl
theorem zmt2_21 : Cond.fieldLink "PretendDesk" 278 "PretendDesk$Told" "casePage" "[I" ∈ zTb := zTb_in (zT2 (List.mem_of_getElem? (i := 21) (by decide +kernel))) rfl
theorem zmt2_22 : Cond.fieldLink "PretendDesk$Told" 41 "PretendDesk$Told" "caseDay" "[I" ∈ zTb := zTb_in (zT2 (List.mem_of_getElem? (i := 22) (by decide +kernel))) rfl
theorem zmt2_23 : Cond.fieldLink "PretendDesk" 281 "PretendDesk$Told" "caseDay" "[I" ∈ zTb := zTb_in (zT2 (List.mem_of_getElem? (i := 23) (by decide +kernel))) rfl
theorem zmt2_24 : Cond.fieldLink "PretendDesk$Told" 44 "PretendDesk$Told" "casePretends" "[Z" ∈ zTb := zTb_in (zT2 (List.mem_of_getElem? (i := 24) (by decide +kernel))) rfl
theorem zmt2_25 : Cond.fieldLink "PretendDesk" 284 "PretendDesk$Told" "casePretends" "[Z" ∈ zTb := zTb_in (zT2 (List.mem_of_getElem? (i := 25) (by decide +kernel))) rfl
theorem zmt2_26 : Cond.fieldLink "PretendDesk$Told" 48 "PretendDesk$Told" "worth" "[I" ∈ zTb := zTb_in (zT2 (List.mem_of_getElem? (i := 26) (by decide +kernel))) rfl
theorem zmt2_27 : Cond.fieldLink "PretendDesk$Forger" 97 "PretendDesk$Told" "worth" "[I" ∈ zTb := zTb_in (zT2 (List.mem_of_getElem? (i := 27) (by decide +kernel))) rfl
theorem zmt2_28 : Cond.fieldLink "PretendDesk$Room" 115 "PretendDesk$Told" "worth" "[I" ∈ zTb := zTb_in (zT2 (List.mem_of_getElem? (i := 28) (by decide +kernel))) rfl
theorem zmt2_29 : Cond.fieldLink "PretendDesk" 191 "PretendDesk$Told" "worth" "[I" ∈ zTb := zTb_in (zT2 (List.mem_of_getElem? (i := 29) (by decide +kernel))) rfl
theorem zmt2_30 : Cond.fieldLink "PretendDesk$Told" 51 "PretendDesk$Told" "alike" "[I" ∈ zTb := zTb_in (zT2 (List.mem_of_getElem? (i := 30) (by decide +kernel))) rfl
theorem zmt2_31 : Cond.fieldLink "PretendDesk" 152 "PretendDesk$Told" "alike" "[I" ∈ zTb := zTb_in (zT2 (List.mem_of_getElem? (i := 31) (by decide +kernel))) rfl
theorem zmt2_32 : Cond.fieldLink "PretendDesk$Told" 54 "PretendDesk$Told" "relay" "[I" ∈ zTb := zTb_in (zT2 (List.mem_of_getElem? (i := 32) (by decide +kernel))) rfl
theorem zmt2_33 : Cond.fieldLink "PretendDesk" 369 "PretendDesk$Told" "relay" "[I" ∈ zTb := zTb_in (zT2 (List.mem_of_getElem? (i := 33) (by decide +kernel))) rfl
theorem zmt2_34 : Cond.fieldLink "PretendDesk$Told" 57 "PretendDesk$Told" "owner" "[I" ∈ zTb := zTb_in (zT2 (List.mem_of_getElem? (i := 34) (by decide +kernel))) rfl
theorem zmt2_35 : Cond.fieldLink "PretendDesk" 372 "PretendDesk$Told" "owner" "[I" ∈ zTb := zTb_in (zT2 (List.mem_of_getElem? (i := 35) (by decide +kernel))) rfl
theorem zmt2_36 : Cond.fieldLink "PretendDesk$Told" 91 "PretendDesk$Told" "houses" "I" ∈ zTb := zTb_in (zT2 (List.mem_of_getElem? (i := 36) (by decide +kernel))) rfl
theorem zmt2_37 : Cond.fieldLink "PretendDesk" 83 "PretendDesk$Told" "houses" "I" ∈ zTb := zTb_in (zT2 (List.mem_of_getElem? (i := 37) (by decide +kernel))) rfl
theorem zmt2_38 : Cond.fieldLink "PretendDesk$Room" 93 "PretendDesk$Told" "houses" "I" ∈ zTb := zTb_in (zT2 (List.mem_of_getElem? (i := 38) (by decide +kernel))) rfl
theorem zmt2_39 : Cond.fieldLink "PretendDesk$Told" 94 "PretendDesk$Told" "pages" "I" ∈ zTb := zTb_in (zT2 (List.mem_of_getElem? (i := 39) (by decide +kernel))) rfl
theorem zmt2_40 : Cond.fieldLink "PretendDesk" 136 "PretendDesk$Told" "pages" "I" ∈ zTb := zTb_in (zT2 (List.mem_of_getElem? (i := 40) (by decide +kernel))) rfl
theorem zmt2_41 : Cond.fieldLink "PretendDesk$Told" 97 "PretendDesk$Told" "cases" "I" ∈ zTb := zTb_in (zT2 (List.mem_of_getElem? (i := 41) (by decide +kernel))) rfl
theorem zmt2_42 : Cond.fieldLink "PretendDesk" 275 "PretendDesk$Told" "cases" "I" ∈ zTb := zTb_in (zT2 (List.mem_of_getElem? (i := 42) (by decide +kernel))) rfl
theorem zmt2_43 : Cond.fieldLink "PretendDesk$Told" 60 "PretendDesk$Told" "markA" "I" ∈ zTb := zTb_in (zT2 (List.mem_of_getElem? (i := 43) (by decide +kernel))) rfl
theorem zmt2_44 : Cond.fieldLink "PretendDesk$Room" 112 "PretendDesk$Told" "markA" "I" ∈ zTb := zTb_in (zT2 (List.mem_of_getElem? (i := 44) (by decide +kernel))) rfl
theorem zmt2_45 : Cond.fieldLink "PretendDesk" 194 "PretendDesk$Told" "markA" "I" ∈ zTb := zTb_in (zT2 (List.mem_of_getElem? (i := 45) (by decide +kernel))) rfl
theorem zmt2_46 : Cond.fieldLink "PretendDesk$Told" 64 "PretendDesk$Told" "markB" "I" ∈ zTb := zTb_in (zT2 (List.mem_of_getElem? (i := 46) (by decide +kernel))) rfl
theorem zmt2_47 : Cond.fieldLink "PretendDesk$Room" 122 "PretendDesk$Told" "markB" "I" ∈ zTb := zTb_in (zT2 (List.mem_of_getElem? (i := 47) (by decide +kernel))) rfl
theorem zmt2_48 : Cond.fieldLink "PretendDesk" 197 "PretendDesk$Told" "markB" "I" ∈ zTb := zTb_in (zT2 (List.mem_of_getElem? (i := 48) (by decide +kernel))) rfl
theorem zmt2_49 : Cond.fieldLink "PretendDesk$Told" 67 "PretendDesk$Told" "markC" "I" ∈ zTb := zTb_in (zT2 (List.mem_of_getElem? (i := 49) (by decide +kernel))) rfl
theorem zmt2_50 : Cond.fieldLink "PretendDesk$Room" 129 "PretendDesk$Told" "markC" "I" ∈ zTb := zTb_in (zT2 (List.mem_of_getElem? (i := 50) (by decide +kernel))) rfl
theorem zmt2_51 : Cond.fieldLink "PretendDesk" 200 "PretendDesk$Told" "markC" "I" ∈ zTb := zTb_in (zT2 (List.mem_of_getElem? (i := 51) (by decide +kernel))) rfl
theorem zmt2_52 : Cond.laysFinal "PretendDesk$Told" "PretendDesk$Told" "tape" "LPretendDesk$Tape;" ∈ zTb := zTb_in (zT2 (List.mem_of_getElem? (i := 52) (by decide +kernel))) rfl
theorem zmt2_54 : Cond.laysFinal "PretendDesk$Told" "PretendDesk$Told" "house" "[LPretendDesk$House;" ∈ zTb := zTb_in (zT2 (List.mem_of_getElem? (i := 54) (by decide +kernel))) rfl
theorem zmt2_56 : Cond.laysFinal "PretendDesk$Told" "PretendDesk$Told" "came" "[LPretendDesk$Came;" ∈ zTb := zTb_in (zT2 (List.mem_of_getElem? (i := 56) (by decide +kernel))) rfl
theorem zmt2_58 : Cond.laysFinal "PretendDesk$Told" "PretendDesk$Told" "speech" "LPretendDesk$Speech;" ∈ zTb := zTb_in (zT2 (List.mem_of_getElem? (i := 58) (by decide +kernel))) rfl
theorem zmt2_60 : Cond.laysFinal "PretendDesk$Told" "PretendDesk$Told" "casePage" "[I" ∈ zTb := zTb_in (zT2 (List.mem_of_getElem? (i := 60) (by decide +kernel))) rfl
theorem zmt2_62 : Cond.laysFinal "PretendDesk$Told" "PretendDesk$Told" "caseDay" "[I" ∈ zTb := zTb_in (zT2 (List.mem_of_getElem? (i := 62) (by decide +kernel))) rfl
theorem zmt2_64 : Cond.laysFinal "PretendDesk$Told" "PretendDesk$Told" "casePretends" "[Z" ∈ zTb := zTb_in (zT2 (List.mem_of_getElem? (i := 64) (by decide +kernel))) rfl
theorem zmt2_66 : Cond.laysFinal "PretendDesk$Told" "PretendDesk$Told" "worth" "[I" ∈ zTb := zTb_in (zT2 (List.mem_of_getElem? (i := 66) (by decide +kernel))) rfl
theorem zmt2_68 : Cond.laysFinal "PretendDesk$Told" "PretendDesk$Told" "alike" "[I" ∈ zTb := zTb_in (zT2 (List.mem_of_getElem? (i := 68) (by decide +kernel))) rfl
theorem zmt2_70 : Cond.laysFinal "PretendDesk$Told" "PretendDesk$Told" "relay" "[I" ∈ zTb := zTb_in (zT2 (List.mem_of_getElem? (i := 70) (by decide +kernel))) rfl
theorem zmt2_72 : Cond.laysFinal "PretendDesk$Told" "PretendDesk$Told" "owner" "[I" ∈ zTb := zTb_in (zT2 (List.mem_of_getElem? (i := 72) (by decide +kernel))) rfl
theorem zmt2_74 : Cond.lays "PretendDesk$Told" "PretendDesk$Told" "houses" "I" ∈ zTb := zTb_in (zT2 (List.mem_of_getElem? (i := 74) (by decide +kernel))) rfl
theorem zmt2_76 : Cond.lays "PretendDesk$Told" "PretendDesk$Told" "pages" "I" ∈ zTb := zTb_in (zT2 (List.mem_of_getElem? (i := 76) (by decide +kernel))) rfl
theorem zmt2_78 : Cond.lays "PretendDesk$Told" "PretendDesk$Told" "cases" "I" ∈ zTb := zTb_in (zT2 (List.mem_of_getElem? (i := 78) (by decide +kernel))) rfl
theorem zmt2_80 : Cond.lays "PretendDesk$Told" "PretendDesk$Told" "markA" "I" ∈ zTb := zTb_in (zT2 (List.mem_of_getElem? (i := 80) (by decide +kernel))) rfl
theorem zmt2_82 : Cond.lays "PretendDesk$Told" "PretendDesk$Told" "markB" "I" ∈ zTb := zTb_in (zT2 (List.mem_of_getElem? (i := 82) (by decide +kernel))) rfl
theorem zmt2_84 : Cond.lays "PretendDesk$Told" "PretendDesk$Told" "markC" "I" ∈ zTb := zTb_in (zT2 (List.mem_of_getElem? (i := 84) (by decide +kernel))) rfl
theorem zmt2_88 : Cond.classLink "PretendDesk" 20 "PretendDesk$Room" ∈ zTb := zTb_in (zT2 (List.mem_of_getElem? (i := 88) (by decide +kernel))) rfl
theorem zmt2_89 : Cond.instantiable "PretendDesk$Room" 7 ∈ zTb := zTb_in (zT2 (List.mem_of_getElem? (i := 89) (by decide +kernel))) rfl
theorem zmt2_90 : Cond.methodLink "PretendDesk" 22 (⟨"PretendDesk$Room", "<init>", "(LPretendDesk$Told;)V"⟩ : MethodName) ∈ zTb := zTb_in (zT2 (List.mem_of_getElem? (i := 90) (by decide +kernel))) rfl
theorem zmt2_91 : Cond.instanceMethod (⟨"PretendDesk$Room", "<init>", "(LPretendDesk$Told;)V"⟩ : MethodName) ∈ zTb := zTb_in (zT2 (List.mem_of_getElem? (i := 91) (by decide +kernel))) rfl
theorem zmt2_92 : Cond.code (⟨"PretendDesk$Room", "<init>", "(LPretendDesk$Told;)V"⟩ : MethodName) prog_8_method_1_code 2 none ∈ zTb := zTb_in (zT2 (List.mem_of_getElem? (i := 92) (by decide +kernel))) rfl
theorem zmt2_93 : Cond.methodLink "PretendDesk$Room" 5 (⟨"java/lang/Object", "<init>", "()V"⟩ : MethodName) ∈ zTb := zTb_in (zT2 (List.mem_of_getElem? (i := 93) (by decide +kernel))) rfl
theorem zmt2_94 : Cond.classLink "PretendDesk$Room" 1 "PretendDesk$Opened" ∈ zTb := zTb_in (zT2 (List.mem_of_getElem? (i := 94) (by decide +kernel))) rfl
theorem zmt2_95 : Cond.instantiable "PretendDesk$Opened" 6 ∈ zTb := zTb_in (zT2 (List.mem_of_getElem? (i := 95) (by decide +kernel))) rfl
theorem zmt2_97 : Cond.instanceMethod (⟨"PretendDesk$Opened", "<init>", "()V"⟩ : MethodName) ∈ zTb := zTb_in (zT2 (List.mem_of_getElem? (i := 97) (by decide +kernel))) rfl
theorem zmt2_98 : Cond.code (⟨"PretendDesk$Opened", "<init>", "()V"⟩ : MethodName) prog_6_method_1_code 1 none ∈ zTb := zTb_in (zT2 (List.mem_of_getElem? (i := 98) (by decide +kernel))) rfl
theorem zmt2_99 : Cond.methodLink "PretendDesk$Opened" 3 (⟨"java/lang/Object", "<init>", "()V"⟩ : MethodName) ∈ zTb := zTb_in (zT2 (List.mem_of_getElem? (i := 99) (by decide +kernel))) rfl
theorem zmt2_100 : Cond.fieldLink "PretendDesk$Opened" 11 "PretendDesk$Opened" "kind" "[I" ∈ zTb := zTb_in (zT2 (List.mem_of_getElem? (i := 100) (by decide +kernel))) rfl
theorem zmt2_101 : Cond.fieldLink "PretendDesk$Room" 56 "PretendDesk$Opened" "kind" "[I" ∈ zTb := zTb_in (zT2 (List.mem_of_getElem? (i := 101) (by decide +kernel))) rfl
theorem zmt2_102 : Cond.fieldLink "PretendDesk$Opened" 15 "PretendDesk$Opened" "colour" "[I" ∈ zTb := zTb_in (zT2 (List.mem_of_getElem? (i := 102) (by decide +kernel))) rfl
theorem zmt2_103 : Cond.fieldLink "PretendDesk$Room" 59 "PretendDesk$Opened" "colour" "[I" ∈ zTb := zTb_in (zT2 (List.mem_of_getElem? (i := 103) (by decide +kernel))) rfl
theorem zmt2_104 : Cond.fieldLink "PretendDesk$Opened" 18 "PretendDesk$Opened" "above" "[I" ∈ zTb := zTb_in (zT2 (List.mem_of_getElem? (i := 104) (by decide +kernel))) rfl
theorem zmt2_105 : Cond.fieldLink "PretendDesk$Opened" 21 "PretendDesk$Opened" "behind" "[I" ∈ zTb := zTb_in (zT2 (List.mem_of_getElem? (i := 105) (by decide +kernel))) rfl
theorem zmt2_106 : Cond.fieldLink "PretendDesk$Room" 44 "PretendDesk$Opened" "behind" "[I" ∈ zTb := zTb_in (zT2 (List.mem_of_getElem? (i := 106) (by decide +kernel))) rfl
theorem zmt2_107 : Cond.fieldLink "PretendDesk$Opened" 24 "PretendDesk$Opened" "number" "[I" ∈ zTb := zTb_in (zT2 (List.mem_of_getElem? (i := 107) (by decide +kernel))) rfl
theorem zmt2_108 : Cond.fieldLink "PretendDesk$Room" 32 "PretendDesk$Opened" "count" "I" ∈ zTb := zTb_in (zT2 (List.mem_of_getElem? (i := 108) (by decide +kernel))) rfl
theorem zmt2_109 : Cond.fieldLink "PretendDesk$Opened" 27 "PretendDesk$Opened" "count" "I" ∈ zTb := zTb_in (zT2 (List.mem_of_getElem? (i := 109) (by decide +kernel))) rfl
theorem zmt2_110 : Cond.laysFinal "PretendDesk$Opened" "PretendDesk$Opened" "kind" "[I" ∈ zTb := zTb_in (zT2 (List.mem_of_getElem? (i := 110) (by decide +kernel))) rfl
theorem zmt2_112 : Cond.laysFinal "PretendDesk$Opened" "PretendDesk$Opened" "colour" "[I" ∈ zTb := zTb_in (zT2 (List.mem_of_getElem? (i := 112) (by decide +kernel))) rfl
theorem zmt2_114 : Cond.laysFinal "PretendDesk$Opened" "PretendDesk$Opened" "above" "[I" ∈ zTb := zTb_in (zT2 (List.mem_of_getElem? (i := 114) (by decide +kernel))) rfl
theorem zmt2_116 : Cond.laysFinal "PretendDesk$Opened" "PretendDesk$Opened" "behind" "[I" ∈ zTb := zTb_in (zT2 (List.mem_of_getElem? (i := 116) (by decide +kernel))) rfl
theorem zmt2_118 : Cond.laysFinal "PretendDesk$Opened" "PretendDesk$Opened" "number" "[I" ∈ zTb := zTb_in (zT2 (List.mem_of_getElem? (i := 118) (by decide +kernel))) rfl
theorem zmt2_120 : Cond.lays "PretendDesk$Opened" "PretendDesk$Opened" "count" "I" ∈ zTb := zTb_in (zT2 (List.mem_of_getElem? (i := 120) (by decide +kernel))) rfl
theorem zmt2_123 : Cond.fieldLink "PretendDesk$Room" 12 "PretendDesk$Room" "mine" "LPretendDesk$Opened;" ∈ zTb := zTb_in (zT2 (List.mem_of_getElem? (i := 123) (by decide +kernel))) rfl
theorem zmt2_124 : Cond.fieldLink "PretendDesk$Forger" 87 "PretendDesk$Room" "mine" "LPretendDesk$Opened;" ∈ zTb := zTb_in (zT2 (List.mem_of_getElem? (i := 124) (by decide +kernel))) rfl
theorem zmt2_125 : Cond.fieldLink "PretendDesk" 207 "PretendDesk$Room" "mine" "LPretendDesk$Opened;" ∈ zTb := zTb_in (zT2 (List.mem_of_getElem? (i := 125) (by decide +kernel))) rfl
theorem zmt2_126 : Cond.fieldLink "PretendDesk$Room" 18 "PretendDesk$Room" "its" "LPretendDesk$Opened;" ∈ zTb := zTb_in (zT2 (List.mem_of_getElem? (i := 126) (by decide +kernel))) rfl
theorem zmt2_127 : Cond.fieldLink "PretendDesk" 226 "PretendDesk$Room" "its" "LPretendDesk$Opened;" ∈ zTb := zTb_in (zT2 (List.mem_of_getElem? (i := 127) (by decide +kernel))) rfl
theorem zmt2_128 : Cond.fieldLink "PretendDesk$Room" 21 "PretendDesk$Room" "trees" "[I" ∈ zTb := zTb_in (zT2 (List.mem_of_getElem? (i := 128) (by decide +kernel))) rfl
theorem zmt2_129 : Cond.fieldLink "PretendDesk$Room" 25 "PretendDesk$Room" "rows" "[I" ∈ zTb := zTb_in (zT2 (List.mem_of_getElem? (i := 129) (by decide +kernel))) rfl
theorem zmt2_130 : Cond.fieldLink "PretendDesk$Room" 28 "PretendDesk$Room" "told" "LPretendDesk$Told;" ∈ zTb := zTb_in (zT2 (List.mem_of_getElem? (i := 130) (by decide +kernel))) rfl
theorem zmt2_131 : Cond.fieldLink "PretendDesk$Forger" 111 "PretendDesk$Room" "like" "I" ∈ zTb := zTb_in (zT2 (List.mem_of_getElem? (i := 131) (by decide +kernel))) rfl
theorem zmt2_132 : Cond.fieldLink "PretendDesk$Room" 87 "PretendDesk$Room" "like" "I" ∈ zTb := zTb_in (zT2 (List.mem_of_getElem? (i := 132) (by decide +kernel))) rfl
theorem zmt2_133 : Cond.fieldLink "PretendDesk" 244 "PretendDesk$Room" "like" "I" ∈ zTb := zTb_in (zT2 (List.mem_of_getElem? (i := 133) (by decide +kernel))) rfl
theorem zmt2_134 : Cond.fieldLink "PretendDesk$Forger" 74 "PretendDesk$Room" "looks" "I" ∈ zTb := zTb_in (zT2 (List.mem_of_getElem? (i := 134) (by decide +kernel))) rfl
theorem zmt2_135 : Cond.fieldLink "PretendDesk$Room" 90 "PretendDesk$Room" "looks" "I" ∈ zTb := zTb_in (zT2 (List.mem_of_getElem? (i := 135) (by decide +kernel))) rfl
theorem zmt2_136 : Cond.fieldLink "PretendDesk" 295 "PretendDesk$Room" "looks" "I" ∈ zTb := zTb_in (zT2 (List.mem_of_getElem? (i := 136) (by decide +kernel))) rfl
theorem zmt2_137 : Cond.laysFinal "PretendDesk$Room" "PretendDesk$Room" "mine" "LPretendDesk$Opened;" ∈ zTb := zTb_in (zT2 (List.mem_of_getElem? (i := 137) (by decide +kernel))) rfl
theorem zmt2_139 : Cond.laysFinal "PretendDesk$Room" "PretendDesk$Room" "its" "LPretendDesk$Opened;" ∈ zTb := zTb_in (zT2 (List.mem_of_getElem? (i := 139) (by decide +kernel))) rfl
theorem zmt2_141 : Cond.laysFinal "PretendDesk$Room" "PretendDesk$Room" "trees" "[I" ∈ zTb := zTb_in (zT2 (List.mem_of_getElem? (i := 141) (by decide +kernel))) rfl
theorem zmt2_143 : Cond.laysFinal "PretendDesk$Room" "PretendDesk$Room" "rows" "[I" ∈ zTb := zTb_in (zT2 (List.mem_of_getElem? (i := 143) (by decide +kernel))) rfl
theorem zmt2_145 : Cond.laysFinal "PretendDesk$Room" "PretendDesk$Room" "told" "LPretendDesk$Told;" ∈ zTb := zTb_in (zT2 (List.mem_of_getElem? (i := 145) (by decide +kernel))) rfl
theorem zmt2_147 : Cond.lays "PretendDesk$Room" "PretendDesk$Room" "like" "I" ∈ zTb := zTb_in (zT2 (List.mem_of_getElem? (i := 147) (by decide +kernel))) rfl
theorem zmt2_149 : Cond.lays "PretendDesk$Room" "PretendDesk$Room" "looks" "I" ∈ zTb := zTb_in (zT2 (List.mem_of_getElem? (i := 149) (by decide +kernel))) rfl
theorem zmt2_152 : Cond.classLink "PretendDesk" 29 "PretendDesk$Forger" ∈ zTb := zTb_in (zT2 (List.mem_of_getElem? (i := 152) (by decide +kernel))) rfl
theorem zmt2_153 : Cond.instantiable "PretendDesk$Forger" 7 ∈ zTb := zTb_in (zT2 (List.mem_of_getElem? (i := 153) (by decide +kernel))) rfl
theorem zmt2_154 : Cond.methodLink "PretendDesk" 31 (⟨"PretendDesk$Forger", "<init>", "(LPretendDesk$Told;LPretendDesk$Room;)V"⟩ : MethodName) ∈ zTb := zTb_in (zT2 (List.mem_of_getElem? (i := 154) (by decide +kernel))) rfl
theorem zmt2_155 : Cond.instanceMethod (⟨"PretendDesk$Forger", "<init>", "(LPretendDesk$Told;LPretendDesk$Room;)V"⟩ : MethodName) ∈ zTb := zTb_in (zT2 (List.mem_of_getElem? (i := 155) (by decide +kernel))) rfl
theorem zmt2_156 : Cond.code (⟨"PretendDesk$Forger", "<init>", "(LPretendDesk$Told;LPretendDesk$Room;)V"⟩ : MethodName) prog_4_method_1_code 3 none ∈ zTb := zTb_in (zT2 (List.mem_of_getElem? (i := 156) (by decide +kernel))) rfl
theorem zmt2_157 : Cond.methodLink "PretendDesk$Forger" 3 (⟨"java/lang/Object", "<init>", "()V"⟩ : MethodName) ∈ zTb := zTb_in (zT2 (List.mem_of_getElem? (i := 157) (by decide +kernel))) rfl
theorem zmt2_158 : Cond.classLink "PretendDesk$Forger" 9 "PretendDesk$Page" ∈ zTb := zTb_in (zT2 (List.mem_of_getElem? (i := 158) (by decide +kernel))) rfl
theorem zmt2_160 : Cond.fieldLink "PretendDesk$Forger" 12 "PretendDesk$Forger" "forged" "LPretendDesk$Page;" ∈ zTb := zTb_in (zT2 (List.mem_of_getElem? (i := 160) (by decide +kernel))) rfl
theorem zmt2_161 : Cond.fieldLink "PretendDesk$Forger" 18 "PretendDesk$Forger" "told" "LPretendDesk$Told;" ∈ zTb := zTb_in (zT2 (List.mem_of_getElem? (i := 161) (by decide +kernel))) rfl
theorem zmt2_162 : Cond.fieldLink "PretendDesk$Forger" 22 "PretendDesk$Forger" "room" "LPretendDesk$Room;" ∈ zTb := zTb_in (zT2 (List.mem_of_getElem? (i := 162) (by decide +kernel))) rfl
theorem zmt2_163 : Cond.fieldLink "PretendDesk$Forger" 59 "PretendDesk$Forger" "waits" "I" ∈ zTb := zTb_in (zT2 (List.mem_of_getElem? (i := 163) (by decide +kernel))) rfl
theorem zmt2_164 : Cond.fieldLink "PretendDesk$Forger" 36 "PretendDesk$Forger" "price" "I" ∈ zTb := zTb_in (zT2 (List.mem_of_getElem? (i := 164) (by decide +kernel))) rfl
theorem zmt2_165 : Cond.fieldLink "PretendDesk" 322 "PretendDesk$Forger" "price" "I" ∈ zTb := zTb_in (zT2 (List.mem_of_getElem? (i := 165) (by decide +kernel))) rfl
theorem zmt2_166 : Cond.fieldLink "PretendDesk$Forger" 45 "PretendDesk$Forger" "set" "I" ∈ zTb := zTb_in (zT2 (List.mem_of_getElem? (i := 166) (by decide +kernel))) rfl
theorem zmt2_167 : Cond.fieldLink "PretendDesk" 325 "PretendDesk$Forger" "set" "I" ∈ zTb := zTb_in (zT2 (List.mem_of_getElem? (i := 167) (by decide +kernel))) rfl
theorem zmt2_168 : Cond.fieldLink "PretendDesk$Forger" 71 "PretendDesk$Forger" "says" "I" ∈ zTb := zTb_in (zT2 (List.mem_of_getElem? (i := 168) (by decide +kernel))) rfl
theorem zmt2_169 : Cond.fieldLink "PretendDesk" 328 "PretendDesk$Forger" "says" "I" ∈ zTb := zTb_in (zT2 (List.mem_of_getElem? (i := 169) (by decide +kernel))) rfl
theorem zmt2_170 : Cond.laysFinal "PretendDesk$Forger" "PretendDesk$Forger" "forged" "LPretendDesk$Page;" ∈ zTb := zTb_in (zT2 (List.mem_of_getElem? (i := 170) (by decide +kernel))) rfl
theorem zmt2_172 : Cond.laysFinal "PretendDesk$Forger" "PretendDesk$Forger" "told" "LPretendDesk$Told;" ∈ zTb := zTb_in (zT2 (List.mem_of_getElem? (i := 172) (by decide +kernel))) rfl
theorem zmt2_174 : Cond.laysFinal "PretendDesk$Forger" "PretendDesk$Forger" "room" "LPretendDesk$Room;" ∈ zTb := zTb_in (zT2 (List.mem_of_getElem? (i := 174) (by decide +kernel))) rfl
theorem zmt2_176 : Cond.lays "PretendDesk$Forger" "PretendDesk$Forger" "waits" "I" ∈ zTb := zTb_in (zT2 (List.mem_of_getElem? (i := 176) (by decide +kernel))) rfl
theorem zmt2_178 : Cond.lays "PretendDesk$Forger" "PretendDesk$Forger" "price" "I" ∈ zTb := zTb_in (zT2 (List.mem_of_getElem? (i := 178) (by decide +kernel))) rfl
theorem zmt2_180 : Cond.lays "PretendDesk$Forger" "PretendDesk$Forger" "set" "I" ∈ zTb := zTb_in (zT2 (List.mem_of_getElem? (i := 180) (by decide +kernel))) rfl
theorem zmt2_182 : Cond.lays "PretendDesk$Forger" "PretendDesk$Forger" "says" "I" ∈ zTb := zTb_in (zT2 (List.mem_of_getElem? (i := 182) (by decide +kernel))) rfl
theorem zmt2_185 : Cond.classLink "PretendDesk" 38 "PretendDesk$Best" ∈ zTb := zTb_in (zT2 (List.mem_of_getElem? (i := 185) (by decide +kernel))) rfl
theorem zmt2_186 : Cond.instantiable "PretendDesk$Best" 14 ∈ zTb := zTb_in (zT2 (List.mem_of_getElem? (i := 186) (by decide +kernel))) rfl
theorem zmt2_188 : Cond.instanceMethod (⟨"PretendDesk$Best", "<init>", "()V"⟩ : MethodName) ∈ zTb := zTb_in (zT2 (List.mem_of_getElem? (i := 188) (by decide +kernel))) rfl
theorem zmt2_189 : Cond.code (⟨"PretendDesk$Best", "<init>", "()V"⟩ : MethodName) prog_2_method_1_code 1 none ∈ zTb := zTb_in (zT2 (List.mem_of_getElem? (i := 189) (by decide +kernel))) rfl
theorem zmt2_190 : Cond.methodLink "PretendDesk$Best" 3 (⟨"java/lang/Object", "<init>", "()V"⟩ : MethodName) ∈ zTb := zTb_in (zT2 (List.mem_of_getElem? (i := 190) (by decide +kernel))) rfl
theorem zmt2_191 : Cond.fieldLink "PretendDesk$Best" 9 "PretendDesk$Best" "looks" "[I" ∈ zTb := zTb_in (zT2 (List.mem_of_getElem? (i := 191) (by decide +kernel))) rfl
theorem zmt2_192 : Cond.fieldLink "PretendDesk$Best" 15 "PretendDesk$Best" "asked" "[I" ∈ zTb := zTb_in (zT2 (List.mem_of_getElem? (i := 192) (by decide +kernel))) rfl
theorem zmt2_193 : Cond.fieldLink "PretendDesk$Best" 18 "PretendDesk$Best" "age" "[I" ∈ zTb := zTb_in (zT2 (List.mem_of_getElem? (i := 193) (by decide +kernel))) rfl
theorem zmt2_194 : Cond.fieldLink "PretendDesk$Best" 21 "PretendDesk$Best" "pretends" "[Z" ∈ zTb := zTb_in (zT2 (List.mem_of_getElem? (i := 194) (by decide +kernel))) rfl
theorem zmt2_195 : Cond.fieldLink "PretendDesk$Best" 25 "PretendDesk$Best" "turnsA" "[Z" ∈ zTb := zTb_in (zT2 (List.mem_of_getElem? (i := 195) (by decide +kernel))) rfl
theorem zmt2_196 : Cond.fieldLink "PretendDesk$Best" 28 "PretendDesk$Best" "turnsB" "[Z" ∈ zTb := zTb_in (zT2 (List.mem_of_getElem? (i := 196) (by decide +kernel))) rfl
theorem zmt2_197 : Cond.fieldLink "PretendDesk$Best" 31 "PretendDesk$Best" "turnsC" "[Z" ∈ zTb := zTb_in (zT2 (List.mem_of_getElem? (i := 197) (by decide +kernel))) rfl
theorem zmt2_198 : Cond.fieldLink "PretendDesk$Best" 34 "PretendDesk$Best" "cases" "I" ∈ zTb := zTb_in (zT2 (List.mem_of_getElem? (i := 198) (by decide +kernel))) rfl
theorem zmt2_199 : Cond.fieldLink "PretendDesk$Best" 46 "PretendDesk$Best" "any" "Z" ∈ zTb := zTb_in (zT2 (List.mem_of_getElem? (i := 199) (by decide +kernel))) rfl
theorem zmt2_200 : Cond.fieldLink "PretendDesk$Best" 60 "PretendDesk$Best" "bestA" "I" ∈ zTb := zTb_in (zT2 (List.mem_of_getElem? (i := 200) (by decide +kernel))) rfl
theorem zmt2_201 : Cond.fieldLink "PretendDesk$Best" 63 "PretendDesk$Best" "bestB" "I" ∈ zTb := zTb_in (zT2 (List.mem_of_getElem? (i := 201) (by decide +kernel))) rfl
theorem zmt2_202 : Cond.fieldLink "PretendDesk$Best" 66 "PretendDesk$Best" "bestC" "I" ∈ zTb := zTb_in (zT2 (List.mem_of_getElem? (i := 202) (by decide +kernel))) rfl
theorem zmt2_203 : Cond.fieldLink "PretendDesk$Best" 54 "PretendDesk$Best" "missed" "I" ∈ zTb := zTb_in (zT2 (List.mem_of_getElem? (i := 203) (by decide +kernel))) rfl
theorem zmt2_204 : Cond.fieldLink "PretendDesk$Best" 57 "PretendDesk$Best" "honest" "I" ∈ zTb := zTb_in (zT2 (List.mem_of_getElem? (i := 204) (by decide +kernel))) rfl
theorem zmt2_205 : Cond.laysFinal "PretendDesk$Best" "PretendDesk$Best" "looks" "[I" ∈ zTb := zTb_in (zT2 (List.mem_of_getElem? (i := 205) (by decide +kernel))) rfl
theorem zmt2_207 : Cond.laysFinal "PretendDesk$Best" "PretendDesk$Best" "asked" "[I" ∈ zTb := zTb_in (zT2 (List.mem_of_getElem? (i := 207) (by decide +kernel))) rfl
theorem zmt2_209 : Cond.laysFinal "PretendDesk$Best" "PretendDesk$Best" "age" "[I" ∈ zTb := zTb_in (zT2 (List.mem_of_getElem? (i := 209) (by decide +kernel))) rfl
theorem zmt2_211 : Cond.laysFinal "PretendDesk$Best" "PretendDesk$Best" "pretends" "[Z" ∈ zTb := zTb_in (zT2 (List.mem_of_getElem? (i := 211) (by decide +kernel))) rfl
theorem zmt2_213 : Cond.laysFinal "PretendDesk$Best" "PretendDesk$Best" "turnsA" "[Z" ∈ zTb := zTb_in (zT2 (List.mem_of_getElem? (i := 213) (by decide +kernel))) rfl
theorem zmt2_215 : Cond.laysFinal "PretendDesk$Best" "PretendDesk$Best" "turnsB" "[Z" ∈ zTb := zTb_in (zT2 (List.mem_of_getElem? (i := 215) (by decide +kernel))) rfl
theorem zmt2_217 : Cond.laysFinal "PretendDesk$Best" "PretendDesk$Best" "turnsC" "[Z" ∈ zTb := zTb_in (zT2 (List.mem_of_getElem? (i := 217) (by decide +kernel))) rfl
theorem zmt2_219 : Cond.lays "PretendDesk$Best" "PretendDesk$Best" "cases" "I" ∈ zTb := zTb_in (zT2 (List.mem_of_getElem? (i := 219) (by decide +kernel))) rfl
theorem zmt2_221 : Cond.lays "PretendDesk$Best" "PretendDesk$Best" "any" "Z" ∈ zTb := zTb_in (zT2 (List.mem_of_getElem? (i := 221) (by decide +kernel))) rfl
theorem zmt2_223 : Cond.lays "PretendDesk$Best" "PretendDesk$Best" "bestA" "I" ∈ zTb := zTb_in (zT2 (List.mem_of_getElem? (i := 223) (by decide +kernel))) rfl
theorem zmt2_225 : Cond.lays "PretendDesk$Best" "PretendDesk$Best" "bestB" "I" ∈ zTb := zTb_in (zT2 (List.mem_of_getElem? (i := 225) (by decide +kernel))) rfl
theorem zmt2_227 : Cond.lays "PretendDesk$Best" "PretendDesk$Best" "bestC" "I" ∈ zTb := zTb_in (zT2 (List.mem_of_getElem? (i := 227) (by decide +kernel))) rfl
theorem zmt2_229 : Cond.lays "PretendDesk$Best" "PretendDesk$Best" "missed" "I" ∈ zTb := zTb_in (zT2 (List.mem_of_getElem? (i := 229) (by decide +kernel))) rfl
theorem zmt2_231 : Cond.lays "PretendDesk$Best" "PretendDesk$Best" "honest" "I" ∈ zTb := zTb_in (zT2 (List.mem_of_getElem? (i := 231) (by decide +kernel))) rfl
theorem zmt2_234 : Cond.classLink "PretendDesk" 45 "PretendDesk$Runner" ∈ zTb := zTb_in (zT2 (List.mem_of_getElem? (i := 234) (by decide +kernel))) rfl
theorem zmt2_235 : Cond.instantiable "PretendDesk$Runner" 4 ∈ zTb := zTb_in (zT2 (List.mem_of_getElem? (i := 235) (by decide +kernel))) rfl
theorem zmt2_237 : Cond.instanceMethod (⟨"PretendDesk$Runner", "<init>", "()V"⟩ : MethodName) ∈ zTb := zTb_in (zT2 (List.mem_of_getElem? (i := 237) (by decide +kernel))) rfl
theorem zmt2_238 : Cond.code (⟨"PretendDesk$Runner", "<init>", "()V"⟩ : MethodName) prog_9_method_1_code 1 none ∈ zTb := zTb_in (zT2 (List.mem_of_getElem? (i := 238) (by decide +kernel))) rfl
theorem zmt2_239 : Cond.methodLink "PretendDesk$Runner" 3 (⟨"java/lang/Object", "<init>", "()V"⟩ : MethodName) ∈ zTb := zTb_in (zT2 (List.mem_of_getElem? (i := 239) (by decide +kernel))) rfl
theorem zmt3_0 : Cond.fieldLink "PretendDesk$Runner" 9 "PretendDesk$Runner" "numbers" "[I" ∈ zTb := zTb_in (zT3 (List.mem_of_getElem? (i := 0) (by decide +kernel))) rfl
theorem zmt3_1 : Cond.fieldLink "PretendDesk$Runner" 15 "PretendDesk$Runner" "traces" "[I" ∈ zTb := zTb_in (zT3 (List.mem_of_getElem? (i := 1) (by decide +kernel))) rfl
theorem zmt3_2 : Cond.fieldLink "PretendDesk$Runner" 18 "PretendDesk$Runner" "got" "[I" ∈ zTb := zTb_in (zT3 (List.mem_of_getElem? (i := 2) (by decide +kernel))) rfl
theorem zmt3_3 : Cond.fieldLink "PretendDesk" 382 "PretendDesk$Runner" "got" "[I" ∈ zTb := zTb_in (zT3 (List.mem_of_getElem? (i := 3) (by decide +kernel))) rfl
theorem zmt3_4 : Cond.fieldLink "PretendDesk$Runner" 21 "PretendDesk$Runner" "steps" "I" ∈ zTb := zTb_in (zT3 (List.mem_of_getElem? (i := 4) (by decide +kernel))) rfl
theorem zmt3_5 : Cond.fieldLink "PretendDesk" 385 "PretendDesk$Runner" "steps" "I" ∈ zTb := zTb_in (zT3 (List.mem_of_getElem? (i := 5) (by decide +kernel))) rfl
theorem zmt3_6 : Cond.laysFinal "PretendDesk$Runner" "PretendDesk$Runner" "numbers" "[I" ∈ zTb := zTb_in (zT3 (List.mem_of_getElem? (i := 6) (by decide +kernel))) rfl
theorem zmt3_8 : Cond.laysFinal "PretendDesk$Runner" "PretendDesk$Runner" "traces" "[I" ∈ zTb := zTb_in (zT3 (List.mem_of_getElem? (i := 8) (by decide +kernel))) rfl
theorem zmt3_10 : Cond.laysFinal "PretendDesk$Runner" "PretendDesk$Runner" "got" "[I" ∈ zTb := zTb_in (zT3 (List.mem_of_getElem? (i := 10) (by decide +kernel))) rfl
theorem zmt3_12 : Cond.lays "PretendDesk$Runner" "PretendDesk$Runner" "steps" "I" ∈ zTb := zTb_in (zT3 (List.mem_of_getElem? (i := 12) (by decide +kernel))) rfl
theorem zmt3_15 : Cond.classLink "PretendDesk" 52 "PretendDesk$Page" ∈ zTb := zTb_in (zT3 (List.mem_of_getElem? (i := 15) (by decide +kernel))) rfl
theorem zmt3_17 : Cond.fieldLink "PretendDesk" 12 "PretendDesk" "now" "LPretendDesk$Told;" ∈ zTb := zTb_in (zT3 (List.mem_of_getElem? (i := 17) (by decide +kernel))) rfl
theorem zmt3_18 : Cond.fieldLink "PretendDesk" 16 "PretendDesk" "images" "[LPretendDesk$Told;" ∈ zTb := zTb_in (zT3 (List.mem_of_getElem? (i := 18) (by decide +kernel))) rfl
theorem zmt3_19 : Cond.fieldLink "PretendDesk" 25 "PretendDesk" "room" "LPretendDesk$Room;" ∈ zTb := zTb_in (zT3 (List.mem_of_getElem? (i := 19) (by decide +kernel))) rfl
theorem zmt3_20 : Cond.fieldLink "PretendDesk" 34 "PretendDesk" "forger" "LPretendDesk$Forger;" ∈ zTb := zTb_in (zT3 (List.mem_of_getElem? (i := 20) (by decide +kernel))) rfl
theorem zmt3_21 : Cond.fieldLink "PretendDesk" 41 "PretendDesk" "best" "LPretendDesk$Best;" ∈ zTb := zTb_in (zT3 (List.mem_of_getElem? (i := 21) (by decide +kernel))) rfl
theorem zmt3_22 : Cond.fieldLink "PretendDesk" 48 "PretendDesk" "runner" "LPretendDesk$Runner;" ∈ zTb := zTb_in (zT3 (List.mem_of_getElem? (i := 22) (by decide +kernel))) rfl
theorem zmt3_23 : Cond.fieldLink "PretendDesk" 55 "PretendDesk" "freshPage" "LPretendDesk$Page;" ∈ zTb := zTb_in (zT3 (List.mem_of_getElem? (i := 23) (by decide +kernel))) rfl
theorem zmt3_24 : Cond.fieldLink "PretendDesk" 59 "PretendDesk" "freshLines" "[I" ∈ zTb := zTb_in (zT3 (List.mem_of_getElem? (i := 24) (by decide +kernel))) rfl
theorem zmt3_25 : Cond.fieldLink "PretendDesk" 63 "PretendDesk" "prices" "[I" ∈ zTb := zTb_in (zT3 (List.mem_of_getElem? (i := 25) (by decide +kernel))) rfl
theorem zmt3_26 : Cond.fieldLink "PretendDesk" 66 "PretendDesk" "heard" "[I" ∈ zTb := zTb_in (zT3 (List.mem_of_getElem? (i := 26) (by decide +kernel))) rfl
theorem zmt3_27 : Cond.laysFinal "PretendDesk" "PretendDesk" "now" "LPretendDesk$Told;" ∈ zTb := zTb_in (zT3 (List.mem_of_getElem? (i := 27) (by decide +kernel))) rfl
theorem zmt3_29 : Cond.laysFinal "PretendDesk" "PretendDesk" "images" "[LPretendDesk$Told;" ∈ zTb := zTb_in (zT3 (List.mem_of_getElem? (i := 29) (by decide +kernel))) rfl
theorem zmt3_31 : Cond.laysFinal "PretendDesk" "PretendDesk" "room" "LPretendDesk$Room;" ∈ zTb := zTb_in (zT3 (List.mem_of_getElem? (i := 31) (by decide +kernel))) rfl
theorem zmt3_33 : Cond.laysFinal "PretendDesk" "PretendDesk" "forger" "LPretendDesk$Forger;" ∈ zTb := zTb_in (zT3 (List.mem_of_getElem? (i := 33) (by decide +kernel))) rfl
theorem zmt3_35 : Cond.laysFinal "PretendDesk" "PretendDesk" "best" "LPretendDesk$Best;" ∈ zTb := zTb_in (zT3 (List.mem_of_getElem? (i := 35) (by decide +kernel))) rfl
theorem zmt3_37 : Cond.laysFinal "PretendDesk" "PretendDesk" "runner" "LPretendDesk$Runner;" ∈ zTb := zTb_in (zT3 (List.mem_of_getElem? (i := 37) (by decide +kernel))) rfl
theorem zmt3_39 : Cond.laysFinal "PretendDesk" "PretendDesk" "freshPage" "LPretendDesk$Page;" ∈ zTb := zTb_in (zT3 (List.mem_of_getElem? (i := 39) (by decide +kernel))) rfl
theorem zmt3_41 : Cond.laysFinal "PretendDesk" "PretendDesk" "freshLines" "[I" ∈ zTb := zTb_in (zT3 (List.mem_of_getElem? (i := 41) (by decide +kernel))) rfl
theorem zmt3_43 : Cond.laysFinal "PretendDesk" "PretendDesk" "prices" "[I" ∈ zTb := zTb_in (zT3 (List.mem_of_getElem? (i := 43) (by decide +kernel))) rfl
theorem zmt3_45 : Cond.laysFinal "PretendDesk" "PretendDesk" "heard" "[I" ∈ zTb := zTb_in (zT3 (List.mem_of_getElem? (i := 45) (by decide +kernel))) rfl
theorem zmt3_52 : Cond.methodLink "PretendDesk" 79 (⟨"PretendDesk$Tape", "put", "(I)V"⟩ : MethodName) ∈ zTb := zTb_in (zT3 (List.mem_of_getElem? (i := 52) (by decide +kernel))) rfl
theorem zmt3_53 : Cond.instanceMethod (⟨"PretendDesk$Tape", "put", "(I)V"⟩ : MethodName) ∈ zTb := zTb_in (zT3 (List.mem_of_getElem? (i := 53) (by decide +kernel))) rfl
theorem zmt3_54 : Cond.selects "PretendDesk$Tape" (⟨"PretendDesk$Tape", "put", "(I)V"⟩ : MethodName) (⟨"PretendDesk$Tape", "put", "(I)V"⟩ : MethodName) ∈ zTb := zTb_in (zT3 (List.mem_of_getElem? (i := 54) (by decide +kernel))) rfl
theorem zmt3_55 : Cond.code (⟨"PretendDesk$Tape", "put", "(I)V"⟩ : MethodName) prog_11_method_3_code 3 none ∈ zTb := zTb_in (zT3 (List.mem_of_getElem? (i := 55) (by decide +kernel))) rfl
theorem zmt3_64 : Cond.methodLink "PretendDesk" 86 (⟨"PretendDesk$Tape", "take", "()V"⟩ : MethodName) ∈ zTb := zTb_in (zT3 (List.mem_of_getElem? (i := 64) (by decide +kernel))) rfl
theorem zmt3_65 : Cond.instanceMethod (⟨"PretendDesk$Tape", "take", "()V"⟩ : MethodName) ∈ zTb := zTb_in (zT3 (List.mem_of_getElem? (i := 65) (by decide +kernel))) rfl
theorem zmt3_66 : Cond.selects "PretendDesk$Tape" (⟨"PretendDesk$Tape", "take", "()V"⟩ : MethodName) (⟨"PretendDesk$Tape", "take", "()V"⟩ : MethodName) ∈ zTb := zTb_in (zT3 (List.mem_of_getElem? (i := 66) (by decide +kernel))) rfl
theorem zmt3_67 : Cond.code (⟨"PretendDesk$Tape", "take", "()V"⟩ : MethodName) prog_11_method_4_code 1 none ∈ zTb := zTb_in (zT3 (List.mem_of_getElem? (i := 67) (by decide +kernel))) rfl
theorem zmt3_68 : Cond.methodLink "PretendDesk" 89 (⟨"PretendDesk$Tape", "takeRow", "(IZ)Z"⟩ : MethodName) ∈ zTb := zTb_in (zT3 (List.mem_of_getElem? (i := 68) (by decide +kernel))) rfl
theorem zmt3_69 : Cond.instanceMethod (⟨"PretendDesk$Tape", "takeRow", "(IZ)Z"⟩ : MethodName) ∈ zTb := zTb_in (zT3 (List.mem_of_getElem? (i := 69) (by decide +kernel))) rfl
theorem zmt3_70 : Cond.selects "PretendDesk$Tape" (⟨"PretendDesk$Tape", "takeRow", "(IZ)Z"⟩ : MethodName) (⟨"PretendDesk$Tape", "takeRow", "(IZ)Z"⟩ : MethodName) ∈ zTb := zTb_in (zT3 (List.mem_of_getElem? (i := 70) (by decide +kernel))) rfl
theorem zmt3_71 : Cond.code (⟨"PretendDesk$Tape", "takeRow", "(IZ)Z"⟩ : MethodName) prog_11_method_7_code 5 (some (.boolean)) ∈ zTb := zTb_in (zT3 (List.mem_of_getElem? (i := 71) (by decide +kernel))) rfl
theorem zmt3_72 : Cond.methodLink "PretendDesk$Tape" 45 (⟨"PretendDesk$Tape", "take", "()V"⟩ : MethodName) ∈ zTb := zTb_in (zT3 (List.mem_of_getElem? (i := 72) (by decide +kernel))) rfl
theorem zmt3_74 : Cond.static (⟨"PretendDesk", "isLetter", "(C)Z"⟩ : MethodName) ∈ zTb := zTb_in (zT3 (List.mem_of_getElem? (i := 74) (by decide +kernel))) rfl
theorem zmt3_75 : Cond.code (⟨"PretendDesk", "isLetter", "(C)Z"⟩ : MethodName) prog_1_method_84_code 1 (some (.boolean)) ∈ zTb := zTb_in (zT3 (List.mem_of_getElem? (i := 75) (by decide +kernel))) rfl
theorem zmt3_77 : Cond.static (⟨"PretendDesk", "isDigit", "(C)Z"⟩ : MethodName) ∈ zTb := zTb_in (zT3 (List.mem_of_getElem? (i := 77) (by decide +kernel))) rfl
theorem zmt3_78 : Cond.code (⟨"PretendDesk", "isDigit", "(C)Z"⟩ : MethodName) prog_1_method_83_code 1 (some (.boolean)) ∈ zTb := zTb_in (zT3 (List.mem_of_getElem? (i := 78) (by decide +kernel))) rfl
theorem zmt3_79 : Cond.methodLink "PretendDesk$Tape" 55 (⟨"PretendDesk$Tape", "stuck", "(I)V"⟩ : MethodName) ∈ zTb := zTb_in (zT3 (List.mem_of_getElem? (i := 79) (by decide +kernel))) rfl
theorem zmt3_81 : Cond.instanceMethod (⟨"PretendDesk$Tape", "stuck", "(I)V"⟩ : MethodName) ∈ zTb := zTb_in (zT3 (List.mem_of_getElem? (i := 81) (by decide +kernel))) rfl
theorem zmt3_82 : Cond.code (⟨"PretendDesk$Tape", "stuck", "(I)V"⟩ : MethodName) prog_11_method_5_code 2 none ∈ zTb := zTb_in (zT3 (List.mem_of_getElem? (i := 82) (by decide +kernel))) rfl
theorem zmt3_83 : Cond.methodLink "PretendDesk$Tape" 59 (⟨"PretendDesk$Tape", "wrong", "(II)V"⟩ : MethodName) ∈ zTb := zTb_in (zT3 (List.mem_of_getElem? (i := 83) (by decide +kernel))) rfl
theorem zmt3_85 : Cond.instanceMethod (⟨"PretendDesk$Tape", "wrong", "(II)V"⟩ : MethodName) ∈ zTb := zTb_in (zT3 (List.mem_of_getElem? (i := 85) (by decide +kernel))) rfl
theorem zmt3_86 : Cond.code (⟨"PretendDesk$Tape", "wrong", "(II)V"⟩ : MethodName) prog_11_method_6_code 3 none ∈ zTb := zTb_in (zT3 (List.mem_of_getElem? (i := 86) (by decide +kernel))) rfl
theorem zmt3_87 : Cond.methodLink "PretendDesk" 97 (⟨"PretendDesk$Tape", "row", "()Ljava/lang/String;"⟩ : MethodName) ∈ zTb := zTb_in (zT3 (List.mem_of_getElem? (i := 87) (by decide +kernel))) rfl
theorem zmt3_88 : Cond.instanceMethod (⟨"PretendDesk$Tape", "row", "()Ljava/lang/String;"⟩ : MethodName) ∈ zTb := zTb_in (zT3 (List.mem_of_getElem? (i := 88) (by decide +kernel))) rfl
theorem zmt3_89 : Cond.selects "PretendDesk$Tape" (⟨"PretendDesk$Tape", "row", "()Ljava/lang/String;"⟩ : MethodName) (⟨"PretendDesk$Tape", "row", "()Ljava/lang/String;"⟩ : MethodName) ∈ zTb := zTb_in (zT3 (List.mem_of_getElem? (i := 89) (by decide +kernel))) rfl
theorem zmt3_90 : Cond.code (⟨"PretendDesk$Tape", "row", "()Ljava/lang/String;"⟩ : MethodName) prog_11_method_8_code 2 (some (.object "java/lang/String")) ∈ zTb := zTb_in (zT3 (List.mem_of_getElem? (i := 90) (by decide +kernel))) rfl
theorem zmt3_91 : Cond.methodLink "PretendDesk$Tape" 63 (⟨"java/lang/StringBuilder", "setLength", "(I)V"⟩ : MethodName) ∈ zTb := zTb_in (zT3 (List.mem_of_getElem? (i := 91) (by decide +kernel))) rfl
theorem zmt3_92 : Cond.instanceMethod (⟨"java/lang/StringBuilder", "setLength", "(I)V"⟩ : MethodName) ∈ zTb := zTb_in (zT3 (List.mem_of_getElem? (i := 92) (by decide +kernel))) rfl
theorem zmt3_93 : Cond.selects "java/lang/StringBuilder" (⟨"java/lang/StringBuilder", "setLength", "(I)V"⟩ : MethodName) (⟨"java/lang/StringBuilder", "setLength", "(I)V"⟩ : MethodName) ∈ zTb := zTb_in (zT3 (List.mem_of_getElem? (i := 93) (by decide +kernel))) rfl
theorem zmt3_94 : Cond.code (⟨"java/lang/StringBuilder", "setLength", "(I)V"⟩ : MethodName) prog_20_method_89_code 2 none ∈ zTb := zTb_in (zT3 (List.mem_of_getElem? (i := 94) (by decide +kernel))) rfl
theorem zmt3_95 : Cond.methodLink "java/lang/StringBuilder" 333 (⟨"java/lang/AbstractStringBuilder", "setLength", "(I)V"⟩ : MethodName) ∈ zTb := zTb_in (zT3 (List.mem_of_getElem? (i := 95) (by decide +kernel))) rfl
theorem zmt3_96 : Cond.instanceMethod (⟨"java/lang/AbstractStringBuilder", "setLength", "(I)V"⟩ : MethodName) ∈ zTb := zTb_in (zT3 (List.mem_of_getElem? (i := 96) (by decide +kernel))) rfl
theorem zmt3_97 : Cond.code (⟨"java/lang/AbstractStringBuilder", "setLength", "(I)V"⟩ : MethodName) prog_15_method_13_code 2 none ∈ zTb := zTb_in (zT3 (List.mem_of_getElem? (i := 97) (by decide +kernel))) rfl
theorem zmt3_98 : Cond.methodLink "java/lang/AbstractStringBuilder" 100 (⟨"java/lang/AbstractStringBuilder", "ensureCapacityInternal", "(I)V"⟩ : MethodName) ∈ zTb := zTb_in (zT3 (List.mem_of_getElem? (i := 98) (by decide +kernel))) rfl
theorem zmt3_100 : Cond.instanceMethod (⟨"java/lang/AbstractStringBuilder", "ensureCapacityInternal", "(I)V"⟩ : MethodName) ∈ zTb := zTb_in (zT3 (List.mem_of_getElem? (i := 100) (by decide +kernel))) rfl
theorem zmt3_101 : Cond.code (⟨"java/lang/AbstractStringBuilder", "ensureCapacityInternal", "(I)V"⟩ : MethodName) prog_15_method_9_code 3 none ∈ zTb := zTb_in (zT3 (List.mem_of_getElem? (i := 101) (by decide +kernel))) rfl
theorem zmt3_110 : Cond.static (⟨"java/lang/Math", "max", "(II)I"⟩ : MethodName) ∈ zTb := zTb_in (zT3 (List.mem_of_getElem? (i := 110) (by decide +kernel))) rfl
theorem zmt3_111 : Cond.code (⟨"java/lang/Math", "max", "(II)I"⟩ : MethodName) prog_18_method_65_code 2 (some (.int)) ∈ zTb := zTb_in (zT3 (List.mem_of_getElem? (i := 111) (by decide +kernel))) rfl
theorem zmt3_127 : Cond.methodLink "java/util/Arrays" 304 (⟨"java/lang/Math", "min", "(II)I"⟩ : MethodName) ∈ zTb := zTb_in (zT3 (List.mem_of_getElem? (i := 127) (by decide +kernel))) rfl
theorem zmt3_128 : Cond.static (⟨"java/lang/Math", "min", "(II)I"⟩ : MethodName) ∈ zTb := zTb_in (zT3 (List.mem_of_getElem? (i := 128) (by decide +kernel))) rfl
theorem zmt3_129 : Cond.code (⟨"java/lang/Math", "min", "(II)I"⟩ : MethodName) prog_18_method_69_code 2 (some (.int)) ∈ zTb := zTb_in (zT3 (List.mem_of_getElem? (i := 129) (by decide +kernel))) rfl
theorem zmt3_130 : Cond.methodLink "java/util/Arrays" 150 (⟨"java/lang/System", "arraycopy", "(Ljava/lang/Object;ILjava/lang/Object;II)V"⟩ : MethodName) ∈ zTb := zTb_in (zT3 (List.mem_of_getElem? (i := 130) (by decide +kernel))) rfl
theorem zmt3_131 : Cond.static (⟨"java/lang/System", "arraycopy", "(Ljava/lang/Object;ILjava/lang/Object;II)V"⟩ : MethodName) ∈ zTb := zTb_in (zT3 (List.mem_of_getElem? (i := 131) (by decide +kernel))) rfl
theorem zmt3_132 : Cond.native (⟨"java/lang/System", "arraycopy", "(Ljava/lang/Object;ILjava/lang/Object;II)V"⟩ : MethodName) ∈ zTb := zTb_in (zT3 (List.mem_of_getElem? (i := 132) (by decide +kernel))) rfl
theorem zmt3_133 : Cond.methodLink "java/lang/AbstractStringBuilder" 83 (⟨"java/lang/AbstractStringBuilder", "isLatin1", "()Z"⟩ : MethodName) ∈ zTb := zTb_in (zT3 (List.mem_of_getElem? (i := 133) (by decide +kernel))) rfl
theorem zmt3_134 : Cond.instanceMethod (⟨"java/lang/AbstractStringBuilder", "isLatin1", "()Z"⟩ : MethodName) ∈ zTb := zTb_in (zT3 (List.mem_of_getElem? (i := 134) (by decide +kernel))) rfl
theorem zmt3_135 : Cond.sameMethod "java/lang/AbstractStringBuilder" "java/lang/AbstractStringBuilder" "isLatin1" "()Z" ∈ zTb := zTb_in (zT3 (List.mem_of_getElem? (i := 135) (by decide +kernel))) rfl
theorem zmt3_136 : Cond.selects "java/lang/StringBuilder" (⟨"java/lang/AbstractStringBuilder", "isLatin1", "()Z"⟩ : MethodName) (⟨"java/lang/AbstractStringBuilder", "isLatin1", "()Z"⟩ : MethodName) ∈ zTb := zTb_in (zT3 (List.mem_of_getElem? (i := 136) (by decide +kernel))) rfl
theorem zmt3_137 : Cond.code (⟨"java/lang/AbstractStringBuilder", "isLatin1", "()Z"⟩ : MethodName) prog_15_method_68_code 1 (some (.boolean)) ∈ zTb := zTb_in (zT3 (List.mem_of_getElem? (i := 137) (by decide +kernel))) rfl
theorem zmt3_151 : Cond.methodLink "PretendDesk$Tape" 66 (⟨"java/lang/StringBuilder", "append", "(C)Ljava/lang/StringBuilder;"⟩ : MethodName) ∈ zTb := zTb_in (zT3 (List.mem_of_getElem? (i := 151) (by decide +kernel))) rfl
theorem zmt3_152 : Cond.instanceMethod (⟨"java/lang/StringBuilder", "append", "(C)Ljava/lang/StringBuilder;"⟩ : MethodName) ∈ zTb := zTb_in (zT3 (List.mem_of_getElem? (i := 152) (by decide +kernel))) rfl
theorem zmt3_153 : Cond.selects "java/lang/StringBuilder" (⟨"java/lang/StringBuilder", "append", "(C)Ljava/lang/StringBuilder;"⟩ : MethodName) (⟨"java/lang/StringBuilder", "append", "(C)Ljava/lang/StringBuilder;"⟩ : MethodName) ∈ zTb := zTb_in (zT3 (List.mem_of_getElem? (i := 153) (by decide +kernel))) rfl
theorem zmt3_154 : Cond.code (⟨"java/lang/StringBuilder", "append", "(C)Ljava/lang/StringBuilder;"⟩ : MethodName) prog_20_method_14_code 2 (some (.object "java/lang/StringBuilder")) ∈ zTb := zTb_in (zT3 (List.mem_of_getElem? (i := 154) (by decide +kernel))) rfl
theorem zmt3_155 : Cond.methodLink "java/lang/StringBuilder" 50 (⟨"java/lang/AbstractStringBuilder", "append", "(C)Ljava/lang/AbstractStringBuilder;"⟩ : MethodName) ∈ zTb := zTb_in (zT3 (List.mem_of_getElem? (i := 155) (by decide +kernel))) rfl
theorem zmt3_156 : Cond.instanceMethod (⟨"java/lang/AbstractStringBuilder", "append", "(C)Ljava/lang/AbstractStringBuilder;"⟩ : MethodName) ∈ zTb := zTb_in (zT3 (List.mem_of_getElem? (i := 156) (by decide +kernel))) rfl
theorem zmt3_157 : Cond.code (⟨"java/lang/AbstractStringBuilder", "append", "(C)Ljava/lang/AbstractStringBuilder;"⟩ : MethodName) prog_15_method_31_code 2 (some (.object "java/lang/AbstractStringBuilder")) ∈ zTb := zTb_in (zT3 (List.mem_of_getElem? (i := 157) (by decide +kernel))) rfl
theorem zmt3_158 : Cond.methodLink "java/lang/AbstractStringBuilder" 191 (⟨"java/lang/StringLatin1", "canEncode", "(C)Z"⟩ : MethodName) ∈ zTb := zTb_in (zT3 (List.mem_of_getElem? (i := 158) (by decide +kernel))) rfl
theorem zmt3_159 : Cond.static (⟨"java/lang/StringLatin1", "canEncode", "(C)Z"⟩ : MethodName) ∈ zTb := zTb_in (zT3 (List.mem_of_getElem? (i := 159) (by decide +kernel))) rfl
theorem zmt3_160 : Cond.code (⟨"java/lang/StringLatin1", "canEncode", "(C)Z"⟩ : MethodName) prog_21_method_3_code 1 (some (.boolean)) ∈ zTb := zTb_in (zT3 (List.mem_of_getElem? (i := 160) (by decide +kernel))) rfl
theorem zmt3_180 : Cond.fieldLink "java/lang/String" 1053 "jdk/internal/util/Preconditions" "SIOOBE_FORMATTER" "Ljava/util/function/BiFunction;" ∈ zTb := zTb_in (zT3 (List.mem_of_getElem? (i := 180) (by decide +kernel))) rfl
theorem zmt3_201 : Cond.static (⟨"java/lang/String", "checkIndex", "(II)V"⟩ : MethodName) ∈ zTb := zTb_in (zT3 (List.mem_of_getElem? (i := 201) (by decide +kernel))) rfl
theorem zmt3_202 : Cond.code (⟨"java/lang/String", "checkIndex", "(II)V"⟩ : MethodName) prog_19_method_155_code 2 none ∈ zTb := zTb_in (zT3 (List.mem_of_getElem? (i := 202) (by decide +kernel))) rfl
theorem zmt3_203 : Cond.methodLink "java/lang/String" 1059 (⟨"jdk/internal/util/Preconditions", "checkIndex", "(IILjava/util/function/BiFunction;)I"⟩ : MethodName) ∈ zTb := zTb_in (zT3 (List.mem_of_getElem? (i := 203) (by decide +kernel))) rfl
theorem zmt3_204 : Cond.static (⟨"jdk/internal/util/Preconditions", "checkIndex", "(IILjava/util/function/BiFunction;)I"⟩ : MethodName) ∈ zTb := zTb_in (zT3 (List.mem_of_getElem? (i := 204) (by decide +kernel))) rfl
theorem zmt3_205 : Cond.code (⟨"jdk/internal/util/Preconditions", "checkIndex", "(IILjava/util/function/BiFunction;)I"⟩ : MethodName) prog_26_method_11_code 3 (some (.int)) ∈ zTb := zTb_in (zT3 (List.mem_of_getElem? (i := 205) (by decide +kernel))) rfl
theorem zmt3_206 : Cond.methodLink "PretendDesk$Tape" 70 (⟨"java/lang/StringBuilder", "toString", "()Ljava/lang/String;"⟩ : MethodName) ∈ zTb := zTb_in (zT3 (List.mem_of_getElem? (i := 206) (by decide +kernel))) rfl
theorem zmt3_207 : Cond.instanceMethod (⟨"java/lang/StringBuilder", "toString", "()Ljava/lang/String;"⟩ : MethodName) ∈ zTb := zTb_in (zT3 (List.mem_of_getElem? (i := 207) (by decide +kernel))) rfl
theorem zmt3_208 : Cond.selects "java/lang/StringBuilder" (⟨"java/lang/StringBuilder", "toString", "()Ljava/lang/String;"⟩ : MethodName) (⟨"java/lang/StringBuilder", "toString", "()Ljava/lang/String;"⟩ : MethodName) ∈ zTb := zTb_in (zT3 (List.mem_of_getElem? (i := 208) (by decide +kernel))) rfl
theorem zmt3_209 : Cond.code (⟨"java/lang/StringBuilder", "toString", "()Ljava/lang/String;"⟩ : MethodName) prog_20_method_42_code 1 (some (.object "java/lang/String")) ∈ zTb := zTb_in (zT3 (List.mem_of_getElem? (i := 209) (by decide +kernel))) rfl
theorem zmt3_210 : Cond.classLink "java/lang/StringBuilder" 18 "java/lang/String" ∈ zTb := zTb_in (zT3 (List.mem_of_getElem? (i := 210) (by decide +kernel))) rfl
theorem zmt3_211 : Cond.instantiable "java/lang/String" 4 ∈ zTb := zTb_in (zT3 (List.mem_of_getElem? (i := 211) (by decide +kernel))) rfl
theorem zmt3_212 : Cond.methodLink "java/lang/StringBuilder" 137 (⟨"java/lang/String", "<init>", "(Ljava/lang/StringBuilder;)V"⟩ : MethodName) ∈ zTb := zTb_in (zT3 (List.mem_of_getElem? (i := 212) (by decide +kernel))) rfl
theorem zmt3_213 : Cond.instanceMethod (⟨"java/lang/String", "<init>", "(Ljava/lang/StringBuilder;)V"⟩ : MethodName) ∈ zTb := zTb_in (zT3 (List.mem_of_getElem? (i := 213) (by decide +kernel))) rfl
theorem zmt3_214 : Cond.code (⟨"java/lang/String", "<init>", "(Ljava/lang/StringBuilder;)V"⟩ : MethodName) prog_19_method_53_code 2 none ∈ zTb := zTb_in (zT3 (List.mem_of_getElem? (i := 214) (by decide +kernel))) rfl
theorem zmt3_215 : Cond.methodLink "java/lang/String" 489 (⟨"java/lang/String", "<init>", "(Ljava/lang/AbstractStringBuilder;Ljava/lang/Void;)V"⟩ : MethodName) ∈ zTb := zTb_in (zT3 (List.mem_of_getElem? (i := 215) (by decide +kernel))) rfl
theorem zmt3_216 : Cond.instanceMethod (⟨"java/lang/String", "<init>", "(Ljava/lang/AbstractStringBuilder;Ljava/lang/Void;)V"⟩ : MethodName) ∈ zTb := zTb_in (zT3 (List.mem_of_getElem? (i := 216) (by decide +kernel))) rfl
theorem zmt3_217 : Cond.code (⟨"java/lang/String", "<init>", "(Ljava/lang/AbstractStringBuilder;Ljava/lang/Void;)V"⟩ : MethodName) prog_19_method_150_code 5 none ∈ zTb := zTb_in (zT3 (List.mem_of_getElem? (i := 217) (by decide +kernel))) rfl
theorem zmt3_218 : Cond.methodLink "java/lang/String" 1 (⟨"java/lang/Object", "<init>", "()V"⟩ : MethodName) ∈ zTb := zTb_in (zT3 (List.mem_of_getElem? (i := 218) (by decide +kernel))) rfl
theorem zmt3_219 : Cond.methodLink "java/lang/String" 552 (⟨"java/lang/AbstractStringBuilder", "getValue", "()[B"⟩ : MethodName) ∈ zTb := zTb_in (zT3 (List.mem_of_getElem? (i := 219) (by decide +kernel))) rfl
theorem zmt3_220 : Cond.instanceMethod (⟨"java/lang/AbstractStringBuilder", "getValue", "()[B"⟩ : MethodName) ∈ zTb := zTb_in (zT3 (List.mem_of_getElem? (i := 220) (by decide +kernel))) rfl
theorem zmt3_221 : Cond.sameMethod "java/lang/AbstractStringBuilder" "java/lang/AbstractStringBuilder" "getValue" "()[B" ∈ zTb := zTb_in (zT3 (List.mem_of_getElem? (i := 221) (by decide +kernel))) rfl
theorem zmt3_222 : Cond.selects "java/lang/StringBuilder" (⟨"java/lang/AbstractStringBuilder", "getValue", "()[B"⟩ : MethodName) (⟨"java/lang/AbstractStringBuilder", "getValue", "()[B"⟩ : MethodName) ∈ zTb := zTb_in (zT3 (List.mem_of_getElem? (i := 222) (by decide +kernel))) rfl
theorem zmt3_223 : Cond.code (⟨"java/lang/AbstractStringBuilder", "getValue", "()[B"⟩ : MethodName) prog_15_method_64_code 1 (some (.array .byte)) ∈ zTb := zTb_in (zT3 (List.mem_of_getElem? (i := 223) (by decide +kernel))) rfl
theorem zmt3_224 : Cond.methodLink "java/lang/String" 549 (⟨"java/lang/AbstractStringBuilder", "length", "()I"⟩ : MethodName) ∈ zTb := zTb_in (zT3 (List.mem_of_getElem? (i := 224) (by decide +kernel))) rfl
theorem zmt3_225 : Cond.instanceMethod (⟨"java/lang/AbstractStringBuilder", "length", "()I"⟩ : MethodName) ∈ zTb := zTb_in (zT3 (List.mem_of_getElem? (i := 225) (by decide +kernel))) rfl
theorem zmt3_226 : Cond.sameMethod "java/lang/AbstractStringBuilder" "java/lang/AbstractStringBuilder" "length" "()I" ∈ zTb := zTb_in (zT3 (List.mem_of_getElem? (i := 226) (by decide +kernel))) rfl
theorem zmt3_227 : Cond.selects "java/lang/StringBuilder" (⟨"java/lang/AbstractStringBuilder", "length", "()I"⟩ : MethodName) (⟨"java/lang/StringBuilder", "length", "()I"⟩ : MethodName) ∈ zTb := zTb_in (zT3 (List.mem_of_getElem? (i := 227) (by decide +kernel))) rfl
theorem zmt3_228 : Cond.instanceMethod (⟨"java/lang/StringBuilder", "length", "()I"⟩ : MethodName) ∈ zTb := zTb_in (zT3 (List.mem_of_getElem? (i := 228) (by decide +kernel))) rfl
theorem zmt3_229 : Cond.code (⟨"java/lang/StringBuilder", "length", "()I"⟩ : MethodName) prog_20_method_93_code 1 (some (.int)) ∈ zTb := zTb_in (zT3 (List.mem_of_getElem? (i := 229) (by decide +kernel))) rfl
theorem zmt3_230 : Cond.methodLink "java/lang/StringBuilder" 343 (⟨"java/lang/AbstractStringBuilder", "length", "()I"⟩ : MethodName) ∈ zTb := zTb_in (zT3 (List.mem_of_getElem? (i := 230) (by decide +kernel))) rfl
theorem zmt3_231 : Cond.code (⟨"java/lang/AbstractStringBuilder", "length", "()I"⟩ : MethodName) prog_15_method_6_code 1 (some (.int)) ∈ zTb := zTb_in (zT3 (List.mem_of_getElem? (i := 231) (by decide +kernel))) rfl
theorem zmt3_232 : Cond.methodLink "java/lang/String" 1047 (⟨"java/lang/AbstractStringBuilder", "isLatin1", "()Z"⟩ : MethodName) ∈ zTb := zTb_in (zT3 (List.mem_of_getElem? (i := 232) (by decide +kernel))) rfl
theorem zmt3_233 : Cond.methodLink "java/lang/String" 54 (⟨"java/util/Arrays", "copyOfRange", "([BII)[B"⟩ : MethodName) ∈ zTb := zTb_in (zT3 (List.mem_of_getElem? (i := 233) (by decide +kernel))) rfl
theorem zmt3_234 : Cond.static (⟨"java/util/Arrays", "copyOfRange", "([BII)[B"⟩ : MethodName) ∈ zTb := zTb_in (zT3 (List.mem_of_getElem? (i := 234) (by decide +kernel))) rfl
theorem zmt3_235 : Cond.code (⟨"java/util/Arrays", "copyOfRange", "([BII)[B"⟩ : MethodName) prog_24_method_132_code 3 (some (.array .byte)) ∈ zTb := zTb_in (zT3 (List.mem_of_getElem? (i := 235) (by decide +kernel))) rfl
theorem zmt3_236 : Cond.methodLink "java/util/Arrays" 339 (⟨"java/util/Arrays", "copyOfRangeByte", "([BII)[B"⟩ : MethodName) ∈ zTb := zTb_in (zT3 (List.mem_of_getElem? (i := 236) (by decide +kernel))) rfl
theorem zmt3_237 : Cond.static (⟨"java/util/Arrays", "copyOfRangeByte", "([BII)[B"⟩ : MethodName) ∈ zTb := zTb_in (zT3 (List.mem_of_getElem? (i := 237) (by decide +kernel))) rfl
theorem zmt3_238 : Cond.code (⟨"java/util/Arrays", "copyOfRangeByte", "([BII)[B"⟩ : MethodName) prog_24_method_133_code 5 (some (.array .byte)) ∈ zTb := zTb_in (zT3 (List.mem_of_getElem? (i := 238) (by decide +kernel))) rfl
theorem zmt3_239 : Cond.methodLink "java/util/Arrays" 343 (⟨"java/util/Arrays", "checkLength", "(II)V"⟩ : MethodName) ∈ zTb := zTb_in (zT3 (List.mem_of_getElem? (i := 239) (by decide +kernel))) rfl
theorem zmt4_0 : Cond.static (⟨"java/util/Arrays", "checkLength", "(II)V"⟩ : MethodName) ∈ zTb := zTb_in (zT4 (List.mem_of_getElem? (i := 0) (by decide +kernel))) rfl
theorem zmt4_1 : Cond.code (⟨"java/util/Arrays", "checkLength", "(II)V"⟩ : MethodName) prog_24_method_131_code 2 none ∈ zTb := zTb_in (zT4 (List.mem_of_getElem? (i := 1) (by decide +kernel))) rfl
theorem zmt4_2 : Cond.fieldLink "java/lang/String" 38 "java/lang/String" "COMPACT_STRINGS" "Z" ∈ zTb := zTb_in (zT4 (List.mem_of_getElem? (i := 2) (by decide +kernel))) rfl
theorem zmt4_16 : Cond.fieldLink "java/lang/String" 9 "java/lang/String" "value" "[B" ∈ zTb := zTb_in (zT4 (List.mem_of_getElem? (i := 16) (by decide +kernel))) rfl
theorem zmt4_17 : Cond.fieldLink "java/lang/String" 15 "java/lang/String" "coder" "B" ∈ zTb := zTb_in (zT4 (List.mem_of_getElem? (i := 17) (by decide +kernel))) rfl
theorem zmt4_18 : Cond.laysFinal "java/lang/String" "java/lang/String" "value" "[B" ∈ zTb := zTb_in (zT4 (List.mem_of_getElem? (i := 18) (by decide +kernel))) rfl
theorem zmt4_20 : Cond.laysFinal "java/lang/String" "java/lang/String" "coder" "B" ∈ zTb := zTb_in (zT4 (List.mem_of_getElem? (i := 20) (by decide +kernel))) rfl
theorem zmt4_22 : Cond.lays "java/lang/String" "java/lang/String" "hash" "I" ∈ zTb := zTb_in (zT4 (List.mem_of_getElem? (i := 22) (by decide +kernel))) rfl
theorem zmt4_24 : Cond.lays "java/lang/String" "java/lang/String" "hashIsZero" "Z" ∈ zTb := zTb_in (zT4 (List.mem_of_getElem? (i := 24) (by decide +kernel))) rfl
theorem zmt4_31 : Cond.methodLink "PretendDesk" 107 (⟨"PretendDesk", "isPage", "(I)Z"⟩ : MethodName) ∈ zTb := zTb_in (zT4 (List.mem_of_getElem? (i := 31) (by decide +kernel))) rfl
theorem zmt4_33 : Cond.instanceMethod (⟨"PretendDesk", "isPage", "(I)Z"⟩ : MethodName) ∈ zTb := zTb_in (zT4 (List.mem_of_getElem? (i := 33) (by decide +kernel))) rfl
theorem zmt4_34 : Cond.code (⟨"PretendDesk", "isPage", "(I)Z"⟩ : MethodName) prog_1_method_76_code 2 (some (.boolean)) ∈ zTb := zTb_in (zT4 (List.mem_of_getElem? (i := 34) (by decide +kernel))) rfl
theorem zmt4_39 : Cond.methodLink "PretendDesk" 118 (⟨"PretendDesk", "isHouse", "(I)Z"⟩ : MethodName) ∈ zTb := zTb_in (zT4 (List.mem_of_getElem? (i := 39) (by decide +kernel))) rfl
theorem zmt4_41 : Cond.instanceMethod (⟨"PretendDesk", "isHouse", "(I)Z"⟩ : MethodName) ∈ zTb := zTb_in (zT4 (List.mem_of_getElem? (i := 41) (by decide +kernel))) rfl
theorem zmt4_42 : Cond.code (⟨"PretendDesk", "isHouse", "(I)Z"⟩ : MethodName) prog_1_method_77_code 2 (some (.boolean)) ∈ zTb := zTb_in (zT4 (List.mem_of_getElem? (i := 42) (by decide +kernel))) rfl
theorem zmt4_43 : Cond.methodLink "PretendDesk" 124 (⟨"PretendDesk$Tape", "takePage", "(LPretendDesk$Page;)Z"⟩ : MethodName) ∈ zTb := zTb_in (zT4 (List.mem_of_getElem? (i := 43) (by decide +kernel))) rfl
theorem zmt4_44 : Cond.instanceMethod (⟨"PretendDesk$Tape", "takePage", "(LPretendDesk$Page;)Z"⟩ : MethodName) ∈ zTb := zTb_in (zT4 (List.mem_of_getElem? (i := 44) (by decide +kernel))) rfl
theorem zmt4_45 : Cond.selects "PretendDesk$Tape" (⟨"PretendDesk$Tape", "takePage", "(LPretendDesk$Page;)Z"⟩ : MethodName) (⟨"PretendDesk$Tape", "takePage", "(LPretendDesk$Page;)Z"⟩ : MethodName) ∈ zTb := zTb_in (zT4 (List.mem_of_getElem? (i := 45) (by decide +kernel))) rfl
theorem zmt4_46 : Cond.code (⟨"PretendDesk$Tape", "takePage", "(LPretendDesk$Page;)Z"⟩ : MethodName) prog_11_method_10_code 4 (some (.boolean)) ∈ zTb := zTb_in (zT4 (List.mem_of_getElem? (i := 46) (by decide +kernel))) rfl
theorem zmt4_47 : Cond.methodLink "PretendDesk$Tape" 80 (⟨"PretendDesk$Tape", "step", "()V"⟩ : MethodName) ∈ zTb := zTb_in (zT4 (List.mem_of_getElem? (i := 47) (by decide +kernel))) rfl
theorem zmt4_49 : Cond.instanceMethod (⟨"PretendDesk$Tape", "step", "()V"⟩ : MethodName) ∈ zTb := zTb_in (zT4 (List.mem_of_getElem? (i := 49) (by decide +kernel))) rfl
theorem zmt4_50 : Cond.code (⟨"PretendDesk$Tape", "step", "()V"⟩ : MethodName) prog_11_method_19_code 3 none ∈ zTb := zTb_in (zT4 (List.mem_of_getElem? (i := 50) (by decide +kernel))) rfl
theorem zmt4_52 : Cond.static (⟨"PretendDesk", "isBlank", "(C)Z"⟩ : MethodName) ∈ zTb := zTb_in (zT4 (List.mem_of_getElem? (i := 52) (by decide +kernel))) rfl
theorem zmt4_53 : Cond.code (⟨"PretendDesk", "isBlank", "(C)Z"⟩ : MethodName) prog_1_method_85_code 1 (some (.boolean)) ∈ zTb := zTb_in (zT4 (List.mem_of_getElem? (i := 53) (by decide +kernel))) rfl
theorem zmt4_54 : Cond.methodLink "PretendDesk$Tape" 135 (⟨"PretendDesk$Tape", "stepDigits", "()V"⟩ : MethodName) ∈ zTb := zTb_in (zT4 (List.mem_of_getElem? (i := 54) (by decide +kernel))) rfl
theorem zmt4_56 : Cond.instanceMethod (⟨"PretendDesk$Tape", "stepDigits", "()V"⟩ : MethodName) ∈ zTb := zTb_in (zT4 (List.mem_of_getElem? (i := 56) (by decide +kernel))) rfl
theorem zmt4_57 : Cond.code (⟨"PretendDesk$Tape", "stepDigits", "()V"⟩ : MethodName) prog_11_method_20_code 1 none ∈ zTb := zTb_in (zT4 (List.mem_of_getElem? (i := 57) (by decide +kernel))) rfl
theorem zmt4_58 : Cond.methodLink "PretendDesk$Tape" 138 (⟨"PretendDesk$Tape", "stepLetters", "()V"⟩ : MethodName) ∈ zTb := zTb_in (zT4 (List.mem_of_getElem? (i := 58) (by decide +kernel))) rfl
theorem zmt4_60 : Cond.instanceMethod (⟨"PretendDesk$Tape", "stepLetters", "()V"⟩ : MethodName) ∈ zTb := zTb_in (zT4 (List.mem_of_getElem? (i := 60) (by decide +kernel))) rfl
theorem zmt4_61 : Cond.code (⟨"PretendDesk$Tape", "stepLetters", "()V"⟩ : MethodName) prog_11_method_21_code 5 none ∈ zTb := zTb_in (zT4 (List.mem_of_getElem? (i := 61) (by decide +kernel))) rfl
theorem zmt4_63 : Cond.methodLink "PretendDesk$Tape" 143 (⟨"java/lang/String", "length", "()I"⟩ : MethodName) ∈ zTb := zTb_in (zT4 (List.mem_of_getElem? (i := 63) (by decide +kernel))) rfl
theorem zmt4_64 : Cond.instanceMethod (⟨"java/lang/String", "length", "()I"⟩ : MethodName) ∈ zTb := zTb_in (zT4 (List.mem_of_getElem? (i := 64) (by decide +kernel))) rfl
theorem zmt4_65 : Cond.selects "java/lang/String" (⟨"java/lang/String", "length", "()I"⟩ : MethodName) (⟨"java/lang/String", "length", "()I"⟩ : MethodName) ∈ zTb := zTb_in (zT4 (List.mem_of_getElem? (i := 65) (by decide +kernel))) rfl
theorem zmt4_66 : Cond.code (⟨"java/lang/String", "length", "()I"⟩ : MethodName) prog_19_method_54_code 1 (some (.int)) ∈ zTb := zTb_in (zT4 (List.mem_of_getElem? (i := 66) (by decide +kernel))) rfl
theorem zmt4_67 : Cond.methodLink "java/lang/String" 335 (⟨"java/lang/String", "coder", "()B"⟩ : MethodName) ∈ zTb := zTb_in (zT4 (List.mem_of_getElem? (i := 67) (by decide +kernel))) rfl
theorem zmt4_68 : Cond.instanceMethod (⟨"java/lang/String", "coder", "()B"⟩ : MethodName) ∈ zTb := zTb_in (zT4 (List.mem_of_getElem? (i := 68) (by decide +kernel))) rfl
theorem zmt4_69 : Cond.selects "java/lang/String" (⟨"java/lang/String", "coder", "()B"⟩ : MethodName) (⟨"java/lang/String", "coder", "()B"⟩ : MethodName) ∈ zTb := zTb_in (zT4 (List.mem_of_getElem? (i := 69) (by decide +kernel))) rfl
theorem zmt4_70 : Cond.code (⟨"java/lang/String", "coder", "()B"⟩ : MethodName) prog_19_method_152_code 1 (some (.byte)) ∈ zTb := zTb_in (zT4 (List.mem_of_getElem? (i := 70) (by decide +kernel))) rfl
theorem zmt4_71 : Cond.methodLink "PretendDesk$Tape" 147 (⟨"java/lang/String", "charAt", "(I)C"⟩ : MethodName) ∈ zTb := zTb_in (zT4 (List.mem_of_getElem? (i := 71) (by decide +kernel))) rfl
theorem zmt4_72 : Cond.instanceMethod (⟨"java/lang/String", "charAt", "(I)C"⟩ : MethodName) ∈ zTb := zTb_in (zT4 (List.mem_of_getElem? (i := 72) (by decide +kernel))) rfl
theorem zmt4_73 : Cond.selects "java/lang/String" (⟨"java/lang/String", "charAt", "(I)C"⟩ : MethodName) (⟨"java/lang/String", "charAt", "(I)C"⟩ : MethodName) ∈ zTb := zTb_in (zT4 (List.mem_of_getElem? (i := 73) (by decide +kernel))) rfl
theorem zmt4_74 : Cond.code (⟨"java/lang/String", "charAt", "(I)C"⟩ : MethodName) prog_19_method_56_code 2 (some (.char)) ∈ zTb := zTb_in (zT4 (List.mem_of_getElem? (i := 74) (by decide +kernel))) rfl
theorem zmt4_75 : Cond.methodLink "java/lang/String" 492 (⟨"java/lang/String", "isLatin1", "()Z"⟩ : MethodName) ∈ zTb := zTb_in (zT4 (List.mem_of_getElem? (i := 75) (by decide +kernel))) rfl
theorem zmt4_76 : Cond.instanceMethod (⟨"java/lang/String", "isLatin1", "()Z"⟩ : MethodName) ∈ zTb := zTb_in (zT4 (List.mem_of_getElem? (i := 76) (by decide +kernel))) rfl
theorem zmt4_77 : Cond.selects "java/lang/String" (⟨"java/lang/String", "isLatin1", "()Z"⟩ : MethodName) (⟨"java/lang/String", "isLatin1", "()Z"⟩ : MethodName) ∈ zTb := zTb_in (zT4 (List.mem_of_getElem? (i := 77) (by decide +kernel))) rfl
theorem zmt4_78 : Cond.code (⟨"java/lang/String", "isLatin1", "()Z"⟩ : MethodName) prog_19_method_154_code 1 (some (.boolean)) ∈ zTb := zTb_in (zT4 (List.mem_of_getElem? (i := 78) (by decide +kernel))) rfl
theorem zmt4_79 : Cond.methodLink "java/lang/String" 495 (⟨"java/lang/StringLatin1", "charAt", "([BI)C"⟩ : MethodName) ∈ zTb := zTb_in (zT4 (List.mem_of_getElem? (i := 79) (by decide +kernel))) rfl
theorem zmt4_80 : Cond.static (⟨"java/lang/StringLatin1", "charAt", "([BI)C"⟩ : MethodName) ∈ zTb := zTb_in (zT4 (List.mem_of_getElem? (i := 80) (by decide +kernel))) rfl
theorem zmt4_81 : Cond.code (⟨"java/lang/StringLatin1", "charAt", "([BI)C"⟩ : MethodName) prog_21_method_2_code 2 (some (.char)) ∈ zTb := zTb_in (zT4 (List.mem_of_getElem? (i := 81) (by decide +kernel))) rfl
theorem zmt4_82 : Cond.methodLink "java/lang/StringLatin1" 9 (⟨"java/lang/String", "checkIndex", "(II)V"⟩ : MethodName) ∈ zTb := zTb_in (zT4 (List.mem_of_getElem? (i := 82) (by decide +kernel))) rfl
theorem zmt4_86 : Cond.methodLink "PretendDesk$Tape" 88 (⟨"PretendDesk$Tape", "readBox", "(LPretendDesk$Page;I)I"⟩ : MethodName) ∈ zTb := zTb_in (zT4 (List.mem_of_getElem? (i := 86) (by decide +kernel))) rfl
theorem zmt4_88 : Cond.instanceMethod (⟨"PretendDesk$Tape", "readBox", "(LPretendDesk$Page;I)I"⟩ : MethodName) ∈ zTb := zTb_in (zT4 (List.mem_of_getElem? (i := 88) (by decide +kernel))) rfl
theorem zmt4_89 : Cond.code (⟨"PretendDesk$Tape", "readBox", "(LPretendDesk$Page;I)I"⟩ : MethodName) prog_11_method_11_code 4 (some (.int)) ∈ zTb := zTb_in (zT4 (List.mem_of_getElem? (i := 89) (by decide +kernel))) rfl
theorem zmt4_90 : Cond.methodLink "PretendDesk$Tape" 101 (⟨"PretendDesk$Page", "isFull", "()Z"⟩ : MethodName) ∈ zTb := zTb_in (zT4 (List.mem_of_getElem? (i := 90) (by decide +kernel))) rfl
theorem zmt4_91 : Cond.instanceMethod (⟨"PretendDesk$Page", "isFull", "()Z"⟩ : MethodName) ∈ zTb := zTb_in (zT4 (List.mem_of_getElem? (i := 91) (by decide +kernel))) rfl
theorem zmt4_92 : Cond.selects "PretendDesk$Page" (⟨"PretendDesk$Page", "isFull", "()Z"⟩ : MethodName) (⟨"PretendDesk$Page", "isFull", "()Z"⟩ : MethodName) ∈ zTb := zTb_in (zT4 (List.mem_of_getElem? (i := 92) (by decide +kernel))) rfl
theorem zmt4_93 : Cond.code (⟨"PretendDesk$Page", "isFull", "()Z"⟩ : MethodName) prog_7_method_4_code 1 (some (.boolean)) ∈ zTb := zTb_in (zT4 (List.mem_of_getElem? (i := 93) (by decide +kernel))) rfl
theorem zmt4_94 : Cond.methodLink "PretendDesk$Tape" 105 (⟨"PretendDesk$Page", "add", "(II)I"⟩ : MethodName) ∈ zTb := zTb_in (zT4 (List.mem_of_getElem? (i := 94) (by decide +kernel))) rfl
theorem zmt4_95 : Cond.instanceMethod (⟨"PretendDesk$Page", "add", "(II)I"⟩ : MethodName) ∈ zTb := zTb_in (zT4 (List.mem_of_getElem? (i := 95) (by decide +kernel))) rfl
theorem zmt4_96 : Cond.selects "PretendDesk$Page" (⟨"PretendDesk$Page", "add", "(II)I"⟩ : MethodName) (⟨"PretendDesk$Page", "add", "(II)I"⟩ : MethodName) ∈ zTb := zTb_in (zT4 (List.mem_of_getElem? (i := 96) (by decide +kernel))) rfl
theorem zmt4_97 : Cond.code (⟨"PretendDesk$Page", "add", "(II)I"⟩ : MethodName) prog_7_method_5_code 3 (some (.int)) ∈ zTb := zTb_in (zT4 (List.mem_of_getElem? (i := 97) (by decide +kernel))) rfl
theorem zmt4_98 : Cond.methodLink "PretendDesk$Page" 19 (⟨"PretendDesk$Page", "tell", "(III)V"⟩ : MethodName) ∈ zTb := zTb_in (zT4 (List.mem_of_getElem? (i := 98) (by decide +kernel))) rfl
theorem zmt4_99 : Cond.instanceMethod (⟨"PretendDesk$Page", "tell", "(III)V"⟩ : MethodName) ∈ zTb := zTb_in (zT4 (List.mem_of_getElem? (i := 99) (by decide +kernel))) rfl
theorem zmt4_100 : Cond.selects "PretendDesk$Page" (⟨"PretendDesk$Page", "tell", "(III)V"⟩ : MethodName) (⟨"PretendDesk$Page", "tell", "(III)V"⟩ : MethodName) ∈ zTb := zTb_in (zT4 (List.mem_of_getElem? (i := 100) (by decide +kernel))) rfl
theorem zmt4_101 : Cond.code (⟨"PretendDesk$Page", "tell", "(III)V"⟩ : MethodName) prog_7_method_3_code 4 none ∈ zTb := zTb_in (zT4 (List.mem_of_getElem? (i := 101) (by decide +kernel))) rfl
theorem zmt4_102 : Cond.methodLink "PretendDesk$Tape" 109 (⟨"PretendDesk$Tape", "readHead", "(LPretendDesk$Page;I)V"⟩ : MethodName) ∈ zTb := zTb_in (zT4 (List.mem_of_getElem? (i := 102) (by decide +kernel))) rfl
theorem zmt4_104 : Cond.instanceMethod (⟨"PretendDesk$Tape", "readHead", "(LPretendDesk$Page;I)V"⟩ : MethodName) ∈ zTb := zTb_in (zT4 (List.mem_of_getElem? (i := 104) (by decide +kernel))) rfl
theorem zmt4_105 : Cond.code (⟨"PretendDesk$Tape", "readHead", "(LPretendDesk$Page;I)V"⟩ : MethodName) prog_11_method_12_code 6 none ∈ zTb := zTb_in (zT4 (List.mem_of_getElem? (i := 105) (by decide +kernel))) rfl
theorem zmt4_106 : Cond.methodLink "PretendDesk$Tape" 113 (⟨"PretendDesk$Tape", "readNumber", "(I)I"⟩ : MethodName) ∈ zTb := zTb_in (zT4 (List.mem_of_getElem? (i := 106) (by decide +kernel))) rfl
theorem zmt4_108 : Cond.instanceMethod (⟨"PretendDesk$Tape", "readNumber", "(I)I"⟩ : MethodName) ∈ zTb := zTb_in (zT4 (List.mem_of_getElem? (i := 108) (by decide +kernel))) rfl
theorem zmt4_109 : Cond.code (⟨"PretendDesk$Tape", "readNumber", "(I)I"⟩ : MethodName) prog_11_method_17_code 3 (some (.int)) ∈ zTb := zTb_in (zT4 (List.mem_of_getElem? (i := 109) (by decide +kernel))) rfl
theorem zmt4_110 : Cond.methodLink "PretendDesk$Tape" 117 (⟨"PretendDesk$Page", "tell", "(III)V"⟩ : MethodName) ∈ zTb := zTb_in (zT4 (List.mem_of_getElem? (i := 110) (by decide +kernel))) rfl
theorem zmt4_111 : Cond.methodLink "PretendDesk$Tape" 95 (⟨"PretendDesk$Tape", "expect", "(I)V"⟩ : MethodName) ∈ zTb := zTb_in (zT4 (List.mem_of_getElem? (i := 111) (by decide +kernel))) rfl
theorem zmt4_113 : Cond.instanceMethod (⟨"PretendDesk$Tape", "expect", "(I)V"⟩ : MethodName) ∈ zTb := zTb_in (zT4 (List.mem_of_getElem? (i := 113) (by decide +kernel))) rfl
theorem zmt4_114 : Cond.code (⟨"PretendDesk$Tape", "expect", "(I)V"⟩ : MethodName) prog_11_method_18_code 2 none ∈ zTb := zTb_in (zT4 (List.mem_of_getElem? (i := 114) (by decide +kernel))) rfl
theorem zmt4_115 : Cond.methodLink "PretendDesk" 132 (⟨"PretendDesk$Page", "copy", "(LPretendDesk$Page;)V"⟩ : MethodName) ∈ zTb := zTb_in (zT4 (List.mem_of_getElem? (i := 115) (by decide +kernel))) rfl
theorem zmt4_116 : Cond.instanceMethod (⟨"PretendDesk$Page", "copy", "(LPretendDesk$Page;)V"⟩ : MethodName) ∈ zTb := zTb_in (zT4 (List.mem_of_getElem? (i := 116) (by decide +kernel))) rfl
theorem zmt4_117 : Cond.selects "PretendDesk$Page" (⟨"PretendDesk$Page", "copy", "(LPretendDesk$Page;)V"⟩ : MethodName) (⟨"PretendDesk$Page", "copy", "(LPretendDesk$Page;)V"⟩ : MethodName) ∈ zTb := zTb_in (zT4 (List.mem_of_getElem? (i := 117) (by decide +kernel))) rfl
theorem zmt4_118 : Cond.code (⟨"PretendDesk$Page", "copy", "(LPretendDesk$Page;)V"⟩ : MethodName) prog_7_method_7_code 2 none ∈ zTb := zTb_in (zT4 (List.mem_of_getElem? (i := 118) (by decide +kernel))) rfl
theorem zmt4_119 : Cond.methodLink "PretendDesk$Page" 27 (⟨"java/lang/System", "arraycopy", "(Ljava/lang/Object;ILjava/lang/Object;II)V"⟩ : MethodName) ∈ zTb := zTb_in (zT4 (List.mem_of_getElem? (i := 119) (by decide +kernel))) rfl
theorem zmt4_132 : Cond.methodLink "PretendDesk" 148 (⟨"PretendDesk", "signNumber", "(I)I"⟩ : MethodName) ∈ zTb := zTb_in (zT4 (List.mem_of_getElem? (i := 132) (by decide +kernel))) rfl
theorem zmt4_133 : Cond.static (⟨"PretendDesk", "signNumber", "(I)I"⟩ : MethodName) ∈ zTb := zTb_in (zT4 (List.mem_of_getElem? (i := 133) (by decide +kernel))) rfl
theorem zmt4_134 : Cond.code (⟨"PretendDesk", "signNumber", "(I)I"⟩ : MethodName) prog_1_method_14_code 1 (some (.int)) ∈ zTb := zTb_in (zT4 (List.mem_of_getElem? (i := 134) (by decide +kernel))) rfl
theorem zmt4_139 : Cond.methodLink "PretendDesk" 155 (⟨"PretendDesk", "spelled", "(Ljava/lang/String;Ljava/lang/String;)I"⟩ : MethodName) ∈ zTb := zTb_in (zT4 (List.mem_of_getElem? (i := 139) (by decide +kernel))) rfl
theorem zmt4_141 : Cond.instanceMethod (⟨"PretendDesk", "spelled", "(Ljava/lang/String;Ljava/lang/String;)I"⟩ : MethodName) ∈ zTb := zTb_in (zT4 (List.mem_of_getElem? (i := 141) (by decide +kernel))) rfl
theorem zmt4_142 : Cond.code (⟨"PretendDesk", "spelled", "(Ljava/lang/String;Ljava/lang/String;)I"⟩ : MethodName) prog_1_method_11_code 7 (some (.int)) ∈ zTb := zTb_in (zT4 (List.mem_of_getElem? (i := 142) (by decide +kernel))) rfl
theorem zmt4_143 : Cond.methodLink "PretendDesk" 159 (⟨"java/lang/String", "length", "()I"⟩ : MethodName) ∈ zTb := zTb_in (zT4 (List.mem_of_getElem? (i := 143) (by decide +kernel))) rfl
theorem zmt4_144 : Cond.methodLink "PretendDesk" 164 (⟨"java/lang/Math", "min", "(II)I"⟩ : MethodName) ∈ zTb := zTb_in (zT4 (List.mem_of_getElem? (i := 144) (by decide +kernel))) rfl
theorem zmt4_145 : Cond.methodLink "PretendDesk" 170 (⟨"PretendDesk", "leastSpelled", "(Ljava/lang/String;ILjava/lang/String;I)I"⟩ : MethodName) ∈ zTb := zTb_in (zT4 (List.mem_of_getElem? (i := 145) (by decide +kernel))) rfl
theorem zmt4_147 : Cond.instanceMethod (⟨"PretendDesk", "leastSpelled", "(Ljava/lang/String;ILjava/lang/String;I)I"⟩ : MethodName) ∈ zTb := zTb_in (zT4 (List.mem_of_getElem? (i := 147) (by decide +kernel))) rfl
theorem zmt4_148 : Cond.code (⟨"PretendDesk", "leastSpelled", "(Ljava/lang/String;ILjava/lang/String;I)I"⟩ : MethodName) prog_1_method_12_code 9 (some (.int)) ∈ zTb := zTb_in (zT4 (List.mem_of_getElem? (i := 148) (by decide +kernel))) rfl
theorem zmt4_149 : Cond.methodLink "PretendDesk" 174 (⟨"java/lang/String", "charAt", "(I)C"⟩ : MethodName) ∈ zTb := zTb_in (zT4 (List.mem_of_getElem? (i := 149) (by decide +kernel))) rfl
theorem zmt4_150 : Cond.methodLink "PretendDesk" 178 (⟨"PretendDesk", "signPrice", "(II)I"⟩ : MethodName) ∈ zTb := zTb_in (zT4 (List.mem_of_getElem? (i := 150) (by decide +kernel))) rfl
theorem zmt4_152 : Cond.instanceMethod (⟨"PretendDesk", "signPrice", "(II)I"⟩ : MethodName) ∈ zTb := zTb_in (zT4 (List.mem_of_getElem? (i := 152) (by decide +kernel))) rfl
theorem zmt4_153 : Cond.code (⟨"PretendDesk", "signPrice", "(II)I"⟩ : MethodName) prog_1_method_13_code 5 (some (.int)) ∈ zTb := zTb_in (zT4 (List.mem_of_getElem? (i := 153) (by decide +kernel))) rfl
theorem zmt4_158 : Cond.methodLink "PretendDesk" 181 (⟨"PretendDesk", "isDay", "(I)Z"⟩ : MethodName) ∈ zTb := zTb_in (zT4 (List.mem_of_getElem? (i := 158) (by decide +kernel))) rfl
theorem zmt4_159 : Cond.static (⟨"PretendDesk", "isDay", "(I)Z"⟩ : MethodName) ∈ zTb := zTb_in (zT4 (List.mem_of_getElem? (i := 159) (by decide +kernel))) rfl
theorem zmt4_160 : Cond.code (⟨"PretendDesk", "isDay", "(I)Z"⟩ : MethodName) prog_1_method_79_code 1 (some (.boolean)) ∈ zTb := zTb_in (zT4 (List.mem_of_getElem? (i := 160) (by decide +kernel))) rfl
theorem zmt4_161 : Cond.constant "PretendDesk" 184 (1048576 : Int32) ∈ zTb := zTb_in (zT4 (List.mem_of_getElem? (i := 161) (by decide +kernel))) rfl
theorem zmt4_174 : Cond.methodLink "PretendDesk" 203 (⟨"PretendDesk", "isPerson", "(II)Z"⟩ : MethodName) ∈ zTb := zTb_in (zT4 (List.mem_of_getElem? (i := 174) (by decide +kernel))) rfl
theorem zmt4_175 : Cond.static (⟨"PretendDesk", "isPerson", "(II)Z"⟩ : MethodName) ∈ zTb := zTb_in (zT4 (List.mem_of_getElem? (i := 175) (by decide +kernel))) rfl
theorem zmt4_176 : Cond.code (⟨"PretendDesk", "isPerson", "(II)Z"⟩ : MethodName) prog_1_method_80_code 2 (some (.boolean)) ∈ zTb := zTb_in (zT4 (List.mem_of_getElem? (i := 176) (by decide +kernel))) rfl
theorem zmt4_177 : Cond.methodLink "PretendDesk" 272 (⟨"PretendDesk", "isLand", "(I)Z"⟩ : MethodName) ∈ zTb := zTb_in (zT4 (List.mem_of_getElem? (i := 177) (by decide +kernel))) rfl
theorem zmt4_178 : Cond.static (⟨"PretendDesk", "isLand", "(I)Z"⟩ : MethodName) ∈ zTb := zTb_in (zT4 (List.mem_of_getElem? (i := 178) (by decide +kernel))) rfl
theorem zmt4_179 : Cond.code (⟨"PretendDesk", "isLand", "(I)Z"⟩ : MethodName) prog_1_method_78_code 1 (some (.boolean)) ∈ zTb := zTb_in (zT4 (List.mem_of_getElem? (i := 179) (by decide +kernel))) rfl
theorem zmt4_180 : Cond.methodLink "PretendDesk" 211 (⟨"PretendDesk$Opened", "open", "(LPretendDesk$Page;II)V"⟩ : MethodName) ∈ zTb := zTb_in (zT4 (List.mem_of_getElem? (i := 180) (by decide +kernel))) rfl
theorem zmt4_181 : Cond.instanceMethod (⟨"PretendDesk$Opened", "open", "(LPretendDesk$Page;II)V"⟩ : MethodName) ∈ zTb := zTb_in (zT4 (List.mem_of_getElem? (i := 181) (by decide +kernel))) rfl
theorem zmt4_182 : Cond.selects "PretendDesk$Opened" (⟨"PretendDesk$Opened", "open", "(LPretendDesk$Page;II)V"⟩ : MethodName) (⟨"PretendDesk$Opened", "open", "(LPretendDesk$Page;II)V"⟩ : MethodName) ∈ zTb := zTb_in (zT4 (List.mem_of_getElem? (i := 182) (by decide +kernel))) rfl
theorem zmt4_183 : Cond.code (⟨"PretendDesk$Opened", "open", "(LPretendDesk$Page;II)V"⟩ : MethodName) prog_6_method_2_code 8 none ∈ zTb := zTb_in (zT4 (List.mem_of_getElem? (i := 183) (by decide +kernel))) rfl
theorem zmt4_184 : Cond.methodLink "PretendDesk$Opened" 34 (⟨"PretendDesk$Page", "told", "(II)I"⟩ : MethodName) ∈ zTb := zTb_in (zT4 (List.mem_of_getElem? (i := 184) (by decide +kernel))) rfl
theorem zmt4_185 : Cond.instanceMethod (⟨"PretendDesk$Page", "told", "(II)I"⟩ : MethodName) ∈ zTb := zTb_in (zT4 (List.mem_of_getElem? (i := 185) (by decide +kernel))) rfl
theorem zmt4_186 : Cond.selects "PretendDesk$Page" (⟨"PretendDesk$Page", "told", "(II)I"⟩ : MethodName) (⟨"PretendDesk$Page", "told", "(II)I"⟩ : MethodName) ∈ zTb := zTb_in (zT4 (List.mem_of_getElem? (i := 186) (by decide +kernel))) rfl
theorem zmt4_187 : Cond.code (⟨"PretendDesk$Page", "told", "(II)I"⟩ : MethodName) prog_7_method_2_code 3 (some (.int)) ∈ zTb := zTb_in (zT4 (List.mem_of_getElem? (i := 187) (by decide +kernel))) rfl
theorem zmt4_188 : Cond.methodLink "PretendDesk$Opened" 38 (⟨"PretendDesk$Page", "shows", "(III)Z"⟩ : MethodName) ∈ zTb := zTb_in (zT4 (List.mem_of_getElem? (i := 188) (by decide +kernel))) rfl
theorem zmt4_189 : Cond.instanceMethod (⟨"PretendDesk$Page", "shows", "(III)Z"⟩ : MethodName) ∈ zTb := zTb_in (zT4 (List.mem_of_getElem? (i := 189) (by decide +kernel))) rfl
theorem zmt4_190 : Cond.selects "PretendDesk$Page" (⟨"PretendDesk$Page", "shows", "(III)Z"⟩ : MethodName) (⟨"PretendDesk$Page", "shows", "(III)Z"⟩ : MethodName) ∈ zTb := zTb_in (zT4 (List.mem_of_getElem? (i := 190) (by decide +kernel))) rfl
theorem zmt4_191 : Cond.code (⟨"PretendDesk$Page", "shows", "(III)Z"⟩ : MethodName) prog_7_method_6_code 5 (some (.boolean)) ∈ zTb := zTb_in (zT4 (List.mem_of_getElem? (i := 191) (by decide +kernel))) rfl
theorem zmt4_192 : Cond.methodLink "PretendDesk$Page" 23 (⟨"PretendDesk$Page", "told", "(II)I"⟩ : MethodName) ∈ zTb := zTb_in (zT4 (List.mem_of_getElem? (i := 192) (by decide +kernel))) rfl
theorem zmt4_193 : Cond.methodLink "PretendDesk$Opened" 42 (⟨"PretendDesk$Opened", "add", "(LPretendDesk$Page;II)I"⟩ : MethodName) ∈ zTb := zTb_in (zT4 (List.mem_of_getElem? (i := 193) (by decide +kernel))) rfl
theorem zmt4_195 : Cond.instanceMethod (⟨"PretendDesk$Opened", "add", "(LPretendDesk$Page;II)I"⟩ : MethodName) ∈ zTb := zTb_in (zT4 (List.mem_of_getElem? (i := 195) (by decide +kernel))) rfl
theorem zmt4_196 : Cond.code (⟨"PretendDesk$Opened", "add", "(LPretendDesk$Page;II)I"⟩ : MethodName) prog_6_method_3_code 4 (some (.int)) ∈ zTb := zTb_in (zT4 (List.mem_of_getElem? (i := 196) (by decide +kernel))) rfl
theorem zmt4_197 : Cond.methodLink "PretendDesk$Opened" 46 (⟨"PretendDesk$Opened", "span", "()V"⟩ : MethodName) ∈ zTb := zTb_in (zT4 (List.mem_of_getElem? (i := 197) (by decide +kernel))) rfl
theorem zmt4_199 : Cond.instanceMethod (⟨"PretendDesk$Opened", "span", "()V"⟩ : MethodName) ∈ zTb := zTb_in (zT4 (List.mem_of_getElem? (i := 199) (by decide +kernel))) rfl
theorem zmt4_200 : Cond.code (⟨"PretendDesk$Opened", "span", "()V"⟩ : MethodName) prog_6_method_4_code 3 none ∈ zTb := zTb_in (zT4 (List.mem_of_getElem? (i := 200) (by decide +kernel))) rfl
theorem zmt4_201 : Cond.methodLink "PretendDesk$Opened" 49 (⟨"java/lang/Math", "max", "(II)I"⟩ : MethodName) ∈ zTb := zTb_in (zT4 (List.mem_of_getElem? (i := 201) (by decide +kernel))) rfl
theorem zmt4_202 : Cond.methodLink "PretendDesk" 217 (⟨"PretendDesk$Opened", "shown", "()I"⟩ : MethodName) ∈ zTb := zTb_in (zT4 (List.mem_of_getElem? (i := 202) (by decide +kernel))) rfl
theorem zmt4_203 : Cond.instanceMethod (⟨"PretendDesk$Opened", "shown", "()I"⟩ : MethodName) ∈ zTb := zTb_in (zT4 (List.mem_of_getElem? (i := 203) (by decide +kernel))) rfl
theorem zmt4_204 : Cond.selects "PretendDesk$Opened" (⟨"PretendDesk$Opened", "shown", "()I"⟩ : MethodName) (⟨"PretendDesk$Opened", "shown", "()I"⟩ : MethodName) ∈ zTb := zTb_in (zT4 (List.mem_of_getElem? (i := 204) (by decide +kernel))) rfl
theorem zmt4_205 : Cond.code (⟨"PretendDesk$Opened", "shown", "()I"⟩ : MethodName) prog_6_method_5_code 1 (some (.int)) ∈ zTb := zTb_in (zT4 (List.mem_of_getElem? (i := 205) (by decide +kernel))) rfl
theorem zmt4_210 : Cond.methodLink "PretendDesk" 223 (⟨"PretendDesk$Page", "told", "(II)I"⟩ : MethodName) ∈ zTb := zTb_in (zT4 (List.mem_of_getElem? (i := 210) (by decide +kernel))) rfl
theorem zmt4_215 : Cond.methodLink "PretendDesk" 229 (⟨"PretendDesk$Room", "apart", "()I"⟩ : MethodName) ∈ zTb := zTb_in (zT4 (List.mem_of_getElem? (i := 215) (by decide +kernel))) rfl
theorem zmt4_216 : Cond.instanceMethod (⟨"PretendDesk$Room", "apart", "()I"⟩ : MethodName) ∈ zTb := zTb_in (zT4 (List.mem_of_getElem? (i := 216) (by decide +kernel))) rfl
theorem zmt4_217 : Cond.selects "PretendDesk$Room" (⟨"PretendDesk$Room", "apart", "()I"⟩ : MethodName) (⟨"PretendDesk$Room", "apart", "()I"⟩ : MethodName) ∈ zTb := zTb_in (zT4 (List.mem_of_getElem? (i := 217) (by decide +kernel))) rfl
theorem zmt4_218 : Cond.code (⟨"PretendDesk$Room", "apart", "()I"⟩ : MethodName) prog_8_method_2_code 3 (some (.int)) ∈ zTb := zTb_in (zT4 (List.mem_of_getElem? (i := 218) (by decide +kernel))) rfl
theorem zmt4_219 : Cond.methodLink "PretendDesk$Room" 36 (⟨"PretendDesk$Opened", "leads", "(I)Z"⟩ : MethodName) ∈ zTb := zTb_in (zT4 (List.mem_of_getElem? (i := 219) (by decide +kernel))) rfl
theorem zmt4_220 : Cond.instanceMethod (⟨"PretendDesk$Opened", "leads", "(I)Z"⟩ : MethodName) ∈ zTb := zTb_in (zT4 (List.mem_of_getElem? (i := 220) (by decide +kernel))) rfl
theorem zmt4_221 : Cond.selects "PretendDesk$Opened" (⟨"PretendDesk$Opened", "leads", "(I)Z"⟩ : MethodName) (⟨"PretendDesk$Opened", "leads", "(I)Z"⟩ : MethodName) ∈ zTb := zTb_in (zT4 (List.mem_of_getElem? (i := 221) (by decide +kernel))) rfl
theorem zmt4_222 : Cond.code (⟨"PretendDesk$Opened", "leads", "(I)Z"⟩ : MethodName) prog_6_method_7_code 2 (some (.boolean)) ∈ zTb := zTb_in (zT4 (List.mem_of_getElem? (i := 222) (by decide +kernel))) rfl
theorem zmt4_223 : Cond.methodLink "PretendDesk$Room" 40 (⟨"PretendDesk$Room", "compare", "(II)V"⟩ : MethodName) ∈ zTb := zTb_in (zT4 (List.mem_of_getElem? (i := 223) (by decide +kernel))) rfl
theorem zmt4_225 : Cond.instanceMethod (⟨"PretendDesk$Room", "compare", "(II)V"⟩ : MethodName) ∈ zTb := zTb_in (zT4 (List.mem_of_getElem? (i := 225) (by decide +kernel))) rfl
theorem zmt4_226 : Cond.code (⟨"PretendDesk$Room", "compare", "(II)V"⟩ : MethodName) prog_8_method_3_code 10 none ∈ zTb := zTb_in (zT4 (List.mem_of_getElem? (i := 226) (by decide +kernel))) rfl
theorem zmt4_227 : Cond.methodLink "PretendDesk$Room" 47 (⟨"java/lang/Math", "min", "(II)I"⟩ : MethodName) ∈ zTb := zTb_in (zT4 (List.mem_of_getElem? (i := 227) (by decide +kernel))) rfl
theorem zmt4_228 : Cond.methodLink "PretendDesk$Room" 53 (⟨"PretendDesk$Room", "swap", "(II)I"⟩ : MethodName) ∈ zTb := zTb_in (zT4 (List.mem_of_getElem? (i := 228) (by decide +kernel))) rfl
theorem zmt4_230 : Cond.instanceMethod (⟨"PretendDesk$Room", "swap", "(II)I"⟩ : MethodName) ∈ zTb := zTb_in (zT4 (List.mem_of_getElem? (i := 230) (by decide +kernel))) rfl
theorem zmt4_231 : Cond.code (⟨"PretendDesk$Room", "swap", "(II)I"⟩ : MethodName) prog_8_method_4_code 4 (some (.int)) ∈ zTb := zTb_in (zT4 (List.mem_of_getElem? (i := 231) (by decide +kernel))) rfl
theorem zmt4_236 : Cond.methodLink "PretendDesk" 232 (⟨"PretendDesk$Room", "lookAt", "(LPretendDesk$House;II)I"⟩ : MethodName) ∈ zTb := zTb_in (zT4 (List.mem_of_getElem? (i := 236) (by decide +kernel))) rfl
theorem zmt4_237 : Cond.instanceMethod (⟨"PretendDesk$Room", "lookAt", "(LPretendDesk$House;II)I"⟩ : MethodName) ∈ zTb := zTb_in (zT4 (List.mem_of_getElem? (i := 237) (by decide +kernel))) rfl
theorem zmt4_238 : Cond.selects "PretendDesk$Room" (⟨"PretendDesk$Room", "lookAt", "(LPretendDesk$House;II)I"⟩ : MethodName) (⟨"PretendDesk$Room", "lookAt", "(LPretendDesk$House;II)I"⟩ : MethodName) ∈ zTb := zTb_in (zT4 (List.mem_of_getElem? (i := 238) (by decide +kernel))) rfl
theorem zmt4_239 : Cond.code (⟨"PretendDesk$Room", "lookAt", "(LPretendDesk$House;II)I"⟩ : MethodName) prog_8_method_5_code 4 (some (.int)) ∈ zTb := zTb_in (zT4 (List.mem_of_getElem? (i := 239) (by decide +kernel))) rfl
theorem zmt5_0 : Cond.methodLink "PretendDesk$Room" 62 (⟨"PretendDesk$Room", "closer", "(LPretendDesk$House;III)I"⟩ : MethodName) ∈ zTb := zTb_in (zT5 (List.mem_of_getElem? (i := 0) (by decide +kernel))) rfl
theorem zmt5_2 : Cond.instanceMethod (⟨"PretendDesk$Room", "closer", "(LPretendDesk$House;III)I"⟩ : MethodName) ∈ zTb := zTb_in (zT5 (List.mem_of_getElem? (i := 2) (by decide +kernel))) rfl
theorem zmt5_3 : Cond.code (⟨"PretendDesk$Room", "closer", "(LPretendDesk$House;III)I"⟩ : MethodName) prog_8_method_6_code 7 (some (.int)) ∈ zTb := zTb_in (zT5 (List.mem_of_getElem? (i := 3) (by decide +kernel))) rfl
theorem zmt5_4 : Cond.methodLink "PretendDesk$Room" 75 (⟨"PretendDesk$Opened", "open", "(LPretendDesk$Page;II)V"⟩ : MethodName) ∈ zTb := zTb_in (zT5 (List.mem_of_getElem? (i := 4) (by decide +kernel))) rfl
theorem zmt5_5 : Cond.methodLink "PretendDesk$Room" 79 (⟨"java/lang/Math", "abs", "(I)I"⟩ : MethodName) ∈ zTb := zTb_in (zT5 (List.mem_of_getElem? (i := 5) (by decide +kernel))) rfl
theorem zmt5_6 : Cond.static (⟨"java/lang/Math", "abs", "(I)I"⟩ : MethodName) ∈ zTb := zTb_in (zT5 (List.mem_of_getElem? (i := 6) (by decide +kernel))) rfl
theorem zmt5_7 : Cond.code (⟨"java/lang/Math", "abs", "(I)I"⟩ : MethodName) prog_18_method_59_code 1 (some (.int)) ∈ zTb := zTb_in (zT5 (List.mem_of_getElem? (i := 7) (by decide +kernel))) rfl
theorem zmt5_8 : Cond.methodLink "PretendDesk$Room" 83 (⟨"PretendDesk$Room", "apart", "()I"⟩ : MethodName) ∈ zTb := zTb_in (zT5 (List.mem_of_getElem? (i := 8) (by decide +kernel))) rfl
theorem zmt5_13 : Cond.methodLink "PretendDesk" 236 (⟨"PretendDesk", "likeOf", "(III)I"⟩ : MethodName) ∈ zTb := zTb_in (zT5 (List.mem_of_getElem? (i := 13) (by decide +kernel))) rfl
theorem zmt5_15 : Cond.instanceMethod (⟨"PretendDesk", "likeOf", "(III)I"⟩ : MethodName) ∈ zTb := zTb_in (zT5 (List.mem_of_getElem? (i := 15) (by decide +kernel))) rfl
theorem zmt5_16 : Cond.code (⟨"PretendDesk", "likeOf", "(III)I"⟩ : MethodName) prog_1_method_23_code 4 (some (.int)) ∈ zTb := zTb_in (zT5 (List.mem_of_getElem? (i := 16) (by decide +kernel))) rfl
theorem zmt5_17 : Cond.methodLink "PretendDesk" 240 (⟨"PretendDesk$Room", "liken", "(II)V"⟩ : MethodName) ∈ zTb := zTb_in (zT5 (List.mem_of_getElem? (i := 17) (by decide +kernel))) rfl
theorem zmt5_18 : Cond.instanceMethod (⟨"PretendDesk$Room", "liken", "(II)V"⟩ : MethodName) ∈ zTb := zTb_in (zT5 (List.mem_of_getElem? (i := 18) (by decide +kernel))) rfl
theorem zmt5_19 : Cond.selects "PretendDesk$Room" (⟨"PretendDesk$Room", "liken", "(II)V"⟩ : MethodName) (⟨"PretendDesk$Room", "liken", "(II)V"⟩ : MethodName) ∈ zTb := zTb_in (zT5 (List.mem_of_getElem? (i := 19) (by decide +kernel))) rfl
theorem zmt5_20 : Cond.code (⟨"PretendDesk$Room", "liken", "(II)V"⟩ : MethodName) prog_8_method_7_code 5 none ∈ zTb := zTb_in (zT5 (List.mem_of_getElem? (i := 20) (by decide +kernel))) rfl
theorem zmt5_25 : Cond.methodLink "PretendDesk" 247 (⟨"PretendDesk$Opened", "asked", "([I)I"⟩ : MethodName) ∈ zTb := zTb_in (zT5 (List.mem_of_getElem? (i := 25) (by decide +kernel))) rfl
theorem zmt5_26 : Cond.instanceMethod (⟨"PretendDesk$Opened", "asked", "([I)I"⟩ : MethodName) ∈ zTb := zTb_in (zT5 (List.mem_of_getElem? (i := 26) (by decide +kernel))) rfl
theorem zmt5_27 : Cond.selects "PretendDesk$Opened" (⟨"PretendDesk$Opened", "asked", "([I)I"⟩ : MethodName) (⟨"PretendDesk$Opened", "asked", "([I)I"⟩ : MethodName) ∈ zTb := zTb_in (zT5 (List.mem_of_getElem? (i := 27) (by decide +kernel))) rfl
theorem zmt5_28 : Cond.code (⟨"PretendDesk$Opened", "asked", "([I)I"⟩ : MethodName) prog_6_method_6_code 4 (some (.int)) ∈ zTb := zTb_in (zT5 (List.mem_of_getElem? (i := 28) (by decide +kernel))) rfl
theorem zmt5_37 : Cond.methodLink "PretendDesk" 251 (⟨"PretendDesk", "signsOf", "(III)I"⟩ : MethodName) ∈ zTb := zTb_in (zT5 (List.mem_of_getElem? (i := 37) (by decide +kernel))) rfl
theorem zmt5_39 : Cond.instanceMethod (⟨"PretendDesk", "signsOf", "(III)I"⟩ : MethodName) ∈ zTb := zTb_in (zT5 (List.mem_of_getElem? (i := 39) (by decide +kernel))) rfl
theorem zmt5_40 : Cond.code (⟨"PretendDesk", "signsOf", "(III)I"⟩ : MethodName) prog_1_method_27_code 5 (some (.int)) ∈ zTb := zTb_in (zT5 (List.mem_of_getElem? (i := 40) (by decide +kernel))) rfl
theorem zmt5_41 : Cond.methodLink "PretendDesk" 254 (⟨"PretendDesk$Came", "age", "(I)I"⟩ : MethodName) ∈ zTb := zTb_in (zT5 (List.mem_of_getElem? (i := 41) (by decide +kernel))) rfl
theorem zmt5_42 : Cond.instanceMethod (⟨"PretendDesk$Came", "age", "(I)I"⟩ : MethodName) ∈ zTb := zTb_in (zT5 (List.mem_of_getElem? (i := 42) (by decide +kernel))) rfl
theorem zmt5_43 : Cond.selects "PretendDesk$Came" (⟨"PretendDesk$Came", "age", "(I)I"⟩ : MethodName) (⟨"PretendDesk$Came", "age", "(I)I"⟩ : MethodName) ∈ zTb := zTb_in (zT5 (List.mem_of_getElem? (i := 43) (by decide +kernel))) rfl
theorem zmt5_44 : Cond.code (⟨"PretendDesk$Came", "age", "(I)I"⟩ : MethodName) prog_3_method_2_code 2 (some (.int)) ∈ zTb := zTb_in (zT5 (List.mem_of_getElem? (i := 44) (by decide +kernel))) rfl
theorem zmt5_45 : Cond.methodLink "PretendDesk$Came" 29 (⟨"java/lang/Math", "max", "(II)I"⟩ : MethodName) ∈ zTb := zTb_in (zT5 (List.mem_of_getElem? (i := 45) (by decide +kernel))) rfl
theorem zmt5_46 : Cond.methodLink "PretendDesk" 257 (⟨"PretendDesk$Room", "signsAt", "(Ljava/lang/String;I)I"⟩ : MethodName) ∈ zTb := zTb_in (zT5 (List.mem_of_getElem? (i := 46) (by decide +kernel))) rfl
theorem zmt5_47 : Cond.instanceMethod (⟨"PretendDesk$Room", "signsAt", "(Ljava/lang/String;I)I"⟩ : MethodName) ∈ zTb := zTb_in (zT5 (List.mem_of_getElem? (i := 47) (by decide +kernel))) rfl
theorem zmt5_48 : Cond.selects "PretendDesk$Room" (⟨"PretendDesk$Room", "signsAt", "(Ljava/lang/String;I)I"⟩ : MethodName) (⟨"PretendDesk$Room", "signsAt", "(Ljava/lang/String;I)I"⟩ : MethodName) ∈ zTb := zTb_in (zT5 (List.mem_of_getElem? (i := 48) (by decide +kernel))) rfl
theorem zmt5_49 : Cond.code (⟨"PretendDesk$Room", "signsAt", "(Ljava/lang/String;I)I"⟩ : MethodName) prog_8_method_9_code 4 (some (.int)) ∈ zTb := zTb_in (zT5 (List.mem_of_getElem? (i := 49) (by decide +kernel))) rfl
theorem zmt5_50 : Cond.methodLink "PretendDesk$Room" 118 (⟨"PretendDesk$Opened", "asked", "([I)I"⟩ : MethodName) ∈ zTb := zTb_in (zT5 (List.mem_of_getElem? (i := 50) (by decide +kernel))) rfl
theorem zmt5_51 : Cond.methodLink "PretendDesk$Room" 125 (⟨"PretendDesk$Room", "isElsewhere", "(Ljava/lang/String;)Z"⟩ : MethodName) ∈ zTb := zTb_in (zT5 (List.mem_of_getElem? (i := 51) (by decide +kernel))) rfl
theorem zmt5_52 : Cond.instanceMethod (⟨"PretendDesk$Room", "isElsewhere", "(Ljava/lang/String;)Z"⟩ : MethodName) ∈ zTb := zTb_in (zT5 (List.mem_of_getElem? (i := 52) (by decide +kernel))) rfl
theorem zmt5_53 : Cond.selects "PretendDesk$Room" (⟨"PretendDesk$Room", "isElsewhere", "(Ljava/lang/String;)Z"⟩ : MethodName) (⟨"PretendDesk$Room", "isElsewhere", "(Ljava/lang/String;)Z"⟩ : MethodName) ∈ zTb := zTb_in (zT5 (List.mem_of_getElem? (i := 53) (by decide +kernel))) rfl
theorem zmt5_54 : Cond.code (⟨"PretendDesk$Room", "isElsewhere", "(Ljava/lang/String;)Z"⟩ : MethodName) prog_8_method_8_code 2 (some (.boolean)) ∈ zTb := zTb_in (zT5 (List.mem_of_getElem? (i := 54) (by decide +kernel))) rfl
theorem zmt5_55 : Cond.methodLink "PretendDesk$Room" 106 (⟨"java/lang/String", "equals", "(Ljava/lang/Object;)Z"⟩ : MethodName) ∈ zTb := zTb_in (zT5 (List.mem_of_getElem? (i := 55) (by decide +kernel))) rfl
theorem zmt5_56 : Cond.instanceMethod (⟨"java/lang/String", "equals", "(Ljava/lang/Object;)Z"⟩ : MethodName) ∈ zTb := zTb_in (zT5 (List.mem_of_getElem? (i := 56) (by decide +kernel))) rfl
theorem zmt5_57 : Cond.selects "java/lang/String" (⟨"java/lang/String", "equals", "(Ljava/lang/Object;)Z"⟩ : MethodName) (⟨"java/lang/String", "equals", "(Ljava/lang/Object;)Z"⟩ : MethodName) ∈ zTb := zTb_in (zT5 (List.mem_of_getElem? (i := 57) (by decide +kernel))) rfl
theorem zmt5_58 : Cond.code (⟨"java/lang/String", "equals", "(Ljava/lang/Object;)Z"⟩ : MethodName) prog_19_method_66_code 3 (some (.boolean)) ∈ zTb := zTb_in (zT5 (List.mem_of_getElem? (i := 58) (by decide +kernel))) rfl
theorem zmt5_59 : Cond.classLink "java/lang/String" 10 "java/lang/String" ∈ zTb := zTb_in (zT5 (List.mem_of_getElem? (i := 59) (by decide +kernel))) rfl
theorem zmt5_60 : Cond.methodLink "java/lang/String" 541 (⟨"java/lang/StringLatin1", "equals", "([B[B)Z"⟩ : MethodName) ∈ zTb := zTb_in (zT5 (List.mem_of_getElem? (i := 60) (by decide +kernel))) rfl
theorem zmt5_61 : Cond.static (⟨"java/lang/StringLatin1", "equals", "([B[B)Z"⟩ : MethodName) ∈ zTb := zTb_in (zT5 (List.mem_of_getElem? (i := 61) (by decide +kernel))) rfl
theorem zmt5_62 : Cond.code (⟨"java/lang/StringLatin1", "equals", "([B[B)Z"⟩ : MethodName) prog_21_method_13_code 3 (some (.boolean)) ∈ zTb := zTb_in (zT5 (List.mem_of_getElem? (i := 62) (by decide +kernel))) rfl
theorem zmt5_67 : Cond.methodLink "PretendDesk" 261 (⟨"PretendDesk", "said", "(I)I"⟩ : MethodName) ∈ zTb := zTb_in (zT5 (List.mem_of_getElem? (i := 67) (by decide +kernel))) rfl
theorem zmt5_68 : Cond.static (⟨"PretendDesk", "said", "(I)I"⟩ : MethodName) ∈ zTb := zTb_in (zT5 (List.mem_of_getElem? (i := 68) (by decide +kernel))) rfl
theorem zmt5_69 : Cond.code (⟨"PretendDesk", "said", "(I)I"⟩ : MethodName) prog_1_method_29_code 1 (some (.int)) ∈ zTb := zTb_in (zT5 (List.mem_of_getElem? (i := 69) (by decide +kernel))) rfl
theorem zmt5_70 : Cond.methodLink "PretendDesk" 264 (⟨"java/lang/Integer", "bitCount", "(I)I"⟩ : MethodName) ∈ zTb := zTb_in (zT5 (List.mem_of_getElem? (i := 70) (by decide +kernel))) rfl
theorem zmt5_71 : Cond.static (⟨"java/lang/Integer", "bitCount", "(I)I"⟩ : MethodName) ∈ zTb := zTb_in (zT5 (List.mem_of_getElem? (i := 71) (by decide +kernel))) rfl
theorem zmt5_72 : Cond.code (⟨"java/lang/Integer", "bitCount", "(I)I"⟩ : MethodName) prog_17_method_49_code 1 (some (.int)) ∈ zTb := zTb_in (zT5 (List.mem_of_getElem? (i := 72) (by decide +kernel))) rfl
theorem zmt5_73 : Cond.constant "java/lang/Integer" 265 (1431655765 : Int32) ∈ zTb := zTb_in (zT5 (List.mem_of_getElem? (i := 73) (by decide +kernel))) rfl
theorem zmt5_74 : Cond.constant "java/lang/Integer" 266 (858993459 : Int32) ∈ zTb := zTb_in (zT5 (List.mem_of_getElem? (i := 74) (by decide +kernel))) rfl
theorem zmt5_75 : Cond.constant "java/lang/Integer" 267 (252645135 : Int32) ∈ zTb := zTb_in (zT5 (List.mem_of_getElem? (i := 75) (by decide +kernel))) rfl
theorem zmt5_76 : Cond.methodLink "PretendDesk" 269 (⟨"java/lang/Math", "max", "(II)I"⟩ : MethodName) ∈ zTb := zTb_in (zT5 (List.mem_of_getElem? (i := 76) (by decide +kernel))) rfl
theorem zmt5_101 : Cond.methodLink "PretendDesk" 288 (⟨"PretendDesk$Best", "clear", "()V"⟩ : MethodName) ∈ zTb := zTb_in (zT5 (List.mem_of_getElem? (i := 101) (by decide +kernel))) rfl
theorem zmt5_102 : Cond.instanceMethod (⟨"PretendDesk$Best", "clear", "()V"⟩ : MethodName) ∈ zTb := zTb_in (zT5 (List.mem_of_getElem? (i := 102) (by decide +kernel))) rfl
theorem zmt5_103 : Cond.selects "PretendDesk$Best" (⟨"PretendDesk$Best", "clear", "()V"⟩ : MethodName) (⟨"PretendDesk$Best", "clear", "()V"⟩ : MethodName) ∈ zTb := zTb_in (zT5 (List.mem_of_getElem? (i := 103) (by decide +kernel))) rfl
theorem zmt5_104 : Cond.code (⟨"PretendDesk$Best", "clear", "()V"⟩ : MethodName) prog_2_method_2_code 1 none ∈ zTb := zTb_in (zT5 (List.mem_of_getElem? (i := 104) (by decide +kernel))) rfl
theorem zmt5_105 : Cond.methodLink "PretendDesk$Best" 38 (⟨"PretendDesk$Best", "clearTurns", "([Z)V"⟩ : MethodName) ∈ zTb := zTb_in (zT5 (List.mem_of_getElem? (i := 105) (by decide +kernel))) rfl
theorem zmt5_107 : Cond.instanceMethod (⟨"PretendDesk$Best", "clearTurns", "([Z)V"⟩ : MethodName) ∈ zTb := zTb_in (zT5 (List.mem_of_getElem? (i := 107) (by decide +kernel))) rfl
theorem zmt5_108 : Cond.code (⟨"PretendDesk$Best", "clearTurns", "([Z)V"⟩ : MethodName) prog_2_method_3_code 3 none ∈ zTb := zTb_in (zT5 (List.mem_of_getElem? (i := 108) (by decide +kernel))) rfl
theorem zmt5_109 : Cond.methodLink "PretendDesk" 291 (⟨"PretendDesk$Room", "isElsewhere", "(Ljava/lang/String;)Z"⟩ : MethodName) ∈ zTb := zTb_in (zT5 (List.mem_of_getElem? (i := 109) (by decide +kernel))) rfl
theorem zmt5_110 : Cond.methodLink "PretendDesk" 298 (⟨"PretendDesk$Best", "add", "(IIIZ)V"⟩ : MethodName) ∈ zTb := zTb_in (zT5 (List.mem_of_getElem? (i := 110) (by decide +kernel))) rfl
theorem zmt5_111 : Cond.instanceMethod (⟨"PretendDesk$Best", "add", "(IIIZ)V"⟩ : MethodName) ∈ zTb := zTb_in (zT5 (List.mem_of_getElem? (i := 111) (by decide +kernel))) rfl
theorem zmt5_112 : Cond.selects "PretendDesk$Best" (⟨"PretendDesk$Best", "add", "(IIIZ)V"⟩ : MethodName) (⟨"PretendDesk$Best", "add", "(IIIZ)V"⟩ : MethodName) ∈ zTb := zTb_in (zT5 (List.mem_of_getElem? (i := 112) (by decide +kernel))) rfl
theorem zmt5_113 : Cond.code (⟨"PretendDesk$Best", "add", "(IIIZ)V"⟩ : MethodName) prog_2_method_4_code 5 none ∈ zTb := zTb_in (zT5 (List.mem_of_getElem? (i := 113) (by decide +kernel))) rfl
theorem zmt5_114 : Cond.methodLink "PretendDesk$Best" 42 (⟨"PretendDesk$Best", "turn", "([ZI)V"⟩ : MethodName) ∈ zTb := zTb_in (zT5 (List.mem_of_getElem? (i := 114) (by decide +kernel))) rfl
theorem zmt5_116 : Cond.instanceMethod (⟨"PretendDesk$Best", "turn", "([ZI)V"⟩ : MethodName) ∈ zTb := zTb_in (zT5 (List.mem_of_getElem? (i := 116) (by decide +kernel))) rfl
theorem zmt5_117 : Cond.code (⟨"PretendDesk$Best", "turn", "([ZI)V"⟩ : MethodName) prog_2_method_5_code 3 none ∈ zTb := zTb_in (zT5 (List.mem_of_getElem? (i := 117) (by decide +kernel))) rfl
theorem zmt5_118 : Cond.methodLink "PretendDesk" 302 (⟨"PretendDesk$Best", "find", "(I)Z"⟩ : MethodName) ∈ zTb := zTb_in (zT5 (List.mem_of_getElem? (i := 118) (by decide +kernel))) rfl
theorem zmt5_119 : Cond.instanceMethod (⟨"PretendDesk$Best", "find", "(I)Z"⟩ : MethodName) ∈ zTb := zTb_in (zT5 (List.mem_of_getElem? (i := 119) (by decide +kernel))) rfl
theorem zmt5_120 : Cond.selects "PretendDesk$Best" (⟨"PretendDesk$Best", "find", "(I)Z"⟩ : MethodName) (⟨"PretendDesk$Best", "find", "(I)Z"⟩ : MethodName) ∈ zTb := zTb_in (zT5 (List.mem_of_getElem? (i := 120) (by decide +kernel))) rfl
theorem zmt5_121 : Cond.code (⟨"PretendDesk$Best", "find", "(I)Z"⟩ : MethodName) prog_2_method_6_code 5 (some (.boolean)) ∈ zTb := zTb_in (zT5 (List.mem_of_getElem? (i := 121) (by decide +kernel))) rfl
theorem zmt5_122 : Cond.methodLink "PretendDesk$Best" 50 (⟨"PretendDesk$Best", "weigh", "(IIII)V"⟩ : MethodName) ∈ zTb := zTb_in (zT5 (List.mem_of_getElem? (i := 122) (by decide +kernel))) rfl
theorem zmt5_124 : Cond.instanceMethod (⟨"PretendDesk$Best", "weigh", "(IIII)V"⟩ : MethodName) ∈ zTb := zTb_in (zT5 (List.mem_of_getElem? (i := 124) (by decide +kernel))) rfl
theorem zmt5_125 : Cond.code (⟨"PretendDesk$Best", "weigh", "(IIII)V"⟩ : MethodName) prog_2_method_7_code 9 none ∈ zTb := zTb_in (zT5 (List.mem_of_getElem? (i := 125) (by decide +kernel))) rfl
theorem zmt5_126 : Cond.methodLink "PretendDesk" 305 (⟨"PretendDesk$Best", "found", "(I)I"⟩ : MethodName) ∈ zTb := zTb_in (zT5 (List.mem_of_getElem? (i := 126) (by decide +kernel))) rfl
theorem zmt5_127 : Cond.instanceMethod (⟨"PretendDesk$Best", "found", "(I)I"⟩ : MethodName) ∈ zTb := zTb_in (zT5 (List.mem_of_getElem? (i := 127) (by decide +kernel))) rfl
theorem zmt5_128 : Cond.selects "PretendDesk$Best" (⟨"PretendDesk$Best", "found", "(I)I"⟩ : MethodName) (⟨"PretendDesk$Best", "found", "(I)I"⟩ : MethodName) ∈ zTb := zTb_in (zT5 (List.mem_of_getElem? (i := 128) (by decide +kernel))) rfl
theorem zmt5_129 : Cond.code (⟨"PretendDesk$Best", "found", "(I)I"⟩ : MethodName) prog_2_method_8_code 2 (some (.int)) ∈ zTb := zTb_in (zT5 (List.mem_of_getElem? (i := 129) (by decide +kernel))) rfl
theorem zmt5_134 : Cond.methodLink "PretendDesk" 311 (⟨"PretendDesk$Came", "addChange", "(IIII)V"⟩ : MethodName) ∈ zTb := zTb_in (zT5 (List.mem_of_getElem? (i := 134) (by decide +kernel))) rfl
theorem zmt5_135 : Cond.instanceMethod (⟨"PretendDesk$Came", "addChange", "(IIII)V"⟩ : MethodName) ∈ zTb := zTb_in (zT5 (List.mem_of_getElem? (i := 135) (by decide +kernel))) rfl
theorem zmt5_136 : Cond.selects "PretendDesk$Came" (⟨"PretendDesk$Came", "addChange", "(IIII)V"⟩ : MethodName) (⟨"PretendDesk$Came", "addChange", "(IIII)V"⟩ : MethodName) ∈ zTb := zTb_in (zT5 (List.mem_of_getElem? (i := 136) (by decide +kernel))) rfl
theorem zmt5_137 : Cond.code (⟨"PretendDesk$Came", "addChange", "(IIII)V"⟩ : MethodName) prog_3_method_3_code 6 none ∈ zTb := zTb_in (zT5 (List.mem_of_getElem? (i := 137) (by decide +kernel))) rfl
theorem zmt5_142 : Cond.methodLink "PretendDesk" 315 (⟨"PretendDesk", "isAim", "(II)Z"⟩ : MethodName) ∈ zTb := zTb_in (zT5 (List.mem_of_getElem? (i := 142) (by decide +kernel))) rfl
theorem zmt5_143 : Cond.static (⟨"PretendDesk", "isAim", "(II)Z"⟩ : MethodName) ∈ zTb := zTb_in (zT5 (List.mem_of_getElem? (i := 143) (by decide +kernel))) rfl
theorem zmt5_144 : Cond.code (⟨"PretendDesk", "isAim", "(II)Z"⟩ : MethodName) prog_1_method_39_code 2 (some (.boolean)) ∈ zTb := zTb_in (zT5 (List.mem_of_getElem? (i := 144) (by decide +kernel))) rfl
theorem zmt5_145 : Cond.methodLink "PretendDesk" 318 (⟨"PretendDesk$Forger", "passes", "(LPretendDesk$Came;III)Z"⟩ : MethodName) ∈ zTb := zTb_in (zT5 (List.mem_of_getElem? (i := 145) (by decide +kernel))) rfl
theorem zmt5_146 : Cond.instanceMethod (⟨"PretendDesk$Forger", "passes", "(LPretendDesk$Came;III)Z"⟩ : MethodName) ∈ zTb := zTb_in (zT5 (List.mem_of_getElem? (i := 146) (by decide +kernel))) rfl
theorem zmt5_147 : Cond.selects "PretendDesk$Forger" (⟨"PretendDesk$Forger", "passes", "(LPretendDesk$Came;III)Z"⟩ : MethodName) (⟨"PretendDesk$Forger", "passes", "(LPretendDesk$Came;III)Z"⟩ : MethodName) ∈ zTb := zTb_in (zT5 (List.mem_of_getElem? (i := 147) (by decide +kernel))) rfl
theorem zmt5_148 : Cond.code (⟨"PretendDesk$Forger", "passes", "(LPretendDesk$Came;III)Z"⟩ : MethodName) prog_4_method_2_code 10 (some (.boolean)) ∈ zTb := zTb_in (zT5 (List.mem_of_getElem? (i := 148) (by decide +kernel))) rfl
theorem zmt5_149 : Cond.methodLink "PretendDesk$Forger" 32 (⟨"PretendDesk$Forger", "priceOf", "(LPretendDesk$Came;I)I"⟩ : MethodName) ∈ zTb := zTb_in (zT5 (List.mem_of_getElem? (i := 149) (by decide +kernel))) rfl
theorem zmt5_151 : Cond.instanceMethod (⟨"PretendDesk$Forger", "priceOf", "(LPretendDesk$Came;I)I"⟩ : MethodName) ∈ zTb := zTb_in (zT5 (List.mem_of_getElem? (i := 151) (by decide +kernel))) rfl
theorem zmt5_152 : Cond.code (⟨"PretendDesk$Forger", "priceOf", "(LPretendDesk$Came;I)I"⟩ : MethodName) prog_4_method_7_code 5 (some (.int)) ∈ zTb := zTb_in (zT5 (List.mem_of_getElem? (i := 152) (by decide +kernel))) rfl
theorem zmt5_153 : Cond.methodLink "PretendDesk$Forger" 39 (⟨"java/lang/Integer", "bitCount", "(I)I"⟩ : MethodName) ∈ zTb := zTb_in (zT5 (List.mem_of_getElem? (i := 153) (by decide +kernel))) rfl
theorem zmt5_154 : Cond.methodLink "PretendDesk$Forger" 48 (⟨"PretendDesk$Forger", "aims", "(LPretendDesk$Came;IIII)Z"⟩ : MethodName) ∈ zTb := zTb_in (zT5 (List.mem_of_getElem? (i := 154) (by decide +kernel))) rfl
theorem zmt5_156 : Cond.instanceMethod (⟨"PretendDesk$Forger", "aims", "(LPretendDesk$Came;IIII)Z"⟩ : MethodName) ∈ zTb := zTb_in (zT5 (List.mem_of_getElem? (i := 156) (by decide +kernel))) rfl
theorem zmt5_157 : Cond.code (⟨"PretendDesk$Forger", "aims", "(LPretendDesk$Came;IIII)Z"⟩ : MethodName) prog_4_method_4_code 6 (some (.boolean)) ∈ zTb := zTb_in (zT5 (List.mem_of_getElem? (i := 157) (by decide +kernel))) rfl
theorem zmt5_158 : Cond.methodLink "PretendDesk$Forger" 83 (⟨"PretendDesk$Forger", "forge", "(LPretendDesk$Came;I)V"⟩ : MethodName) ∈ zTb := zTb_in (zT5 (List.mem_of_getElem? (i := 158) (by decide +kernel))) rfl
theorem zmt5_160 : Cond.instanceMethod (⟨"PretendDesk$Forger", "forge", "(LPretendDesk$Came;I)V"⟩ : MethodName) ∈ zTb := zTb_in (zT5 (List.mem_of_getElem? (i := 160) (by decide +kernel))) rfl
theorem zmt5_161 : Cond.code (⟨"PretendDesk$Forger", "forge", "(LPretendDesk$Came;I)V"⟩ : MethodName) prog_4_method_5_code 5 none ∈ zTb := zTb_in (zT5 (List.mem_of_getElem? (i := 161) (by decide +kernel))) rfl
theorem zmt5_162 : Cond.methodLink "PretendDesk$Forger" 117 (⟨"PretendDesk$Page", "copy", "(LPretendDesk$Page;)V"⟩ : MethodName) ∈ zTb := zTb_in (zT5 (List.mem_of_getElem? (i := 162) (by decide +kernel))) rfl
theorem zmt5_163 : Cond.methodLink "PretendDesk$Forger" 124 (⟨"PretendDesk$Forger", "alter", "(III)V"⟩ : MethodName) ∈ zTb := zTb_in (zT5 (List.mem_of_getElem? (i := 163) (by decide +kernel))) rfl
theorem zmt5_165 : Cond.instanceMethod (⟨"PretendDesk$Forger", "alter", "(III)V"⟩ : MethodName) ∈ zTb := zTb_in (zT5 (List.mem_of_getElem? (i := 165) (by decide +kernel))) rfl
theorem zmt5_166 : Cond.code (⟨"PretendDesk$Forger", "alter", "(III)V"⟩ : MethodName) prog_4_method_6_code 4 none ∈ zTb := zTb_in (zT5 (List.mem_of_getElem? (i := 166) (by decide +kernel))) rfl
theorem zmt5_167 : Cond.methodLink "PretendDesk$Forger" 128 (⟨"PretendDesk$Page", "tell", "(III)V"⟩ : MethodName) ∈ zTb := zTb_in (zT5 (List.mem_of_getElem? (i := 167) (by decide +kernel))) rfl
theorem zmt5_168 : Cond.methodLink "PretendDesk$Forger" 91 (⟨"PretendDesk$Opened", "open", "(LPretendDesk$Page;II)V"⟩ : MethodName) ∈ zTb := zTb_in (zT5 (List.mem_of_getElem? (i := 168) (by decide +kernel))) rfl
theorem zmt5_169 : Cond.methodLink "PretendDesk$Forger" 103 (⟨"PretendDesk$Opened", "asked", "([I)I"⟩ : MethodName) ∈ zTb := zTb_in (zT5 (List.mem_of_getElem? (i := 169) (by decide +kernel))) rfl
theorem zmt5_170 : Cond.methodLink "PretendDesk$Forger" 107 (⟨"PretendDesk$Room", "liken", "(II)V"⟩ : MethodName) ∈ zTb := zTb_in (zT5 (List.mem_of_getElem? (i := 170) (by decide +kernel))) rfl
theorem zmt5_171 : Cond.methodLink "PretendDesk$Forger" 56 (⟨"PretendDesk$Came", "age", "(I)I"⟩ : MethodName) ∈ zTb := zTb_in (zT5 (List.mem_of_getElem? (i := 171) (by decide +kernel))) rfl
theorem zmt5_172 : Cond.methodLink "PretendDesk$Forger" 62 (⟨"PretendDesk$Room", "signsAt", "(Ljava/lang/String;I)I"⟩ : MethodName) ∈ zTb := zTb_in (zT5 (List.mem_of_getElem? (i := 172) (by decide +kernel))) rfl
theorem zmt5_178 : Cond.methodLink "PretendDesk" 331 (⟨"PretendDesk$Forger", "leastMark", "(LPretendDesk$Came;III)I"⟩ : MethodName) ∈ zTb := zTb_in (zT5 (List.mem_of_getElem? (i := 178) (by decide +kernel))) rfl
theorem zmt5_179 : Cond.instanceMethod (⟨"PretendDesk$Forger", "leastMark", "(LPretendDesk$Came;III)I"⟩ : MethodName) ∈ zTb := zTb_in (zT5 (List.mem_of_getElem? (i := 179) (by decide +kernel))) rfl
theorem zmt5_180 : Cond.selects "PretendDesk$Forger" (⟨"PretendDesk$Forger", "leastMark", "(LPretendDesk$Came;III)I"⟩ : MethodName) (⟨"PretendDesk$Forger", "leastMark", "(LPretendDesk$Came;III)I"⟩ : MethodName) ∈ zTb := zTb_in (zT5 (List.mem_of_getElem? (i := 180) (by decide +kernel))) rfl
theorem zmt5_181 : Cond.code (⟨"PretendDesk$Forger", "leastMark", "(LPretendDesk$Came;III)I"⟩ : MethodName) prog_4_method_3_code 9 (some (.int)) ∈ zTb := zTb_in (zT5 (List.mem_of_getElem? (i := 181) (by decide +kernel))) rfl
theorem zmt5_182 : Cond.methodLink "PretendDesk$Forger" 77 (⟨"java/lang/Math", "max", "(II)I"⟩ : MethodName) ∈ zTb := zTb_in (zT5 (List.mem_of_getElem? (i := 182) (by decide +kernel))) rfl
theorem zmt5_187 : Cond.methodLink "PretendDesk" 335 (⟨"PretendDesk", "sharedWays", "(II)J"⟩ : MethodName) ∈ zTb := zTb_in (zT5 (List.mem_of_getElem? (i := 187) (by decide +kernel))) rfl
theorem zmt5_189 : Cond.instanceMethod (⟨"PretendDesk", "sharedWays", "(II)J"⟩ : MethodName) ∈ zTb := zTb_in (zT5 (List.mem_of_getElem? (i := 189) (by decide +kernel))) rfl
theorem zmt5_190 : Cond.code (⟨"PretendDesk", "sharedWays", "(II)J"⟩ : MethodName) prog_1_method_42_code 8 (some (.long)) ∈ zTb := zTb_in (zT5 (List.mem_of_getElem? (i := 190) (by decide +kernel))) rfl
theorem zmt5_191 : Cond.methodLink "PretendDesk" 346 (⟨"PretendDesk", "shares", "(II)I"⟩ : MethodName) ∈ zTb := zTb_in (zT5 (List.mem_of_getElem? (i := 191) (by decide +kernel))) rfl
theorem zmt5_193 : Cond.instanceMethod (⟨"PretendDesk", "shares", "(II)I"⟩ : MethodName) ∈ zTb := zTb_in (zT5 (List.mem_of_getElem? (i := 193) (by decide +kernel))) rfl
theorem zmt5_194 : Cond.code (⟨"PretendDesk", "shares", "(II)I"⟩ : MethodName) prog_1_method_43_code 3 (some (.int)) ∈ zTb := zTb_in (zT5 (List.mem_of_getElem? (i := 194) (by decide +kernel))) rfl
theorem zmt5_195 : Cond.methodLink "PretendDesk" 343 (⟨"PretendDesk", "choices", "(II)J"⟩ : MethodName) ∈ zTb := zTb_in (zT5 (List.mem_of_getElem? (i := 195) (by decide +kernel))) rfl
theorem zmt5_196 : Cond.static (⟨"PretendDesk", "choices", "(II)J"⟩ : MethodName) ∈ zTb := zTb_in (zT5 (List.mem_of_getElem? (i := 196) (by decide +kernel))) rfl
theorem zmt5_197 : Cond.code (⟨"PretendDesk", "choices", "(II)J"⟩ : MethodName) prog_1_method_44_code 5 (some (.long)) ∈ zTb := zTb_in (zT5 (List.mem_of_getElem? (i := 197) (by decide +kernel))) rfl
theorem zmt5_198 : Cond.methodLink "PretendDesk" 339 (⟨"PretendDesk", "allWays", "(I)J"⟩ : MethodName) ∈ zTb := zTb_in (zT5 (List.mem_of_getElem? (i := 198) (by decide +kernel))) rfl
theorem zmt5_200 : Cond.instanceMethod (⟨"PretendDesk", "allWays", "(I)J"⟩ : MethodName) ∈ zTb := zTb_in (zT5 (List.mem_of_getElem? (i := 200) (by decide +kernel))) rfl
theorem zmt5_201 : Cond.code (⟨"PretendDesk", "allWays", "(I)J"⟩ : MethodName) prog_1_method_41_code 2 (some (.long)) ∈ zTb := zTb_in (zT5 (List.mem_of_getElem? (i := 201) (by decide +kernel))) rfl
theorem zmt5_206 : Cond.methodLink "PretendDesk" 349 (⟨"PretendDesk", "ofOneHand", "(II)I"⟩ : MethodName) ∈ zTb := zTb_in (zT5 (List.mem_of_getElem? (i := 206) (by decide +kernel))) rfl
theorem zmt5_208 : Cond.instanceMethod (⟨"PretendDesk", "ofOneHand", "(II)I"⟩ : MethodName) ∈ zTb := zTb_in (zT5 (List.mem_of_getElem? (i := 208) (by decide +kernel))) rfl
theorem zmt5_209 : Cond.code (⟨"PretendDesk", "ofOneHand", "(II)I"⟩ : MethodName) prog_1_method_46_code 5 (some (.int)) ∈ zTb := zTb_in (zT5 (List.mem_of_getElem? (i := 209) (by decide +kernel))) rfl
theorem zmt5_214 : Cond.methodLink "PretendDesk" 352 (⟨"PretendDesk", "sketched", "(II)I"⟩ : MethodName) ∈ zTb := zTb_in (zT5 (List.mem_of_getElem? (i := 214) (by decide +kernel))) rfl
theorem zmt5_216 : Cond.instanceMethod (⟨"PretendDesk", "sketched", "(II)I"⟩ : MethodName) ∈ zTb := zTb_in (zT5 (List.mem_of_getElem? (i := 216) (by decide +kernel))) rfl
theorem zmt5_217 : Cond.code (⟨"PretendDesk", "sketched", "(II)I"⟩ : MethodName) prog_1_method_48_code 6 (some (.int)) ∈ zTb := zTb_in (zT5 (List.mem_of_getElem? (i := 217) (by decide +kernel))) rfl
theorem zmt5_218 : Cond.constant "PretendDesk" 355 (65535 : Int32) ∈ zTb := zTb_in (zT5 (List.mem_of_getElem? (i := 218) (by decide +kernel))) rfl
theorem zmt5_223 : Cond.methodLink "PretendDesk" 356 (⟨"PretendDesk", "fits", "(II)I"⟩ : MethodName) ∈ zTb := zTb_in (zT5 (List.mem_of_getElem? (i := 223) (by decide +kernel))) rfl
theorem zmt5_225 : Cond.instanceMethod (⟨"PretendDesk", "fits", "(II)I"⟩ : MethodName) ∈ zTb := zTb_in (zT5 (List.mem_of_getElem? (i := 225) (by decide +kernel))) rfl
theorem zmt5_226 : Cond.code (⟨"PretendDesk", "fits", "(II)I"⟩ : MethodName) prog_1_method_50_code 6 (some (.int)) ∈ zTb := zTb_in (zT5 (List.mem_of_getElem? (i := 226) (by decide +kernel))) rfl
theorem zmt5_231 : Cond.methodLink "PretendDesk" 359 (⟨"PretendDesk$Tape", "takeProgram", "([I)I"⟩ : MethodName) ∈ zTb := zTb_in (zT5 (List.mem_of_getElem? (i := 231) (by decide +kernel))) rfl
theorem zmt5_232 : Cond.instanceMethod (⟨"PretendDesk$Tape", "takeProgram", "([I)I"⟩ : MethodName) ∈ zTb := zTb_in (zT5 (List.mem_of_getElem? (i := 232) (by decide +kernel))) rfl
theorem zmt5_233 : Cond.selects "PretendDesk$Tape" (⟨"PretendDesk$Tape", "takeProgram", "([I)I"⟩ : MethodName) (⟨"PretendDesk$Tape", "takeProgram", "([I)I"⟩ : MethodName) ∈ zTb := zTb_in (zT5 (List.mem_of_getElem? (i := 233) (by decide +kernel))) rfl
theorem zmt5_234 : Cond.code (⟨"PretendDesk$Tape", "takeProgram", "([I)I"⟩ : MethodName) prog_11_method_13_code 4 (some (.int)) ∈ zTb := zTb_in (zT5 (List.mem_of_getElem? (i := 234) (by decide +kernel))) rfl
theorem zmt5_235 : Cond.methodLink "PretendDesk$Tape" 121 (⟨"PretendDesk$Tape", "readLine", "([II)V"⟩ : MethodName) ∈ zTb := zTb_in (zT5 (List.mem_of_getElem? (i := 235) (by decide +kernel))) rfl
theorem zmt5_237 : Cond.instanceMethod (⟨"PretendDesk$Tape", "readLine", "([II)V"⟩ : MethodName) ∈ zTb := zTb_in (zT5 (List.mem_of_getElem? (i := 237) (by decide +kernel))) rfl
theorem zmt5_238 : Cond.code (⟨"PretendDesk$Tape", "readLine", "([II)V"⟩ : MethodName) prog_11_method_14_code 8 none ∈ zTb := zTb_in (zT5 (List.mem_of_getElem? (i := 238) (by decide +kernel))) rfl
theorem zmt5_239 : Cond.methodLink "PretendDesk$Tape" 125 (⟨"PretendDesk$Tape", "readKind", "()I"⟩ : MethodName) ∈ zTb := zTb_in (zT5 (List.mem_of_getElem? (i := 239) (by decide +kernel))) rfl
theorem zmt6_1 : Cond.instanceMethod (⟨"PretendDesk$Tape", "readKind", "()I"⟩ : MethodName) ∈ zTb := zTb_in (zT6 (List.mem_of_getElem? (i := 1) (by decide +kernel))) rfl
theorem zmt6_2 : Cond.code (⟨"PretendDesk$Tape", "readKind", "()I"⟩ : MethodName) prog_11_method_15_code 2 (some (.int)) ∈ zTb := zTb_in (zT6 (List.mem_of_getElem? (i := 2) (by decide +kernel))) rfl
theorem zmt6_3 : Cond.methodLink "PretendDesk$Tape" 129 (⟨"PretendDesk$Tape", "readBehind", "(II)I"⟩ : MethodName) ∈ zTb := zTb_in (zT6 (List.mem_of_getElem? (i := 3) (by decide +kernel))) rfl
theorem zmt6_5 : Cond.instanceMethod (⟨"PretendDesk$Tape", "readBehind", "(II)I"⟩ : MethodName) ∈ zTb := zTb_in (zT6 (List.mem_of_getElem? (i := 5) (by decide +kernel))) rfl
theorem zmt6_6 : Cond.code (⟨"PretendDesk$Tape", "readBehind", "(II)I"⟩ : MethodName) prog_11_method_16_code 3 (some (.int)) ∈ zTb := zTb_in (zT6 (List.mem_of_getElem? (i := 6) (by decide +kernel))) rfl
theorem zmt6_7 : Cond.methodLink "PretendDesk" 362 (⟨"PretendDesk$Came", "tellLines", "([II)V"⟩ : MethodName) ∈ zTb := zTb_in (zT6 (List.mem_of_getElem? (i := 7) (by decide +kernel))) rfl
theorem zmt6_8 : Cond.instanceMethod (⟨"PretendDesk$Came", "tellLines", "([II)V"⟩ : MethodName) ∈ zTb := zTb_in (zT6 (List.mem_of_getElem? (i := 8) (by decide +kernel))) rfl
theorem zmt6_9 : Cond.selects "PretendDesk$Came" (⟨"PretendDesk$Came", "tellLines", "([II)V"⟩ : MethodName) (⟨"PretendDesk$Came", "tellLines", "([II)V"⟩ : MethodName) ∈ zTb := zTb_in (zT6 (List.mem_of_getElem? (i := 9) (by decide +kernel))) rfl
theorem zmt6_10 : Cond.code (⟨"PretendDesk$Came", "tellLines", "([II)V"⟩ : MethodName) prog_3_method_4_code 3 none ∈ zTb := zTb_in (zT6 (List.mem_of_getElem? (i := 10) (by decide +kernel))) rfl
theorem zmt6_11 : Cond.methodLink "PretendDesk$Came" 38 (⟨"java/lang/System", "arraycopy", "(Ljava/lang/Object;ILjava/lang/Object;II)V"⟩ : MethodName) ∈ zTb := zTb_in (zT6 (List.mem_of_getElem? (i := 11) (by decide +kernel))) rfl
theorem zmt6_16 : Cond.methodLink "PretendDesk" 366 (⟨"PretendDesk", "isAddress", "(I)Z"⟩ : MethodName) ∈ zTb := zTb_in (zT6 (List.mem_of_getElem? (i := 16) (by decide +kernel))) rfl
theorem zmt6_17 : Cond.static (⟨"PretendDesk", "isAddress", "(I)Z"⟩ : MethodName) ∈ zTb := zTb_in (zT6 (List.mem_of_getElem? (i := 17) (by decide +kernel))) rfl
theorem zmt6_18 : Cond.code (⟨"PretendDesk", "isAddress", "(I)Z"⟩ : MethodName) prog_1_method_81_code 1 (some (.boolean)) ∈ zTb := zTb_in (zT6 (List.mem_of_getElem? (i := 18) (by decide +kernel))) rfl
theorem zmt6_24 : Cond.instanceMethod (⟨"PretendDesk", "goes", "(IZ)I"⟩ : MethodName) ∈ zTb := zTb_in (zT6 (List.mem_of_getElem? (i := 24) (by decide +kernel))) rfl
theorem zmt6_25 : Cond.selects "PretendDesk" (⟨"PretendDesk", "goes", "(IZ)I"⟩ : MethodName) (⟨"PretendDesk", "goes", "(IZ)I"⟩ : MethodName) ∈ zTb := zTb_in (zT6 (List.mem_of_getElem? (i := 25) (by decide +kernel))) rfl
theorem zmt6_26 : Cond.code (⟨"PretendDesk", "goes", "(IZ)I"⟩ : MethodName) prog_1_method_54_code 5 (some (.int)) ∈ zTb := zTb_in (zT6 (List.mem_of_getElem? (i := 26) (by decide +kernel))) rfl
theorem zmt6_31 : Cond.methodLink "PretendDesk" 375 (⟨"PretendDesk", "isMade", "(I)Z"⟩ : MethodName) ∈ zTb := zTb_in (zT6 (List.mem_of_getElem? (i := 31) (by decide +kernel))) rfl
theorem zmt6_32 : Cond.static (⟨"PretendDesk", "isMade", "(I)Z"⟩ : MethodName) ∈ zTb := zTb_in (zT6 (List.mem_of_getElem? (i := 32) (by decide +kernel))) rfl
theorem zmt6_33 : Cond.code (⟨"PretendDesk", "isMade", "(I)Z"⟩ : MethodName) prog_1_method_82_code 1 (some (.boolean)) ∈ zTb := zTb_in (zT6 (List.mem_of_getElem? (i := 33) (by decide +kernel))) rfl
theorem zmt6_34 : Cond.methodLink "PretendDesk" 378 (⟨"PretendDesk$Runner", "run", "(LPretendDesk$Came;I)V"⟩ : MethodName) ∈ zTb := zTb_in (zT6 (List.mem_of_getElem? (i := 34) (by decide +kernel))) rfl
theorem zmt6_35 : Cond.instanceMethod (⟨"PretendDesk$Runner", "run", "(LPretendDesk$Came;I)V"⟩ : MethodName) ∈ zTb := zTb_in (zT6 (List.mem_of_getElem? (i := 35) (by decide +kernel))) rfl
theorem zmt6_36 : Cond.selects "PretendDesk$Runner" (⟨"PretendDesk$Runner", "run", "(LPretendDesk$Came;I)V"⟩ : MethodName) (⟨"PretendDesk$Runner", "run", "(LPretendDesk$Came;I)V"⟩ : MethodName) ∈ zTb := zTb_in (zT6 (List.mem_of_getElem? (i := 36) (by decide +kernel))) rfl
theorem zmt6_37 : Cond.code (⟨"PretendDesk$Runner", "run", "(LPretendDesk$Came;I)V"⟩ : MethodName) prog_9_method_2_code 4 none ∈ zTb := zTb_in (zT6 (List.mem_of_getElem? (i := 37) (by decide +kernel))) rfl
theorem zmt6_38 : Cond.methodLink "PretendDesk$Runner" 33 (⟨"PretendDesk$Runner", "done", "([III)I"⟩ : MethodName) ∈ zTb := zTb_in (zT6 (List.mem_of_getElem? (i := 38) (by decide +kernel))) rfl
theorem zmt6_40 : Cond.instanceMethod (⟨"PretendDesk$Runner", "done", "([III)I"⟩ : MethodName) ∈ zTb := zTb_in (zT6 (List.mem_of_getElem? (i := 40) (by decide +kernel))) rfl
theorem zmt6_41 : Cond.code (⟨"PretendDesk$Runner", "done", "([III)I"⟩ : MethodName) prog_9_method_3_code 7 (some (.int)) ∈ zTb := zTb_in (zT6 (List.mem_of_getElem? (i := 41) (by decide +kernel))) rfl
theorem zmt6_50 : Cond.methodLink "PretendDesk" 388 (⟨"PretendDesk", "takenFrom", "(III)I"⟩ : MethodName) ∈ zTb := zTb_in (zT6 (List.mem_of_getElem? (i := 50) (by decide +kernel))) rfl
theorem zmt6_52 : Cond.instanceMethod (⟨"PretendDesk", "takenFrom", "(III)I"⟩ : MethodName) ∈ zTb := zTb_in (zT6 (List.mem_of_getElem? (i := 52) (by decide +kernel))) rfl
theorem zmt6_53 : Cond.code (⟨"PretendDesk", "takenFrom", "(III)I"⟩ : MethodName) prog_1_method_58_code 8 (some (.int)) ∈ zTb := zTb_in (zT6 (List.mem_of_getElem? (i := 53) (by decide +kernel))) rfl
theorem zmt6_54 : Cond.methodLink "PretendDesk" 391 (⟨"PretendDesk", "goes", "(IZ)I"⟩ : MethodName) ∈ zTb := zTb_in (zT6 (List.mem_of_getElem? (i := 54) (by decide +kernel))) rfl
theorem zmt6_59 : Cond.methodLink "PretendDesk" 406 (⟨"PretendDesk$Speech", "tellWord", "([CII)I"⟩ : MethodName) ∈ zTb := zTb_in (zT6 (List.mem_of_getElem? (i := 59) (by decide +kernel))) rfl
theorem zmt6_60 : Cond.instanceMethod (⟨"PretendDesk$Speech", "tellWord", "([CII)I"⟩ : MethodName) ∈ zTb := zTb_in (zT6 (List.mem_of_getElem? (i := 60) (by decide +kernel))) rfl
theorem zmt6_61 : Cond.selects "PretendDesk$Speech" (⟨"PretendDesk$Speech", "tellWord", "([CII)I"⟩ : MethodName) (⟨"PretendDesk$Speech", "tellWord", "([CII)I"⟩ : MethodName) ∈ zTb := zTb_in (zT6 (List.mem_of_getElem? (i := 61) (by decide +kernel))) rfl
theorem zmt6_62 : Cond.code (⟨"PretendDesk$Speech", "tellWord", "([CII)I"⟩ : MethodName) prog_10_method_2_code 5 (some (.int)) ∈ zTb := zTb_in (zT6 (List.mem_of_getElem? (i := 62) (by decide +kernel))) rfl
theorem zmt6_63 : Cond.methodLink "PretendDesk$Speech" 35 (⟨"PretendDesk$Speech", "isWord", "(I[CII)Z"⟩ : MethodName) ∈ zTb := zTb_in (zT6 (List.mem_of_getElem? (i := 63) (by decide +kernel))) rfl
theorem zmt6_65 : Cond.instanceMethod (⟨"PretendDesk$Speech", "isWord", "(I[CII)Z"⟩ : MethodName) ∈ zTb := zTb_in (zT6 (List.mem_of_getElem? (i := 65) (by decide +kernel))) rfl
theorem zmt6_66 : Cond.code (⟨"PretendDesk$Speech", "isWord", "(I[CII)Z"⟩ : MethodName) prog_10_method_3_code 6 (some (.boolean)) ∈ zTb := zTb_in (zT6 (List.mem_of_getElem? (i := 66) (by decide +kernel))) rfl
theorem zmt6_67 : Cond.methodLink "PretendDesk$Speech" 39 (⟨"java/lang/System", "arraycopy", "(Ljava/lang/Object;ILjava/lang/Object;II)V"⟩ : MethodName) ∈ zTb := zTb_in (zT6 (List.mem_of_getElem? (i := 67) (by decide +kernel))) rfl
theorem zmt6_68 : Cond.methodLink "PretendDesk$Speech" 45 (⟨"java/lang/Math", "max", "(II)I"⟩ : MethodName) ∈ zTb := zTb_in (zT6 (List.mem_of_getElem? (i := 68) (by decide +kernel))) rfl
theorem zmt6_73 : Cond.methodLink "PretendDesk" 412 (⟨"PretendDesk$Speech", "tellPattern", "(II)I"⟩ : MethodName) ∈ zTb := zTb_in (zT6 (List.mem_of_getElem? (i := 73) (by decide +kernel))) rfl
theorem zmt6_74 : Cond.instanceMethod (⟨"PretendDesk$Speech", "tellPattern", "(II)I"⟩ : MethodName) ∈ zTb := zTb_in (zT6 (List.mem_of_getElem? (i := 74) (by decide +kernel))) rfl
theorem zmt6_75 : Cond.selects "PretendDesk$Speech" (⟨"PretendDesk$Speech", "tellPattern", "(II)I"⟩ : MethodName) (⟨"PretendDesk$Speech", "tellPattern", "(II)I"⟩ : MethodName) ∈ zTb := zTb_in (zT6 (List.mem_of_getElem? (i := 75) (by decide +kernel))) rfl
theorem zmt6_76 : Cond.code (⟨"PretendDesk$Speech", "tellPattern", "(II)I"⟩ : MethodName) prog_10_method_4_code 3 (some (.int)) ∈ zTb := zTb_in (zT6 (List.mem_of_getElem? (i := 76) (by decide +kernel))) rfl
theorem zmt6_81 : Cond.methodLink "PretendDesk" 415 (⟨"PretendDesk$Tape", "takeLetter", "()Z"⟩ : MethodName) ∈ zTb := zTb_in (zT6 (List.mem_of_getElem? (i := 81) (by decide +kernel))) rfl
theorem zmt6_82 : Cond.instanceMethod (⟨"PretendDesk$Tape", "takeLetter", "()Z"⟩ : MethodName) ∈ zTb := zTb_in (zT6 (List.mem_of_getElem? (i := 82) (by decide +kernel))) rfl
theorem zmt6_83 : Cond.selects "PretendDesk$Tape" (⟨"PretendDesk$Tape", "takeLetter", "()Z"⟩ : MethodName) (⟨"PretendDesk$Tape", "takeLetter", "()Z"⟩ : MethodName) ∈ zTb := zTb_in (zT6 (List.mem_of_getElem? (i := 83) (by decide +kernel))) rfl
theorem zmt6_84 : Cond.code (⟨"PretendDesk$Tape", "takeLetter", "()Z"⟩ : MethodName) prog_11_method_9_code 2 (some (.boolean)) ∈ zTb := zTb_in (zT6 (List.mem_of_getElem? (i := 84) (by decide +kernel))) rfl
theorem zmt6_85 : Cond.methodLink "PretendDesk" 419 (⟨"PretendDesk$Speech", "tellLetter", "([CI)V"⟩ : MethodName) ∈ zTb := zTb_in (zT6 (List.mem_of_getElem? (i := 85) (by decide +kernel))) rfl
theorem zmt6_86 : Cond.instanceMethod (⟨"PretendDesk$Speech", "tellLetter", "([CI)V"⟩ : MethodName) ∈ zTb := zTb_in (zT6 (List.mem_of_getElem? (i := 86) (by decide +kernel))) rfl
theorem zmt6_87 : Cond.selects "PretendDesk$Speech" (⟨"PretendDesk$Speech", "tellLetter", "([CI)V"⟩ : MethodName) (⟨"PretendDesk$Speech", "tellLetter", "([CI)V"⟩ : MethodName) ∈ zTb := zTb_in (zT6 (List.mem_of_getElem? (i := 87) (by decide +kernel))) rfl
theorem zmt6_88 : Cond.code (⟨"PretendDesk$Speech", "tellLetter", "([CI)V"⟩ : MethodName) prog_10_method_5_code 3 none ∈ zTb := zTb_in (zT6 (List.mem_of_getElem? (i := 88) (by decide +kernel))) rfl
theorem zmt6_89 : Cond.methodLink "PretendDesk$Speech" 54 (⟨"java/lang/Math", "min", "(II)I"⟩ : MethodName) ∈ zTb := zTb_in (zT6 (List.mem_of_getElem? (i := 89) (by decide +kernel))) rfl
theorem zmt6_90 : Cond.methodLink "PretendDesk" 423 (⟨"PretendDesk$Speech", "hear", "([I)I"⟩ : MethodName) ∈ zTb := zTb_in (zT6 (List.mem_of_getElem? (i := 90) (by decide +kernel))) rfl
theorem zmt6_91 : Cond.instanceMethod (⟨"PretendDesk$Speech", "hear", "([I)I"⟩ : MethodName) ∈ zTb := zTb_in (zT6 (List.mem_of_getElem? (i := 91) (by decide +kernel))) rfl
theorem zmt6_92 : Cond.selects "PretendDesk$Speech" (⟨"PretendDesk$Speech", "hear", "([I)I"⟩ : MethodName) (⟨"PretendDesk$Speech", "hear", "([I)I"⟩ : MethodName) ∈ zTb := zTb_in (zT6 (List.mem_of_getElem? (i := 92) (by decide +kernel))) rfl
theorem zmt6_93 : Cond.code (⟨"PretendDesk$Speech", "hear", "([I)I"⟩ : MethodName) prog_10_method_6_code 8 (some (.int)) ∈ zTb := zTb_in (zT6 (List.mem_of_getElem? (i := 93) (by decide +kernel))) rfl
theorem zmt6_95 : Cond.methodLink "PretendDesk$Speech" 64 (⟨"PretendDesk$Speech", "meaningOf", "(II)I"⟩ : MethodName) ∈ zTb := zTb_in (zT6 (List.mem_of_getElem? (i := 95) (by decide +kernel))) rfl
theorem zmt6_97 : Cond.instanceMethod (⟨"PretendDesk$Speech", "meaningOf", "(II)I"⟩ : MethodName) ∈ zTb := zTb_in (zT6 (List.mem_of_getElem? (i := 97) (by decide +kernel))) rfl
theorem zmt6_98 : Cond.code (⟨"PretendDesk$Speech", "meaningOf", "(II)I"⟩ : MethodName) prog_10_method_7_code 4 (some (.int)) ∈ zTb := zTb_in (zT6 (List.mem_of_getElem? (i := 98) (by decide +kernel))) rfl
theorem zmt6_107 : Cond.methodLink "PretendDesk" 429 (⟨"PretendDesk", "firstHolding", "(I)I"⟩ : MethodName) ∈ zTb := zTb_in (zT6 (List.mem_of_getElem? (i := 107) (by decide +kernel))) rfl
theorem zmt6_109 : Cond.instanceMethod (⟨"PretendDesk", "firstHolding", "(I)I"⟩ : MethodName) ∈ zTb := zTb_in (zT6 (List.mem_of_getElem? (i := 109) (by decide +kernel))) rfl
theorem zmt6_110 : Cond.code (⟨"PretendDesk", "firstHolding", "(I)I"⟩ : MethodName) prog_1_method_64_code 5 (some (.int)) ∈ zTb := zTb_in (zT6 (List.mem_of_getElem? (i := 110) (by decide +kernel))) rfl
theorem zmt6_119 : Cond.constant "PretendDesk" 438 (33554432 : Int32) ∈ zTb := zTb_in (zT6 (List.mem_of_getElem? (i := 119) (by decide +kernel))) rfl
theorem zmt6_124 : Cond.methodLink "PretendDesk" 443 (⟨"PretendDesk", "unlikeOf", "(II)I"⟩ : MethodName) ∈ zTb := zTb_in (zT6 (List.mem_of_getElem? (i := 124) (by decide +kernel))) rfl
theorem zmt6_126 : Cond.instanceMethod (⟨"PretendDesk", "unlikeOf", "(II)I"⟩ : MethodName) ∈ zTb := zTb_in (zT6 (List.mem_of_getElem? (i := 126) (by decide +kernel))) rfl
theorem zmt6_127 : Cond.code (⟨"PretendDesk", "unlikeOf", "(II)I"⟩ : MethodName) prog_1_method_69_code 9 (some (.int)) ∈ zTb := zTb_in (zT6 (List.mem_of_getElem? (i := 127) (by decide +kernel))) rfl
theorem zmt6_128 : Cond.methodLink "PretendDesk" 446 (⟨"PretendDesk", "moved", "(III)I"⟩ : MethodName) ∈ zTb := zTb_in (zT6 (List.mem_of_getElem? (i := 128) (by decide +kernel))) rfl
theorem zmt6_129 : Cond.static (⟨"PretendDesk", "moved", "(III)I"⟩ : MethodName) ∈ zTb := zTb_in (zT6 (List.mem_of_getElem? (i := 129) (by decide +kernel))) rfl
theorem zmt6_130 : Cond.code (⟨"PretendDesk", "moved", "(III)I"⟩ : MethodName) prog_1_method_71_code 8 (some (.int)) ∈ zTb := zTb_in (zT6 (List.mem_of_getElem? (i := 130) (by decide +kernel))) rfl
theorem zmt6_131 : Cond.methodLink "PretendDesk" 449 (⟨"PretendDesk", "turnedRight", "(I)I"⟩ : MethodName) ∈ zTb := zTb_in (zT6 (List.mem_of_getElem? (i := 131) (by decide +kernel))) rfl
theorem zmt6_132 : Cond.static (⟨"PretendDesk", "turnedRight", "(I)I"⟩ : MethodName) ∈ zTb := zTb_in (zT6 (List.mem_of_getElem? (i := 132) (by decide +kernel))) rfl
theorem zmt6_133 : Cond.code (⟨"PretendDesk", "turnedRight", "(I)I"⟩ : MethodName) prog_1_method_70_code 5 (some (.int)) ∈ zTb := zTb_in (zT6 (List.mem_of_getElem? (i := 133) (by decide +kernel))) rfl
theorem zmt6_142 : Cond.methodLink "PretendDesk" 455 (⟨"PretendDesk", "countOf", "(II)I"⟩ : MethodName) ∈ zTb := zTb_in (zT6 (List.mem_of_getElem? (i := 142) (by decide +kernel))) rfl
theorem zmt6_144 : Cond.instanceMethod (⟨"PretendDesk", "countOf", "(II)I"⟩ : MethodName) ∈ zTb := zTb_in (zT6 (List.mem_of_getElem? (i := 144) (by decide +kernel))) rfl
theorem zmt6_145 : Cond.code (⟨"PretendDesk", "countOf", "(II)I"⟩ : MethodName) prog_1_method_73_code 3 (some (.int)) ∈ zTb := zTb_in (zT6 (List.mem_of_getElem? (i := 145) (by decide +kernel))) rfl
theorem zmt6_150 : Cond.methodLink "PretendDesk" 458 (⟨"PretendDesk$Told", "copy", "(LPretendDesk$Told;)V"⟩ : MethodName) ∈ zTb := zTb_in (zT6 (List.mem_of_getElem? (i := 150) (by decide +kernel))) rfl
theorem zmt6_151 : Cond.instanceMethod (⟨"PretendDesk$Told", "copy", "(LPretendDesk$Told;)V"⟩ : MethodName) ∈ zTb := zTb_in (zT6 (List.mem_of_getElem? (i := 151) (by decide +kernel))) rfl
theorem zmt6_152 : Cond.selects "PretendDesk$Told" (⟨"PretendDesk$Told", "copy", "(LPretendDesk$Told;)V"⟩ : MethodName) (⟨"PretendDesk$Told", "copy", "(LPretendDesk$Told;)V"⟩ : MethodName) ∈ zTb := zTb_in (zT6 (List.mem_of_getElem? (i := 152) (by decide +kernel))) rfl
theorem zmt6_153 : Cond.code (⟨"PretendDesk$Told", "copy", "(LPretendDesk$Told;)V"⟩ : MethodName) prog_12_method_2_code 3 none ∈ zTb := zTb_in (zT6 (List.mem_of_getElem? (i := 153) (by decide +kernel))) rfl
theorem zmt6_154 : Cond.methodLink "PretendDesk$Told" 72 (⟨"PretendDesk$Tape", "copy", "(LPretendDesk$Tape;)V"⟩ : MethodName) ∈ zTb := zTb_in (zT6 (List.mem_of_getElem? (i := 154) (by decide +kernel))) rfl
theorem zmt6_155 : Cond.instanceMethod (⟨"PretendDesk$Tape", "copy", "(LPretendDesk$Tape;)V"⟩ : MethodName) ∈ zTb := zTb_in (zT6 (List.mem_of_getElem? (i := 155) (by decide +kernel))) rfl
theorem zmt6_156 : Cond.selects "PretendDesk$Tape" (⟨"PretendDesk$Tape", "copy", "(LPretendDesk$Tape;)V"⟩ : MethodName) (⟨"PretendDesk$Tape", "copy", "(LPretendDesk$Tape;)V"⟩ : MethodName) ∈ zTb := zTb_in (zT6 (List.mem_of_getElem? (i := 156) (by decide +kernel))) rfl
theorem zmt6_157 : Cond.code (⟨"PretendDesk$Tape", "copy", "(LPretendDesk$Tape;)V"⟩ : MethodName) prog_11_method_2_code 2 none ∈ zTb := zTb_in (zT6 (List.mem_of_getElem? (i := 157) (by decide +kernel))) rfl
theorem zmt6_158 : Cond.methodLink "PretendDesk$Tape" 30 (⟨"java/lang/System", "arraycopy", "(Ljava/lang/Object;ILjava/lang/Object;II)V"⟩ : MethodName) ∈ zTb := zTb_in (zT6 (List.mem_of_getElem? (i := 158) (by decide +kernel))) rfl
theorem zmt6_159 : Cond.methodLink "PretendDesk$Told" 76 (⟨"PretendDesk$Speech", "copy", "(LPretendDesk$Speech;)V"⟩ : MethodName) ∈ zTb := zTb_in (zT6 (List.mem_of_getElem? (i := 159) (by decide +kernel))) rfl
theorem zmt6_160 : Cond.instanceMethod (⟨"PretendDesk$Speech", "copy", "(LPretendDesk$Speech;)V"⟩ : MethodName) ∈ zTb := zTb_in (zT6 (List.mem_of_getElem? (i := 160) (by decide +kernel))) rfl
theorem zmt6_161 : Cond.selects "PretendDesk$Speech" (⟨"PretendDesk$Speech", "copy", "(LPretendDesk$Speech;)V"⟩ : MethodName) (⟨"PretendDesk$Speech", "copy", "(LPretendDesk$Speech;)V"⟩ : MethodName) ∈ zTb := zTb_in (zT6 (List.mem_of_getElem? (i := 161) (by decide +kernel))) rfl
theorem zmt6_162 : Cond.code (⟨"PretendDesk$Speech", "copy", "(LPretendDesk$Speech;)V"⟩ : MethodName) prog_10_method_8_code 2 none ∈ zTb := zTb_in (zT6 (List.mem_of_getElem? (i := 162) (by decide +kernel))) rfl
theorem zmt6_163 : Cond.methodLink "PretendDesk$Told" 79 (⟨"PretendDesk$House", "copy", "(LPretendDesk$House;)V"⟩ : MethodName) ∈ zTb := zTb_in (zT6 (List.mem_of_getElem? (i := 163) (by decide +kernel))) rfl
theorem zmt6_164 : Cond.instanceMethod (⟨"PretendDesk$House", "copy", "(LPretendDesk$House;)V"⟩ : MethodName) ∈ zTb := zTb_in (zT6 (List.mem_of_getElem? (i := 164) (by decide +kernel))) rfl
theorem zmt6_165 : Cond.selects "PretendDesk$House" (⟨"PretendDesk$House", "copy", "(LPretendDesk$House;)V"⟩ : MethodName) (⟨"PretendDesk$House", "copy", "(LPretendDesk$House;)V"⟩ : MethodName) ∈ zTb := zTb_in (zT6 (List.mem_of_getElem? (i := 165) (by decide +kernel))) rfl
theorem zmt6_166 : Cond.code (⟨"PretendDesk$House", "copy", "(LPretendDesk$House;)V"⟩ : MethodName) prog_5_method_2_code 3 none ∈ zTb := zTb_in (zT6 (List.mem_of_getElem? (i := 166) (by decide +kernel))) rfl
theorem zmt6_167 : Cond.methodLink "PretendDesk$House" 18 (⟨"PretendDesk$Page", "copy", "(LPretendDesk$Page;)V"⟩ : MethodName) ∈ zTb := zTb_in (zT6 (List.mem_of_getElem? (i := 167) (by decide +kernel))) rfl
theorem zmt6_168 : Cond.methodLink "PretendDesk$Told" 82 (⟨"PretendDesk$Came", "copy", "(LPretendDesk$Came;)V"⟩ : MethodName) ∈ zTb := zTb_in (zT6 (List.mem_of_getElem? (i := 168) (by decide +kernel))) rfl
theorem zmt6_169 : Cond.instanceMethod (⟨"PretendDesk$Came", "copy", "(LPretendDesk$Came;)V"⟩ : MethodName) ∈ zTb := zTb_in (zT6 (List.mem_of_getElem? (i := 169) (by decide +kernel))) rfl
theorem zmt6_170 : Cond.selects "PretendDesk$Came" (⟨"PretendDesk$Came", "copy", "(LPretendDesk$Came;)V"⟩ : MethodName) (⟨"PretendDesk$Came", "copy", "(LPretendDesk$Came;)V"⟩ : MethodName) ∈ zTb := zTb_in (zT6 (List.mem_of_getElem? (i := 170) (by decide +kernel))) rfl
theorem zmt6_171 : Cond.code (⟨"PretendDesk$Came", "copy", "(LPretendDesk$Came;)V"⟩ : MethodName) prog_3_method_5_code 2 none ∈ zTb := zTb_in (zT6 (List.mem_of_getElem? (i := 171) (by decide +kernel))) rfl
theorem zmt6_172 : Cond.methodLink "PretendDesk$Came" 47 (⟨"PretendDesk$Page", "copy", "(LPretendDesk$Page;)V"⟩ : MethodName) ∈ zTb := zTb_in (zT6 (List.mem_of_getElem? (i := 172) (by decide +kernel))) rfl
theorem zmt6_173 : Cond.methodLink "PretendDesk$Came" 51 (⟨"PretendDesk$Came", "tellLines", "([II)V"⟩ : MethodName) ∈ zTb := zTb_in (zT6 (List.mem_of_getElem? (i := 173) (by decide +kernel))) rfl
theorem zmt6_174 : Cond.methodLink "PretendDesk$Told" 85 (⟨"java/lang/System", "arraycopy", "(Ljava/lang/Object;ILjava/lang/Object;II)V"⟩ : MethodName) ∈ zTb := zTb_in (zT6 (List.mem_of_getElem? (i := 174) (by decide +kernel))) rfl
theorem zmt6_184 : Cond.methodLink "PretendDeskModel" 1 (⟨"java/lang/Object", "<init>", "()V"⟩ : MethodName) ∈ zTb := zTb_in (zT6 (List.mem_of_getElem? (i := 184) (by decide +kernel))) rfl
theorem zmt6_185 : Cond.fieldLink "PretendDeskModel" 7 "PretendDeskModel" "all" "[I" ∈ zTb := zTb_in (zT6 (List.mem_of_getElem? (i := 185) (by decide +kernel))) rfl
theorem zmt6_186 : Cond.fieldLink "PretendDeskModel" 13 "PretendDeskModel" "has" "[Z" ∈ zTb := zTb_in (zT6 (List.mem_of_getElem? (i := 186) (by decide +kernel))) rfl
theorem zmt6_187 : Cond.fieldLink "PretendDeskModel" 100 "PretendDeskModel" "size" "I" ∈ zTb := zTb_in (zT6 (List.mem_of_getElem? (i := 187) (by decide +kernel))) rfl
theorem zmt6_188 : Cond.fieldLink "PretendDeskModel" 116 "PretendDeskModel" "next" "I" ∈ zTb := zTb_in (zT6 (List.mem_of_getElem? (i := 188) (by decide +kernel))) rfl
theorem zmt6_189 : Cond.fieldLink "PretendDeskModel" 122 "PretendDeskModel" "where" "I" ∈ zTb := zTb_in (zT6 (List.mem_of_getElem? (i := 189) (by decide +kernel))) rfl
theorem zmt6_190 : Cond.fieldLink "PretendDeskModel" 125 "PretendDeskModel" "token" "I" ∈ zTb := zTb_in (zT6 (List.mem_of_getElem? (i := 190) (by decide +kernel))) rfl
theorem zmt6_191 : Cond.fieldLink "PretendDeskModel" 141 "PretendDeskModel" "number" "I" ∈ zTb := zTb_in (zT6 (List.mem_of_getElem? (i := 191) (by decide +kernel))) rfl
theorem zmt6_192 : Cond.fieldLink "PretendDeskModel" 144 "PretendDeskModel" "sign" "I" ∈ zTb := zTb_in (zT6 (List.mem_of_getElem? (i := 192) (by decide +kernel))) rfl
theorem zmt6_193 : Cond.fieldLink "PretendDeskModel" 135 "PretendDeskModel" "word" "I" ∈ zTb := zTb_in (zT6 (List.mem_of_getElem? (i := 193) (by decide +kernel))) rfl
theorem zmt6_194 : Cond.fieldLink "PretendDeskModel" 147 "PretendDeskModel" "wrong" "Z" ∈ zTb := zTb_in (zT6 (List.mem_of_getElem? (i := 194) (by decide +kernel))) rfl
theorem zmt6_195 : Cond.fieldLink "PretendDeskModel" 151 "PretendDeskModel" "boxes" "I" ∈ zTb := zTb_in (zT6 (List.mem_of_getElem? (i := 195) (by decide +kernel))) rfl
theorem zmt6_196 : Cond.fieldLink "PretendDeskModel" 154 "PretendDeskModel" "depth" "I" ∈ zTb := zTb_in (zT6 (List.mem_of_getElem? (i := 196) (by decide +kernel))) rfl
theorem zmt6_197 : Cond.fieldLink "PretendDeskModel" 17 "PretendDeskModel" "within" "[I" ∈ zTb := zTb_in (zT6 (List.mem_of_getElem? (i := 197) (by decide +kernel))) rfl
theorem zmt6_198 : Cond.fieldLink "PretendDeskModel" 20 "PretendDeskModel" "read" "[I" ∈ zTb := zTb_in (zT6 (List.mem_of_getElem? (i := 198) (by decide +kernel))) rfl
theorem zmt6_199 : Cond.fieldLink "PretendDeskModel" 23 "PretendDeskModel" "spelled" "[I" ∈ zTb := zTb_in (zT6 (List.mem_of_getElem? (i := 199) (by decide +kernel))) rfl
theorem zmt6_200 : Cond.fieldLink "PretendDeskModel" 215 "PretendDeskModel" "tree" "I" ∈ zTb := zTb_in (zT6 (List.mem_of_getElem? (i := 200) (by decide +kernel))) rfl
theorem zmt6_201 : Cond.fieldLink "PretendDeskModel" 26 "PretendDeskModel" "gone" "[Z" ∈ zTb := zTb_in (zT6 (List.mem_of_getElem? (i := 201) (by decide +kernel))) rfl
theorem zmt6_202 : Cond.fieldLink "PretendDeskModel" 29 "PretendDeskModel" "colour" "[I" ∈ zTb := zTb_in (zT6 (List.mem_of_getElem? (i := 202) (by decide +kernel))) rfl
theorem zmt6_203 : Cond.fieldLink "PretendDeskModel" 32 "PretendDeskModel" "shown" "[Z" ∈ zTb := zTb_in (zT6 (List.mem_of_getElem? (i := 203) (by decide +kernel))) rfl
theorem zmt6_204 : Cond.fieldLink "PretendDeskModel" 35 "PretendDeskModel" "over" "[I" ∈ zTb := zTb_in (zT6 (List.mem_of_getElem? (i := 204) (by decide +kernel))) rfl
theorem zmt6_205 : Cond.fieldLink "PretendDeskModel" 38 "PretendDeskModel" "stack" "[I" ∈ zTb := zTb_in (zT6 (List.mem_of_getElem? (i := 205) (by decide +kernel))) rfl
theorem zmt6_206 : Cond.fieldLink "PretendDeskModel" 41 "PretendDeskModel" "begun" "[I" ∈ zTb := zTb_in (zT6 (List.mem_of_getElem? (i := 206) (by decide +kernel))) rfl
theorem zmt6_207 : Cond.fieldLink "PretendDeskModel" 44 "PretendDeskModel" "many" "[I" ∈ zTb := zTb_in (zT6 (List.mem_of_getElem? (i := 207) (by decide +kernel))) rfl
theorem zmt6_208 : Cond.fieldLink "PretendDeskModel" 47 "PretendDeskModel" "kinds" "[I" ∈ zTb := zTb_in (zT6 (List.mem_of_getElem? (i := 208) (by decide +kernel))) rfl
theorem zmt6_209 : Cond.fieldLink "PretendDeskModel" 50 "PretendDeskModel" "colours" "[I" ∈ zTb := zTb_in (zT6 (List.mem_of_getElem? (i := 209) (by decide +kernel))) rfl
theorem zmt6_210 : Cond.fieldLink "PretendDeskModel" 53 "PretendDeskModel" "first" "[I" ∈ zTb := zTb_in (zT6 (List.mem_of_getElem? (i := 210) (by decide +kernel))) rfl
theorem zmt6_211 : Cond.fieldLink "PretendDeskModel" 221 "PretendDeskModel" "opened" "I" ∈ zTb := zTb_in (zT6 (List.mem_of_getElem? (i := 211) (by decide +kernel))) rfl
theorem zmt6_212 : Cond.fieldLink "PretendDeskModel" 224 "PretendDeskModel" "asked" "I" ∈ zTb := zTb_in (zT6 (List.mem_of_getElem? (i := 212) (by decide +kernel))) rfl
theorem zmt6_213 : Cond.fieldLink "PretendDeskModel" 56 "PretendDeskModel" "apart" "[I" ∈ zTb := zTb_in (zT6 (List.mem_of_getElem? (i := 213) (by decide +kernel))) rfl
theorem zmt6_214 : Cond.fieldLink "PretendDeskModel" 59 "PretendDeskModel" "row" "[I" ∈ zTb := zTb_in (zT6 (List.mem_of_getElem? (i := 214) (by decide +kernel))) rfl
theorem zmt6_215 : Cond.fieldLink "PretendDeskModel" 270 "PretendDeskModel" "likeLook" "I" ∈ zTb := zTb_in (zT6 (List.mem_of_getElem? (i := 215) (by decide +kernel))) rfl
theorem zmt6_216 : Cond.fieldLink "PretendDeskModel" 279 "PretendDeskModel" "likeIs" "I" ∈ zTb := zTb_in (zT6 (List.mem_of_getElem? (i := 216) (by decide +kernel))) rfl
theorem zmt6_217 : Cond.fieldLink "PretendDeskModel" 282 "PretendDeskModel" "lookIs" "I" ∈ zTb := zTb_in (zT6 (List.mem_of_getElem? (i := 217) (by decide +kernel))) rfl
theorem zmt6_218 : Cond.fieldLink "PretendDeskModel" 276 "PretendDeskModel" "askIs" "I" ∈ zTb := zTb_in (zT6 (List.mem_of_getElem? (i := 218) (by decide +kernel))) rfl
theorem zmt6_219 : Cond.fieldLink "PretendDeskModel" 288 "PretendDeskModel" "isElsewhere" "Z" ∈ zTb := zTb_in (zT6 (List.mem_of_getElem? (i := 219) (by decide +kernel))) rfl
theorem zmt6_220 : Cond.fieldLink "PretendDeskModel" 62 "PretendDeskModel" "caseLook" "[I" ∈ zTb := zTb_in (zT6 (List.mem_of_getElem? (i := 220) (by decide +kernel))) rfl
theorem zmt6_221 : Cond.fieldLink "PretendDeskModel" 65 "PretendDeskModel" "caseAsk" "[I" ∈ zTb := zTb_in (zT6 (List.mem_of_getElem? (i := 221) (by decide +kernel))) rfl
theorem zmt6_222 : Cond.fieldLink "PretendDeskModel" 68 "PretendDeskModel" "caseAge" "[I" ∈ zTb := zTb_in (zT6 (List.mem_of_getElem? (i := 222) (by decide +kernel))) rfl
theorem zmt6_223 : Cond.fieldLink "PretendDeskModel" 71 "PretendDeskModel" "told" "[I" ∈ zTb := zTb_in (zT6 (List.mem_of_getElem? (i := 223) (by decide +kernel))) rfl
theorem zmt6_224 : Cond.fieldLink "PretendDeskModel" 74 "PretendDeskModel" "fitted" "[I" ∈ zTb := zTb_in (zT6 (List.mem_of_getElem? (i := 224) (by decide +kernel))) rfl
theorem zmt6_225 : Cond.fieldLink "PretendDeskModel" 325 "PretendDeskModel" "waits" "I" ∈ zTb := zTb_in (zT6 (List.mem_of_getElem? (i := 225) (by decide +kernel))) rfl
theorem zmt6_226 : Cond.fieldLink "PretendDeskModel" 328 "PretendDeskModel" "priceNow" "I" ∈ zTb := zTb_in (zT6 (List.mem_of_getElem? (i := 226) (by decide +kernel))) rfl
theorem zmt6_227 : Cond.fieldLink "PretendDeskModel" 357 "PretendDeskModel" "lines" "I" ∈ zTb := zTb_in (zT6 (List.mem_of_getElem? (i := 227) (by decide +kernel))) rfl
theorem zmt6_228 : Cond.fieldLink "PretendDeskModel" 77 "PretendDeskModel" "line" "[I" ∈ zTb := zTb_in (zT6 (List.mem_of_getElem? (i := 228) (by decide +kernel))) rfl
theorem zmt6_229 : Cond.fieldLink "PretendDeskModel" 80 "PretendDeskModel" "register" "[I" ∈ zTb := zTb_in (zT6 (List.mem_of_getElem? (i := 229) (by decide +kernel))) rfl
theorem zmt6_230 : Cond.fieldLink "PretendDeskModel" 83 "PretendDeskModel" "traces" "[I" ∈ zTb := zTb_in (zT6 (List.mem_of_getElem? (i := 230) (by decide +kernel))) rfl
theorem zmt6_231 : Cond.fieldLink "PretendDeskModel" 86 "PretendDeskModel" "come" "[I" ∈ zTb := zTb_in (zT6 (List.mem_of_getElem? (i := 231) (by decide +kernel))) rfl
theorem zmt6_232 : Cond.fieldLink "PretendDeskModel" 375 "PretendDeskModel" "relays" "I" ∈ zTb := zTb_in (zT6 (List.mem_of_getElem? (i := 232) (by decide +kernel))) rfl
theorem zmt6_233 : Cond.fieldLink "PretendDeskModel" 396 "PretendDeskModel" "meant" "I" ∈ zTb := zTb_in (zT6 (List.mem_of_getElem? (i := 233) (by decide +kernel))) rfl
theorem zmt6_234 : Cond.laysFinal "PretendDeskModel" "PretendDeskModel" "all" "[I" ∈ zTb := zTb_in (zT6 (List.mem_of_getElem? (i := 234) (by decide +kernel))) rfl
theorem zmt6_236 : Cond.laysFinal "PretendDeskModel" "PretendDeskModel" "has" "[Z" ∈ zTb := zTb_in (zT6 (List.mem_of_getElem? (i := 236) (by decide +kernel))) rfl
theorem zmt6_238 : Cond.lays "PretendDeskModel" "PretendDeskModel" "size" "I" ∈ zTb := zTb_in (zT6 (List.mem_of_getElem? (i := 238) (by decide +kernel))) rfl
theorem zmt7_0 : Cond.lays "PretendDeskModel" "PretendDeskModel" "next" "I" ∈ zTb := zTb_in (zT7 (List.mem_of_getElem? (i := 0) (by decide +kernel))) rfl
theorem zmt7_2 : Cond.lays "PretendDeskModel" "PretendDeskModel" "where" "I" ∈ zTb := zTb_in (zT7 (List.mem_of_getElem? (i := 2) (by decide +kernel))) rfl
theorem zmt7_4 : Cond.lays "PretendDeskModel" "PretendDeskModel" "token" "I" ∈ zTb := zTb_in (zT7 (List.mem_of_getElem? (i := 4) (by decide +kernel))) rfl
theorem zmt7_6 : Cond.lays "PretendDeskModel" "PretendDeskModel" "number" "I" ∈ zTb := zTb_in (zT7 (List.mem_of_getElem? (i := 6) (by decide +kernel))) rfl
theorem zmt7_8 : Cond.lays "PretendDeskModel" "PretendDeskModel" "sign" "I" ∈ zTb := zTb_in (zT7 (List.mem_of_getElem? (i := 8) (by decide +kernel))) rfl
theorem zmt7_10 : Cond.lays "PretendDeskModel" "PretendDeskModel" "word" "I" ∈ zTb := zTb_in (zT7 (List.mem_of_getElem? (i := 10) (by decide +kernel))) rfl
theorem zmt7_12 : Cond.lays "PretendDeskModel" "PretendDeskModel" "wrong" "Z" ∈ zTb := zTb_in (zT7 (List.mem_of_getElem? (i := 12) (by decide +kernel))) rfl
theorem zmt7_14 : Cond.lays "PretendDeskModel" "PretendDeskModel" "boxes" "I" ∈ zTb := zTb_in (zT7 (List.mem_of_getElem? (i := 14) (by decide +kernel))) rfl
theorem zmt7_16 : Cond.lays "PretendDeskModel" "PretendDeskModel" "depth" "I" ∈ zTb := zTb_in (zT7 (List.mem_of_getElem? (i := 16) (by decide +kernel))) rfl
theorem zmt7_18 : Cond.laysFinal "PretendDeskModel" "PretendDeskModel" "within" "[I" ∈ zTb := zTb_in (zT7 (List.mem_of_getElem? (i := 18) (by decide +kernel))) rfl
theorem zmt7_20 : Cond.laysFinal "PretendDeskModel" "PretendDeskModel" "read" "[I" ∈ zTb := zTb_in (zT7 (List.mem_of_getElem? (i := 20) (by decide +kernel))) rfl
theorem zmt7_22 : Cond.laysFinal "PretendDeskModel" "PretendDeskModel" "spelled" "[I" ∈ zTb := zTb_in (zT7 (List.mem_of_getElem? (i := 22) (by decide +kernel))) rfl
theorem zmt7_24 : Cond.lays "PretendDeskModel" "PretendDeskModel" "tree" "I" ∈ zTb := zTb_in (zT7 (List.mem_of_getElem? (i := 24) (by decide +kernel))) rfl
theorem zmt7_26 : Cond.laysFinal "PretendDeskModel" "PretendDeskModel" "gone" "[Z" ∈ zTb := zTb_in (zT7 (List.mem_of_getElem? (i := 26) (by decide +kernel))) rfl
theorem zmt7_28 : Cond.laysFinal "PretendDeskModel" "PretendDeskModel" "colour" "[I" ∈ zTb := zTb_in (zT7 (List.mem_of_getElem? (i := 28) (by decide +kernel))) rfl
theorem zmt7_30 : Cond.laysFinal "PretendDeskModel" "PretendDeskModel" "shown" "[Z" ∈ zTb := zTb_in (zT7 (List.mem_of_getElem? (i := 30) (by decide +kernel))) rfl
theorem zmt7_32 : Cond.laysFinal "PretendDeskModel" "PretendDeskModel" "over" "[I" ∈ zTb := zTb_in (zT7 (List.mem_of_getElem? (i := 32) (by decide +kernel))) rfl
theorem zmt7_34 : Cond.laysFinal "PretendDeskModel" "PretendDeskModel" "stack" "[I" ∈ zTb := zTb_in (zT7 (List.mem_of_getElem? (i := 34) (by decide +kernel))) rfl
theorem zmt7_36 : Cond.laysFinal "PretendDeskModel" "PretendDeskModel" "begun" "[I" ∈ zTb := zTb_in (zT7 (List.mem_of_getElem? (i := 36) (by decide +kernel))) rfl
theorem zmt7_38 : Cond.laysFinal "PretendDeskModel" "PretendDeskModel" "many" "[I" ∈ zTb := zTb_in (zT7 (List.mem_of_getElem? (i := 38) (by decide +kernel))) rfl
theorem zmt7_40 : Cond.laysFinal "PretendDeskModel" "PretendDeskModel" "kinds" "[I" ∈ zTb := zTb_in (zT7 (List.mem_of_getElem? (i := 40) (by decide +kernel))) rfl
theorem zmt7_42 : Cond.laysFinal "PretendDeskModel" "PretendDeskModel" "colours" "[I" ∈ zTb := zTb_in (zT7 (List.mem_of_getElem? (i := 42) (by decide +kernel))) rfl
theorem zmt7_44 : Cond.laysFinal "PretendDeskModel" "PretendDeskModel" "first" "[I" ∈ zTb := zTb_in (zT7 (List.mem_of_getElem? (i := 44) (by decide +kernel))) rfl
theorem zmt7_46 : Cond.lays "PretendDeskModel" "PretendDeskModel" "opened" "I" ∈ zTb := zTb_in (zT7 (List.mem_of_getElem? (i := 46) (by decide +kernel))) rfl
theorem zmt7_48 : Cond.lays "PretendDeskModel" "PretendDeskModel" "asked" "I" ∈ zTb := zTb_in (zT7 (List.mem_of_getElem? (i := 48) (by decide +kernel))) rfl
theorem zmt7_50 : Cond.laysFinal "PretendDeskModel" "PretendDeskModel" "apart" "[I" ∈ zTb := zTb_in (zT7 (List.mem_of_getElem? (i := 50) (by decide +kernel))) rfl
theorem zmt7_52 : Cond.laysFinal "PretendDeskModel" "PretendDeskModel" "row" "[I" ∈ zTb := zTb_in (zT7 (List.mem_of_getElem? (i := 52) (by decide +kernel))) rfl
theorem zmt7_54 : Cond.lays "PretendDeskModel" "PretendDeskModel" "likeLook" "I" ∈ zTb := zTb_in (zT7 (List.mem_of_getElem? (i := 54) (by decide +kernel))) rfl
theorem zmt7_56 : Cond.lays "PretendDeskModel" "PretendDeskModel" "likeIs" "I" ∈ zTb := zTb_in (zT7 (List.mem_of_getElem? (i := 56) (by decide +kernel))) rfl
theorem zmt7_58 : Cond.lays "PretendDeskModel" "PretendDeskModel" "lookIs" "I" ∈ zTb := zTb_in (zT7 (List.mem_of_getElem? (i := 58) (by decide +kernel))) rfl
theorem zmt7_60 : Cond.lays "PretendDeskModel" "PretendDeskModel" "askIs" "I" ∈ zTb := zTb_in (zT7 (List.mem_of_getElem? (i := 60) (by decide +kernel))) rfl
theorem zmt7_62 : Cond.lays "PretendDeskModel" "PretendDeskModel" "isElsewhere" "Z" ∈ zTb := zTb_in (zT7 (List.mem_of_getElem? (i := 62) (by decide +kernel))) rfl
theorem zmt7_64 : Cond.laysFinal "PretendDeskModel" "PretendDeskModel" "caseLook" "[I" ∈ zTb := zTb_in (zT7 (List.mem_of_getElem? (i := 64) (by decide +kernel))) rfl
theorem zmt7_66 : Cond.laysFinal "PretendDeskModel" "PretendDeskModel" "caseAsk" "[I" ∈ zTb := zTb_in (zT7 (List.mem_of_getElem? (i := 66) (by decide +kernel))) rfl
theorem zmt7_68 : Cond.laysFinal "PretendDeskModel" "PretendDeskModel" "caseAge" "[I" ∈ zTb := zTb_in (zT7 (List.mem_of_getElem? (i := 68) (by decide +kernel))) rfl
theorem zmt7_70 : Cond.laysFinal "PretendDeskModel" "PretendDeskModel" "told" "[I" ∈ zTb := zTb_in (zT7 (List.mem_of_getElem? (i := 70) (by decide +kernel))) rfl
theorem zmt7_72 : Cond.laysFinal "PretendDeskModel" "PretendDeskModel" "fitted" "[I" ∈ zTb := zTb_in (zT7 (List.mem_of_getElem? (i := 72) (by decide +kernel))) rfl
theorem zmt7_74 : Cond.lays "PretendDeskModel" "PretendDeskModel" "waits" "I" ∈ zTb := zTb_in (zT7 (List.mem_of_getElem? (i := 74) (by decide +kernel))) rfl
theorem zmt7_76 : Cond.lays "PretendDeskModel" "PretendDeskModel" "priceNow" "I" ∈ zTb := zTb_in (zT7 (List.mem_of_getElem? (i := 76) (by decide +kernel))) rfl
theorem zmt7_78 : Cond.lays "PretendDeskModel" "PretendDeskModel" "lines" "I" ∈ zTb := zTb_in (zT7 (List.mem_of_getElem? (i := 78) (by decide +kernel))) rfl
theorem zmt7_80 : Cond.laysFinal "PretendDeskModel" "PretendDeskModel" "line" "[I" ∈ zTb := zTb_in (zT7 (List.mem_of_getElem? (i := 80) (by decide +kernel))) rfl
theorem zmt7_82 : Cond.laysFinal "PretendDeskModel" "PretendDeskModel" "register" "[I" ∈ zTb := zTb_in (zT7 (List.mem_of_getElem? (i := 82) (by decide +kernel))) rfl
theorem zmt7_84 : Cond.laysFinal "PretendDeskModel" "PretendDeskModel" "traces" "[I" ∈ zTb := zTb_in (zT7 (List.mem_of_getElem? (i := 84) (by decide +kernel))) rfl
theorem zmt7_86 : Cond.laysFinal "PretendDeskModel" "PretendDeskModel" "come" "[I" ∈ zTb := zTb_in (zT7 (List.mem_of_getElem? (i := 86) (by decide +kernel))) rfl
theorem zmt7_88 : Cond.lays "PretendDeskModel" "PretendDeskModel" "relays" "I" ∈ zTb := zTb_in (zT7 (List.mem_of_getElem? (i := 88) (by decide +kernel))) rfl
theorem zmt7_90 : Cond.lays "PretendDeskModel" "PretendDeskModel" "meant" "I" ∈ zTb := zTb_in (zT7 (List.mem_of_getElem? (i := 90) (by decide +kernel))) rfl
theorem zmt7_105 : Cond.methodLink "PretendDeskModel" 179 (⟨"PretendDeskModel", "begins", "()V"⟩ : MethodName) ∈ zTb := zTb_in (zT7 (List.mem_of_getElem? (i := 105) (by decide +kernel))) rfl
theorem zmt7_107 : Cond.instanceMethod (⟨"PretendDeskModel", "begins", "()V"⟩ : MethodName) ∈ zTb := zTb_in (zT7 (List.mem_of_getElem? (i := 107) (by decide +kernel))) rfl
theorem zmt7_108 : Cond.code (⟨"PretendDeskModel", "begins", "()V"⟩ : MethodName) prog_14_method_23_code 1 none ∈ zTb := zTb_in (zT7 (List.mem_of_getElem? (i := 108) (by decide +kernel))) rfl
theorem zmt7_109 : Cond.methodLink "PretendDeskModel" 182 (⟨"PretendDeskModel", "isHouse", "(I)Z"⟩ : MethodName) ∈ zTb := zTb_in (zT7 (List.mem_of_getElem? (i := 109) (by decide +kernel))) rfl
theorem zmt7_111 : Cond.instanceMethod (⟨"PretendDeskModel", "isHouse", "(I)Z"⟩ : MethodName) ∈ zTb := zTb_in (zT7 (List.mem_of_getElem? (i := 111) (by decide +kernel))) rfl
theorem zmt7_112 : Cond.code (⟨"PretendDeskModel", "isHouse", "(I)Z"⟩ : MethodName) prog_14_method_4_code 2 (some (.boolean)) ∈ zTb := zTb_in (zT7 (List.mem_of_getElem? (i := 112) (by decide +kernel))) rfl
theorem zmt7_113 : Cond.methodLink "PretendDeskModel" 89 (⟨"PretendDeskModel", "isIn", "(III)Z"⟩ : MethodName) ∈ zTb := zTb_in (zT7 (List.mem_of_getElem? (i := 113) (by decide +kernel))) rfl
theorem zmt7_114 : Cond.static (⟨"PretendDeskModel", "isIn", "(III)Z"⟩ : MethodName) ∈ zTb := zTb_in (zT7 (List.mem_of_getElem? (i := 114) (by decide +kernel))) rfl
theorem zmt7_115 : Cond.code (⟨"PretendDeskModel", "isIn", "(III)Z"⟩ : MethodName) prog_14_method_2_code 3 (some (.boolean)) ∈ zTb := zTb_in (zT7 (List.mem_of_getElem? (i := 115) (by decide +kernel))) rfl
theorem zmt7_116 : Cond.methodLink "PretendDeskModel" 97 (⟨"PretendDeskModel", "houseAt", "(I)I"⟩ : MethodName) ∈ zTb := zTb_in (zT7 (List.mem_of_getElem? (i := 116) (by decide +kernel))) rfl
theorem zmt7_117 : Cond.static (⟨"PretendDeskModel", "houseAt", "(I)I"⟩ : MethodName) ∈ zTb := zTb_in (zT7 (List.mem_of_getElem? (i := 117) (by decide +kernel))) rfl
theorem zmt7_118 : Cond.code (⟨"PretendDeskModel", "houseAt", "(I)I"⟩ : MethodName) prog_14_method_7_code 1 (some (.int)) ∈ zTb := zTb_in (zT7 (List.mem_of_getElem? (i := 118) (by decide +kernel))) rfl
theorem zmt7_119 : Cond.methodLink "PretendDeskModel" 185 (⟨"PretendDeskModel", "reads", "()Z"⟩ : MethodName) ∈ zTb := zTb_in (zT7 (List.mem_of_getElem? (i := 119) (by decide +kernel))) rfl
theorem zmt7_121 : Cond.instanceMethod (⟨"PretendDeskModel", "reads", "()Z"⟩ : MethodName) ∈ zTb := zTb_in (zT7 (List.mem_of_getElem? (i := 121) (by decide +kernel))) rfl
theorem zmt7_122 : Cond.code (⟨"PretendDeskModel", "reads", "()Z"⟩ : MethodName) prog_14_method_28_code 1 (some (.boolean)) ∈ zTb := zTb_in (zT7 (List.mem_of_getElem? (i := 122) (by decide +kernel))) rfl
theorem zmt7_123 : Cond.methodLink "PretendDeskModel" 164 (⟨"PretendDeskModel", "advance", "()V"⟩ : MethodName) ∈ zTb := zTb_in (zT7 (List.mem_of_getElem? (i := 123) (by decide +kernel))) rfl
theorem zmt7_125 : Cond.instanceMethod (⟨"PretendDeskModel", "advance", "()V"⟩ : MethodName) ∈ zTb := zTb_in (zT7 (List.mem_of_getElem? (i := 125) (by decide +kernel))) rfl
theorem zmt7_126 : Cond.code (⟨"PretendDeskModel", "advance", "()V"⟩ : MethodName) prog_14_method_20_code 3 none ∈ zTb := zTb_in (zT7 (List.mem_of_getElem? (i := 126) (by decide +kernel))) rfl
theorem zmt7_127 : Cond.methodLink "PretendDeskModel" 119 (⟨"PretendDeskModel", "byteAt", "(I)I"⟩ : MethodName) ∈ zTb := zTb_in (zT7 (List.mem_of_getElem? (i := 127) (by decide +kernel))) rfl
theorem zmt7_129 : Cond.instanceMethod (⟨"PretendDeskModel", "byteAt", "(I)I"⟩ : MethodName) ∈ zTb := zTb_in (zT7 (List.mem_of_getElem? (i := 129) (by decide +kernel))) rfl
theorem zmt7_130 : Cond.code (⟨"PretendDeskModel", "byteAt", "(I)I"⟩ : MethodName) prog_14_method_13_code 2 (some (.int)) ∈ zTb := zTb_in (zT7 (List.mem_of_getElem? (i := 130) (by decide +kernel))) rfl
theorem zmt7_131 : Cond.methodLink "PretendDeskModel" 128 (⟨"PretendDeskModel", "isLetter", "(I)Z"⟩ : MethodName) ∈ zTb := zTb_in (zT7 (List.mem_of_getElem? (i := 131) (by decide +kernel))) rfl
theorem zmt7_132 : Cond.static (⟨"PretendDeskModel", "isLetter", "(I)Z"⟩ : MethodName) ∈ zTb := zTb_in (zT7 (List.mem_of_getElem? (i := 132) (by decide +kernel))) rfl
theorem zmt7_133 : Cond.code (⟨"PretendDeskModel", "isLetter", "(I)Z"⟩ : MethodName) prog_14_method_14_code 1 (some (.boolean)) ∈ zTb := zTb_in (zT7 (List.mem_of_getElem? (i := 133) (by decide +kernel))) rfl
theorem zmt7_134 : Cond.methodLink "PretendDeskModel" 132 (⟨"PretendDeskModel", "wordOf", "(I)I"⟩ : MethodName) ∈ zTb := zTb_in (zT7 (List.mem_of_getElem? (i := 134) (by decide +kernel))) rfl
theorem zmt7_135 : Cond.static (⟨"PretendDeskModel", "wordOf", "(I)I"⟩ : MethodName) ∈ zTb := zTb_in (zT7 (List.mem_of_getElem? (i := 135) (by decide +kernel))) rfl
theorem zmt7_136 : Cond.code (⟨"PretendDeskModel", "wordOf", "(I)I"⟩ : MethodName) prog_14_method_19_code 1 (some (.int)) ∈ zTb := zTb_in (zT7 (List.mem_of_getElem? (i := 136) (by decide +kernel))) rfl
theorem zmt7_137 : Cond.methodLink "PretendDeskModel" 104 (⟨"PretendDeskModel", "three", "(III)I"⟩ : MethodName) ∈ zTb := zTb_in (zT7 (List.mem_of_getElem? (i := 137) (by decide +kernel))) rfl
theorem zmt7_138 : Cond.static (⟨"PretendDeskModel", "three", "(III)I"⟩ : MethodName) ∈ zTb := zTb_in (zT7 (List.mem_of_getElem? (i := 138) (by decide +kernel))) rfl
theorem zmt7_139 : Cond.code (⟨"PretendDeskModel", "three", "(III)I"⟩ : MethodName) prog_14_method_17_code 3 (some (.int)) ∈ zTb := zTb_in (zT7 (List.mem_of_getElem? (i := 139) (by decide +kernel))) rfl
theorem zmt7_140 : Cond.methodLink "PretendDeskModel" 108 (⟨"PretendDeskModel", "four", "(IIII)I"⟩ : MethodName) ∈ zTb := zTb_in (zT7 (List.mem_of_getElem? (i := 140) (by decide +kernel))) rfl
theorem zmt7_141 : Cond.static (⟨"PretendDeskModel", "four", "(IIII)I"⟩ : MethodName) ∈ zTb := zTb_in (zT7 (List.mem_of_getElem? (i := 141) (by decide +kernel))) rfl
theorem zmt7_142 : Cond.code (⟨"PretendDeskModel", "four", "(IIII)I"⟩ : MethodName) prog_14_method_18_code 4 (some (.int)) ∈ zTb := zTb_in (zT7 (List.mem_of_getElem? (i := 142) (by decide +kernel))) rfl
theorem zmt7_143 : Cond.methodLink "PretendDeskModel" 112 (⟨"PretendDeskModel", "two", "(II)I"⟩ : MethodName) ∈ zTb := zTb_in (zT7 (List.mem_of_getElem? (i := 143) (by decide +kernel))) rfl
theorem zmt7_144 : Cond.static (⟨"PretendDeskModel", "two", "(II)I"⟩ : MethodName) ∈ zTb := zTb_in (zT7 (List.mem_of_getElem? (i := 144) (by decide +kernel))) rfl
theorem zmt7_145 : Cond.code (⟨"PretendDeskModel", "two", "(II)I"⟩ : MethodName) prog_14_method_16_code 2 (some (.int)) ∈ zTb := zTb_in (zT7 (List.mem_of_getElem? (i := 145) (by decide +kernel))) rfl
theorem zmt7_146 : Cond.methodLink "PretendDeskModel" 138 (⟨"PretendDeskModel", "isDigit", "(I)Z"⟩ : MethodName) ∈ zTb := zTb_in (zT7 (List.mem_of_getElem? (i := 146) (by decide +kernel))) rfl
theorem zmt7_147 : Cond.static (⟨"PretendDeskModel", "isDigit", "(I)Z"⟩ : MethodName) ∈ zTb := zTb_in (zT7 (List.mem_of_getElem? (i := 147) (by decide +kernel))) rfl
theorem zmt7_148 : Cond.code (⟨"PretendDeskModel", "isDigit", "(I)Z"⟩ : MethodName) prog_14_method_15_code 1 (some (.boolean)) ∈ zTb := zTb_in (zT7 (List.mem_of_getElem? (i := 148) (by decide +kernel))) rfl
theorem zmt7_149 : Cond.methodLink "PretendDeskModel" 176 (⟨"PretendDeskModel", "aBox", "()V"⟩ : MethodName) ∈ zTb := zTb_in (zT7 (List.mem_of_getElem? (i := 149) (by decide +kernel))) rfl
theorem zmt7_151 : Cond.instanceMethod (⟨"PretendDeskModel", "aBox", "()V"⟩ : MethodName) ∈ zTb := zTb_in (zT7 (List.mem_of_getElem? (i := 151) (by decide +kernel))) rfl
theorem zmt7_152 : Cond.code (⟨"PretendDeskModel", "aBox", "()V"⟩ : MethodName) prog_14_method_27_code 3 none ∈ zTb := zTb_in (zT7 (List.mem_of_getElem? (i := 152) (by decide +kernel))) rfl
theorem zmt7_153 : Cond.methodLink "PretendDeskModel" 157 (⟨"PretendDeskModel", "ends", "()V"⟩ : MethodName) ∈ zTb := zTb_in (zT7 (List.mem_of_getElem? (i := 153) (by decide +kernel))) rfl
theorem zmt7_155 : Cond.instanceMethod (⟨"PretendDeskModel", "ends", "()V"⟩ : MethodName) ∈ zTb := zTb_in (zT7 (List.mem_of_getElem? (i := 155) (by decide +kernel))) rfl
theorem zmt7_156 : Cond.code (⟨"PretendDeskModel", "ends", "()V"⟩ : MethodName) prog_14_method_21_code 1 none ∈ zTb := zTb_in (zT7 (List.mem_of_getElem? (i := 156) (by decide +kernel))) rfl
theorem zmt7_157 : Cond.methodLink "PretendDeskModel" 160 (⟨"PretendDeskModel", "also", "(II)V"⟩ : MethodName) ∈ zTb := zTb_in (zT7 (List.mem_of_getElem? (i := 157) (by decide +kernel))) rfl
theorem zmt7_159 : Cond.instanceMethod (⟨"PretendDeskModel", "also", "(II)V"⟩ : MethodName) ∈ zTb := zTb_in (zT7 (List.mem_of_getElem? (i := 159) (by decide +kernel))) rfl
theorem zmt7_160 : Cond.code (⟨"PretendDeskModel", "also", "(II)V"⟩ : MethodName) prog_14_method_22_code 3 none ∈ zTb := zTb_in (zT7 (List.mem_of_getElem? (i := 160) (by decide +kernel))) rfl
theorem zmt7_161 : Cond.methodLink "PretendDeskModel" 167 (⟨"PretendDeskModel", "numbered", "(I)I"⟩ : MethodName) ∈ zTb := zTb_in (zT7 (List.mem_of_getElem? (i := 161) (by decide +kernel))) rfl
theorem zmt7_163 : Cond.instanceMethod (⟨"PretendDeskModel", "numbered", "(I)I"⟩ : MethodName) ∈ zTb := zTb_in (zT7 (List.mem_of_getElem? (i := 163) (by decide +kernel))) rfl
theorem zmt7_164 : Cond.code (⟨"PretendDeskModel", "numbered", "(I)I"⟩ : MethodName) prog_14_method_24_code 3 (some (.int)) ∈ zTb := zTb_in (zT7 (List.mem_of_getElem? (i := 164) (by decide +kernel))) rfl
theorem zmt7_165 : Cond.methodLink "PretendDeskModel" 170 (⟨"PretendDeskModel", "isWord", "(I)Z"⟩ : MethodName) ∈ zTb := zTb_in (zT7 (List.mem_of_getElem? (i := 165) (by decide +kernel))) rfl
theorem zmt7_167 : Cond.instanceMethod (⟨"PretendDeskModel", "isWord", "(I)Z"⟩ : MethodName) ∈ zTb := zTb_in (zT7 (List.mem_of_getElem? (i := 167) (by decide +kernel))) rfl
theorem zmt7_168 : Cond.code (⟨"PretendDeskModel", "isWord", "(I)Z"⟩ : MethodName) prog_14_method_25_code 2 (some (.boolean)) ∈ zTb := zTb_in (zT7 (List.mem_of_getElem? (i := 168) (by decide +kernel))) rfl
theorem zmt7_169 : Cond.methodLink "PretendDeskModel" 173 (⟨"PretendDeskModel", "isSign", "(I)Z"⟩ : MethodName) ∈ zTb := zTb_in (zT7 (List.mem_of_getElem? (i := 169) (by decide +kernel))) rfl
theorem zmt7_171 : Cond.instanceMethod (⟨"PretendDeskModel", "isSign", "(I)Z"⟩ : MethodName) ∈ zTb := zTb_in (zT7 (List.mem_of_getElem? (i := 171) (by decide +kernel))) rfl
theorem zmt7_172 : Cond.code (⟨"PretendDeskModel", "isSign", "(I)Z"⟩ : MethodName) prog_14_method_26_code 2 (some (.boolean)) ∈ zTb := zTb_in (zT7 (List.mem_of_getElem? (i := 172) (by decide +kernel))) rfl
theorem zmt7_173 : Cond.methodLink "PretendDeskModel" 189 (⟨"PretendDeskModel", "ownTree", "(II)I"⟩ : MethodName) ∈ zTb := zTb_in (zT7 (List.mem_of_getElem? (i := 173) (by decide +kernel))) rfl
theorem zmt7_174 : Cond.static (⟨"PretendDeskModel", "ownTree", "(II)I"⟩ : MethodName) ∈ zTb := zTb_in (zT7 (List.mem_of_getElem? (i := 174) (by decide +kernel))) rfl
theorem zmt7_175 : Cond.code (⟨"PretendDeskModel", "ownTree", "(II)I"⟩ : MethodName) prog_14_method_10_code 2 (some (.int)) ∈ zTb := zTb_in (zT7 (List.mem_of_getElem? (i := 175) (by decide +kernel))) rfl
theorem zmt7_176 : Cond.methodLink "PretendDeskModel" 192 (⟨"PretendDeskModel", "keeps", "(I)V"⟩ : MethodName) ∈ zTb := zTb_in (zT7 (List.mem_of_getElem? (i := 176) (by decide +kernel))) rfl
theorem zmt7_178 : Cond.instanceMethod (⟨"PretendDeskModel", "keeps", "(I)V"⟩ : MethodName) ∈ zTb := zTb_in (zT7 (List.mem_of_getElem? (i := 178) (by decide +kernel))) rfl
theorem zmt7_179 : Cond.code (⟨"PretendDeskModel", "keeps", "(I)V"⟩ : MethodName) prog_14_method_29_code 3 none ∈ zTb := zTb_in (zT7 (List.mem_of_getElem? (i := 179) (by decide +kernel))) rfl
theorem zmt7_184 : Cond.methodLink "PretendDeskModel" 93 (⟨"PretendDeskModel", "pageAt", "(I)I"⟩ : MethodName) ∈ zTb := zTb_in (zT7 (List.mem_of_getElem? (i := 184) (by decide +kernel))) rfl
theorem zmt7_185 : Cond.static (⟨"PretendDeskModel", "pageAt", "(I)I"⟩ : MethodName) ∈ zTb := zTb_in (zT7 (List.mem_of_getElem? (i := 185) (by decide +kernel))) rfl
theorem zmt7_186 : Cond.code (⟨"PretendDeskModel", "pageAt", "(I)I"⟩ : MethodName) prog_14_method_8_code 1 (some (.int)) ∈ zTb := zTb_in (zT7 (List.mem_of_getElem? (i := 186) (by decide +kernel))) rfl
theorem zmt7_191 : Cond.methodLink "PretendDeskModel" 199 (⟨"PretendDeskModel", "named", "(I)Z"⟩ : MethodName) ∈ zTb := zTb_in (zT7 (List.mem_of_getElem? (i := 191) (by decide +kernel))) rfl
theorem zmt7_193 : Cond.instanceMethod (⟨"PretendDeskModel", "named", "(I)Z"⟩ : MethodName) ∈ zTb := zTb_in (zT7 (List.mem_of_getElem? (i := 193) (by decide +kernel))) rfl
theorem zmt7_194 : Cond.code (⟨"PretendDeskModel", "named", "(I)Z"⟩ : MethodName) prog_14_method_33_code 4 (some (.boolean)) ∈ zTb := zTb_in (zT7 (List.mem_of_getElem? (i := 194) (by decide +kernel))) rfl
theorem zmt7_195 : Cond.methodLink "PretendDeskModel" 196 (⟨"PretendDeskModel", "signOf", "(I)I"⟩ : MethodName) ∈ zTb := zTb_in (zT7 (List.mem_of_getElem? (i := 195) (by decide +kernel))) rfl
theorem zmt7_196 : Cond.static (⟨"PretendDeskModel", "signOf", "(I)I"⟩ : MethodName) ∈ zTb := zTb_in (zT7 (List.mem_of_getElem? (i := 196) (by decide +kernel))) rfl
theorem zmt7_197 : Cond.code (⟨"PretendDeskModel", "signOf", "(I)I"⟩ : MethodName) prog_14_method_32_code 1 (some (.int)) ∈ zTb := zTb_in (zT7 (List.mem_of_getElem? (i := 197) (by decide +kernel))) rfl
theorem zmt7_202 : Cond.methodLink "PretendDeskModel" 202 (⟨"PretendDeskModel", "isPage", "(I)Z"⟩ : MethodName) ∈ zTb := zTb_in (zT7 (List.mem_of_getElem? (i := 202) (by decide +kernel))) rfl
theorem zmt7_204 : Cond.instanceMethod (⟨"PretendDeskModel", "isPage", "(I)Z"⟩ : MethodName) ∈ zTb := zTb_in (zT7 (List.mem_of_getElem? (i := 204) (by decide +kernel))) rfl
theorem zmt7_205 : Cond.code (⟨"PretendDeskModel", "isPage", "(I)Z"⟩ : MethodName) prog_14_method_5_code 2 (some (.boolean)) ∈ zTb := zTb_in (zT7 (List.mem_of_getElem? (i := 205) (by decide +kernel))) rfl
theorem zmt7_218 : Cond.methodLink "PretendDeskModel" 211 (⟨"PretendDeskModel", "spells", "(II)I"⟩ : MethodName) ∈ zTb := zTb_in (zT7 (List.mem_of_getElem? (i := 218) (by decide +kernel))) rfl
theorem zmt7_220 : Cond.instanceMethod (⟨"PretendDeskModel", "spells", "(II)I"⟩ : MethodName) ∈ zTb := zTb_in (zT7 (List.mem_of_getElem? (i := 220) (by decide +kernel))) rfl
theorem zmt7_221 : Cond.code (⟨"PretendDeskModel", "spells", "(II)I"⟩ : MethodName) prog_14_method_40_code 6 (some (.int)) ∈ zTb := zTb_in (zT7 (List.mem_of_getElem? (i := 221) (by decide +kernel))) rfl
theorem zmt7_222 : Cond.methodLink "PretendDeskModel" 205 (⟨"PretendDeskModel", "lesser", "(II)I"⟩ : MethodName) ∈ zTb := zTb_in (zT7 (List.mem_of_getElem? (i := 222) (by decide +kernel))) rfl
theorem zmt7_223 : Cond.static (⟨"PretendDeskModel", "lesser", "(II)I"⟩ : MethodName) ∈ zTb := zTb_in (zT7 (List.mem_of_getElem? (i := 223) (by decide +kernel))) rfl
theorem zmt7_224 : Cond.code (⟨"PretendDeskModel", "lesser", "(II)I"⟩ : MethodName) prog_14_method_39_code 2 (some (.int)) ∈ zTb := zTb_in (zT7 (List.mem_of_getElem? (i := 224) (by decide +kernel))) rfl
theorem zmt7_225 : Cond.methodLink "PretendDeskModel" 208 (⟨"PretendDeskModel", "priceOf", "(II)I"⟩ : MethodName) ∈ zTb := zTb_in (zT7 (List.mem_of_getElem? (i := 225) (by decide +kernel))) rfl
theorem zmt7_227 : Cond.instanceMethod (⟨"PretendDeskModel", "priceOf", "(II)I"⟩ : MethodName) ∈ zTb := zTb_in (zT7 (List.mem_of_getElem? (i := 227) (by decide +kernel))) rfl
theorem zmt7_228 : Cond.code (⟨"PretendDeskModel", "priceOf", "(II)I"⟩ : MethodName) prog_14_method_38_code 4 (some (.int)) ∈ zTb := zTb_in (zT7 (List.mem_of_getElem? (i := 228) (by decide +kernel))) rfl
theorem zmt7_233 : Cond.constant "PretendDeskModel" 214 (1048575 : Int32) ∈ zTb := zTb_in (zT7 (List.mem_of_getElem? (i := 233) (by decide +kernel))) rfl
theorem zmt8_2 : Cond.methodLink "PretendDeskModel" 254 (⟨"PretendDeskModel", "isPerson", "(II)Z"⟩ : MethodName) ∈ zTb := zTb_in (zT8 (List.mem_of_getElem? (i := 2) (by decide +kernel))) rfl
theorem zmt8_3 : Cond.static (⟨"PretendDeskModel", "isPerson", "(II)Z"⟩ : MethodName) ∈ zTb := zTb_in (zT8 (List.mem_of_getElem? (i := 3) (by decide +kernel))) rfl
theorem zmt8_4 : Cond.code (⟨"PretendDeskModel", "isPerson", "(II)Z"⟩ : MethodName) prog_14_method_6_code 2 (some (.boolean)) ∈ zTb := zTb_in (zT8 (List.mem_of_getElem? (i := 4) (by decide +kernel))) rfl
theorem zmt8_5 : Cond.methodLink "PretendDeskModel" 257 (⟨"PretendDeskModel", "treeOf", "(I)I"⟩ : MethodName) ∈ zTb := zTb_in (zT8 (List.mem_of_getElem? (i := 5) (by decide +kernel))) rfl
theorem zmt8_6 : Cond.static (⟨"PretendDeskModel", "treeOf", "(I)I"⟩ : MethodName) ∈ zTb := zTb_in (zT8 (List.mem_of_getElem? (i := 6) (by decide +kernel))) rfl
theorem zmt8_7 : Cond.code (⟨"PretendDeskModel", "treeOf", "(I)I"⟩ : MethodName) prog_14_method_9_code 1 (some (.int)) ∈ zTb := zTb_in (zT8 (List.mem_of_getElem? (i := 7) (by decide +kernel))) rfl
theorem zmt8_8 : Cond.methodLink "PretendDeskModel" 243 (⟨"PretendDeskModel", "takes", "(I)V"⟩ : MethodName) ∈ zTb := zTb_in (zT8 (List.mem_of_getElem? (i := 8) (by decide +kernel))) rfl
theorem zmt8_10 : Cond.instanceMethod (⟨"PretendDeskModel", "takes", "(I)V"⟩ : MethodName) ∈ zTb := zTb_in (zT8 (List.mem_of_getElem? (i := 10) (by decide +kernel))) rfl
theorem zmt8_11 : Cond.code (⟨"PretendDeskModel", "takes", "(I)V"⟩ : MethodName) prog_14_method_46_code 3 none ∈ zTb := zTb_in (zT8 (List.mem_of_getElem? (i := 11) (by decide +kernel))) rfl
theorem zmt8_12 : Cond.methodLink "PretendDeskModel" 218 (⟨"PretendDeskModel", "boxOf", "(II)I"⟩ : MethodName) ∈ zTb := zTb_in (zT8 (List.mem_of_getElem? (i := 12) (by decide +kernel))) rfl
theorem zmt8_14 : Cond.instanceMethod (⟨"PretendDeskModel", "boxOf", "(II)I"⟩ : MethodName) ∈ zTb := zTb_in (zT8 (List.mem_of_getElem? (i := 14) (by decide +kernel))) rfl
theorem zmt8_15 : Cond.code (⟨"PretendDeskModel", "boxOf", "(II)I"⟩ : MethodName) prog_14_method_45_code 3 (some (.int)) ∈ zTb := zTb_in (zT8 (List.mem_of_getElem? (i := 15) (by decide +kernel))) rfl
theorem zmt8_16 : Cond.methodLink "PretendDeskModel" 246 (⟨"PretendDeskModel", "opens", "(III)V"⟩ : MethodName) ∈ zTb := zTb_in (zT8 (List.mem_of_getElem? (i := 16) (by decide +kernel))) rfl
theorem zmt8_18 : Cond.instanceMethod (⟨"PretendDeskModel", "opens", "(III)V"⟩ : MethodName) ∈ zTb := zTb_in (zT8 (List.mem_of_getElem? (i := 18) (by decide +kernel))) rfl
theorem zmt8_19 : Cond.code (⟨"PretendDeskModel", "opens", "(III)V"⟩ : MethodName) prog_14_method_48_code 8 none ∈ zTb := zTb_in (zT8 (List.mem_of_getElem? (i := 19) (by decide +kernel))) rfl
theorem zmt8_20 : Cond.methodLink "PretendDeskModel" 227 (⟨"PretendDeskModel", "closes", "(II)V"⟩ : MethodName) ∈ zTb := zTb_in (zT8 (List.mem_of_getElem? (i := 20) (by decide +kernel))) rfl
theorem zmt8_22 : Cond.instanceMethod (⟨"PretendDeskModel", "closes", "(II)V"⟩ : MethodName) ∈ zTb := zTb_in (zT8 (List.mem_of_getElem? (i := 22) (by decide +kernel))) rfl
theorem zmt8_23 : Cond.code (⟨"PretendDeskModel", "closes", "(II)V"⟩ : MethodName) prog_14_method_47_code 4 none ∈ zTb := zTb_in (zT8 (List.mem_of_getElem? (i := 23) (by decide +kernel))) rfl
theorem zmt8_32 : Cond.methodLink "PretendDeskModel" 260 (⟨"PretendDeskModel", "farOf", "(IIIIII)I"⟩ : MethodName) ∈ zTb := zTb_in (zT8 (List.mem_of_getElem? (i := 32) (by decide +kernel))) rfl
theorem zmt8_34 : Cond.instanceMethod (⟨"PretendDeskModel", "farOf", "(IIIIII)I"⟩ : MethodName) ∈ zTb := zTb_in (zT8 (List.mem_of_getElem? (i := 34) (by decide +kernel))) rfl
theorem zmt8_35 : Cond.code (⟨"PretendDeskModel", "farOf", "(IIIIII)I"⟩ : MethodName) prog_14_method_54_code 7 (some (.int)) ∈ zTb := zTb_in (zT8 (List.mem_of_getElem? (i := 35) (by decide +kernel))) rfl
theorem zmt8_36 : Cond.methodLink "PretendDeskModel" 250 (⟨"PretendDeskModel", "farNow", "()I"⟩ : MethodName) ∈ zTb := zTb_in (zT8 (List.mem_of_getElem? (i := 36) (by decide +kernel))) rfl
theorem zmt8_38 : Cond.instanceMethod (⟨"PretendDeskModel", "farNow", "()I"⟩ : MethodName) ∈ zTb := zTb_in (zT8 (List.mem_of_getElem? (i := 38) (by decide +kernel))) rfl
theorem zmt8_39 : Cond.code (⟨"PretendDeskModel", "farNow", "()I"⟩ : MethodName) prog_14_method_52_code 3 (some (.int)) ∈ zTb := zTb_in (zT8 (List.mem_of_getElem? (i := 39) (by decide +kernel))) rfl
theorem zmt8_40 : Cond.methodLink "PretendDeskModel" 236 (⟨"PretendDeskModel", "isLast", "(II)Z"⟩ : MethodName) ∈ zTb := zTb_in (zT8 (List.mem_of_getElem? (i := 40) (by decide +kernel))) rfl
theorem zmt8_42 : Cond.instanceMethod (⟨"PretendDeskModel", "isLast", "(II)Z"⟩ : MethodName) ∈ zTb := zTb_in (zT8 (List.mem_of_getElem? (i := 42) (by decide +kernel))) rfl
theorem zmt8_43 : Cond.code (⟨"PretendDeskModel", "isLast", "(II)Z"⟩ : MethodName) prog_14_method_53_code 5 (some (.boolean)) ∈ zTb := zTb_in (zT8 (List.mem_of_getElem? (i := 43) (by decide +kernel))) rfl
theorem zmt8_44 : Cond.methodLink "PretendDeskModel" 240 (⟨"PretendDeskModel", "lays", "(II)V"⟩ : MethodName) ∈ zTb := zTb_in (zT8 (List.mem_of_getElem? (i := 44) (by decide +kernel))) rfl
theorem zmt8_46 : Cond.instanceMethod (⟨"PretendDeskModel", "lays", "(II)V"⟩ : MethodName) ∈ zTb := zTb_in (zT8 (List.mem_of_getElem? (i := 46) (by decide +kernel))) rfl
theorem zmt8_47 : Cond.code (⟨"PretendDeskModel", "lays", "(II)V"⟩ : MethodName) prog_14_method_51_code 9 none ∈ zTb := zTb_in (zT8 (List.mem_of_getElem? (i := 47) (by decide +kernel))) rfl
theorem zmt8_48 : Cond.methodLink "PretendDeskModel" 230 (⟨"PretendDeskModel", "without", "(I)I"⟩ : MethodName) ∈ zTb := zTb_in (zT8 (List.mem_of_getElem? (i := 48) (by decide +kernel))) rfl
theorem zmt8_50 : Cond.instanceMethod (⟨"PretendDeskModel", "without", "(I)I"⟩ : MethodName) ∈ zTb := zTb_in (zT8 (List.mem_of_getElem? (i := 50) (by decide +kernel))) rfl
theorem zmt8_51 : Cond.code (⟨"PretendDeskModel", "without", "(I)I"⟩ : MethodName) prog_14_method_50_code 2 (some (.int)) ∈ zTb := zTb_in (zT8 (List.mem_of_getElem? (i := 51) (by decide +kernel))) rfl
theorem zmt8_52 : Cond.methodLink "PretendDeskModel" 233 (⟨"PretendDeskModel", "changed", "(II)I"⟩ : MethodName) ∈ zTb := zTb_in (zT8 (List.mem_of_getElem? (i := 52) (by decide +kernel))) rfl
theorem zmt8_54 : Cond.instanceMethod (⟨"PretendDeskModel", "changed", "(II)I"⟩ : MethodName) ∈ zTb := zTb_in (zT8 (List.mem_of_getElem? (i := 54) (by decide +kernel))) rfl
theorem zmt8_55 : Cond.code (⟨"PretendDeskModel", "changed", "(II)I"⟩ : MethodName) prog_14_method_49_code 3 (some (.int)) ∈ zTb := zTb_in (zT8 (List.mem_of_getElem? (i := 55) (by decide +kernel))) rfl
theorem zmt8_60 : Cond.methodLink "PretendDeskModel" 264 (⟨"PretendDeskModel", "shows", "(III)V"⟩ : MethodName) ∈ zTb := zTb_in (zT8 (List.mem_of_getElem? (i := 60) (by decide +kernel))) rfl
theorem zmt8_62 : Cond.instanceMethod (⟨"PretendDeskModel", "shows", "(III)V"⟩ : MethodName) ∈ zTb := zTb_in (zT8 (List.mem_of_getElem? (i := 62) (by decide +kernel))) rfl
theorem zmt8_63 : Cond.code (⟨"PretendDeskModel", "shows", "(III)V"⟩ : MethodName) prog_14_method_59_code 4 none ∈ zTb := zTb_in (zT8 (List.mem_of_getElem? (i := 63) (by decide +kernel))) rfl
theorem zmt8_64 : Cond.methodLink "PretendDeskModel" 267 (⟨"PretendDeskModel", "lookAt", "(III)I"⟩ : MethodName) ∈ zTb := zTb_in (zT8 (List.mem_of_getElem? (i := 64) (by decide +kernel))) rfl
theorem zmt8_66 : Cond.instanceMethod (⟨"PretendDeskModel", "lookAt", "(III)I"⟩ : MethodName) ∈ zTb := zTb_in (zT8 (List.mem_of_getElem? (i := 66) (by decide +kernel))) rfl
theorem zmt8_67 : Cond.code (⟨"PretendDeskModel", "lookAt", "(III)I"⟩ : MethodName) prog_14_method_58_code 6 (some (.int)) ∈ zTb := zTb_in (zT8 (List.mem_of_getElem? (i := 67) (by decide +kernel))) rfl
theorem zmt8_72 : Cond.methodLink "PretendDeskModel" 273 (⟨"PretendDeskModel", "likeNow", "(II)I"⟩ : MethodName) ∈ zTb := zTb_in (zT8 (List.mem_of_getElem? (i := 72) (by decide +kernel))) rfl
theorem zmt8_74 : Cond.instanceMethod (⟨"PretendDeskModel", "likeNow", "(II)I"⟩ : MethodName) ∈ zTb := zTb_in (zT8 (List.mem_of_getElem? (i := 74) (by decide +kernel))) rfl
theorem zmt8_75 : Cond.code (⟨"PretendDeskModel", "likeNow", "(II)I"⟩ : MethodName) prog_14_method_61_code 6 (some (.int)) ∈ zTb := zTb_in (zT8 (List.mem_of_getElem? (i := 75) (by decide +kernel))) rfl
theorem zmt8_92 : Cond.methodLink "PretendDeskModel" 303 (⟨"PretendDeskModel", "signsOf", "(III)I"⟩ : MethodName) ∈ zTb := zTb_in (zT8 (List.mem_of_getElem? (i := 92) (by decide +kernel))) rfl
theorem zmt8_94 : Cond.instanceMethod (⟨"PretendDeskModel", "signsOf", "(III)I"⟩ : MethodName) ∈ zTb := zTb_in (zT8 (List.mem_of_getElem? (i := 94) (by decide +kernel))) rfl
theorem zmt8_95 : Cond.code (⟨"PretendDeskModel", "signsOf", "(III)I"⟩ : MethodName) prog_14_method_70_code 4 (some (.int)) ∈ zTb := zTb_in (zT8 (List.mem_of_getElem? (i := 95) (by decide +kernel))) rfl
theorem zmt8_96 : Cond.methodLink "PretendDeskModel" 294 (⟨"PretendDeskModel", "judges", "(III)V"⟩ : MethodName) ∈ zTb := zTb_in (zT8 (List.mem_of_getElem? (i := 96) (by decide +kernel))) rfl
theorem zmt8_98 : Cond.instanceMethod (⟨"PretendDeskModel", "judges", "(III)V"⟩ : MethodName) ∈ zTb := zTb_in (zT8 (List.mem_of_getElem? (i := 98) (by decide +kernel))) rfl
theorem zmt8_99 : Cond.code (⟨"PretendDeskModel", "judges", "(III)V"⟩ : MethodName) prog_14_method_67_code 4 none ∈ zTb := zTb_in (zT8 (List.mem_of_getElem? (i := 99) (by decide +kernel))) rfl
theorem zmt8_100 : Cond.methodLink "PretendDeskModel" 285 (⟨"PretendDeskModel", "isNameOf", "(II)Z"⟩ : MethodName) ∈ zTb := zTb_in (zT8 (List.mem_of_getElem? (i := 100) (by decide +kernel))) rfl
theorem zmt8_102 : Cond.instanceMethod (⟨"PretendDeskModel", "isNameOf", "(II)Z"⟩ : MethodName) ∈ zTb := zTb_in (zT8 (List.mem_of_getElem? (i := 102) (by decide +kernel))) rfl
theorem zmt8_103 : Cond.code (⟨"PretendDeskModel", "isNameOf", "(II)Z"⟩ : MethodName) prog_14_method_42_code 5 (some (.boolean)) ∈ zTb := zTb_in (zT8 (List.mem_of_getElem? (i := 103) (by decide +kernel))) rfl
theorem zmt8_104 : Cond.methodLink "PretendDeskModel" 297 (⟨"PretendDeskModel", "ageOf", "(II)I"⟩ : MethodName) ∈ zTb := zTb_in (zT8 (List.mem_of_getElem? (i := 104) (by decide +kernel))) rfl
theorem zmt8_106 : Cond.instanceMethod (⟨"PretendDeskModel", "ageOf", "(II)I"⟩ : MethodName) ∈ zTb := zTb_in (zT8 (List.mem_of_getElem? (i := 106) (by decide +kernel))) rfl
theorem zmt8_107 : Cond.code (⟨"PretendDeskModel", "ageOf", "(II)I"⟩ : MethodName) prog_14_method_66_code 3 (some (.int)) ∈ zTb := zTb_in (zT8 (List.mem_of_getElem? (i := 107) (by decide +kernel))) rfl
theorem zmt8_108 : Cond.methodLink "PretendDeskModel" 300 (⟨"PretendDeskModel", "signsBy", "(I)I"⟩ : MethodName) ∈ zTb := zTb_in (zT8 (List.mem_of_getElem? (i := 108) (by decide +kernel))) rfl
theorem zmt8_110 : Cond.instanceMethod (⟨"PretendDeskModel", "signsBy", "(I)I"⟩ : MethodName) ∈ zTb := zTb_in (zT8 (List.mem_of_getElem? (i := 110) (by decide +kernel))) rfl
theorem zmt8_111 : Cond.code (⟨"PretendDeskModel", "signsBy", "(I)I"⟩ : MethodName) prog_14_method_68_code 3 (some (.int)) ∈ zTb := zTb_in (zT8 (List.mem_of_getElem? (i := 111) (by decide +kernel))) rfl
theorem zmt8_116 : Cond.methodLink "PretendDeskModel" 306 (⟨"PretendDeskModel", "sayOf", "(I)I"⟩ : MethodName) ∈ zTb := zTb_in (zT8 (List.mem_of_getElem? (i := 116) (by decide +kernel))) rfl
theorem zmt8_117 : Cond.static (⟨"PretendDeskModel", "sayOf", "(I)I"⟩ : MethodName) ∈ zTb := zTb_in (zT8 (List.mem_of_getElem? (i := 117) (by decide +kernel))) rfl
theorem zmt8_118 : Cond.code (⟨"PretendDeskModel", "sayOf", "(I)I"⟩ : MethodName) prog_14_method_69_code 1 (some (.int)) ∈ zTb := zTb_in (zT8 (List.mem_of_getElem? (i := 118) (by decide +kernel))) rfl
theorem zmt8_119 : Cond.methodLink "PretendDeskModel" 291 (⟨"PretendDeskModel", "ones", "(I)I"⟩ : MethodName) ∈ zTb := zTb_in (zT8 (List.mem_of_getElem? (i := 119) (by decide +kernel))) rfl
theorem zmt8_120 : Cond.static (⟨"PretendDeskModel", "ones", "(I)I"⟩ : MethodName) ∈ zTb := zTb_in (zT8 (List.mem_of_getElem? (i := 120) (by decide +kernel))) rfl
theorem zmt8_121 : Cond.code (⟨"PretendDeskModel", "ones", "(I)I"⟩ : MethodName) prog_14_method_3_code 3 (some (.int)) ∈ zTb := zTb_in (zT8 (List.mem_of_getElem? (i := 121) (by decide +kernel))) rfl
theorem zmt8_142 : Cond.methodLink "PretendDeskModel" 322 (⟨"PretendDeskModel", "fits", "(I)V"⟩ : MethodName) ∈ zTb := zTb_in (zT8 (List.mem_of_getElem? (i := 142) (by decide +kernel))) rfl
theorem zmt8_144 : Cond.instanceMethod (⟨"PretendDeskModel", "fits", "(I)V"⟩ : MethodName) ∈ zTb := zTb_in (zT8 (List.mem_of_getElem? (i := 144) (by decide +kernel))) rfl
theorem zmt8_145 : Cond.code (⟨"PretendDeskModel", "fits", "(I)V"⟩ : MethodName) prog_14_method_81_code 8 none ∈ zTb := zTb_in (zT8 (List.mem_of_getElem? (i := 145) (by decide +kernel))) rfl
theorem zmt8_146 : Cond.methodLink "PretendDeskModel" 309 (⟨"PretendDeskModel", "weighs", "()V"⟩ : MethodName) ∈ zTb := zTb_in (zT8 (List.mem_of_getElem? (i := 146) (by decide +kernel))) rfl
theorem zmt8_148 : Cond.instanceMethod (⟨"PretendDeskModel", "weighs", "()V"⟩ : MethodName) ∈ zTb := zTb_in (zT8 (List.mem_of_getElem? (i := 148) (by decide +kernel))) rfl
theorem zmt8_149 : Cond.code (⟨"PretendDeskModel", "weighs", "()V"⟩ : MethodName) prog_14_method_77_code 3 none ∈ zTb := zTb_in (zT8 (List.mem_of_getElem? (i := 149) (by decide +kernel))) rfl
theorem zmt8_150 : Cond.methodLink "PretendDeskModel" 312 (⟨"PretendDeskModel", "tells", "(II)Z"⟩ : MethodName) ∈ zTb := zTb_in (zT8 (List.mem_of_getElem? (i := 150) (by decide +kernel))) rfl
theorem zmt8_152 : Cond.instanceMethod (⟨"PretendDeskModel", "tells", "(II)Z"⟩ : MethodName) ∈ zTb := zTb_in (zT8 (List.mem_of_getElem? (i := 152) (by decide +kernel))) rfl
theorem zmt8_153 : Cond.code (⟨"PretendDeskModel", "tells", "(II)Z"⟩ : MethodName) prog_14_method_80_code 4 (some (.boolean)) ∈ zTb := zTb_in (zT8 (List.mem_of_getElem? (i := 153) (by decide +kernel))) rfl
theorem zmt8_154 : Cond.methodLink "PretendDeskModel" 315 (⟨"PretendDeskModel", "missed", "(Z)I"⟩ : MethodName) ∈ zTb := zTb_in (zT8 (List.mem_of_getElem? (i := 154) (by decide +kernel))) rfl
theorem zmt8_156 : Cond.instanceMethod (⟨"PretendDeskModel", "missed", "(Z)I"⟩ : MethodName) ∈ zTb := zTb_in (zT8 (List.mem_of_getElem? (i := 156) (by decide +kernel))) rfl
theorem zmt8_157 : Cond.code (⟨"PretendDeskModel", "missed", "(Z)I"⟩ : MethodName) prog_14_method_78_code 6 (some (.int)) ∈ zTb := zTb_in (zT8 (List.mem_of_getElem? (i := 157) (by decide +kernel))) rfl
theorem zmt8_158 : Cond.methodLink "PretendDeskModel" 319 (⟨"PretendDeskModel", "isAhead", "(II)Z"⟩ : MethodName) ∈ zTb := zTb_in (zT8 (List.mem_of_getElem? (i := 158) (by decide +kernel))) rfl
theorem zmt8_160 : Cond.instanceMethod (⟨"PretendDeskModel", "isAhead", "(II)Z"⟩ : MethodName) ∈ zTb := zTb_in (zT8 (List.mem_of_getElem? (i := 160) (by decide +kernel))) rfl
theorem zmt8_161 : Cond.code (⟨"PretendDeskModel", "isAhead", "(II)Z"⟩ : MethodName) prog_14_method_79_code 3 (some (.boolean)) ∈ zTb := zTb_in (zT8 (List.mem_of_getElem? (i := 161) (by decide +kernel))) rfl
theorem zmt8_170 : Cond.methodLink "PretendDeskModel" 331 (⟨"PretendDeskModel", "isForger", "(IIII)Z"⟩ : MethodName) ∈ zTb := zTb_in (zT8 (List.mem_of_getElem? (i := 170) (by decide +kernel))) rfl
theorem zmt8_172 : Cond.instanceMethod (⟨"PretendDeskModel", "isForger", "(IIII)Z"⟩ : MethodName) ∈ zTb := zTb_in (zT8 (List.mem_of_getElem? (i := 172) (by decide +kernel))) rfl
theorem zmt8_173 : Cond.code (⟨"PretendDeskModel", "isForger", "(IIII)Z"⟩ : MethodName) prog_14_method_86_code 5 (some (.boolean)) ∈ zTb := zTb_in (zT8 (List.mem_of_getElem? (i := 173) (by decide +kernel))) rfl
theorem zmt8_174 : Cond.methodLink "PretendDeskModel" 335 (⟨"PretendDeskModel", "forges", "(III)V"⟩ : MethodName) ∈ zTb := zTb_in (zT8 (List.mem_of_getElem? (i := 174) (by decide +kernel))) rfl
theorem zmt8_176 : Cond.instanceMethod (⟨"PretendDeskModel", "forges", "(III)V"⟩ : MethodName) ∈ zTb := zTb_in (zT8 (List.mem_of_getElem? (i := 176) (by decide +kernel))) rfl
theorem zmt8_177 : Cond.code (⟨"PretendDeskModel", "forges", "(III)V"⟩ : MethodName) prog_14_method_84_code 6 none ∈ zTb := zTb_in (zT8 (List.mem_of_getElem? (i := 177) (by decide +kernel))) rfl
theorem zmt8_178 : Cond.methodLink "PretendDeskModel" 338 (⟨"PretendDeskModel", "isForgery", "(II)Z"⟩ : MethodName) ∈ zTb := zTb_in (zT8 (List.mem_of_getElem? (i := 178) (by decide +kernel))) rfl
theorem zmt8_180 : Cond.instanceMethod (⟨"PretendDeskModel", "isForgery", "(II)Z"⟩ : MethodName) ∈ zTb := zTb_in (zT8 (List.mem_of_getElem? (i := 180) (by decide +kernel))) rfl
theorem zmt8_181 : Cond.code (⟨"PretendDeskModel", "isForgery", "(II)Z"⟩ : MethodName) prog_14_method_85_code 3 (some (.boolean)) ∈ zTb := zTb_in (zT8 (List.mem_of_getElem? (i := 181) (by decide +kernel))) rfl
theorem zmt8_190 : Cond.methodLink "PretendDeskModel" 347 (⟨"PretendDeskModel", "oddsOf", "(II)I"⟩ : MethodName) ∈ zTb := zTb_in (zT8 (List.mem_of_getElem? (i := 190) (by decide +kernel))) rfl
theorem zmt8_192 : Cond.instanceMethod (⟨"PretendDeskModel", "oddsOf", "(II)I"⟩ : MethodName) ∈ zTb := zTb_in (zT8 (List.mem_of_getElem? (i := 192) (by decide +kernel))) rfl
theorem zmt8_193 : Cond.code (⟨"PretendDeskModel", "oddsOf", "(II)I"⟩ : MethodName) prog_14_method_91_code 7 (some (.int)) ∈ zTb := zTb_in (zT8 (List.mem_of_getElem? (i := 193) (by decide +kernel))) rfl
theorem zmt8_194 : Cond.methodLink "PretendDeskModel" 341 (⟨"PretendDeskModel", "pieces", "(I)I"⟩ : MethodName) ∈ zTb := zTb_in (zT8 (List.mem_of_getElem? (i := 194) (by decide +kernel))) rfl
theorem zmt8_196 : Cond.instanceMethod (⟨"PretendDeskModel", "pieces", "(I)I"⟩ : MethodName) ∈ zTb := zTb_in (zT8 (List.mem_of_getElem? (i := 196) (by decide +kernel))) rfl
theorem zmt8_197 : Cond.code (⟨"PretendDeskModel", "pieces", "(I)I"⟩ : MethodName) prog_14_method_90_code 2 (some (.int)) ∈ zTb := zTb_in (zT8 (List.mem_of_getElem? (i := 197) (by decide +kernel))) rfl
theorem zmt8_198 : Cond.methodLink "PretendDeskModel" 344 (⟨"PretendDeskModel", "choose", "(II)I"⟩ : MethodName) ∈ zTb := zTb_in (zT8 (List.mem_of_getElem? (i := 198) (by decide +kernel))) rfl
theorem zmt8_199 : Cond.static (⟨"PretendDeskModel", "choose", "(II)I"⟩ : MethodName) ∈ zTb := zTb_in (zT8 (List.mem_of_getElem? (i := 199) (by decide +kernel))) rfl
theorem zmt8_200 : Cond.code (⟨"PretendDeskModel", "choose", "(II)I"⟩ : MethodName) prog_14_method_89_code 5 (some (.int)) ∈ zTb := zTb_in (zT8 (List.mem_of_getElem? (i := 200) (by decide +kernel))) rfl
theorem zmt8_205 : Cond.methodLink "PretendDeskModel" 350 (⟨"PretendDeskModel", "isOneHand", "(III)Z"⟩ : MethodName) ∈ zTb := zTb_in (zT8 (List.mem_of_getElem? (i := 205) (by decide +kernel))) rfl
theorem zmt8_207 : Cond.instanceMethod (⟨"PretendDeskModel", "isOneHand", "(III)Z"⟩ : MethodName) ∈ zTb := zTb_in (zT8 (List.mem_of_getElem? (i := 207) (by decide +kernel))) rfl
theorem zmt8_208 : Cond.code (⟨"PretendDeskModel", "isOneHand", "(III)Z"⟩ : MethodName) prog_14_method_93_code 5 (some (.boolean)) ∈ zTb := zTb_in (zT8 (List.mem_of_getElem? (i := 208) (by decide +kernel))) rfl
theorem zmt8_213 : Cond.methodLink "PretendDeskModel" 354 (⟨"PretendDeskModel", "sketchOf", "(II)I"⟩ : MethodName) ∈ zTb := zTb_in (zT8 (List.mem_of_getElem? (i := 213) (by decide +kernel))) rfl
theorem zmt8_215 : Cond.instanceMethod (⟨"PretendDeskModel", "sketchOf", "(II)I"⟩ : MethodName) ∈ zTb := zTb_in (zT8 (List.mem_of_getElem? (i := 215) (by decide +kernel))) rfl
theorem zmt8_216 : Cond.code (⟨"PretendDeskModel", "sketchOf", "(II)I"⟩ : MethodName) prog_14_method_95_code 6 (some (.int)) ∈ zTb := zTb_in (zT8 (List.mem_of_getElem? (i := 216) (by decide +kernel))) rfl
theorem zmt8_217 : Cond.constant "PretendDeskModel" 353 (65535 : Int32) ∈ zTb := zTb_in (zT8 (List.mem_of_getElem? (i := 217) (by decide +kernel))) rfl
theorem zmt8_230 : Cond.methodLink "PretendDeskModel" 369 (⟨"PretendDeskModel", "aLine", "()V"⟩ : MethodName) ∈ zTb := zTb_in (zT8 (List.mem_of_getElem? (i := 230) (by decide +kernel))) rfl
theorem zmt8_232 : Cond.instanceMethod (⟨"PretendDeskModel", "aLine", "()V"⟩ : MethodName) ∈ zTb := zTb_in (zT8 (List.mem_of_getElem? (i := 232) (by decide +kernel))) rfl
theorem zmt8_233 : Cond.code (⟨"PretendDeskModel", "aLine", "()V"⟩ : MethodName) prog_14_method_102_code 2 none ∈ zTb := zTb_in (zT8 (List.mem_of_getElem? (i := 233) (by decide +kernel))) rfl
theorem zmt8_234 : Cond.methodLink "PretendDeskModel" 360 (⟨"PretendDeskModel", "puts", "(II)V"⟩ : MethodName) ∈ zTb := zTb_in (zT8 (List.mem_of_getElem? (i := 234) (by decide +kernel))) rfl
theorem zmt8_236 : Cond.instanceMethod (⟨"PretendDeskModel", "puts", "(II)V"⟩ : MethodName) ∈ zTb := zTb_in (zT8 (List.mem_of_getElem? (i := 236) (by decide +kernel))) rfl
theorem zmt8_237 : Cond.code (⟨"PretendDeskModel", "puts", "(II)V"⟩ : MethodName) prog_14_method_100_code 3 none ∈ zTb := zTb_in (zT8 (List.mem_of_getElem? (i := 237) (by decide +kernel))) rfl
theorem zmt8_238 : Cond.methodLink "PretendDeskModel" 363 (⟨"PretendDeskModel", "must", "(I)V"⟩ : MethodName) ∈ zTb := zTb_in (zT8 (List.mem_of_getElem? (i := 238) (by decide +kernel))) rfl
theorem zmt9_0 : Cond.instanceMethod (⟨"PretendDeskModel", "must", "(I)V"⟩ : MethodName) ∈ zTb := zTb_in (zT9 (List.mem_of_getElem? (i := 0) (by decide +kernel))) rfl
theorem zmt9_1 : Cond.code (⟨"PretendDeskModel", "must", "(I)V"⟩ : MethodName) prog_14_method_99_code 2 none ∈ zTb := zTb_in (zT9 (List.mem_of_getElem? (i := 1) (by decide +kernel))) rfl
theorem zmt9_2 : Cond.methodLink "PretendDeskModel" 366 (⟨"PretendDeskModel", "oneTo", "(II)V"⟩ : MethodName) ∈ zTb := zTb_in (zT9 (List.mem_of_getElem? (i := 2) (by decide +kernel))) rfl
theorem zmt9_4 : Cond.instanceMethod (⟨"PretendDeskModel", "oneTo", "(II)V"⟩ : MethodName) ∈ zTb := zTb_in (zT9 (List.mem_of_getElem? (i := 4) (by decide +kernel))) rfl
theorem zmt9_5 : Cond.code (⟨"PretendDeskModel", "oneTo", "(II)V"⟩ : MethodName) prog_14_method_101_code 3 none ∈ zTb := zTb_in (zT9 (List.mem_of_getElem? (i := 5) (by decide +kernel))) rfl
theorem zmt9_10 : Cond.methodLink "PretendDeskModel" 372 (⟨"PretendDeskModel", "isAddress", "(I)Z"⟩ : MethodName) ∈ zTb := zTb_in (zT9 (List.mem_of_getElem? (i := 10) (by decide +kernel))) rfl
theorem zmt9_11 : Cond.static (⟨"PretendDeskModel", "isAddress", "(I)Z"⟩ : MethodName) ∈ zTb := zTb_in (zT9 (List.mem_of_getElem? (i := 11) (by decide +kernel))) rfl
theorem zmt9_12 : Cond.code (⟨"PretendDeskModel", "isAddress", "(I)Z"⟩ : MethodName) prog_14_method_105_code 1 (some (.boolean)) ∈ zTb := zTb_in (zT9 (List.mem_of_getElem? (i := 12) (by decide +kernel))) rfl
theorem zmt9_21 : Cond.methodLink "PretendDeskModel" 378 (⟨"PretendDeskModel", "endOf", "(I)I"⟩ : MethodName) ∈ zTb := zTb_in (zT9 (List.mem_of_getElem? (i := 21) (by decide +kernel))) rfl
theorem zmt9_23 : Cond.instanceMethod (⟨"PretendDeskModel", "endOf", "(I)I"⟩ : MethodName) ∈ zTb := zTb_in (zT9 (List.mem_of_getElem? (i := 23) (by decide +kernel))) rfl
theorem zmt9_24 : Cond.code (⟨"PretendDeskModel", "endOf", "(I)I"⟩ : MethodName) prog_14_method_108_code 3 (some (.int)) ∈ zTb := zTb_in (zT9 (List.mem_of_getElem? (i := 24) (by decide +kernel))) rfl
theorem zmt9_29 : Cond.methodLink "PretendDeskModel" 381 (⟨"PretendDeskModel", "isMade", "(I)Z"⟩ : MethodName) ∈ zTb := zTb_in (zT9 (List.mem_of_getElem? (i := 29) (by decide +kernel))) rfl
theorem zmt9_30 : Cond.static (⟨"PretendDeskModel", "isMade", "(I)Z"⟩ : MethodName) ∈ zTb := zTb_in (zT9 (List.mem_of_getElem? (i := 30) (by decide +kernel))) rfl
theorem zmt9_31 : Cond.code (⟨"PretendDeskModel", "isMade", "(I)Z"⟩ : MethodName) prog_14_method_110_code 1 (some (.boolean)) ∈ zTb := zTb_in (zT9 (List.mem_of_getElem? (i := 31) (by decide +kernel))) rfl
theorem zmt9_32 : Cond.methodLink "PretendDeskModel" 384 (⟨"PretendDeskModel", "does", "(II)I"⟩ : MethodName) ∈ zTb := zTb_in (zT9 (List.mem_of_getElem? (i := 32) (by decide +kernel))) rfl
theorem zmt9_34 : Cond.instanceMethod (⟨"PretendDeskModel", "does", "(II)I"⟩ : MethodName) ∈ zTb := zTb_in (zT9 (List.mem_of_getElem? (i := 34) (by decide +kernel))) rfl
theorem zmt9_35 : Cond.code (⟨"PretendDeskModel", "does", "(II)I"⟩ : MethodName) prog_14_method_104_code 8 (some (.int)) ∈ zTb := zTb_in (zT9 (List.mem_of_getElem? (i := 35) (by decide +kernel))) rfl
theorem zmt9_44 : Cond.methodLink "PretendDeskModel" 387 (⟨"PretendDeskModel", "takenWith", "(III)I"⟩ : MethodName) ∈ zTb := zTb_in (zT9 (List.mem_of_getElem? (i := 44) (by decide +kernel))) rfl
theorem zmt9_46 : Cond.instanceMethod (⟨"PretendDeskModel", "takenWith", "(III)I"⟩ : MethodName) ∈ zTb := zTb_in (zT9 (List.mem_of_getElem? (i := 46) (by decide +kernel))) rfl
theorem zmt9_47 : Cond.code (⟨"PretendDeskModel", "takenWith", "(III)I"⟩ : MethodName) prog_14_method_113_code 9 (some (.int)) ∈ zTb := zTb_in (zT9 (List.mem_of_getElem? (i := 47) (by decide +kernel))) rfl
theorem zmt9_52 : Cond.methodLink "PretendDeskModel" 393 (⟨"PretendDeskModel", "wordAt", "(II)I"⟩ : MethodName) ∈ zTb := zTb_in (zT9 (List.mem_of_getElem? (i := 52) (by decide +kernel))) rfl
theorem zmt9_54 : Cond.instanceMethod (⟨"PretendDeskModel", "wordAt", "(II)I"⟩ : MethodName) ∈ zTb := zTb_in (zT9 (List.mem_of_getElem? (i := 54) (by decide +kernel))) rfl
theorem zmt9_55 : Cond.code (⟨"PretendDeskModel", "wordAt", "(II)I"⟩ : MethodName) prog_14_method_116_code 4 (some (.int)) ∈ zTb := zTb_in (zT9 (List.mem_of_getElem? (i := 55) (by decide +kernel))) rfl
theorem zmt9_56 : Cond.methodLink "PretendDeskModel" 390 (⟨"PretendDeskModel", "isSaid", "(III)Z"⟩ : MethodName) ∈ zTb := zTb_in (zT9 (List.mem_of_getElem? (i := 56) (by decide +kernel))) rfl
theorem zmt9_58 : Cond.instanceMethod (⟨"PretendDeskModel", "isSaid", "(III)Z"⟩ : MethodName) ∈ zTb := zTb_in (zT9 (List.mem_of_getElem? (i := 58) (by decide +kernel))) rfl
theorem zmt9_59 : Cond.code (⟨"PretendDeskModel", "isSaid", "(III)Z"⟩ : MethodName) prog_14_method_115_code 6 (some (.boolean)) ∈ zTb := zTb_in (zT9 (List.mem_of_getElem? (i := 59) (by decide +kernel))) rfl
theorem zmt9_68 : Cond.methodLink "PretendDeskModel" 399 (⟨"PretendDeskModel", "sentences", "(I)I"⟩ : MethodName) ∈ zTb := zTb_in (zT9 (List.mem_of_getElem? (i := 68) (by decide +kernel))) rfl
theorem zmt9_70 : Cond.instanceMethod (⟨"PretendDeskModel", "sentences", "(I)I"⟩ : MethodName) ∈ zTb := zTb_in (zT9 (List.mem_of_getElem? (i := 70) (by decide +kernel))) rfl
theorem zmt9_71 : Cond.code (⟨"PretendDeskModel", "sentences", "(I)I"⟩ : MethodName) prog_14_method_119_code 10 (some (.int)) ∈ zTb := zTb_in (zT9 (List.mem_of_getElem? (i := 71) (by decide +kernel))) rfl
theorem zmt9_73 : Cond.instanceMethod (⟨"PretendDeskModel", "sentence", "(I)I"⟩ : MethodName) ∈ zTb := zTb_in (zT9 (List.mem_of_getElem? (i := 73) (by decide +kernel))) rfl
theorem zmt9_74 : Cond.selects "PretendDeskModel" (⟨"PretendDeskModel", "sentence", "(I)I"⟩ : MethodName) (⟨"PretendDeskModel", "sentence", "(I)I"⟩ : MethodName) ∈ zTb := zTb_in (zT9 (List.mem_of_getElem? (i := 74) (by decide +kernel))) rfl
theorem zmt9_75 : Cond.code (⟨"PretendDeskModel", "sentence", "(I)I"⟩ : MethodName) prog_14_method_121_code 3 (some (.int)) ∈ zTb := zTb_in (zT9 (List.mem_of_getElem? (i := 75) (by decide +kernel))) rfl
theorem zmt9_80 : Cond.methodLink "PretendDeskModel" 405 (⟨"PretendDeskModel", "firstOf", "(I)I"⟩ : MethodName) ∈ zTb := zTb_in (zT9 (List.mem_of_getElem? (i := 80) (by decide +kernel))) rfl
theorem zmt9_82 : Cond.instanceMethod (⟨"PretendDeskModel", "firstOf", "(I)I"⟩ : MethodName) ∈ zTb := zTb_in (zT9 (List.mem_of_getElem? (i := 82) (by decide +kernel))) rfl
theorem zmt9_83 : Cond.code (⟨"PretendDeskModel", "firstOf", "(I)I"⟩ : MethodName) prog_14_method_122_code 4 (some (.int)) ∈ zTb := zTb_in (zT9 (List.mem_of_getElem? (i := 83) (by decide +kernel))) rfl
theorem zmt9_84 : Cond.methodLink "PretendDeskModel" 402 (⟨"PretendDeskModel", "sentence", "(I)I"⟩ : MethodName) ∈ zTb := zTb_in (zT9 (List.mem_of_getElem? (i := 84) (by decide +kernel))) rfl
theorem zmt9_93 : Cond.constant "PretendDeskModel" 408 (33554431 : Int32) ∈ zTb := zTb_in (zT9 (List.mem_of_getElem? (i := 93) (by decide +kernel))) rfl
theorem zmt9_98 : Cond.methodLink "PretendDeskModel" 415 (⟨"PretendDeskModel", "unlikeOf", "(II)I"⟩ : MethodName) ∈ zTb := zTb_in (zT9 (List.mem_of_getElem? (i := 98) (by decide +kernel))) rfl
theorem zmt9_100 : Cond.instanceMethod (⟨"PretendDeskModel", "unlikeOf", "(II)I"⟩ : MethodName) ∈ zTb := zTb_in (zT9 (List.mem_of_getElem? (i := 100) (by decide +kernel))) rfl
theorem zmt9_101 : Cond.code (⟨"PretendDeskModel", "unlikeOf", "(II)I"⟩ : MethodName) prog_14_method_128_code 7 (some (.int)) ∈ zTb := zTb_in (zT9 (List.mem_of_getElem? (i := 101) (by decide +kernel))) rfl
theorem zmt9_102 : Cond.methodLink "PretendDeskModel" 409 (⟨"PretendDeskModel", "moved", "(III)I"⟩ : MethodName) ∈ zTb := zTb_in (zT9 (List.mem_of_getElem? (i := 102) (by decide +kernel))) rfl
theorem zmt9_103 : Cond.static (⟨"PretendDeskModel", "moved", "(III)I"⟩ : MethodName) ∈ zTb := zTb_in (zT9 (List.mem_of_getElem? (i := 103) (by decide +kernel))) rfl
theorem zmt9_104 : Cond.code (⟨"PretendDeskModel", "moved", "(III)I"⟩ : MethodName) prog_14_method_127_code 7 (some (.int)) ∈ zTb := zTb_in (zT9 (List.mem_of_getElem? (i := 104) (by decide +kernel))) rfl
theorem zmt9_105 : Cond.methodLink "PretendDeskModel" 412 (⟨"PretendDeskModel", "quarter", "(I)I"⟩ : MethodName) ∈ zTb := zTb_in (zT9 (List.mem_of_getElem? (i := 105) (by decide +kernel))) rfl
theorem zmt9_106 : Cond.static (⟨"PretendDeskModel", "quarter", "(I)I"⟩ : MethodName) ∈ zTb := zTb_in (zT9 (List.mem_of_getElem? (i := 106) (by decide +kernel))) rfl
theorem zmt9_107 : Cond.code (⟨"PretendDeskModel", "quarter", "(I)I"⟩ : MethodName) prog_14_method_126_code 3 (some (.int)) ∈ zTb := zTb_in (zT9 (List.mem_of_getElem? (i := 107) (by decide +kernel))) rfl
theorem zmt9_124 : Cond.sameMethod "java/lang/AbstractStringBuilder" "java/lang/AbstractStringBuilder" "setLength" "(I)V" ∈ zTb := zTb_in (zT9 (List.mem_of_getElem? (i := 124) (by decide +kernel))) rfl
theorem zmt9_125 : Cond.sameMethod "java/lang/AbstractStringBuilder" "java/lang/AbstractStringBuilder" "ensureCapacityInternal" "(I)V" ∈ zTb := zTb_in (zT9 (List.mem_of_getElem? (i := 125) (by decide +kernel))) rfl
theorem zmt9_127 : Cond.sameMethod "java/lang/AbstractStringBuilder" "java/lang/AbstractStringBuilder" "append" "(C)Ljava/lang/AbstractStringBuilder;" ∈ zTb := zTb_in (zT9 (List.mem_of_getElem? (i := 127) (by decide +kernel))) rfl
