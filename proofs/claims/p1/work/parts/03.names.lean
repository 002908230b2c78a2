theorem rt_g1 {w : Cond} (h : w ∈ tables_1_1) (hg : goodWord w = true) : w ∈ rt_tbl := List.mem_filter.mpr ⟨List.mem_append_right _ (show w ∈ tables_1 from List.mem_append_left _ h), hg⟩
theorem rt_g2 {w : Cond} (h : w ∈ tables_1_2) (hg : goodWord w = true) : w ∈ rt_tbl := List.mem_filter.mpr ⟨List.mem_append_right _ (show w ∈ tables_1 from List.mem_append_right _ (List.mem_append_left _ h)), hg⟩
theorem rt_g3 {w : Cond} (h : w ∈ tables_1_3) (hg : goodWord w = true) : w ∈ rt_tbl := List.mem_filter.mpr ⟨List.mem_append_right _ (show w ∈ tables_1 from List.mem_append_right _ (List.mem_append_right _ (List.mem_append_left _ h))), hg⟩
theorem rt_g4 {w : Cond} (h : w ∈ tables_1_4) (hg : goodWord w = true) : w ∈ rt_tbl := List.mem_filter.mpr ⟨List.mem_append_right _ (show w ∈ tables_1 from List.mem_append_right _ (List.mem_append_right _ (List.mem_append_right _ (List.mem_append_left _ h)))), hg⟩
theorem rt_g5 {w : Cond} (h : w ∈ tables_1_5) (hg : goodWord w = true) : w ∈ rt_tbl := List.mem_filter.mpr ⟨List.mem_append_right _ (show w ∈ tables_1 from List.mem_append_right _ (List.mem_append_right _ (List.mem_append_right _ (List.mem_append_right _ (h))))), hg⟩
theorem rt_w0 : Cond.selects "RangeTeller$Reader" ⟨"RangeTeller$Reader", "readNumber", "(II)I"⟩ ⟨"RangeTeller$Reader", "readNumber", "(II)I"⟩ ∈ rt_tbl := List.mem_filter.mpr ⟨List.mem_append_left _ (List.mem_of_getElem? (i := 0) (by decide +kernel)), rfl⟩
theorem rt_w1 : Cond.selects "RangeTeller$Reader" ⟨"RangeTeller$Reader", "readFunction", "()V"⟩ ⟨"RangeTeller$Reader", "readFunction", "()V"⟩ ∈ rt_tbl := List.mem_filter.mpr ⟨List.mem_append_left _ (List.mem_of_getElem? (i := 1) (by decide +kernel)), rfl⟩
theorem rt_w2 : Cond.selects "RangeTeller$Reader" ⟨"RangeTeller$Reader", "readInstruction", "()Z"⟩ ⟨"RangeTeller$Reader", "readInstruction", "()Z"⟩ ∈ rt_tbl := List.mem_filter.mpr ⟨List.mem_append_left _ (List.mem_of_getElem? (i := 2) (by decide +kernel)), rfl⟩
theorem rt_w3 : Cond.selects "RangeTeller$Reader" ⟨"RangeTeller$Reader", "elseFits", "()Z"⟩ ⟨"RangeTeller$Reader", "elseFits", "()Z"⟩ ∈ rt_tbl := List.mem_filter.mpr ⟨List.mem_append_left _ (List.mem_of_getElem? (i := 3) (by decide +kernel)), rfl⟩
theorem rt_w4 : Cond.selects "RangeTeller$Reader" ⟨"RangeTeller$Reader", "nest", "(II)Z"⟩ ⟨"RangeTeller$Reader", "nest", "(II)Z"⟩ ∈ rt_tbl := List.mem_filter.mpr ⟨List.mem_append_left _ (List.mem_of_getElem? (i := 4) (by decide +kernel)), rfl⟩
theorem rt_w5 : Cond.selects "RangeTeller$Checker" ⟨"RangeTeller$Checker", "open", "(I)V"⟩ ⟨"RangeTeller$Checker", "open", "(I)V"⟩ ∈ rt_tbl := List.mem_filter.mpr ⟨List.mem_append_left _ (List.mem_of_getElem? (i := 5) (by decide +kernel)), rfl⟩
theorem rt_w6 : Cond.selects "RangeTeller$Checker" ⟨"RangeTeller$Checker", "checkInstruction", "(I)V"⟩ ⟨"RangeTeller$Checker", "checkInstruction", "(I)V"⟩ ∈ rt_tbl := List.mem_filter.mpr ⟨List.mem_append_left _ (List.mem_of_getElem? (i := 6) (by decide +kernel)), rfl⟩
theorem rt_w7 : Cond.selects "RangeTeller$Checker" ⟨"RangeTeller$Checker", "deaden", "()V"⟩ ⟨"RangeTeller$Checker", "deaden", "()V"⟩ ∈ rt_tbl := List.mem_filter.mpr ⟨List.mem_append_left _ (List.mem_of_getElem? (i := 7) (by decide +kernel)), rfl⟩
theorem rt_w8 : Cond.selects "RangeTeller$Checker" ⟨"RangeTeller$Checker", "take", "(I)V"⟩ ⟨"RangeTeller$Checker", "take", "(I)V"⟩ ∈ rt_tbl := List.mem_filter.mpr ⟨List.mem_append_left _ (List.mem_of_getElem? (i := 8) (by decide +kernel)), rfl⟩
theorem rt_w9 : Cond.selects "RangeTeller$Checker" ⟨"RangeTeller$Checker", "checkElse", "(I)V"⟩ ⟨"RangeTeller$Checker", "checkElse", "(I)V"⟩ ∈ rt_tbl := List.mem_filter.mpr ⟨List.mem_append_left _ (List.mem_of_getElem? (i := 9) (by decide +kernel)), rfl⟩
theorem rt_w10 : Cond.selects "RangeTeller$Checker" ⟨"RangeTeller$Checker", "mustBeAtBase", "()V"⟩ ⟨"RangeTeller$Checker", "mustBeAtBase", "()V"⟩ ∈ rt_tbl := List.mem_filter.mpr ⟨List.mem_append_left _ (List.mem_of_getElem? (i := 10) (by decide +kernel)), rfl⟩
theorem rt_w11 : Cond.selects "RangeTeller$Checker" ⟨"RangeTeller$Checker", "checkEnd", "(II)V"⟩ ⟨"RangeTeller$Checker", "checkEnd", "(II)V"⟩ ∈ rt_tbl := List.mem_filter.mpr ⟨List.mem_append_left _ (List.mem_of_getElem? (i := 11) (by decide +kernel)), rfl⟩
theorem rt_w12 : Cond.selects "RangeTeller$Checker" ⟨"RangeTeller$Checker", "give", "(I)V"⟩ ⟨"RangeTeller$Checker", "give", "(I)V"⟩ ∈ rt_tbl := List.mem_filter.mpr ⟨List.mem_append_left _ (List.mem_of_getElem? (i := 12) (by decide +kernel)), rfl⟩
theorem rt_w13 : Cond.selects "RangeTeller$Checker" ⟨"RangeTeller$Checker", "checkBranch", "(II)V"⟩ ⟨"RangeTeller$Checker", "checkBranch", "(II)V"⟩ ∈ rt_tbl := List.mem_filter.mpr ⟨List.mem_append_left _ (List.mem_of_getElem? (i := 13) (by decide +kernel)), rfl⟩
theorem rt_w14 : Cond.selects "RangeTeller$Checker" ⟨"RangeTeller$Checker", "checkCall", "(I)V"⟩ ⟨"RangeTeller$Checker", "checkCall", "(I)V"⟩ ∈ rt_tbl := List.mem_filter.mpr ⟨List.mem_append_left _ (List.mem_of_getElem? (i := 14) (by decide +kernel)), rfl⟩
theorem rt_w15 : Cond.selects "RangeTeller$Checker" ⟨"RangeTeller$Checker", "checkPlain", "(II)V"⟩ ⟨"RangeTeller$Checker", "checkPlain", "(II)V"⟩ ∈ rt_tbl := List.mem_filter.mpr ⟨List.mem_append_left _ (List.mem_of_getElem? (i := 15) (by decide +kernel)), rfl⟩
theorem rt_w16 : Cond.selects "RangeTeller$Foreteller" ⟨"RangeTeller$Foreteller", "clear", "()V"⟩ ⟨"RangeTeller$Foreteller", "clear", "()V"⟩ ∈ rt_tbl := List.mem_filter.mpr ⟨List.mem_append_left _ (List.mem_of_getElem? (i := 16) (by decide +kernel)), rfl⟩
theorem rt_w17 : Cond.selects "RangeTeller$Foreteller" ⟨"RangeTeller$Foreteller", "enter", "(I)V"⟩ ⟨"RangeTeller$Foreteller", "enter", "(I)V"⟩ ∈ rt_tbl := List.mem_filter.mpr ⟨List.mem_append_left _ (List.mem_of_getElem? (i := 17) (by decide +kernel)), rfl⟩
theorem rt_w18 : Cond.selects "RangeTeller$Foreteller" ⟨"RangeTeller$Foreteller", "arrive", "(I)V"⟩ ⟨"RangeTeller$Foreteller", "arrive", "(I)V"⟩ ∈ rt_tbl := List.mem_filter.mpr ⟨List.mem_append_left _ (List.mem_of_getElem? (i := 18) (by decide +kernel)), rfl⟩
theorem rt_w19 : Cond.selects "RangeTeller$Foreteller" ⟨"RangeTeller$Foreteller", "recall", "(I)V"⟩ ⟨"RangeTeller$Foreteller", "recall", "(I)V"⟩ ∈ rt_tbl := List.mem_filter.mpr ⟨List.mem_append_left _ (List.mem_of_getElem? (i := 19) (by decide +kernel)), rfl⟩
theorem rt_w20 : Cond.selects "RangeTeller$Foreteller" ⟨"RangeTeller$Foreteller", "follow", "(I)V"⟩ ⟨"RangeTeller$Foreteller", "follow", "(I)V"⟩ ∈ rt_tbl := List.mem_filter.mpr ⟨List.mem_append_left _ (List.mem_of_getElem? (i := 20) (by decide +kernel)), rfl⟩
theorem rt_w21 : Cond.selects "RangeTeller$Foreteller" ⟨"RangeTeller$Foreteller", "fork", "(IZ)V"⟩ ⟨"RangeTeller$Foreteller", "fork", "(IZ)V"⟩ ∈ rt_tbl := List.mem_filter.mpr ⟨List.mem_append_left _ (List.mem_of_getElem? (i := 21) (by decide +kernel)), rfl⟩
theorem rt_w22 : Cond.selects "RangeTeller$Foreteller" ⟨"RangeTeller$Foreteller", "pop", "()I"⟩ ⟨"RangeTeller$Foreteller", "pop", "()I"⟩ ∈ rt_tbl := List.mem_filter.mpr ⟨List.mem_append_left _ (List.mem_of_getElem? (i := 22) (by decide +kernel)), rfl⟩
theorem rt_w23 : Cond.selects "RangeTeller$Foreteller" ⟨"RangeTeller$Foreteller", "jump", "(I)V"⟩ ⟨"RangeTeller$Foreteller", "jump", "(I)V"⟩ ∈ rt_tbl := List.mem_filter.mpr ⟨List.mem_append_left _ (List.mem_of_getElem? (i := 23) (by decide +kernel)), rfl⟩
theorem rt_w24 : Cond.selects "RangeTeller$Foreteller" ⟨"RangeTeller$Foreteller", "leave", "(I)V"⟩ ⟨"RangeTeller$Foreteller", "leave", "(I)V"⟩ ∈ rt_tbl := List.mem_filter.mpr ⟨List.mem_append_left _ (List.mem_of_getElem? (i := 24) (by decide +kernel)), rfl⟩
theorem rt_w25 : Cond.selects "RangeTeller$Foreteller" ⟨"RangeTeller$Foreteller", "wake", "(I)V"⟩ ⟨"RangeTeller$Foreteller", "wake", "(I)V"⟩ ∈ rt_tbl := List.mem_filter.mpr ⟨List.mem_append_left _ (List.mem_of_getElem? (i := 25) (by decide +kernel)), rfl⟩
theorem rt_w26 : Cond.selects "RangeTeller$Foreteller" ⟨"RangeTeller$Foreteller", "call", "(II)V"⟩ ⟨"RangeTeller$Foreteller", "call", "(II)V"⟩ ∈ rt_tbl := List.mem_filter.mpr ⟨List.mem_append_left _ (List.mem_of_getElem? (i := 26) (by decide +kernel)), rfl⟩
theorem rt_w27 : Cond.selects "RangeTeller$Foreteller" ⟨"RangeTeller$Foreteller", "push", "(I)V"⟩ ⟨"RangeTeller$Foreteller", "push", "(I)V"⟩ ∈ rt_tbl := List.mem_filter.mpr ⟨List.mem_append_left _ (List.mem_of_getElem? (i := 27) (by decide +kernel)), rfl⟩
theorem rt_w28 : Cond.selects "RangeTeller$Foreteller" ⟨"RangeTeller$Foreteller", "operate", "(II)Z"⟩ ⟨"RangeTeller$Foreteller", "operate", "(II)Z"⟩ ∈ rt_tbl := List.mem_filter.mpr ⟨List.mem_append_left _ (List.mem_of_getElem? (i := 28) (by decide +kernel)), rfl⟩
theorem rt_w29 : Cond.selects "RangeTeller$Foreteller" ⟨"RangeTeller$Foreteller", "pick", "()V"⟩ ⟨"RangeTeller$Foreteller", "pick", "()V"⟩ ∈ rt_tbl := List.mem_filter.mpr ⟨List.mem_append_left _ (List.mem_of_getElem? (i := 29) (by decide +kernel)), rfl⟩
theorem rt_w30 : Cond.selects "RangeTeller$Foreteller" ⟨"RangeTeller$Foreteller", "fetch", "(I)Z"⟩ ⟨"RangeTeller$Foreteller", "fetch", "(I)Z"⟩ ∈ rt_tbl := List.mem_filter.mpr ⟨List.mem_append_left _ (List.mem_of_getElem? (i := 30) (by decide +kernel)), rfl⟩
theorem rt_w31 : Cond.selects "RangeTeller$Foreteller" ⟨"RangeTeller$Foreteller", "store", "(I)Z"⟩ ⟨"RangeTeller$Foreteller", "store", "(I)Z"⟩ ∈ rt_tbl := List.mem_filter.mpr ⟨List.mem_append_left _ (List.mem_of_getElem? (i := 31) (by decide +kernel)), rfl⟩
theorem rt_w32 : Cond.selects "RangeTeller$Foreteller" ⟨"RangeTeller$Foreteller", "reckon", "(I)Z"⟩ ⟨"RangeTeller$Foreteller", "reckon", "(I)Z"⟩ ∈ rt_tbl := List.mem_filter.mpr ⟨List.mem_append_left _ (List.mem_of_getElem? (i := 32) (by decide +kernel)), rfl⟩
theorem rt_w33 : Cond.selects "RangeTeller$Runner" ⟨"RangeTeller$Runner", "begin", "(II)V"⟩ ⟨"RangeTeller$Runner", "begin", "(II)V"⟩ ∈ rt_tbl := List.mem_filter.mpr ⟨List.mem_append_left _ (List.mem_of_getElem? (i := 33) (by decide +kernel)), rfl⟩
theorem rt_w34 : Cond.selects "RangeTeller$Runner" ⟨"RangeTeller$Runner", "enter", "(I)V"⟩ ⟨"RangeTeller$Runner", "enter", "(I)V"⟩ ∈ rt_tbl := List.mem_filter.mpr ⟨List.mem_append_left _ (List.mem_of_getElem? (i := 34) (by decide +kernel)), rfl⟩
theorem rt_w35 : Cond.selects "RangeTeller$Runner" ⟨"RangeTeller$Runner", "step", "(I)V"⟩ ⟨"RangeTeller$Runner", "step", "(I)V"⟩ ∈ rt_tbl := List.mem_filter.mpr ⟨List.mem_append_left _ (List.mem_of_getElem? (i := 35) (by decide +kernel)), rfl⟩
theorem rt_w36 : Cond.selects "RangeTeller$Runner" ⟨"RangeTeller$Runner", "pop", "()I"⟩ ⟨"RangeTeller$Runner", "pop", "()I"⟩ ∈ rt_tbl := List.mem_filter.mpr ⟨List.mem_append_left _ (List.mem_of_getElem? (i := 36) (by decide +kernel)), rfl⟩
theorem rt_w37 : Cond.selects "RangeTeller$Runner" ⟨"RangeTeller$Runner", "jumpIf", "(IZ)V"⟩ ⟨"RangeTeller$Runner", "jumpIf", "(IZ)V"⟩ ∈ rt_tbl := List.mem_filter.mpr ⟨List.mem_append_left _ (List.mem_of_getElem? (i := 37) (by decide +kernel)), rfl⟩
theorem rt_w38 : Cond.selects "RangeTeller$Runner" ⟨"RangeTeller$Runner", "jump", "(I)V"⟩ ⟨"RangeTeller$Runner", "jump", "(I)V"⟩ ∈ rt_tbl := List.mem_filter.mpr ⟨List.mem_append_left _ (List.mem_of_getElem? (i := 38) (by decide +kernel)), rfl⟩
theorem rt_w39 : Cond.selects "RangeTeller$Runner" ⟨"RangeTeller$Runner", "leave", "(I)V"⟩ ⟨"RangeTeller$Runner", "leave", "(I)V"⟩ ∈ rt_tbl := List.mem_filter.mpr ⟨List.mem_append_left _ (List.mem_of_getElem? (i := 39) (by decide +kernel)), rfl⟩
theorem rt_w40 : Cond.selects "RangeTeller$Runner" ⟨"RangeTeller$Runner", "call", "(I)V"⟩ ⟨"RangeTeller$Runner", "call", "(I)V"⟩ ∈ rt_tbl := List.mem_filter.mpr ⟨List.mem_append_left _ (List.mem_of_getElem? (i := 40) (by decide +kernel)), rfl⟩
theorem rt_w41 : Cond.selects "RangeTeller$Runner" ⟨"RangeTeller$Runner", "operate", "(II)V"⟩ ⟨"RangeTeller$Runner", "operate", "(II)V"⟩ ∈ rt_tbl := List.mem_filter.mpr ⟨List.mem_append_left _ (List.mem_of_getElem? (i := 41) (by decide +kernel)), rfl⟩
theorem rt_w42 : Cond.selects "RangeTeller$Runner" ⟨"RangeTeller$Runner", "pick", "()V"⟩ ⟨"RangeTeller$Runner", "pick", "()V"⟩ ∈ rt_tbl := List.mem_filter.mpr ⟨List.mem_append_left _ (List.mem_of_getElem? (i := 42) (by decide +kernel)), rfl⟩
theorem rt_w43 : Cond.selects "RangeTeller$Runner" ⟨"RangeTeller$Runner", "push", "(I)V"⟩ ⟨"RangeTeller$Runner", "push", "(I)V"⟩ ∈ rt_tbl := List.mem_filter.mpr ⟨List.mem_append_left _ (List.mem_of_getElem? (i := 43) (by decide +kernel)), rfl⟩
theorem rt_w44 : Cond.selects "RangeTeller$Runner" ⟨"RangeTeller$Runner", "fetch", "(I)V"⟩ ⟨"RangeTeller$Runner", "fetch", "(I)V"⟩ ∈ rt_tbl := List.mem_filter.mpr ⟨List.mem_append_left _ (List.mem_of_getElem? (i := 44) (by decide +kernel)), rfl⟩
theorem rt_w45 : Cond.selects "RangeTeller$Runner" ⟨"RangeTeller$Runner", "store", "(I)V"⟩ ⟨"RangeTeller$Runner", "store", "(I)V"⟩ ∈ rt_tbl := List.mem_filter.mpr ⟨List.mem_append_left _ (List.mem_of_getElem? (i := 45) (by decide +kernel)), rfl⟩
theorem rt_w46 : Cond.selects "RangeTeller$Runner" ⟨"RangeTeller$Runner", "takeInput", "()V"⟩ ⟨"RangeTeller$Runner", "takeInput", "()V"⟩ ∈ rt_tbl := List.mem_filter.mpr ⟨List.mem_append_left _ (List.mem_of_getElem? (i := 46) (by decide +kernel)), rfl⟩
theorem rt_w47 : Cond.selects "RangeTeller$Runner" ⟨"RangeTeller$Runner", "putOut", "(I)V"⟩ ⟨"RangeTeller$Runner", "putOut", "(I)V"⟩ ∈ rt_tbl := List.mem_filter.mpr ⟨List.mem_append_left _ (List.mem_of_getElem? (i := 47) (by decide +kernel)), rfl⟩
theorem rt_w48 : Cond.selects "RangeTeller$Runner" ⟨"RangeTeller$Runner", "reckon", "(I)V"⟩ ⟨"RangeTeller$Runner", "reckon", "(I)V"⟩ ∈ rt_tbl := List.mem_filter.mpr ⟨List.mem_append_left _ (List.mem_of_getElem? (i := 48) (by decide +kernel)), rfl⟩
theorem rt_w49 : Cond.selects "RangeTeller" ⟨"RangeTeller", "isInstruction", "(I)Z"⟩ ⟨"RangeTeller", "isInstruction", "(I)Z"⟩ ∈ rt_tbl := List.mem_filter.mpr ⟨List.mem_append_left _ (List.mem_of_getElem? (i := 49) (by decide +kernel)), rfl⟩
theorem rt_w50 : Cond.selects "RangeTellerModel" ⟨"RangeTellerModel", "read", "()Z"⟩ ⟨"RangeTellerModel", "read", "()Z"⟩ ∈ rt_tbl := List.mem_filter.mpr ⟨List.mem_append_left _ (List.mem_of_getElem? (i := 50) (by decide +kernel)), rfl⟩
theorem rt_w51 : Cond.selects "RangeTellerModel" ⟨"RangeTellerModel", "number", "(II)I"⟩ ⟨"RangeTellerModel", "number", "(II)I"⟩ ∈ rt_tbl := List.mem_filter.mpr ⟨List.mem_append_left _ (List.mem_of_getElem? (i := 51) (by decide +kernel)), rfl⟩
theorem rt_w52 : Cond.selects "RangeTellerModel" ⟨"RangeTellerModel", "take", "()I"⟩ ⟨"RangeTellerModel", "take", "()I"⟩ ∈ rt_tbl := List.mem_filter.mpr ⟨List.mem_append_left _ (List.mem_of_getElem? (i := 52) (by decide +kernel)), rfl⟩
theorem rt_w53 : Cond.selects "RangeTellerModel" ⟨"RangeTellerModel", "readFunction", "(I)V"⟩ ⟨"RangeTellerModel", "readFunction", "(I)V"⟩ ∈ rt_tbl := List.mem_filter.mpr ⟨List.mem_append_left _ (List.mem_of_getElem? (i := 53) (by decide +kernel)), rfl⟩
theorem rt_w54 : Cond.selects "RangeTellerModel" ⟨"RangeTellerModel", "close", "(I)V"⟩ ⟨"RangeTellerModel", "close", "(I)V"⟩ ∈ rt_tbl := List.mem_filter.mpr ⟨List.mem_append_left _ (List.mem_of_getElem? (i := 54) (by decide +kernel)), rfl⟩
theorem rt_w55 : Cond.selects "RangeTellerModel" ⟨"RangeTellerModel", "check", "()Z"⟩ ⟨"RangeTellerModel", "check", "()Z"⟩ ∈ rt_tbl := List.mem_filter.mpr ⟨List.mem_append_left _ (List.mem_of_getElem? (i := 55) (by decide +kernel)), rfl⟩
theorem rt_w56 : Cond.selects "RangeTellerModel" ⟨"RangeTellerModel", "open", "(II)V"⟩ ⟨"RangeTellerModel", "open", "(II)V"⟩ ∈ rt_tbl := List.mem_filter.mpr ⟨List.mem_append_left _ (List.mem_of_getElem? (i := 56) (by decide +kernel)), rfl⟩
theorem rt_w57 : Cond.selects "RangeTellerModel" ⟨"RangeTellerModel", "checkOne", "(I)Z"⟩ ⟨"RangeTellerModel", "checkOne", "(I)Z"⟩ ∈ rt_tbl := List.mem_filter.mpr ⟨List.mem_append_left _ (List.mem_of_getElem? (i := 57) (by decide +kernel)), rfl⟩
theorem rt_w58 : Cond.selects "RangeTellerModel" ⟨"RangeTellerModel", "checkFlow", "(I)Z"⟩ ⟨"RangeTellerModel", "checkFlow", "(I)Z"⟩ ∈ rt_tbl := List.mem_filter.mpr ⟨List.mem_append_left _ (List.mem_of_getElem? (i := 58) (by decide +kernel)), rfl⟩
theorem rt_w59 : Cond.selects "RangeTellerModel" ⟨"RangeTellerModel", "deaden", "()Z"⟩ ⟨"RangeTellerModel", "deaden", "()Z"⟩ ∈ rt_tbl := List.mem_filter.mpr ⟨List.mem_append_left _ (List.mem_of_getElem? (i := 59) (by decide +kernel)), rfl⟩
theorem rt_w60 : Cond.selects "RangeTellerModel" ⟨"RangeTellerModel", "drop", "(I)Z"⟩ ⟨"RangeTellerModel", "drop", "(I)Z"⟩ ∈ rt_tbl := List.mem_filter.mpr ⟨List.mem_append_left _ (List.mem_of_getElem? (i := 60) (by decide +kernel)), rfl⟩
theorem rt_w61 : Cond.selects "RangeTellerModel" ⟨"RangeTellerModel", "checkEnd", "(I)Z"⟩ ⟨"RangeTellerModel", "checkEnd", "(I)Z"⟩ ∈ rt_tbl := List.mem_filter.mpr ⟨List.mem_append_left _ (List.mem_of_getElem? (i := 61) (by decide +kernel)), rfl⟩
theorem rt_w62 : Cond.selects "RangeTellerModel" ⟨"RangeTellerModel", "give", "(I)Z"⟩ ⟨"RangeTellerModel", "give", "(I)Z"⟩ ∈ rt_tbl := List.mem_filter.mpr ⟨List.mem_append_left _ (List.mem_of_getElem? (i := 62) (by decide +kernel)), rfl⟩
theorem rt_w63 : Cond.selects "RangeTellerModel" ⟨"RangeTellerModel", "needs", "(II)I"⟩ ⟨"RangeTellerModel", "needs", "(II)I"⟩ ∈ rt_tbl := List.mem_filter.mpr ⟨List.mem_append_left _ (List.mem_of_getElem? (i := 63) (by decide +kernel)), rfl⟩
theorem rt_w64 : Cond.selects "RangeTellerModel" ⟨"RangeTellerModel", "foretell", "()V"⟩ ⟨"RangeTellerModel", "foretell", "()V"⟩ ∈ rt_tbl := List.mem_filter.mpr ⟨List.mem_append_left _ (List.mem_of_getElem? (i := 64) (by decide +kernel)), rfl⟩
theorem rt_w65 : Cond.selects "RangeTellerModel" ⟨"RangeTellerModel", "clear", "()V"⟩ ⟨"RangeTellerModel", "clear", "()V"⟩ ∈ rt_tbl := List.mem_filter.mpr ⟨List.mem_append_left _ (List.mem_of_getElem? (i := 65) (by decide +kernel)), rfl⟩
theorem rt_w66 : Cond.selects "RangeTellerModel" ⟨"RangeTellerModel", "pass", "(I)V"⟩ ⟨"RangeTellerModel", "pass", "(I)V"⟩ ∈ rt_tbl := List.mem_filter.mpr ⟨List.mem_append_left _ (List.mem_of_getElem? (i := 66) (by decide +kernel)), rfl⟩
theorem rt_w67 : Cond.selects "RangeTellerModel" ⟨"RangeTellerModel", "giveOn", "(I)V"⟩ ⟨"RangeTellerModel", "giveOn", "(I)V"⟩ ∈ rt_tbl := List.mem_filter.mpr ⟨List.mem_append_left _ (List.mem_of_getElem? (i := 67) (by decide +kernel)), rfl⟩
theorem rt_w68 : Cond.selects "RangeTellerModel" ⟨"RangeTellerModel", "bring", "(I)V"⟩ ⟨"RangeTellerModel", "bring", "(I)V"⟩ ∈ rt_tbl := List.mem_filter.mpr ⟨List.mem_append_left _ (List.mem_of_getElem? (i := 68) (by decide +kernel)), rfl⟩
theorem rt_w69 : Cond.selects "RangeTellerModel" ⟨"RangeTellerModel", "passIf", "(I)V"⟩ ⟨"RangeTellerModel", "passIf", "(I)V"⟩ ∈ rt_tbl := List.mem_filter.mpr ⟨List.mem_append_left _ (List.mem_of_getElem? (i := 69) (by decide +kernel)), rfl⟩
theorem rt_w70 : Cond.selects "RangeTellerModel" ⟨"RangeTellerModel", "passBranch", "(I)V"⟩ ⟨"RangeTellerModel", "passBranch", "(I)V"⟩ ∈ rt_tbl := List.mem_filter.mpr ⟨List.mem_append_left _ (List.mem_of_getElem? (i := 70) (by decide +kernel)), rfl⟩
theorem rt_w71 : Cond.selects "RangeTellerModel" ⟨"RangeTellerModel", "ending", "(I)V"⟩ ⟨"RangeTellerModel", "ending", "(I)V"⟩ ∈ rt_tbl := List.mem_filter.mpr ⟨List.mem_append_left _ (List.mem_of_getElem? (i := 71) (by decide +kernel)), rfl⟩
theorem rt_w72 : Cond.selects "RangeTellerModel" ⟨"RangeTellerModel", "wake", "(II)V"⟩ ⟨"RangeTellerModel", "wake", "(II)V"⟩ ∈ rt_tbl := List.mem_filter.mpr ⟨List.mem_append_left _ (List.mem_of_getElem? (i := 72) (by decide +kernel)), rfl⟩
theorem rt_w73 : Cond.selects "RangeTellerModel" ⟨"RangeTellerModel", "set", "(IIIZ)V"⟩ ⟨"RangeTellerModel", "set", "(IIIZ)V"⟩ ∈ rt_tbl := List.mem_filter.mpr ⟨List.mem_append_left _ (List.mem_of_getElem? (i := 73) (by decide +kernel)), rfl⟩
theorem rt_w74 : Cond.selects "RangeTellerModel" ⟨"RangeTellerModel", "passCall", "(I)V"⟩ ⟨"RangeTellerModel", "passCall", "(I)V"⟩ ∈ rt_tbl := List.mem_filter.mpr ⟨List.mem_append_left _ (List.mem_of_getElem? (i := 74) (by decide +kernel)), rfl⟩
theorem rt_w75 : Cond.selects "RangeTellerModel" ⟨"RangeTellerModel", "load1", "(I)V"⟩ ⟨"RangeTellerModel", "load1", "(I)V"⟩ ∈ rt_tbl := List.mem_filter.mpr ⟨List.mem_append_left _ (List.mem_of_getElem? (i := 75) (by decide +kernel)), rfl⟩
theorem rt_w76 : Cond.selects "RangeTellerModel" ⟨"RangeTellerModel", "nothing", "(Z)V"⟩ ⟨"RangeTellerModel", "nothing", "(Z)V"⟩ ∈ rt_tbl := List.mem_filter.mpr ⟨List.mem_append_left _ (List.mem_of_getElem? (i := 76) (by decide +kernel)), rfl⟩
theorem rt_w77 : Cond.selects "RangeTellerModel" ⟨"RangeTellerModel", "join", "(II)V"⟩ ⟨"RangeTellerModel", "join", "(II)V"⟩ ∈ rt_tbl := List.mem_filter.mpr ⟨List.mem_append_left _ (List.mem_of_getElem? (i := 77) (by decide +kernel)), rfl⟩
theorem rt_w78 : Cond.selects "RangeTellerModel" ⟨"RangeTellerModel", "store1", "(I)V"⟩ ⟨"RangeTellerModel", "store1", "(I)V"⟩ ∈ rt_tbl := List.mem_filter.mpr ⟨List.mem_append_left _ (List.mem_of_getElem? (i := 78) (by decide +kernel)), rfl⟩
theorem rt_w79 : Cond.selects "RangeTellerModel" ⟨"RangeTellerModel", "leaves", "(I)Z"⟩ ⟨"RangeTellerModel", "leaves", "(I)Z"⟩ ∈ rt_tbl := List.mem_filter.mpr ⟨List.mem_append_left _ (List.mem_of_getElem? (i := 79) (by decide +kernel)), rfl⟩
theorem rt_w80 : Cond.selects "RangeTellerModel" ⟨"RangeTellerModel", "pick", "()V"⟩ ⟨"RangeTellerModel", "pick", "()V"⟩ ∈ rt_tbl := List.mem_filter.mpr ⟨List.mem_append_left _ (List.mem_of_getElem? (i := 80) (by decide +kernel)), rfl⟩
theorem rt_w81 : Cond.selects "RangeTellerModel" ⟨"RangeTellerModel", "pairs", "(I)V"⟩ ⟨"RangeTellerModel", "pairs", "(I)V"⟩ ∈ rt_tbl := List.mem_filter.mpr ⟨List.mem_append_left _ (List.mem_of_getElem? (i := 81) (by decide +kernel)), rfl⟩
theorem rt_w82 : Cond.selects "RangeTellerModel" ⟨"RangeTellerModel", "trap", "(I)I"⟩ ⟨"RangeTellerModel", "trap", "(I)I"⟩ ∈ rt_tbl := List.mem_filter.mpr ⟨List.mem_append_left _ (List.mem_of_getElem? (i := 82) (by decide +kernel)), rfl⟩
theorem rt_w83 : Cond.selects "RangeTellerModel" ⟨"RangeTellerModel", "flow", "(I)Z"⟩ ⟨"RangeTellerModel", "flow", "(I)Z"⟩ ∈ rt_tbl := List.mem_filter.mpr ⟨List.mem_append_left _ (List.mem_of_getElem? (i := 83) (by decide +kernel)), rfl⟩
theorem rt_w84 : Cond.selects "RangeTellerModel" ⟨"RangeTellerModel", "pop", "()I"⟩ ⟨"RangeTellerModel", "pop", "()I"⟩ ∈ rt_tbl := List.mem_filter.mpr ⟨List.mem_append_left _ (List.mem_of_getElem? (i := 84) (by decide +kernel)), rfl⟩
theorem rt_w85 : Cond.selects "RangeTellerModel" ⟨"RangeTellerModel", "giveBack", "(I)Z"⟩ ⟨"RangeTellerModel", "giveBack", "(I)Z"⟩ ∈ rt_tbl := List.mem_filter.mpr ⟨List.mem_append_left _ (List.mem_of_getElem? (i := 85) (by decide +kernel)), rfl⟩
theorem rt_w86 : Cond.selects "RangeTellerModel" ⟨"RangeTellerModel", "push", "(I)V"⟩ ⟨"RangeTellerModel", "push", "(I)V"⟩ ∈ rt_tbl := List.mem_filter.mpr ⟨List.mem_append_left _ (List.mem_of_getElem? (i := 86) (by decide +kernel)), rfl⟩
theorem rt_w87 : Cond.selects "RangeTellerModel" ⟨"RangeTellerModel", "branch", "(I)Z"⟩ ⟨"RangeTellerModel", "branch", "(I)Z"⟩ ∈ rt_tbl := List.mem_filter.mpr ⟨List.mem_append_left _ (List.mem_of_getElem? (i := 87) (by decide +kernel)), rfl⟩
theorem rt_w88 : Cond.selects "RangeTellerModel" ⟨"RangeTellerModel", "enter", "(I)V"⟩ ⟨"RangeTellerModel", "enter", "(I)V"⟩ ∈ rt_tbl := List.mem_filter.mpr ⟨List.mem_append_left _ (List.mem_of_getElem? (i := 88) (by decide +kernel)), rfl⟩
theorem rt_w89 : Cond.selects "RangeTellerModel" ⟨"RangeTellerModel", "act", "(II)V"⟩ ⟨"RangeTellerModel", "act", "(II)V"⟩ ∈ rt_tbl := List.mem_filter.mpr ⟨List.mem_append_left _ (List.mem_of_getElem? (i := 89) (by decide +kernel)), rfl⟩
theorem rt_w90 : Cond.selects "RangeTellerModel" ⟨"RangeTellerModel", "isInstruction", "(I)Z"⟩ ⟨"RangeTellerModel", "isInstruction", "(I)Z"⟩ ∈ rt_tbl := List.mem_filter.mpr ⟨List.mem_append_left _ (List.mem_of_getElem? (i := 90) (by decide +kernel)), rfl⟩
theorem rt_w91 : Cond.selects "RangeTellerModel" ⟨"RangeTellerModel", "flags", "(I)I"⟩ ⟨"RangeTellerModel", "flags", "(I)I"⟩ ∈ rt_tbl := List.mem_filter.mpr ⟨List.mem_append_left _ (List.mem_of_getElem? (i := 91) (by decide +kernel)), rfl⟩
set_option maxRecDepth 20000 in
theorem rt_w93 : Cond.initialized "RangeTeller" ∈ rt_tbl := rt_g1 (List.mem_of_getElem? (i := 1) rfl) rfl
set_option maxRecDepth 20000 in
theorem rt_w94 : Cond.initialized "RangeTeller$Program" ∈ rt_tbl := rt_g1 (List.mem_of_getElem? (i := 2) rfl) rfl
set_option maxRecDepth 20000 in
theorem rt_w95 : Cond.initialized "RangeTeller$Reader" ∈ rt_tbl := rt_g1 (List.mem_of_getElem? (i := 3) rfl) rfl
set_option maxRecDepth 20000 in
theorem rt_w96 : Cond.initialized "RangeTeller$Checker" ∈ rt_tbl := rt_g1 (List.mem_of_getElem? (i := 4) rfl) rfl
set_option maxRecDepth 20000 in
theorem rt_w97 : Cond.initialized "RangeTeller$Runner" ∈ rt_tbl := rt_g1 (List.mem_of_getElem? (i := 5) rfl) rfl
set_option maxRecDepth 20000 in
theorem rt_w98 : Cond.initialized "RangeTeller$Foreteller" ∈ rt_tbl := rt_g1 (List.mem_of_getElem? (i := 6) rfl) rfl
set_option maxRecDepth 20000 in
theorem rt_w99 : Cond.initialized "RangeTellerModel" ∈ rt_tbl := rt_g1 (List.mem_of_getElem? (i := 7) rfl) rfl
set_option maxRecDepth 20000 in
theorem rt_w100 : Cond.initialized "RangeTeller$Ops" ∈ rt_tbl := rt_g1 (List.mem_of_getElem? (i := 8) rfl) rfl
set_option maxRecDepth 20000 in
theorem rt_w101 : Cond.initialized "java/util/Arrays" ∈ rt_tbl := rt_g1 (List.mem_of_getElem? (i := 9) rfl) rfl
set_option maxRecDepth 20000 in
theorem rt_w102 : Cond.initialized "RangeTeller$Ranges" ∈ rt_tbl := rt_g1 (List.mem_of_getElem? (i := 10) rfl) rfl
set_option maxRecDepth 20000 in
theorem rt_w103 : Cond.initialized "java/lang/System" ∈ rt_tbl := rt_g1 (List.mem_of_getElem? (i := 11) rfl) rfl
set_option maxRecDepth 20000 in
theorem rt_w104 : Cond.initialized "java/lang/Math" ∈ rt_tbl := rt_g1 (List.mem_of_getElem? (i := 12) rfl) rfl
set_option maxRecDepth 20000 in
theorem rt_w105 : Cond.classLink "RangeTellerLaw" 7 "RangeTeller" ∈ rt_tbl := rt_g1 (List.mem_of_getElem? (i := 13) rfl) rfl
set_option maxRecDepth 20000 in
theorem rt_w106 : Cond.instantiable "RangeTeller" 7 ∈ rt_tbl := rt_g1 (List.mem_of_getElem? (i := 14) rfl) rfl
set_option maxRecDepth 20000 in
theorem rt_w107 : Cond.methodLink "RangeTellerLaw" 9 ⟨"RangeTeller", "<init>", "()V"⟩ ∈ rt_tbl := rt_g1 (List.mem_of_getElem? (i := 15) rfl) rfl
set_option maxRecDepth 20000 in
theorem rt_w108 : Cond.instanceMethod ⟨"RangeTeller", "<init>", "()V"⟩ ∈ rt_tbl := rt_g1 (List.mem_of_getElem? (i := 16) rfl) rfl
set_option maxRecDepth 20000 in
theorem rt_w109 : Cond.code ⟨"RangeTeller", "<init>", "()V"⟩ prog_1_method_1_code 2 (Option.none : Option Jvm.ClassFile.FieldType) ∈ rt_tbl := rt_g1 (List.mem_of_getElem? (i := 17) rfl) rfl
set_option maxRecDepth 20000 in
theorem rt_w110 : Cond.methodLink "RangeTeller" 1 ⟨"java/lang/Object", "<init>", "()V"⟩ ∈ rt_tbl := rt_g1 (List.mem_of_getElem? (i := 18) rfl) rfl
set_option maxRecDepth 20000 in
theorem rt_w111 : Cond.instanceMethod ⟨"java/lang/Object", "<init>", "()V"⟩ ∈ rt_tbl := rt_g1 (List.mem_of_getElem? (i := 19) rfl) rfl
set_option maxRecDepth 20000 in
theorem rt_w112 : Cond.code ⟨"java/lang/Object", "<init>", "()V"⟩ object_method_1_code 1 (Option.none : Option Jvm.ClassFile.FieldType) ∈ rt_tbl := rt_g1 (List.mem_of_getElem? (i := 20) rfl) rfl
set_option maxRecDepth 20000 in
theorem rt_w113 : Cond.classLink "RangeTeller" 7 "RangeTeller$Program" ∈ rt_tbl := rt_g1 (List.mem_of_getElem? (i := 21) rfl) rfl
set_option maxRecDepth 20000 in
theorem rt_w114 : Cond.instantiable "RangeTeller$Program" 14 ∈ rt_tbl := rt_g1 (List.mem_of_getElem? (i := 22) rfl) rfl
set_option maxRecDepth 20000 in
theorem rt_w116 : Cond.instanceMethod ⟨"RangeTeller$Program", "<init>", "()V"⟩ ∈ rt_tbl := rt_g1 (List.mem_of_getElem? (i := 24) rfl) rfl
set_option maxRecDepth 20000 in
theorem rt_w117 : Cond.code ⟨"RangeTeller$Program", "<init>", "()V"⟩ prog_5_method_1_code 1 (Option.none : Option Jvm.ClassFile.FieldType) ∈ rt_tbl := rt_g1 (List.mem_of_getElem? (i := 25) rfl) rfl
set_option maxRecDepth 20000 in
theorem rt_w118 : Cond.methodLink "RangeTeller$Program" 3 ⟨"java/lang/Object", "<init>", "()V"⟩ ∈ rt_tbl := rt_g1 (List.mem_of_getElem? (i := 26) rfl) rfl
set_option maxRecDepth 20000 in
theorem rt_w119 : Cond.fieldLink "RangeTeller$Program" 9 "RangeTeller$Program" "ops" "[I" ∈ rt_tbl := rt_g1 (List.mem_of_getElem? (i := 27) rfl) rfl
set_option maxRecDepth 20000 in
theorem rt_w120 : Cond.fieldLink "RangeTeller$Checker" 55 "RangeTeller$Program" "ops" "[I" ∈ rt_tbl := rt_g1 (List.mem_of_getElem? (i := 28) rfl) rfl
set_option maxRecDepth 20000 in
theorem rt_w121 : Cond.fieldLink "RangeTeller$Foreteller" 79 "RangeTeller$Program" "ops" "[I" ∈ rt_tbl := rt_g1 (List.mem_of_getElem? (i := 29) rfl) rfl
set_option maxRecDepth 20000 in
theorem rt_w122 : Cond.fieldLink "RangeTeller$Reader" 77 "RangeTeller$Program" "ops" "[I" ∈ rt_tbl := rt_g1 (List.mem_of_getElem? (i := 30) rfl) rfl
set_option maxRecDepth 20000 in
theorem rt_w123 : Cond.fieldLink "RangeTeller$Runner" 100 "RangeTeller$Program" "ops" "[I" ∈ rt_tbl := rt_g1 (List.mem_of_getElem? (i := 31) rfl) rfl
set_option maxRecDepth 20000 in
theorem rt_w124 : Cond.fieldLink "RangeTeller" 119 "RangeTeller$Program" "ops" "[I" ∈ rt_tbl := rt_g1 (List.mem_of_getElem? (i := 32) rfl) rfl
set_option maxRecDepth 20000 in
theorem rt_w125 : Cond.fieldLink "RangeTeller$Program" 15 "RangeTeller$Program" "arguments" "[I" ∈ rt_tbl := rt_g1 (List.mem_of_getElem? (i := 33) rfl) rfl
set_option maxRecDepth 20000 in
theorem rt_w126 : Cond.fieldLink "RangeTeller$Checker" 85 "RangeTeller$Program" "arguments" "[I" ∈ rt_tbl := rt_g1 (List.mem_of_getElem? (i := 34) rfl) rfl
set_option maxRecDepth 20000 in
theorem rt_w127 : Cond.fieldLink "RangeTeller$Foreteller" 86 "RangeTeller$Program" "arguments" "[I" ∈ rt_tbl := rt_g1 (List.mem_of_getElem? (i := 35) rfl) rfl
set_option maxRecDepth 20000 in
theorem rt_w128 : Cond.fieldLink "RangeTeller$Runner" 117 "RangeTeller$Program" "arguments" "[I" ∈ rt_tbl := rt_g1 (List.mem_of_getElem? (i := 36) rfl) rfl
set_option maxRecDepth 20000 in
theorem rt_w129 : Cond.fieldLink "RangeTeller" 122 "RangeTeller$Program" "arguments" "[I" ∈ rt_tbl := rt_g1 (List.mem_of_getElem? (i := 37) rfl) rfl
set_option maxRecDepth 20000 in
theorem rt_w130 : Cond.fieldLink "RangeTeller$Program" 18 "RangeTeller$Program" "owners" "[I" ∈ rt_tbl := rt_g1 (List.mem_of_getElem? (i := 38) rfl) rfl
set_option maxRecDepth 20000 in
theorem rt_w131 : Cond.fieldLink "RangeTeller$Checker" 39 "RangeTeller$Program" "owners" "[I" ∈ rt_tbl := rt_g1 (List.mem_of_getElem? (i := 39) rfl) rfl
set_option maxRecDepth 20000 in
theorem rt_w132 : Cond.fieldLink "RangeTeller$Foreteller" 72 "RangeTeller$Program" "owners" "[I" ∈ rt_tbl := rt_g1 (List.mem_of_getElem? (i := 40) rfl) rfl
set_option maxRecDepth 20000 in
theorem rt_w133 : Cond.fieldLink "RangeTeller$Program" 21 "RangeTeller$Program" "ends" "[I" ∈ rt_tbl := rt_g1 (List.mem_of_getElem? (i := 41) rfl) rfl
set_option maxRecDepth 20000 in
theorem rt_w134 : Cond.fieldLink "RangeTeller$Checker" 97 "RangeTeller$Program" "ends" "[I" ∈ rt_tbl := rt_g1 (List.mem_of_getElem? (i := 42) rfl) rfl
set_option maxRecDepth 20000 in
theorem rt_w135 : Cond.fieldLink "RangeTeller" 132 "RangeTeller$Program" "ends" "[I" ∈ rt_tbl := rt_g1 (List.mem_of_getElem? (i := 43) rfl) rfl
set_option maxRecDepth 20000 in
theorem rt_w136 : Cond.fieldLink "RangeTeller$Program" 24 "RangeTeller$Program" "elses" "[I" ∈ rt_tbl := rt_g1 (List.mem_of_getElem? (i := 44) rfl) rfl
set_option maxRecDepth 20000 in
theorem rt_w137 : Cond.fieldLink "RangeTeller$Checker" 102 "RangeTeller$Program" "elses" "[I" ∈ rt_tbl := rt_g1 (List.mem_of_getElem? (i := 45) rfl) rfl
set_option maxRecDepth 20000 in
theorem rt_w138 : Cond.fieldLink "RangeTeller$Reader" 80 "RangeTeller$Program" "elses" "[I" ∈ rt_tbl := rt_g1 (List.mem_of_getElem? (i := 46) rfl) rfl
set_option maxRecDepth 20000 in
theorem rt_w139 : Cond.fieldLink "RangeTeller$Program" 27 "RangeTeller$Program" "goals" "[I" ∈ rt_tbl := rt_g1 (List.mem_of_getElem? (i := 47) rfl) rfl
set_option maxRecDepth 20000 in
theorem rt_w140 : Cond.fieldLink "RangeTeller$Runner" 129 "RangeTeller$Program" "goals" "[I" ∈ rt_tbl := rt_g1 (List.mem_of_getElem? (i := 48) rfl) rfl
set_option maxRecDepth 20000 in
theorem rt_w141 : Cond.fieldLink "RangeTeller$Foreteller" 144 "RangeTeller$Program" "goals" "[I" ∈ rt_tbl := rt_g1 (List.mem_of_getElem? (i := 49) rfl) rfl
set_option maxRecDepth 20000 in
theorem rt_w142 : Cond.fieldLink "RangeTeller$Program" 30 "RangeTeller$Program" "bases" "[I" ∈ rt_tbl := rt_g1 (List.mem_of_getElem? (i := 50) rfl) rfl
set_option maxRecDepth 20000 in
theorem rt_w143 : Cond.fieldLink "RangeTeller$Runner" 123 "RangeTeller$Program" "bases" "[I" ∈ rt_tbl := rt_g1 (List.mem_of_getElem? (i := 51) rfl) rfl
set_option maxRecDepth 20000 in
theorem rt_w144 : Cond.fieldLink "RangeTeller$Foreteller" 150 "RangeTeller$Program" "bases" "[I" ∈ rt_tbl := rt_g1 (List.mem_of_getElem? (i := 52) rfl) rfl
set_option maxRecDepth 20000 in
theorem rt_w145 : Cond.fieldLink "RangeTeller$Program" 33 "RangeTeller$Program" "kept" "[I" ∈ rt_tbl := rt_g1 (List.mem_of_getElem? (i := 53) rfl) rfl
set_option maxRecDepth 20000 in
theorem rt_w146 : Cond.fieldLink "RangeTeller$Runner" 126 "RangeTeller$Program" "kept" "[I" ∈ rt_tbl := rt_g1 (List.mem_of_getElem? (i := 54) rfl) rfl
set_option maxRecDepth 20000 in
theorem rt_w147 : Cond.fieldLink "RangeTeller$Foreteller" 153 "RangeTeller$Program" "kept" "[I" ∈ rt_tbl := rt_g1 (List.mem_of_getElem? (i := 55) rfl) rfl
set_option maxRecDepth 20000 in
theorem rt_w148 : Cond.fieldLink "RangeTeller$Program" 36 "RangeTeller$Program" "firsts" "[I" ∈ rt_tbl := rt_g1 (List.mem_of_getElem? (i := 56) rfl) rfl
set_option maxRecDepth 20000 in
theorem rt_w149 : Cond.fieldLink "RangeTeller$Checker" 36 "RangeTeller$Program" "firsts" "[I" ∈ rt_tbl := rt_g1 (List.mem_of_getElem? (i := 57) rfl) rfl
set_option maxRecDepth 20000 in
theorem rt_w150 : Cond.fieldLink "RangeTeller$Runner" 97 "RangeTeller$Program" "firsts" "[I" ∈ rt_tbl := rt_g1 (List.mem_of_getElem? (i := 58) rfl) rfl
set_option maxRecDepth 20000 in
theorem rt_w151 : Cond.fieldLink "RangeTeller$Foreteller" 171 "RangeTeller$Program" "firsts" "[I" ∈ rt_tbl := rt_g1 (List.mem_of_getElem? (i := 59) rfl) rfl
set_option maxRecDepth 20000 in
theorem rt_w152 : Cond.fieldLink "RangeTeller" 148 "RangeTeller$Program" "firsts" "[I" ∈ rt_tbl := rt_g1 (List.mem_of_getElem? (i := 60) rfl) rfl
set_option maxRecDepth 20000 in
theorem rt_w153 : Cond.fieldLink "RangeTeller$Program" 39 "RangeTeller$Program" "parameters" "[I" ∈ rt_tbl := rt_g1 (List.mem_of_getElem? (i := 61) rfl) rfl
set_option maxRecDepth 20000 in
theorem rt_w154 : Cond.fieldLink "RangeTeller$Runner" 83 "RangeTeller$Program" "parameters" "[I" ∈ rt_tbl := rt_g1 (List.mem_of_getElem? (i := 62) rfl) rfl
set_option maxRecDepth 20000 in
theorem rt_w155 : Cond.fieldLink "RangeTeller$Checker" 111 "RangeTeller$Program" "parameters" "[I" ∈ rt_tbl := rt_g1 (List.mem_of_getElem? (i := 63) rfl) rfl
set_option maxRecDepth 20000 in
theorem rt_w156 : Cond.fieldLink "RangeTeller$Foreteller" 163 "RangeTeller$Program" "parameters" "[I" ∈ rt_tbl := rt_g1 (List.mem_of_getElem? (i := 64) rfl) rfl
set_option maxRecDepth 20000 in
theorem rt_w157 : Cond.fieldLink "RangeTeller" 151 "RangeTeller$Program" "parameters" "[I" ∈ rt_tbl := rt_g1 (List.mem_of_getElem? (i := 65) rfl) rfl
set_option maxRecDepth 20000 in
theorem rt_w158 : Cond.fieldLink "RangeTeller$Program" 42 "RangeTeller$Program" "moreLocals" "[I" ∈ rt_tbl := rt_g1 (List.mem_of_getElem? (i := 66) rfl) rfl
set_option maxRecDepth 20000 in
theorem rt_w159 : Cond.fieldLink "RangeTeller" 154 "RangeTeller$Program" "moreLocals" "[I" ∈ rt_tbl := rt_g1 (List.mem_of_getElem? (i := 67) rfl) rfl
set_option maxRecDepth 20000 in
theorem rt_w160 : Cond.fieldLink "RangeTeller$Program" 45 "RangeTeller$Program" "results" "[I" ∈ rt_tbl := rt_g1 (List.mem_of_getElem? (i := 68) rfl) rfl
set_option maxRecDepth 20000 in
theorem rt_w161 : Cond.fieldLink "RangeTeller$Checker" 58 "RangeTeller$Program" "results" "[I" ∈ rt_tbl := rt_g1 (List.mem_of_getElem? (i := 69) rfl) rfl
set_option maxRecDepth 20000 in
theorem rt_w162 : Cond.fieldLink "RangeTeller$Foreteller" 156 "RangeTeller$Program" "results" "[I" ∈ rt_tbl := rt_g1 (List.mem_of_getElem? (i := 70) rfl) rfl
set_option maxRecDepth 20000 in
theorem rt_w163 : Cond.fieldLink "RangeTeller" 157 "RangeTeller$Program" "results" "[I" ∈ rt_tbl := rt_g1 (List.mem_of_getElem? (i := 71) rfl) rfl
set_option maxRecDepth 20000 in
theorem rt_w164 : Cond.fieldLink "RangeTeller$Program" 48 "RangeTeller$Program" "size" "I" ∈ rt_tbl := rt_g1 (List.mem_of_getElem? (i := 72) rfl) rfl
set_option maxRecDepth 20000 in
theorem rt_w165 : Cond.fieldLink "RangeTeller$Checker" 30 "RangeTeller$Program" "size" "I" ∈ rt_tbl := rt_g1 (List.mem_of_getElem? (i := 73) rfl) rfl
set_option maxRecDepth 20000 in
theorem rt_w166 : Cond.fieldLink "RangeTeller$Foreteller" 60 "RangeTeller$Program" "size" "I" ∈ rt_tbl := rt_g1 (List.mem_of_getElem? (i := 74) rfl) rfl
set_option maxRecDepth 20000 in
theorem rt_w167 : Cond.fieldLink "RangeTeller" 71 "RangeTeller$Program" "size" "I" ∈ rt_tbl := rt_g1 (List.mem_of_getElem? (i := 75) rfl) rfl
set_option maxRecDepth 20000 in
theorem rt_w168 : Cond.fieldLink "RangeTeller$Program" 52 "RangeTeller$Program" "functions" "I" ∈ rt_tbl := rt_g1 (List.mem_of_getElem? (i := 76) rfl) rfl
set_option maxRecDepth 20000 in
theorem rt_w169 : Cond.fieldLink "RangeTeller$Checker" 108 "RangeTeller$Program" "functions" "I" ∈ rt_tbl := rt_g1 (List.mem_of_getElem? (i := 77) rfl) rfl
set_option maxRecDepth 20000 in
theorem rt_w170 : Cond.fieldLink "RangeTeller" 145 "RangeTeller$Program" "functions" "I" ∈ rt_tbl := rt_g1 (List.mem_of_getElem? (i := 78) rfl) rfl
set_option maxRecDepth 20000 in
theorem rt_w171 : Cond.laysFinal "RangeTeller$Program" "RangeTeller$Program" "ops" "[I" ∈ rt_tbl := rt_g1 (List.mem_of_getElem? (i := 79) rfl) rfl
set_option maxRecDepth 20000 in
theorem rt_w173 : Cond.laysFinal "RangeTeller$Program" "RangeTeller$Program" "arguments" "[I" ∈ rt_tbl := rt_g1 (List.mem_of_getElem? (i := 81) rfl) rfl
set_option maxRecDepth 20000 in
theorem rt_w175 : Cond.laysFinal "RangeTeller$Program" "RangeTeller$Program" "owners" "[I" ∈ rt_tbl := rt_g1 (List.mem_of_getElem? (i := 83) rfl) rfl
set_option maxRecDepth 20000 in
theorem rt_w177 : Cond.laysFinal "RangeTeller$Program" "RangeTeller$Program" "ends" "[I" ∈ rt_tbl := rt_g1 (List.mem_of_getElem? (i := 85) rfl) rfl
set_option maxRecDepth 20000 in
theorem rt_w179 : Cond.laysFinal "RangeTeller$Program" "RangeTeller$Program" "elses" "[I" ∈ rt_tbl := rt_g1 (List.mem_of_getElem? (i := 87) rfl) rfl
set_option maxRecDepth 20000 in
theorem rt_w181 : Cond.laysFinal "RangeTeller$Program" "RangeTeller$Program" "goals" "[I" ∈ rt_tbl := rt_g1 (List.mem_of_getElem? (i := 89) rfl) rfl
set_option maxRecDepth 20000 in
theorem rt_w183 : Cond.laysFinal "RangeTeller$Program" "RangeTeller$Program" "bases" "[I" ∈ rt_tbl := rt_g1 (List.mem_of_getElem? (i := 91) rfl) rfl
set_option maxRecDepth 20000 in
theorem rt_w185 : Cond.laysFinal "RangeTeller$Program" "RangeTeller$Program" "kept" "[I" ∈ rt_tbl := rt_g1 (List.mem_of_getElem? (i := 93) rfl) rfl
set_option maxRecDepth 20000 in
theorem rt_w187 : Cond.laysFinal "RangeTeller$Program" "RangeTeller$Program" "firsts" "[I" ∈ rt_tbl := rt_g1 (List.mem_of_getElem? (i := 95) rfl) rfl
set_option maxRecDepth 20000 in
theorem rt_w189 : Cond.laysFinal "RangeTeller$Program" "RangeTeller$Program" "parameters" "[I" ∈ rt_tbl := rt_g1 (List.mem_of_getElem? (i := 97) rfl) rfl
set_option maxRecDepth 20000 in
theorem rt_w191 : Cond.laysFinal "RangeTeller$Program" "RangeTeller$Program" "moreLocals" "[I" ∈ rt_tbl := rt_g1 (List.mem_of_getElem? (i := 99) rfl) rfl
set_option maxRecDepth 20000 in
theorem rt_w193 : Cond.laysFinal "RangeTeller$Program" "RangeTeller$Program" "results" "[I" ∈ rt_tbl := rt_g1 (List.mem_of_getElem? (i := 101) rfl) rfl
set_option maxRecDepth 20000 in
theorem rt_w195 : Cond.lays "RangeTeller$Program" "RangeTeller$Program" "size" "I" ∈ rt_tbl := rt_g1 (List.mem_of_getElem? (i := 103) rfl) rfl
set_option maxRecDepth 20000 in
theorem rt_w197 : Cond.lays "RangeTeller$Program" "RangeTeller$Program" "functions" "I" ∈ rt_tbl := rt_g1 (List.mem_of_getElem? (i := 105) rfl) rfl
set_option maxRecDepth 20000 in
theorem rt_w200 : Cond.arrayClass Jvm.ClassFile.FieldType.int ∈ rt_tbl := rt_g1 (List.mem_of_getElem? (i := 108) rfl) rfl
set_option maxRecDepth 20000 in
theorem rt_w201 : Cond.classLink "RangeTeller" 16 "RangeTeller$Reader" ∈ rt_tbl := rt_g1 (List.mem_of_getElem? (i := 109) rfl) rfl
set_option maxRecDepth 20000 in
theorem rt_w202 : Cond.instantiable "RangeTeller$Reader" 7 ∈ rt_tbl := rt_g1 (List.mem_of_getElem? (i := 110) rfl) rfl
set_option maxRecDepth 20000 in
theorem rt_w203 : Cond.methodLink "RangeTeller" 18 ⟨"RangeTeller$Reader", "<init>", "(LRangeTeller$Program;)V"⟩ ∈ rt_tbl := rt_g1 (List.mem_of_getElem? (i := 111) rfl) rfl
set_option maxRecDepth 20000 in
theorem rt_w204 : Cond.instanceMethod ⟨"RangeTeller$Reader", "<init>", "(LRangeTeller$Program;)V"⟩ ∈ rt_tbl := rt_g1 (List.mem_of_getElem? (i := 112) rfl) rfl
set_option maxRecDepth 20000 in
theorem rt_w205 : Cond.code ⟨"RangeTeller$Reader", "<init>", "(LRangeTeller$Program;)V"⟩ prog_7_method_1_code 2 (Option.none : Option Jvm.ClassFile.FieldType) ∈ rt_tbl := rt_g1 (List.mem_of_getElem? (i := 113) rfl) rfl
set_option maxRecDepth 20000 in
theorem rt_w206 : Cond.methodLink "RangeTeller$Reader" 3 ⟨"java/lang/Object", "<init>", "()V"⟩ ∈ rt_tbl := rt_g1 (List.mem_of_getElem? (i := 114) rfl) rfl
set_option maxRecDepth 20000 in
theorem rt_w207 : Cond.fieldLink "RangeTeller$Reader" 18 "RangeTeller$Reader" "program" "LRangeTeller$Program;" ∈ rt_tbl := rt_g1 (List.mem_of_getElem? (i := 115) rfl) rfl
set_option maxRecDepth 20000 in
theorem rt_w208 : Cond.fieldLink "RangeTeller$Reader" 9 "RangeTeller$Reader" "bytes" "[I" ∈ rt_tbl := rt_g1 (List.mem_of_getElem? (i := 116) rfl) rfl
set_option maxRecDepth 20000 in
theorem rt_w209 : Cond.fieldLink "RangeTeller$Reader" 15 "RangeTeller$Reader" "opened" "[I" ∈ rt_tbl := rt_g1 (List.mem_of_getElem? (i := 117) rfl) rfl
set_option maxRecDepth 20000 in
theorem rt_w210 : Cond.fieldLink "RangeTeller$Reader" 22 "RangeTeller$Reader" "length" "I" ∈ rt_tbl := rt_g1 (List.mem_of_getElem? (i := 118) rfl) rfl
set_option maxRecDepth 20000 in
theorem rt_w211 : Cond.fieldLink "RangeTeller$Reader" 31 "RangeTeller$Reader" "at" "I" ∈ rt_tbl := rt_g1 (List.mem_of_getElem? (i := 119) rfl) rfl
set_option maxRecDepth 20000 in
theorem rt_w212 : Cond.fieldLink "RangeTeller$Reader" 48 "RangeTeller$Reader" "depth" "I" ∈ rt_tbl := rt_g1 (List.mem_of_getElem? (i := 120) rfl) rfl
set_option maxRecDepth 20000 in
theorem rt_w213 : Cond.fieldLink "RangeTeller$Reader" 34 "RangeTeller$Reader" "fault" "I" ∈ rt_tbl := rt_g1 (List.mem_of_getElem? (i := 121) rfl) rfl
set_option maxRecDepth 20000 in
theorem rt_w214 : Cond.laysFinal "RangeTeller$Reader" "RangeTeller$Reader" "program" "LRangeTeller$Program;" ∈ rt_tbl := rt_g1 (List.mem_of_getElem? (i := 122) rfl) rfl
set_option maxRecDepth 20000 in
theorem rt_w216 : Cond.laysFinal "RangeTeller$Reader" "RangeTeller$Reader" "bytes" "[I" ∈ rt_tbl := rt_g1 (List.mem_of_getElem? (i := 124) rfl) rfl
set_option maxRecDepth 20000 in
theorem rt_w218 : Cond.laysFinal "RangeTeller$Reader" "RangeTeller$Reader" "opened" "[I" ∈ rt_tbl := rt_g1 (List.mem_of_getElem? (i := 126) rfl) rfl
set_option maxRecDepth 20000 in
theorem rt_w220 : Cond.lays "RangeTeller$Reader" "RangeTeller$Reader" "length" "I" ∈ rt_tbl := rt_g1 (List.mem_of_getElem? (i := 128) rfl) rfl
set_option maxRecDepth 20000 in
theorem rt_w222 : Cond.lays "RangeTeller$Reader" "RangeTeller$Reader" "at" "I" ∈ rt_tbl := rt_g1 (List.mem_of_getElem? (i := 130) rfl) rfl
set_option maxRecDepth 20000 in
theorem rt_w224 : Cond.lays "RangeTeller$Reader" "RangeTeller$Reader" "depth" "I" ∈ rt_tbl := rt_g1 (List.mem_of_getElem? (i := 132) rfl) rfl
set_option maxRecDepth 20000 in
theorem rt_w226 : Cond.lays "RangeTeller$Reader" "RangeTeller$Reader" "fault" "I" ∈ rt_tbl := rt_g1 (List.mem_of_getElem? (i := 134) rfl) rfl
set_option maxRecDepth 20000 in
theorem rt_w229 : Cond.classLink "RangeTeller" 25 "RangeTeller$Checker" ∈ rt_tbl := rt_g1 (List.mem_of_getElem? (i := 137) rfl) rfl
set_option maxRecDepth 20000 in
theorem rt_w230 : Cond.instantiable "RangeTeller$Checker" 7 ∈ rt_tbl := rt_g1 (List.mem_of_getElem? (i := 138) rfl) rfl
set_option maxRecDepth 20000 in
theorem rt_w231 : Cond.methodLink "RangeTeller" 27 ⟨"RangeTeller$Checker", "<init>", "(LRangeTeller$Program;)V"⟩ ∈ rt_tbl := rt_g1 (List.mem_of_getElem? (i := 139) rfl) rfl
set_option maxRecDepth 20000 in
theorem rt_w232 : Cond.instanceMethod ⟨"RangeTeller$Checker", "<init>", "(LRangeTeller$Program;)V"⟩ ∈ rt_tbl := rt_g1 (List.mem_of_getElem? (i := 140) rfl) rfl
set_option maxRecDepth 20000 in
theorem rt_w233 : Cond.code ⟨"RangeTeller$Checker", "<init>", "(LRangeTeller$Program;)V"⟩ prog_2_method_1_code 2 (Option.none : Option Jvm.ClassFile.FieldType) ∈ rt_tbl := rt_g1 (List.mem_of_getElem? (i := 141) rfl) rfl
set_option maxRecDepth 20000 in
theorem rt_w234 : Cond.methodLink "RangeTeller$Checker" 3 ⟨"java/lang/Object", "<init>", "()V"⟩ ∈ rt_tbl := rt_g1 (List.mem_of_getElem? (i := 142) rfl) rfl
set_option maxRecDepth 20000 in
theorem rt_w235 : Cond.fieldLink "RangeTeller$Checker" 22 "RangeTeller$Checker" "program" "LRangeTeller$Program;" ∈ rt_tbl := rt_g1 (List.mem_of_getElem? (i := 143) rfl) rfl
set_option maxRecDepth 20000 in
theorem rt_w236 : Cond.fieldLink "RangeTeller$Checker" 9 "RangeTeller$Checker" "openers" "[I" ∈ rt_tbl := rt_g1 (List.mem_of_getElem? (i := 144) rfl) rfl
set_option maxRecDepth 20000 in
theorem rt_w237 : Cond.fieldLink "RangeTeller$Checker" 15 "RangeTeller$Checker" "bases" "[I" ∈ rt_tbl := rt_g1 (List.mem_of_getElem? (i := 145) rfl) rfl
set_option maxRecDepth 20000 in
theorem rt_w238 : Cond.fieldLink "RangeTeller$Checker" 18 "RangeTeller$Checker" "live" "[Z" ∈ rt_tbl := rt_g1 (List.mem_of_getElem? (i := 146) rfl) rfl
set_option maxRecDepth 20000 in
theorem rt_w239 : Cond.fieldLink "RangeTeller$Checker" 42 "RangeTeller$Checker" "latest" "I" ∈ rt_tbl := rt_g1 (List.mem_of_getElem? (i := 147) rfl) rfl
set_option maxRecDepth 20000 in
theorem rt_w240 : Cond.fieldLink "RangeTeller$Checker" 45 "RangeTeller$Checker" "height" "I" ∈ rt_tbl := rt_g1 (List.mem_of_getElem? (i := 148) rfl) rfl
set_option maxRecDepth 20000 in
theorem rt_w241 : Cond.fieldLink "RangeTeller$Checker" 26 "RangeTeller$Checker" "wrong" "Z" ∈ rt_tbl := rt_g1 (List.mem_of_getElem? (i := 149) rfl) rfl
set_option maxRecDepth 20000 in
theorem rt_w242 : Cond.laysFinal "RangeTeller$Checker" "RangeTeller$Checker" "program" "LRangeTeller$Program;" ∈ rt_tbl := rt_g1 (List.mem_of_getElem? (i := 150) rfl) rfl
set_option maxRecDepth 20000 in
theorem rt_w244 : Cond.laysFinal "RangeTeller$Checker" "RangeTeller$Checker" "openers" "[I" ∈ rt_tbl := rt_g1 (List.mem_of_getElem? (i := 152) rfl) rfl
set_option maxRecDepth 20000 in
theorem rt_w246 : Cond.laysFinal "RangeTeller$Checker" "RangeTeller$Checker" "bases" "[I" ∈ rt_tbl := rt_g1 (List.mem_of_getElem? (i := 154) rfl) rfl
set_option maxRecDepth 20000 in
theorem rt_w248 : Cond.laysFinal "RangeTeller$Checker" "RangeTeller$Checker" "live" "[Z" ∈ rt_tbl := rt_g1 (List.mem_of_getElem? (i := 156) rfl) rfl
set_option maxRecDepth 20000 in
theorem rt_w250 : Cond.lays "RangeTeller$Checker" "RangeTeller$Checker" "latest" "I" ∈ rt_tbl := rt_g1 (List.mem_of_getElem? (i := 158) rfl) rfl
set_option maxRecDepth 20000 in
theorem rt_w252 : Cond.lays "RangeTeller$Checker" "RangeTeller$Checker" "height" "I" ∈ rt_tbl := rt_g1 (List.mem_of_getElem? (i := 160) rfl) rfl
set_option maxRecDepth 20000 in
theorem rt_w254 : Cond.lays "RangeTeller$Checker" "RangeTeller$Checker" "wrong" "Z" ∈ rt_tbl := rt_g1 (List.mem_of_getElem? (i := 162) rfl) rfl
set_option maxRecDepth 20000 in
theorem rt_w257 : Cond.arrayClass Jvm.ClassFile.FieldType.boolean ∈ rt_tbl := rt_g1 (List.mem_of_getElem? (i := 165) rfl) rfl
set_option maxRecDepth 20000 in
theorem rt_w258 : Cond.classLink "RangeTeller" 32 "RangeTeller$Runner" ∈ rt_tbl := rt_g1 (List.mem_of_getElem? (i := 166) rfl) rfl
set_option maxRecDepth 20000 in
theorem rt_w259 : Cond.instantiable "RangeTeller$Runner" 18 ∈ rt_tbl := rt_g1 (List.mem_of_getElem? (i := 167) rfl) rfl
set_option maxRecDepth 20000 in
theorem rt_w260 : Cond.methodLink "RangeTeller" 34 ⟨"RangeTeller$Runner", "<init>", "(LRangeTeller$Program;)V"⟩ ∈ rt_tbl := rt_g1 (List.mem_of_getElem? (i := 168) rfl) rfl
set_option maxRecDepth 20000 in
theorem rt_w261 : Cond.instanceMethod ⟨"RangeTeller$Runner", "<init>", "(LRangeTeller$Program;)V"⟩ ∈ rt_tbl := rt_g1 (List.mem_of_getElem? (i := 169) rfl) rfl
set_option maxRecDepth 20000 in
theorem rt_w262 : Cond.code ⟨"RangeTeller$Runner", "<init>", "(LRangeTeller$Program;)V"⟩ prog_8_method_1_code 2 (Option.none : Option Jvm.ClassFile.FieldType) ∈ rt_tbl := rt_g1 (List.mem_of_getElem? (i := 170) rfl) rfl
set_option maxRecDepth 20000 in
theorem rt_w263 : Cond.methodLink "RangeTeller$Runner" 3 ⟨"java/lang/Object", "<init>", "()V"⟩ ∈ rt_tbl := rt_g1 (List.mem_of_getElem? (i := 171) rfl) rfl
set_option maxRecDepth 20000 in
theorem rt_w264 : Cond.fieldLink "RangeTeller$Runner" 33 "RangeTeller$Runner" "program" "LRangeTeller$Program;" ∈ rt_tbl := rt_g1 (List.mem_of_getElem? (i := 172) rfl) rfl
set_option maxRecDepth 20000 in
theorem rt_w265 : Cond.fieldLink "RangeTeller$Runner" 9 "RangeTeller$Runner" "inputs" "[I" ∈ rt_tbl := rt_g1 (List.mem_of_getElem? (i := 173) rfl) rfl
set_option maxRecDepth 20000 in
theorem rt_w266 : Cond.fieldLink "RangeTeller$Runner" 41 "RangeTeller$Runner" "inputCount" "I" ∈ rt_tbl := rt_g1 (List.mem_of_getElem? (i := 174) rfl) rfl
set_option maxRecDepth 20000 in
theorem rt_w267 : Cond.fieldLink "RangeTeller$Runner" 80 "RangeTeller$Runner" "nextInput" "I" ∈ rt_tbl := rt_g1 (List.mem_of_getElem? (i := 175) rfl) rfl
set_option maxRecDepth 20000 in
theorem rt_w268 : Cond.fieldLink "RangeTeller$Runner" 15 "RangeTeller$Runner" "cells" "[I" ∈ rt_tbl := rt_g1 (List.mem_of_getElem? (i := 176) rfl) rfl
set_option maxRecDepth 20000 in
theorem rt_w269 : Cond.fieldLink "RangeTeller" 113 "RangeTeller$Runner" "cells" "[I" ∈ rt_tbl := rt_g1 (List.mem_of_getElem? (i := 177) rfl) rfl
set_option maxRecDepth 20000 in
theorem rt_w270 : Cond.fieldLink "RangeTeller$Runner" 18 "RangeTeller$Runner" "outputs" "[I" ∈ rt_tbl := rt_g1 (List.mem_of_getElem? (i := 178) rfl) rfl
set_option maxRecDepth 20000 in
theorem rt_w271 : Cond.fieldLink "RangeTeller" 109 "RangeTeller$Runner" "outputs" "[I" ∈ rt_tbl := rt_g1 (List.mem_of_getElem? (i := 179) rfl) rfl
set_option maxRecDepth 20000 in
theorem rt_w272 : Cond.fieldLink "RangeTeller$Runner" 77 "RangeTeller$Runner" "outputCount" "I" ∈ rt_tbl := rt_g1 (List.mem_of_getElem? (i := 180) rfl) rfl
set_option maxRecDepth 20000 in
theorem rt_w273 : Cond.fieldLink "RangeTeller" 106 "RangeTeller$Runner" "outputCount" "I" ∈ rt_tbl := rt_g1 (List.mem_of_getElem? (i := 181) rfl) rfl
set_option maxRecDepth 20000 in
theorem rt_w274 : Cond.fieldLink "RangeTeller$Runner" 37 "RangeTeller$Runner" "ran" "Z" ∈ rt_tbl := rt_g1 (List.mem_of_getElem? (i := 182) rfl) rfl
set_option maxRecDepth 20000 in
theorem rt_w275 : Cond.fieldLink "RangeTeller" 91 "RangeTeller$Runner" "ran" "Z" ∈ rt_tbl := rt_g1 (List.mem_of_getElem? (i := 183) rfl) rfl
set_option maxRecDepth 20000 in
theorem rt_w276 : Cond.fieldLink "RangeTeller$Runner" 55 "RangeTeller$Runner" "state" "I" ∈ rt_tbl := rt_g1 (List.mem_of_getElem? (i := 184) rfl) rfl
set_option maxRecDepth 20000 in
theorem rt_w277 : Cond.fieldLink "RangeTeller" 97 "RangeTeller$Runner" "state" "I" ∈ rt_tbl := rt_g1 (List.mem_of_getElem? (i := 185) rfl) rfl
set_option maxRecDepth 20000 in
theorem rt_w278 : Cond.fieldLink "RangeTeller$Runner" 61 "RangeTeller$Runner" "at" "I" ∈ rt_tbl := rt_g1 (List.mem_of_getElem? (i := 186) rfl) rfl
set_option maxRecDepth 20000 in
theorem rt_w279 : Cond.fieldLink "RangeTeller" 100 "RangeTeller$Runner" "at" "I" ∈ rt_tbl := rt_g1 (List.mem_of_getElem? (i := 187) rfl) rfl
set_option maxRecDepth 20000 in
theorem rt_w280 : Cond.fieldLink "RangeTeller$Runner" 58 "RangeTeller$Runner" "steps" "I" ∈ rt_tbl := rt_g1 (List.mem_of_getElem? (i := 188) rfl) rfl
set_option maxRecDepth 20000 in
theorem rt_w281 : Cond.fieldLink "RangeTeller" 103 "RangeTeller$Runner" "steps" "I" ∈ rt_tbl := rt_g1 (List.mem_of_getElem? (i := 189) rfl) rfl
set_option maxRecDepth 20000 in
theorem rt_w282 : Cond.fieldLink "RangeTeller$Runner" 74 "RangeTeller$Runner" "result" "I" ∈ rt_tbl := rt_g1 (List.mem_of_getElem? (i := 190) rfl) rfl
set_option maxRecDepth 20000 in
theorem rt_w283 : Cond.fieldLink "RangeTeller" 94 "RangeTeller$Runner" "result" "I" ∈ rt_tbl := rt_g1 (List.mem_of_getElem? (i := 191) rfl) rfl
set_option maxRecDepth 20000 in
theorem rt_w284 : Cond.fieldLink "RangeTeller$Runner" 21 "RangeTeller$Runner" "stack" "[I" ∈ rt_tbl := rt_g1 (List.mem_of_getElem? (i := 192) rfl) rfl
set_option maxRecDepth 20000 in
theorem rt_w285 : Cond.fieldLink "RangeTeller$Runner" 24 "RangeTeller$Runner" "variables" "[I" ∈ rt_tbl := rt_g1 (List.mem_of_getElem? (i := 193) rfl) rfl
set_option maxRecDepth 20000 in
theorem rt_w286 : Cond.fieldLink "RangeTeller$Runner" 27 "RangeTeller$Runner" "bottoms" "[I" ∈ rt_tbl := rt_g1 (List.mem_of_getElem? (i := 194) rfl) rfl
set_option maxRecDepth 20000 in
theorem rt_w287 : Cond.fieldLink "RangeTeller$Runner" 30 "RangeTeller$Runner" "callers" "[I" ∈ rt_tbl := rt_g1 (List.mem_of_getElem? (i := 195) rfl) rfl
set_option maxRecDepth 20000 in
theorem rt_w288 : Cond.fieldLink "RangeTeller$Runner" 91 "RangeTeller$Runner" "calls" "I" ∈ rt_tbl := rt_g1 (List.mem_of_getElem? (i := 196) rfl) rfl
set_option maxRecDepth 20000 in
theorem rt_w289 : Cond.fieldLink "RangeTeller$Runner" 88 "RangeTeller$Runner" "height" "I" ∈ rt_tbl := rt_g1 (List.mem_of_getElem? (i := 197) rfl) rfl
set_option maxRecDepth 20000 in
theorem rt_w290 : Cond.laysFinal "RangeTeller$Runner" "RangeTeller$Runner" "program" "LRangeTeller$Program;" ∈ rt_tbl := rt_g1 (List.mem_of_getElem? (i := 198) rfl) rfl
set_option maxRecDepth 20000 in
theorem rt_w292 : Cond.laysFinal "RangeTeller$Runner" "RangeTeller$Runner" "inputs" "[I" ∈ rt_tbl := rt_g1 (List.mem_of_getElem? (i := 200) rfl) rfl
set_option maxRecDepth 20000 in
theorem rt_w294 : Cond.lays "RangeTeller$Runner" "RangeTeller$Runner" "inputCount" "I" ∈ rt_tbl := rt_g1 (List.mem_of_getElem? (i := 202) rfl) rfl
set_option maxRecDepth 20000 in
theorem rt_w296 : Cond.lays "RangeTeller$Runner" "RangeTeller$Runner" "nextInput" "I" ∈ rt_tbl := rt_g1 (List.mem_of_getElem? (i := 204) rfl) rfl
set_option maxRecDepth 20000 in
theorem rt_w298 : Cond.laysFinal "RangeTeller$Runner" "RangeTeller$Runner" "cells" "[I" ∈ rt_tbl := rt_g1 (List.mem_of_getElem? (i := 206) rfl) rfl
set_option maxRecDepth 20000 in
theorem rt_w300 : Cond.laysFinal "RangeTeller$Runner" "RangeTeller$Runner" "outputs" "[I" ∈ rt_tbl := rt_g1 (List.mem_of_getElem? (i := 208) rfl) rfl
set_option maxRecDepth 20000 in
theorem rt_w302 : Cond.lays "RangeTeller$Runner" "RangeTeller$Runner" "outputCount" "I" ∈ rt_tbl := rt_g1 (List.mem_of_getElem? (i := 210) rfl) rfl
set_option maxRecDepth 20000 in
theorem rt_w304 : Cond.lays "RangeTeller$Runner" "RangeTeller$Runner" "ran" "Z" ∈ rt_tbl := rt_g1 (List.mem_of_getElem? (i := 212) rfl) rfl
set_option maxRecDepth 20000 in
theorem rt_w306 : Cond.lays "RangeTeller$Runner" "RangeTeller$Runner" "state" "I" ∈ rt_tbl := rt_g1 (List.mem_of_getElem? (i := 214) rfl) rfl
set_option maxRecDepth 20000 in
theorem rt_w308 : Cond.lays "RangeTeller$Runner" "RangeTeller$Runner" "at" "I" ∈ rt_tbl := rt_g1 (List.mem_of_getElem? (i := 216) rfl) rfl
set_option maxRecDepth 20000 in
theorem rt_w310 : Cond.lays "RangeTeller$Runner" "RangeTeller$Runner" "steps" "I" ∈ rt_tbl := rt_g1 (List.mem_of_getElem? (i := 218) rfl) rfl
set_option maxRecDepth 20000 in
theorem rt_w312 : Cond.lays "RangeTeller$Runner" "RangeTeller$Runner" "result" "I" ∈ rt_tbl := rt_g1 (List.mem_of_getElem? (i := 220) rfl) rfl
set_option maxRecDepth 20000 in
theorem rt_w314 : Cond.laysFinal "RangeTeller$Runner" "RangeTeller$Runner" "stack" "[I" ∈ rt_tbl := rt_g1 (List.mem_of_getElem? (i := 222) rfl) rfl
set_option maxRecDepth 20000 in
theorem rt_w316 : Cond.laysFinal "RangeTeller$Runner" "RangeTeller$Runner" "variables" "[I" ∈ rt_tbl := rt_g1 (List.mem_of_getElem? (i := 224) rfl) rfl
set_option maxRecDepth 20000 in
theorem rt_w318 : Cond.laysFinal "RangeTeller$Runner" "RangeTeller$Runner" "bottoms" "[I" ∈ rt_tbl := rt_g1 (List.mem_of_getElem? (i := 226) rfl) rfl
set_option maxRecDepth 20000 in
theorem rt_w320 : Cond.laysFinal "RangeTeller$Runner" "RangeTeller$Runner" "callers" "[I" ∈ rt_tbl := rt_g1 (List.mem_of_getElem? (i := 228) rfl) rfl
set_option maxRecDepth 20000 in
theorem rt_w322 : Cond.lays "RangeTeller$Runner" "RangeTeller$Runner" "calls" "I" ∈ rt_tbl := rt_g1 (List.mem_of_getElem? (i := 230) rfl) rfl
set_option maxRecDepth 20000 in
theorem rt_w324 : Cond.lays "RangeTeller$Runner" "RangeTeller$Runner" "height" "I" ∈ rt_tbl := rt_g1 (List.mem_of_getElem? (i := 232) rfl) rfl
set_option maxRecDepth 20000 in
theorem rt_w327 : Cond.classLink "RangeTeller" 39 "RangeTeller$Foreteller" ∈ rt_tbl := rt_g1 (List.mem_of_getElem? (i := 235) rfl) rfl
set_option maxRecDepth 20000 in
theorem rt_w328 : Cond.instantiable "RangeTeller$Foreteller" 13 ∈ rt_tbl := rt_g1 (List.mem_of_getElem? (i := 236) rfl) rfl
set_option maxRecDepth 20000 in
theorem rt_w329 : Cond.methodLink "RangeTeller" 41 ⟨"RangeTeller$Foreteller", "<init>", "(LRangeTeller$Program;)V"⟩ ∈ rt_tbl := rt_g1 (List.mem_of_getElem? (i := 237) rfl) rfl
set_option maxRecDepth 20000 in
theorem rt_w330 : Cond.instanceMethod ⟨"RangeTeller$Foreteller", "<init>", "(LRangeTeller$Program;)V"⟩ ∈ rt_tbl := rt_g1 (List.mem_of_getElem? (i := 238) rfl) rfl
set_option maxRecDepth 20000 in
theorem rt_w331 : Cond.code ⟨"RangeTeller$Foreteller", "<init>", "(LRangeTeller$Program;)V"⟩ prog_3_method_1_code 2 (Option.none : Option Jvm.ClassFile.FieldType) ∈ rt_tbl := rt_g1 (List.mem_of_getElem? (i := 239) rfl) rfl
set_option maxRecDepth 20000 in
theorem rt_w332 : Cond.methodLink "RangeTeller$Foreteller" 3 ⟨"java/lang/Object", "<init>", "()V"⟩ ∈ rt_tbl := rt_g2 (List.mem_of_getElem? (i := 0) rfl) rfl
set_option maxRecDepth 20000 in
theorem rt_w333 : Cond.fieldLink "RangeTeller$Foreteller" 46 "RangeTeller$Foreteller" "program" "LRangeTeller$Program;" ∈ rt_tbl := rt_g2 (List.mem_of_getElem? (i := 1) rfl) rfl
set_option maxRecDepth 20000 in
theorem rt_w334 : Cond.fieldLink "RangeTeller$Foreteller" 9 "RangeTeller$Foreteller" "reached" "[Z" ∈ rt_tbl := rt_g2 (List.mem_of_getElem? (i := 2) rfl) rfl
set_option maxRecDepth 20000 in
theorem rt_w335 : Cond.fieldLink "RangeTeller" 125 "RangeTeller$Foreteller" "reached" "[Z" ∈ rt_tbl := rt_g2 (List.mem_of_getElem? (i := 3) rfl) rfl
set_option maxRecDepth 20000 in
theorem rt_w336 : Cond.fieldLink "RangeTeller$Foreteller" 15 "RangeTeller$Foreteller" "heights" "[I" ∈ rt_tbl := rt_g2 (List.mem_of_getElem? (i := 4) rfl) rfl
set_option maxRecDepth 20000 in
theorem rt_w337 : Cond.fieldLink "RangeTeller" 135 "RangeTeller$Foreteller" "heights" "[I" ∈ rt_tbl := rt_g2 (List.mem_of_getElem? (i := 5) rfl) rfl
set_option maxRecDepth 20000 in
theorem rt_w338 : Cond.fieldLink "RangeTeller$Foreteller" 19 "RangeTeller$Foreteller" "cells" "[I" ∈ rt_tbl := rt_g2 (List.mem_of_getElem? (i := 6) rfl) rfl
set_option maxRecDepth 20000 in
theorem rt_w339 : Cond.fieldLink "RangeTeller" 144 "RangeTeller$Foreteller" "cells" "[I" ∈ rt_tbl := rt_g2 (List.mem_of_getElem? (i := 7) rfl) rfl
set_option maxRecDepth 20000 in
theorem rt_w340 : Cond.fieldLink "RangeTeller$Foreteller" 22 "RangeTeller$Foreteller" "results" "[I" ∈ rt_tbl := rt_g2 (List.mem_of_getElem? (i := 8) rfl) rfl
set_option maxRecDepth 20000 in
theorem rt_w341 : Cond.fieldLink "RangeTeller" 160 "RangeTeller$Foreteller" "results" "[I" ∈ rt_tbl := rt_g2 (List.mem_of_getElem? (i := 9) rfl) rfl
set_option maxRecDepth 20000 in
theorem rt_w342 : Cond.fieldLink "RangeTeller$Foreteller" 25 "RangeTeller$Foreteller" "canEnd" "[Z" ∈ rt_tbl := rt_g2 (List.mem_of_getElem? (i := 10) rfl) rfl
set_option maxRecDepth 20000 in
theorem rt_w343 : Cond.fieldLink "RangeTeller" 161 "RangeTeller$Foreteller" "canEnd" "[Z" ∈ rt_tbl := rt_g2 (List.mem_of_getElem? (i := 11) rfl) rfl
set_option maxRecDepth 20000 in
theorem rt_w344 : Cond.fieldLink "RangeTeller$Foreteller" 28 "RangeTeller$Foreteller" "waiting" "[Z" ∈ rt_tbl := rt_g2 (List.mem_of_getElem? (i := 12) rfl) rfl
set_option maxRecDepth 20000 in
theorem rt_w345 : Cond.fieldLink "RangeTeller$Foreteller" 31 "RangeTeller$Foreteller" "operands" "[I" ∈ rt_tbl := rt_g2 (List.mem_of_getElem? (i := 13) rfl) rfl
set_option maxRecDepth 20000 in
theorem rt_w346 : Cond.fieldLink "RangeTeller$Foreteller" 34 "RangeTeller$Foreteller" "locals" "[I" ∈ rt_tbl := rt_g2 (List.mem_of_getElem? (i := 14) rfl) rfl
set_option maxRecDepth 20000 in
theorem rt_w347 : Cond.fieldLink "RangeTeller$Foreteller" 37 "RangeTeller$Foreteller" "parameters" "[I" ∈ rt_tbl := rt_g2 (List.mem_of_getElem? (i := 15) rfl) rfl
set_option maxRecDepth 20000 in
theorem rt_w348 : Cond.fieldLink "RangeTeller$Foreteller" 40 "RangeTeller$Foreteller" "stack" "[I" ∈ rt_tbl := rt_g2 (List.mem_of_getElem? (i := 16) rfl) rfl
set_option maxRecDepth 20000 in
theorem rt_w349 : Cond.fieldLink "RangeTeller$Foreteller" 43 "RangeTeller$Foreteller" "variables" "[I" ∈ rt_tbl := rt_g2 (List.mem_of_getElem? (i := 17) rfl) rfl
set_option maxRecDepth 20000 in
theorem rt_w350 : Cond.fieldLink "RangeTeller$Foreteller" 109 "RangeTeller$Foreteller" "height" "I" ∈ rt_tbl := rt_g2 (List.mem_of_getElem? (i := 18) rfl) rfl
set_option maxRecDepth 20000 in
theorem rt_w351 : Cond.laysFinal "RangeTeller$Foreteller" "RangeTeller$Foreteller" "program" "LRangeTeller$Program;" ∈ rt_tbl := rt_g2 (List.mem_of_getElem? (i := 19) rfl) rfl
set_option maxRecDepth 20000 in
theorem rt_w353 : Cond.laysFinal "RangeTeller$Foreteller" "RangeTeller$Foreteller" "reached" "[Z" ∈ rt_tbl := rt_g2 (List.mem_of_getElem? (i := 21) rfl) rfl
set_option maxRecDepth 20000 in
theorem rt_w355 : Cond.laysFinal "RangeTeller$Foreteller" "RangeTeller$Foreteller" "heights" "[I" ∈ rt_tbl := rt_g2 (List.mem_of_getElem? (i := 23) rfl) rfl
set_option maxRecDepth 20000 in
theorem rt_w357 : Cond.laysFinal "RangeTeller$Foreteller" "RangeTeller$Foreteller" "cells" "[I" ∈ rt_tbl := rt_g2 (List.mem_of_getElem? (i := 25) rfl) rfl
set_option maxRecDepth 20000 in
theorem rt_w359 : Cond.laysFinal "RangeTeller$Foreteller" "RangeTeller$Foreteller" "results" "[I" ∈ rt_tbl := rt_g2 (List.mem_of_getElem? (i := 27) rfl) rfl
set_option maxRecDepth 20000 in
theorem rt_w361 : Cond.laysFinal "RangeTeller$Foreteller" "RangeTeller$Foreteller" "canEnd" "[Z" ∈ rt_tbl := rt_g2 (List.mem_of_getElem? (i := 29) rfl) rfl
set_option maxRecDepth 20000 in
theorem rt_w363 : Cond.laysFinal "RangeTeller$Foreteller" "RangeTeller$Foreteller" "waiting" "[Z" ∈ rt_tbl := rt_g2 (List.mem_of_getElem? (i := 31) rfl) rfl
set_option maxRecDepth 20000 in
theorem rt_w365 : Cond.laysFinal "RangeTeller$Foreteller" "RangeTeller$Foreteller" "operands" "[I" ∈ rt_tbl := rt_g2 (List.mem_of_getElem? (i := 33) rfl) rfl
set_option maxRecDepth 20000 in
theorem rt_w367 : Cond.laysFinal "RangeTeller$Foreteller" "RangeTeller$Foreteller" "locals" "[I" ∈ rt_tbl := rt_g2 (List.mem_of_getElem? (i := 35) rfl) rfl
set_option maxRecDepth 20000 in
theorem rt_w369 : Cond.laysFinal "RangeTeller$Foreteller" "RangeTeller$Foreteller" "parameters" "[I" ∈ rt_tbl := rt_g2 (List.mem_of_getElem? (i := 37) rfl) rfl
set_option maxRecDepth 20000 in
theorem rt_w371 : Cond.laysFinal "RangeTeller$Foreteller" "RangeTeller$Foreteller" "stack" "[I" ∈ rt_tbl := rt_g2 (List.mem_of_getElem? (i := 39) rfl) rfl
set_option maxRecDepth 20000 in
theorem rt_w373 : Cond.laysFinal "RangeTeller$Foreteller" "RangeTeller$Foreteller" "variables" "[I" ∈ rt_tbl := rt_g2 (List.mem_of_getElem? (i := 41) rfl) rfl
set_option maxRecDepth 20000 in
theorem rt_w375 : Cond.lays "RangeTeller$Foreteller" "RangeTeller$Foreteller" "height" "I" ∈ rt_tbl := rt_g2 (List.mem_of_getElem? (i := 43) rfl) rfl
set_option maxRecDepth 20000 in
theorem rt_w378 : Cond.fieldLink "RangeTeller" 10 "RangeTeller" "program" "LRangeTeller$Program;" ∈ rt_tbl := rt_g2 (List.mem_of_getElem? (i := 46) rfl) rfl
set_option maxRecDepth 20000 in
theorem rt_w379 : Cond.fieldLink "RangeTeller" 21 "RangeTeller" "reader" "LRangeTeller$Reader;" ∈ rt_tbl := rt_g2 (List.mem_of_getElem? (i := 47) rfl) rfl
set_option maxRecDepth 20000 in
theorem rt_w380 : Cond.fieldLink "RangeTeller" 28 "RangeTeller" "checker" "LRangeTeller$Checker;" ∈ rt_tbl := rt_g2 (List.mem_of_getElem? (i := 48) rfl) rfl
set_option maxRecDepth 20000 in
theorem rt_w381 : Cond.fieldLink "RangeTeller" 35 "RangeTeller" "runner" "LRangeTeller$Runner;" ∈ rt_tbl := rt_g2 (List.mem_of_getElem? (i := 49) rfl) rfl
set_option maxRecDepth 20000 in
theorem rt_w382 : Cond.fieldLink "RangeTeller" 42 "RangeTeller" "foreteller" "LRangeTeller$Foreteller;" ∈ rt_tbl := rt_g2 (List.mem_of_getElem? (i := 50) rfl) rfl
set_option maxRecDepth 20000 in
theorem rt_w383 : Cond.fieldLink "RangeTeller" 46 "RangeTeller" "loaded" "Z" ∈ rt_tbl := rt_g2 (List.mem_of_getElem? (i := 51) rfl) rfl
set_option maxRecDepth 20000 in
theorem rt_w384 : Cond.fieldLink "RangeTeller" 50 "RangeTeller" "fault" "I" ∈ rt_tbl := rt_g2 (List.mem_of_getElem? (i := 52) rfl) rfl
set_option maxRecDepth 20000 in
theorem rt_w385 : Cond.laysFinal "RangeTeller" "RangeTeller" "program" "LRangeTeller$Program;" ∈ rt_tbl := rt_g2 (List.mem_of_getElem? (i := 53) rfl) rfl
set_option maxRecDepth 20000 in
theorem rt_w387 : Cond.laysFinal "RangeTeller" "RangeTeller" "reader" "LRangeTeller$Reader;" ∈ rt_tbl := rt_g2 (List.mem_of_getElem? (i := 55) rfl) rfl
set_option maxRecDepth 20000 in
theorem rt_w389 : Cond.laysFinal "RangeTeller" "RangeTeller" "checker" "LRangeTeller$Checker;" ∈ rt_tbl := rt_g2 (List.mem_of_getElem? (i := 57) rfl) rfl
set_option maxRecDepth 20000 in
theorem rt_w391 : Cond.laysFinal "RangeTeller" "RangeTeller" "runner" "LRangeTeller$Runner;" ∈ rt_tbl := rt_g2 (List.mem_of_getElem? (i := 59) rfl) rfl
set_option maxRecDepth 20000 in
theorem rt_w393 : Cond.laysFinal "RangeTeller" "RangeTeller" "foreteller" "LRangeTeller$Foreteller;" ∈ rt_tbl := rt_g2 (List.mem_of_getElem? (i := 61) rfl) rfl
set_option maxRecDepth 20000 in
theorem rt_w395 : Cond.lays "RangeTeller" "RangeTeller" "loaded" "Z" ∈ rt_tbl := rt_g2 (List.mem_of_getElem? (i := 63) rfl) rfl
set_option maxRecDepth 20000 in
theorem rt_w397 : Cond.lays "RangeTeller" "RangeTeller" "fault" "I" ∈ rt_tbl := rt_g2 (List.mem_of_getElem? (i := 65) rfl) rfl
set_option maxRecDepth 20000 in
theorem rt_w400 : Cond.methodLink "RangeTellerLaw" 13 ⟨"RangeTeller", "feed", "(I)Z"⟩ ∈ rt_tbl := rt_g2 (List.mem_of_getElem? (i := 68) rfl) rfl
set_option maxRecDepth 20000 in
theorem rt_w401 : Cond.instanceMethod ⟨"RangeTeller", "feed", "(I)Z"⟩ ∈ rt_tbl := rt_g2 (List.mem_of_getElem? (i := 69) rfl) rfl
set_option maxRecDepth 20000 in
theorem rt_w402 : Cond.selects "RangeTeller" ⟨"RangeTeller", "feed", "(I)Z"⟩ ⟨"RangeTeller", "feed", "(I)Z"⟩ ∈ rt_tbl := rt_g2 (List.mem_of_getElem? (i := 70) rfl) rfl
set_option maxRecDepth 20000 in
theorem rt_w403 : Cond.code ⟨"RangeTeller", "feed", "(I)Z"⟩ prog_1_method_2_code 2 (Option.some Jvm.ClassFile.FieldType.boolean) ∈ rt_tbl := rt_g2 (List.mem_of_getElem? (i := 71) rfl) rfl
set_option maxRecDepth 20000 in
theorem rt_w404 : Cond.methodLink "RangeTeller" 54 ⟨"RangeTeller$Reader", "append", "(I)Z"⟩ ∈ rt_tbl := rt_g2 (List.mem_of_getElem? (i := 72) rfl) rfl
set_option maxRecDepth 20000 in
theorem rt_w405 : Cond.instanceMethod ⟨"RangeTeller$Reader", "append", "(I)Z"⟩ ∈ rt_tbl := rt_g2 (List.mem_of_getElem? (i := 73) rfl) rfl
set_option maxRecDepth 20000 in
theorem rt_w406 : Cond.selects "RangeTeller$Reader" ⟨"RangeTeller$Reader", "append", "(I)Z"⟩ ⟨"RangeTeller$Reader", "append", "(I)Z"⟩ ∈ rt_tbl := rt_g2 (List.mem_of_getElem? (i := 74) rfl) rfl
set_option maxRecDepth 20000 in
theorem rt_w407 : Cond.code ⟨"RangeTeller$Reader", "append", "(I)Z"⟩ prog_7_method_2_code 2 (Option.some Jvm.ClassFile.FieldType.boolean) ∈ rt_tbl := rt_g2 (List.mem_of_getElem? (i := 75) rfl) rfl
set_option maxRecDepth 20000 in
theorem rt_w408 : Cond.methodLink "RangeTellerLaw" 18 ⟨"RangeTeller", "load", "()I"⟩ ∈ rt_tbl := rt_g2 (List.mem_of_getElem? (i := 76) rfl) rfl
set_option maxRecDepth 20000 in
theorem rt_w409 : Cond.instanceMethod ⟨"RangeTeller", "load", "()I"⟩ ∈ rt_tbl := rt_g2 (List.mem_of_getElem? (i := 77) rfl) rfl
set_option maxRecDepth 20000 in
theorem rt_w410 : Cond.selects "RangeTeller" ⟨"RangeTeller", "load", "()I"⟩ ⟨"RangeTeller", "load", "()I"⟩ ∈ rt_tbl := rt_g2 (List.mem_of_getElem? (i := 78) rfl) rfl
set_option maxRecDepth 20000 in
theorem rt_w411 : Cond.code ⟨"RangeTeller", "load", "()I"⟩ prog_1_method_3_code 1 (Option.some Jvm.ClassFile.FieldType.int) ∈ rt_tbl := rt_g2 (List.mem_of_getElem? (i := 79) rfl) rfl
set_option maxRecDepth 20000 in
theorem rt_w412 : Cond.methodLink "RangeTeller" 58 ⟨"RangeTeller$Runner", "forget", "()V"⟩ ∈ rt_tbl := rt_g2 (List.mem_of_getElem? (i := 80) rfl) rfl
set_option maxRecDepth 20000 in
theorem rt_w413 : Cond.instanceMethod ⟨"RangeTeller$Runner", "forget", "()V"⟩ ∈ rt_tbl := rt_g2 (List.mem_of_getElem? (i := 81) rfl) rfl
set_option maxRecDepth 20000 in
theorem rt_w414 : Cond.selects "RangeTeller$Runner" ⟨"RangeTeller$Runner", "forget", "()V"⟩ ⟨"RangeTeller$Runner", "forget", "()V"⟩ ∈ rt_tbl := rt_g2 (List.mem_of_getElem? (i := 82) rfl) rfl
set_option maxRecDepth 20000 in
theorem rt_w415 : Cond.code ⟨"RangeTeller$Runner", "forget", "()V"⟩ prog_8_method_2_code 1 (Option.none : Option Jvm.ClassFile.FieldType) ∈ rt_tbl := rt_g2 (List.mem_of_getElem? (i := 83) rfl) rfl
set_option maxRecDepth 20000 in
theorem rt_w416 : Cond.methodLink "RangeTeller" 61 ⟨"RangeTeller$Reader", "readModule", "()I"⟩ ∈ rt_tbl := rt_g2 (List.mem_of_getElem? (i := 84) rfl) rfl
set_option maxRecDepth 20000 in
theorem rt_w417 : Cond.instanceMethod ⟨"RangeTeller$Reader", "readModule", "()I"⟩ ∈ rt_tbl := rt_g2 (List.mem_of_getElem? (i := 85) rfl) rfl
set_option maxRecDepth 20000 in
theorem rt_w418 : Cond.selects "RangeTeller$Reader" ⟨"RangeTeller$Reader", "readModule", "()I"⟩ ⟨"RangeTeller$Reader", "readModule", "()I"⟩ ∈ rt_tbl := rt_g2 (List.mem_of_getElem? (i := 86) rfl) rfl
set_option maxRecDepth 20000 in
theorem rt_w419 : Cond.code ⟨"RangeTeller$Reader", "readModule", "()I"⟩ prog_7_method_3_code 3 (Option.some Jvm.ClassFile.FieldType.int) ∈ rt_tbl := rt_g2 (List.mem_of_getElem? (i := 87) rfl) rfl
set_option maxRecDepth 20000 in
theorem rt_w420 : Cond.methodLink "RangeTeller$Reader" 26 ⟨"RangeTeller$Program", "clear", "()V"⟩ ∈ rt_tbl := rt_g2 (List.mem_of_getElem? (i := 88) rfl) rfl
set_option maxRecDepth 20000 in
theorem rt_w421 : Cond.instanceMethod ⟨"RangeTeller$Program", "clear", "()V"⟩ ∈ rt_tbl := rt_g2 (List.mem_of_getElem? (i := 89) rfl) rfl
set_option maxRecDepth 20000 in
theorem rt_w422 : Cond.selects "RangeTeller$Program" ⟨"RangeTeller$Program", "clear", "()V"⟩ ⟨"RangeTeller$Program", "clear", "()V"⟩ ∈ rt_tbl := rt_g2 (List.mem_of_getElem? (i := 90) rfl) rfl
set_option maxRecDepth 20000 in
theorem rt_w423 : Cond.code ⟨"RangeTeller$Program", "clear", "()V"⟩ prog_5_method_2_code 1 (Option.none : Option Jvm.ClassFile.FieldType) ∈ rt_tbl := rt_g2 (List.mem_of_getElem? (i := 91) rfl) rfl
set_option maxRecDepth 20000 in
theorem rt_w424 : Cond.methodLink "RangeTeller$Reader" 37 ⟨"RangeTeller$Reader", "readNumber", "(II)I"⟩ ∈ rt_tbl := rt_g2 (List.mem_of_getElem? (i := 92) rfl) rfl
set_option maxRecDepth 20000 in
theorem rt_w426 : Cond.instanceMethod ⟨"RangeTeller$Reader", "readNumber", "(II)I"⟩ ∈ rt_tbl := rt_g2 (List.mem_of_getElem? (i := 94) rfl) rfl
set_option maxRecDepth 20000 in
theorem rt_w427 : Cond.code ⟨"RangeTeller$Reader", "readNumber", "(II)I"⟩ prog_7_method_8_code 4 (Option.some Jvm.ClassFile.FieldType.int) ∈ rt_tbl := rt_g2 (List.mem_of_getElem? (i := 95) rfl) rfl
set_option maxRecDepth 20000 in
theorem rt_w428 : Cond.methodLink "RangeTeller$Reader" 41 ⟨"RangeTeller$Reader", "readFunction", "()V"⟩ ∈ rt_tbl := rt_g2 (List.mem_of_getElem? (i := 96) rfl) rfl
set_option maxRecDepth 20000 in
theorem rt_w430 : Cond.instanceMethod ⟨"RangeTeller$Reader", "readFunction", "()V"⟩ ∈ rt_tbl := rt_g2 (List.mem_of_getElem? (i := 98) rfl) rfl
set_option maxRecDepth 20000 in
theorem rt_w431 : Cond.code ⟨"RangeTeller$Reader", "readFunction", "()V"⟩ prog_7_method_4_code 6 (Option.none : Option Jvm.ClassFile.FieldType) ∈ rt_tbl := rt_g2 (List.mem_of_getElem? (i := 99) rfl) rfl
set_option maxRecDepth 20000 in
theorem rt_w432 : Cond.methodLink "RangeTeller$Reader" 44 ⟨"RangeTeller$Program", "addFunction", "(III)V"⟩ ∈ rt_tbl := rt_g2 (List.mem_of_getElem? (i := 100) rfl) rfl
set_option maxRecDepth 20000 in
theorem rt_w433 : Cond.instanceMethod ⟨"RangeTeller$Program", "addFunction", "(III)V"⟩ ∈ rt_tbl := rt_g2 (List.mem_of_getElem? (i := 101) rfl) rfl
set_option maxRecDepth 20000 in
theorem rt_w434 : Cond.selects "RangeTeller$Program" ⟨"RangeTeller$Program", "addFunction", "(III)V"⟩ ⟨"RangeTeller$Program", "addFunction", "(III)V"⟩ ∈ rt_tbl := rt_g2 (List.mem_of_getElem? (i := 102) rfl) rfl
set_option maxRecDepth 20000 in
theorem rt_w435 : Cond.code ⟨"RangeTeller$Program", "addFunction", "(III)V"⟩ prog_5_method_3_code 4 (Option.none : Option Jvm.ClassFile.FieldType) ∈ rt_tbl := rt_g2 (List.mem_of_getElem? (i := 103) rfl) rfl
set_option maxRecDepth 20000 in
theorem rt_w436 : Cond.methodLink "RangeTeller$Reader" 51 ⟨"RangeTeller$Reader", "readInstruction", "()Z"⟩ ∈ rt_tbl := rt_g2 (List.mem_of_getElem? (i := 104) rfl) rfl
set_option maxRecDepth 20000 in
theorem rt_w438 : Cond.instanceMethod ⟨"RangeTeller$Reader", "readInstruction", "()Z"⟩ ∈ rt_tbl := rt_g2 (List.mem_of_getElem? (i := 106) rfl) rfl
set_option maxRecDepth 20000 in
theorem rt_w439 : Cond.code ⟨"RangeTeller$Reader", "readInstruction", "()Z"⟩ prog_7_method_5_code 3 (Option.some Jvm.ClassFile.FieldType.boolean) ∈ rt_tbl := rt_g2 (List.mem_of_getElem? (i := 107) rfl) rfl
set_option maxRecDepth 20000 in
theorem rt_w440 : Cond.methodLink "RangeTeller$Reader" 55 ⟨"RangeTeller$Ops", "isOp", "(I)Z"⟩ ∈ rt_tbl := rt_g2 (List.mem_of_getElem? (i := 108) rfl) rfl
set_option maxRecDepth 20000 in
theorem rt_w441 : Cond.static ⟨"RangeTeller$Ops", "isOp", "(I)Z"⟩ ∈ rt_tbl := rt_g2 (List.mem_of_getElem? (i := 109) rfl) rfl
set_option maxRecDepth 20000 in
theorem rt_w442 : Cond.code ⟨"RangeTeller$Ops", "isOp", "(I)Z"⟩ prog_4_method_2_code 1 (Option.some Jvm.ClassFile.FieldType.boolean) ∈ rt_tbl := rt_g2 (List.mem_of_getElem? (i := 110) rfl) rfl
set_option maxRecDepth 20000 in
theorem rt_w443 : Cond.methodLink "RangeTeller$Reader" 61 ⟨"RangeTeller$Reader", "elseFits", "()Z"⟩ ∈ rt_tbl := rt_g2 (List.mem_of_getElem? (i := 111) rfl) rfl
set_option maxRecDepth 20000 in
theorem rt_w445 : Cond.instanceMethod ⟨"RangeTeller$Reader", "elseFits", "()Z"⟩ ∈ rt_tbl := rt_g2 (List.mem_of_getElem? (i := 113) rfl) rfl
set_option maxRecDepth 20000 in
theorem rt_w446 : Cond.code ⟨"RangeTeller$Reader", "elseFits", "()Z"⟩ prog_7_method_6_code 2 (Option.some Jvm.ClassFile.FieldType.boolean) ∈ rt_tbl := rt_g2 (List.mem_of_getElem? (i := 114) rfl) rfl
set_option maxRecDepth 20000 in
theorem rt_w447 : Cond.methodLink "RangeTeller$Reader" 64 ⟨"RangeTeller$Ops", "hasArgument", "(I)Z"⟩ ∈ rt_tbl := rt_g2 (List.mem_of_getElem? (i := 115) rfl) rfl
set_option maxRecDepth 20000 in
theorem rt_w448 : Cond.static ⟨"RangeTeller$Ops", "hasArgument", "(I)Z"⟩ ∈ rt_tbl := rt_g2 (List.mem_of_getElem? (i := 116) rfl) rfl
set_option maxRecDepth 20000 in
theorem rt_w449 : Cond.code ⟨"RangeTeller$Ops", "hasArgument", "(I)Z"⟩ prog_4_method_5_code 1 (Option.some Jvm.ClassFile.FieldType.boolean) ∈ rt_tbl := rt_g2 (List.mem_of_getElem? (i := 117) rfl) rfl
set_option maxRecDepth 20000 in
theorem rt_w450 : Cond.methodLink "RangeTeller$Ops" 9 ⟨"RangeTeller$Ops", "opens", "(I)Z"⟩ ∈ rt_tbl := rt_g2 (List.mem_of_getElem? (i := 118) rfl) rfl
set_option maxRecDepth 20000 in
theorem rt_w451 : Cond.static ⟨"RangeTeller$Ops", "opens", "(I)Z"⟩ ∈ rt_tbl := rt_g2 (List.mem_of_getElem? (i := 119) rfl) rfl
set_option maxRecDepth 20000 in
theorem rt_w452 : Cond.code ⟨"RangeTeller$Ops", "opens", "(I)Z"⟩ prog_4_method_3_code 1 (Option.some Jvm.ClassFile.FieldType.boolean) ∈ rt_tbl := rt_g2 (List.mem_of_getElem? (i := 120) rfl) rfl
set_option maxRecDepth 20000 in
theorem rt_w453 : Cond.methodLink "RangeTeller$Ops" 13 ⟨"RangeTeller$Ops", "namesLocal", "(I)Z"⟩ ∈ rt_tbl := rt_g2 (List.mem_of_getElem? (i := 121) rfl) rfl
set_option maxRecDepth 20000 in
theorem rt_w454 : Cond.static ⟨"RangeTeller$Ops", "namesLocal", "(I)Z"⟩ ∈ rt_tbl := rt_g2 (List.mem_of_getElem? (i := 122) rfl) rfl
set_option maxRecDepth 20000 in
theorem rt_w455 : Cond.code ⟨"RangeTeller$Ops", "namesLocal", "(I)Z"⟩ prog_4_method_4_code 1 (Option.some Jvm.ClassFile.FieldType.boolean) ∈ rt_tbl := rt_g2 (List.mem_of_getElem? (i := 123) rfl) rfl
set_option maxRecDepth 20000 in
theorem rt_w456 : Cond.methodLink "RangeTeller$Reader" 67 ⟨"RangeTeller$Ops", "opens", "(I)Z"⟩ ∈ rt_tbl := rt_g2 (List.mem_of_getElem? (i := 124) rfl) rfl
set_option maxRecDepth 20000 in
theorem rt_w457 : Cond.methodLink "RangeTeller$Reader" 70 ⟨"RangeTeller$Program", "addInstruction", "(II)I"⟩ ∈ rt_tbl := rt_g2 (List.mem_of_getElem? (i := 125) rfl) rfl
set_option maxRecDepth 20000 in
theorem rt_w458 : Cond.instanceMethod ⟨"RangeTeller$Program", "addInstruction", "(II)I"⟩ ∈ rt_tbl := rt_g2 (List.mem_of_getElem? (i := 126) rfl) rfl
set_option maxRecDepth 20000 in
theorem rt_w459 : Cond.selects "RangeTeller$Program" ⟨"RangeTeller$Program", "addInstruction", "(II)I"⟩ ⟨"RangeTeller$Program", "addInstruction", "(II)I"⟩ ∈ rt_tbl := rt_g2 (List.mem_of_getElem? (i := 127) rfl) rfl
set_option maxRecDepth 20000 in
theorem rt_w460 : Cond.code ⟨"RangeTeller$Program", "addInstruction", "(II)I"⟩ prog_5_method_4_code 4 (Option.some Jvm.ClassFile.FieldType.int) ∈ rt_tbl := rt_g2 (List.mem_of_getElem? (i := 128) rfl) rfl
set_option maxRecDepth 20000 in
theorem rt_w461 : Cond.methodLink "RangeTeller$Reader" 73 ⟨"RangeTeller$Reader", "nest", "(II)Z"⟩ ∈ rt_tbl := rt_g2 (List.mem_of_getElem? (i := 129) rfl) rfl
set_option maxRecDepth 20000 in
theorem rt_w463 : Cond.instanceMethod ⟨"RangeTeller$Reader", "nest", "(II)Z"⟩ ∈ rt_tbl := rt_g2 (List.mem_of_getElem? (i := 131) rfl) rfl
set_option maxRecDepth 20000 in
theorem rt_w464 : Cond.code ⟨"RangeTeller$Reader", "nest", "(II)Z"⟩ prog_7_method_7_code 3 (Option.some Jvm.ClassFile.FieldType.boolean) ∈ rt_tbl := rt_g2 (List.mem_of_getElem? (i := 132) rfl) rfl
set_option maxRecDepth 20000 in
theorem rt_w465 : Cond.methodLink "RangeTeller$Reader" 83 ⟨"RangeTeller$Program", "close", "(II)V"⟩ ∈ rt_tbl := rt_g2 (List.mem_of_getElem? (i := 133) rfl) rfl
set_option maxRecDepth 20000 in
theorem rt_w466 : Cond.instanceMethod ⟨"RangeTeller$Program", "close", "(II)V"⟩ ∈ rt_tbl := rt_g2 (List.mem_of_getElem? (i := 134) rfl) rfl
set_option maxRecDepth 20000 in
theorem rt_w467 : Cond.selects "RangeTeller$Program" ⟨"RangeTeller$Program", "close", "(II)V"⟩ ⟨"RangeTeller$Program", "close", "(II)V"⟩ ∈ rt_tbl := rt_g2 (List.mem_of_getElem? (i := 135) rfl) rfl
set_option maxRecDepth 20000 in
theorem rt_w468 : Cond.code ⟨"RangeTeller$Program", "close", "(II)V"⟩ prog_5_method_5_code 3 (Option.none : Option Jvm.ClassFile.FieldType) ∈ rt_tbl := rt_g2 (List.mem_of_getElem? (i := 136) rfl) rfl
set_option maxRecDepth 20000 in
theorem rt_w469 : Cond.methodLink "RangeTeller" 65 ⟨"RangeTeller$Checker", "firstInvalid", "()I"⟩ ∈ rt_tbl := rt_g2 (List.mem_of_getElem? (i := 137) rfl) rfl
set_option maxRecDepth 20000 in
theorem rt_w470 : Cond.instanceMethod ⟨"RangeTeller$Checker", "firstInvalid", "()I"⟩ ∈ rt_tbl := rt_g2 (List.mem_of_getElem? (i := 138) rfl) rfl
set_option maxRecDepth 20000 in
theorem rt_w471 : Cond.selects "RangeTeller$Checker" ⟨"RangeTeller$Checker", "firstInvalid", "()I"⟩ ⟨"RangeTeller$Checker", "firstInvalid", "()I"⟩ ∈ rt_tbl := rt_g2 (List.mem_of_getElem? (i := 139) rfl) rfl
set_option maxRecDepth 20000 in
theorem rt_w472 : Cond.code ⟨"RangeTeller$Checker", "firstInvalid", "()I"⟩ prog_2_method_2_code 2 (Option.some Jvm.ClassFile.FieldType.int) ∈ rt_tbl := rt_g2 (List.mem_of_getElem? (i := 140) rfl) rfl
set_option maxRecDepth 20000 in
theorem rt_w473 : Cond.methodLink "RangeTeller$Checker" 48 ⟨"RangeTeller$Checker", "open", "(I)V"⟩ ∈ rt_tbl := rt_g2 (List.mem_of_getElem? (i := 141) rfl) rfl
set_option maxRecDepth 20000 in
theorem rt_w475 : Cond.instanceMethod ⟨"RangeTeller$Checker", "open", "(I)V"⟩ ∈ rt_tbl := rt_g2 (List.mem_of_getElem? (i := 143) rfl) rfl
set_option maxRecDepth 20000 in
theorem rt_w476 : Cond.code ⟨"RangeTeller$Checker", "open", "(I)V"⟩ prog_2_method_9_code 2 (Option.none : Option Jvm.ClassFile.FieldType) ∈ rt_tbl := rt_g2 (List.mem_of_getElem? (i := 144) rfl) rfl
set_option maxRecDepth 20000 in
theorem rt_w477 : Cond.methodLink "RangeTeller$Checker" 52 ⟨"RangeTeller$Checker", "checkInstruction", "(I)V"⟩ ∈ rt_tbl := rt_g2 (List.mem_of_getElem? (i := 145) rfl) rfl
set_option maxRecDepth 20000 in
theorem rt_w479 : Cond.instanceMethod ⟨"RangeTeller$Checker", "checkInstruction", "(I)V"⟩ ∈ rt_tbl := rt_g2 (List.mem_of_getElem? (i := 147) rfl) rfl
set_option maxRecDepth 20000 in
theorem rt_w480 : Cond.code ⟨"RangeTeller$Checker", "checkInstruction", "(I)V"⟩ prog_2_method_3_code 4 (Option.none : Option Jvm.ClassFile.FieldType) ∈ rt_tbl := rt_g2 (List.mem_of_getElem? (i := 148) rfl) rfl
set_option maxRecDepth 20000 in
theorem rt_w481 : Cond.methodLink "RangeTeller$Checker" 61 ⟨"RangeTeller$Checker", "deaden", "()V"⟩ ∈ rt_tbl := rt_g2 (List.mem_of_getElem? (i := 149) rfl) rfl
set_option maxRecDepth 20000 in
theorem rt_w483 : Cond.instanceMethod ⟨"RangeTeller$Checker", "deaden", "()V"⟩ ∈ rt_tbl := rt_g2 (List.mem_of_getElem? (i := 151) rfl) rfl
set_option maxRecDepth 20000 in
theorem rt_w484 : Cond.code ⟨"RangeTeller$Checker", "deaden", "()V"⟩ prog_2_method_10_code 1 (Option.none : Option Jvm.ClassFile.FieldType) ∈ rt_tbl := rt_g2 (List.mem_of_getElem? (i := 152) rfl) rfl
set_option maxRecDepth 20000 in
theorem rt_w485 : Cond.methodLink "RangeTeller$Checker" 64 ⟨"RangeTeller$Checker", "take", "(I)V"⟩ ∈ rt_tbl := rt_g2 (List.mem_of_getElem? (i := 153) rfl) rfl
set_option maxRecDepth 20000 in
theorem rt_w487 : Cond.instanceMethod ⟨"RangeTeller$Checker", "take", "(I)V"⟩ ∈ rt_tbl := rt_g2 (List.mem_of_getElem? (i := 155) rfl) rfl
set_option maxRecDepth 20000 in
theorem rt_w488 : Cond.code ⟨"RangeTeller$Checker", "take", "(I)V"⟩ prog_2_method_12_code 3 (Option.none : Option Jvm.ClassFile.FieldType) ∈ rt_tbl := rt_g2 (List.mem_of_getElem? (i := 156) rfl) rfl
set_option maxRecDepth 20000 in
theorem rt_w489 : Cond.methodLink "RangeTeller$Checker" 67 ⟨"RangeTeller$Program", "otherwise", "(I)I"⟩ ∈ rt_tbl := rt_g2 (List.mem_of_getElem? (i := 157) rfl) rfl
set_option maxRecDepth 20000 in
theorem rt_w490 : Cond.instanceMethod ⟨"RangeTeller$Program", "otherwise", "(I)I"⟩ ∈ rt_tbl := rt_g2 (List.mem_of_getElem? (i := 158) rfl) rfl
set_option maxRecDepth 20000 in
theorem rt_w491 : Cond.selects "RangeTeller$Program" ⟨"RangeTeller$Program", "otherwise", "(I)I"⟩ ⟨"RangeTeller$Program", "otherwise", "(I)I"⟩ ∈ rt_tbl := rt_g2 (List.mem_of_getElem? (i := 159) rfl) rfl
set_option maxRecDepth 20000 in
theorem rt_w492 : Cond.code ⟨"RangeTeller$Program", "otherwise", "(I)I"⟩ prog_5_method_7_code 2 (Option.some Jvm.ClassFile.FieldType.int) ∈ rt_tbl := rt_g2 (List.mem_of_getElem? (i := 160) rfl) rfl
set_option maxRecDepth 20000 in
theorem rt_w493 : Cond.methodLink "RangeTeller$Checker" 71 ⟨"RangeTeller$Program", "setJump", "(IIII)V"⟩ ∈ rt_tbl := rt_g2 (List.mem_of_getElem? (i := 161) rfl) rfl
set_option maxRecDepth 20000 in
theorem rt_w494 : Cond.instanceMethod ⟨"RangeTeller$Program", "setJump", "(IIII)V"⟩ ∈ rt_tbl := rt_g2 (List.mem_of_getElem? (i := 162) rfl) rfl
set_option maxRecDepth 20000 in
theorem rt_w495 : Cond.selects "RangeTeller$Program" ⟨"RangeTeller$Program", "setJump", "(IIII)V"⟩ ⟨"RangeTeller$Program", "setJump", "(IIII)V"⟩ ∈ rt_tbl := rt_g2 (List.mem_of_getElem? (i := 163) rfl) rfl
set_option maxRecDepth 20000 in
theorem rt_w496 : Cond.code ⟨"RangeTeller$Program", "setJump", "(IIII)V"⟩ prog_5_method_8_code 5 (Option.none : Option Jvm.ClassFile.FieldType) ∈ rt_tbl := rt_g2 (List.mem_of_getElem? (i := 164) rfl) rfl
set_option maxRecDepth 20000 in
theorem rt_w497 : Cond.methodLink "RangeTeller$Checker" 75 ⟨"RangeTeller$Checker", "checkElse", "(I)V"⟩ ∈ rt_tbl := rt_g2 (List.mem_of_getElem? (i := 165) rfl) rfl
set_option maxRecDepth 20000 in
theorem rt_w499 : Cond.instanceMethod ⟨"RangeTeller$Checker", "checkElse", "(I)V"⟩ ∈ rt_tbl := rt_g2 (List.mem_of_getElem? (i := 167) rfl) rfl
set_option maxRecDepth 20000 in
theorem rt_w500 : Cond.code ⟨"RangeTeller$Checker", "checkElse", "(I)V"⟩ prog_2_method_4_code 4 (Option.none : Option Jvm.ClassFile.FieldType) ∈ rt_tbl := rt_g2 (List.mem_of_getElem? (i := 168) rfl) rfl
set_option maxRecDepth 20000 in
theorem rt_w501 : Cond.methodLink "RangeTeller$Checker" 94 ⟨"RangeTeller$Checker", "mustBeAtBase", "()V"⟩ ∈ rt_tbl := rt_g2 (List.mem_of_getElem? (i := 169) rfl) rfl
set_option maxRecDepth 20000 in
theorem rt_w503 : Cond.instanceMethod ⟨"RangeTeller$Checker", "mustBeAtBase", "()V"⟩ ∈ rt_tbl := rt_g2 (List.mem_of_getElem? (i := 171) rfl) rfl
set_option maxRecDepth 20000 in
theorem rt_w504 : Cond.code ⟨"RangeTeller$Checker", "mustBeAtBase", "()V"⟩ prog_2_method_11_code 1 (Option.none : Option Jvm.ClassFile.FieldType) ∈ rt_tbl := rt_g2 (List.mem_of_getElem? (i := 172) rfl) rfl
set_option maxRecDepth 20000 in
theorem rt_w505 : Cond.methodLink "RangeTeller$Checker" 78 ⟨"RangeTeller$Checker", "checkEnd", "(II)V"⟩ ∈ rt_tbl := rt_g2 (List.mem_of_getElem? (i := 173) rfl) rfl
set_option maxRecDepth 20000 in
theorem rt_w507 : Cond.instanceMethod ⟨"RangeTeller$Checker", "checkEnd", "(II)V"⟩ ∈ rt_tbl := rt_g2 (List.mem_of_getElem? (i := 175) rfl) rfl
set_option maxRecDepth 20000 in
theorem rt_w508 : Cond.code ⟨"RangeTeller$Checker", "checkEnd", "(II)V"⟩ prog_2_method_5_code 6 (Option.none : Option Jvm.ClassFile.FieldType) ∈ rt_tbl := rt_g2 (List.mem_of_getElem? (i := 176) rfl) rfl
set_option maxRecDepth 20000 in
theorem rt_w509 : Cond.methodLink "RangeTeller$Checker" 105 ⟨"RangeTeller$Checker", "give", "(I)V"⟩ ∈ rt_tbl := rt_g2 (List.mem_of_getElem? (i := 177) rfl) rfl
set_option maxRecDepth 20000 in
theorem rt_w511 : Cond.instanceMethod ⟨"RangeTeller$Checker", "give", "(I)V"⟩ ∈ rt_tbl := rt_g2 (List.mem_of_getElem? (i := 179) rfl) rfl
set_option maxRecDepth 20000 in
theorem rt_w512 : Cond.code ⟨"RangeTeller$Checker", "give", "(I)V"⟩ prog_2_method_13_code 2 (Option.none : Option Jvm.ClassFile.FieldType) ∈ rt_tbl := rt_g2 (List.mem_of_getElem? (i := 180) rfl) rfl
set_option maxRecDepth 20000 in
theorem rt_w513 : Cond.methodLink "RangeTeller$Checker" 82 ⟨"RangeTeller$Checker", "checkBranch", "(II)V"⟩ ∈ rt_tbl := rt_g2 (List.mem_of_getElem? (i := 181) rfl) rfl
set_option maxRecDepth 20000 in
theorem rt_w515 : Cond.instanceMethod ⟨"RangeTeller$Checker", "checkBranch", "(II)V"⟩ ∈ rt_tbl := rt_g2 (List.mem_of_getElem? (i := 183) rfl) rfl
set_option maxRecDepth 20000 in
theorem rt_w516 : Cond.code ⟨"RangeTeller$Checker", "checkBranch", "(II)V"⟩ prog_2_method_6_code 8 (Option.none : Option Jvm.ClassFile.FieldType) ∈ rt_tbl := rt_g2 (List.mem_of_getElem? (i := 184) rfl) rfl
set_option maxRecDepth 20000 in
theorem rt_w517 : Cond.methodLink "RangeTeller$Checker" 88 ⟨"RangeTeller$Checker", "checkCall", "(I)V"⟩ ∈ rt_tbl := rt_g2 (List.mem_of_getElem? (i := 185) rfl) rfl
set_option maxRecDepth 20000 in
theorem rt_w519 : Cond.instanceMethod ⟨"RangeTeller$Checker", "checkCall", "(I)V"⟩ ∈ rt_tbl := rt_g2 (List.mem_of_getElem? (i := 187) rfl) rfl
set_option maxRecDepth 20000 in
theorem rt_w520 : Cond.code ⟨"RangeTeller$Checker", "checkCall", "(I)V"⟩ prog_2_method_7_code 2 (Option.none : Option Jvm.ClassFile.FieldType) ∈ rt_tbl := rt_g2 (List.mem_of_getElem? (i := 188) rfl) rfl
set_option maxRecDepth 20000 in
theorem rt_w521 : Cond.methodLink "RangeTeller$Checker" 91 ⟨"RangeTeller$Checker", "checkPlain", "(II)V"⟩ ∈ rt_tbl := rt_g2 (List.mem_of_getElem? (i := 189) rfl) rfl
set_option maxRecDepth 20000 in
theorem rt_w523 : Cond.instanceMethod ⟨"RangeTeller$Checker", "checkPlain", "(II)V"⟩ ∈ rt_tbl := rt_g2 (List.mem_of_getElem? (i := 191) rfl) rfl
set_option maxRecDepth 20000 in
theorem rt_w524 : Cond.code ⟨"RangeTeller$Checker", "checkPlain", "(II)V"⟩ prog_2_method_8_code 3 (Option.none : Option Jvm.ClassFile.FieldType) ∈ rt_tbl := rt_g2 (List.mem_of_getElem? (i := 192) rfl) rfl
set_option maxRecDepth 20000 in
theorem rt_w525 : Cond.methodLink "RangeTeller$Checker" 114 ⟨"RangeTeller$Ops", "namesLocal", "(I)Z"⟩ ∈ rt_tbl := rt_g2 (List.mem_of_getElem? (i := 193) rfl) rfl
set_option maxRecDepth 20000 in
theorem rt_w526 : Cond.methodLink "RangeTeller$Checker" 118 ⟨"RangeTeller$Program", "localCount", "(I)I"⟩ ∈ rt_tbl := rt_g2 (List.mem_of_getElem? (i := 194) rfl) rfl
set_option maxRecDepth 20000 in
theorem rt_w527 : Cond.instanceMethod ⟨"RangeTeller$Program", "localCount", "(I)I"⟩ ∈ rt_tbl := rt_g2 (List.mem_of_getElem? (i := 195) rfl) rfl
set_option maxRecDepth 20000 in
theorem rt_w528 : Cond.selects "RangeTeller$Program" ⟨"RangeTeller$Program", "localCount", "(I)I"⟩ ⟨"RangeTeller$Program", "localCount", "(I)I"⟩ ∈ rt_tbl := rt_g2 (List.mem_of_getElem? (i := 196) rfl) rfl
set_option maxRecDepth 20000 in
theorem rt_w529 : Cond.code ⟨"RangeTeller$Program", "localCount", "(I)I"⟩ prog_5_method_6_code 2 (Option.some Jvm.ClassFile.FieldType.int) ∈ rt_tbl := rt_g2 (List.mem_of_getElem? (i := 197) rfl) rfl
set_option maxRecDepth 20000 in
theorem rt_w530 : Cond.methodLink "RangeTeller$Checker" 121 ⟨"RangeTeller$Ops", "taken", "(I)I"⟩ ∈ rt_tbl := rt_g2 (List.mem_of_getElem? (i := 198) rfl) rfl
set_option maxRecDepth 20000 in
theorem rt_w531 : Cond.static ⟨"RangeTeller$Ops", "taken", "(I)I"⟩ ∈ rt_tbl := rt_g2 (List.mem_of_getElem? (i := 199) rfl) rfl
set_option maxRecDepth 20000 in
theorem rt_w532 : Cond.code ⟨"RangeTeller$Ops", "taken", "(I)I"⟩ prog_4_method_6_code 1 (Option.some Jvm.ClassFile.FieldType.int) ∈ rt_tbl := rt_g2 (List.mem_of_getElem? (i := 200) rfl) rfl
set_option maxRecDepth 20000 in
theorem rt_w533 : Cond.methodLink "RangeTeller$Ops" 16 ⟨"RangeTeller$Ops", "isOp", "(I)Z"⟩ ∈ rt_tbl := rt_g2 (List.mem_of_getElem? (i := 201) rfl) rfl
set_option maxRecDepth 20000 in
theorem rt_w534 : Cond.fieldLink "RangeTeller$Ops" 19 "RangeTeller$Ops" "TAKES" "[I" ∈ rt_tbl := rt_g2 (List.mem_of_getElem? (i := 202) rfl) rfl
set_option maxRecDepth 20000 in
theorem rt_w536 : Cond.methodLink "RangeTeller$Checker" 124 ⟨"RangeTeller$Ops", "given", "(I)I"⟩ ∈ rt_tbl := rt_g2 (List.mem_of_getElem? (i := 204) rfl) rfl
set_option maxRecDepth 20000 in
theorem rt_w537 : Cond.static ⟨"RangeTeller$Ops", "given", "(I)I"⟩ ∈ rt_tbl := rt_g2 (List.mem_of_getElem? (i := 205) rfl) rfl
set_option maxRecDepth 20000 in
theorem rt_w538 : Cond.code ⟨"RangeTeller$Ops", "given", "(I)I"⟩ prog_4_method_7_code 1 (Option.some Jvm.ClassFile.FieldType.int) ∈ rt_tbl := rt_g2 (List.mem_of_getElem? (i := 206) rfl) rfl
set_option maxRecDepth 20000 in
theorem rt_w539 : Cond.fieldLink "RangeTeller$Ops" 23 "RangeTeller$Ops" "GIVES" "[I" ∈ rt_tbl := rt_g2 (List.mem_of_getElem? (i := 207) rfl) rfl
set_option maxRecDepth 20000 in
theorem rt_w541 : Cond.methodLink "RangeTeller" 68 ⟨"RangeTeller$Foreteller", "foretell", "()V"⟩ ∈ rt_tbl := rt_g2 (List.mem_of_getElem? (i := 209) rfl) rfl
set_option maxRecDepth 20000 in
theorem rt_w542 : Cond.instanceMethod ⟨"RangeTeller$Foreteller", "foretell", "()V"⟩ ∈ rt_tbl := rt_g2 (List.mem_of_getElem? (i := 210) rfl) rfl
set_option maxRecDepth 20000 in
theorem rt_w543 : Cond.selects "RangeTeller$Foreteller" ⟨"RangeTeller$Foreteller", "foretell", "()V"⟩ ⟨"RangeTeller$Foreteller", "foretell", "()V"⟩ ∈ rt_tbl := rt_g2 (List.mem_of_getElem? (i := 211) rfl) rfl
set_option maxRecDepth 20000 in
theorem rt_w544 : Cond.code ⟨"RangeTeller$Foreteller", "foretell", "()V"⟩ prog_3_method_2_code 4 (Option.none : Option Jvm.ClassFile.FieldType) ∈ rt_tbl := rt_g2 (List.mem_of_getElem? (i := 212) rfl) rfl
set_option maxRecDepth 20000 in
theorem rt_w545 : Cond.methodLink "RangeTeller$Foreteller" 50 ⟨"RangeTeller$Foreteller", "clear", "()V"⟩ ∈ rt_tbl := rt_g2 (List.mem_of_getElem? (i := 213) rfl) rfl
set_option maxRecDepth 20000 in
theorem rt_w547 : Cond.instanceMethod ⟨"RangeTeller$Foreteller", "clear", "()V"⟩ ∈ rt_tbl := rt_g2 (List.mem_of_getElem? (i := 215) rfl) rfl
set_option maxRecDepth 20000 in
theorem rt_w548 : Cond.code ⟨"RangeTeller$Foreteller", "clear", "()V"⟩ prog_3_method_7_code 2 (Option.none : Option Jvm.ClassFile.FieldType) ∈ rt_tbl := rt_g2 (List.mem_of_getElem? (i := 216) rfl) rfl
set_option maxRecDepth 20000 in
theorem rt_w549 : Cond.methodLink "RangeTeller$Foreteller" 103 ⟨"java/util/Arrays", "fill", "([II)V"⟩ ∈ rt_tbl := rt_g2 (List.mem_of_getElem? (i := 217) rfl) rfl
set_option maxRecDepth 20000 in
theorem rt_w550 : Cond.static ⟨"java/util/Arrays", "fill", "([II)V"⟩ ∈ rt_tbl := rt_g2 (List.mem_of_getElem? (i := 218) rfl) rfl
set_option maxRecDepth 20000 in
theorem rt_w551 : Cond.code ⟨"java/util/Arrays", "fill", "([II)V"⟩ prog_13_method_103_code 4 (Option.none : Option Jvm.ClassFile.FieldType) ∈ rt_tbl := rt_g2 (List.mem_of_getElem? (i := 219) rfl) rfl
set_option maxRecDepth 20000 in
theorem rt_w552 : Cond.methodLink "RangeTeller$Foreteller" 55 ⟨"RangeTeller$Foreteller", "enter", "(I)V"⟩ ∈ rt_tbl := rt_g2 (List.mem_of_getElem? (i := 220) rfl) rfl
set_option maxRecDepth 20000 in
theorem rt_w554 : Cond.instanceMethod ⟨"RangeTeller$Foreteller", "enter", "(I)V"⟩ ∈ rt_tbl := rt_g2 (List.mem_of_getElem? (i := 222) rfl) rfl
set_option maxRecDepth 20000 in
theorem rt_w555 : Cond.code ⟨"RangeTeller$Foreteller", "enter", "(I)V"⟩ prog_3_method_14_code 3 (Option.none : Option Jvm.ClassFile.FieldType) ∈ rt_tbl := rt_g2 (List.mem_of_getElem? (i := 223) rfl) rfl
set_option maxRecDepth 20000 in
theorem rt_w556 : Cond.methodLink "RangeTeller$Foreteller" 118 ⟨"RangeTeller$Foreteller", "arrive", "(I)V"⟩ ∈ rt_tbl := rt_g2 (List.mem_of_getElem? (i := 224) rfl) rfl
set_option maxRecDepth 20000 in
theorem rt_w558 : Cond.instanceMethod ⟨"RangeTeller$Foreteller", "arrive", "(I)V"⟩ ∈ rt_tbl := rt_g2 (List.mem_of_getElem? (i := 226) rfl) rfl
set_option maxRecDepth 20000 in
theorem rt_w559 : Cond.code ⟨"RangeTeller$Foreteller", "arrive", "(I)V"⟩ prog_3_method_15_code 5 (Option.none : Option Jvm.ClassFile.FieldType) ∈ rt_tbl := rt_g2 (List.mem_of_getElem? (i := 227) rfl) rfl
set_option maxRecDepth 20000 in
theorem rt_w560 : Cond.methodLink "RangeTeller$Foreteller" 75 ⟨"RangeTeller$Program", "localCount", "(I)I"⟩ ∈ rt_tbl := rt_g2 (List.mem_of_getElem? (i := 228) rfl) rfl
set_option maxRecDepth 20000 in
theorem rt_w561 : Cond.methodLink "RangeTeller$Foreteller" 164 ⟨"RangeTeller$Foreteller", "joinInto", "([II[III)Z"⟩ ∈ rt_tbl := rt_g2 (List.mem_of_getElem? (i := 229) rfl) rfl
set_option maxRecDepth 20000 in
theorem rt_w562 : Cond.static ⟨"RangeTeller$Foreteller", "joinInto", "([II[III)Z"⟩ ∈ rt_tbl := rt_g2 (List.mem_of_getElem? (i := 230) rfl) rfl
set_option maxRecDepth 20000 in
theorem rt_w563 : Cond.code ⟨"RangeTeller$Foreteller", "joinInto", "([II[III)Z"⟩ prog_3_method_16_code 8 (Option.some Jvm.ClassFile.FieldType.boolean) ∈ rt_tbl := rt_g2 (List.mem_of_getElem? (i := 231) rfl) rfl
set_option maxRecDepth 20000 in
theorem rt_w564 : Cond.methodLink "RangeTeller$Foreteller" 157 ⟨"RangeTeller$Ranges", "join", "(II)I"⟩ ∈ rt_tbl := rt_g2 (List.mem_of_getElem? (i := 232) rfl) rfl
set_option maxRecDepth 20000 in
theorem rt_w565 : Cond.static ⟨"RangeTeller$Ranges", "join", "(II)I"⟩ ∈ rt_tbl := rt_g2 (List.mem_of_getElem? (i := 233) rfl) rfl
set_option maxRecDepth 20000 in
theorem rt_w566 : Cond.code ⟨"RangeTeller$Ranges", "join", "(II)I"⟩ prog_6_method_8_code 4 (Option.some Jvm.ClassFile.FieldType.int) ∈ rt_tbl := rt_g2 (List.mem_of_getElem? (i := 234) rfl) rfl
set_option maxRecDepth 20000 in
theorem rt_w567 : Cond.constant "RangeTeller$Foreteller" 59 (1000000 : Int32) ∈ rt_tbl := rt_g2 (List.mem_of_getElem? (i := 235) rfl) rfl
set_option maxRecDepth 20000 in
theorem rt_w568 : Cond.methodLink "RangeTeller$Foreteller" 66 ⟨"RangeTeller$Foreteller", "recall", "(I)V"⟩ ∈ rt_tbl := rt_g2 (List.mem_of_getElem? (i := 236) rfl) rfl
set_option maxRecDepth 20000 in
theorem rt_w570 : Cond.instanceMethod ⟨"RangeTeller$Foreteller", "recall", "(I)V"⟩ ∈ rt_tbl := rt_g2 (List.mem_of_getElem? (i := 238) rfl) rfl
set_option maxRecDepth 20000 in
theorem rt_w571 : Cond.code ⟨"RangeTeller$Foreteller", "recall", "(I)V"⟩ prog_3_method_8_code 2 (Option.none : Option Jvm.ClassFile.FieldType) ∈ rt_tbl := rt_g2 (List.mem_of_getElem? (i := 239) rfl) rfl
set_option maxRecDepth 20000 in
theorem rt_w572 : Cond.methodLink "RangeTeller$Foreteller" 112 ⟨"java/lang/System", "arraycopy", "(Ljava/lang/Object;ILjava/lang/Object;II)V"⟩ ∈ rt_tbl := rt_g3 (List.mem_of_getElem? (i := 0) rfl) rfl
set_option maxRecDepth 20000 in
theorem rt_w573 : Cond.static ⟨"java/lang/System", "arraycopy", "(Ljava/lang/Object;ILjava/lang/Object;II)V"⟩ ∈ rt_tbl := rt_g3 (List.mem_of_getElem? (i := 1) rfl) rfl
set_option maxRecDepth 20000 in
theorem rt_w574 : Cond.native ⟨"java/lang/System", "arraycopy", "(Ljava/lang/Object;ILjava/lang/Object;II)V"⟩ ∈ rt_tbl := rt_g3 (List.mem_of_getElem? (i := 2) rfl) rfl
set_option maxRecDepth 20000 in
theorem rt_w575 : Cond.methodLink "RangeTeller$Foreteller" 69 ⟨"RangeTeller$Foreteller", "follow", "(I)V"⟩ ∈ rt_tbl := rt_g3 (List.mem_of_getElem? (i := 3) rfl) rfl
set_option maxRecDepth 20000 in
theorem rt_w577 : Cond.instanceMethod ⟨"RangeTeller$Foreteller", "follow", "(I)V"⟩ ∈ rt_tbl := rt_g3 (List.mem_of_getElem? (i := 5) rfl) rfl
set_option maxRecDepth 20000 in
theorem rt_w578 : Cond.code ⟨"RangeTeller$Foreteller", "follow", "(I)V"⟩ prog_3_method_9_code 2 (Option.none : Option Jvm.ClassFile.FieldType) ∈ rt_tbl := rt_g3 (List.mem_of_getElem? (i := 6) rfl) rfl
set_option maxRecDepth 20000 in
theorem rt_w579 : Cond.methodLink "RangeTeller$Foreteller" 123 ⟨"RangeTeller$Foreteller", "fork", "(IZ)V"⟩ ∈ rt_tbl := rt_g3 (List.mem_of_getElem? (i := 7) rfl) rfl
set_option maxRecDepth 20000 in
theorem rt_w581 : Cond.instanceMethod ⟨"RangeTeller$Foreteller", "fork", "(IZ)V"⟩ ∈ rt_tbl := rt_g3 (List.mem_of_getElem? (i := 9) rfl) rfl
set_option maxRecDepth 20000 in
theorem rt_w582 : Cond.code ⟨"RangeTeller$Foreteller", "fork", "(IZ)V"⟩ prog_3_method_10_code 6 (Option.none : Option Jvm.ClassFile.FieldType) ∈ rt_tbl := rt_g3 (List.mem_of_getElem? (i := 10) rfl) rfl
set_option maxRecDepth 20000 in
theorem rt_w583 : Cond.methodLink "RangeTeller$Foreteller" 137 ⟨"RangeTeller$Foreteller", "pop", "()I"⟩ ∈ rt_tbl := rt_g3 (List.mem_of_getElem? (i := 11) rfl) rfl
set_option maxRecDepth 20000 in
theorem rt_w585 : Cond.instanceMethod ⟨"RangeTeller$Foreteller", "pop", "()I"⟩ ∈ rt_tbl := rt_g3 (List.mem_of_getElem? (i := 13) rfl) rfl
set_option maxRecDepth 20000 in
theorem rt_w586 : Cond.code ⟨"RangeTeller$Foreteller", "pop", "()I"⟩ prog_3_method_24_code 1 (Option.some Jvm.ClassFile.FieldType.int) ∈ rt_tbl := rt_g3 (List.mem_of_getElem? (i := 14) rfl) rfl
set_option maxRecDepth 20000 in
theorem rt_w587 : Cond.methodLink "RangeTeller$Foreteller" 93 ⟨"RangeTeller$Ranges", "canBeZero", "(I)Z"⟩ ∈ rt_tbl := rt_g3 (List.mem_of_getElem? (i := 15) rfl) rfl
set_option maxRecDepth 20000 in
theorem rt_w588 : Cond.static ⟨"RangeTeller$Ranges", "canBeZero", "(I)Z"⟩ ∈ rt_tbl := rt_g3 (List.mem_of_getElem? (i := 16) rfl) rfl
set_option maxRecDepth 20000 in
theorem rt_w589 : Cond.code ⟨"RangeTeller$Ranges", "canBeZero", "(I)Z"⟩ prog_6_method_5_code 1 (Option.some Jvm.ClassFile.FieldType.boolean) ∈ rt_tbl := rt_g3 (List.mem_of_getElem? (i := 17) rfl) rfl
set_option maxRecDepth 20000 in
theorem rt_w590 : Cond.methodLink "RangeTeller$Ranges" 11 ⟨"RangeTeller$Ranges", "least", "(I)I"⟩ ∈ rt_tbl := rt_g3 (List.mem_of_getElem? (i := 18) rfl) rfl
set_option maxRecDepth 20000 in
theorem rt_w591 : Cond.static ⟨"RangeTeller$Ranges", "least", "(I)I"⟩ ∈ rt_tbl := rt_g3 (List.mem_of_getElem? (i := 19) rfl) rfl
set_option maxRecDepth 20000 in
theorem rt_w592 : Cond.code ⟨"RangeTeller$Ranges", "least", "(I)I"⟩ prog_6_method_3_code 1 (Option.some Jvm.ClassFile.FieldType.int) ∈ rt_tbl := rt_g3 (List.mem_of_getElem? (i := 20) rfl) rfl
set_option maxRecDepth 20000 in
theorem rt_w593 : Cond.methodLink "RangeTeller$Foreteller" 141 ⟨"RangeTeller$Ranges", "canBeOther", "(I)Z"⟩ ∈ rt_tbl := rt_g3 (List.mem_of_getElem? (i := 21) rfl) rfl
set_option maxRecDepth 20000 in
theorem rt_w594 : Cond.static ⟨"RangeTeller$Ranges", "canBeOther", "(I)Z"⟩ ∈ rt_tbl := rt_g3 (List.mem_of_getElem? (i := 22) rfl) rfl
set_option maxRecDepth 20000 in
theorem rt_w595 : Cond.code ⟨"RangeTeller$Ranges", "canBeOther", "(I)Z"⟩ prog_6_method_6_code 1 (Option.some Jvm.ClassFile.FieldType.boolean) ∈ rt_tbl := rt_g3 (List.mem_of_getElem? (i := 23) rfl) rfl
set_option maxRecDepth 20000 in
theorem rt_w596 : Cond.methodLink "RangeTeller$Ranges" 15 ⟨"RangeTeller$Ranges", "greatest", "(I)I"⟩ ∈ rt_tbl := rt_g3 (List.mem_of_getElem? (i := 24) rfl) rfl
set_option maxRecDepth 20000 in
theorem rt_w597 : Cond.static ⟨"RangeTeller$Ranges", "greatest", "(I)I"⟩ ∈ rt_tbl := rt_g3 (List.mem_of_getElem? (i := 25) rfl) rfl
set_option maxRecDepth 20000 in
theorem rt_w598 : Cond.code ⟨"RangeTeller$Ranges", "greatest", "(I)I"⟩ prog_6_method_4_code 1 (Option.some Jvm.ClassFile.FieldType.int) ∈ rt_tbl := rt_g3 (List.mem_of_getElem? (i := 26) rfl) rfl
set_option maxRecDepth 20000 in
theorem rt_w599 : Cond.methodLink "RangeTeller$Foreteller" 127 ⟨"RangeTeller$Foreteller", "jump", "(I)V"⟩ ∈ rt_tbl := rt_g3 (List.mem_of_getElem? (i := 27) rfl) rfl
set_option maxRecDepth 20000 in
theorem rt_w601 : Cond.instanceMethod ⟨"RangeTeller$Foreteller", "jump", "(I)V"⟩ ∈ rt_tbl := rt_g3 (List.mem_of_getElem? (i := 29) rfl) rfl
set_option maxRecDepth 20000 in
theorem rt_w602 : Cond.code ⟨"RangeTeller$Foreteller", "jump", "(I)V"⟩ prog_3_method_11_code 3 (Option.none : Option Jvm.ClassFile.FieldType) ∈ rt_tbl := rt_g3 (List.mem_of_getElem? (i := 30) rfl) rfl
set_option maxRecDepth 20000 in
theorem rt_w603 : Cond.methodLink "RangeTeller$Foreteller" 147 ⟨"RangeTeller$Foreteller", "leave", "(I)V"⟩ ∈ rt_tbl := rt_g3 (List.mem_of_getElem? (i := 31) rfl) rfl
set_option maxRecDepth 20000 in
theorem rt_w605 : Cond.instanceMethod ⟨"RangeTeller$Foreteller", "leave", "(I)V"⟩ ∈ rt_tbl := rt_g3 (List.mem_of_getElem? (i := 33) rfl) rfl
set_option maxRecDepth 20000 in
theorem rt_w606 : Cond.code ⟨"RangeTeller$Foreteller", "leave", "(I)V"⟩ prog_3_method_12_code 3 (Option.none : Option Jvm.ClassFile.FieldType) ∈ rt_tbl := rt_g3 (List.mem_of_getElem? (i := 34) rfl) rfl
set_option maxRecDepth 20000 in
theorem rt_w607 : Cond.methodLink "RangeTeller$Foreteller" 160 ⟨"RangeTeller$Foreteller", "wake", "(I)V"⟩ ∈ rt_tbl := rt_g3 (List.mem_of_getElem? (i := 35) rfl) rfl
set_option maxRecDepth 20000 in
theorem rt_w609 : Cond.instanceMethod ⟨"RangeTeller$Foreteller", "wake", "(I)V"⟩ ∈ rt_tbl := rt_g3 (List.mem_of_getElem? (i := 37) rfl) rfl
set_option maxRecDepth 20000 in
theorem rt_w610 : Cond.code ⟨"RangeTeller$Foreteller", "wake", "(I)V"⟩ prog_3_method_17_code 3 (Option.none : Option Jvm.ClassFile.FieldType) ∈ rt_tbl := rt_g3 (List.mem_of_getElem? (i := 38) rfl) rfl
set_option maxRecDepth 20000 in
theorem rt_w611 : Cond.methodLink "RangeTeller$Foreteller" 130 ⟨"RangeTeller$Foreteller", "call", "(II)V"⟩ ∈ rt_tbl := rt_g3 (List.mem_of_getElem? (i := 39) rfl) rfl
set_option maxRecDepth 20000 in
theorem rt_w613 : Cond.instanceMethod ⟨"RangeTeller$Foreteller", "call", "(II)V"⟩ ∈ rt_tbl := rt_g3 (List.mem_of_getElem? (i := 41) rfl) rfl
set_option maxRecDepth 20000 in
theorem rt_w614 : Cond.code ⟨"RangeTeller$Foreteller", "call", "(II)V"⟩ prog_3_method_13_code 4 (Option.none : Option Jvm.ClassFile.FieldType) ∈ rt_tbl := rt_g3 (List.mem_of_getElem? (i := 42) rfl) rfl
set_option maxRecDepth 20000 in
theorem rt_w615 : Cond.methodLink "RangeTeller$Foreteller" 168 ⟨"RangeTeller$Foreteller", "push", "(I)V"⟩ ∈ rt_tbl := rt_g3 (List.mem_of_getElem? (i := 43) rfl) rfl
set_option maxRecDepth 20000 in
theorem rt_w617 : Cond.instanceMethod ⟨"RangeTeller$Foreteller", "push", "(I)V"⟩ ∈ rt_tbl := rt_g3 (List.mem_of_getElem? (i := 45) rfl) rfl
set_option maxRecDepth 20000 in
theorem rt_w618 : Cond.code ⟨"RangeTeller$Foreteller", "push", "(I)V"⟩ prog_3_method_23_code 2 (Option.none : Option Jvm.ClassFile.FieldType) ∈ rt_tbl := rt_g3 (List.mem_of_getElem? (i := 46) rfl) rfl
set_option maxRecDepth 20000 in
theorem rt_w619 : Cond.methodLink "RangeTeller$Foreteller" 134 ⟨"RangeTeller$Foreteller", "operate", "(II)Z"⟩ ∈ rt_tbl := rt_g3 (List.mem_of_getElem? (i := 47) rfl) rfl
set_option maxRecDepth 20000 in
theorem rt_w621 : Cond.instanceMethod ⟨"RangeTeller$Foreteller", "operate", "(II)Z"⟩ ∈ rt_tbl := rt_g3 (List.mem_of_getElem? (i := 49) rfl) rfl
set_option maxRecDepth 20000 in
theorem rt_w622 : Cond.code ⟨"RangeTeller$Foreteller", "operate", "(II)Z"⟩ prog_3_method_18_code 3 (Option.some Jvm.ClassFile.FieldType.boolean) ∈ rt_tbl := rt_g3 (List.mem_of_getElem? (i := 50) rfl) rfl
set_option maxRecDepth 20000 in
theorem rt_w623 : Cond.methodLink "RangeTeller$Foreteller" 174 ⟨"RangeTeller$Foreteller", "pick", "()V"⟩ ∈ rt_tbl := rt_g3 (List.mem_of_getElem? (i := 51) rfl) rfl
set_option maxRecDepth 20000 in
theorem rt_w625 : Cond.instanceMethod ⟨"RangeTeller$Foreteller", "pick", "()V"⟩ ∈ rt_tbl := rt_g3 (List.mem_of_getElem? (i := 53) rfl) rfl
set_option maxRecDepth 20000 in
theorem rt_w626 : Cond.code ⟨"RangeTeller$Foreteller", "pick", "()V"⟩ prog_3_method_19_code 4 (Option.none : Option Jvm.ClassFile.FieldType) ∈ rt_tbl := rt_g3 (List.mem_of_getElem? (i := 54) rfl) rfl
set_option maxRecDepth 20000 in
theorem rt_w627 : Cond.methodLink "RangeTeller$Foreteller" 192 ⟨"RangeTeller$Ranges", "pick", "(III)I"⟩ ∈ rt_tbl := rt_g3 (List.mem_of_getElem? (i := 55) rfl) rfl
set_option maxRecDepth 20000 in
theorem rt_w628 : Cond.static ⟨"RangeTeller$Ranges", "pick", "(III)I"⟩ ∈ rt_tbl := rt_g3 (List.mem_of_getElem? (i := 56) rfl) rfl
set_option maxRecDepth 20000 in
theorem rt_w629 : Cond.code ⟨"RangeTeller$Ranges", "pick", "(III)I"⟩ prog_6_method_10_code 4 (Option.some Jvm.ClassFile.FieldType.int) ∈ rt_tbl := rt_g3 (List.mem_of_getElem? (i := 57) rfl) rfl
set_option maxRecDepth 20000 in
theorem rt_w630 : Cond.methodLink "RangeTeller$Ranges" 22 ⟨"RangeTeller$Ranges", "canBeOther", "(I)Z"⟩ ∈ rt_tbl := rt_g3 (List.mem_of_getElem? (i := 58) rfl) rfl
set_option maxRecDepth 20000 in
theorem rt_w631 : Cond.methodLink "RangeTeller$Ranges" 18 ⟨"RangeTeller$Ranges", "canBeZero", "(I)Z"⟩ ∈ rt_tbl := rt_g3 (List.mem_of_getElem? (i := 59) rfl) rfl
set_option maxRecDepth 20000 in
theorem rt_w632 : Cond.methodLink "RangeTeller$Ranges" 32 ⟨"RangeTeller$Ranges", "join", "(II)I"⟩ ∈ rt_tbl := rt_g3 (List.mem_of_getElem? (i := 60) rfl) rfl
set_option maxRecDepth 20000 in
theorem rt_w633 : Cond.methodLink "RangeTeller$Ranges" 29 ⟨"RangeTeller$Ranges", "taintOf", "(I)I"⟩ ∈ rt_tbl := rt_g3 (List.mem_of_getElem? (i := 61) rfl) rfl
set_option maxRecDepth 20000 in
theorem rt_w634 : Cond.static ⟨"RangeTeller$Ranges", "taintOf", "(I)I"⟩ ∈ rt_tbl := rt_g3 (List.mem_of_getElem? (i := 62) rfl) rfl
set_option maxRecDepth 20000 in
theorem rt_w635 : Cond.code ⟨"RangeTeller$Ranges", "taintOf", "(I)I"⟩ prog_6_method_7_code 1 (Option.some Jvm.ClassFile.FieldType.int) ∈ rt_tbl := rt_g3 (List.mem_of_getElem? (i := 63) rfl) rfl
set_option maxRecDepth 20000 in
theorem rt_w636 : Cond.methodLink "RangeTeller$Foreteller" 177 ⟨"RangeTeller$Foreteller", "fetch", "(I)Z"⟩ ∈ rt_tbl := rt_g3 (List.mem_of_getElem? (i := 64) rfl) rfl
set_option maxRecDepth 20000 in
theorem rt_w638 : Cond.instanceMethod ⟨"RangeTeller$Foreteller", "fetch", "(I)Z"⟩ ∈ rt_tbl := rt_g3 (List.mem_of_getElem? (i := 66) rfl) rfl
set_option maxRecDepth 20000 in
theorem rt_w639 : Cond.code ⟨"RangeTeller$Foreteller", "fetch", "(I)Z"⟩ prog_3_method_20_code 6 (Option.some Jvm.ClassFile.FieldType.boolean) ∈ rt_tbl := rt_g3 (List.mem_of_getElem? (i := 67) rfl) rfl
set_option maxRecDepth 20000 in
theorem rt_w640 : Cond.methodLink "RangeTeller$Foreteller" 100 ⟨"RangeTeller$Ranges", "greatest", "(I)I"⟩ ∈ rt_tbl := rt_g3 (List.mem_of_getElem? (i := 68) rfl) rfl
set_option maxRecDepth 20000 in
theorem rt_w641 : Cond.methodLink "RangeTeller$Foreteller" 195 ⟨"java/lang/Math", "min", "(II)I"⟩ ∈ rt_tbl := rt_g3 (List.mem_of_getElem? (i := 69) rfl) rfl
set_option maxRecDepth 20000 in
theorem rt_w642 : Cond.static ⟨"java/lang/Math", "min", "(II)I"⟩ ∈ rt_tbl := rt_g3 (List.mem_of_getElem? (i := 70) rfl) rfl
set_option maxRecDepth 20000 in
theorem rt_w643 : Cond.code ⟨"java/lang/Math", "min", "(II)I"⟩ prog_11_method_69_code 2 (Option.some Jvm.ClassFile.FieldType.int) ∈ rt_tbl := rt_g3 (List.mem_of_getElem? (i := 71) rfl) rfl
set_option maxRecDepth 20000 in
theorem rt_w644 : Cond.methodLink "RangeTeller$Foreteller" 200 ⟨"RangeTeller$Ranges", "least", "(I)I"⟩ ∈ rt_tbl := rt_g3 (List.mem_of_getElem? (i := 72) rfl) rfl
set_option maxRecDepth 20000 in
theorem rt_w645 : Cond.methodLink "RangeTeller$Foreteller" 97 ⟨"RangeTeller$Ranges", "taintOf", "(I)I"⟩ ∈ rt_tbl := rt_g3 (List.mem_of_getElem? (i := 73) rfl) rfl
set_option maxRecDepth 20000 in
theorem rt_w646 : Cond.methodLink "RangeTeller$Foreteller" 180 ⟨"RangeTeller$Foreteller", "store", "(I)Z"⟩ ∈ rt_tbl := rt_g3 (List.mem_of_getElem? (i := 74) rfl) rfl
set_option maxRecDepth 20000 in
theorem rt_w648 : Cond.instanceMethod ⟨"RangeTeller$Foreteller", "store", "(I)Z"⟩ ∈ rt_tbl := rt_g3 (List.mem_of_getElem? (i := 76) rfl) rfl
set_option maxRecDepth 20000 in
theorem rt_w649 : Cond.code ⟨"RangeTeller$Foreteller", "store", "(I)Z"⟩ prog_3_method_21_code 9 (Option.some Jvm.ClassFile.FieldType.boolean) ∈ rt_tbl := rt_g3 (List.mem_of_getElem? (i := 77) rfl) rfl
set_option maxRecDepth 20000 in
theorem rt_w650 : Cond.methodLink "RangeTeller$Foreteller" 183 ⟨"RangeTeller$Ranges", "of", "(II)I"⟩ ∈ rt_tbl := rt_g3 (List.mem_of_getElem? (i := 78) rfl) rfl
set_option maxRecDepth 20000 in
theorem rt_w651 : Cond.static ⟨"RangeTeller$Ranges", "of", "(II)I"⟩ ∈ rt_tbl := rt_g3 (List.mem_of_getElem? (i := 79) rfl) rfl
set_option maxRecDepth 20000 in
theorem rt_w652 : Cond.code ⟨"RangeTeller$Ranges", "of", "(II)I"⟩ prog_6_method_2_code 2 (Option.some Jvm.ClassFile.FieldType.int) ∈ rt_tbl := rt_g3 (List.mem_of_getElem? (i := 80) rfl) rfl
set_option maxRecDepth 20000 in
theorem rt_w653 : Cond.methodLink "RangeTeller$Foreteller" 186 ⟨"RangeTeller$Ranges", "not", "(I)I"⟩ ∈ rt_tbl := rt_g3 (List.mem_of_getElem? (i := 81) rfl) rfl
set_option maxRecDepth 20000 in
theorem rt_w654 : Cond.static ⟨"RangeTeller$Ranges", "not", "(I)I"⟩ ∈ rt_tbl := rt_g3 (List.mem_of_getElem? (i := 82) rfl) rfl
set_option maxRecDepth 20000 in
theorem rt_w655 : Cond.code ⟨"RangeTeller$Ranges", "not", "(I)I"⟩ prog_6_method_9_code 1 (Option.some Jvm.ClassFile.FieldType.int) ∈ rt_tbl := rt_g3 (List.mem_of_getElem? (i := 83) rfl) rfl
set_option maxRecDepth 20000 in
theorem rt_w656 : Cond.methodLink "RangeTeller$Ranges" 25 ⟨"RangeTeller$Ranges", "truth", "(ZZ)I"⟩ ∈ rt_tbl := rt_g3 (List.mem_of_getElem? (i := 84) rfl) rfl
set_option maxRecDepth 20000 in
theorem rt_w657 : Cond.static ⟨"RangeTeller$Ranges", "truth", "(ZZ)I"⟩ ∈ rt_tbl := rt_g3 (List.mem_of_getElem? (i := 85) rfl) rfl
set_option maxRecDepth 20000 in
theorem rt_w658 : Cond.code ⟨"RangeTeller$Ranges", "truth", "(ZZ)I"⟩ prog_6_method_12_code 2 (Option.some Jvm.ClassFile.FieldType.int) ∈ rt_tbl := rt_g3 (List.mem_of_getElem? (i := 86) rfl) rfl
set_option maxRecDepth 20000 in
theorem rt_w659 : Cond.methodLink "RangeTeller$Ranges" 57 ⟨"RangeTeller$Ranges", "of", "(II)I"⟩ ∈ rt_tbl := rt_g3 (List.mem_of_getElem? (i := 87) rfl) rfl
set_option maxRecDepth 20000 in
theorem rt_w660 : Cond.methodLink "RangeTeller$Foreteller" 189 ⟨"RangeTeller$Foreteller", "reckon", "(I)Z"⟩ ∈ rt_tbl := rt_g3 (List.mem_of_getElem? (i := 88) rfl) rfl
set_option maxRecDepth 20000 in
theorem rt_w662 : Cond.instanceMethod ⟨"RangeTeller$Foreteller", "reckon", "(I)Z"⟩ ∈ rt_tbl := rt_g3 (List.mem_of_getElem? (i := 90) rfl) rfl
set_option maxRecDepth 20000 in
theorem rt_w663 : Cond.code ⟨"RangeTeller$Foreteller", "reckon", "(I)Z"⟩ prog_3_method_22_code 5 (Option.some Jvm.ClassFile.FieldType.boolean) ∈ rt_tbl := rt_g3 (List.mem_of_getElem? (i := 91) rfl) rfl
set_option maxRecDepth 20000 in
theorem rt_w664 : Cond.methodLink "RangeTeller$Foreteller" 203 ⟨"RangeTeller$Ranges", "reckoned", "(III)I"⟩ ∈ rt_tbl := rt_g3 (List.mem_of_getElem? (i := 92) rfl) rfl
set_option maxRecDepth 20000 in
theorem rt_w665 : Cond.static ⟨"RangeTeller$Ranges", "reckoned", "(III)I"⟩ ∈ rt_tbl := rt_g3 (List.mem_of_getElem? (i := 93) rfl) rfl
set_option maxRecDepth 20000 in
theorem rt_w666 : Cond.code ⟨"RangeTeller$Ranges", "reckoned", "(III)I"⟩ prog_6_method_11_code 3 (Option.some Jvm.ClassFile.FieldType.int) ∈ rt_tbl := rt_g3 (List.mem_of_getElem? (i := 94) rfl) rfl
set_option maxRecDepth 20000 in
theorem rt_w667 : Cond.methodLink "RangeTeller$Ranges" 36 ⟨"RangeTeller$Ranges", "same", "(II)I"⟩ ∈ rt_tbl := rt_g3 (List.mem_of_getElem? (i := 95) rfl) rfl
set_option maxRecDepth 20000 in
theorem rt_w668 : Cond.static ⟨"RangeTeller$Ranges", "same", "(II)I"⟩ ∈ rt_tbl := rt_g3 (List.mem_of_getElem? (i := 96) rfl) rfl
set_option maxRecDepth 20000 in
theorem rt_w669 : Cond.code ⟨"RangeTeller$Ranges", "same", "(II)I"⟩ prog_6_method_13_code 4 (Option.some Jvm.ClassFile.FieldType.int) ∈ rt_tbl := rt_g3 (List.mem_of_getElem? (i := 97) rfl) rfl
set_option maxRecDepth 20000 in
theorem rt_w670 : Cond.methodLink "RangeTeller$Ranges" 39 ⟨"RangeTeller$Ranges", "wrapped", "(II)I"⟩ ∈ rt_tbl := rt_g3 (List.mem_of_getElem? (i := 98) rfl) rfl
set_option maxRecDepth 20000 in
theorem rt_w671 : Cond.static ⟨"RangeTeller$Ranges", "wrapped", "(II)I"⟩ ∈ rt_tbl := rt_g3 (List.mem_of_getElem? (i := 99) rfl) rfl
set_option maxRecDepth 20000 in
theorem rt_w672 : Cond.code ⟨"RangeTeller$Ranges", "wrapped", "(II)I"⟩ prog_6_method_14_code 2 (Option.some Jvm.ClassFile.FieldType.int) ∈ rt_tbl := rt_g3 (List.mem_of_getElem? (i := 100) rfl) rfl
set_option maxRecDepth 20000 in
theorem rt_w673 : Cond.methodLink "RangeTeller$Ranges" 60 ⟨"java/lang/Math", "floorDiv", "(II)I"⟩ ∈ rt_tbl := rt_g3 (List.mem_of_getElem? (i := 101) rfl) rfl
set_option maxRecDepth 20000 in
theorem rt_w674 : Cond.static ⟨"java/lang/Math", "floorDiv", "(II)I"⟩ ∈ rt_tbl := rt_g3 (List.mem_of_getElem? (i := 102) rfl) rfl
set_option maxRecDepth 20000 in
theorem rt_w675 : Cond.code ⟨"java/lang/Math", "floorDiv", "(II)I"⟩ prog_11_method_47_code 3 (Option.some Jvm.ClassFile.FieldType.int) ∈ rt_tbl := rt_g3 (List.mem_of_getElem? (i := 103) rfl) rfl
set_option maxRecDepth 20000 in
theorem rt_w676 : Cond.methodLink "RangeTeller$Ranges" 65 ⟨"java/lang/Math", "floorMod", "(II)I"⟩ ∈ rt_tbl := rt_g3 (List.mem_of_getElem? (i := 104) rfl) rfl
set_option maxRecDepth 20000 in
theorem rt_w677 : Cond.static ⟨"java/lang/Math", "floorMod", "(II)I"⟩ ∈ rt_tbl := rt_g3 (List.mem_of_getElem? (i := 105) rfl) rfl
set_option maxRecDepth 20000 in
theorem rt_w678 : Cond.code ⟨"java/lang/Math", "floorMod", "(II)I"⟩ prog_11_method_50_code 3 (Option.some Jvm.ClassFile.FieldType.int) ∈ rt_tbl := rt_g3 (List.mem_of_getElem? (i := 106) rfl) rfl
set_option maxRecDepth 20000 in
theorem rt_w679 : Cond.methodLink "RangeTeller$Ranges" 42 ⟨"RangeTeller$Ranges", "times", "(II)I"⟩ ∈ rt_tbl := rt_g3 (List.mem_of_getElem? (i := 107) rfl) rfl
set_option maxRecDepth 20000 in
theorem rt_w680 : Cond.static ⟨"RangeTeller$Ranges", "times", "(II)I"⟩ ∈ rt_tbl := rt_g3 (List.mem_of_getElem? (i := 108) rfl) rfl
set_option maxRecDepth 20000 in
theorem rt_w681 : Cond.code ⟨"RangeTeller$Ranges", "times", "(II)I"⟩ prog_6_method_15_code 7 (Option.some Jvm.ClassFile.FieldType.int) ∈ rt_tbl := rt_g3 (List.mem_of_getElem? (i := 109) rfl) rfl
set_option maxRecDepth 20000 in
theorem rt_w682 : Cond.methodLink "RangeTeller$Ranges" 68 ⟨"java/lang/Math", "min", "(II)I"⟩ ∈ rt_tbl := rt_g3 (List.mem_of_getElem? (i := 110) rfl) rfl
set_option maxRecDepth 20000 in
theorem rt_w683 : Cond.methodLink "RangeTeller$Ranges" 71 ⟨"java/lang/Math", "max", "(II)I"⟩ ∈ rt_tbl := rt_g3 (List.mem_of_getElem? (i := 111) rfl) rfl
set_option maxRecDepth 20000 in
theorem rt_w684 : Cond.static ⟨"java/lang/Math", "max", "(II)I"⟩ ∈ rt_tbl := rt_g3 (List.mem_of_getElem? (i := 112) rfl) rfl
set_option maxRecDepth 20000 in
theorem rt_w685 : Cond.code ⟨"java/lang/Math", "max", "(II)I"⟩ prog_11_method_65_code 2 (Option.some Jvm.ClassFile.FieldType.int) ∈ rt_tbl := rt_g3 (List.mem_of_getElem? (i := 113) rfl) rfl
set_option maxRecDepth 20000 in
theorem rt_w686 : Cond.methodLink "RangeTeller$Ranges" 45 ⟨"RangeTeller$Ranges", "over", "(II)I"⟩ ∈ rt_tbl := rt_g3 (List.mem_of_getElem? (i := 114) rfl) rfl
set_option maxRecDepth 20000 in
theorem rt_w687 : Cond.static ⟨"RangeTeller$Ranges", "over", "(II)I"⟩ ∈ rt_tbl := rt_g3 (List.mem_of_getElem? (i := 115) rfl) rfl
set_option maxRecDepth 20000 in
theorem rt_w688 : Cond.code ⟨"RangeTeller$Ranges", "over", "(II)I"⟩ prog_6_method_16_code 3 (Option.some Jvm.ClassFile.FieldType.int) ∈ rt_tbl := rt_g3 (List.mem_of_getElem? (i := 116) rfl) rfl
set_option maxRecDepth 20000 in
theorem rt_w689 : Cond.methodLink "RangeTeller$Ranges" 48 ⟨"RangeTeller$Ranges", "rest", "(II)I"⟩ ∈ rt_tbl := rt_g3 (List.mem_of_getElem? (i := 117) rfl) rfl
set_option maxRecDepth 20000 in
theorem rt_w690 : Cond.static ⟨"RangeTeller$Ranges", "rest", "(II)I"⟩ ∈ rt_tbl := rt_g3 (List.mem_of_getElem? (i := 118) rfl) rfl
set_option maxRecDepth 20000 in
theorem rt_w691 : Cond.code ⟨"RangeTeller$Ranges", "rest", "(II)I"⟩ prog_6_method_17_code 8 (Option.some Jvm.ClassFile.FieldType.int) ∈ rt_tbl := rt_g3 (List.mem_of_getElem? (i := 119) rfl) rfl
set_option maxRecDepth 20000 in
theorem rt_w692 : Cond.methodLink "RangeTeller$Ranges" 51 ⟨"RangeTeller$Ranges", "leastBoth", "(II)I"⟩ ∈ rt_tbl := rt_g3 (List.mem_of_getElem? (i := 120) rfl) rfl
set_option maxRecDepth 20000 in
theorem rt_w693 : Cond.static ⟨"RangeTeller$Ranges", "leastBoth", "(II)I"⟩ ∈ rt_tbl := rt_g3 (List.mem_of_getElem? (i := 121) rfl) rfl
set_option maxRecDepth 20000 in
theorem rt_w694 : Cond.code ⟨"RangeTeller$Ranges", "leastBoth", "(II)I"⟩ prog_6_method_18_code 7 (Option.some Jvm.ClassFile.FieldType.int) ∈ rt_tbl := rt_g3 (List.mem_of_getElem? (i := 122) rfl) rfl
set_option maxRecDepth 20000 in
theorem rt_w695 : Cond.methodLink "RangeTeller$Ranges" 54 ⟨"RangeTeller$Ranges", "greatestBoth", "(II)I"⟩ ∈ rt_tbl := rt_g3 (List.mem_of_getElem? (i := 123) rfl) rfl
set_option maxRecDepth 20000 in
theorem rt_w696 : Cond.static ⟨"RangeTeller$Ranges", "greatestBoth", "(II)I"⟩ ∈ rt_tbl := rt_g3 (List.mem_of_getElem? (i := 124) rfl) rfl
set_option maxRecDepth 20000 in
theorem rt_w697 : Cond.code ⟨"RangeTeller$Ranges", "greatestBoth", "(II)I"⟩ prog_6_method_19_code 7 (Option.some Jvm.ClassFile.FieldType.int) ∈ rt_tbl := rt_g3 (List.mem_of_getElem? (i := 125) rfl) rfl
set_option maxRecDepth 20000 in
theorem rt_w698 : Cond.methodLink "RangeTellerLaw" 23 ⟨"RangeTeller", "place", "()I"⟩ ∈ rt_tbl := rt_g3 (List.mem_of_getElem? (i := 126) rfl) rfl
set_option maxRecDepth 20000 in
theorem rt_w699 : Cond.instanceMethod ⟨"RangeTeller", "place", "()I"⟩ ∈ rt_tbl := rt_g3 (List.mem_of_getElem? (i := 127) rfl) rfl
set_option maxRecDepth 20000 in
theorem rt_w700 : Cond.selects "RangeTeller" ⟨"RangeTeller", "place", "()I"⟩ ⟨"RangeTeller", "place", "()I"⟩ ∈ rt_tbl := rt_g3 (List.mem_of_getElem? (i := 128) rfl) rfl
set_option maxRecDepth 20000 in
theorem rt_w701 : Cond.code ⟨"RangeTeller", "place", "()I"⟩ prog_1_method_4_code 1 (Option.some Jvm.ClassFile.FieldType.int) ∈ rt_tbl := rt_g3 (List.mem_of_getElem? (i := 129) rfl) rfl
set_option maxRecDepth 20000 in
theorem rt_w702 : Cond.methodLink "RangeTellerLaw" 27 ⟨"RangeTeller", "input", "(I)I"⟩ ∈ rt_tbl := rt_g3 (List.mem_of_getElem? (i := 130) rfl) rfl
set_option maxRecDepth 20000 in
theorem rt_w703 : Cond.instanceMethod ⟨"RangeTeller", "input", "(I)I"⟩ ∈ rt_tbl := rt_g3 (List.mem_of_getElem? (i := 131) rfl) rfl
set_option maxRecDepth 20000 in
theorem rt_w704 : Cond.selects "RangeTeller" ⟨"RangeTeller", "input", "(I)I"⟩ ⟨"RangeTeller", "input", "(I)I"⟩ ∈ rt_tbl := rt_g3 (List.mem_of_getElem? (i := 132) rfl) rfl
set_option maxRecDepth 20000 in
theorem rt_w705 : Cond.code ⟨"RangeTeller", "input", "(I)I"⟩ prog_1_method_5_code 2 (Option.some Jvm.ClassFile.FieldType.int) ∈ rt_tbl := rt_g3 (List.mem_of_getElem? (i := 133) rfl) rfl
set_option maxRecDepth 20000 in
theorem rt_w706 : Cond.methodLink "RangeTeller" 74 ⟨"RangeTeller$Runner", "addInput", "(I)I"⟩ ∈ rt_tbl := rt_g3 (List.mem_of_getElem? (i := 134) rfl) rfl
set_option maxRecDepth 20000 in
theorem rt_w707 : Cond.instanceMethod ⟨"RangeTeller$Runner", "addInput", "(I)I"⟩ ∈ rt_tbl := rt_g3 (List.mem_of_getElem? (i := 135) rfl) rfl
set_option maxRecDepth 20000 in
theorem rt_w708 : Cond.selects "RangeTeller$Runner" ⟨"RangeTeller$Runner", "addInput", "(I)I"⟩ ⟨"RangeTeller$Runner", "addInput", "(I)I"⟩ ∈ rt_tbl := rt_g3 (List.mem_of_getElem? (i := 136) rfl) rfl
set_option maxRecDepth 20000 in
theorem rt_w709 : Cond.code ⟨"RangeTeller$Runner", "addInput", "(I)I"⟩ prog_8_method_3_code 2 (Option.some Jvm.ClassFile.FieldType.int) ∈ rt_tbl := rt_g3 (List.mem_of_getElem? (i := 137) rfl) rfl
set_option maxRecDepth 20000 in
theorem rt_w710 : Cond.methodLink "RangeTellerLaw" 32 ⟨"RangeTeller", "run", "(III)I"⟩ ∈ rt_tbl := rt_g3 (List.mem_of_getElem? (i := 138) rfl) rfl
set_option maxRecDepth 20000 in
theorem rt_w711 : Cond.instanceMethod ⟨"RangeTeller", "run", "(III)I"⟩ ∈ rt_tbl := rt_g3 (List.mem_of_getElem? (i := 139) rfl) rfl
set_option maxRecDepth 20000 in
theorem rt_w712 : Cond.selects "RangeTeller" ⟨"RangeTeller", "run", "(III)I"⟩ ⟨"RangeTeller", "run", "(III)I"⟩ ∈ rt_tbl := rt_g3 (List.mem_of_getElem? (i := 140) rfl) rfl
set_option maxRecDepth 20000 in
theorem rt_w713 : Cond.code ⟨"RangeTeller", "run", "(III)I"⟩ prog_1_method_6_code 4 (Option.some Jvm.ClassFile.FieldType.int) ∈ rt_tbl := rt_g3 (List.mem_of_getElem? (i := 141) rfl) rfl
set_option maxRecDepth 20000 in
theorem rt_w714 : Cond.methodLink "RangeTeller" 78 ⟨"java/lang/Math", "min", "(II)I"⟩ ∈ rt_tbl := rt_g3 (List.mem_of_getElem? (i := 142) rfl) rfl
set_option maxRecDepth 20000 in
theorem rt_w715 : Cond.methodLink "RangeTeller" 84 ⟨"java/lang/Math", "max", "(II)I"⟩ ∈ rt_tbl := rt_g3 (List.mem_of_getElem? (i := 143) rfl) rfl
set_option maxRecDepth 20000 in
theorem rt_w716 : Cond.methodLink "RangeTeller" 87 ⟨"RangeTeller$Runner", "runWith", "(III)I"⟩ ∈ rt_tbl := rt_g3 (List.mem_of_getElem? (i := 144) rfl) rfl
set_option maxRecDepth 20000 in
theorem rt_w717 : Cond.instanceMethod ⟨"RangeTeller$Runner", "runWith", "(III)I"⟩ ∈ rt_tbl := rt_g3 (List.mem_of_getElem? (i := 145) rfl) rfl
set_option maxRecDepth 20000 in
theorem rt_w718 : Cond.selects "RangeTeller$Runner" ⟨"RangeTeller$Runner", "runWith", "(III)I"⟩ ⟨"RangeTeller$Runner", "runWith", "(III)I"⟩ ∈ rt_tbl := rt_g3 (List.mem_of_getElem? (i := 146) rfl) rfl
set_option maxRecDepth 20000 in
theorem rt_w719 : Cond.code ⟨"RangeTeller$Runner", "runWith", "(III)I"⟩ prog_8_method_4_code 4 (Option.some Jvm.ClassFile.FieldType.int) ∈ rt_tbl := rt_g3 (List.mem_of_getElem? (i := 147) rfl) rfl
set_option maxRecDepth 20000 in
theorem rt_w720 : Cond.methodLink "RangeTeller$Runner" 45 ⟨"java/lang/Math", "floorMod", "(II)I"⟩ ∈ rt_tbl := rt_g3 (List.mem_of_getElem? (i := 148) rfl) rfl
set_option maxRecDepth 20000 in
theorem rt_w721 : Cond.methodLink "RangeTeller$Runner" 51 ⟨"RangeTeller$Runner", "begin", "(II)V"⟩ ∈ rt_tbl := rt_g3 (List.mem_of_getElem? (i := 149) rfl) rfl
set_option maxRecDepth 20000 in
theorem rt_w723 : Cond.instanceMethod ⟨"RangeTeller$Runner", "begin", "(II)V"⟩ ∈ rt_tbl := rt_g3 (List.mem_of_getElem? (i := 151) rfl) rfl
set_option maxRecDepth 20000 in
theorem rt_w724 : Cond.code ⟨"RangeTeller$Runner", "begin", "(II)V"⟩ prog_8_method_5_code 3 (Option.none : Option Jvm.ClassFile.FieldType) ∈ rt_tbl := rt_g3 (List.mem_of_getElem? (i := 152) rfl) rfl
set_option maxRecDepth 20000 in
theorem rt_w725 : Cond.methodLink "RangeTeller$Runner" 68 ⟨"java/util/Arrays", "fill", "([II)V"⟩ ∈ rt_tbl := rt_g3 (List.mem_of_getElem? (i := 153) rfl) rfl
set_option maxRecDepth 20000 in
theorem rt_w726 : Cond.methodLink "RangeTeller$Runner" 94 ⟨"RangeTeller$Runner", "enter", "(I)V"⟩ ∈ rt_tbl := rt_g3 (List.mem_of_getElem? (i := 154) rfl) rfl
set_option maxRecDepth 20000 in
theorem rt_w728 : Cond.instanceMethod ⟨"RangeTeller$Runner", "enter", "(I)V"⟩ ∈ rt_tbl := rt_g3 (List.mem_of_getElem? (i := 156) rfl) rfl
set_option maxRecDepth 20000 in
theorem rt_w729 : Cond.code ⟨"RangeTeller$Runner", "enter", "(I)V"⟩ prog_8_method_6_code 4 (Option.none : Option Jvm.ClassFile.FieldType) ∈ rt_tbl := rt_g3 (List.mem_of_getElem? (i := 157) rfl) rfl
set_option maxRecDepth 20000 in
theorem rt_w730 : Cond.methodLink "RangeTeller$Runner" 64 ⟨"RangeTeller$Runner", "step", "(I)V"⟩ ∈ rt_tbl := rt_g3 (List.mem_of_getElem? (i := 158) rfl) rfl
set_option maxRecDepth 20000 in
theorem rt_w732 : Cond.instanceMethod ⟨"RangeTeller$Runner", "step", "(I)V"⟩ ∈ rt_tbl := rt_g3 (List.mem_of_getElem? (i := 160) rfl) rfl
set_option maxRecDepth 20000 in
theorem rt_w733 : Cond.code ⟨"RangeTeller$Runner", "step", "(I)V"⟩ prog_8_method_7_code 2 (Option.none : Option Jvm.ClassFile.FieldType) ∈ rt_tbl := rt_g3 (List.mem_of_getElem? (i := 161) rfl) rfl
set_option maxRecDepth 20000 in
theorem rt_w734 : Cond.methodLink "RangeTeller$Runner" 103 ⟨"RangeTeller$Runner", "pop", "()I"⟩ ∈ rt_tbl := rt_g3 (List.mem_of_getElem? (i := 162) rfl) rfl
set_option maxRecDepth 20000 in
theorem rt_w736 : Cond.instanceMethod ⟨"RangeTeller$Runner", "pop", "()I"⟩ ∈ rt_tbl := rt_g3 (List.mem_of_getElem? (i := 164) rfl) rfl
set_option maxRecDepth 20000 in
theorem rt_w737 : Cond.code ⟨"RangeTeller$Runner", "pop", "()I"⟩ prog_8_method_21_code 1 (Option.some Jvm.ClassFile.FieldType.int) ∈ rt_tbl := rt_g3 (List.mem_of_getElem? (i := 165) rfl) rfl
set_option maxRecDepth 20000 in
theorem rt_w738 : Cond.methodLink "RangeTeller$Runner" 107 ⟨"RangeTeller$Runner", "jumpIf", "(IZ)V"⟩ ∈ rt_tbl := rt_g3 (List.mem_of_getElem? (i := 166) rfl) rfl
set_option maxRecDepth 20000 in
theorem rt_w740 : Cond.instanceMethod ⟨"RangeTeller$Runner", "jumpIf", "(IZ)V"⟩ ∈ rt_tbl := rt_g3 (List.mem_of_getElem? (i := 168) rfl) rfl
set_option maxRecDepth 20000 in
theorem rt_w741 : Cond.code ⟨"RangeTeller$Runner", "jumpIf", "(IZ)V"⟩ prog_8_method_8_code 3 (Option.none : Option Jvm.ClassFile.FieldType) ∈ rt_tbl := rt_g3 (List.mem_of_getElem? (i := 169) rfl) rfl
set_option maxRecDepth 20000 in
theorem rt_w742 : Cond.methodLink "RangeTeller$Runner" 111 ⟨"RangeTeller$Runner", "jump", "(I)V"⟩ ∈ rt_tbl := rt_g3 (List.mem_of_getElem? (i := 170) rfl) rfl
set_option maxRecDepth 20000 in
theorem rt_w744 : Cond.instanceMethod ⟨"RangeTeller$Runner", "jump", "(I)V"⟩ ∈ rt_tbl := rt_g3 (List.mem_of_getElem? (i := 172) rfl) rfl
set_option maxRecDepth 20000 in
theorem rt_w745 : Cond.code ⟨"RangeTeller$Runner", "jump", "(I)V"⟩ prog_8_method_9_code 3 (Option.none : Option Jvm.ClassFile.FieldType) ∈ rt_tbl := rt_g3 (List.mem_of_getElem? (i := 173) rfl) rfl
set_option maxRecDepth 20000 in
theorem rt_w746 : Cond.methodLink "RangeTeller$Runner" 132 ⟨"RangeTeller$Runner", "leave", "(I)V"⟩ ∈ rt_tbl := rt_g3 (List.mem_of_getElem? (i := 174) rfl) rfl
set_option maxRecDepth 20000 in
theorem rt_w748 : Cond.instanceMethod ⟨"RangeTeller$Runner", "leave", "(I)V"⟩ ∈ rt_tbl := rt_g3 (List.mem_of_getElem? (i := 176) rfl) rfl
set_option maxRecDepth 20000 in
theorem rt_w749 : Cond.code ⟨"RangeTeller$Runner", "leave", "(I)V"⟩ prog_8_method_10_code 2 (Option.none : Option Jvm.ClassFile.FieldType) ∈ rt_tbl := rt_g3 (List.mem_of_getElem? (i := 177) rfl) rfl
set_option maxRecDepth 20000 in
theorem rt_w750 : Cond.methodLink "RangeTeller$Runner" 114 ⟨"RangeTeller$Runner", "call", "(I)V"⟩ ∈ rt_tbl := rt_g3 (List.mem_of_getElem? (i := 178) rfl) rfl
set_option maxRecDepth 20000 in
theorem rt_w752 : Cond.instanceMethod ⟨"RangeTeller$Runner", "call", "(I)V"⟩ ∈ rt_tbl := rt_g3 (List.mem_of_getElem? (i := 180) rfl) rfl
set_option maxRecDepth 20000 in
theorem rt_w753 : Cond.code ⟨"RangeTeller$Runner", "call", "(I)V"⟩ prog_8_method_11_code 2 (Option.none : Option Jvm.ClassFile.FieldType) ∈ rt_tbl := rt_g3 (List.mem_of_getElem? (i := 181) rfl) rfl
set_option maxRecDepth 20000 in
theorem rt_w754 : Cond.methodLink "RangeTeller$Runner" 120 ⟨"RangeTeller$Runner", "operate", "(II)V"⟩ ∈ rt_tbl := rt_g3 (List.mem_of_getElem? (i := 182) rfl) rfl
set_option maxRecDepth 20000 in
theorem rt_w756 : Cond.instanceMethod ⟨"RangeTeller$Runner", "operate", "(II)V"⟩ ∈ rt_tbl := rt_g3 (List.mem_of_getElem? (i := 184) rfl) rfl
set_option maxRecDepth 20000 in
theorem rt_w757 : Cond.code ⟨"RangeTeller$Runner", "operate", "(II)V"⟩ prog_8_method_12_code 4 (Option.none : Option Jvm.ClassFile.FieldType) ∈ rt_tbl := rt_g3 (List.mem_of_getElem? (i := 185) rfl) rfl
set_option maxRecDepth 20000 in
theorem rt_w758 : Cond.methodLink "RangeTeller$Runner" 135 ⟨"RangeTeller$Runner", "pick", "()V"⟩ ∈ rt_tbl := rt_g3 (List.mem_of_getElem? (i := 186) rfl) rfl
set_option maxRecDepth 20000 in
theorem rt_w760 : Cond.instanceMethod ⟨"RangeTeller$Runner", "pick", "()V"⟩ ∈ rt_tbl := rt_g3 (List.mem_of_getElem? (i := 188) rfl) rfl
set_option maxRecDepth 20000 in
theorem rt_w761 : Cond.code ⟨"RangeTeller$Runner", "pick", "()V"⟩ prog_8_method_13_code 4 (Option.none : Option Jvm.ClassFile.FieldType) ∈ rt_tbl := rt_g3 (List.mem_of_getElem? (i := 189) rfl) rfl
set_option maxRecDepth 20000 in
theorem rt_w762 : Cond.methodLink "RangeTeller$Runner" 138 ⟨"RangeTeller$Runner", "push", "(I)V"⟩ ∈ rt_tbl := rt_g3 (List.mem_of_getElem? (i := 190) rfl) rfl
set_option maxRecDepth 20000 in
theorem rt_w764 : Cond.instanceMethod ⟨"RangeTeller$Runner", "push", "(I)V"⟩ ∈ rt_tbl := rt_g3 (List.mem_of_getElem? (i := 192) rfl) rfl
set_option maxRecDepth 20000 in
theorem rt_w765 : Cond.code ⟨"RangeTeller$Runner", "push", "(I)V"⟩ prog_8_method_20_code 2 (Option.none : Option Jvm.ClassFile.FieldType) ∈ rt_tbl := rt_g3 (List.mem_of_getElem? (i := 193) rfl) rfl
set_option maxRecDepth 20000 in
theorem rt_w766 : Cond.methodLink "RangeTeller$Runner" 141 ⟨"RangeTeller$Runner", "fetch", "(I)V"⟩ ∈ rt_tbl := rt_g3 (List.mem_of_getElem? (i := 194) rfl) rfl
set_option maxRecDepth 20000 in
theorem rt_w768 : Cond.instanceMethod ⟨"RangeTeller$Runner", "fetch", "(I)V"⟩ ∈ rt_tbl := rt_g3 (List.mem_of_getElem? (i := 196) rfl) rfl
set_option maxRecDepth 20000 in
theorem rt_w769 : Cond.code ⟨"RangeTeller$Runner", "fetch", "(I)V"⟩ prog_8_method_14_code 3 (Option.none : Option Jvm.ClassFile.FieldType) ∈ rt_tbl := rt_g3 (List.mem_of_getElem? (i := 197) rfl) rfl
set_option maxRecDepth 20000 in
theorem rt_w770 : Cond.methodLink "RangeTeller$Runner" 144 ⟨"RangeTeller$Runner", "store", "(I)V"⟩ ∈ rt_tbl := rt_g3 (List.mem_of_getElem? (i := 198) rfl) rfl
set_option maxRecDepth 20000 in
theorem rt_w772 : Cond.instanceMethod ⟨"RangeTeller$Runner", "store", "(I)V"⟩ ∈ rt_tbl := rt_g3 (List.mem_of_getElem? (i := 200) rfl) rfl
set_option maxRecDepth 20000 in
theorem rt_w773 : Cond.code ⟨"RangeTeller$Runner", "store", "(I)V"⟩ prog_8_method_15_code 4 (Option.none : Option Jvm.ClassFile.FieldType) ∈ rt_tbl := rt_g3 (List.mem_of_getElem? (i := 201) rfl) rfl
set_option maxRecDepth 20000 in
theorem rt_w774 : Cond.methodLink "RangeTeller$Runner" 147 ⟨"RangeTeller$Runner", "takeInput", "()V"⟩ ∈ rt_tbl := rt_g3 (List.mem_of_getElem? (i := 202) rfl) rfl
set_option maxRecDepth 20000 in
theorem rt_w776 : Cond.instanceMethod ⟨"RangeTeller$Runner", "takeInput", "()V"⟩ ∈ rt_tbl := rt_g3 (List.mem_of_getElem? (i := 204) rfl) rfl
set_option maxRecDepth 20000 in
theorem rt_w777 : Cond.code ⟨"RangeTeller$Runner", "takeInput", "()V"⟩ prog_8_method_16_code 1 (Option.none : Option Jvm.ClassFile.FieldType) ∈ rt_tbl := rt_g3 (List.mem_of_getElem? (i := 205) rfl) rfl
set_option maxRecDepth 20000 in
theorem rt_w778 : Cond.methodLink "RangeTeller$Runner" 150 ⟨"RangeTeller$Runner", "putOut", "(I)V"⟩ ∈ rt_tbl := rt_g3 (List.mem_of_getElem? (i := 206) rfl) rfl
set_option maxRecDepth 20000 in
theorem rt_w780 : Cond.instanceMethod ⟨"RangeTeller$Runner", "putOut", "(I)V"⟩ ∈ rt_tbl := rt_g3 (List.mem_of_getElem? (i := 208) rfl) rfl
set_option maxRecDepth 20000 in
theorem rt_w781 : Cond.code ⟨"RangeTeller$Runner", "putOut", "(I)V"⟩ prog_8_method_17_code 2 (Option.none : Option Jvm.ClassFile.FieldType) ∈ rt_tbl := rt_g3 (List.mem_of_getElem? (i := 209) rfl) rfl
set_option maxRecDepth 20000 in
theorem rt_w782 : Cond.methodLink "RangeTeller$Runner" 153 ⟨"RangeTeller$Runner", "reckon", "(I)V"⟩ ∈ rt_tbl := rt_g3 (List.mem_of_getElem? (i := 210) rfl) rfl
set_option maxRecDepth 20000 in
theorem rt_w784 : Cond.instanceMethod ⟨"RangeTeller$Runner", "reckon", "(I)V"⟩ ∈ rt_tbl := rt_g3 (List.mem_of_getElem? (i := 212) rfl) rfl
set_option maxRecDepth 20000 in
theorem rt_w785 : Cond.code ⟨"RangeTeller$Runner", "reckon", "(I)V"⟩ prog_8_method_18_code 4 (Option.none : Option Jvm.ClassFile.FieldType) ∈ rt_tbl := rt_g3 (List.mem_of_getElem? (i := 213) rfl) rfl
set_option maxRecDepth 20000 in
theorem rt_w786 : Cond.methodLink "RangeTeller$Runner" 158 ⟨"RangeTeller$Runner", "reckoned", "(III)I"⟩ ∈ rt_tbl := rt_g3 (List.mem_of_getElem? (i := 214) rfl) rfl
set_option maxRecDepth 20000 in
theorem rt_w787 : Cond.static ⟨"RangeTeller$Runner", "reckoned", "(III)I"⟩ ∈ rt_tbl := rt_g3 (List.mem_of_getElem? (i := 215) rfl) rfl
set_option maxRecDepth 20000 in
theorem rt_w788 : Cond.code ⟨"RangeTeller$Runner", "reckoned", "(III)I"⟩ prog_8_method_19_code 3 (Option.some Jvm.ClassFile.FieldType.int) ∈ rt_tbl := rt_g3 (List.mem_of_getElem? (i := 216) rfl) rfl
set_option maxRecDepth 20000 in
theorem rt_w789 : Cond.methodLink "RangeTellerLaw" 37 ⟨"RangeTeller", "outcome", "(I)I"⟩ ∈ rt_tbl := rt_g3 (List.mem_of_getElem? (i := 217) rfl) rfl
set_option maxRecDepth 20000 in
theorem rt_w790 : Cond.instanceMethod ⟨"RangeTeller", "outcome", "(I)I"⟩ ∈ rt_tbl := rt_g3 (List.mem_of_getElem? (i := 218) rfl) rfl
set_option maxRecDepth 20000 in
theorem rt_w791 : Cond.selects "RangeTeller" ⟨"RangeTeller", "outcome", "(I)I"⟩ ⟨"RangeTeller", "outcome", "(I)I"⟩ ∈ rt_tbl := rt_g3 (List.mem_of_getElem? (i := 219) rfl) rfl
set_option maxRecDepth 20000 in
theorem rt_w792 : Cond.code ⟨"RangeTeller", "outcome", "(I)I"⟩ prog_1_method_7_code 2 (Option.some Jvm.ClassFile.FieldType.int) ∈ rt_tbl := rt_g3 (List.mem_of_getElem? (i := 220) rfl) rfl
set_option maxRecDepth 20000 in
theorem rt_w793 : Cond.methodLink "RangeTellerLaw" 41 ⟨"RangeTeller", "output", "(I)I"⟩ ∈ rt_tbl := rt_g3 (List.mem_of_getElem? (i := 221) rfl) rfl
set_option maxRecDepth 20000 in
theorem rt_w794 : Cond.instanceMethod ⟨"RangeTeller", "output", "(I)I"⟩ ∈ rt_tbl := rt_g3 (List.mem_of_getElem? (i := 222) rfl) rfl
set_option maxRecDepth 20000 in
theorem rt_w795 : Cond.selects "RangeTeller" ⟨"RangeTeller", "output", "(I)I"⟩ ⟨"RangeTeller", "output", "(I)I"⟩ ∈ rt_tbl := rt_g3 (List.mem_of_getElem? (i := 223) rfl) rfl
set_option maxRecDepth 20000 in
theorem rt_w796 : Cond.code ⟨"RangeTeller", "output", "(I)I"⟩ prog_1_method_8_code 2 (Option.some Jvm.ClassFile.FieldType.int) ∈ rt_tbl := rt_g3 (List.mem_of_getElem? (i := 224) rfl) rfl
set_option maxRecDepth 20000 in
theorem rt_w797 : Cond.methodLink "RangeTellerLaw" 45 ⟨"RangeTeller", "memory", "(I)I"⟩ ∈ rt_tbl := rt_g3 (List.mem_of_getElem? (i := 225) rfl) rfl
set_option maxRecDepth 20000 in
theorem rt_w798 : Cond.instanceMethod ⟨"RangeTeller", "memory", "(I)I"⟩ ∈ rt_tbl := rt_g3 (List.mem_of_getElem? (i := 226) rfl) rfl
set_option maxRecDepth 20000 in
theorem rt_w799 : Cond.selects "RangeTeller" ⟨"RangeTeller", "memory", "(I)I"⟩ ⟨"RangeTeller", "memory", "(I)I"⟩ ∈ rt_tbl := rt_g3 (List.mem_of_getElem? (i := 227) rfl) rfl
set_option maxRecDepth 20000 in
theorem rt_w800 : Cond.code ⟨"RangeTeller", "memory", "(I)I"⟩ prog_1_method_9_code 2 (Option.some Jvm.ClassFile.FieldType.int) ∈ rt_tbl := rt_g3 (List.mem_of_getElem? (i := 228) rfl) rfl
set_option maxRecDepth 20000 in
theorem rt_w801 : Cond.methodLink "RangeTellerLaw" 49 ⟨"RangeTeller", "instruction", "(II)I"⟩ ∈ rt_tbl := rt_g3 (List.mem_of_getElem? (i := 229) rfl) rfl
set_option maxRecDepth 20000 in
theorem rt_w802 : Cond.instanceMethod ⟨"RangeTeller", "instruction", "(II)I"⟩ ∈ rt_tbl := rt_g3 (List.mem_of_getElem? (i := 230) rfl) rfl
set_option maxRecDepth 20000 in
theorem rt_w803 : Cond.selects "RangeTeller" ⟨"RangeTeller", "instruction", "(II)I"⟩ ⟨"RangeTeller", "instruction", "(II)I"⟩ ∈ rt_tbl := rt_g3 (List.mem_of_getElem? (i := 231) rfl) rfl
set_option maxRecDepth 20000 in
theorem rt_w804 : Cond.code ⟨"RangeTeller", "instruction", "(II)I"⟩ prog_1_method_10_code 3 (Option.some Jvm.ClassFile.FieldType.int) ∈ rt_tbl := rt_g3 (List.mem_of_getElem? (i := 232) rfl) rfl
set_option maxRecDepth 20000 in
theorem rt_w805 : Cond.methodLink "RangeTeller" 116 ⟨"RangeTeller", "isInstruction", "(I)Z"⟩ ∈ rt_tbl := rt_g3 (List.mem_of_getElem? (i := 233) rfl) rfl
set_option maxRecDepth 20000 in
theorem rt_w807 : Cond.instanceMethod ⟨"RangeTeller", "isInstruction", "(I)Z"⟩ ∈ rt_tbl := rt_g3 (List.mem_of_getElem? (i := 235) rfl) rfl
set_option maxRecDepth 20000 in
theorem rt_w808 : Cond.code ⟨"RangeTeller", "isInstruction", "(I)Z"⟩ prog_1_method_15_code 2 (Option.some Jvm.ClassFile.FieldType.boolean) ∈ rt_tbl := rt_g3 (List.mem_of_getElem? (i := 236) rfl) rfl
set_option maxRecDepth 20000 in
theorem rt_w809 : Cond.methodLink "RangeTeller" 129 ⟨"RangeTeller$Foreteller", "flagsAt", "(I)I"⟩ ∈ rt_tbl := rt_g3 (List.mem_of_getElem? (i := 237) rfl) rfl
set_option maxRecDepth 20000 in
theorem rt_w810 : Cond.instanceMethod ⟨"RangeTeller$Foreteller", "flagsAt", "(I)I"⟩ ∈ rt_tbl := rt_g3 (List.mem_of_getElem? (i := 238) rfl) rfl
set_option maxRecDepth 20000 in
theorem rt_w811 : Cond.selects "RangeTeller$Foreteller" ⟨"RangeTeller$Foreteller", "flagsAt", "(I)I"⟩ ⟨"RangeTeller$Foreteller", "flagsAt", "(I)I"⟩ ∈ rt_tbl := rt_g3 (List.mem_of_getElem? (i := 239) rfl) rfl
set_option maxRecDepth 20000 in
theorem rt_w812 : Cond.code ⟨"RangeTeller$Foreteller", "flagsAt", "(I)I"⟩ prog_3_method_5_code 2 (Option.some Jvm.ClassFile.FieldType.int) ∈ rt_tbl := rt_g4 (List.mem_of_getElem? (i := 0) rfl) rfl
set_option maxRecDepth 20000 in
theorem rt_w813 : Cond.methodLink "RangeTeller$Foreteller" 82 ⟨"RangeTeller$Foreteller", "operandAt", "(II)I"⟩ ∈ rt_tbl := rt_g4 (List.mem_of_getElem? (i := 1) rfl) rfl
set_option maxRecDepth 20000 in
theorem rt_w814 : Cond.instanceMethod ⟨"RangeTeller$Foreteller", "operandAt", "(II)I"⟩ ∈ rt_tbl := rt_g4 (List.mem_of_getElem? (i := 2) rfl) rfl
set_option maxRecDepth 20000 in
theorem rt_w815 : Cond.selects "RangeTeller$Foreteller" ⟨"RangeTeller$Foreteller", "operandAt", "(II)I"⟩ ⟨"RangeTeller$Foreteller", "operandAt", "(II)I"⟩ ∈ rt_tbl := rt_g4 (List.mem_of_getElem? (i := 3) rfl) rfl
set_option maxRecDepth 20000 in
theorem rt_w816 : Cond.code ⟨"RangeTeller$Foreteller", "operandAt", "(II)I"⟩ prog_3_method_3_code 3 (Option.some Jvm.ClassFile.FieldType.int) ∈ rt_tbl := rt_g4 (List.mem_of_getElem? (i := 4) rfl) rfl
set_option maxRecDepth 20000 in
theorem rt_w817 : Cond.methodLink "RangeTeller$Foreteller" 89 ⟨"RangeTeller$Foreteller", "canMiss", "(II)Z"⟩ ∈ rt_tbl := rt_g4 (List.mem_of_getElem? (i := 5) rfl) rfl
set_option maxRecDepth 20000 in
theorem rt_w818 : Cond.static ⟨"RangeTeller$Foreteller", "canMiss", "(II)Z"⟩ ∈ rt_tbl := rt_g4 (List.mem_of_getElem? (i := 6) rfl) rfl
set_option maxRecDepth 20000 in
theorem rt_w819 : Cond.code ⟨"RangeTeller$Foreteller", "canMiss", "(II)Z"⟩ prog_3_method_6_code 2 (Option.some Jvm.ClassFile.FieldType.boolean) ∈ rt_tbl := rt_g4 (List.mem_of_getElem? (i := 7) rfl) rfl
set_option maxRecDepth 20000 in
theorem rt_w820 : Cond.methodLink "RangeTellerLaw" 54 ⟨"RangeTeller", "operand", "(II)I"⟩ ∈ rt_tbl := rt_g4 (List.mem_of_getElem? (i := 8) rfl) rfl
set_option maxRecDepth 20000 in
theorem rt_w821 : Cond.instanceMethod ⟨"RangeTeller", "operand", "(II)I"⟩ ∈ rt_tbl := rt_g4 (List.mem_of_getElem? (i := 9) rfl) rfl
set_option maxRecDepth 20000 in
theorem rt_w822 : Cond.selects "RangeTeller" ⟨"RangeTeller", "operand", "(II)I"⟩ ⟨"RangeTeller", "operand", "(II)I"⟩ ∈ rt_tbl := rt_g4 (List.mem_of_getElem? (i := 10) rfl) rfl
set_option maxRecDepth 20000 in
theorem rt_w823 : Cond.code ⟨"RangeTeller", "operand", "(II)I"⟩ prog_1_method_11_code 3 (Option.some Jvm.ClassFile.FieldType.int) ∈ rt_tbl := rt_g4 (List.mem_of_getElem? (i := 11) rfl) rfl
set_option maxRecDepth 20000 in
theorem rt_w824 : Cond.methodLink "RangeTeller" 138 ⟨"RangeTeller$Foreteller", "operandAt", "(II)I"⟩ ∈ rt_tbl := rt_g4 (List.mem_of_getElem? (i := 12) rfl) rfl
set_option maxRecDepth 20000 in
theorem rt_w825 : Cond.methodLink "RangeTellerLaw" 58 ⟨"RangeTeller", "local", "(II)I"⟩ ∈ rt_tbl := rt_g4 (List.mem_of_getElem? (i := 13) rfl) rfl
set_option maxRecDepth 20000 in
theorem rt_w826 : Cond.instanceMethod ⟨"RangeTeller", "local", "(II)I"⟩ ∈ rt_tbl := rt_g4 (List.mem_of_getElem? (i := 14) rfl) rfl
set_option maxRecDepth 20000 in
theorem rt_w827 : Cond.selects "RangeTeller" ⟨"RangeTeller", "local", "(II)I"⟩ ⟨"RangeTeller", "local", "(II)I"⟩ ∈ rt_tbl := rt_g4 (List.mem_of_getElem? (i := 15) rfl) rfl
set_option maxRecDepth 20000 in
theorem rt_w828 : Cond.code ⟨"RangeTeller", "local", "(II)I"⟩ prog_1_method_12_code 3 (Option.some Jvm.ClassFile.FieldType.int) ∈ rt_tbl := rt_g4 (List.mem_of_getElem? (i := 16) rfl) rfl
set_option maxRecDepth 20000 in
theorem rt_w829 : Cond.methodLink "RangeTeller" 141 ⟨"RangeTeller$Foreteller", "localAt", "(II)I"⟩ ∈ rt_tbl := rt_g4 (List.mem_of_getElem? (i := 17) rfl) rfl
set_option maxRecDepth 20000 in
theorem rt_w830 : Cond.instanceMethod ⟨"RangeTeller$Foreteller", "localAt", "(II)I"⟩ ∈ rt_tbl := rt_g4 (List.mem_of_getElem? (i := 18) rfl) rfl
set_option maxRecDepth 20000 in
theorem rt_w831 : Cond.selects "RangeTeller$Foreteller" ⟨"RangeTeller$Foreteller", "localAt", "(II)I"⟩ ⟨"RangeTeller$Foreteller", "localAt", "(II)I"⟩ ∈ rt_tbl := rt_g4 (List.mem_of_getElem? (i := 19) rfl) rfl
set_option maxRecDepth 20000 in
theorem rt_w832 : Cond.code ⟨"RangeTeller$Foreteller", "localAt", "(II)I"⟩ prog_3_method_4_code 3 (Option.some Jvm.ClassFile.FieldType.int) ∈ rt_tbl := rt_g4 (List.mem_of_getElem? (i := 20) rfl) rfl
set_option maxRecDepth 20000 in
theorem rt_w833 : Cond.methodLink "RangeTellerLaw" 62 ⟨"RangeTeller", "cell", "(I)I"⟩ ∈ rt_tbl := rt_g4 (List.mem_of_getElem? (i := 21) rfl) rfl
set_option maxRecDepth 20000 in
theorem rt_w834 : Cond.instanceMethod ⟨"RangeTeller", "cell", "(I)I"⟩ ∈ rt_tbl := rt_g4 (List.mem_of_getElem? (i := 22) rfl) rfl
set_option maxRecDepth 20000 in
theorem rt_w835 : Cond.selects "RangeTeller" ⟨"RangeTeller", "cell", "(I)I"⟩ ⟨"RangeTeller", "cell", "(I)I"⟩ ∈ rt_tbl := rt_g4 (List.mem_of_getElem? (i := 23) rfl) rfl
set_option maxRecDepth 20000 in
theorem rt_w836 : Cond.code ⟨"RangeTeller", "cell", "(I)I"⟩ prog_1_method_13_code 2 (Option.some Jvm.ClassFile.FieldType.int) ∈ rt_tbl := rt_g4 (List.mem_of_getElem? (i := 24) rfl) rfl
set_option maxRecDepth 20000 in
theorem rt_w837 : Cond.methodLink "RangeTellerLaw" 66 ⟨"RangeTeller", "function", "(II)I"⟩ ∈ rt_tbl := rt_g4 (List.mem_of_getElem? (i := 25) rfl) rfl
set_option maxRecDepth 20000 in
theorem rt_w838 : Cond.instanceMethod ⟨"RangeTeller", "function", "(II)I"⟩ ∈ rt_tbl := rt_g4 (List.mem_of_getElem? (i := 26) rfl) rfl
set_option maxRecDepth 20000 in
theorem rt_w839 : Cond.selects "RangeTeller" ⟨"RangeTeller", "function", "(II)I"⟩ ⟨"RangeTeller", "function", "(II)I"⟩ ∈ rt_tbl := rt_g4 (List.mem_of_getElem? (i := 27) rfl) rfl
set_option maxRecDepth 20000 in
theorem rt_w840 : Cond.code ⟨"RangeTeller", "function", "(II)I"⟩ prog_1_method_14_code 3 (Option.some Jvm.ClassFile.FieldType.int) ∈ rt_tbl := rt_g4 (List.mem_of_getElem? (i := 28) rfl) rfl
set_option maxRecDepth 20000 in
theorem rt_w841 : Cond.classLink "RangeTellerLaw" 10 "RangeTellerModel" ∈ rt_tbl := rt_g4 (List.mem_of_getElem? (i := 29) rfl) rfl
set_option maxRecDepth 20000 in
theorem rt_w842 : Cond.instantiable "RangeTellerModel" 69 ∈ rt_tbl := rt_g4 (List.mem_of_getElem? (i := 30) rfl) rfl
set_option maxRecDepth 20000 in
theorem rt_w843 : Cond.methodLink "RangeTellerLaw" 12 ⟨"RangeTellerModel", "<init>", "()V"⟩ ∈ rt_tbl := rt_g4 (List.mem_of_getElem? (i := 31) rfl) rfl
set_option maxRecDepth 20000 in
theorem rt_w844 : Cond.instanceMethod ⟨"RangeTellerModel", "<init>", "()V"⟩ ∈ rt_tbl := rt_g4 (List.mem_of_getElem? (i := 32) rfl) rfl
set_option maxRecDepth 20000 in
theorem rt_w845 : Cond.code ⟨"RangeTellerModel", "<init>", "()V"⟩ prog_10_method_1_code 1 (Option.none : Option Jvm.ClassFile.FieldType) ∈ rt_tbl := rt_g4 (List.mem_of_getElem? (i := 33) rfl) rfl
set_option maxRecDepth 20000 in
theorem rt_w846 : Cond.methodLink "RangeTellerModel" 1 ⟨"java/lang/Object", "<init>", "()V"⟩ ∈ rt_tbl := rt_g4 (List.mem_of_getElem? (i := 34) rfl) rfl
set_option maxRecDepth 20000 in
theorem rt_w847 : Cond.fieldLink "RangeTellerModel" 153 "RangeTellerModel" "fed" "I" ∈ rt_tbl := rt_g4 (List.mem_of_getElem? (i := 35) rfl) rfl
set_option maxRecDepth 20000 in
theorem rt_w848 : Cond.fieldLink "RangeTellerModel" 7 "RangeTellerModel" "bytes" "[I" ∈ rt_tbl := rt_g4 (List.mem_of_getElem? (i := 36) rfl) rfl
set_option maxRecDepth 20000 in
theorem rt_w849 : Cond.fieldLink "RangeTellerModel" 156 "RangeTellerModel" "at" "I" ∈ rt_tbl := rt_g4 (List.mem_of_getElem? (i := 37) rfl) rfl
set_option maxRecDepth 20000 in
theorem rt_w850 : Cond.fieldLink "RangeTellerModel" 159 "RangeTellerModel" "bad" "Z" ∈ rt_tbl := rt_g4 (List.mem_of_getElem? (i := 38) rfl) rfl
set_option maxRecDepth 20000 in
theorem rt_w851 : Cond.fieldLink "RangeTellerModel" 227 "RangeTellerModel" "loaded" "Z" ∈ rt_tbl := rt_g4 (List.mem_of_getElem? (i := 39) rfl) rfl
set_option maxRecDepth 20000 in
theorem rt_w852 : Cond.fieldLink "RangeTellerModel" 13 "RangeTellerModel" "trouble" "I" ∈ rt_tbl := rt_g4 (List.mem_of_getElem? (i := 40) rfl) rfl
set_option maxRecDepth 20000 in
theorem rt_w853 : Cond.fieldLink "RangeTellerModel" 171 "RangeTellerModel" "size" "I" ∈ rt_tbl := rt_g4 (List.mem_of_getElem? (i := 41) rfl) rfl
set_option maxRecDepth 20000 in
theorem rt_w854 : Cond.fieldLink "RangeTellerModel" 17 "RangeTellerModel" "op" "[I" ∈ rt_tbl := rt_g4 (List.mem_of_getElem? (i := 42) rfl) rfl
set_option maxRecDepth 20000 in
theorem rt_w855 : Cond.fieldLink "RangeTellerModel" 20 "RangeTellerModel" "argument" "[I" ∈ rt_tbl := rt_g4 (List.mem_of_getElem? (i := 43) rfl) rfl
set_option maxRecDepth 20000 in
theorem rt_w856 : Cond.fieldLink "RangeTellerModel" 23 "RangeTellerModel" "owner" "[I" ∈ rt_tbl := rt_g4 (List.mem_of_getElem? (i := 44) rfl) rfl
set_option maxRecDepth 20000 in
theorem rt_w857 : Cond.fieldLink "RangeTellerModel" 26 "RangeTellerModel" "endOf" "[I" ∈ rt_tbl := rt_g4 (List.mem_of_getElem? (i := 45) rfl) rfl
set_option maxRecDepth 20000 in
theorem rt_w858 : Cond.fieldLink "RangeTellerModel" 29 "RangeTellerModel" "elseOf" "[I" ∈ rt_tbl := rt_g4 (List.mem_of_getElem? (i := 46) rfl) rfl
set_option maxRecDepth 20000 in
theorem rt_w859 : Cond.fieldLink "RangeTellerModel" 32 "RangeTellerModel" "heights" "[I" ∈ rt_tbl := rt_g4 (List.mem_of_getElem? (i := 47) rfl) rfl
set_option maxRecDepth 20000 in
theorem rt_w860 : Cond.fieldLink "RangeTellerModel" 35 "RangeTellerModel" "opener" "[I" ∈ rt_tbl := rt_g4 (List.mem_of_getElem? (i := 48) rfl) rfl
set_option maxRecDepth 20000 in
theorem rt_w861 : Cond.fieldLink "RangeTellerModel" 38 "RangeTellerModel" "bottom" "[I" ∈ rt_tbl := rt_g4 (List.mem_of_getElem? (i := 49) rfl) rfl
set_option maxRecDepth 20000 in
theorem rt_w862 : Cond.fieldLink "RangeTellerModel" 41 "RangeTellerModel" "kept" "[I" ∈ rt_tbl := rt_g4 (List.mem_of_getElem? (i := 50) rfl) rfl
set_option maxRecDepth 20000 in
theorem rt_w863 : Cond.fieldLink "RangeTellerModel" 185 "RangeTellerModel" "functions" "I" ∈ rt_tbl := rt_g4 (List.mem_of_getElem? (i := 51) rfl) rfl
set_option maxRecDepth 20000 in
theorem rt_w864 : Cond.fieldLink "RangeTellerModel" 44 "RangeTellerModel" "parameters" "[I" ∈ rt_tbl := rt_g4 (List.mem_of_getElem? (i := 52) rfl) rfl
set_option maxRecDepth 20000 in
theorem rt_w865 : Cond.fieldLink "RangeTellerModel" 47 "RangeTellerModel" "locals" "[I" ∈ rt_tbl := rt_g4 (List.mem_of_getElem? (i := 53) rfl) rfl
set_option maxRecDepth 20000 in
theorem rt_w866 : Cond.fieldLink "RangeTellerModel" 50 "RangeTellerModel" "results" "[I" ∈ rt_tbl := rt_g4 (List.mem_of_getElem? (i := 54) rfl) rfl
set_option maxRecDepth 20000 in
theorem rt_w867 : Cond.fieldLink "RangeTellerModel" 53 "RangeTellerModel" "first" "[I" ∈ rt_tbl := rt_g4 (List.mem_of_getElem? (i := 55) rfl) rfl
set_option maxRecDepth 20000 in
theorem rt_w868 : Cond.fieldLink "RangeTellerModel" 174 "RangeTellerModel" "frames" "I" ∈ rt_tbl := rt_g4 (List.mem_of_getElem? (i := 56) rfl) rfl
set_option maxRecDepth 20000 in
theorem rt_w869 : Cond.fieldLink "RangeTellerModel" 56 "RangeTellerModel" "frame" "[I" ∈ rt_tbl := rt_g4 (List.mem_of_getElem? (i := 57) rfl) rfl
set_option maxRecDepth 20000 in
theorem rt_w870 : Cond.fieldLink "RangeTellerModel" 59 "RangeTellerModel" "base" "[I" ∈ rt_tbl := rt_g4 (List.mem_of_getElem? (i := 58) rfl) rfl
set_option maxRecDepth 20000 in
theorem rt_w871 : Cond.fieldLink "RangeTellerModel" 62 "RangeTellerModel" "gives" "[I" ∈ rt_tbl := rt_g4 (List.mem_of_getElem? (i := 59) rfl) rfl
set_option maxRecDepth 20000 in
theorem rt_w872 : Cond.fieldLink "RangeTellerModel" 65 "RangeTellerModel" "live" "[Z" ∈ rt_tbl := rt_g4 (List.mem_of_getElem? (i := 60) rfl) rfl
set_option maxRecDepth 20000 in
theorem rt_w873 : Cond.fieldLink "RangeTellerModel" 191 "RangeTellerModel" "height" "I" ∈ rt_tbl := rt_g4 (List.mem_of_getElem? (i := 61) rfl) rfl
set_option maxRecDepth 20000 in
theorem rt_w874 : Cond.fieldLink "RangeTellerModel" 239 "RangeTellerModel" "inputs" "I" ∈ rt_tbl := rt_g4 (List.mem_of_getElem? (i := 62) rfl) rfl
set_option maxRecDepth 20000 in
theorem rt_w875 : Cond.fieldLink "RangeTellerModel" 69 "RangeTellerModel" "input" "[I" ∈ rt_tbl := rt_g4 (List.mem_of_getElem? (i := 63) rfl) rfl
set_option maxRecDepth 20000 in
theorem rt_w876 : Cond.fieldLink "RangeTellerModel" 224 "RangeTellerModel" "ran" "Z" ∈ rt_tbl := rt_g4 (List.mem_of_getElem? (i := 64) rfl) rfl
set_option maxRecDepth 20000 in
theorem rt_w877 : Cond.fieldLink "RangeTellerModel" 242 "RangeTellerModel" "depth" "I" ∈ rt_tbl := rt_g4 (List.mem_of_getElem? (i := 65) rfl) rfl
set_option maxRecDepth 20000 in
theorem rt_w878 : Cond.fieldLink "RangeTellerModel" 72 "RangeTellerModel" "caller" "[I" ∈ rt_tbl := rt_g4 (List.mem_of_getElem? (i := 66) rfl) rfl
set_option maxRecDepth 20000 in
theorem rt_w879 : Cond.fieldLink "RangeTellerModel" 75 "RangeTellerModel" "operands" "[I" ∈ rt_tbl := rt_g4 (List.mem_of_getElem? (i := 67) rfl) rfl
set_option maxRecDepth 20000 in
theorem rt_w880 : Cond.fieldLink "RangeTellerModel" 78 "RangeTellerModel" "variables" "[I" ∈ rt_tbl := rt_g4 (List.mem_of_getElem? (i := 68) rfl) rfl
set_option maxRecDepth 20000 in
theorem rt_w881 : Cond.fieldLink "RangeTellerModel" 81 "RangeTellerModel" "count" "[I" ∈ rt_tbl := rt_g4 (List.mem_of_getElem? (i := 69) rfl) rfl
set_option maxRecDepth 20000 in
theorem rt_w882 : Cond.fieldLink "RangeTellerModel" 84 "RangeTellerModel" "cells" "[I" ∈ rt_tbl := rt_g4 (List.mem_of_getElem? (i := 70) rfl) rfl
set_option maxRecDepth 20000 in
theorem rt_w883 : Cond.fieldLink "RangeTellerModel" 251 "RangeTellerModel" "next" "I" ∈ rt_tbl := rt_g4 (List.mem_of_getElem? (i := 71) rfl) rfl
set_option maxRecDepth 20000 in
theorem rt_w884 : Cond.fieldLink "RangeTellerModel" 273 "RangeTellerModel" "steps" "I" ∈ rt_tbl := rt_g4 (List.mem_of_getElem? (i := 72) rfl) rfl
set_option maxRecDepth 20000 in
theorem rt_w885 : Cond.fieldLink "RangeTellerModel" 279 "RangeTellerModel" "outcomeCode" "I" ∈ rt_tbl := rt_g4 (List.mem_of_getElem? (i := 73) rfl) rfl
set_option maxRecDepth 20000 in
theorem rt_w886 : Cond.fieldLink "RangeTellerModel" 248 "RangeTellerModel" "result" "I" ∈ rt_tbl := rt_g4 (List.mem_of_getElem? (i := 74) rfl) rfl
set_option maxRecDepth 20000 in
theorem rt_w887 : Cond.fieldLink "RangeTellerModel" 276 "RangeTellerModel" "stopped" "I" ∈ rt_tbl := rt_g4 (List.mem_of_getElem? (i := 75) rfl) rfl
set_option maxRecDepth 20000 in
theorem rt_w888 : Cond.fieldLink "RangeTellerModel" 266 "RangeTellerModel" "outputs" "I" ∈ rt_tbl := rt_g4 (List.mem_of_getElem? (i := 76) rfl) rfl
set_option maxRecDepth 20000 in
theorem rt_w889 : Cond.fieldLink "RangeTellerModel" 87 "RangeTellerModel" "output" "[I" ∈ rt_tbl := rt_g4 (List.mem_of_getElem? (i := 77) rfl) rfl
set_option maxRecDepth 20000 in
theorem rt_w890 : Cond.fieldLink "RangeTellerModel" 90 "RangeTellerModel" "reached" "[Z" ∈ rt_tbl := rt_g4 (List.mem_of_getElem? (i := 78) rfl) rfl
set_option maxRecDepth 20000 in
theorem rt_w891 : Cond.fieldLink "RangeTellerModel" 93 "RangeTellerModel" "fresh" "[Z" ∈ rt_tbl := rt_g4 (List.mem_of_getElem? (i := 79) rfl) rfl
set_option maxRecDepth 20000 in
theorem rt_w892 : Cond.fieldLink "RangeTellerModel" 96 "RangeTellerModel" "low" "[I" ∈ rt_tbl := rt_g4 (List.mem_of_getElem? (i := 80) rfl) rfl
set_option maxRecDepth 20000 in
theorem rt_w893 : Cond.fieldLink "RangeTellerModel" 99 "RangeTellerModel" "high" "[I" ∈ rt_tbl := rt_g4 (List.mem_of_getElem? (i := 81) rfl) rfl
set_option maxRecDepth 20000 in
theorem rt_w894 : Cond.fieldLink "RangeTellerModel" 102 "RangeTellerModel" "taint" "[Z" ∈ rt_tbl := rt_g4 (List.mem_of_getElem? (i := 82) rfl) rfl
set_option maxRecDepth 20000 in
theorem rt_w895 : Cond.fieldLink "RangeTellerModel" 105 "RangeTellerModel" "localLow" "[I" ∈ rt_tbl := rt_g4 (List.mem_of_getElem? (i := 83) rfl) rfl
set_option maxRecDepth 20000 in
theorem rt_w896 : Cond.fieldLink "RangeTellerModel" 108 "RangeTellerModel" "localHigh" "[I" ∈ rt_tbl := rt_g4 (List.mem_of_getElem? (i := 84) rfl) rfl
set_option maxRecDepth 20000 in
theorem rt_w897 : Cond.fieldLink "RangeTellerModel" 111 "RangeTellerModel" "localTaint" "[Z" ∈ rt_tbl := rt_g4 (List.mem_of_getElem? (i := 85) rfl) rfl
set_option maxRecDepth 20000 in
theorem rt_w898 : Cond.fieldLink "RangeTellerModel" 114 "RangeTellerModel" "cellLow" "[I" ∈ rt_tbl := rt_g4 (List.mem_of_getElem? (i := 86) rfl) rfl
set_option maxRecDepth 20000 in
theorem rt_w899 : Cond.fieldLink "RangeTellerModel" 117 "RangeTellerModel" "cellHigh" "[I" ∈ rt_tbl := rt_g4 (List.mem_of_getElem? (i := 87) rfl) rfl
set_option maxRecDepth 20000 in
theorem rt_w900 : Cond.fieldLink "RangeTellerModel" 120 "RangeTellerModel" "cellTaint" "[Z" ∈ rt_tbl := rt_g4 (List.mem_of_getElem? (i := 88) rfl) rfl
set_option maxRecDepth 20000 in
theorem rt_w901 : Cond.fieldLink "RangeTellerModel" 123 "RangeTellerModel" "giveLow" "[I" ∈ rt_tbl := rt_g4 (List.mem_of_getElem? (i := 89) rfl) rfl
set_option maxRecDepth 20000 in
theorem rt_w902 : Cond.fieldLink "RangeTellerModel" 126 "RangeTellerModel" "giveHigh" "[I" ∈ rt_tbl := rt_g4 (List.mem_of_getElem? (i := 90) rfl) rfl
set_option maxRecDepth 20000 in
theorem rt_w903 : Cond.fieldLink "RangeTellerModel" 129 "RangeTellerModel" "giveTaint" "[Z" ∈ rt_tbl := rt_g4 (List.mem_of_getElem? (i := 91) rfl) rfl
set_option maxRecDepth 20000 in
theorem rt_w904 : Cond.fieldLink "RangeTellerModel" 132 "RangeTellerModel" "canEnd" "[Z" ∈ rt_tbl := rt_g4 (List.mem_of_getElem? (i := 92) rfl) rfl
set_option maxRecDepth 20000 in
theorem rt_w905 : Cond.fieldLink "RangeTellerModel" 291 "RangeTellerModel" "grew" "Z" ∈ rt_tbl := rt_g4 (List.mem_of_getElem? (i := 93) rfl) rfl
set_option maxRecDepth 20000 in
theorem rt_w906 : Cond.fieldLink "RangeTellerModel" 294 "RangeTellerModel" "have" "I" ∈ rt_tbl := rt_g4 (List.mem_of_getElem? (i := 94) rfl) rfl
set_option maxRecDepth 20000 in
theorem rt_w907 : Cond.fieldLink "RangeTellerModel" 135 "RangeTellerModel" "nowLow" "[I" ∈ rt_tbl := rt_g4 (List.mem_of_getElem? (i := 95) rfl) rfl
set_option maxRecDepth 20000 in
theorem rt_w908 : Cond.fieldLink "RangeTellerModel" 138 "RangeTellerModel" "nowHigh" "[I" ∈ rt_tbl := rt_g4 (List.mem_of_getElem? (i := 96) rfl) rfl
set_option maxRecDepth 20000 in
theorem rt_w909 : Cond.fieldLink "RangeTellerModel" 141 "RangeTellerModel" "nowTaint" "[Z" ∈ rt_tbl := rt_g4 (List.mem_of_getElem? (i := 97) rfl) rfl
set_option maxRecDepth 20000 in
theorem rt_w910 : Cond.fieldLink "RangeTellerModel" 144 "RangeTellerModel" "varLow" "[I" ∈ rt_tbl := rt_g4 (List.mem_of_getElem? (i := 98) rfl) rfl
set_option maxRecDepth 20000 in
theorem rt_w911 : Cond.fieldLink "RangeTellerModel" 147 "RangeTellerModel" "varHigh" "[I" ∈ rt_tbl := rt_g4 (List.mem_of_getElem? (i := 99) rfl) rfl
set_option maxRecDepth 20000 in
theorem rt_w912 : Cond.fieldLink "RangeTellerModel" 150 "RangeTellerModel" "varTaint" "[Z" ∈ rt_tbl := rt_g4 (List.mem_of_getElem? (i := 100) rfl) rfl
set_option maxRecDepth 20000 in
theorem rt_w913 : Cond.fieldLink "RangeTellerModel" 297 "RangeTellerModel" "least" "I" ∈ rt_tbl := rt_g4 (List.mem_of_getElem? (i := 101) rfl) rfl
set_option maxRecDepth 20000 in
theorem rt_w914 : Cond.fieldLink "RangeTellerModel" 300 "RangeTellerModel" "greatest" "I" ∈ rt_tbl := rt_g4 (List.mem_of_getElem? (i := 102) rfl) rfl
set_option maxRecDepth 20000 in
theorem rt_w915 : Cond.fieldLink "RangeTellerModel" 303 "RangeTellerModel" "tainted" "Z" ∈ rt_tbl := rt_g4 (List.mem_of_getElem? (i := 103) rfl) rfl
set_option maxRecDepth 20000 in
theorem rt_w916 : Cond.lays "RangeTellerModel" "RangeTellerModel" "fed" "I" ∈ rt_tbl := rt_g4 (List.mem_of_getElem? (i := 104) rfl) rfl
set_option maxRecDepth 20000 in
theorem rt_w918 : Cond.laysFinal "RangeTellerModel" "RangeTellerModel" "bytes" "[I" ∈ rt_tbl := rt_g4 (List.mem_of_getElem? (i := 106) rfl) rfl
set_option maxRecDepth 20000 in
theorem rt_w920 : Cond.lays "RangeTellerModel" "RangeTellerModel" "at" "I" ∈ rt_tbl := rt_g4 (List.mem_of_getElem? (i := 108) rfl) rfl
set_option maxRecDepth 20000 in
theorem rt_w922 : Cond.lays "RangeTellerModel" "RangeTellerModel" "bad" "Z" ∈ rt_tbl := rt_g4 (List.mem_of_getElem? (i := 110) rfl) rfl
set_option maxRecDepth 20000 in
theorem rt_w924 : Cond.lays "RangeTellerModel" "RangeTellerModel" "loaded" "Z" ∈ rt_tbl := rt_g4 (List.mem_of_getElem? (i := 112) rfl) rfl
set_option maxRecDepth 20000 in
theorem rt_w926 : Cond.lays "RangeTellerModel" "RangeTellerModel" "trouble" "I" ∈ rt_tbl := rt_g4 (List.mem_of_getElem? (i := 114) rfl) rfl
set_option maxRecDepth 20000 in
theorem rt_w928 : Cond.lays "RangeTellerModel" "RangeTellerModel" "size" "I" ∈ rt_tbl := rt_g4 (List.mem_of_getElem? (i := 116) rfl) rfl
set_option maxRecDepth 20000 in
theorem rt_w930 : Cond.laysFinal "RangeTellerModel" "RangeTellerModel" "op" "[I" ∈ rt_tbl := rt_g4 (List.mem_of_getElem? (i := 118) rfl) rfl
set_option maxRecDepth 20000 in
theorem rt_w932 : Cond.laysFinal "RangeTellerModel" "RangeTellerModel" "argument" "[I" ∈ rt_tbl := rt_g4 (List.mem_of_getElem? (i := 120) rfl) rfl
set_option maxRecDepth 20000 in
theorem rt_w934 : Cond.laysFinal "RangeTellerModel" "RangeTellerModel" "owner" "[I" ∈ rt_tbl := rt_g4 (List.mem_of_getElem? (i := 122) rfl) rfl
set_option maxRecDepth 20000 in
theorem rt_w936 : Cond.laysFinal "RangeTellerModel" "RangeTellerModel" "endOf" "[I" ∈ rt_tbl := rt_g4 (List.mem_of_getElem? (i := 124) rfl) rfl
set_option maxRecDepth 20000 in
theorem rt_w938 : Cond.laysFinal "RangeTellerModel" "RangeTellerModel" "elseOf" "[I" ∈ rt_tbl := rt_g4 (List.mem_of_getElem? (i := 126) rfl) rfl
set_option maxRecDepth 20000 in
theorem rt_w940 : Cond.laysFinal "RangeTellerModel" "RangeTellerModel" "heights" "[I" ∈ rt_tbl := rt_g4 (List.mem_of_getElem? (i := 128) rfl) rfl
set_option maxRecDepth 20000 in
theorem rt_w942 : Cond.laysFinal "RangeTellerModel" "RangeTellerModel" "opener" "[I" ∈ rt_tbl := rt_g4 (List.mem_of_getElem? (i := 130) rfl) rfl
set_option maxRecDepth 20000 in
theorem rt_w944 : Cond.laysFinal "RangeTellerModel" "RangeTellerModel" "bottom" "[I" ∈ rt_tbl := rt_g4 (List.mem_of_getElem? (i := 132) rfl) rfl
set_option maxRecDepth 20000 in
theorem rt_w946 : Cond.laysFinal "RangeTellerModel" "RangeTellerModel" "kept" "[I" ∈ rt_tbl := rt_g4 (List.mem_of_getElem? (i := 134) rfl) rfl
set_option maxRecDepth 20000 in
theorem rt_w948 : Cond.lays "RangeTellerModel" "RangeTellerModel" "functions" "I" ∈ rt_tbl := rt_g4 (List.mem_of_getElem? (i := 136) rfl) rfl
set_option maxRecDepth 20000 in
theorem rt_w950 : Cond.laysFinal "RangeTellerModel" "RangeTellerModel" "parameters" "[I" ∈ rt_tbl := rt_g4 (List.mem_of_getElem? (i := 138) rfl) rfl
set_option maxRecDepth 20000 in
theorem rt_w952 : Cond.laysFinal "RangeTellerModel" "RangeTellerModel" "locals" "[I" ∈ rt_tbl := rt_g4 (List.mem_of_getElem? (i := 140) rfl) rfl
set_option maxRecDepth 20000 in
theorem rt_w954 : Cond.laysFinal "RangeTellerModel" "RangeTellerModel" "results" "[I" ∈ rt_tbl := rt_g4 (List.mem_of_getElem? (i := 142) rfl) rfl
set_option maxRecDepth 20000 in
theorem rt_w956 : Cond.laysFinal "RangeTellerModel" "RangeTellerModel" "first" "[I" ∈ rt_tbl := rt_g4 (List.mem_of_getElem? (i := 144) rfl) rfl
set_option maxRecDepth 20000 in
theorem rt_w958 : Cond.lays "RangeTellerModel" "RangeTellerModel" "frames" "I" ∈ rt_tbl := rt_g4 (List.mem_of_getElem? (i := 146) rfl) rfl
set_option maxRecDepth 20000 in
theorem rt_w960 : Cond.laysFinal "RangeTellerModel" "RangeTellerModel" "frame" "[I" ∈ rt_tbl := rt_g4 (List.mem_of_getElem? (i := 148) rfl) rfl
set_option maxRecDepth 20000 in
theorem rt_w962 : Cond.laysFinal "RangeTellerModel" "RangeTellerModel" "base" "[I" ∈ rt_tbl := rt_g4 (List.mem_of_getElem? (i := 150) rfl) rfl
set_option maxRecDepth 20000 in
theorem rt_w964 : Cond.laysFinal "RangeTellerModel" "RangeTellerModel" "gives" "[I" ∈ rt_tbl := rt_g4 (List.mem_of_getElem? (i := 152) rfl) rfl
set_option maxRecDepth 20000 in
theorem rt_w966 : Cond.laysFinal "RangeTellerModel" "RangeTellerModel" "live" "[Z" ∈ rt_tbl := rt_g4 (List.mem_of_getElem? (i := 154) rfl) rfl
set_option maxRecDepth 20000 in
theorem rt_w968 : Cond.lays "RangeTellerModel" "RangeTellerModel" "height" "I" ∈ rt_tbl := rt_g4 (List.mem_of_getElem? (i := 156) rfl) rfl
set_option maxRecDepth 20000 in
theorem rt_w970 : Cond.lays "RangeTellerModel" "RangeTellerModel" "inputs" "I" ∈ rt_tbl := rt_g4 (List.mem_of_getElem? (i := 158) rfl) rfl
set_option maxRecDepth 20000 in
theorem rt_w972 : Cond.laysFinal "RangeTellerModel" "RangeTellerModel" "input" "[I" ∈ rt_tbl := rt_g4 (List.mem_of_getElem? (i := 160) rfl) rfl
set_option maxRecDepth 20000 in
theorem rt_w974 : Cond.lays "RangeTellerModel" "RangeTellerModel" "ran" "Z" ∈ rt_tbl := rt_g4 (List.mem_of_getElem? (i := 162) rfl) rfl
set_option maxRecDepth 20000 in
theorem rt_w976 : Cond.lays "RangeTellerModel" "RangeTellerModel" "depth" "I" ∈ rt_tbl := rt_g4 (List.mem_of_getElem? (i := 164) rfl) rfl
set_option maxRecDepth 20000 in
theorem rt_w978 : Cond.laysFinal "RangeTellerModel" "RangeTellerModel" "caller" "[I" ∈ rt_tbl := rt_g4 (List.mem_of_getElem? (i := 166) rfl) rfl
set_option maxRecDepth 20000 in
theorem rt_w980 : Cond.laysFinal "RangeTellerModel" "RangeTellerModel" "operands" "[I" ∈ rt_tbl := rt_g4 (List.mem_of_getElem? (i := 168) rfl) rfl
set_option maxRecDepth 20000 in
theorem rt_w982 : Cond.laysFinal "RangeTellerModel" "RangeTellerModel" "variables" "[I" ∈ rt_tbl := rt_g4 (List.mem_of_getElem? (i := 170) rfl) rfl
set_option maxRecDepth 20000 in
theorem rt_w984 : Cond.laysFinal "RangeTellerModel" "RangeTellerModel" "count" "[I" ∈ rt_tbl := rt_g4 (List.mem_of_getElem? (i := 172) rfl) rfl
set_option maxRecDepth 20000 in
theorem rt_w986 : Cond.laysFinal "RangeTellerModel" "RangeTellerModel" "cells" "[I" ∈ rt_tbl := rt_g4 (List.mem_of_getElem? (i := 174) rfl) rfl
set_option maxRecDepth 20000 in
theorem rt_w988 : Cond.lays "RangeTellerModel" "RangeTellerModel" "next" "I" ∈ rt_tbl := rt_g4 (List.mem_of_getElem? (i := 176) rfl) rfl
set_option maxRecDepth 20000 in
theorem rt_w990 : Cond.lays "RangeTellerModel" "RangeTellerModel" "steps" "I" ∈ rt_tbl := rt_g4 (List.mem_of_getElem? (i := 178) rfl) rfl
set_option maxRecDepth 20000 in
theorem rt_w992 : Cond.lays "RangeTellerModel" "RangeTellerModel" "outcomeCode" "I" ∈ rt_tbl := rt_g4 (List.mem_of_getElem? (i := 180) rfl) rfl
set_option maxRecDepth 20000 in
theorem rt_w994 : Cond.lays "RangeTellerModel" "RangeTellerModel" "result" "I" ∈ rt_tbl := rt_g4 (List.mem_of_getElem? (i := 182) rfl) rfl
set_option maxRecDepth 20000 in
theorem rt_w996 : Cond.lays "RangeTellerModel" "RangeTellerModel" "stopped" "I" ∈ rt_tbl := rt_g4 (List.mem_of_getElem? (i := 184) rfl) rfl
set_option maxRecDepth 20000 in
theorem rt_w998 : Cond.lays "RangeTellerModel" "RangeTellerModel" "outputs" "I" ∈ rt_tbl := rt_g4 (List.mem_of_getElem? (i := 186) rfl) rfl
set_option maxRecDepth 20000 in
theorem rt_w1000 : Cond.laysFinal "RangeTellerModel" "RangeTellerModel" "output" "[I" ∈ rt_tbl := rt_g4 (List.mem_of_getElem? (i := 188) rfl) rfl
set_option maxRecDepth 20000 in
theorem rt_w1002 : Cond.laysFinal "RangeTellerModel" "RangeTellerModel" "reached" "[Z" ∈ rt_tbl := rt_g4 (List.mem_of_getElem? (i := 190) rfl) rfl
set_option maxRecDepth 20000 in
theorem rt_w1004 : Cond.laysFinal "RangeTellerModel" "RangeTellerModel" "fresh" "[Z" ∈ rt_tbl := rt_g4 (List.mem_of_getElem? (i := 192) rfl) rfl
set_option maxRecDepth 20000 in
theorem rt_w1006 : Cond.laysFinal "RangeTellerModel" "RangeTellerModel" "low" "[I" ∈ rt_tbl := rt_g4 (List.mem_of_getElem? (i := 194) rfl) rfl
set_option maxRecDepth 20000 in
theorem rt_w1008 : Cond.laysFinal "RangeTellerModel" "RangeTellerModel" "high" "[I" ∈ rt_tbl := rt_g4 (List.mem_of_getElem? (i := 196) rfl) rfl
set_option maxRecDepth 20000 in
theorem rt_w1010 : Cond.laysFinal "RangeTellerModel" "RangeTellerModel" "taint" "[Z" ∈ rt_tbl := rt_g4 (List.mem_of_getElem? (i := 198) rfl) rfl
set_option maxRecDepth 20000 in
theorem rt_w1012 : Cond.laysFinal "RangeTellerModel" "RangeTellerModel" "localLow" "[I" ∈ rt_tbl := rt_g4 (List.mem_of_getElem? (i := 200) rfl) rfl
set_option maxRecDepth 20000 in
theorem rt_w1014 : Cond.laysFinal "RangeTellerModel" "RangeTellerModel" "localHigh" "[I" ∈ rt_tbl := rt_g4 (List.mem_of_getElem? (i := 202) rfl) rfl
set_option maxRecDepth 20000 in
theorem rt_w1016 : Cond.laysFinal "RangeTellerModel" "RangeTellerModel" "localTaint" "[Z" ∈ rt_tbl := rt_g4 (List.mem_of_getElem? (i := 204) rfl) rfl
set_option maxRecDepth 20000 in
theorem rt_w1018 : Cond.laysFinal "RangeTellerModel" "RangeTellerModel" "cellLow" "[I" ∈ rt_tbl := rt_g4 (List.mem_of_getElem? (i := 206) rfl) rfl
set_option maxRecDepth 20000 in
theorem rt_w1020 : Cond.laysFinal "RangeTellerModel" "RangeTellerModel" "cellHigh" "[I" ∈ rt_tbl := rt_g4 (List.mem_of_getElem? (i := 208) rfl) rfl
set_option maxRecDepth 20000 in
theorem rt_w1022 : Cond.laysFinal "RangeTellerModel" "RangeTellerModel" "cellTaint" "[Z" ∈ rt_tbl := rt_g4 (List.mem_of_getElem? (i := 210) rfl) rfl
set_option maxRecDepth 20000 in
theorem rt_w1024 : Cond.laysFinal "RangeTellerModel" "RangeTellerModel" "giveLow" "[I" ∈ rt_tbl := rt_g4 (List.mem_of_getElem? (i := 212) rfl) rfl
set_option maxRecDepth 20000 in
theorem rt_w1026 : Cond.laysFinal "RangeTellerModel" "RangeTellerModel" "giveHigh" "[I" ∈ rt_tbl := rt_g4 (List.mem_of_getElem? (i := 214) rfl) rfl
set_option maxRecDepth 20000 in
theorem rt_w1028 : Cond.laysFinal "RangeTellerModel" "RangeTellerModel" "giveTaint" "[Z" ∈ rt_tbl := rt_g4 (List.mem_of_getElem? (i := 216) rfl) rfl
set_option maxRecDepth 20000 in
theorem rt_w1030 : Cond.laysFinal "RangeTellerModel" "RangeTellerModel" "canEnd" "[Z" ∈ rt_tbl := rt_g4 (List.mem_of_getElem? (i := 218) rfl) rfl
set_option maxRecDepth 20000 in
theorem rt_w1032 : Cond.lays "RangeTellerModel" "RangeTellerModel" "grew" "Z" ∈ rt_tbl := rt_g4 (List.mem_of_getElem? (i := 220) rfl) rfl
set_option maxRecDepth 20000 in
theorem rt_w1034 : Cond.lays "RangeTellerModel" "RangeTellerModel" "have" "I" ∈ rt_tbl := rt_g4 (List.mem_of_getElem? (i := 222) rfl) rfl
set_option maxRecDepth 20000 in
theorem rt_w1036 : Cond.laysFinal "RangeTellerModel" "RangeTellerModel" "nowLow" "[I" ∈ rt_tbl := rt_g4 (List.mem_of_getElem? (i := 224) rfl) rfl
set_option maxRecDepth 20000 in
theorem rt_w1038 : Cond.laysFinal "RangeTellerModel" "RangeTellerModel" "nowHigh" "[I" ∈ rt_tbl := rt_g4 (List.mem_of_getElem? (i := 226) rfl) rfl
set_option maxRecDepth 20000 in
theorem rt_w1040 : Cond.laysFinal "RangeTellerModel" "RangeTellerModel" "nowTaint" "[Z" ∈ rt_tbl := rt_g4 (List.mem_of_getElem? (i := 228) rfl) rfl
set_option maxRecDepth 20000 in
theorem rt_w1042 : Cond.laysFinal "RangeTellerModel" "RangeTellerModel" "varLow" "[I" ∈ rt_tbl := rt_g4 (List.mem_of_getElem? (i := 230) rfl) rfl
set_option maxRecDepth 20000 in
theorem rt_w1044 : Cond.laysFinal "RangeTellerModel" "RangeTellerModel" "varHigh" "[I" ∈ rt_tbl := rt_g4 (List.mem_of_getElem? (i := 232) rfl) rfl
set_option maxRecDepth 20000 in
theorem rt_w1046 : Cond.laysFinal "RangeTellerModel" "RangeTellerModel" "varTaint" "[Z" ∈ rt_tbl := rt_g4 (List.mem_of_getElem? (i := 234) rfl) rfl
set_option maxRecDepth 20000 in
theorem rt_w1048 : Cond.lays "RangeTellerModel" "RangeTellerModel" "least" "I" ∈ rt_tbl := rt_g4 (List.mem_of_getElem? (i := 236) rfl) rfl
set_option maxRecDepth 20000 in
theorem rt_w1050 : Cond.lays "RangeTellerModel" "RangeTellerModel" "greatest" "I" ∈ rt_tbl := rt_g4 (List.mem_of_getElem? (i := 238) rfl) rfl
set_option maxRecDepth 20000 in
theorem rt_w1052 : Cond.lays "RangeTellerModel" "RangeTellerModel" "tainted" "Z" ∈ rt_tbl := rt_g5 (List.mem_of_getElem? (i := 0) rfl) rfl
set_option maxRecDepth 20000 in
theorem rt_w1055 : Cond.methodLink "RangeTellerLaw" 17 ⟨"RangeTellerModel", "feed", "(I)Z"⟩ ∈ rt_tbl := rt_g5 (List.mem_of_getElem? (i := 3) rfl) rfl
set_option maxRecDepth 20000 in
theorem rt_w1056 : Cond.instanceMethod ⟨"RangeTellerModel", "feed", "(I)Z"⟩ ∈ rt_tbl := rt_g5 (List.mem_of_getElem? (i := 4) rfl) rfl
set_option maxRecDepth 20000 in
theorem rt_w1057 : Cond.selects "RangeTellerModel" ⟨"RangeTellerModel", "feed", "(I)Z"⟩ ⟨"RangeTellerModel", "feed", "(I)Z"⟩ ∈ rt_tbl := rt_g5 (List.mem_of_getElem? (i := 5) rfl) rfl
set_option maxRecDepth 20000 in
theorem rt_w1058 : Cond.code ⟨"RangeTellerModel", "feed", "(I)Z"⟩ prog_10_method_2_code 2 (Option.some Jvm.ClassFile.FieldType.boolean) ∈ rt_tbl := rt_g5 (List.mem_of_getElem? (i := 6) rfl) rfl
set_option maxRecDepth 20000 in
theorem rt_w1059 : Cond.methodLink "RangeTellerLaw" 22 ⟨"RangeTellerModel", "load", "()I"⟩ ∈ rt_tbl := rt_g5 (List.mem_of_getElem? (i := 7) rfl) rfl
set_option maxRecDepth 20000 in
theorem rt_w1060 : Cond.instanceMethod ⟨"RangeTellerModel", "load", "()I"⟩ ∈ rt_tbl := rt_g5 (List.mem_of_getElem? (i := 8) rfl) rfl
set_option maxRecDepth 20000 in
theorem rt_w1061 : Cond.selects "RangeTellerModel" ⟨"RangeTellerModel", "load", "()I"⟩ ⟨"RangeTellerModel", "load", "()I"⟩ ∈ rt_tbl := rt_g5 (List.mem_of_getElem? (i := 9) rfl) rfl
set_option maxRecDepth 20000 in
theorem rt_w1062 : Cond.code ⟨"RangeTellerModel", "load", "()I"⟩ prog_10_method_19_code 2 (Option.some Jvm.ClassFile.FieldType.int) ∈ rt_tbl := rt_g5 (List.mem_of_getElem? (i := 10) rfl) rfl
set_option maxRecDepth 20000 in
theorem rt_w1063 : Cond.methodLink "RangeTellerModel" 230 ⟨"RangeTellerModel", "read", "()Z"⟩ ∈ rt_tbl := rt_g5 (List.mem_of_getElem? (i := 11) rfl) rfl
set_option maxRecDepth 20000 in
theorem rt_w1065 : Cond.instanceMethod ⟨"RangeTellerModel", "read", "()Z"⟩ ∈ rt_tbl := rt_g5 (List.mem_of_getElem? (i := 13) rfl) rfl
set_option maxRecDepth 20000 in
theorem rt_w1066 : Cond.code ⟨"RangeTellerModel", "read", "()Z"⟩ prog_10_method_8_code 2 (Option.some Jvm.ClassFile.FieldType.boolean) ∈ rt_tbl := rt_g5 (List.mem_of_getElem? (i := 14) rfl) rfl
set_option maxRecDepth 20000 in
theorem rt_w1067 : Cond.methodLink "RangeTellerModel" 167 ⟨"RangeTellerModel", "number", "(II)I"⟩ ∈ rt_tbl := rt_g5 (List.mem_of_getElem? (i := 15) rfl) rfl
set_option maxRecDepth 20000 in
theorem rt_w1069 : Cond.instanceMethod ⟨"RangeTellerModel", "number", "(II)I"⟩ ∈ rt_tbl := rt_g5 (List.mem_of_getElem? (i := 17) rfl) rfl
set_option maxRecDepth 20000 in
theorem rt_w1070 : Cond.code ⟨"RangeTellerModel", "number", "(II)I"⟩ prog_10_method_4_code 6 (Option.some Jvm.ClassFile.FieldType.int) ∈ rt_tbl := rt_g5 (List.mem_of_getElem? (i := 18) rfl) rfl
set_option maxRecDepth 20000 in
theorem rt_w1071 : Cond.methodLink "RangeTellerModel" 163 ⟨"RangeTellerModel", "take", "()I"⟩ ∈ rt_tbl := rt_g5 (List.mem_of_getElem? (i := 19) rfl) rfl
set_option maxRecDepth 20000 in
theorem rt_w1073 : Cond.instanceMethod ⟨"RangeTellerModel", "take", "()I"⟩ ∈ rt_tbl := rt_g5 (List.mem_of_getElem? (i := 21) rfl) rfl
set_option maxRecDepth 20000 in
theorem rt_w1074 : Cond.code ⟨"RangeTellerModel", "take", "()I"⟩ prog_10_method_3_code 1 (Option.some Jvm.ClassFile.FieldType.int) ∈ rt_tbl := rt_g5 (List.mem_of_getElem? (i := 22) rfl) rfl
set_option maxRecDepth 20000 in
theorem rt_w1075 : Cond.methodLink "RangeTellerModel" 188 ⟨"RangeTellerModel", "readFunction", "(I)V"⟩ ∈ rt_tbl := rt_g5 (List.mem_of_getElem? (i := 23) rfl) rfl
set_option maxRecDepth 20000 in
theorem rt_w1077 : Cond.instanceMethod ⟨"RangeTellerModel", "readFunction", "(I)V"⟩ ∈ rt_tbl := rt_g5 (List.mem_of_getElem? (i := 25) rfl) rfl
set_option maxRecDepth 20000 in
theorem rt_w1078 : Cond.code ⟨"RangeTellerModel", "readFunction", "(I)V"⟩ prog_10_method_6_code 6 (Option.none : Option Jvm.ClassFile.FieldType) ∈ rt_tbl := rt_g5 (List.mem_of_getElem? (i := 26) rfl) rfl
set_option maxRecDepth 20000 in
theorem rt_w1079 : Cond.methodLink "RangeTellerModel" 177 ⟨"RangeTellerModel", "hasArgument", "(I)Z"⟩ ∈ rt_tbl := rt_g5 (List.mem_of_getElem? (i := 27) rfl) rfl
set_option maxRecDepth 20000 in
theorem rt_w1080 : Cond.static ⟨"RangeTellerModel", "hasArgument", "(I)Z"⟩ ∈ rt_tbl := rt_g5 (List.mem_of_getElem? (i := 28) rfl) rfl
set_option maxRecDepth 20000 in
theorem rt_w1081 : Cond.code ⟨"RangeTellerModel", "hasArgument", "(I)Z"⟩ prog_10_method_5_code 1 (Option.some Jvm.ClassFile.FieldType.boolean) ∈ rt_tbl := rt_g5 (List.mem_of_getElem? (i := 29) rfl) rfl
set_option maxRecDepth 20000 in
theorem rt_w1082 : Cond.methodLink "RangeTellerModel" 181 ⟨"RangeTellerModel", "close", "(I)V"⟩ ∈ rt_tbl := rt_g5 (List.mem_of_getElem? (i := 30) rfl) rfl
set_option maxRecDepth 20000 in
theorem rt_w1084 : Cond.instanceMethod ⟨"RangeTellerModel", "close", "(I)V"⟩ ∈ rt_tbl := rt_g5 (List.mem_of_getElem? (i := 32) rfl) rfl
set_option maxRecDepth 20000 in
theorem rt_w1085 : Cond.code ⟨"RangeTellerModel", "close", "(I)V"⟩ prog_10_method_7_code 3 (Option.none : Option Jvm.ClassFile.FieldType) ∈ rt_tbl := rt_g5 (List.mem_of_getElem? (i := 33) rfl) rfl
set_option maxRecDepth 20000 in
theorem rt_w1086 : Cond.methodLink "RangeTellerModel" 233 ⟨"RangeTellerModel", "check", "()Z"⟩ ∈ rt_tbl := rt_g5 (List.mem_of_getElem? (i := 34) rfl) rfl
set_option maxRecDepth 20000 in
theorem rt_w1088 : Cond.instanceMethod ⟨"RangeTellerModel", "check", "()Z"⟩ ∈ rt_tbl := rt_g5 (List.mem_of_getElem? (i := 36) rfl) rfl
set_option maxRecDepth 20000 in
theorem rt_w1089 : Cond.code ⟨"RangeTellerModel", "check", "()Z"⟩ prog_10_method_18_code 2 (Option.some Jvm.ClassFile.FieldType.boolean) ∈ rt_tbl := rt_g5 (List.mem_of_getElem? (i := 37) rfl) rfl
set_option maxRecDepth 20000 in
theorem rt_w1090 : Cond.methodLink "RangeTellerModel" 204 ⟨"RangeTellerModel", "open", "(II)V"⟩ ∈ rt_tbl := rt_g5 (List.mem_of_getElem? (i := 38) rfl) rfl
set_option maxRecDepth 20000 in
theorem rt_w1092 : Cond.instanceMethod ⟨"RangeTellerModel", "open", "(II)V"⟩ ∈ rt_tbl := rt_g5 (List.mem_of_getElem? (i := 40) rfl) rfl
set_option maxRecDepth 20000 in
theorem rt_w1093 : Cond.code ⟨"RangeTellerModel", "open", "(II)V"⟩ prog_10_method_11_code 3 (Option.none : Option Jvm.ClassFile.FieldType) ∈ rt_tbl := rt_g5 (List.mem_of_getElem? (i := 41) rfl) rfl
set_option maxRecDepth 20000 in
theorem rt_w1094 : Cond.methodLink "RangeTellerModel" 221 ⟨"RangeTellerModel", "checkOne", "(I)Z"⟩ ∈ rt_tbl := rt_g5 (List.mem_of_getElem? (i := 42) rfl) rfl
set_option maxRecDepth 20000 in
theorem rt_w1096 : Cond.instanceMethod ⟨"RangeTellerModel", "checkOne", "(I)Z"⟩ ∈ rt_tbl := rt_g5 (List.mem_of_getElem? (i := 44) rfl) rfl
set_option maxRecDepth 20000 in
theorem rt_w1097 : Cond.code ⟨"RangeTellerModel", "checkOne", "(I)Z"⟩ prog_10_method_17_code 4 (Option.some Jvm.ClassFile.FieldType.boolean) ∈ rt_tbl := rt_g5 (List.mem_of_getElem? (i := 45) rfl) rfl
set_option maxRecDepth 20000 in
theorem rt_w1098 : Cond.methodLink "RangeTellerModel" 214 ⟨"RangeTellerModel", "checkFlow", "(I)Z"⟩ ∈ rt_tbl := rt_g5 (List.mem_of_getElem? (i := 46) rfl) rfl
set_option maxRecDepth 20000 in
theorem rt_w1100 : Cond.instanceMethod ⟨"RangeTellerModel", "checkFlow", "(I)Z"⟩ ∈ rt_tbl := rt_g5 (List.mem_of_getElem? (i := 48) rfl) rfl
set_option maxRecDepth 20000 in
theorem rt_w1101 : Cond.code ⟨"RangeTellerModel", "checkFlow", "(I)Z"⟩ prog_10_method_15_code 6 (Option.some Jvm.ClassFile.FieldType.boolean) ∈ rt_tbl := rt_g5 (List.mem_of_getElem? (i := 49) rfl) rfl
set_option maxRecDepth 20000 in
theorem rt_w1102 : Cond.methodLink "RangeTellerModel" 200 ⟨"RangeTellerModel", "deaden", "()Z"⟩ ∈ rt_tbl := rt_g5 (List.mem_of_getElem? (i := 50) rfl) rfl
set_option maxRecDepth 20000 in
theorem rt_w1104 : Cond.instanceMethod ⟨"RangeTellerModel", "deaden", "()Z"⟩ ∈ rt_tbl := rt_g5 (List.mem_of_getElem? (i := 52) rfl) rfl
set_option maxRecDepth 20000 in
theorem rt_w1105 : Cond.code ⟨"RangeTellerModel", "deaden", "()Z"⟩ prog_10_method_12_code 1 (Option.some Jvm.ClassFile.FieldType.boolean) ∈ rt_tbl := rt_g5 (List.mem_of_getElem? (i := 53) rfl) rfl
set_option maxRecDepth 20000 in
theorem rt_w1106 : Cond.methodLink "RangeTellerModel" 194 ⟨"RangeTellerModel", "drop", "(I)Z"⟩ ∈ rt_tbl := rt_g5 (List.mem_of_getElem? (i := 54) rfl) rfl
set_option maxRecDepth 20000 in
theorem rt_w1108 : Cond.instanceMethod ⟨"RangeTellerModel", "drop", "(I)Z"⟩ ∈ rt_tbl := rt_g5 (List.mem_of_getElem? (i := 56) rfl) rfl
set_option maxRecDepth 20000 in
theorem rt_w1109 : Cond.code ⟨"RangeTellerModel", "drop", "(I)Z"⟩ prog_10_method_9_code 4 (Option.some Jvm.ClassFile.FieldType.boolean) ∈ rt_tbl := rt_g5 (List.mem_of_getElem? (i := 57) rfl) rfl
set_option maxRecDepth 20000 in
theorem rt_w1110 : Cond.methodLink "RangeTellerModel" 208 ⟨"RangeTellerModel", "checkEnd", "(I)Z"⟩ ∈ rt_tbl := rt_g5 (List.mem_of_getElem? (i := 58) rfl) rfl
set_option maxRecDepth 20000 in
theorem rt_w1112 : Cond.instanceMethod ⟨"RangeTellerModel", "checkEnd", "(I)Z"⟩ ∈ rt_tbl := rt_g5 (List.mem_of_getElem? (i := 60) rfl) rfl
set_option maxRecDepth 20000 in
theorem rt_w1113 : Cond.code ⟨"RangeTellerModel", "checkEnd", "(I)Z"⟩ prog_10_method_14_code 5 (Option.some Jvm.ClassFile.FieldType.boolean) ∈ rt_tbl := rt_g5 (List.mem_of_getElem? (i := 61) rfl) rfl
set_option maxRecDepth 20000 in
theorem rt_w1114 : Cond.methodLink "RangeTellerModel" 197 ⟨"RangeTellerModel", "give", "(I)Z"⟩ ∈ rt_tbl := rt_g5 (List.mem_of_getElem? (i := 62) rfl) rfl
set_option maxRecDepth 20000 in
theorem rt_w1116 : Cond.instanceMethod ⟨"RangeTellerModel", "give", "(I)Z"⟩ ∈ rt_tbl := rt_g5 (List.mem_of_getElem? (i := 64) rfl) rfl
set_option maxRecDepth 20000 in
theorem rt_w1117 : Cond.code ⟨"RangeTellerModel", "give", "(I)Z"⟩ prog_10_method_10_code 2 (Option.some Jvm.ClassFile.FieldType.boolean) ∈ rt_tbl := rt_g5 (List.mem_of_getElem? (i := 65) rfl) rfl
set_option maxRecDepth 20000 in
theorem rt_w1118 : Cond.methodLink "RangeTellerModel" 211 ⟨"RangeTellerModel", "needs", "(II)I"⟩ ∈ rt_tbl := rt_g5 (List.mem_of_getElem? (i := 66) rfl) rfl
set_option maxRecDepth 20000 in
theorem rt_w1120 : Cond.instanceMethod ⟨"RangeTellerModel", "needs", "(II)I"⟩ ∈ rt_tbl := rt_g5 (List.mem_of_getElem? (i := 68) rfl) rfl
set_option maxRecDepth 20000 in
theorem rt_w1121 : Cond.code ⟨"RangeTellerModel", "needs", "(II)I"⟩ prog_10_method_13_code 6 (Option.some Jvm.ClassFile.FieldType.int) ∈ rt_tbl := rt_g5 (List.mem_of_getElem? (i := 69) rfl) rfl
set_option maxRecDepth 20000 in
theorem rt_w1122 : Cond.methodLink "RangeTellerModel" 217 ⟨"RangeTellerModel", "takes", "(I)I"⟩ ∈ rt_tbl := rt_g5 (List.mem_of_getElem? (i := 70) rfl) rfl
set_option maxRecDepth 20000 in
theorem rt_w1123 : Cond.static ⟨"RangeTellerModel", "takes", "(I)I"⟩ ∈ rt_tbl := rt_g5 (List.mem_of_getElem? (i := 71) rfl) rfl
set_option maxRecDepth 20000 in
theorem rt_w1124 : Cond.code ⟨"RangeTellerModel", "takes", "(I)I"⟩ prog_10_method_16_code 1 (Option.some Jvm.ClassFile.FieldType.int) ∈ rt_tbl := rt_g5 (List.mem_of_getElem? (i := 72) rfl) rfl
set_option maxRecDepth 20000 in
theorem rt_w1125 : Cond.methodLink "RangeTellerModel" 236 ⟨"RangeTellerModel", "foretell", "()V"⟩ ∈ rt_tbl := rt_g5 (List.mem_of_getElem? (i := 73) rfl) rfl
set_option maxRecDepth 20000 in
theorem rt_w1127 : Cond.instanceMethod ⟨"RangeTellerModel", "foretell", "()V"⟩ ∈ rt_tbl := rt_g5 (List.mem_of_getElem? (i := 75) rfl) rfl
set_option maxRecDepth 20000 in
theorem rt_w1128 : Cond.code ⟨"RangeTellerModel", "foretell", "()V"⟩ prog_10_method_52_code 2 (Option.none : Option Jvm.ClassFile.FieldType) ∈ rt_tbl := rt_g5 (List.mem_of_getElem? (i := 76) rfl) rfl
set_option maxRecDepth 20000 in
theorem rt_w1129 : Cond.methodLink "RangeTellerModel" 353 ⟨"RangeTellerModel", "clear", "()V"⟩ ∈ rt_tbl := rt_g5 (List.mem_of_getElem? (i := 77) rfl) rfl
set_option maxRecDepth 20000 in
theorem rt_w1131 : Cond.instanceMethod ⟨"RangeTellerModel", "clear", "()V"⟩ ∈ rt_tbl := rt_g5 (List.mem_of_getElem? (i := 79) rfl) rfl
set_option maxRecDepth 20000 in
theorem rt_w1132 : Cond.code ⟨"RangeTellerModel", "clear", "()V"⟩ prog_10_method_35_code 2 (Option.none : Option Jvm.ClassFile.FieldType) ∈ rt_tbl := rt_g5 (List.mem_of_getElem? (i := 80) rfl) rfl
set_option maxRecDepth 20000 in
theorem rt_w1133 : Cond.methodLink "RangeTellerModel" 323 ⟨"RangeTellerModel", "pass", "(I)V"⟩ ∈ rt_tbl := rt_g5 (List.mem_of_getElem? (i := 81) rfl) rfl
set_option maxRecDepth 20000 in
theorem rt_w1135 : Cond.instanceMethod ⟨"RangeTellerModel", "pass", "(I)V"⟩ ∈ rt_tbl := rt_g5 (List.mem_of_getElem? (i := 83) rfl) rfl
set_option maxRecDepth 20000 in
theorem rt_w1136 : Cond.code ⟨"RangeTellerModel", "pass", "(I)V"⟩ prog_10_method_36_code 6 (Option.none : Option Jvm.ClassFile.FieldType) ∈ rt_tbl := rt_g5 (List.mem_of_getElem? (i := 84) rfl) rfl
set_option maxRecDepth 20000 in
theorem rt_w1137 : Cond.methodLink "RangeTellerModel" 356 ⟨"RangeTellerModel", "giveOn", "(I)V"⟩ ∈ rt_tbl := rt_g5 (List.mem_of_getElem? (i := 85) rfl) rfl
set_option maxRecDepth 20000 in
theorem rt_w1139 : Cond.instanceMethod ⟨"RangeTellerModel", "giveOn", "(I)V"⟩ ∈ rt_tbl := rt_g5 (List.mem_of_getElem? (i := 87) rfl) rfl
set_option maxRecDepth 20000 in
theorem rt_w1140 : Cond.code ⟨"RangeTellerModel", "giveOn", "(I)V"⟩ prog_10_method_51_code 3 (Option.none : Option Jvm.ClassFile.FieldType) ∈ rt_tbl := rt_g5 (List.mem_of_getElem? (i := 88) rfl) rfl
set_option maxRecDepth 20000 in
theorem rt_w1141 : Cond.methodLink "RangeTellerModel" 326 ⟨"RangeTellerModel", "bring", "(I)V"⟩ ∈ rt_tbl := rt_g5 (List.mem_of_getElem? (i := 89) rfl) rfl
set_option maxRecDepth 20000 in
theorem rt_w1143 : Cond.instanceMethod ⟨"RangeTellerModel", "bring", "(I)V"⟩ ∈ rt_tbl := rt_g5 (List.mem_of_getElem? (i := 91) rfl) rfl
set_option maxRecDepth 20000 in
theorem rt_w1144 : Cond.code ⟨"RangeTellerModel", "bring", "(I)V"⟩ prog_10_method_37_code 3 (Option.none : Option Jvm.ClassFile.FieldType) ∈ rt_tbl := rt_g5 (List.mem_of_getElem? (i := 92) rfl) rfl
set_option maxRecDepth 20000 in
theorem rt_w1145 : Cond.methodLink "RangeTellerModel" 338 ⟨"RangeTellerModel", "passIf", "(I)V"⟩ ∈ rt_tbl := rt_g5 (List.mem_of_getElem? (i := 93) rfl) rfl
set_option maxRecDepth 20000 in
theorem rt_w1147 : Cond.instanceMethod ⟨"RangeTellerModel", "passIf", "(I)V"⟩ ∈ rt_tbl := rt_g5 (List.mem_of_getElem? (i := 95) rfl) rfl
set_option maxRecDepth 20000 in
theorem rt_w1148 : Cond.code ⟨"RangeTellerModel", "passIf", "(I)V"⟩ prog_10_method_46_code 5 (Option.none : Option Jvm.ClassFile.FieldType) ∈ rt_tbl := rt_g5 (List.mem_of_getElem? (i := 96) rfl) rfl
set_option maxRecDepth 20000 in
theorem rt_w1149 : Cond.methodLink "RangeTellerModel" 329 ⟨"RangeTellerModel", "passBranch", "(I)V"⟩ ∈ rt_tbl := rt_g5 (List.mem_of_getElem? (i := 97) rfl) rfl
set_option maxRecDepth 20000 in
theorem rt_w1151 : Cond.instanceMethod ⟨"RangeTellerModel", "passBranch", "(I)V"⟩ ∈ rt_tbl := rt_g5 (List.mem_of_getElem? (i := 99) rfl) rfl
set_option maxRecDepth 20000 in
theorem rt_w1152 : Cond.code ⟨"RangeTellerModel", "passBranch", "(I)V"⟩ prog_10_method_44_code 3 (Option.none : Option Jvm.ClassFile.FieldType) ∈ rt_tbl := rt_g5 (List.mem_of_getElem? (i := 100) rfl) rfl
set_option maxRecDepth 20000 in
theorem rt_w1153 : Cond.methodLink "RangeTellerModel" 316 ⟨"RangeTellerModel", "ending", "(I)V"⟩ ∈ rt_tbl := rt_g5 (List.mem_of_getElem? (i := 101) rfl) rfl
set_option maxRecDepth 20000 in
theorem rt_w1155 : Cond.instanceMethod ⟨"RangeTellerModel", "ending", "(I)V"⟩ ∈ rt_tbl := rt_g5 (List.mem_of_getElem? (i := 103) rfl) rfl
set_option maxRecDepth 20000 in
theorem rt_w1156 : Cond.code ⟨"RangeTellerModel", "ending", "(I)V"⟩ prog_10_method_43_code 6 (Option.none : Option Jvm.ClassFile.FieldType) ∈ rt_tbl := rt_g5 (List.mem_of_getElem? (i := 104) rfl) rfl
set_option maxRecDepth 20000 in
theorem rt_w1157 : Cond.methodLink "RangeTellerModel" 313 ⟨"RangeTellerModel", "wake", "(II)V"⟩ ∈ rt_tbl := rt_g5 (List.mem_of_getElem? (i := 105) rfl) rfl
set_option maxRecDepth 20000 in
theorem rt_w1159 : Cond.instanceMethod ⟨"RangeTellerModel", "wake", "(II)V"⟩ ∈ rt_tbl := rt_g5 (List.mem_of_getElem? (i := 107) rfl) rfl
set_option maxRecDepth 20000 in
theorem rt_w1160 : Cond.code ⟨"RangeTellerModel", "wake", "(II)V"⟩ prog_10_method_42_code 4 (Option.none : Option Jvm.ClassFile.FieldType) ∈ rt_tbl := rt_g5 (List.mem_of_getElem? (i := 108) rfl) rfl
set_option maxRecDepth 20000 in
theorem rt_w1161 : Cond.methodLink "RangeTellerModel" 319 ⟨"RangeTellerModel", "set", "(IIIZ)V"⟩ ∈ rt_tbl := rt_g5 (List.mem_of_getElem? (i := 109) rfl) rfl
set_option maxRecDepth 20000 in
theorem rt_w1163 : Cond.instanceMethod ⟨"RangeTellerModel", "set", "(IIIZ)V"⟩ ∈ rt_tbl := rt_g5 (List.mem_of_getElem? (i := 111) rfl) rfl
set_option maxRecDepth 20000 in
theorem rt_w1164 : Cond.code ⟨"RangeTellerModel", "set", "(IIIZ)V"⟩ prog_10_method_38_code 5 (Option.none : Option Jvm.ClassFile.FieldType) ∈ rt_tbl := rt_g5 (List.mem_of_getElem? (i := 112) rfl) rfl
set_option maxRecDepth 20000 in
theorem rt_w1165 : Cond.methodLink "RangeTellerModel" 341 ⟨"RangeTellerModel", "passCall", "(I)V"⟩ ∈ rt_tbl := rt_g5 (List.mem_of_getElem? (i := 113) rfl) rfl
set_option maxRecDepth 20000 in
theorem rt_w1167 : Cond.instanceMethod ⟨"RangeTellerModel", "passCall", "(I)V"⟩ ∈ rt_tbl := rt_g5 (List.mem_of_getElem? (i := 115) rfl) rfl
set_option maxRecDepth 20000 in
theorem rt_w1168 : Cond.code ⟨"RangeTellerModel", "passCall", "(I)V"⟩ prog_10_method_45_code 7 (Option.none : Option Jvm.ClassFile.FieldType) ∈ rt_tbl := rt_g5 (List.mem_of_getElem? (i := 116) rfl) rfl
set_option maxRecDepth 20000 in
theorem rt_w1169 : Cond.methodLink "RangeTellerModel" 344 ⟨"RangeTellerModel", "load1", "(I)V"⟩ ∈ rt_tbl := rt_g5 (List.mem_of_getElem? (i := 117) rfl) rfl
set_option maxRecDepth 20000 in
theorem rt_w1171 : Cond.instanceMethod ⟨"RangeTellerModel", "load1", "(I)V"⟩ ∈ rt_tbl := rt_g5 (List.mem_of_getElem? (i := 119) rfl) rfl
set_option maxRecDepth 20000 in
theorem rt_w1172 : Cond.code ⟨"RangeTellerModel", "load1", "(I)V"⟩ prog_10_method_47_code 5 (Option.none : Option Jvm.ClassFile.FieldType) ∈ rt_tbl := rt_g5 (List.mem_of_getElem? (i := 120) rfl) rfl
set_option maxRecDepth 20000 in
theorem rt_w1173 : Cond.methodLink "RangeTellerModel" 306 ⟨"RangeTellerModel", "nothing", "(Z)V"⟩ ∈ rt_tbl := rt_g5 (List.mem_of_getElem? (i := 121) rfl) rfl
set_option maxRecDepth 20000 in
theorem rt_w1175 : Cond.instanceMethod ⟨"RangeTellerModel", "nothing", "(Z)V"⟩ ∈ rt_tbl := rt_g5 (List.mem_of_getElem? (i := 123) rfl) rfl
set_option maxRecDepth 20000 in
theorem rt_w1176 : Cond.code ⟨"RangeTellerModel", "nothing", "(Z)V"⟩ prog_10_method_39_code 2 (Option.none : Option Jvm.ClassFile.FieldType) ∈ rt_tbl := rt_g5 (List.mem_of_getElem? (i := 124) rfl) rfl
set_option maxRecDepth 20000 in
theorem rt_w1177 : Cond.methodLink "RangeTellerModel" 310 ⟨"RangeTellerModel", "join", "(II)V"⟩ ∈ rt_tbl := rt_g5 (List.mem_of_getElem? (i := 125) rfl) rfl
set_option maxRecDepth 20000 in
theorem rt_w1179 : Cond.instanceMethod ⟨"RangeTellerModel", "join", "(II)V"⟩ ∈ rt_tbl := rt_g5 (List.mem_of_getElem? (i := 127) rfl) rfl
set_option maxRecDepth 20000 in
theorem rt_w1180 : Cond.code ⟨"RangeTellerModel", "join", "(II)V"⟩ prog_10_method_40_code 3 (Option.none : Option Jvm.ClassFile.FieldType) ∈ rt_tbl := rt_g5 (List.mem_of_getElem? (i := 128) rfl) rfl
set_option maxRecDepth 20000 in
theorem rt_w1181 : Cond.methodLink "RangeTellerModel" 347 ⟨"RangeTellerModel", "store1", "(I)V"⟩ ∈ rt_tbl := rt_g5 (List.mem_of_getElem? (i := 129) rfl) rfl
set_option maxRecDepth 20000 in
theorem rt_w1183 : Cond.instanceMethod ⟨"RangeTellerModel", "store1", "(I)V"⟩ ∈ rt_tbl := rt_g5 (List.mem_of_getElem? (i := 131) rfl) rfl
set_option maxRecDepth 20000 in
theorem rt_w1184 : Cond.code ⟨"RangeTellerModel", "store1", "(I)V"⟩ prog_10_method_48_code 9 (Option.none : Option Jvm.ClassFile.FieldType) ∈ rt_tbl := rt_g5 (List.mem_of_getElem? (i := 132) rfl) rfl
set_option maxRecDepth 20000 in
theorem rt_w1185 : Cond.methodLink "RangeTellerModel" 350 ⟨"RangeTellerModel", "leaves", "(I)Z"⟩ ∈ rt_tbl := rt_g5 (List.mem_of_getElem? (i := 133) rfl) rfl
set_option maxRecDepth 20000 in
theorem rt_w1187 : Cond.instanceMethod ⟨"RangeTellerModel", "leaves", "(I)Z"⟩ ∈ rt_tbl := rt_g5 (List.mem_of_getElem? (i := 135) rfl) rfl
set_option maxRecDepth 20000 in
theorem rt_w1188 : Cond.code ⟨"RangeTellerModel", "leaves", "(I)Z"⟩ prog_10_method_50_code 5 (Option.some Jvm.ClassFile.FieldType.boolean) ∈ rt_tbl := rt_g5 (List.mem_of_getElem? (i := 136) rfl) rfl
set_option maxRecDepth 20000 in
theorem rt_w1189 : Cond.methodLink "RangeTellerModel" 332 ⟨"RangeTellerModel", "pick", "()V"⟩ ∈ rt_tbl := rt_g5 (List.mem_of_getElem? (i := 137) rfl) rfl
set_option maxRecDepth 20000 in
theorem rt_w1191 : Cond.instanceMethod ⟨"RangeTellerModel", "pick", "()V"⟩ ∈ rt_tbl := rt_g5 (List.mem_of_getElem? (i := 139) rfl) rfl
set_option maxRecDepth 20000 in
theorem rt_w1192 : Cond.code ⟨"RangeTellerModel", "pick", "()V"⟩ prog_10_method_49_code 4 (Option.none : Option Jvm.ClassFile.FieldType) ∈ rt_tbl := rt_g5 (List.mem_of_getElem? (i := 140) rfl) rfl
set_option maxRecDepth 20000 in
theorem rt_w1193 : Cond.methodLink "RangeTellerModel" 335 ⟨"RangeTellerModel", "pairs", "(I)V"⟩ ∈ rt_tbl := rt_g5 (List.mem_of_getElem? (i := 141) rfl) rfl
set_option maxRecDepth 20000 in
theorem rt_w1195 : Cond.instanceMethod ⟨"RangeTellerModel", "pairs", "(I)V"⟩ ∈ rt_tbl := rt_g5 (List.mem_of_getElem? (i := 143) rfl) rfl
set_option maxRecDepth 20000 in
theorem rt_w1196 : Cond.code ⟨"RangeTellerModel", "pairs", "(I)V"⟩ prog_10_method_41_code 7 (Option.none : Option Jvm.ClassFile.FieldType) ∈ rt_tbl := rt_g5 (List.mem_of_getElem? (i := 144) rfl) rfl
set_option maxRecDepth 20000 in
theorem rt_w1197 : Cond.methodLink "RangeTellerModel" 269 ⟨"RangeTellerModel", "operate", "(III)I"⟩ ∈ rt_tbl := rt_g5 (List.mem_of_getElem? (i := 145) rfl) rfl
set_option maxRecDepth 20000 in
theorem rt_w1198 : Cond.static ⟨"RangeTellerModel", "operate", "(III)I"⟩ ∈ rt_tbl := rt_g5 (List.mem_of_getElem? (i := 146) rfl) rfl
set_option maxRecDepth 20000 in
theorem rt_w1199 : Cond.code ⟨"RangeTellerModel", "operate", "(III)I"⟩ prog_10_method_24_code 3 (Option.some Jvm.ClassFile.FieldType.int) ∈ rt_tbl := rt_g5 (List.mem_of_getElem? (i := 147) rfl) rfl
set_option maxRecDepth 20000 in
theorem rt_w1200 : Cond.methodLink "RangeTellerLaw" 26 ⟨"RangeTellerModel", "place", "()I"⟩ ∈ rt_tbl := rt_g5 (List.mem_of_getElem? (i := 148) rfl) rfl
set_option maxRecDepth 20000 in
theorem rt_w1201 : Cond.instanceMethod ⟨"RangeTellerModel", "place", "()I"⟩ ∈ rt_tbl := rt_g5 (List.mem_of_getElem? (i := 149) rfl) rfl
set_option maxRecDepth 20000 in
theorem rt_w1202 : Cond.selects "RangeTellerModel" ⟨"RangeTellerModel", "place", "()I"⟩ ⟨"RangeTellerModel", "place", "()I"⟩ ∈ rt_tbl := rt_g5 (List.mem_of_getElem? (i := 150) rfl) rfl
set_option maxRecDepth 20000 in
theorem rt_w1203 : Cond.code ⟨"RangeTellerModel", "place", "()I"⟩ prog_10_method_20_code 1 (Option.some Jvm.ClassFile.FieldType.int) ∈ rt_tbl := rt_g5 (List.mem_of_getElem? (i := 151) rfl) rfl
set_option maxRecDepth 20000 in
theorem rt_w1204 : Cond.methodLink "RangeTellerLaw" 31 ⟨"RangeTellerModel", "input", "(I)I"⟩ ∈ rt_tbl := rt_g5 (List.mem_of_getElem? (i := 152) rfl) rfl
set_option maxRecDepth 20000 in
theorem rt_w1205 : Cond.instanceMethod ⟨"RangeTellerModel", "input", "(I)I"⟩ ∈ rt_tbl := rt_g5 (List.mem_of_getElem? (i := 153) rfl) rfl
set_option maxRecDepth 20000 in
theorem rt_w1206 : Cond.selects "RangeTellerModel" ⟨"RangeTellerModel", "input", "(I)I"⟩ ⟨"RangeTellerModel", "input", "(I)I"⟩ ∈ rt_tbl := rt_g5 (List.mem_of_getElem? (i := 154) rfl) rfl
set_option maxRecDepth 20000 in
theorem rt_w1207 : Cond.code ⟨"RangeTellerModel", "input", "(I)I"⟩ prog_10_method_21_code 2 (Option.some Jvm.ClassFile.FieldType.int) ∈ rt_tbl := rt_g5 (List.mem_of_getElem? (i := 155) rfl) rfl
set_option maxRecDepth 20000 in
theorem rt_w1208 : Cond.methodLink "RangeTellerLaw" 36 ⟨"RangeTellerModel", "run", "(III)I"⟩ ∈ rt_tbl := rt_g5 (List.mem_of_getElem? (i := 156) rfl) rfl
set_option maxRecDepth 20000 in
theorem rt_w1209 : Cond.instanceMethod ⟨"RangeTellerModel", "run", "(III)I"⟩ ∈ rt_tbl := rt_g5 (List.mem_of_getElem? (i := 157) rfl) rfl
set_option maxRecDepth 20000 in
theorem rt_w1210 : Cond.selects "RangeTellerModel" ⟨"RangeTellerModel", "run", "(III)I"⟩ ⟨"RangeTellerModel", "run", "(III)I"⟩ ∈ rt_tbl := rt_g5 (List.mem_of_getElem? (i := 158) rfl) rfl
set_option maxRecDepth 20000 in
theorem rt_w1211 : Cond.code ⟨"RangeTellerModel", "run", "(III)I"⟩ prog_10_method_31_code 8 (Option.some Jvm.ClassFile.FieldType.int) ∈ rt_tbl := rt_g5 (List.mem_of_getElem? (i := 159) rfl) rfl
set_option maxRecDepth 20000 in
theorem rt_w1212 : Cond.methodLink "RangeTellerModel" 282 ⟨"RangeTellerModel", "trap", "(I)I"⟩ ∈ rt_tbl := rt_g5 (List.mem_of_getElem? (i := 160) rfl) rfl
set_option maxRecDepth 20000 in
theorem rt_w1214 : Cond.instanceMethod ⟨"RangeTellerModel", "trap", "(I)I"⟩ ∈ rt_tbl := rt_g5 (List.mem_of_getElem? (i := 162) rfl) rfl
set_option maxRecDepth 20000 in
theorem rt_w1215 : Cond.code ⟨"RangeTellerModel", "trap", "(I)I"⟩ prog_10_method_28_code 4 (Option.some Jvm.ClassFile.FieldType.int) ∈ rt_tbl := rt_g5 (List.mem_of_getElem? (i := 163) rfl) rfl
set_option maxRecDepth 20000 in
theorem rt_w1216 : Cond.methodLink "RangeTellerModel" 285 ⟨"RangeTellerModel", "flow", "(I)Z"⟩ ∈ rt_tbl := rt_g5 (List.mem_of_getElem? (i := 164) rfl) rfl
set_option maxRecDepth 20000 in
theorem rt_w1218 : Cond.instanceMethod ⟨"RangeTellerModel", "flow", "(I)Z"⟩ ∈ rt_tbl := rt_g5 (List.mem_of_getElem? (i := 166) rfl) rfl
set_option maxRecDepth 20000 in
theorem rt_w1219 : Cond.code ⟨"RangeTellerModel", "flow", "(I)Z"⟩ prog_10_method_29_code 2 (Option.some Jvm.ClassFile.FieldType.boolean) ∈ rt_tbl := rt_g5 (List.mem_of_getElem? (i := 167) rfl) rfl
set_option maxRecDepth 20000 in
theorem rt_w1220 : Cond.methodLink "RangeTellerModel" 245 ⟨"RangeTellerModel", "pop", "()I"⟩ ∈ rt_tbl := rt_g5 (List.mem_of_getElem? (i := 168) rfl) rfl
set_option maxRecDepth 20000 in
theorem rt_w1222 : Cond.instanceMethod ⟨"RangeTellerModel", "pop", "()I"⟩ ∈ rt_tbl := rt_g5 (List.mem_of_getElem? (i := 170) rfl) rfl
set_option maxRecDepth 20000 in
theorem rt_w1223 : Cond.code ⟨"RangeTellerModel", "pop", "()I"⟩ prog_10_method_22_code 1 (Option.some Jvm.ClassFile.FieldType.int) ∈ rt_tbl := rt_g5 (List.mem_of_getElem? (i := 171) rfl) rfl
set_option maxRecDepth 20000 in
theorem rt_w1224 : Cond.methodLink "RangeTellerModel" 257 ⟨"RangeTellerModel", "giveBack", "(I)Z"⟩ ∈ rt_tbl := rt_g5 (List.mem_of_getElem? (i := 172) rfl) rfl
set_option maxRecDepth 20000 in
theorem rt_w1226 : Cond.instanceMethod ⟨"RangeTellerModel", "giveBack", "(I)Z"⟩ ∈ rt_tbl := rt_g5 (List.mem_of_getElem? (i := 174) rfl) rfl
set_option maxRecDepth 20000 in
theorem rt_w1227 : Cond.code ⟨"RangeTellerModel", "giveBack", "(I)Z"⟩ prog_10_method_25_code 4 (Option.some Jvm.ClassFile.FieldType.boolean) ∈ rt_tbl := rt_g5 (List.mem_of_getElem? (i := 175) rfl) rfl
set_option maxRecDepth 20000 in
theorem rt_w1228 : Cond.methodLink "RangeTellerModel" 254 ⟨"RangeTellerModel", "push", "(I)V"⟩ ∈ rt_tbl := rt_g5 (List.mem_of_getElem? (i := 176) rfl) rfl
set_option maxRecDepth 20000 in
theorem rt_w1230 : Cond.instanceMethod ⟨"RangeTellerModel", "push", "(I)V"⟩ ∈ rt_tbl := rt_g5 (List.mem_of_getElem? (i := 178) rfl) rfl
set_option maxRecDepth 20000 in
theorem rt_w1231 : Cond.code ⟨"RangeTellerModel", "push", "(I)V"⟩ prog_10_method_23_code 2 (Option.none : Option Jvm.ClassFile.FieldType) ∈ rt_tbl := rt_g5 (List.mem_of_getElem? (i := 179) rfl) rfl
set_option maxRecDepth 20000 in
theorem rt_w1232 : Cond.methodLink "RangeTellerModel" 260 ⟨"RangeTellerModel", "branch", "(I)Z"⟩ ∈ rt_tbl := rt_g5 (List.mem_of_getElem? (i := 180) rfl) rfl
set_option maxRecDepth 20000 in
theorem rt_w1234 : Cond.instanceMethod ⟨"RangeTellerModel", "branch", "(I)Z"⟩ ∈ rt_tbl := rt_g5 (List.mem_of_getElem? (i := 182) rfl) rfl
set_option maxRecDepth 20000 in
theorem rt_w1235 : Cond.code ⟨"RangeTellerModel", "branch", "(I)Z"⟩ prog_10_method_26_code 4 (Option.some Jvm.ClassFile.FieldType.boolean) ∈ rt_tbl := rt_g5 (List.mem_of_getElem? (i := 183) rfl) rfl
set_option maxRecDepth 20000 in
theorem rt_w1236 : Cond.methodLink "RangeTellerModel" 263 ⟨"RangeTellerModel", "enter", "(I)V"⟩ ∈ rt_tbl := rt_g5 (List.mem_of_getElem? (i := 184) rfl) rfl
set_option maxRecDepth 20000 in
theorem rt_w1238 : Cond.instanceMethod ⟨"RangeTellerModel", "enter", "(I)V"⟩ ∈ rt_tbl := rt_g5 (List.mem_of_getElem? (i := 186) rfl) rfl
set_option maxRecDepth 20000 in
theorem rt_w1239 : Cond.code ⟨"RangeTellerModel", "enter", "(I)V"⟩ prog_10_method_27_code 6 (Option.none : Option Jvm.ClassFile.FieldType) ∈ rt_tbl := rt_g5 (List.mem_of_getElem? (i := 187) rfl) rfl
set_option maxRecDepth 20000 in
theorem rt_w1240 : Cond.methodLink "RangeTellerModel" 288 ⟨"RangeTellerModel", "act", "(II)V"⟩ ∈ rt_tbl := rt_g5 (List.mem_of_getElem? (i := 188) rfl) rfl
set_option maxRecDepth 20000 in
theorem rt_w1242 : Cond.instanceMethod ⟨"RangeTellerModel", "act", "(II)V"⟩ ∈ rt_tbl := rt_g5 (List.mem_of_getElem? (i := 190) rfl) rfl
set_option maxRecDepth 20000 in
theorem rt_w1243 : Cond.code ⟨"RangeTellerModel", "act", "(II)V"⟩ prog_10_method_30_code 9 (Option.none : Option Jvm.ClassFile.FieldType) ∈ rt_tbl := rt_g5 (List.mem_of_getElem? (i := 191) rfl) rfl
set_option maxRecDepth 20000 in
theorem rt_w1244 : Cond.methodLink "RangeTellerLaw" 40 ⟨"RangeTellerModel", "outcome", "(I)I"⟩ ∈ rt_tbl := rt_g5 (List.mem_of_getElem? (i := 192) rfl) rfl
set_option maxRecDepth 20000 in
theorem rt_w1245 : Cond.instanceMethod ⟨"RangeTellerModel", "outcome", "(I)I"⟩ ∈ rt_tbl := rt_g5 (List.mem_of_getElem? (i := 193) rfl) rfl
set_option maxRecDepth 20000 in
theorem rt_w1246 : Cond.selects "RangeTellerModel" ⟨"RangeTellerModel", "outcome", "(I)I"⟩ ⟨"RangeTellerModel", "outcome", "(I)I"⟩ ∈ rt_tbl := rt_g5 (List.mem_of_getElem? (i := 194) rfl) rfl
set_option maxRecDepth 20000 in
theorem rt_w1247 : Cond.code ⟨"RangeTellerModel", "outcome", "(I)I"⟩ prog_10_method_32_code 2 (Option.some Jvm.ClassFile.FieldType.int) ∈ rt_tbl := rt_g5 (List.mem_of_getElem? (i := 195) rfl) rfl
set_option maxRecDepth 20000 in
theorem rt_w1248 : Cond.methodLink "RangeTellerLaw" 44 ⟨"RangeTellerModel", "output", "(I)I"⟩ ∈ rt_tbl := rt_g5 (List.mem_of_getElem? (i := 196) rfl) rfl
set_option maxRecDepth 20000 in
theorem rt_w1249 : Cond.instanceMethod ⟨"RangeTellerModel", "output", "(I)I"⟩ ∈ rt_tbl := rt_g5 (List.mem_of_getElem? (i := 197) rfl) rfl
set_option maxRecDepth 20000 in
theorem rt_w1250 : Cond.selects "RangeTellerModel" ⟨"RangeTellerModel", "output", "(I)I"⟩ ⟨"RangeTellerModel", "output", "(I)I"⟩ ∈ rt_tbl := rt_g5 (List.mem_of_getElem? (i := 198) rfl) rfl
set_option maxRecDepth 20000 in
theorem rt_w1251 : Cond.code ⟨"RangeTellerModel", "output", "(I)I"⟩ prog_10_method_33_code 2 (Option.some Jvm.ClassFile.FieldType.int) ∈ rt_tbl := rt_g5 (List.mem_of_getElem? (i := 199) rfl) rfl
set_option maxRecDepth 20000 in
theorem rt_w1252 : Cond.methodLink "RangeTellerLaw" 48 ⟨"RangeTellerModel", "memory", "(I)I"⟩ ∈ rt_tbl := rt_g5 (List.mem_of_getElem? (i := 200) rfl) rfl
set_option maxRecDepth 20000 in
theorem rt_w1253 : Cond.instanceMethod ⟨"RangeTellerModel", "memory", "(I)I"⟩ ∈ rt_tbl := rt_g5 (List.mem_of_getElem? (i := 201) rfl) rfl
set_option maxRecDepth 20000 in
theorem rt_w1254 : Cond.selects "RangeTellerModel" ⟨"RangeTellerModel", "memory", "(I)I"⟩ ⟨"RangeTellerModel", "memory", "(I)I"⟩ ∈ rt_tbl := rt_g5 (List.mem_of_getElem? (i := 202) rfl) rfl
set_option maxRecDepth 20000 in
theorem rt_w1255 : Cond.code ⟨"RangeTellerModel", "memory", "(I)I"⟩ prog_10_method_34_code 2 (Option.some Jvm.ClassFile.FieldType.int) ∈ rt_tbl := rt_g5 (List.mem_of_getElem? (i := 203) rfl) rfl
set_option maxRecDepth 20000 in
theorem rt_w1256 : Cond.methodLink "RangeTellerLaw" 53 ⟨"RangeTellerModel", "instruction", "(II)I"⟩ ∈ rt_tbl := rt_g5 (List.mem_of_getElem? (i := 204) rfl) rfl
set_option maxRecDepth 20000 in
theorem rt_w1257 : Cond.instanceMethod ⟨"RangeTellerModel", "instruction", "(II)I"⟩ ∈ rt_tbl := rt_g5 (List.mem_of_getElem? (i := 205) rfl) rfl
set_option maxRecDepth 20000 in
theorem rt_w1258 : Cond.selects "RangeTellerModel" ⟨"RangeTellerModel", "instruction", "(II)I"⟩ ⟨"RangeTellerModel", "instruction", "(II)I"⟩ ∈ rt_tbl := rt_g5 (List.mem_of_getElem? (i := 206) rfl) rfl
set_option maxRecDepth 20000 in
theorem rt_w1259 : Cond.code ⟨"RangeTellerModel", "instruction", "(II)I"⟩ prog_10_method_56_code 3 (Option.some Jvm.ClassFile.FieldType.int) ∈ rt_tbl := rt_g5 (List.mem_of_getElem? (i := 207) rfl) rfl
set_option maxRecDepth 20000 in
theorem rt_w1260 : Cond.methodLink "RangeTellerModel" 359 ⟨"RangeTellerModel", "isInstruction", "(I)Z"⟩ ∈ rt_tbl := rt_g5 (List.mem_of_getElem? (i := 208) rfl) rfl
set_option maxRecDepth 20000 in
theorem rt_w1262 : Cond.instanceMethod ⟨"RangeTellerModel", "isInstruction", "(I)Z"⟩ ∈ rt_tbl := rt_g5 (List.mem_of_getElem? (i := 210) rfl) rfl
set_option maxRecDepth 20000 in
theorem rt_w1263 : Cond.code ⟨"RangeTellerModel", "isInstruction", "(I)Z"⟩ prog_10_method_55_code 2 (Option.some Jvm.ClassFile.FieldType.boolean) ∈ rt_tbl := rt_g5 (List.mem_of_getElem? (i := 211) rfl) rfl
set_option maxRecDepth 20000 in
theorem rt_w1264 : Cond.methodLink "RangeTellerModel" 362 ⟨"RangeTellerModel", "flags", "(I)I"⟩ ∈ rt_tbl := rt_g5 (List.mem_of_getElem? (i := 212) rfl) rfl
set_option maxRecDepth 20000 in
theorem rt_w1266 : Cond.instanceMethod ⟨"RangeTellerModel", "flags", "(I)I"⟩ ∈ rt_tbl := rt_g5 (List.mem_of_getElem? (i := 214) rfl) rfl
set_option maxRecDepth 20000 in
theorem rt_w1267 : Cond.code ⟨"RangeTellerModel", "flags", "(I)I"⟩ prog_10_method_54_code 4 (Option.some Jvm.ClassFile.FieldType.int) ∈ rt_tbl := rt_g5 (List.mem_of_getElem? (i := 215) rfl) rfl
set_option maxRecDepth 20000 in
theorem rt_w1268 : Cond.methodLink "RangeTellerLaw" 57 ⟨"RangeTellerModel", "operand", "(II)I"⟩ ∈ rt_tbl := rt_g5 (List.mem_of_getElem? (i := 216) rfl) rfl
set_option maxRecDepth 20000 in
theorem rt_w1269 : Cond.instanceMethod ⟨"RangeTellerModel", "operand", "(II)I"⟩ ∈ rt_tbl := rt_g5 (List.mem_of_getElem? (i := 217) rfl) rfl
set_option maxRecDepth 20000 in
theorem rt_w1270 : Cond.selects "RangeTellerModel" ⟨"RangeTellerModel", "operand", "(II)I"⟩ ⟨"RangeTellerModel", "operand", "(II)I"⟩ ∈ rt_tbl := rt_g5 (List.mem_of_getElem? (i := 218) rfl) rfl
set_option maxRecDepth 20000 in
theorem rt_w1271 : Cond.code ⟨"RangeTellerModel", "operand", "(II)I"⟩ prog_10_method_57_code 4 (Option.some Jvm.ClassFile.FieldType.int) ∈ rt_tbl := rt_g5 (List.mem_of_getElem? (i := 219) rfl) rfl
set_option maxRecDepth 20000 in
theorem rt_w1272 : Cond.methodLink "RangeTellerModel" 365 ⟨"RangeTellerModel", "code", "(IIZ)I"⟩ ∈ rt_tbl := rt_g5 (List.mem_of_getElem? (i := 220) rfl) rfl
set_option maxRecDepth 20000 in
theorem rt_w1273 : Cond.static ⟨"RangeTellerModel", "code", "(IIZ)I"⟩ ∈ rt_tbl := rt_g5 (List.mem_of_getElem? (i := 221) rfl) rfl
set_option maxRecDepth 20000 in
theorem rt_w1274 : Cond.code ⟨"RangeTellerModel", "code", "(IIZ)I"⟩ prog_10_method_53_code 3 (Option.some Jvm.ClassFile.FieldType.int) ∈ rt_tbl := rt_g5 (List.mem_of_getElem? (i := 222) rfl) rfl
set_option maxRecDepth 20000 in
theorem rt_w1275 : Cond.methodLink "RangeTellerLaw" 61 ⟨"RangeTellerModel", "local", "(II)I"⟩ ∈ rt_tbl := rt_g5 (List.mem_of_getElem? (i := 223) rfl) rfl
set_option maxRecDepth 20000 in
theorem rt_w1276 : Cond.instanceMethod ⟨"RangeTellerModel", "local", "(II)I"⟩ ∈ rt_tbl := rt_g5 (List.mem_of_getElem? (i := 224) rfl) rfl
set_option maxRecDepth 20000 in
theorem rt_w1277 : Cond.selects "RangeTellerModel" ⟨"RangeTellerModel", "local", "(II)I"⟩ ⟨"RangeTellerModel", "local", "(II)I"⟩ ∈ rt_tbl := rt_g5 (List.mem_of_getElem? (i := 225) rfl) rfl
set_option maxRecDepth 20000 in
theorem rt_w1278 : Cond.code ⟨"RangeTellerModel", "local", "(II)I"⟩ prog_10_method_58_code 3 (Option.some Jvm.ClassFile.FieldType.int) ∈ rt_tbl := rt_g5 (List.mem_of_getElem? (i := 226) rfl) rfl
set_option maxRecDepth 20000 in
theorem rt_w1279 : Cond.methodLink "RangeTellerLaw" 65 ⟨"RangeTellerModel", "cell", "(I)I"⟩ ∈ rt_tbl := rt_g5 (List.mem_of_getElem? (i := 227) rfl) rfl
set_option maxRecDepth 20000 in
theorem rt_w1280 : Cond.instanceMethod ⟨"RangeTellerModel", "cell", "(I)I"⟩ ∈ rt_tbl := rt_g5 (List.mem_of_getElem? (i := 228) rfl) rfl
set_option maxRecDepth 20000 in
theorem rt_w1281 : Cond.selects "RangeTellerModel" ⟨"RangeTellerModel", "cell", "(I)I"⟩ ⟨"RangeTellerModel", "cell", "(I)I"⟩ ∈ rt_tbl := rt_g5 (List.mem_of_getElem? (i := 229) rfl) rfl
set_option maxRecDepth 20000 in
theorem rt_w1282 : Cond.code ⟨"RangeTellerModel", "cell", "(I)I"⟩ prog_10_method_59_code 2 (Option.some Jvm.ClassFile.FieldType.int) ∈ rt_tbl := rt_g5 (List.mem_of_getElem? (i := 230) rfl) rfl
set_option maxRecDepth 20000 in
theorem rt_w1283 : Cond.methodLink "RangeTellerLaw" 69 ⟨"RangeTellerModel", "function", "(II)I"⟩ ∈ rt_tbl := rt_g5 (List.mem_of_getElem? (i := 231) rfl) rfl
set_option maxRecDepth 20000 in
theorem rt_w1284 : Cond.instanceMethod ⟨"RangeTellerModel", "function", "(II)I"⟩ ∈ rt_tbl := rt_g5 (List.mem_of_getElem? (i := 232) rfl) rfl
set_option maxRecDepth 20000 in
theorem rt_w1285 : Cond.selects "RangeTellerModel" ⟨"RangeTellerModel", "function", "(II)I"⟩ ⟨"RangeTellerModel", "function", "(II)I"⟩ ∈ rt_tbl := rt_g5 (List.mem_of_getElem? (i := 233) rfl) rfl
set_option maxRecDepth 20000 in
theorem rt_w1286 : Cond.code ⟨"RangeTellerModel", "function", "(II)I"⟩ prog_10_method_60_code 3 (Option.some Jvm.ClassFile.FieldType.int) ∈ rt_tbl := rt_g5 (List.mem_of_getElem? (i := 234) rfl) rfl
def rt_T0 : u_T := fun k => match k with
  | 0 => ("RangeTeller", "program", "LRangeTeller$Program;", true)
  | 1 => ("RangeTeller", "reader", "LRangeTeller$Reader;", true)
  | 2 => ("RangeTeller", "checker", "LRangeTeller$Checker;", true)
  | 3 => ("RangeTeller", "runner", "LRangeTeller$Runner;", true)
  | 4 => ("RangeTeller", "foreteller", "LRangeTeller$Foreteller;", true)
  | 5 => ("RangeTeller", "loaded", "Z", false)
  | _ => ("RangeTeller", "fault", "I", false)
def rt_y0 : Nat → FieldType := fun k => match k with
  | 0 => .object "RangeTeller$Program"
  | 1 => .object "RangeTeller$Reader"
  | 2 => .object "RangeTeller$Checker"
  | 3 => .object "RangeTeller$Runner"
  | 4 => .object "RangeTeller$Foreteller"
  | 5 => .boolean
  | _ => .int
theorem rt_n0 : ∀ a, a < 7 → ∀ b, b < 7 → a ≠ b → (rt_T0 a).2.1 ≠ (rt_T0 b).2.1 := by decide +kernel
theorem rt_o0 : ∀ k, k < 7 → parseFieldDescriptor (rt_T0 k).2.2.1 = some (rt_y0 k) := by decide +kernel
theorem rt_j0 : ∀ w ∈ u_ws "RangeTeller" rt_T0 7, w ∈ rt_tbl := List.forall_mem_cons.mpr ⟨rt_w385, List.forall_mem_cons.mpr ⟨rt_w387, List.forall_mem_cons.mpr ⟨rt_w389, List.forall_mem_cons.mpr ⟨rt_w391, List.forall_mem_cons.mpr ⟨rt_w393, List.forall_mem_cons.mpr ⟨rt_w395, List.forall_mem_cons.mpr ⟨rt_w397, fun _ h => absurd h List.not_mem_nil⟩⟩⟩⟩⟩⟩⟩
theorem rt_i0 {x : Cond} : ∀ w ∈ u_ws "RangeTeller" rt_T0 7, w ∈ x :: rt_tbl := fun w h => List.mem_cons_of_mem _ (rt_j0 w h)
def rt_T1 : u_T := fun k => match k with
  | 0 => ("RangeTeller$Program", "ops", "[I", true)
  | 1 => ("RangeTeller$Program", "arguments", "[I", true)
  | 2 => ("RangeTeller$Program", "owners", "[I", true)
  | 3 => ("RangeTeller$Program", "ends", "[I", true)
  | 4 => ("RangeTeller$Program", "elses", "[I", true)
  | 5 => ("RangeTeller$Program", "goals", "[I", true)
  | 6 => ("RangeTeller$Program", "bases", "[I", true)
  | 7 => ("RangeTeller$Program", "kept", "[I", true)
  | 8 => ("RangeTeller$Program", "firsts", "[I", true)
  | 9 => ("RangeTeller$Program", "parameters", "[I", true)
  | 10 => ("RangeTeller$Program", "moreLocals", "[I", true)
  | 11 => ("RangeTeller$Program", "results", "[I", true)
  | 12 => ("RangeTeller$Program", "size", "I", false)
  | _ => ("RangeTeller$Program", "functions", "I", false)
def rt_y1 : Nat → FieldType := fun k => match k with
  | 0 => .array .int
  | 1 => .array .int
  | 2 => .array .int
  | 3 => .array .int
  | 4 => .array .int
  | 5 => .array .int
  | 6 => .array .int
  | 7 => .array .int
  | 8 => .array .int
  | 9 => .array .int
  | 10 => .array .int
  | 11 => .array .int
  | 12 => .int
  | _ => .int
theorem rt_n1 : ∀ a, a < 14 → ∀ b, b < 14 → a ≠ b → (rt_T1 a).2.1 ≠ (rt_T1 b).2.1 := by decide +kernel
theorem rt_o1 : ∀ k, k < 14 → parseFieldDescriptor (rt_T1 k).2.2.1 = some (rt_y1 k) := by decide +kernel
theorem rt_j1 : ∀ w ∈ u_ws "RangeTeller$Program" rt_T1 14, w ∈ rt_tbl := List.forall_mem_cons.mpr ⟨rt_w171, List.forall_mem_cons.mpr ⟨rt_w173, List.forall_mem_cons.mpr ⟨rt_w175, List.forall_mem_cons.mpr ⟨rt_w177, List.forall_mem_cons.mpr ⟨rt_w179, List.forall_mem_cons.mpr ⟨rt_w181, List.forall_mem_cons.mpr ⟨rt_w183, List.forall_mem_cons.mpr ⟨rt_w185, List.forall_mem_cons.mpr ⟨rt_w187, List.forall_mem_cons.mpr ⟨rt_w189, List.forall_mem_cons.mpr ⟨rt_w191, List.forall_mem_cons.mpr ⟨rt_w193, List.forall_mem_cons.mpr ⟨rt_w195, List.forall_mem_cons.mpr ⟨rt_w197, fun _ h => absurd h List.not_mem_nil⟩⟩⟩⟩⟩⟩⟩⟩⟩⟩⟩⟩⟩⟩
theorem rt_i1 {x : Cond} : ∀ w ∈ u_ws "RangeTeller$Program" rt_T1 14, w ∈ x :: rt_tbl := fun w h => List.mem_cons_of_mem _ (rt_j1 w h)
def rt_T2 : u_T := fun k => match k with
  | 0 => ("RangeTeller$Reader", "program", "LRangeTeller$Program;", true)
  | 1 => ("RangeTeller$Reader", "bytes", "[I", true)
  | 2 => ("RangeTeller$Reader", "opened", "[I", true)
  | 3 => ("RangeTeller$Reader", "length", "I", false)
  | 4 => ("RangeTeller$Reader", "at", "I", false)
  | 5 => ("RangeTeller$Reader", "depth", "I", false)
  | _ => ("RangeTeller$Reader", "fault", "I", false)
def rt_y2 : Nat → FieldType := fun k => match k with
  | 0 => .object "RangeTeller$Program"
  | 1 => .array .int
  | 2 => .array .int
  | 3 => .int
  | 4 => .int
  | 5 => .int
  | _ => .int
theorem rt_n2 : ∀ a, a < 7 → ∀ b, b < 7 → a ≠ b → (rt_T2 a).2.1 ≠ (rt_T2 b).2.1 := by decide +kernel
theorem rt_o2 : ∀ k, k < 7 → parseFieldDescriptor (rt_T2 k).2.2.1 = some (rt_y2 k) := by decide +kernel
theorem rt_j2 : ∀ w ∈ u_ws "RangeTeller$Reader" rt_T2 7, w ∈ rt_tbl := List.forall_mem_cons.mpr ⟨rt_w214, List.forall_mem_cons.mpr ⟨rt_w216, List.forall_mem_cons.mpr ⟨rt_w218, List.forall_mem_cons.mpr ⟨rt_w220, List.forall_mem_cons.mpr ⟨rt_w222, List.forall_mem_cons.mpr ⟨rt_w224, List.forall_mem_cons.mpr ⟨rt_w226, fun _ h => absurd h List.not_mem_nil⟩⟩⟩⟩⟩⟩⟩
theorem rt_i2 {x : Cond} : ∀ w ∈ u_ws "RangeTeller$Reader" rt_T2 7, w ∈ x :: rt_tbl := fun w h => List.mem_cons_of_mem _ (rt_j2 w h)
def rt_T3 : u_T := fun k => match k with
  | 0 => ("RangeTeller$Checker", "program", "LRangeTeller$Program;", true)
  | 1 => ("RangeTeller$Checker", "openers", "[I", true)
  | 2 => ("RangeTeller$Checker", "bases", "[I", true)
  | 3 => ("RangeTeller$Checker", "live", "[Z", true)
  | 4 => ("RangeTeller$Checker", "latest", "I", false)
  | 5 => ("RangeTeller$Checker", "height", "I", false)
  | _ => ("RangeTeller$Checker", "wrong", "Z", false)
def rt_y3 : Nat → FieldType := fun k => match k with
  | 0 => .object "RangeTeller$Program"
  | 1 => .array .int
  | 2 => .array .int
  | 3 => .array .boolean
  | 4 => .int
  | 5 => .int
  | _ => .boolean
theorem rt_n3 : ∀ a, a < 7 → ∀ b, b < 7 → a ≠ b → (rt_T3 a).2.1 ≠ (rt_T3 b).2.1 := by decide +kernel
theorem rt_o3 : ∀ k, k < 7 → parseFieldDescriptor (rt_T3 k).2.2.1 = some (rt_y3 k) := by decide +kernel
theorem rt_j3 : ∀ w ∈ u_ws "RangeTeller$Checker" rt_T3 7, w ∈ rt_tbl := List.forall_mem_cons.mpr ⟨rt_w242, List.forall_mem_cons.mpr ⟨rt_w244, List.forall_mem_cons.mpr ⟨rt_w246, List.forall_mem_cons.mpr ⟨rt_w248, List.forall_mem_cons.mpr ⟨rt_w250, List.forall_mem_cons.mpr ⟨rt_w252, List.forall_mem_cons.mpr ⟨rt_w254, fun _ h => absurd h List.not_mem_nil⟩⟩⟩⟩⟩⟩⟩
theorem rt_i3 {x : Cond} : ∀ w ∈ u_ws "RangeTeller$Checker" rt_T3 7, w ∈ x :: rt_tbl := fun w h => List.mem_cons_of_mem _ (rt_j3 w h)
def rt_T4 : u_T := fun k => match k with
  | 0 => ("RangeTeller$Runner", "program", "LRangeTeller$Program;", true)
  | 1 => ("RangeTeller$Runner", "inputs", "[I", true)
  | 2 => ("RangeTeller$Runner", "inputCount", "I", false)
  | 3 => ("RangeTeller$Runner", "nextInput", "I", false)
  | 4 => ("RangeTeller$Runner", "cells", "[I", true)
  | 5 => ("RangeTeller$Runner", "outputs", "[I", true)
  | 6 => ("RangeTeller$Runner", "outputCount", "I", false)
  | 7 => ("RangeTeller$Runner", "ran", "Z", false)
  | 8 => ("RangeTeller$Runner", "state", "I", false)
  | 9 => ("RangeTeller$Runner", "at", "I", false)
  | 10 => ("RangeTeller$Runner", "steps", "I", false)
  | 11 => ("RangeTeller$Runner", "result", "I", false)
  | 12 => ("RangeTeller$Runner", "stack", "[I", true)
  | 13 => ("RangeTeller$Runner", "variables", "[I", true)
  | 14 => ("RangeTeller$Runner", "bottoms", "[I", true)
  | 15 => ("RangeTeller$Runner", "callers", "[I", true)
  | 16 => ("RangeTeller$Runner", "calls", "I", false)
  | _ => ("RangeTeller$Runner", "height", "I", false)
def rt_y4 : Nat → FieldType := fun k => match k with
  | 0 => .object "RangeTeller$Program"
  | 1 => .array .int
  | 2 => .int
  | 3 => .int
  | 4 => .array .int
  | 5 => .array .int
  | 6 => .int
  | 7 => .boolean
  | 8 => .int
  | 9 => .int
  | 10 => .int
  | 11 => .int
  | 12 => .array .int
  | 13 => .array .int
  | 14 => .array .int
  | 15 => .array .int
  | 16 => .int
  | _ => .int
theorem rt_n4 : ∀ a, a < 18 → ∀ b, b < 18 → a ≠ b → (rt_T4 a).2.1 ≠ (rt_T4 b).2.1 := by decide +kernel
theorem rt_o4 : ∀ k, k < 18 → parseFieldDescriptor (rt_T4 k).2.2.1 = some (rt_y4 k) := by decide +kernel
theorem rt_j4 : ∀ w ∈ u_ws "RangeTeller$Runner" rt_T4 18, w ∈ rt_tbl := List.forall_mem_cons.mpr ⟨rt_w290, List.forall_mem_cons.mpr ⟨rt_w292, List.forall_mem_cons.mpr ⟨rt_w294, List.forall_mem_cons.mpr ⟨rt_w296, List.forall_mem_cons.mpr ⟨rt_w298, List.forall_mem_cons.mpr ⟨rt_w300, List.forall_mem_cons.mpr ⟨rt_w302, List.forall_mem_cons.mpr ⟨rt_w304, List.forall_mem_cons.mpr ⟨rt_w306, List.forall_mem_cons.mpr ⟨rt_w308, List.forall_mem_cons.mpr ⟨rt_w310, List.forall_mem_cons.mpr ⟨rt_w312, List.forall_mem_cons.mpr ⟨rt_w314, List.forall_mem_cons.mpr ⟨rt_w316, List.forall_mem_cons.mpr ⟨rt_w318, List.forall_mem_cons.mpr ⟨rt_w320, List.forall_mem_cons.mpr ⟨rt_w322, List.forall_mem_cons.mpr ⟨rt_w324, fun _ h => absurd h List.not_mem_nil⟩⟩⟩⟩⟩⟩⟩⟩⟩⟩⟩⟩⟩⟩⟩⟩⟩⟩
theorem rt_i4 {x : Cond} : ∀ w ∈ u_ws "RangeTeller$Runner" rt_T4 18, w ∈ x :: rt_tbl := fun w h => List.mem_cons_of_mem _ (rt_j4 w h)
def rt_T5 : u_T := fun k => match k with
  | 0 => ("RangeTeller$Foreteller", "program", "LRangeTeller$Program;", true)
  | 1 => ("RangeTeller$Foreteller", "reached", "[Z", true)
  | 2 => ("RangeTeller$Foreteller", "heights", "[I", true)
  | 3 => ("RangeTeller$Foreteller", "cells", "[I", true)
  | 4 => ("RangeTeller$Foreteller", "results", "[I", true)
  | 5 => ("RangeTeller$Foreteller", "canEnd", "[Z", true)
  | 6 => ("RangeTeller$Foreteller", "waiting", "[Z", true)
  | 7 => ("RangeTeller$Foreteller", "operands", "[I", true)
  | 8 => ("RangeTeller$Foreteller", "locals", "[I", true)
  | 9 => ("RangeTeller$Foreteller", "parameters", "[I", true)
  | 10 => ("RangeTeller$Foreteller", "stack", "[I", true)
  | 11 => ("RangeTeller$Foreteller", "variables", "[I", true)
  | _ => ("RangeTeller$Foreteller", "height", "I", false)
def rt_y5 : Nat → FieldType := fun k => match k with
  | 0 => .object "RangeTeller$Program"
  | 1 => .array .boolean
  | 2 => .array .int
  | 3 => .array .int
  | 4 => .array .int
  | 5 => .array .boolean
  | 6 => .array .boolean
  | 7 => .array .int
  | 8 => .array .int
  | 9 => .array .int
  | 10 => .array .int
  | 11 => .array .int
  | _ => .int
theorem rt_n5 : ∀ a, a < 13 → ∀ b, b < 13 → a ≠ b → (rt_T5 a).2.1 ≠ (rt_T5 b).2.1 := by decide +kernel
theorem rt_o5 : ∀ k, k < 13 → parseFieldDescriptor (rt_T5 k).2.2.1 = some (rt_y5 k) := by decide +kernel
theorem rt_j5 : ∀ w ∈ u_ws "RangeTeller$Foreteller" rt_T5 13, w ∈ rt_tbl := List.forall_mem_cons.mpr ⟨rt_w351, List.forall_mem_cons.mpr ⟨rt_w353, List.forall_mem_cons.mpr ⟨rt_w355, List.forall_mem_cons.mpr ⟨rt_w357, List.forall_mem_cons.mpr ⟨rt_w359, List.forall_mem_cons.mpr ⟨rt_w361, List.forall_mem_cons.mpr ⟨rt_w363, List.forall_mem_cons.mpr ⟨rt_w365, List.forall_mem_cons.mpr ⟨rt_w367, List.forall_mem_cons.mpr ⟨rt_w369, List.forall_mem_cons.mpr ⟨rt_w371, List.forall_mem_cons.mpr ⟨rt_w373, List.forall_mem_cons.mpr ⟨rt_w375, fun _ h => absurd h List.not_mem_nil⟩⟩⟩⟩⟩⟩⟩⟩⟩⟩⟩⟩⟩
theorem rt_i5 {x : Cond} : ∀ w ∈ u_ws "RangeTeller$Foreteller" rt_T5 13, w ∈ x :: rt_tbl := fun w h => List.mem_cons_of_mem _ (rt_j5 w h)
def rt_T6 : u_T := fun k => match k with
  | 0 => ("RangeTellerModel", "fed", "I", false)
  | 1 => ("RangeTellerModel", "bytes", "[I", true)
  | 2 => ("RangeTellerModel", "at", "I", false)
  | 3 => ("RangeTellerModel", "bad", "Z", false)
  | 4 => ("RangeTellerModel", "loaded", "Z", false)
  | 5 => ("RangeTellerModel", "trouble", "I", false)
  | 6 => ("RangeTellerModel", "size", "I", false)
  | 7 => ("RangeTellerModel", "op", "[I", true)
  | 8 => ("RangeTellerModel", "argument", "[I", true)
  | 9 => ("RangeTellerModel", "owner", "[I", true)
  | 10 => ("RangeTellerModel", "endOf", "[I", true)
  | 11 => ("RangeTellerModel", "elseOf", "[I", true)
  | 12 => ("RangeTellerModel", "heights", "[I", true)
  | 13 => ("RangeTellerModel", "opener", "[I", true)
  | 14 => ("RangeTellerModel", "bottom", "[I", true)
  | 15 => ("RangeTellerModel", "kept", "[I", true)
  | 16 => ("RangeTellerModel", "functions", "I", false)
  | 17 => ("RangeTellerModel", "parameters", "[I", true)
  | 18 => ("RangeTellerModel", "locals", "[I", true)
  | 19 => ("RangeTellerModel", "results", "[I", true)
  | 20 => ("RangeTellerModel", "first", "[I", true)
  | 21 => ("RangeTellerModel", "frames", "I", false)
  | 22 => ("RangeTellerModel", "frame", "[I", true)
  | 23 => ("RangeTellerModel", "base", "[I", true)
  | 24 => ("RangeTellerModel", "gives", "[I", true)
  | 25 => ("RangeTellerModel", "live", "[Z", true)
  | 26 => ("RangeTellerModel", "height", "I", false)
  | 27 => ("RangeTellerModel", "inputs", "I", false)
  | 28 => ("RangeTellerModel", "input", "[I", true)
  | 29 => ("RangeTellerModel", "ran", "Z", false)
  | 30 => ("RangeTellerModel", "depth", "I", false)
  | 31 => ("RangeTellerModel", "caller", "[I", true)
  | 32 => ("RangeTellerModel", "operands", "[I", true)
  | 33 => ("RangeTellerModel", "variables", "[I", true)
  | 34 => ("RangeTellerModel", "count", "[I", true)
  | 35 => ("RangeTellerModel", "cells", "[I", true)
  | 36 => ("RangeTellerModel", "next", "I", false)
  | 37 => ("RangeTellerModel", "steps", "I", false)
  | 38 => ("RangeTellerModel", "outcomeCode", "I", false)
  | 39 => ("RangeTellerModel", "result", "I", false)
  | 40 => ("RangeTellerModel", "stopped", "I", false)
  | 41 => ("RangeTellerModel", "outputs", "I", false)
  | 42 => ("RangeTellerModel", "output", "[I", true)
  | 43 => ("RangeTellerModel", "reached", "[Z", true)
  | 44 => ("RangeTellerModel", "fresh", "[Z", true)
  | 45 => ("RangeTellerModel", "low", "[I", true)
  | 46 => ("RangeTellerModel", "high", "[I", true)
  | 47 => ("RangeTellerModel", "taint", "[Z", true)
  | 48 => ("RangeTellerModel", "localLow", "[I", true)
  | 49 => ("RangeTellerModel", "localHigh", "[I", true)
  | 50 => ("RangeTellerModel", "localTaint", "[Z", true)
  | 51 => ("RangeTellerModel", "cellLow", "[I", true)
  | 52 => ("RangeTellerModel", "cellHigh", "[I", true)
  | 53 => ("RangeTellerModel", "cellTaint", "[Z", true)
  | 54 => ("RangeTellerModel", "giveLow", "[I", true)
  | 55 => ("RangeTellerModel", "giveHigh", "[I", true)
  | 56 => ("RangeTellerModel", "giveTaint", "[Z", true)
  | 57 => ("RangeTellerModel", "canEnd", "[Z", true)
  | 58 => ("RangeTellerModel", "grew", "Z", false)
  | 59 => ("RangeTellerModel", "have", "I", false)
  | 60 => ("RangeTellerModel", "nowLow", "[I", true)
  | 61 => ("RangeTellerModel", "nowHigh", "[I", true)
  | 62 => ("RangeTellerModel", "nowTaint", "[Z", true)
  | 63 => ("RangeTellerModel", "varLow", "[I", true)
  | 64 => ("RangeTellerModel", "varHigh", "[I", true)
  | 65 => ("RangeTellerModel", "varTaint", "[Z", true)
  | 66 => ("RangeTellerModel", "least", "I", false)
  | 67 => ("RangeTellerModel", "greatest", "I", false)
  | _ => ("RangeTellerModel", "tainted", "Z", false)
def rt_y6 : Nat → FieldType := fun k => match k with
  | 0 => .int
  | 1 => .array .int
  | 2 => .int
  | 3 => .boolean
  | 4 => .boolean
  | 5 => .int
  | 6 => .int
  | 7 => .array .int
  | 8 => .array .int
  | 9 => .array .int
  | 10 => .array .int
  | 11 => .array .int
  | 12 => .array .int
  | 13 => .array .int
  | 14 => .array .int
  | 15 => .array .int
  | 16 => .int
  | 17 => .array .int
  | 18 => .array .int
  | 19 => .array .int
  | 20 => .array .int
  | 21 => .int
  | 22 => .array .int
  | 23 => .array .int
  | 24 => .array .int
  | 25 => .array .boolean
  | 26 => .int
  | 27 => .int
  | 28 => .array .int
  | 29 => .boolean
  | 30 => .int
  | 31 => .array .int
  | 32 => .array .int
  | 33 => .array .int
  | 34 => .array .int
  | 35 => .array .int
  | 36 => .int
  | 37 => .int
  | 38 => .int
  | 39 => .int
  | 40 => .int
  | 41 => .int
  | 42 => .array .int
  | 43 => .array .boolean
  | 44 => .array .boolean
  | 45 => .array .int
  | 46 => .array .int
  | 47 => .array .boolean
  | 48 => .array .int
  | 49 => .array .int
  | 50 => .array .boolean
  | 51 => .array .int
  | 52 => .array .int
  | 53 => .array .boolean
  | 54 => .array .int
  | 55 => .array .int
  | 56 => .array .boolean
  | 57 => .array .boolean
  | 58 => .boolean
  | 59 => .int
  | 60 => .array .int
  | 61 => .array .int
  | 62 => .array .boolean
  | 63 => .array .int
  | 64 => .array .int
  | 65 => .array .boolean
  | 66 => .int
  | 67 => .int
  | _ => .boolean
theorem rt_n6 : ∀ a, a < 69 → ∀ b, b < 69 → a ≠ b → (rt_T6 a).2.1 ≠ (rt_T6 b).2.1 := by decide +kernel
theorem rt_o6 : ∀ k, k < 69 → parseFieldDescriptor (rt_T6 k).2.2.1 = some (rt_y6 k) := by decide +kernel
theorem rt_j6 : ∀ w ∈ u_ws "RangeTellerModel" rt_T6 69, w ∈ rt_tbl := List.forall_mem_cons.mpr ⟨rt_w916, List.forall_mem_cons.mpr ⟨rt_w918, List.forall_mem_cons.mpr ⟨rt_w920, List.forall_mem_cons.mpr ⟨rt_w922, List.forall_mem_cons.mpr ⟨rt_w924, List.forall_mem_cons.mpr ⟨rt_w926, List.forall_mem_cons.mpr ⟨rt_w928, List.forall_mem_cons.mpr ⟨rt_w930, List.forall_mem_cons.mpr ⟨rt_w932, List.forall_mem_cons.mpr ⟨rt_w934, List.forall_mem_cons.mpr ⟨rt_w936, List.forall_mem_cons.mpr ⟨rt_w938, List.forall_mem_cons.mpr ⟨rt_w940, List.forall_mem_cons.mpr ⟨rt_w942, List.forall_mem_cons.mpr ⟨rt_w944, List.forall_mem_cons.mpr ⟨rt_w946, List.forall_mem_cons.mpr ⟨rt_w948, List.forall_mem_cons.mpr ⟨rt_w950, List.forall_mem_cons.mpr ⟨rt_w952, List.forall_mem_cons.mpr ⟨rt_w954, List.forall_mem_cons.mpr ⟨rt_w956, List.forall_mem_cons.mpr ⟨rt_w958, List.forall_mem_cons.mpr ⟨rt_w960, List.forall_mem_cons.mpr ⟨rt_w962, List.forall_mem_cons.mpr ⟨rt_w964, List.forall_mem_cons.mpr ⟨rt_w966, List.forall_mem_cons.mpr ⟨rt_w968, List.forall_mem_cons.mpr ⟨rt_w970, List.forall_mem_cons.mpr ⟨rt_w972, List.forall_mem_cons.mpr ⟨rt_w974, List.forall_mem_cons.mpr ⟨rt_w976, List.forall_mem_cons.mpr ⟨rt_w978, List.forall_mem_cons.mpr ⟨rt_w980, List.forall_mem_cons.mpr ⟨rt_w982, List.forall_mem_cons.mpr ⟨rt_w984, List.forall_mem_cons.mpr ⟨rt_w986, List.forall_mem_cons.mpr ⟨rt_w988, List.forall_mem_cons.mpr ⟨rt_w990, List.forall_mem_cons.mpr ⟨rt_w992, List.forall_mem_cons.mpr ⟨rt_w994, List.forall_mem_cons.mpr ⟨rt_w996, List.forall_mem_cons.mpr ⟨rt_w998, List.forall_mem_cons.mpr ⟨rt_w1000, List.forall_mem_cons.mpr ⟨rt_w1002, List.forall_mem_cons.mpr ⟨rt_w1004, List.forall_mem_cons.mpr ⟨rt_w1006, List.forall_mem_cons.mpr ⟨rt_w1008, List.forall_mem_cons.mpr ⟨rt_w1010, List.forall_mem_cons.mpr ⟨rt_w1012, List.forall_mem_cons.mpr ⟨rt_w1014, List.forall_mem_cons.mpr ⟨rt_w1016, List.forall_mem_cons.mpr ⟨rt_w1018, List.forall_mem_cons.mpr ⟨rt_w1020, List.forall_mem_cons.mpr ⟨rt_w1022, List.forall_mem_cons.mpr ⟨rt_w1024, List.forall_mem_cons.mpr ⟨rt_w1026, List.forall_mem_cons.mpr ⟨rt_w1028, List.forall_mem_cons.mpr ⟨rt_w1030, List.forall_mem_cons.mpr ⟨rt_w1032, List.forall_mem_cons.mpr ⟨rt_w1034, List.forall_mem_cons.mpr ⟨rt_w1036, List.forall_mem_cons.mpr ⟨rt_w1038, List.forall_mem_cons.mpr ⟨rt_w1040, List.forall_mem_cons.mpr ⟨rt_w1042, List.forall_mem_cons.mpr ⟨rt_w1044, List.forall_mem_cons.mpr ⟨rt_w1046, List.forall_mem_cons.mpr ⟨rt_w1048, List.forall_mem_cons.mpr ⟨rt_w1050, List.forall_mem_cons.mpr ⟨rt_w1052, fun _ h => absurd h List.not_mem_nil⟩⟩⟩⟩⟩⟩⟩⟩⟩⟩⟩⟩⟩⟩⟩⟩⟩⟩⟩⟩⟩⟩⟩⟩⟩⟩⟩⟩⟩⟩⟩⟩⟩⟩⟩⟩⟩⟩⟩⟩⟩⟩⟩⟩⟩⟩⟩⟩⟩⟩⟩⟩⟩⟩⟩⟩⟩⟩⟩⟩⟩⟩⟩⟩⟩⟩⟩⟩⟩
theorem rt_i6 {x : Cond} : ∀ w ∈ u_ws "RangeTellerModel" rt_T6 69, w ∈ x :: rt_tbl := fun w h => List.mem_cons_of_mem _ (rt_j6 w h)
abbrev rt_cl : List vw_C := [("RangeTeller", rt_T0, 7), ("RangeTeller$Program", rt_T1, 14), ("RangeTeller$Reader", rt_T2, 7), ("RangeTeller$Checker", rt_T3, 7), ("RangeTeller$Runner", rt_T4, 18), ("RangeTeller$Foreteller", rt_T5, 13), ("RangeTellerModel", rt_T6, 69)]
abbrev rt_t (cI cZ : ClassId) : List (ClassId × FieldType) := [(cI, .int), (cZ, .boolean)]
abbrev b_RangeTeller_init : ByteArray := prog_1_method_1_code
abbrev y_RangeTeller_init : MethodName := ⟨"RangeTeller", "<init>", "()V"⟩
abbrev b_RangeTeller_cell : ByteArray := prog_1_method_13_code
abbrev y_RangeTeller_cell : MethodName := ⟨"RangeTeller", "cell", "(I)I"⟩
abbrev b_RangeTeller_feed : ByteArray := prog_1_method_2_code
abbrev y_RangeTeller_feed : MethodName := ⟨"RangeTeller", "feed", "(I)Z"⟩
abbrev b_RangeTeller_function : ByteArray := prog_1_method_14_code
abbrev y_RangeTeller_function : MethodName := ⟨"RangeTeller", "function", "(II)I"⟩
abbrev b_RangeTeller_input : ByteArray := prog_1_method_5_code
abbrev y_RangeTeller_input : MethodName := ⟨"RangeTeller", "input", "(I)I"⟩
abbrev b_RangeTeller_instruction : ByteArray := prog_1_method_10_code
abbrev y_RangeTeller_instruction : MethodName := ⟨"RangeTeller", "instruction", "(II)I"⟩
abbrev b_RangeTeller_isInstruction : ByteArray := prog_1_method_15_code
abbrev y_RangeTeller_isInstruction : MethodName := ⟨"RangeTeller", "isInstruction", "(I)Z"⟩
abbrev b_RangeTeller_load : ByteArray := prog_1_method_3_code
abbrev y_RangeTeller_load : MethodName := ⟨"RangeTeller", "load", "()I"⟩
abbrev b_RangeTeller_local : ByteArray := prog_1_method_12_code
abbrev y_RangeTeller_local : MethodName := ⟨"RangeTeller", "local", "(II)I"⟩
abbrev b_RangeTeller_memory : ByteArray := prog_1_method_9_code
abbrev y_RangeTeller_memory : MethodName := ⟨"RangeTeller", "memory", "(I)I"⟩
abbrev b_RangeTeller_operand : ByteArray := prog_1_method_11_code
abbrev y_RangeTeller_operand : MethodName := ⟨"RangeTeller", "operand", "(II)I"⟩
abbrev b_RangeTeller_outcome : ByteArray := prog_1_method_7_code
abbrev y_RangeTeller_outcome : MethodName := ⟨"RangeTeller", "outcome", "(I)I"⟩
abbrev b_RangeTeller_output : ByteArray := prog_1_method_8_code
abbrev y_RangeTeller_output : MethodName := ⟨"RangeTeller", "output", "(I)I"⟩
abbrev b_RangeTeller_place : ByteArray := prog_1_method_4_code
abbrev y_RangeTeller_place : MethodName := ⟨"RangeTeller", "place", "()I"⟩
abbrev b_RangeTeller_run : ByteArray := prog_1_method_6_code
abbrev y_RangeTeller_run : MethodName := ⟨"RangeTeller", "run", "(III)I"⟩
abbrev b_Checker_init : ByteArray := prog_2_method_1_code
abbrev y_Checker_init : MethodName := ⟨"RangeTeller$Checker", "<init>", "(LRangeTeller$Program;)V"⟩
abbrev b_Checker_checkBranch : ByteArray := prog_2_method_6_code
abbrev y_Checker_checkBranch : MethodName := ⟨"RangeTeller$Checker", "checkBranch", "(II)V"⟩
abbrev b_Checker_checkCall : ByteArray := prog_2_method_7_code
abbrev y_Checker_checkCall : MethodName := ⟨"RangeTeller$Checker", "checkCall", "(I)V"⟩
abbrev b_Checker_checkElse : ByteArray := prog_2_method_4_code
abbrev y_Checker_checkElse : MethodName := ⟨"RangeTeller$Checker", "checkElse", "(I)V"⟩
abbrev b_Checker_checkEnd : ByteArray := prog_2_method_5_code
abbrev y_Checker_checkEnd : MethodName := ⟨"RangeTeller$Checker", "checkEnd", "(II)V"⟩
abbrev b_Checker_checkInstruction : ByteArray := prog_2_method_3_code
abbrev y_Checker_checkInstruction : MethodName := ⟨"RangeTeller$Checker", "checkInstruction", "(I)V"⟩
abbrev b_Checker_checkPlain : ByteArray := prog_2_method_8_code
abbrev y_Checker_checkPlain : MethodName := ⟨"RangeTeller$Checker", "checkPlain", "(II)V"⟩
abbrev b_Checker_deaden : ByteArray := prog_2_method_10_code
abbrev y_Checker_deaden : MethodName := ⟨"RangeTeller$Checker", "deaden", "()V"⟩
abbrev b_Checker_firstInvalid : ByteArray := prog_2_method_2_code
abbrev y_Checker_firstInvalid : MethodName := ⟨"RangeTeller$Checker", "firstInvalid", "()I"⟩
abbrev b_Checker_give : ByteArray := prog_2_method_13_code
abbrev y_Checker_give : MethodName := ⟨"RangeTeller$Checker", "give", "(I)V"⟩
abbrev b_Checker_mustBeAtBase : ByteArray := prog_2_method_11_code
abbrev y_Checker_mustBeAtBase : MethodName := ⟨"RangeTeller$Checker", "mustBeAtBase", "()V"⟩
abbrev b_Checker_open : ByteArray := prog_2_method_9_code
abbrev y_Checker_open : MethodName := ⟨"RangeTeller$Checker", "open", "(I)V"⟩
abbrev b_Checker_take : ByteArray := prog_2_method_12_code
abbrev y_Checker_take : MethodName := ⟨"RangeTeller$Checker", "take", "(I)V"⟩
abbrev b_Foreteller_init : ByteArray := prog_3_method_1_code
abbrev y_Foreteller_init : MethodName := ⟨"RangeTeller$Foreteller", "<init>", "(LRangeTeller$Program;)V"⟩
abbrev b_Foreteller_arrive : ByteArray := prog_3_method_15_code
abbrev y_Foreteller_arrive : MethodName := ⟨"RangeTeller$Foreteller", "arrive", "(I)V"⟩
abbrev b_Foreteller_call : ByteArray := prog_3_method_13_code
abbrev y_Foreteller_call : MethodName := ⟨"RangeTeller$Foreteller", "call", "(II)V"⟩
abbrev b_Foreteller_canMiss : ByteArray := prog_3_method_6_code
abbrev y_Foreteller_canMiss : MethodName := ⟨"RangeTeller$Foreteller", "canMiss", "(II)Z"⟩
abbrev b_Foreteller_clear : ByteArray := prog_3_method_7_code
abbrev y_Foreteller_clear : MethodName := ⟨"RangeTeller$Foreteller", "clear", "()V"⟩
abbrev b_Foreteller_enter : ByteArray := prog_3_method_14_code
abbrev y_Foreteller_enter : MethodName := ⟨"RangeTeller$Foreteller", "enter", "(I)V"⟩
abbrev b_Foreteller_fetch : ByteArray := prog_3_method_20_code
abbrev y_Foreteller_fetch : MethodName := ⟨"RangeTeller$Foreteller", "fetch", "(I)Z"⟩
abbrev b_Foreteller_flagsAt : ByteArray := prog_3_method_5_code
abbrev y_Foreteller_flagsAt : MethodName := ⟨"RangeTeller$Foreteller", "flagsAt", "(I)I"⟩
abbrev b_Foreteller_follow : ByteArray := prog_3_method_9_code
abbrev y_Foreteller_follow : MethodName := ⟨"RangeTeller$Foreteller", "follow", "(I)V"⟩
abbrev b_Foreteller_foretell : ByteArray := prog_3_method_2_code
abbrev y_Foreteller_foretell : MethodName := ⟨"RangeTeller$Foreteller", "foretell", "()V"⟩
abbrev b_Foreteller_fork : ByteArray := prog_3_method_10_code
abbrev y_Foreteller_fork : MethodName := ⟨"RangeTeller$Foreteller", "fork", "(IZ)V"⟩
abbrev b_Foreteller_joinInto : ByteArray := prog_3_method_16_code
abbrev y_Foreteller_joinInto : MethodName := ⟨"RangeTeller$Foreteller", "joinInto", "([II[III)Z"⟩
abbrev b_Foreteller_jump : ByteArray := prog_3_method_11_code
abbrev y_Foreteller_jump : MethodName := ⟨"RangeTeller$Foreteller", "jump", "(I)V"⟩
abbrev b_Foreteller_leave : ByteArray := prog_3_method_12_code
abbrev y_Foreteller_leave : MethodName := ⟨"RangeTeller$Foreteller", "leave", "(I)V"⟩
abbrev b_Foreteller_localAt : ByteArray := prog_3_method_4_code
abbrev y_Foreteller_localAt : MethodName := ⟨"RangeTeller$Foreteller", "localAt", "(II)I"⟩
abbrev b_Foreteller_operandAt : ByteArray := prog_3_method_3_code
abbrev y_Foreteller_operandAt : MethodName := ⟨"RangeTeller$Foreteller", "operandAt", "(II)I"⟩
abbrev b_Foreteller_operate : ByteArray := prog_3_method_18_code
abbrev y_Foreteller_operate : MethodName := ⟨"RangeTeller$Foreteller", "operate", "(II)Z"⟩
abbrev b_Foreteller_pick : ByteArray := prog_3_method_19_code
abbrev y_Foreteller_pick : MethodName := ⟨"RangeTeller$Foreteller", "pick", "()V"⟩
abbrev b_Foreteller_pop : ByteArray := prog_3_method_24_code
abbrev y_Foreteller_pop : MethodName := ⟨"RangeTeller$Foreteller", "pop", "()I"⟩
abbrev b_Foreteller_push : ByteArray := prog_3_method_23_code
abbrev y_Foreteller_push : MethodName := ⟨"RangeTeller$Foreteller", "push", "(I)V"⟩
abbrev b_Foreteller_recall : ByteArray := prog_3_method_8_code
abbrev y_Foreteller_recall : MethodName := ⟨"RangeTeller$Foreteller", "recall", "(I)V"⟩
abbrev b_Foreteller_reckon : ByteArray := prog_3_method_22_code
abbrev y_Foreteller_reckon : MethodName := ⟨"RangeTeller$Foreteller", "reckon", "(I)Z"⟩
abbrev b_Foreteller_store : ByteArray := prog_3_method_21_code
abbrev y_Foreteller_store : MethodName := ⟨"RangeTeller$Foreteller", "store", "(I)Z"⟩
abbrev b_Foreteller_wake : ByteArray := prog_3_method_17_code
abbrev y_Foreteller_wake : MethodName := ⟨"RangeTeller$Foreteller", "wake", "(I)V"⟩
abbrev b_Ops_given : ByteArray := prog_4_method_7_code
abbrev y_Ops_given : MethodName := ⟨"RangeTeller$Ops", "given", "(I)I"⟩
abbrev b_Ops_hasArgument : ByteArray := prog_4_method_5_code
abbrev y_Ops_hasArgument : MethodName := ⟨"RangeTeller$Ops", "hasArgument", "(I)Z"⟩
abbrev b_Ops_isOp : ByteArray := prog_4_method_2_code
abbrev y_Ops_isOp : MethodName := ⟨"RangeTeller$Ops", "isOp", "(I)Z"⟩
abbrev b_Ops_namesLocal : ByteArray := prog_4_method_4_code
abbrev y_Ops_namesLocal : MethodName := ⟨"RangeTeller$Ops", "namesLocal", "(I)Z"⟩
abbrev b_Ops_opens : ByteArray := prog_4_method_3_code
abbrev y_Ops_opens : MethodName := ⟨"RangeTeller$Ops", "opens", "(I)Z"⟩
abbrev b_Ops_taken : ByteArray := prog_4_method_6_code
abbrev y_Ops_taken : MethodName := ⟨"RangeTeller$Ops", "taken", "(I)I"⟩
abbrev b_Program_init : ByteArray := prog_5_method_1_code
abbrev y_Program_init : MethodName := ⟨"RangeTeller$Program", "<init>", "()V"⟩
abbrev b_Program_addFunction : ByteArray := prog_5_method_3_code
abbrev y_Program_addFunction : MethodName := ⟨"RangeTeller$Program", "addFunction", "(III)V"⟩
abbrev b_Program_addInstruction : ByteArray := prog_5_method_4_code
abbrev y_Program_addInstruction : MethodName := ⟨"RangeTeller$Program", "addInstruction", "(II)I"⟩
abbrev b_Program_clear : ByteArray := prog_5_method_2_code
abbrev y_Program_clear : MethodName := ⟨"RangeTeller$Program", "clear", "()V"⟩
abbrev b_Program_close : ByteArray := prog_5_method_5_code
abbrev y_Program_close : MethodName := ⟨"RangeTeller$Program", "close", "(II)V"⟩
abbrev b_Program_localCount : ByteArray := prog_5_method_6_code
abbrev y_Program_localCount : MethodName := ⟨"RangeTeller$Program", "localCount", "(I)I"⟩
abbrev b_Program_otherwise : ByteArray := prog_5_method_7_code
abbrev y_Program_otherwise : MethodName := ⟨"RangeTeller$Program", "otherwise", "(I)I"⟩
abbrev b_Program_setJump : ByteArray := prog_5_method_8_code
abbrev y_Program_setJump : MethodName := ⟨"RangeTeller$Program", "setJump", "(IIII)V"⟩
abbrev b_Ranges_canBeOther : ByteArray := prog_6_method_6_code
abbrev y_Ranges_canBeOther : MethodName := ⟨"RangeTeller$Ranges", "canBeOther", "(I)Z"⟩
abbrev b_Ranges_canBeZero : ByteArray := prog_6_method_5_code
abbrev y_Ranges_canBeZero : MethodName := ⟨"RangeTeller$Ranges", "canBeZero", "(I)Z"⟩
abbrev b_Ranges_greatest : ByteArray := prog_6_method_4_code
abbrev y_Ranges_greatest : MethodName := ⟨"RangeTeller$Ranges", "greatest", "(I)I"⟩
abbrev b_Ranges_greatestBoth : ByteArray := prog_6_method_19_code
abbrev y_Ranges_greatestBoth : MethodName := ⟨"RangeTeller$Ranges", "greatestBoth", "(II)I"⟩
abbrev b_Ranges_join : ByteArray := prog_6_method_8_code
abbrev y_Ranges_join : MethodName := ⟨"RangeTeller$Ranges", "join", "(II)I"⟩
abbrev b_Ranges_least : ByteArray := prog_6_method_3_code
abbrev y_Ranges_least : MethodName := ⟨"RangeTeller$Ranges", "least", "(I)I"⟩
abbrev b_Ranges_leastBoth : ByteArray := prog_6_method_18_code
abbrev y_Ranges_leastBoth : MethodName := ⟨"RangeTeller$Ranges", "leastBoth", "(II)I"⟩
abbrev b_Ranges_not : ByteArray := prog_6_method_9_code
abbrev y_Ranges_not : MethodName := ⟨"RangeTeller$Ranges", "not", "(I)I"⟩
abbrev b_Ranges_of : ByteArray := prog_6_method_2_code
abbrev y_Ranges_of : MethodName := ⟨"RangeTeller$Ranges", "of", "(II)I"⟩
abbrev b_Ranges_over : ByteArray := prog_6_method_16_code
abbrev y_Ranges_over : MethodName := ⟨"RangeTeller$Ranges", "over", "(II)I"⟩
abbrev b_Ranges_pick : ByteArray := prog_6_method_10_code
abbrev y_Ranges_pick : MethodName := ⟨"RangeTeller$Ranges", "pick", "(III)I"⟩
abbrev b_Ranges_reckoned : ByteArray := prog_6_method_11_code
abbrev y_Ranges_reckoned : MethodName := ⟨"RangeTeller$Ranges", "reckoned", "(III)I"⟩
abbrev b_Ranges_rest : ByteArray := prog_6_method_17_code
abbrev y_Ranges_rest : MethodName := ⟨"RangeTeller$Ranges", "rest", "(II)I"⟩
abbrev b_Ranges_same : ByteArray := prog_6_method_13_code
abbrev y_Ranges_same : MethodName := ⟨"RangeTeller$Ranges", "same", "(II)I"⟩
abbrev b_Ranges_taintOf : ByteArray := prog_6_method_7_code
abbrev y_Ranges_taintOf : MethodName := ⟨"RangeTeller$Ranges", "taintOf", "(I)I"⟩
abbrev b_Ranges_times : ByteArray := prog_6_method_15_code
abbrev y_Ranges_times : MethodName := ⟨"RangeTeller$Ranges", "times", "(II)I"⟩
abbrev b_Ranges_truth : ByteArray := prog_6_method_12_code
abbrev y_Ranges_truth : MethodName := ⟨"RangeTeller$Ranges", "truth", "(ZZ)I"⟩
abbrev b_Ranges_wrapped : ByteArray := prog_6_method_14_code
abbrev y_Ranges_wrapped : MethodName := ⟨"RangeTeller$Ranges", "wrapped", "(II)I"⟩
abbrev b_Reader_init : ByteArray := prog_7_method_1_code
abbrev y_Reader_init : MethodName := ⟨"RangeTeller$Reader", "<init>", "(LRangeTeller$Program;)V"⟩
abbrev b_Reader_append : ByteArray := prog_7_method_2_code
abbrev y_Reader_append : MethodName := ⟨"RangeTeller$Reader", "append", "(I)Z"⟩
abbrev b_Reader_elseFits : ByteArray := prog_7_method_6_code
abbrev y_Reader_elseFits : MethodName := ⟨"RangeTeller$Reader", "elseFits", "()Z"⟩
abbrev b_Reader_nest : ByteArray := prog_7_method_7_code
abbrev y_Reader_nest : MethodName := ⟨"RangeTeller$Reader", "nest", "(II)Z"⟩
abbrev b_Reader_readFunction : ByteArray := prog_7_method_4_code
abbrev y_Reader_readFunction : MethodName := ⟨"RangeTeller$Reader", "readFunction", "()V"⟩
abbrev b_Reader_readInstruction : ByteArray := prog_7_method_5_code
abbrev y_Reader_readInstruction : MethodName := ⟨"RangeTeller$Reader", "readInstruction", "()Z"⟩
abbrev b_Reader_readModule : ByteArray := prog_7_method_3_code
abbrev y_Reader_readModule : MethodName := ⟨"RangeTeller$Reader", "readModule", "()I"⟩
abbrev b_Reader_readNumber : ByteArray := prog_7_method_8_code
abbrev y_Reader_readNumber : MethodName := ⟨"RangeTeller$Reader", "readNumber", "(II)I"⟩
abbrev b_Runner_init : ByteArray := prog_8_method_1_code
abbrev y_Runner_init : MethodName := ⟨"RangeTeller$Runner", "<init>", "(LRangeTeller$Program;)V"⟩
abbrev b_Runner_addInput : ByteArray := prog_8_method_3_code
abbrev y_Runner_addInput : MethodName := ⟨"RangeTeller$Runner", "addInput", "(I)I"⟩
abbrev b_Runner_begin : ByteArray := prog_8_method_5_code
abbrev y_Runner_begin : MethodName := ⟨"RangeTeller$Runner", "begin", "(II)V"⟩
abbrev b_Runner_call : ByteArray := prog_8_method_11_code
abbrev y_Runner_call : MethodName := ⟨"RangeTeller$Runner", "call", "(I)V"⟩
abbrev b_Runner_enter : ByteArray := prog_8_method_6_code
abbrev y_Runner_enter : MethodName := ⟨"RangeTeller$Runner", "enter", "(I)V"⟩
abbrev b_Runner_fetch : ByteArray := prog_8_method_14_code
abbrev y_Runner_fetch : MethodName := ⟨"RangeTeller$Runner", "fetch", "(I)V"⟩
abbrev b_Runner_forget : ByteArray := prog_8_method_2_code
abbrev y_Runner_forget : MethodName := ⟨"RangeTeller$Runner", "forget", "()V"⟩
abbrev b_Runner_jump : ByteArray := prog_8_method_9_code
abbrev y_Runner_jump : MethodName := ⟨"RangeTeller$Runner", "jump", "(I)V"⟩
abbrev b_Runner_jumpIf : ByteArray := prog_8_method_8_code
abbrev y_Runner_jumpIf : MethodName := ⟨"RangeTeller$Runner", "jumpIf", "(IZ)V"⟩
abbrev b_Runner_leave : ByteArray := prog_8_method_10_code
abbrev y_Runner_leave : MethodName := ⟨"RangeTeller$Runner", "leave", "(I)V"⟩
abbrev b_Runner_operate : ByteArray := prog_8_method_12_code
abbrev y_Runner_operate : MethodName := ⟨"RangeTeller$Runner", "operate", "(II)V"⟩
abbrev b_Runner_pick : ByteArray := prog_8_method_13_code
abbrev y_Runner_pick : MethodName := ⟨"RangeTeller$Runner", "pick", "()V"⟩
abbrev b_Runner_pop : ByteArray := prog_8_method_21_code
abbrev y_Runner_pop : MethodName := ⟨"RangeTeller$Runner", "pop", "()I"⟩
abbrev b_Runner_push : ByteArray := prog_8_method_20_code
abbrev y_Runner_push : MethodName := ⟨"RangeTeller$Runner", "push", "(I)V"⟩
abbrev b_Runner_putOut : ByteArray := prog_8_method_17_code
abbrev y_Runner_putOut : MethodName := ⟨"RangeTeller$Runner", "putOut", "(I)V"⟩
abbrev b_Runner_reckon : ByteArray := prog_8_method_18_code
abbrev y_Runner_reckon : MethodName := ⟨"RangeTeller$Runner", "reckon", "(I)V"⟩
abbrev b_Runner_reckoned : ByteArray := prog_8_method_19_code
abbrev y_Runner_reckoned : MethodName := ⟨"RangeTeller$Runner", "reckoned", "(III)I"⟩
abbrev b_Runner_runWith : ByteArray := prog_8_method_4_code
abbrev y_Runner_runWith : MethodName := ⟨"RangeTeller$Runner", "runWith", "(III)I"⟩
abbrev b_Runner_step : ByteArray := prog_8_method_7_code
abbrev y_Runner_step : MethodName := ⟨"RangeTeller$Runner", "step", "(I)V"⟩
abbrev b_Runner_store : ByteArray := prog_8_method_15_code
abbrev y_Runner_store : MethodName := ⟨"RangeTeller$Runner", "store", "(I)V"⟩
abbrev b_Runner_takeInput : ByteArray := prog_8_method_16_code
abbrev y_Runner_takeInput : MethodName := ⟨"RangeTeller$Runner", "takeInput", "()V"⟩
abbrev b_RangeTellerModel_init : ByteArray := prog_10_method_1_code
abbrev y_RangeTellerModel_init : MethodName := ⟨"RangeTellerModel", "<init>", "()V"⟩
abbrev b_RangeTellerModel_act : ByteArray := prog_10_method_30_code
abbrev y_RangeTellerModel_act : MethodName := ⟨"RangeTellerModel", "act", "(II)V"⟩
abbrev b_RangeTellerModel_branch : ByteArray := prog_10_method_26_code
abbrev y_RangeTellerModel_branch : MethodName := ⟨"RangeTellerModel", "branch", "(I)Z"⟩
abbrev b_RangeTellerModel_bring : ByteArray := prog_10_method_37_code
abbrev y_RangeTellerModel_bring : MethodName := ⟨"RangeTellerModel", "bring", "(I)V"⟩
abbrev b_RangeTellerModel_cell : ByteArray := prog_10_method_59_code
abbrev y_RangeTellerModel_cell : MethodName := ⟨"RangeTellerModel", "cell", "(I)I"⟩
abbrev b_RangeTellerModel_check : ByteArray := prog_10_method_18_code
abbrev y_RangeTellerModel_check : MethodName := ⟨"RangeTellerModel", "check", "()Z"⟩
abbrev b_RangeTellerModel_checkEnd : ByteArray := prog_10_method_14_code
abbrev y_RangeTellerModel_checkEnd : MethodName := ⟨"RangeTellerModel", "checkEnd", "(I)Z"⟩
abbrev b_RangeTellerModel_checkFlow : ByteArray := prog_10_method_15_code
abbrev y_RangeTellerModel_checkFlow : MethodName := ⟨"RangeTellerModel", "checkFlow", "(I)Z"⟩
abbrev b_RangeTellerModel_checkOne : ByteArray := prog_10_method_17_code
abbrev y_RangeTellerModel_checkOne : MethodName := ⟨"RangeTellerModel", "checkOne", "(I)Z"⟩
abbrev b_RangeTellerModel_clear : ByteArray := prog_10_method_35_code
abbrev y_RangeTellerModel_clear : MethodName := ⟨"RangeTellerModel", "clear", "()V"⟩
abbrev b_RangeTellerModel_close : ByteArray := prog_10_method_7_code
abbrev y_RangeTellerModel_close : MethodName := ⟨"RangeTellerModel", "close", "(I)V"⟩
abbrev b_RangeTellerModel_code : ByteArray := prog_10_method_53_code
abbrev y_RangeTellerModel_code : MethodName := ⟨"RangeTellerModel", "code", "(IIZ)I"⟩
abbrev b_RangeTellerModel_deaden : ByteArray := prog_10_method_12_code
abbrev y_RangeTellerModel_deaden : MethodName := ⟨"RangeTellerModel", "deaden", "()Z"⟩
abbrev b_RangeTellerModel_drop : ByteArray := prog_10_method_9_code
abbrev y_RangeTellerModel_drop : MethodName := ⟨"RangeTellerModel", "drop", "(I)Z"⟩
abbrev b_RangeTellerModel_ending : ByteArray := prog_10_method_43_code
abbrev y_RangeTellerModel_ending : MethodName := ⟨"RangeTellerModel", "ending", "(I)V"⟩
abbrev b_RangeTellerModel_enter : ByteArray := prog_10_method_27_code
abbrev y_RangeTellerModel_enter : MethodName := ⟨"RangeTellerModel", "enter", "(I)V"⟩
abbrev b_RangeTellerModel_feed : ByteArray := prog_10_method_2_code
abbrev y_RangeTellerModel_feed : MethodName := ⟨"RangeTellerModel", "feed", "(I)Z"⟩
abbrev b_RangeTellerModel_flags : ByteArray := prog_10_method_54_code
abbrev y_RangeTellerModel_flags : MethodName := ⟨"RangeTellerModel", "flags", "(I)I"⟩
abbrev b_RangeTellerModel_flow : ByteArray := prog_10_method_29_code
abbrev y_RangeTellerModel_flow : MethodName := ⟨"RangeTellerModel", "flow", "(I)Z"⟩
abbrev b_RangeTellerModel_foretell : ByteArray := prog_10_method_52_code
abbrev y_RangeTellerModel_foretell : MethodName := ⟨"RangeTellerModel", "foretell", "()V"⟩
abbrev b_RangeTellerModel_function : ByteArray := prog_10_method_60_code
abbrev y_RangeTellerModel_function : MethodName := ⟨"RangeTellerModel", "function", "(II)I"⟩
abbrev b_RangeTellerModel_give : ByteArray := prog_10_method_10_code
abbrev y_RangeTellerModel_give : MethodName := ⟨"RangeTellerModel", "give", "(I)Z"⟩
abbrev b_RangeTellerModel_giveBack : ByteArray := prog_10_method_25_code
abbrev y_RangeTellerModel_giveBack : MethodName := ⟨"RangeTellerModel", "giveBack", "(I)Z"⟩
abbrev b_RangeTellerModel_giveOn : ByteArray := prog_10_method_51_code
abbrev y_RangeTellerModel_giveOn : MethodName := ⟨"RangeTellerModel", "giveOn", "(I)V"⟩
abbrev b_RangeTellerModel_hasArgument : ByteArray := prog_10_method_5_code
abbrev y_RangeTellerModel_hasArgument : MethodName := ⟨"RangeTellerModel", "hasArgument", "(I)Z"⟩
abbrev b_RangeTellerModel_input : ByteArray := prog_10_method_21_code
abbrev y_RangeTellerModel_input : MethodName := ⟨"RangeTellerModel", "input", "(I)I"⟩
abbrev b_RangeTellerModel_instruction : ByteArray := prog_10_method_56_code
abbrev y_RangeTellerModel_instruction : MethodName := ⟨"RangeTellerModel", "instruction", "(II)I"⟩
abbrev b_RangeTellerModel_isInstruction : ByteArray := prog_10_method_55_code
abbrev y_RangeTellerModel_isInstruction : MethodName := ⟨"RangeTellerModel", "isInstruction", "(I)Z"⟩
abbrev b_RangeTellerModel_join : ByteArray := prog_10_method_40_code
abbrev y_RangeTellerModel_join : MethodName := ⟨"RangeTellerModel", "join", "(II)V"⟩
abbrev b_RangeTellerModel_leaves : ByteArray := prog_10_method_50_code
abbrev y_RangeTellerModel_leaves : MethodName := ⟨"RangeTellerModel", "leaves", "(I)Z"⟩
abbrev b_RangeTellerModel_load : ByteArray := prog_10_method_19_code
abbrev y_RangeTellerModel_load : MethodName := ⟨"RangeTellerModel", "load", "()I"⟩
abbrev b_RangeTellerModel_load1 : ByteArray := prog_10_method_47_code
abbrev y_RangeTellerModel_load1 : MethodName := ⟨"RangeTellerModel", "load1", "(I)V"⟩
abbrev b_RangeTellerModel_local : ByteArray := prog_10_method_58_code
abbrev y_RangeTellerModel_local : MethodName := ⟨"RangeTellerModel", "local", "(II)I"⟩
abbrev b_RangeTellerModel_memory : ByteArray := prog_10_method_34_code
abbrev y_RangeTellerModel_memory : MethodName := ⟨"RangeTellerModel", "memory", "(I)I"⟩
abbrev b_RangeTellerModel_needs : ByteArray := prog_10_method_13_code
abbrev y_RangeTellerModel_needs : MethodName := ⟨"RangeTellerModel", "needs", "(II)I"⟩
abbrev b_RangeTellerModel_nothing : ByteArray := prog_10_method_39_code
abbrev y_RangeTellerModel_nothing : MethodName := ⟨"RangeTellerModel", "nothing", "(Z)V"⟩
abbrev b_RangeTellerModel_number : ByteArray := prog_10_method_4_code
abbrev y_RangeTellerModel_number : MethodName := ⟨"RangeTellerModel", "number", "(II)I"⟩
abbrev b_RangeTellerModel_open : ByteArray := prog_10_method_11_code
abbrev y_RangeTellerModel_open : MethodName := ⟨"RangeTellerModel", "open", "(II)V"⟩
abbrev b_RangeTellerModel_operand : ByteArray := prog_10_method_57_code
abbrev y_RangeTellerModel_operand : MethodName := ⟨"RangeTellerModel", "operand", "(II)I"⟩
abbrev b_RangeTellerModel_operate : ByteArray := prog_10_method_24_code
abbrev y_RangeTellerModel_operate : MethodName := ⟨"RangeTellerModel", "operate", "(III)I"⟩
abbrev b_RangeTellerModel_outcome : ByteArray := prog_10_method_32_code
abbrev y_RangeTellerModel_outcome : MethodName := ⟨"RangeTellerModel", "outcome", "(I)I"⟩
abbrev b_RangeTellerModel_output : ByteArray := prog_10_method_33_code
abbrev y_RangeTellerModel_output : MethodName := ⟨"RangeTellerModel", "output", "(I)I"⟩
abbrev b_RangeTellerModel_pairs : ByteArray := prog_10_method_41_code
abbrev y_RangeTellerModel_pairs : MethodName := ⟨"RangeTellerModel", "pairs", "(I)V"⟩
abbrev b_RangeTellerModel_pass : ByteArray := prog_10_method_36_code
abbrev y_RangeTellerModel_pass : MethodName := ⟨"RangeTellerModel", "pass", "(I)V"⟩
abbrev b_RangeTellerModel_passBranch : ByteArray := prog_10_method_44_code
abbrev y_RangeTellerModel_passBranch : MethodName := ⟨"RangeTellerModel", "passBranch", "(I)V"⟩
abbrev b_RangeTellerModel_passCall : ByteArray := prog_10_method_45_code
abbrev y_RangeTellerModel_passCall : MethodName := ⟨"RangeTellerModel", "passCall", "(I)V"⟩
abbrev b_RangeTellerModel_passIf : ByteArray := prog_10_method_46_code
abbrev y_RangeTellerModel_passIf : MethodName := ⟨"RangeTellerModel", "passIf", "(I)V"⟩
abbrev b_RangeTellerModel_pick : ByteArray := prog_10_method_49_code
abbrev y_RangeTellerModel_pick : MethodName := ⟨"RangeTellerModel", "pick", "()V"⟩
abbrev b_RangeTellerModel_place : ByteArray := prog_10_method_20_code
abbrev y_RangeTellerModel_place : MethodName := ⟨"RangeTellerModel", "place", "()I"⟩
abbrev b_RangeTellerModel_pop : ByteArray := prog_10_method_22_code
abbrev y_RangeTellerModel_pop : MethodName := ⟨"RangeTellerModel", "pop", "()I"⟩
abbrev b_RangeTellerModel_push : ByteArray := prog_10_method_23_code
abbrev y_RangeTellerModel_push : MethodName := ⟨"RangeTellerModel", "push", "(I)V"⟩
abbrev b_RangeTellerModel_read : ByteArray := prog_10_method_8_code
abbrev y_RangeTellerModel_read : MethodName := ⟨"RangeTellerModel", "read", "()Z"⟩
abbrev b_RangeTellerModel_readFunction : ByteArray := prog_10_method_6_code
abbrev y_RangeTellerModel_readFunction : MethodName := ⟨"RangeTellerModel", "readFunction", "(I)V"⟩
abbrev b_RangeTellerModel_run : ByteArray := prog_10_method_31_code
abbrev y_RangeTellerModel_run : MethodName := ⟨"RangeTellerModel", "run", "(III)I"⟩
abbrev b_RangeTellerModel_set : ByteArray := prog_10_method_38_code
abbrev y_RangeTellerModel_set : MethodName := ⟨"RangeTellerModel", "set", "(IIIZ)V"⟩
abbrev b_RangeTellerModel_store1 : ByteArray := prog_10_method_48_code
abbrev y_RangeTellerModel_store1 : MethodName := ⟨"RangeTellerModel", "store1", "(I)V"⟩
abbrev b_RangeTellerModel_take : ByteArray := prog_10_method_3_code
abbrev y_RangeTellerModel_take : MethodName := ⟨"RangeTellerModel", "take", "()I"⟩
abbrev b_RangeTellerModel_takes : ByteArray := prog_10_method_16_code
abbrev y_RangeTellerModel_takes : MethodName := ⟨"RangeTellerModel", "takes", "(I)I"⟩
abbrev b_RangeTellerModel_trap : ByteArray := prog_10_method_28_code
abbrev y_RangeTellerModel_trap : MethodName := ⟨"RangeTellerModel", "trap", "(I)I"⟩
abbrev b_RangeTellerModel_wake : ByteArray := prog_10_method_42_code
abbrev y_RangeTellerModel_wake : MethodName := ⟨"RangeTellerModel", "wake", "(II)V"⟩
abbrev b_Math_floorDiv : ByteArray := prog_11_method_47_code
abbrev y_Math_floorDiv : MethodName := ⟨"java/lang/Math", "floorDiv", "(II)I"⟩
abbrev b_Math_floorMod : ByteArray := prog_11_method_50_code
abbrev y_Math_floorMod : MethodName := ⟨"java/lang/Math", "floorMod", "(II)I"⟩
abbrev b_Arrays_fill : ByteArray := prog_13_method_103_code
abbrev y_Arrays_fill : MethodName := ⟨"java/util/Arrays", "fill", "([II)V"⟩
