/-! words of the tables, by their places: printed by wip/whole/inst.py -/
theorem v_0 : Cond.selects "TapeHouse$Text" ⟨"TapeHouse$Text", "append", "(I)V"⟩ ⟨"TapeHouse$Text", "append", "(I)V"⟩ ∈ lw_g := List.mem_filter.mpr ⟨List.mem_of_getElem? (i := 0) (by decide +kernel), by decide +kernel⟩
theorem v_1 : Cond.selects "TapeHouse$Reader" ⟨"TapeHouse$Reader", "read", "(LTapeHouse$Sounds;)I"⟩ ⟨"TapeHouse$Reader", "read", "(LTapeHouse$Sounds;)I"⟩ ∈ lw_g := List.mem_filter.mpr ⟨List.mem_of_getElem? (i := 1) (by decide +kernel), by decide +kernel⟩
theorem v_2 : Cond.selects "TapeHouse$Reader" ⟨"TapeHouse$Reader", "startWith", "(LTapeHouse$Sounds;)V"⟩ ⟨"TapeHouse$Reader", "startWith", "(LTapeHouse$Sounds;)V"⟩ ∈ lw_g := List.mem_filter.mpr ⟨List.mem_of_getElem? (i := 2) (by decide +kernel), by decide +kernel⟩
theorem v_3 : Cond.selects "TapeHouse$Reader" ⟨"TapeHouse$Reader", "nextToken", "()V"⟩ ⟨"TapeHouse$Reader", "nextToken", "()V"⟩ ∈ lw_g := List.mem_filter.mpr ⟨List.mem_of_getElem? (i := 3) (by decide +kernel), by decide +kernel⟩
theorem v_4 : Cond.selects "TapeHouse$Text" ⟨"TapeHouse$Text", "kindAt", "(I)I"⟩ ⟨"TapeHouse$Text", "kindAt", "(I)I"⟩ ∈ lw_g := List.mem_filter.mpr ⟨List.mem_of_getElem? (i := 4) (by decide +kernel), by decide +kernel⟩
theorem v_5 : Cond.selects "TapeHouse$Reader" ⟨"TapeHouse$Reader", "readClause", "([I)Z"⟩ ⟨"TapeHouse$Reader", "readClause", "([I)Z"⟩ ∈ lw_g := List.mem_filter.mpr ⟨List.mem_of_getElem? (i := 5) (by decide +kernel), by decide +kernel⟩
theorem v_6 : Cond.selects "TapeHouse$Reader" ⟨"TapeHouse$Reader", "wordHere", "()I"⟩ ⟨"TapeHouse$Reader", "wordHere", "()I"⟩ ∈ lw_g := List.mem_filter.mpr ⟨List.mem_of_getElem? (i := 6) (by decide +kernel), by decide +kernel⟩
theorem v_7 : Cond.selects "TapeHouse$Reader" ⟨"TapeHouse$Reader", "isWord", "(Ljava/lang/String;)Z"⟩ ⟨"TapeHouse$Reader", "isWord", "(Ljava/lang/String;)Z"⟩ ∈ lw_g := List.mem_filter.mpr ⟨List.mem_of_getElem? (i := 7) (by decide +kernel), by decide +kernel⟩
theorem v_8 : Cond.selects "TapeHouse$Text" ⟨"TapeHouse$Text", "letterAt", "(I)I"⟩ ⟨"TapeHouse$Text", "letterAt", "(I)I"⟩ ∈ lw_g := List.mem_filter.mpr ⟨List.mem_of_getElem? (i := 8) (by decide +kernel), by decide +kernel⟩
theorem v_9 : Cond.selects "TapeHouse$Reader" ⟨"TapeHouse$Reader", "readTone", "([I)Z"⟩ ⟨"TapeHouse$Reader", "readTone", "([I)Z"⟩ ∈ lw_g := List.mem_filter.mpr ⟨List.mem_of_getElem? (i := 9) (by decide +kernel), by decide +kernel⟩
theorem v_10 : Cond.selects "TapeHouse$Reader" ⟨"TapeHouse$Reader", "readNumber", "([IIII)Z"⟩ ⟨"TapeHouse$Reader", "readNumber", "([IIII)Z"⟩ ∈ lw_g := List.mem_filter.mpr ⟨List.mem_of_getElem? (i := 10) (by decide +kernel), by decide +kernel⟩
theorem v_11 : Cond.selects "TapeHouse$Reader" ⟨"TapeHouse$Reader", "readPut", "([I)Z"⟩ ⟨"TapeHouse$Reader", "readPut", "([I)Z"⟩ ∈ lw_g := List.mem_filter.mpr ⟨List.mem_of_getElem? (i := 11) (by decide +kernel), by decide +kernel⟩
theorem v_12 : Cond.selects "TapeHouse$Reader" ⟨"TapeHouse$Reader", "readShift", "([I)Z"⟩ ⟨"TapeHouse$Reader", "readShift", "([I)Z"⟩ ∈ lw_g := List.mem_filter.mpr ⟨List.mem_of_getElem? (i := 12) (by decide +kernel), by decide +kernel⟩
theorem v_13 : Cond.selects "TapeHouse" ⟨"TapeHouse", "perform", "([I)V"⟩ ⟨"TapeHouse", "perform", "([I)V"⟩ ∈ lw_g := List.mem_filter.mpr ⟨List.mem_of_getElem? (i := 13) (by decide +kernel), by decide +kernel⟩
theorem v_14 : Cond.selects "TapeHouse" ⟨"TapeHouse", "clearAll", "()V"⟩ ⟨"TapeHouse", "clearAll", "()V"⟩ ∈ lw_g := List.mem_filter.mpr ⟨List.mem_of_getElem? (i := 14) (by decide +kernel), by decide +kernel⟩
theorem v_15 : Cond.selects "TapeHouse$Track" ⟨"TapeHouse$Track", "becomeEmpty", "()V"⟩ ⟨"TapeHouse$Track", "becomeEmpty", "()V"⟩ ∈ lw_g := List.mem_filter.mpr ⟨List.mem_of_getElem? (i := 15) (by decide +kernel), by decide +kernel⟩
theorem v_16 : Cond.selects "TapeHouse$Sounds" ⟨"TapeHouse$Sounds", "addTone", "(III)I"⟩ ⟨"TapeHouse$Sounds", "addTone", "(III)I"⟩ ∈ lw_g := List.mem_filter.mpr ⟨List.mem_of_getElem? (i := 16) (by decide +kernel), by decide +kernel⟩
theorem v_17 : Cond.selects "TapeHouse$Sounds" ⟨"TapeHouse$Sounds", "addRow", "(I)I"⟩ ⟨"TapeHouse$Sounds", "addRow", "(I)I"⟩ ∈ lw_g := List.mem_filter.mpr ⟨List.mem_of_getElem? (i := 17) (by decide +kernel), by decide +kernel⟩
theorem v_18 : Cond.selects "TapeHouse$Sounds" ⟨"TapeHouse$Sounds", "setFloat", "(IIF)V"⟩ ⟨"TapeHouse$Sounds", "setFloat", "(IIF)V"⟩ ∈ lw_g := List.mem_filter.mpr ⟨List.mem_of_getElem? (i := 18) (by decide +kernel), by decide +kernel⟩
theorem v_19 : Cond.selects "TapeHouse$Sounds" ⟨"TapeHouse$Sounds", "isThere", "(II)Z"⟩ ⟨"TapeHouse$Sounds", "isThere", "(II)Z"⟩ ∈ lw_g := List.mem_filter.mpr ⟨List.mem_of_getElem? (i := 19) (by decide +kernel), by decide +kernel⟩
theorem v_20 : Cond.selects "TapeHouse" ⟨"TapeHouse", "isSound", "(I)Z"⟩ ⟨"TapeHouse", "isSound", "(I)Z"⟩ ∈ lw_g := List.mem_filter.mpr ⟨List.mem_of_getElem? (i := 20) (by decide +kernel), by decide +kernel⟩
theorem v_21 : Cond.selects "TapeHouse$Track" ⟨"TapeHouse$Track", "lay", "(LTapeHouse$Span;I)Z"⟩ ⟨"TapeHouse$Track", "lay", "(LTapeHouse$Span;I)Z"⟩ ∈ lw_g := List.mem_filter.mpr ⟨List.mem_of_getElem? (i := 21) (by decide +kernel), by decide +kernel⟩
theorem v_22 : Cond.selects "TapeHouse$Span" ⟨"TapeHouse$Span", "end", "()I"⟩ ⟨"TapeHouse$Span", "end", "()I"⟩ ∈ lw_g := List.mem_filter.mpr ⟨List.mem_of_getElem? (i := 22) (by decide +kernel), by decide +kernel⟩
theorem v_23 : Cond.selects "TapeHouse$Tape" ⟨"TapeHouse$Tape", "takeRest", "(LTapeHouse$Tape;III)V"⟩ ⟨"TapeHouse$Tape", "takeRest", "(LTapeHouse$Tape;III)V"⟩ ∈ lw_g := List.mem_filter.mpr ⟨List.mem_of_getElem? (i := 23) (by decide +kernel), by decide +kernel⟩
theorem v_24 : Cond.selects "TapeHouse$Tape" ⟨"TapeHouse$Tape", "append", "(LTapeHouse$Span;)V"⟩ ⟨"TapeHouse$Tape", "append", "(LTapeHouse$Span;)V"⟩ ∈ lw_g := List.mem_filter.mpr ⟨List.mem_of_getElem? (i := 24) (by decide +kernel), by decide +kernel⟩
theorem v_25 : Cond.selects "TapeHouse$Span" ⟨"TapeHouse$Span", "aheadOf", "(I)LTapeHouse$Span;"⟩ ⟨"TapeHouse$Span", "aheadOf", "(I)LTapeHouse$Span;"⟩ ∈ lw_g := List.mem_filter.mpr ⟨List.mem_of_getElem? (i := 25) (by decide +kernel), by decide +kernel⟩
theorem v_26 : Cond.selects "TapeHouse$Span" ⟨"TapeHouse$Span", "from", "(I)LTapeHouse$Span;"⟩ ⟨"TapeHouse$Span", "from", "(I)LTapeHouse$Span;"⟩ ∈ lw_g := List.mem_filter.mpr ⟨List.mem_of_getElem? (i := 26) (by decide +kernel), by decide +kernel⟩
theorem v_27 : Cond.selects "TapeHouse$Tape" ⟨"TapeHouse$Tape", "insert", "(LTapeHouse$Span;)V"⟩ ⟨"TapeHouse$Tape", "insert", "(LTapeHouse$Span;)V"⟩ ∈ lw_g := List.mem_filter.mpr ⟨List.mem_of_getElem? (i := 27) (by decide +kernel), by decide +kernel⟩
theorem v_28 : Cond.selects "TapeHouse$Track" ⟨"TapeHouse$Track", "acceptDraft", "()Z"⟩ ⟨"TapeHouse$Track", "acceptDraft", "()Z"⟩ ∈ lw_g := List.mem_filter.mpr ⟨List.mem_of_getElem? (i := 28) (by decide +kernel), by decide +kernel⟩
theorem v_29 : Cond.selects "TapeHouse" ⟨"TapeHouse", "isSpan", "(II)Z"⟩ ⟨"TapeHouse", "isSpan", "(II)Z"⟩ ∈ lw_g := List.mem_filter.mpr ⟨List.mem_of_getElem? (i := 29) (by decide +kernel), by decide +kernel⟩
theorem v_30 : Cond.selects "TapeHouse$Span" ⟨"TapeHouse$Span", "allowsFades", "(II)Z"⟩ ⟨"TapeHouse$Span", "allowsFades", "(II)Z"⟩ ∈ lw_g := List.mem_filter.mpr ⟨List.mem_of_getElem? (i := 30) (by decide +kernel), by decide +kernel⟩
theorem v_31 : Cond.selects "TapeHouse$Span" ⟨"TapeHouse$Span", "faded", "(II)LTapeHouse$Span;"⟩ ⟨"TapeHouse$Span", "faded", "(II)LTapeHouse$Span;"⟩ ∈ lw_g := List.mem_filter.mpr ⟨List.mem_of_getElem? (i := 31) (by decide +kernel), by decide +kernel⟩
theorem v_32 : Cond.selects "TapeHouse$Track" ⟨"TapeHouse$Track", "replace", "(ILTapeHouse$Span;)V"⟩ ⟨"TapeHouse$Track", "replace", "(ILTapeHouse$Span;)V"⟩ ∈ lw_g := List.mem_filter.mpr ⟨List.mem_of_getElem? (i := 32) (by decide +kernel), by decide +kernel⟩
theorem v_33 : Cond.selects "TapeHouse$Tape" ⟨"TapeHouse$Tape", "copyOf", "(LTapeHouse$Tape;)V"⟩ ⟨"TapeHouse$Tape", "copyOf", "(LTapeHouse$Tape;)V"⟩ ∈ lw_g := List.mem_filter.mpr ⟨List.mem_of_getElem? (i := 33) (by decide +kernel), by decide +kernel⟩
theorem v_34 : Cond.selects "TapeHouse$Span" ⟨"TapeHouse$Span", "louder", "(I)LTapeHouse$Span;"⟩ ⟨"TapeHouse$Span", "louder", "(I)LTapeHouse$Span;"⟩ ∈ lw_g := List.mem_filter.mpr ⟨List.mem_of_getElem? (i := 34) (by decide +kernel), by decide +kernel⟩
theorem v_35 : Cond.selects "TapeHouse$Track" ⟨"TapeHouse$Track", "shiftTo", "(I)V"⟩ ⟨"TapeHouse$Track", "shiftTo", "(I)V"⟩ ∈ lw_g := List.mem_filter.mpr ⟨List.mem_of_getElem? (i := 35) (by decide +kernel), by decide +kernel⟩
theorem v_36 : Cond.selects "TapeHouse" ⟨"TapeHouse", "forgetAllBehindText", "()V"⟩ ⟨"TapeHouse", "forgetAllBehindText", "()V"⟩ ∈ lw_g := List.mem_filter.mpr ⟨List.mem_of_getElem? (i := 36) (by decide +kernel), by decide +kernel⟩
theorem v_37 : Cond.selects "TapeHouse$Sounds" ⟨"TapeHouse$Sounds", "floatAt", "(II)F"⟩ ⟨"TapeHouse$Sounds", "floatAt", "(II)F"⟩ ∈ lw_g := List.mem_filter.mpr ⟨List.mem_of_getElem? (i := 37) (by decide +kernel), by decide +kernel⟩
theorem v_38 : Cond.selects "TapeHouse" ⟨"TapeHouse", "timesOf", "(II)I"⟩ ⟨"TapeHouse", "timesOf", "(II)I"⟩ ∈ lw_g := List.mem_filter.mpr ⟨List.mem_of_getElem? (i := 38) (by decide +kernel), by decide +kernel⟩
theorem v_39 : Cond.selects "TapeHouse$Tape" ⟨"TapeHouse$Tape", "timesOf", "(II)I"⟩ ⟨"TapeHouse$Tape", "timesOf", "(II)I"⟩ ∈ lw_g := List.mem_filter.mpr ⟨List.mem_of_getElem? (i := 39) (by decide +kernel), by decide +kernel⟩
theorem v_40 : Cond.selects "TapeHouse$Track" ⟨"TapeHouse$Track", "clear", "(II)Z"⟩ ⟨"TapeHouse$Track", "clear", "(II)Z"⟩ ∈ lw_g := List.mem_filter.mpr ⟨List.mem_of_getElem? (i := 40) (by decide +kernel), by decide +kernel⟩
theorem v_41 : Cond.selects "TapeHouse$Track" ⟨"TapeHouse$Track", "split", "(I)Z"⟩ ⟨"TapeHouse$Track", "split", "(I)Z"⟩ ∈ lw_g := List.mem_filter.mpr ⟨List.mem_of_getElem? (i := 41) (by decide +kernel), by decide +kernel⟩
theorem v_42 : Cond.selects "TapeHouse$Tape" ⟨"TapeHouse$Tape", "indexAt", "(I)I"⟩ ⟨"TapeHouse$Tape", "indexAt", "(I)I"⟩ ∈ lw_g := List.mem_filter.mpr ⟨List.mem_of_getElem? (i := 42) (by decide +kernel), by decide +kernel⟩
theorem v_43 : Cond.selects "TapeHouse$Span" ⟨"TapeHouse$Span", "movedTo", "(I)LTapeHouse$Span;"⟩ ⟨"TapeHouse$Span", "movedTo", "(I)LTapeHouse$Span;"⟩ ∈ lw_g := List.mem_filter.mpr ⟨List.mem_of_getElem? (i := 43) (by decide +kernel), by decide +kernel⟩
theorem v_44 : Cond.selects "TapeHouse" ⟨"TapeHouse", "heardAt", "(I)F"⟩ ⟨"TapeHouse", "heardAt", "(I)F"⟩ ∈ lw_g := List.mem_filter.mpr ⟨List.mem_of_getElem? (i := 44) (by decide +kernel), by decide +kernel⟩
theorem v_45 : Cond.selects "TapeHouse" ⟨"TapeHouse", "playedOn", "(LTapeHouse$Tape;I)F"⟩ ⟨"TapeHouse", "playedOn", "(LTapeHouse$Tape;I)F"⟩ ∈ lw_g := List.mem_filter.mpr ⟨List.mem_of_getElem? (i := 45) (by decide +kernel), by decide +kernel⟩
theorem v_46 : Cond.selects "TapeHouse$Span" ⟨"TapeHouse$Span", "weigh", "(FI)F"⟩ ⟨"TapeHouse$Span", "weigh", "(FI)F"⟩ ∈ lw_g := List.mem_filter.mpr ⟨List.mem_of_getElem? (i := 46) (by decide +kernel), by decide +kernel⟩
theorem v_47 : Cond.selects "TapeHouse$Track" ⟨"TapeHouse$Track", "goBack", "()Z"⟩ ⟨"TapeHouse$Track", "goBack", "()Z"⟩ ∈ lw_g := List.mem_filter.mpr ⟨List.mem_of_getElem? (i := 47) (by decide +kernel), by decide +kernel⟩
theorem v_48 : Cond.selects "TapeHouse$Track" ⟨"TapeHouse$Track", "store", "(I)V"⟩ ⟨"TapeHouse$Track", "store", "(I)V"⟩ ∈ lw_g := List.mem_filter.mpr ⟨List.mem_of_getElem? (i := 48) (by decide +kernel), by decide +kernel⟩
theorem v_49 : Cond.selects "TapeHouse" ⟨"TapeHouse", "spansOfAll", "()I"⟩ ⟨"TapeHouse", "spansOfAll", "()I"⟩ ∈ lw_g := List.mem_filter.mpr ⟨List.mem_of_getElem? (i := 49) (by decide +kernel), by decide +kernel⟩
theorem v_50 : Cond.selects "TapeHouse$Track" ⟨"TapeHouse$Track", "restore", "(I)V"⟩ ⟨"TapeHouse$Track", "restore", "(I)V"⟩ ∈ lw_g := List.mem_filter.mpr ⟨List.mem_of_getElem? (i := 50) (by decide +kernel), by decide +kernel⟩
theorem v_51 : Cond.selects "TapeHouse$Tape" ⟨"TapeHouse$Tape", "momentsWithin", "(II)I"⟩ ⟨"TapeHouse$Tape", "momentsWithin", "(II)I"⟩ ∈ lw_g := List.mem_filter.mpr ⟨List.mem_of_getElem? (i := 51) (by decide +kernel), by decide +kernel⟩
theorem v_52 : Cond.selects "TapeHouse$Rack" ⟨"TapeHouse$Rack", "makeAnew", "(II)V"⟩ ⟨"TapeHouse$Rack", "makeAnew", "(II)V"⟩ ∈ lw_g := List.mem_filter.mpr ⟨List.mem_of_getElem? (i := 52) (by decide +kernel), by decide +kernel⟩
theorem v_53 : Cond.selects "TapeHouse$Rack" ⟨"TapeHouse$Rack", "tryToHang", "(III)I"⟩ ⟨"TapeHouse$Rack", "tryToHang", "(III)I"⟩ ∈ lw_g := List.mem_filter.mpr ⟨List.mem_of_getElem? (i := 53) (by decide +kernel), by decide +kernel⟩
theorem v_54 : Cond.selects "TapeHouse$Rack" ⟨"TapeHouse$Rack", "findAt", "(I)I"⟩ ⟨"TapeHouse$Rack", "findAt", "(I)I"⟩ ∈ lw_g := List.mem_filter.mpr ⟨List.mem_of_getElem? (i := 54) (by decide +kernel), by decide +kernel⟩
theorem v_55 : Cond.selects "TapeHouse$Rack" ⟨"TapeHouse$Rack", "takeFrom", "(I)I"⟩ ⟨"TapeHouse$Rack", "takeFrom", "(I)I"⟩ ∈ lw_g := List.mem_filter.mpr ⟨List.mem_of_getElem? (i := 55) (by decide +kernel), by decide +kernel⟩
theorem v_56 : Cond.selects "TapeHouse$Rack" ⟨"TapeHouse$Rack", "becomeLike", "(LTapeHouse$Rack;)V"⟩ ⟨"TapeHouse$Rack", "becomeLike", "(LTapeHouse$Rack;)V"⟩ ∈ lw_g := List.mem_filter.mpr ⟨List.mem_of_getElem? (i := 56) (by decide +kernel), by decide +kernel⟩
theorem v_57 : Cond.selects "TapeHouse$Rack" ⟨"TapeHouse$Rack", "things", "()I"⟩ ⟨"TapeHouse$Rack", "things", "()I"⟩ ∈ lw_g := List.mem_filter.mpr ⟨List.mem_of_getElem? (i := 57) (by decide +kernel), by decide +kernel⟩
theorem v_58 : Cond.selects "TapeHouse$Rack" ⟨"TapeHouse$Rack", "hangAllOn", "(LTapeHouse$Rack;)I"⟩ ⟨"TapeHouse$Rack", "hangAllOn", "(LTapeHouse$Rack;)I"⟩ ∈ lw_g := List.mem_filter.mpr ⟨List.mem_of_getElem? (i := 58) (by decide +kernel), by decide +kernel⟩
theorem v_59 : Cond.selects "TapeHouse$Tape" ⟨"TapeHouse$Tape", "gaps", "()I"⟩ ⟨"TapeHouse$Tape", "gaps", "()I"⟩ ∈ lw_g := List.mem_filter.mpr ⟨List.mem_of_getElem? (i := 59) (by decide +kernel), by decide +kernel⟩
theorem v_60 : Cond.selects "TapeHouse" ⟨"TapeHouse", "shutBits", "()I"⟩ ⟨"TapeHouse", "shutBits", "()I"⟩ ∈ lw_g := List.mem_filter.mpr ⟨List.mem_of_getElem? (i := 60) (by decide +kernel), by decide +kernel⟩
theorem v_61 : Cond.selects "TapeHouse" ⟨"TapeHouse", "loudest", "()I"⟩ ⟨"TapeHouse", "loudest", "()I"⟩ ∈ lw_g := List.mem_filter.mpr ⟨List.mem_of_getElem? (i := 61) (by decide +kernel), by decide +kernel⟩
theorem v_62 : Cond.selects "TapeHouse" ⟨"TapeHouse", "silentMoments", "()I"⟩ ⟨"TapeHouse", "silentMoments", "()I"⟩ ∈ lw_g := List.mem_filter.mpr ⟨List.mem_of_getElem? (i := 62) (by decide +kernel), by decide +kernel⟩
theorem v_63 : Cond.selects "TapeHouse" ⟨"TapeHouse", "thingsOnRacks", "()I"⟩ ⟨"TapeHouse", "thingsOnRacks", "()I"⟩ ∈ lw_g := List.mem_filter.mpr ⟨List.mem_of_getElem? (i := 63) (by decide +kernel), by decide +kernel⟩
theorem v_64 : Cond.selects "TapeHouseModel" ⟨"TapeHouseModel", "reads", "(Z)I"⟩ ⟨"TapeHouseModel", "reads", "(Z)I"⟩ ∈ lw_g := List.mem_filter.mpr ⟨List.mem_of_getElem? (i := 64) (by decide +kernel), by decide +kernel⟩
theorem v_65 : Cond.selects "TapeHouseModel" ⟨"TapeHouseModel", "next", "()V"⟩ ⟨"TapeHouseModel", "next", "()V"⟩ ∈ lw_g := List.mem_filter.mpr ⟨List.mem_of_getElem? (i := 65) (by decide +kernel), by decide +kernel⟩
theorem v_66 : Cond.selects "TapeHouseModel" ⟨"TapeHouseModel", "byteAt", "(I)I"⟩ ⟨"TapeHouseModel", "byteAt", "(I)I"⟩ ∈ lw_g := List.mem_filter.mpr ⟨List.mem_of_getElem? (i := 66) (by decide +kernel), by decide +kernel⟩
theorem v_67 : Cond.selects "TapeHouseModel" ⟨"TapeHouseModel", "clause", "(Z)V"⟩ ⟨"TapeHouseModel", "clause", "(Z)V"⟩ ∈ lw_g := List.mem_filter.mpr ⟨List.mem_of_getElem? (i := 67) (by decide +kernel), by decide +kernel⟩
theorem v_68 : Cond.selects "TapeHouseModel" ⟨"TapeHouseModel", "isWord", "(IIIII)Z"⟩ ⟨"TapeHouseModel", "isWord", "(IIIII)Z"⟩ ∈ lw_g := List.mem_filter.mpr ⟨List.mem_of_getElem? (i := 68) (by decide +kernel), by decide +kernel⟩
theorem v_69 : Cond.selects "TapeHouseModel" ⟨"TapeHouseModel", "toldHouse", "(Z)V"⟩ ⟨"TapeHouseModel", "toldHouse", "(Z)V"⟩ ∈ lw_g := List.mem_filter.mpr ⟨List.mem_of_getElem? (i := 69) (by decide +kernel), by decide +kernel⟩
theorem v_70 : Cond.selects "TapeHouseModel" ⟨"TapeHouseModel", "toldTone", "(Z)V"⟩ ⟨"TapeHouseModel", "toldTone", "(Z)V"⟩ ∈ lw_g := List.mem_filter.mpr ⟨List.mem_of_getElem? (i := 70) (by decide +kernel), by decide +kernel⟩
theorem v_71 : Cond.selects "TapeHouseModel" ⟨"TapeHouseModel", "faults", "()V"⟩ ⟨"TapeHouseModel", "faults", "()V"⟩ ∈ lw_g := List.mem_filter.mpr ⟨List.mem_of_getElem? (i := 71) (by decide +kernel), by decide +kernel⟩
theorem v_72 : Cond.selects "TapeHouseModel" ⟨"TapeHouseModel", "number", "(II)I"⟩ ⟨"TapeHouseModel", "number", "(II)I"⟩ ∈ lw_g := List.mem_filter.mpr ⟨List.mem_of_getElem? (i := 72) (by decide +kernel), by decide +kernel⟩
theorem v_73 : Cond.selects "TapeHouseModel" ⟨"TapeHouseModel", "sounds", "(III)V"⟩ ⟨"TapeHouseModel", "sounds", "(III)V"⟩ ∈ lw_g := List.mem_filter.mpr ⟨List.mem_of_getElem? (i := 73) (by decide +kernel), by decide +kernel⟩
theorem v_74 : Cond.selects "TapeHouseModel" ⟨"TapeHouseModel", "toldPut", "(Z)V"⟩ ⟨"TapeHouseModel", "toldPut", "(Z)V"⟩ ∈ lw_g := List.mem_filter.mpr ⟨List.mem_of_getElem? (i := 74) (by decide +kernel), by decide +kernel⟩
theorem v_75 : Cond.selects "TapeHouseModel" ⟨"TapeHouseModel", "tells", "(I)V"⟩ ⟨"TapeHouseModel", "tells", "(I)V"⟩ ∈ lw_g := List.mem_filter.mpr ⟨List.mem_of_getElem? (i := 75) (by decide +kernel), by decide +kernel⟩
theorem v_76 : Cond.selects "TapeHouseModel" ⟨"TapeHouseModel", "many", "(I)I"⟩ ⟨"TapeHouseModel", "many", "(I)I"⟩ ∈ lw_g := List.mem_filter.mpr ⟨List.mem_of_getElem? (i := 76) (by decide +kernel), by decide +kernel⟩
theorem v_77 : Cond.selects "TapeHouseModel" ⟨"TapeHouseModel", "of", "(III)I"⟩ ⟨"TapeHouseModel", "of", "(III)I"⟩ ∈ lw_g := List.mem_filter.mpr ⟨List.mem_of_getElem? (i := 77) (by decide +kernel), by decide +kernel⟩
theorem v_78 : Cond.selects "TapeHouseModel" ⟨"TapeHouseModel", "brings", "(IIII)V"⟩ ⟨"TapeHouseModel", "brings", "(IIII)V"⟩ ∈ lw_g := List.mem_filter.mpr ⟨List.mem_of_getElem? (i := 78) (by decide +kernel), by decide +kernel⟩
theorem v_79 : Cond.selects "TapeHouseModel" ⟨"TapeHouseModel", "gives", "(III)V"⟩ ⟨"TapeHouseModel", "gives", "(III)V"⟩ ∈ lw_g := List.mem_filter.mpr ⟨List.mem_of_getElem? (i := 79) (by decide +kernel), by decide +kernel⟩
theorem v_80 : Cond.selects "TapeHouseModel" ⟨"TapeHouseModel", "fades", "(III)V"⟩ ⟨"TapeHouseModel", "fades", "(III)V"⟩ ∈ lw_g := List.mem_filter.mpr ⟨List.mem_of_getElem? (i := 80) (by decide +kernel), by decide +kernel⟩
theorem v_81 : Cond.selects "TapeHouseModel" ⟨"TapeHouseModel", "runs", "(I)I"⟩ ⟨"TapeHouseModel", "runs", "(I)I"⟩ ∈ lw_g := List.mem_filter.mpr ⟨List.mem_of_getElem? (i := 81) (by decide +kernel), by decide +kernel⟩
theorem v_82 : Cond.selects "TapeHouseModel" ⟨"TapeHouseModel", "begins", "(II)Z"⟩ ⟨"TapeHouseModel", "begins", "(II)Z"⟩ ∈ lw_g := List.mem_filter.mpr ⟨List.mem_of_getElem? (i := 82) (by decide +kernel), by decide +kernel⟩
theorem v_83 : Cond.selects "TapeHouseModel" ⟨"TapeHouseModel", "lays", "(II)V"⟩ ⟨"TapeHouseModel", "lays", "(II)V"⟩ ∈ lw_g := List.mem_filter.mpr ⟨List.mem_of_getElem? (i := 83) (by decide +kernel), by decide +kernel⟩
theorem v_84 : Cond.selects "TapeHouseModel" ⟨"TapeHouseModel", "sets", "(IIII)V"⟩ ⟨"TapeHouseModel", "sets", "(IIII)V"⟩ ∈ lw_g := List.mem_filter.mpr ⟨List.mem_of_getElem? (i := 84) (by decide +kernel), by decide +kernel⟩
theorem v_85 : Cond.selects "TapeHouseModel" ⟨"TapeHouseModel", "toldFade", "(ZZ)V"⟩ ⟨"TapeHouseModel", "toldFade", "(ZZ)V"⟩ ∈ lw_g := List.mem_filter.mpr ⟨List.mem_of_getElem? (i := 85) (by decide +kernel), by decide +kernel⟩
theorem v_86 : Cond.selects "TapeHouseModel" ⟨"TapeHouseModel", "isSpan", "(II)Z"⟩ ⟨"TapeHouseModel", "isSpan", "(II)Z"⟩ ∈ lw_g := List.mem_filter.mpr ⟨List.mem_of_getElem? (i := 86) (by decide +kernel), by decide +kernel⟩
theorem v_87 : Cond.selects "TapeHouseModel" ⟨"TapeHouseModel", "toldShift", "(Z)V"⟩ ⟨"TapeHouseModel", "toldShift", "(Z)V"⟩ ∈ lw_g := List.mem_filter.mpr ⟨List.mem_of_getElem? (i := 87) (by decide +kernel), by decide +kernel⟩
theorem v_88 : Cond.selects "TapeHouseModel" ⟨"TapeHouseModel", "toldShut", "(Z)V"⟩ ⟨"TapeHouseModel", "toldShut", "(Z)V"⟩ ∈ lw_g := List.mem_filter.mpr ⟨List.mem_of_getElem? (i := 88) (by decide +kernel), by decide +kernel⟩
theorem v_89 : Cond.selects "TapeHouseModel" ⟨"TapeHouseModel", "times", "(II)I"⟩ ⟨"TapeHouseModel", "times", "(II)I"⟩ ∈ lw_g := List.mem_filter.mpr ⟨List.mem_of_getElem? (i := 89) (by decide +kernel), by decide +kernel⟩
theorem v_90 : Cond.selects "TapeHouseModel" ⟨"TapeHouseModel", "spanAt", "(II)I"⟩ ⟨"TapeHouseModel", "spanAt", "(II)I"⟩ ∈ lw_g := List.mem_filter.mpr ⟨List.mem_of_getElem? (i := 90) (by decide +kernel), by decide +kernel⟩
theorem v_91 : Cond.selects "TapeHouseModel" ⟨"TapeHouseModel", "notes", "(I)V"⟩ ⟨"TapeHouseModel", "notes", "(I)V"⟩ ∈ lw_g := List.mem_filter.mpr ⟨List.mem_of_getElem? (i := 91) (by decide +kernel), by decide +kernel⟩
theorem v_92 : Cond.selects "TapeHouseModel" ⟨"TapeHouseModel", "heardAt", "(I)F"⟩ ⟨"TapeHouseModel", "heardAt", "(I)F"⟩ ∈ lw_g := List.mem_filter.mpr ⟨List.mem_of_getElem? (i := 92) (by decide +kernel), by decide +kernel⟩
theorem v_93 : Cond.selects "TapeHouseModel" ⟨"TapeHouseModel", "playedAt", "(II)F"⟩ ⟨"TapeHouseModel", "playedAt", "(II)F"⟩ ∈ lw_g := List.mem_filter.mpr ⟨List.mem_of_getElem? (i := 93) (by decide +kernel), by decide +kernel⟩
theorem v_94 : Cond.selects "TapeHouseModel" ⟨"TapeHouseModel", "allSpans", "()I"⟩ ⟨"TapeHouseModel", "allSpans", "()I"⟩ ∈ lw_g := List.mem_filter.mpr ⟨List.mem_of_getElem? (i := 94) (by decide +kernel), by decide +kernel⟩
theorem v_95 : Cond.selects "TapeHouseModel" ⟨"TapeHouseModel", "isFor", "(II)Z"⟩ ⟨"TapeHouseModel", "isFor", "(II)Z"⟩ ∈ lw_g := List.mem_filter.mpr ⟨List.mem_of_getElem? (i := 95) (by decide +kernel), by decide +kernel⟩
theorem v_96 : Cond.selects "TapeHouseModel" ⟨"TapeHouseModel", "thingsOn", "(I)I"⟩ ⟨"TapeHouseModel", "thingsOn", "(I)I"⟩ ∈ lw_g := List.mem_filter.mpr ⟨List.mem_of_getElem? (i := 96) (by decide +kernel), by decide +kernel⟩
theorem v_97 : Cond.selects "TapeHouseModel" ⟨"TapeHouseModel", "loudest", "()I"⟩ ⟨"TapeHouseModel", "loudest", "()I"⟩ ∈ lw_g := List.mem_filter.mpr ⟨List.mem_of_getElem? (i := 97) (by decide +kernel), by decide +kernel⟩
theorem v_98 : Cond.selects "TapeHouseModel" ⟨"TapeHouseModel", "silent", "()I"⟩ ⟨"TapeHouseModel", "silent", "()I"⟩ ∈ lw_g := List.mem_filter.mpr ⟨List.mem_of_getElem? (i := 98) (by decide +kernel), by decide +kernel⟩
theorem v_99 : Cond.selects "TapeHouseModel" ⟨"TapeHouseModel", "gaps", "(I)I"⟩ ⟨"TapeHouseModel", "gaps", "(I)I"⟩ ∈ lw_g := List.mem_filter.mpr ⟨List.mem_of_getElem? (i := 99) (by decide +kernel), by decide +kernel⟩
theorem v_101 : Cond.initialized "TapeHouse" ∈ lw_g := List.mem_filter.mpr ⟨List.mem_of_getElem? (i := 101) (by decide +kernel), by decide +kernel⟩
theorem v_102 : Cond.initialized "TapeHouse$Sounds" ∈ lw_g := List.mem_filter.mpr ⟨List.mem_of_getElem? (i := 102) (by decide +kernel), by decide +kernel⟩
theorem v_103 : Cond.initialized "TapeHouse$Text" ∈ lw_g := List.mem_filter.mpr ⟨List.mem_of_getElem? (i := 103) (by decide +kernel), by decide +kernel⟩
theorem v_104 : Cond.initialized "TapeHouse$Reader" ∈ lw_g := List.mem_filter.mpr ⟨List.mem_of_getElem? (i := 104) (by decide +kernel), by decide +kernel⟩
theorem v_105 : Cond.initialized "TapeHouse$Track" ∈ lw_g := List.mem_filter.mpr ⟨List.mem_of_getElem? (i := 105) (by decide +kernel), by decide +kernel⟩
theorem v_106 : Cond.initialized "TapeHouse$Tape" ∈ lw_g := List.mem_filter.mpr ⟨List.mem_of_getElem? (i := 106) (by decide +kernel), by decide +kernel⟩
theorem v_107 : Cond.initialized "TapeHouse$Rack" ∈ lw_g := List.mem_filter.mpr ⟨List.mem_of_getElem? (i := 107) (by decide +kernel), by decide +kernel⟩
theorem v_108 : Cond.initialized "TapeHouseModel" ∈ lw_g := List.mem_filter.mpr ⟨List.mem_of_getElem? (i := 108) (by decide +kernel), by decide +kernel⟩
theorem v_109 : Cond.initialized "java/lang/String" ∈ lw_g := List.mem_filter.mpr ⟨List.mem_of_getElem? (i := 109) (by decide +kernel), by decide +kernel⟩
theorem v_110 : Cond.initialized "java/lang/StringLatin1" ∈ lw_g := List.mem_filter.mpr ⟨List.mem_of_getElem? (i := 110) (by decide +kernel), by decide +kernel⟩
theorem v_111 : Cond.initialized "jdk/internal/util/Preconditions" ∈ lw_g := List.mem_filter.mpr ⟨List.mem_of_getElem? (i := 111) (by decide +kernel), by decide +kernel⟩
theorem v_113 : Cond.initialized "TapeHouse$Span" ∈ lw_g := List.mem_filter.mpr ⟨List.mem_of_getElem? (i := 113) (by decide +kernel), by decide +kernel⟩
theorem v_114 : Cond.initialized "java/lang/Math" ∈ lw_g := List.mem_filter.mpr ⟨List.mem_of_getElem? (i := 114) (by decide +kernel), by decide +kernel⟩
theorem v_115 : Cond.initialized "java/lang/Float" ∈ lw_g := List.mem_filter.mpr ⟨List.mem_of_getElem? (i := 115) (by decide +kernel), by decide +kernel⟩
theorem v_116 : Cond.initialized "java/lang/Double" ∈ lw_g := List.mem_filter.mpr ⟨List.mem_of_getElem? (i := 116) (by decide +kernel), by decide +kernel⟩
theorem v_117 : Cond.classLink "TapeHouseLaw" 7 "TapeHouse" ∈ lw_g := List.mem_filter.mpr ⟨List.mem_of_getElem? (i := 117) (by decide +kernel), by decide +kernel⟩
theorem v_118 : Cond.instantiable "TapeHouse" 6 ∈ lw_g := List.mem_filter.mpr ⟨List.mem_of_getElem? (i := 118) (by decide +kernel), by decide +kernel⟩
theorem v_119 : Cond.methodLink "TapeHouseLaw" 9 ⟨"TapeHouse", "<init>", "()V"⟩ ∈ lw_g := List.mem_filter.mpr ⟨List.mem_of_getElem? (i := 119) (by decide +kernel), by decide +kernel⟩
theorem v_120 : Cond.instanceMethod ⟨"TapeHouse", "<init>", "()V"⟩ ∈ lw_g := List.mem_filter.mpr ⟨List.mem_of_getElem? (i := 120) (by decide +kernel), by decide +kernel⟩
theorem v_121 : Cond.code ⟨"TapeHouse", "<init>", "()V"⟩ prog_1_method_1_code 2 none ∈ lw_g := List.mem_filter.mpr ⟨List.mem_of_getElem? (i := 121) (by decide +kernel), by decide +kernel⟩
theorem v_122 : Cond.methodLink "TapeHouse" 3 ⟨"java/lang/Object", "<init>", "()V"⟩ ∈ lw_g := List.mem_filter.mpr ⟨List.mem_of_getElem? (i := 122) (by decide +kernel), by decide +kernel⟩
theorem v_123 : Cond.instanceMethod ⟨"java/lang/Object", "<init>", "()V"⟩ ∈ lw_g := List.mem_filter.mpr ⟨List.mem_of_getElem? (i := 123) (by decide +kernel), by decide +kernel⟩
theorem v_124 : Cond.code ⟨"java/lang/Object", "<init>", "()V"⟩ object_method_1_code 1 none ∈ lw_g := List.mem_filter.mpr ⟨List.mem_of_getElem? (i := 124) (by decide +kernel), by decide +kernel⟩
theorem v_125 : Cond.classLink "TapeHouse" 9 "TapeHouse$Sounds" ∈ lw_g := List.mem_filter.mpr ⟨List.mem_of_getElem? (i := 125) (by decide +kernel), by decide +kernel⟩
theorem v_126 : Cond.instantiable "TapeHouse$Sounds" 3 ∈ lw_g := List.mem_filter.mpr ⟨List.mem_of_getElem? (i := 126) (by decide +kernel), by decide +kernel⟩
theorem w_127 : Cond.methodLinkNest "TapeHouse" 11 ⟨"TapeHouse$Sounds", "<init>", "()V"⟩ "TapeHouse" ∈ lw_tbl := List.mem_of_getElem? (i := 127) (by decide +kernel)
theorem v_128 : Cond.instanceMethod ⟨"TapeHouse$Sounds", "<init>", "()V"⟩ ∈ lw_g := List.mem_filter.mpr ⟨List.mem_of_getElem? (i := 128) (by decide +kernel), by decide +kernel⟩
theorem v_129 : Cond.code ⟨"TapeHouse$Sounds", "<init>", "()V"⟩ prog_4_method_1_code 1 none ∈ lw_g := List.mem_filter.mpr ⟨List.mem_of_getElem? (i := 129) (by decide +kernel), by decide +kernel⟩
theorem v_130 : Cond.methodLink "TapeHouse$Sounds" 3 ⟨"java/lang/Object", "<init>", "()V"⟩ ∈ lw_g := List.mem_filter.mpr ⟨List.mem_of_getElem? (i := 130) (by decide +kernel), by decide +kernel⟩
theorem v_131 : Cond.classLink "TapeHouse$Sounds" 9 "[[F" ∈ lw_g := List.mem_filter.mpr ⟨List.mem_of_getElem? (i := 131) (by decide +kernel), by decide +kernel⟩
theorem w_132 : Cond.arrayOver (FieldType.array FieldType.float) ∈ lw_tbl := List.mem_of_getElem? (i := 132) (by decide +kernel)
theorem v_133 : Cond.fieldLink "TapeHouse$Sounds" 11 "TapeHouse$Sounds" "rows" "[[F" ∈ lw_g := List.mem_filter.mpr ⟨List.mem_of_getElem? (i := 133) (by decide +kernel), by decide +kernel⟩
theorem v_134 : Cond.fieldLink "TapeHouse$Sounds" 16 "TapeHouse$Sounds" "lengths" "[I" ∈ lw_g := List.mem_filter.mpr ⟨List.mem_of_getElem? (i := 134) (by decide +kernel), by decide +kernel⟩
theorem w_135 : Cond.fieldLinkNest "TapeHouse$Reader" 62 "TapeHouse$Sounds" "lengths" "[I" "TapeHouse" ∈ lw_tbl := List.mem_of_getElem? (i := 135) (by decide +kernel)
theorem w_136 : Cond.fieldLinkNest "TapeHouse" 88 "TapeHouse$Sounds" "lengths" "[I" "TapeHouse" ∈ lw_tbl := List.mem_of_getElem? (i := 136) (by decide +kernel)
theorem v_137 : Cond.fieldLink "TapeHouse$Sounds" 20 "TapeHouse$Sounds" "count" "I" ∈ lw_g := List.mem_filter.mpr ⟨List.mem_of_getElem? (i := 137) (by decide +kernel), by decide +kernel⟩
theorem w_138 : Cond.fieldLinkNest "TapeHouse$Reader" 57 "TapeHouse$Sounds" "count" "I" "TapeHouse" ∈ lw_tbl := List.mem_of_getElem? (i := 138) (by decide +kernel)
theorem w_139 : Cond.fieldLinkNest "TapeHouse" 144 "TapeHouse$Sounds" "count" "I" "TapeHouse" ∈ lw_tbl := List.mem_of_getElem? (i := 139) (by decide +kernel)
theorem v_147 : Cond.arrayClass FieldType.float ∈ lw_g := List.mem_filter.mpr ⟨List.mem_of_getElem? (i := 147) (by decide +kernel), by decide +kernel⟩
theorem v_148 : Cond.arrayClass FieldType.int ∈ lw_g := List.mem_filter.mpr ⟨List.mem_of_getElem? (i := 148) (by decide +kernel), by decide +kernel⟩
theorem v_149 : Cond.classLink "TapeHouse" 16 "TapeHouse$Track" ∈ lw_g := List.mem_filter.mpr ⟨List.mem_of_getElem? (i := 149) (by decide +kernel), by decide +kernel⟩
theorem w_150 : Cond.arrayOver (FieldType.object "TapeHouse$Track") ∈ lw_tbl := List.mem_of_getElem? (i := 150) (by decide +kernel)
theorem v_151 : Cond.classLink "TapeHouse" 26 "TapeHouse$Rack" ∈ lw_g := List.mem_filter.mpr ⟨List.mem_of_getElem? (i := 151) (by decide +kernel), by decide +kernel⟩
theorem w_152 : Cond.arrayOver (FieldType.object "TapeHouse$Rack") ∈ lw_tbl := List.mem_of_getElem? (i := 152) (by decide +kernel)
theorem v_153 : Cond.classLink "TapeHouse" 32 "TapeHouse$Text" ∈ lw_g := List.mem_filter.mpr ⟨List.mem_of_getElem? (i := 153) (by decide +kernel), by decide +kernel⟩
theorem v_154 : Cond.instantiable "TapeHouse$Text" 2 ∈ lw_g := List.mem_filter.mpr ⟨List.mem_of_getElem? (i := 154) (by decide +kernel), by decide +kernel⟩
theorem w_155 : Cond.methodLinkNest "TapeHouse" 34 ⟨"TapeHouse$Text", "<init>", "()V"⟩ "TapeHouse" ∈ lw_tbl := List.mem_of_getElem? (i := 155) (by decide +kernel)
theorem v_156 : Cond.instanceMethod ⟨"TapeHouse$Text", "<init>", "()V"⟩ ∈ lw_g := List.mem_filter.mpr ⟨List.mem_of_getElem? (i := 156) (by decide +kernel), by decide +kernel⟩
theorem v_157 : Cond.code ⟨"TapeHouse$Text", "<init>", "()V"⟩ prog_7_method_1_code 1 none ∈ lw_g := List.mem_filter.mpr ⟨List.mem_of_getElem? (i := 157) (by decide +kernel), by decide +kernel⟩
theorem v_158 : Cond.methodLink "TapeHouse$Text" 3 ⟨"java/lang/Object", "<init>", "()V"⟩ ∈ lw_g := List.mem_filter.mpr ⟨List.mem_of_getElem? (i := 158) (by decide +kernel), by decide +kernel⟩
theorem v_159 : Cond.fieldLink "TapeHouse$Text" 9 "TapeHouse$Text" "letters" "[I" ∈ lw_g := List.mem_filter.mpr ⟨List.mem_of_getElem? (i := 159) (by decide +kernel), by decide +kernel⟩
theorem v_160 : Cond.fieldLink "TapeHouse$Text" 15 "TapeHouse$Text" "size" "I" ∈ lw_g := List.mem_filter.mpr ⟨List.mem_of_getElem? (i := 160) (by decide +kernel), by decide +kernel⟩
theorem w_161 : Cond.fieldLinkNest "TapeHouse" 55 "TapeHouse$Text" "size" "I" "TapeHouse" ∈ lw_tbl := List.mem_of_getElem? (i := 161) (by decide +kernel)
theorem w_162 : Cond.fieldLinkNest "TapeHouse$Reader" 63 "TapeHouse$Text" "size" "I" "TapeHouse" ∈ lw_tbl := List.mem_of_getElem? (i := 162) (by decide +kernel)
theorem v_168 : Cond.arrayClass FieldType.boolean ∈ lw_g := List.mem_filter.mpr ⟨List.mem_of_getElem? (i := 168) (by decide +kernel), by decide +kernel⟩
theorem v_169 : Cond.classLink "TapeHouse" 39 "TapeHouse$Reader" ∈ lw_g := List.mem_filter.mpr ⟨List.mem_of_getElem? (i := 169) (by decide +kernel), by decide +kernel⟩
theorem v_170 : Cond.instantiable "TapeHouse$Reader" 8 ∈ lw_g := List.mem_filter.mpr ⟨List.mem_of_getElem? (i := 170) (by decide +kernel), by decide +kernel⟩
theorem w_171 : Cond.methodLinkNest "TapeHouse" 41 ⟨"TapeHouse$Reader", "<init>", "(LTapeHouse$Text;)V"⟩ "TapeHouse" ∈ lw_tbl := List.mem_of_getElem? (i := 171) (by decide +kernel)
theorem v_172 : Cond.instanceMethod ⟨"TapeHouse$Reader", "<init>", "(LTapeHouse$Text;)V"⟩ ∈ lw_g := List.mem_filter.mpr ⟨List.mem_of_getElem? (i := 172) (by decide +kernel), by decide +kernel⟩
theorem v_173 : Cond.code ⟨"TapeHouse$Reader", "<init>", "(LTapeHouse$Text;)V"⟩ prog_3_method_1_code 2 none ∈ lw_g := List.mem_filter.mpr ⟨List.mem_of_getElem? (i := 173) (by decide +kernel), by decide +kernel⟩
theorem v_174 : Cond.methodLink "TapeHouse$Reader" 3 ⟨"java/lang/Object", "<init>", "()V"⟩ ∈ lw_g := List.mem_filter.mpr ⟨List.mem_of_getElem? (i := 174) (by decide +kernel), by decide +kernel⟩
theorem v_175 : Cond.classLink "TapeHouse$Reader" 9 "[[I" ∈ lw_g := List.mem_filter.mpr ⟨List.mem_of_getElem? (i := 175) (by decide +kernel), by decide +kernel⟩
theorem w_176 : Cond.arrayOver (FieldType.array FieldType.int) ∈ lw_tbl := List.mem_of_getElem? (i := 176) (by decide +kernel)
theorem v_177 : Cond.fieldLink "TapeHouse$Reader" 11 "TapeHouse$Reader" "rows" "[[I" ∈ lw_g := List.mem_filter.mpr ⟨List.mem_of_getElem? (i := 177) (by decide +kernel), by decide +kernel⟩
theorem w_178 : Cond.fieldLinkNest "TapeHouse" 72 "TapeHouse$Reader" "rows" "[[I" "TapeHouse" ∈ lw_tbl := List.mem_of_getElem? (i := 178) (by decide +kernel)
theorem v_179 : Cond.fieldLink "TapeHouse$Reader" 16 "TapeHouse$Reader" "clauses" "I" ∈ lw_g := List.mem_filter.mpr ⟨List.mem_of_getElem? (i := 179) (by decide +kernel), by decide +kernel⟩
theorem w_180 : Cond.fieldLinkNest "TapeHouse" 69 "TapeHouse$Reader" "clauses" "I" "TapeHouse" ∈ lw_tbl := List.mem_of_getElem? (i := 180) (by decide +kernel)
theorem v_181 : Cond.fieldLink "TapeHouse$Reader" 36 "TapeHouse$Reader" "text" "LTapeHouse$Text;" ∈ lw_g := List.mem_filter.mpr ⟨List.mem_of_getElem? (i := 181) (by decide +kernel), by decide +kernel⟩
theorem v_182 : Cond.fieldLink "TapeHouse$Reader" 20 "TapeHouse$Reader" "begin" "I" ∈ lw_g := List.mem_filter.mpr ⟨List.mem_of_getElem? (i := 182) (by decide +kernel), by decide +kernel⟩
theorem v_183 : Cond.fieldLink "TapeHouse$Reader" 23 "TapeHouse$Reader" "end" "I" ∈ lw_g := List.mem_filter.mpr ⟨List.mem_of_getElem? (i := 183) (by decide +kernel), by decide +kernel⟩
theorem v_184 : Cond.fieldLink "TapeHouse$Reader" 26 "TapeHouse$Reader" "kind" "I" ∈ lw_g := List.mem_filter.mpr ⟨List.mem_of_getElem? (i := 184) (by decide +kernel), by decide +kernel⟩
theorem v_185 : Cond.fieldLink "TapeHouse$Reader" 29 "TapeHouse$Reader" "lengths" "[I" ∈ lw_g := List.mem_filter.mpr ⟨List.mem_of_getElem? (i := 185) (by decide +kernel), by decide +kernel⟩
theorem v_186 : Cond.fieldLink "TapeHouse$Reader" 33 "TapeHouse$Reader" "told" "I" ∈ lw_g := List.mem_filter.mpr ⟨List.mem_of_getElem? (i := 186) (by decide +kernel), by decide +kernel⟩
theorem v_204 : Cond.instantiable "TapeHouse$Track" 7 ∈ lw_g := List.mem_filter.mpr ⟨List.mem_of_getElem? (i := 204) (by decide +kernel), by decide +kernel⟩
theorem w_205 : Cond.methodLinkNest "TapeHouse" 48 ⟨"TapeHouse$Track", "<init>", "()V"⟩ "TapeHouse" ∈ lw_tbl := List.mem_of_getElem? (i := 205) (by decide +kernel)
theorem v_206 : Cond.instanceMethod ⟨"TapeHouse$Track", "<init>", "()V"⟩ ∈ lw_g := List.mem_filter.mpr ⟨List.mem_of_getElem? (i := 206) (by decide +kernel), by decide +kernel⟩
theorem v_207 : Cond.code ⟨"TapeHouse$Track", "<init>", "()V"⟩ prog_8_method_1_code 2 none ∈ lw_g := List.mem_filter.mpr ⟨List.mem_of_getElem? (i := 207) (by decide +kernel), by decide +kernel⟩
theorem v_208 : Cond.methodLink "TapeHouse$Track" 3 ⟨"java/lang/Object", "<init>", "()V"⟩ ∈ lw_g := List.mem_filter.mpr ⟨List.mem_of_getElem? (i := 208) (by decide +kernel), by decide +kernel⟩
theorem v_209 : Cond.classLink "TapeHouse$Track" 9 "TapeHouse$Tape" ∈ lw_g := List.mem_filter.mpr ⟨List.mem_of_getElem? (i := 209) (by decide +kernel), by decide +kernel⟩
theorem v_210 : Cond.instantiable "TapeHouse$Tape" 3 ∈ lw_g := List.mem_filter.mpr ⟨List.mem_of_getElem? (i := 210) (by decide +kernel), by decide +kernel⟩
theorem w_211 : Cond.methodLinkNest "TapeHouse$Track" 11 ⟨"TapeHouse$Tape", "<init>", "()V"⟩ "TapeHouse" ∈ lw_tbl := List.mem_of_getElem? (i := 211) (by decide +kernel)
theorem v_212 : Cond.instanceMethod ⟨"TapeHouse$Tape", "<init>", "()V"⟩ ∈ lw_g := List.mem_filter.mpr ⟨List.mem_of_getElem? (i := 212) (by decide +kernel), by decide +kernel⟩
theorem v_213 : Cond.code ⟨"TapeHouse$Tape", "<init>", "()V"⟩ prog_6_method_1_code 1 none ∈ lw_g := List.mem_filter.mpr ⟨List.mem_of_getElem? (i := 213) (by decide +kernel), by decide +kernel⟩
theorem v_214 : Cond.methodLink "TapeHouse$Tape" 3 ⟨"java/lang/Object", "<init>", "()V"⟩ ∈ lw_g := List.mem_filter.mpr ⟨List.mem_of_getElem? (i := 214) (by decide +kernel), by decide +kernel⟩
theorem v_215 : Cond.classLink "TapeHouse$Tape" 9 "TapeHouse$Span" ∈ lw_g := List.mem_filter.mpr ⟨List.mem_of_getElem? (i := 215) (by decide +kernel), by decide +kernel⟩
theorem w_216 : Cond.arrayOver (FieldType.object "TapeHouse$Span") ∈ lw_tbl := List.mem_of_getElem? (i := 216) (by decide +kernel)
theorem v_217 : Cond.fieldLink "TapeHouse$Tape" 11 "TapeHouse$Tape" "spans" "[LTapeHouse$Span;" ∈ lw_g := List.mem_filter.mpr ⟨List.mem_of_getElem? (i := 217) (by decide +kernel), by decide +kernel⟩
theorem w_218 : Cond.fieldLinkNest "TapeHouse$Track" 71 "TapeHouse$Tape" "spans" "[LTapeHouse$Span;" "TapeHouse" ∈ lw_tbl := List.mem_of_getElem? (i := 218) (by decide +kernel)
theorem w_219 : Cond.fieldLinkNest "TapeHouse" 115 "TapeHouse$Tape" "spans" "[LTapeHouse$Span;" "TapeHouse" ∈ lw_tbl := List.mem_of_getElem? (i := 219) (by decide +kernel)
theorem v_220 : Cond.fieldLink "TapeHouse$Tape" 17 "TapeHouse$Tape" "count" "I" ∈ lw_g := List.mem_filter.mpr ⟨List.mem_of_getElem? (i := 220) (by decide +kernel), by decide +kernel⟩
theorem w_221 : Cond.fieldLinkNest "TapeHouse$Track" 40 "TapeHouse$Tape" "count" "I" "TapeHouse" ∈ lw_tbl := List.mem_of_getElem? (i := 221) (by decide +kernel)
theorem w_222 : Cond.fieldLinkNest "TapeHouse" 164 "TapeHouse$Tape" "count" "I" "TapeHouse" ∈ lw_tbl := List.mem_of_getElem? (i := 222) (by decide +kernel)
theorem v_223 : Cond.fieldLink "TapeHouse$Tape" 21 "TapeHouse$Tape" "shift" "I" ∈ lw_g := List.mem_filter.mpr ⟨List.mem_of_getElem? (i := 223) (by decide +kernel), by decide +kernel⟩
theorem w_224 : Cond.fieldLinkNest "TapeHouse$Track" 43 "TapeHouse$Tape" "shift" "I" "TapeHouse" ∈ lw_tbl := List.mem_of_getElem? (i := 224) (by decide +kernel)
theorem w_225 : Cond.fieldLinkNest "TapeHouse" 192 "TapeHouse$Tape" "shift" "I" "TapeHouse" ∈ lw_tbl := List.mem_of_getElem? (i := 225) (by decide +kernel)
theorem w_233 : Cond.arrayOver (FieldType.object "TapeHouse$Tape") ∈ lw_tbl := List.mem_of_getElem? (i := 233) (by decide +kernel)
theorem v_234 : Cond.fieldLink "TapeHouse$Track" 12 "TapeHouse$Track" "now" "LTapeHouse$Tape;" ∈ lw_g := List.mem_filter.mpr ⟨List.mem_of_getElem? (i := 234) (by decide +kernel), by decide +kernel⟩
theorem w_235 : Cond.fieldLinkNest "TapeHouse" 111 "TapeHouse$Track" "now" "LTapeHouse$Tape;" "TapeHouse" ∈ lw_tbl := List.mem_of_getElem? (i := 235) (by decide +kernel)
theorem v_236 : Cond.fieldLink "TapeHouse$Track" 18 "TapeHouse$Track" "draft" "LTapeHouse$Tape;" ∈ lw_g := List.mem_filter.mpr ⟨List.mem_of_getElem? (i := 236) (by decide +kernel), by decide +kernel⟩
theorem v_237 : Cond.fieldLink "TapeHouse$Track" 21 "TapeHouse$Track" "past" "[LTapeHouse$Tape;" ∈ lw_g := List.mem_filter.mpr ⟨List.mem_of_getElem? (i := 237) (by decide +kernel), by decide +kernel⟩
theorem v_238 : Cond.fieldLink "TapeHouse$Track" 25 "TapeHouse$Track" "undoable" "I" ∈ lw_g := List.mem_filter.mpr ⟨List.mem_of_getElem? (i := 238) (by decide +kernel), by decide +kernel⟩
theorem w_239 : Cond.fieldLinkNest "TapeHouse" 218 "TapeHouse$Track" "undoable" "I" "TapeHouse" ∈ lw_tbl := List.mem_of_getElem? (i := 239) (by decide +kernel)
theorem v_240 : Cond.fieldLink "TapeHouse$Track" 29 "TapeHouse$Track" "shut" "Z" ∈ lw_g := List.mem_filter.mpr ⟨List.mem_of_getElem? (i := 240) (by decide +kernel), by decide +kernel⟩
theorem w_241 : Cond.fieldLinkNest "TapeHouse" 198 "TapeHouse$Track" "shut" "Z" "TapeHouse" ∈ lw_tbl := List.mem_of_getElem? (i := 241) (by decide +kernel)
theorem v_242 : Cond.fieldLink "TapeHouse$Track" 33 "TapeHouse$Track" "stored" "[LTapeHouse$Tape;" ∈ lw_g := List.mem_filter.mpr ⟨List.mem_of_getElem? (i := 242) (by decide +kernel), by decide +kernel⟩
theorem v_243 : Cond.fieldLink "TapeHouse$Track" 36 "TapeHouse$Track" "storedShut" "[Z" ∈ lw_g := List.mem_filter.mpr ⟨List.mem_of_getElem? (i := 243) (by decide +kernel), by decide +kernel⟩
theorem v_259 : Cond.instantiable "TapeHouse$Rack" 5 ∈ lw_g := List.mem_filter.mpr ⟨List.mem_of_getElem? (i := 259) (by decide +kernel), by decide +kernel⟩
theorem w_260 : Cond.methodLinkNest "TapeHouse" 49 ⟨"TapeHouse$Rack", "<init>", "()V"⟩ "TapeHouse" ∈ lw_tbl := List.mem_of_getElem? (i := 260) (by decide +kernel)
theorem v_261 : Cond.instanceMethod ⟨"TapeHouse$Rack", "<init>", "()V"⟩ ∈ lw_g := List.mem_filter.mpr ⟨List.mem_of_getElem? (i := 261) (by decide +kernel), by decide +kernel⟩
theorem v_262 : Cond.code ⟨"TapeHouse$Rack", "<init>", "()V"⟩ prog_2_method_1_code 1 none ∈ lw_g := List.mem_filter.mpr ⟨List.mem_of_getElem? (i := 262) (by decide +kernel), by decide +kernel⟩
theorem v_263 : Cond.methodLink "TapeHouse$Rack" 3 ⟨"java/lang/Object", "<init>", "()V"⟩ ∈ lw_g := List.mem_filter.mpr ⟨List.mem_of_getElem? (i := 263) (by decide +kernel), by decide +kernel⟩
theorem v_264 : Cond.fieldLink "TapeHouse$Rack" 9 "TapeHouse$Rack" "sorts" "[I" ∈ lw_g := List.mem_filter.mpr ⟨List.mem_of_getElem? (i := 264) (by decide +kernel), by decide +kernel⟩
theorem v_265 : Cond.fieldLink "TapeHouse$Rack" 15 "TapeHouse$Rack" "numbers" "[I" ∈ lw_g := List.mem_filter.mpr ⟨List.mem_of_getElem? (i := 265) (by decide +kernel), by decide +kernel⟩
theorem v_266 : Cond.fieldLink "TapeHouse$Rack" 18 "TapeHouse$Rack" "missing" "Z" ∈ lw_g := List.mem_filter.mpr ⟨List.mem_of_getElem? (i := 266) (by decide +kernel), by decide +kernel⟩
theorem w_267 : Cond.fieldLinkNest "TapeHouse" 258 "TapeHouse$Rack" "missing" "Z" "TapeHouse" ∈ lw_tbl := List.mem_of_getElem? (i := 267) (by decide +kernel)
theorem v_268 : Cond.fieldLink "TapeHouse$Rack" 22 "TapeHouse$Rack" "madeFor" "I" ∈ lw_g := List.mem_filter.mpr ⟨List.mem_of_getElem? (i := 268) (by decide +kernel), by decide +kernel⟩
theorem v_269 : Cond.fieldLink "TapeHouse$Rack" 26 "TapeHouse$Rack" "size" "I" ∈ lw_g := List.mem_filter.mpr ⟨List.mem_of_getElem? (i := 269) (by decide +kernel), by decide +kernel⟩
theorem v_281 : Cond.fieldLink "TapeHouse" 12 "TapeHouse" "sounds" "LTapeHouse$Sounds;" ∈ lw_g := List.mem_filter.mpr ⟨List.mem_of_getElem? (i := 281) (by decide +kernel), by decide +kernel⟩
theorem v_282 : Cond.fieldLink "TapeHouse" 18 "TapeHouse" "tracks" "[LTapeHouse$Track;" ∈ lw_g := List.mem_filter.mpr ⟨List.mem_of_getElem? (i := 282) (by decide +kernel), by decide +kernel⟩
theorem v_283 : Cond.fieldLink "TapeHouse" 22 "TapeHouse" "kept" "[Z" ∈ lw_g := List.mem_filter.mpr ⟨List.mem_of_getElem? (i := 283) (by decide +kernel), by decide +kernel⟩
theorem v_284 : Cond.fieldLink "TapeHouse" 28 "TapeHouse" "racks" "[LTapeHouse$Rack;" ∈ lw_g := List.mem_filter.mpr ⟨List.mem_of_getElem? (i := 284) (by decide +kernel), by decide +kernel⟩
theorem v_285 : Cond.fieldLink "TapeHouse" 35 "TapeHouse" "text" "LTapeHouse$Text;" ∈ lw_g := List.mem_filter.mpr ⟨List.mem_of_getElem? (i := 285) (by decide +kernel), by decide +kernel⟩
theorem v_286 : Cond.fieldLink "TapeHouse" 44 "TapeHouse" "reader" "LTapeHouse$Reader;" ∈ lw_g := List.mem_filter.mpr ⟨List.mem_of_getElem? (i := 286) (by decide +kernel), by decide +kernel⟩
theorem v_300 : Cond.methodLink "TapeHouseLaw" 13 ⟨"TapeHouse", "write", "(I)I"⟩ ∈ lw_g := List.mem_filter.mpr ⟨List.mem_of_getElem? (i := 300) (by decide +kernel), by decide +kernel⟩
theorem v_301 : Cond.instanceMethod ⟨"TapeHouse", "write", "(I)I"⟩ ∈ lw_g := List.mem_filter.mpr ⟨List.mem_of_getElem? (i := 301) (by decide +kernel), by decide +kernel⟩
theorem v_302 : Cond.selects "TapeHouse" ⟨"TapeHouse", "write", "(I)I"⟩ ⟨"TapeHouse", "write", "(I)I"⟩ ∈ lw_g := List.mem_filter.mpr ⟨List.mem_of_getElem? (i := 302) (by decide +kernel), by decide +kernel⟩
theorem v_303 : Cond.code ⟨"TapeHouse", "write", "(I)I"⟩ prog_1_method_2_code 2 (some FieldType.int) ∈ lw_g := List.mem_filter.mpr ⟨List.mem_of_getElem? (i := 303) (by decide +kernel), by decide +kernel⟩
theorem v_304 : Cond.methodLink "TapeHouse" 50 ⟨"TapeHouse", "isWithin", "(III)Z"⟩ ∈ lw_g := List.mem_filter.mpr ⟨List.mem_of_getElem? (i := 304) (by decide +kernel), by decide +kernel⟩
theorem v_305 : Cond.static ⟨"TapeHouse", "isWithin", "(III)Z"⟩ ∈ lw_g := List.mem_filter.mpr ⟨List.mem_of_getElem? (i := 305) (by decide +kernel), by decide +kernel⟩
theorem v_306 : Cond.code ⟨"TapeHouse", "isWithin", "(III)Z"⟩ prog_1_method_33_code 3 (some FieldType.boolean) ∈ lw_g := List.mem_filter.mpr ⟨List.mem_of_getElem? (i := 306) (by decide +kernel), by decide +kernel⟩
theorem v_307 : Cond.constant "TapeHouse" 54 (-2000000002) ∈ lw_g := List.mem_filter.mpr ⟨List.mem_of_getElem? (i := 307) (by decide +kernel), by decide +kernel⟩
theorem v_308 : Cond.constant "TapeHouse" 59 (-2000000004) ∈ lw_g := List.mem_filter.mpr ⟨List.mem_of_getElem? (i := 308) (by decide +kernel), by decide +kernel⟩
theorem w_309 : Cond.methodLinkNest "TapeHouse" 60 ⟨"TapeHouse$Text", "append", "(I)V"⟩ "TapeHouse" ∈ lw_tbl := List.mem_of_getElem? (i := 309) (by decide +kernel)
theorem v_311 : Cond.instanceMethod ⟨"TapeHouse$Text", "append", "(I)V"⟩ ∈ lw_g := List.mem_filter.mpr ⟨List.mem_of_getElem? (i := 311) (by decide +kernel), by decide +kernel⟩
theorem v_312 : Cond.code ⟨"TapeHouse$Text", "append", "(I)V"⟩ prog_7_method_2_code 2 none ∈ lw_g := List.mem_filter.mpr ⟨List.mem_of_getElem? (i := 312) (by decide +kernel), by decide +kernel⟩
theorem v_313 : Cond.methodLink "TapeHouseLaw" 18 ⟨"TapeHouse", "erase", "()I"⟩ ∈ lw_g := List.mem_filter.mpr ⟨List.mem_of_getElem? (i := 313) (by decide +kernel), by decide +kernel⟩
theorem v_314 : Cond.instanceMethod ⟨"TapeHouse", "erase", "()I"⟩ ∈ lw_g := List.mem_filter.mpr ⟨List.mem_of_getElem? (i := 314) (by decide +kernel), by decide +kernel⟩
theorem v_315 : Cond.selects "TapeHouse" ⟨"TapeHouse", "erase", "()I"⟩ ⟨"TapeHouse", "erase", "()I"⟩ ∈ lw_g := List.mem_filter.mpr ⟨List.mem_of_getElem? (i := 315) (by decide +kernel), by decide +kernel⟩
theorem v_316 : Cond.code ⟨"TapeHouse", "erase", "()I"⟩ prog_1_method_3_code 2 (some FieldType.int) ∈ lw_g := List.mem_filter.mpr ⟨List.mem_of_getElem? (i := 316) (by decide +kernel), by decide +kernel⟩
theorem v_317 : Cond.methodLink "TapeHouseLaw" 23 ⟨"TapeHouse", "fault", "()I"⟩ ∈ lw_g := List.mem_filter.mpr ⟨List.mem_of_getElem? (i := 317) (by decide +kernel), by decide +kernel⟩
theorem v_318 : Cond.instanceMethod ⟨"TapeHouse", "fault", "()I"⟩ ∈ lw_g := List.mem_filter.mpr ⟨List.mem_of_getElem? (i := 318) (by decide +kernel), by decide +kernel⟩
theorem v_319 : Cond.selects "TapeHouse" ⟨"TapeHouse", "fault", "()I"⟩ ⟨"TapeHouse", "fault", "()I"⟩ ∈ lw_g := List.mem_filter.mpr ⟨List.mem_of_getElem? (i := 319) (by decide +kernel), by decide +kernel⟩
theorem v_320 : Cond.code ⟨"TapeHouse", "fault", "()I"⟩ prog_1_method_4_code 1 (some FieldType.int) ∈ lw_g := List.mem_filter.mpr ⟨List.mem_of_getElem? (i := 320) (by decide +kernel), by decide +kernel⟩
theorem w_321 : Cond.methodLinkNest "TapeHouse" 64 ⟨"TapeHouse$Reader", "read", "(LTapeHouse$Sounds;)I"⟩ "TapeHouse" ∈ lw_tbl := List.mem_of_getElem? (i := 321) (by decide +kernel)
theorem v_323 : Cond.instanceMethod ⟨"TapeHouse$Reader", "read", "(LTapeHouse$Sounds;)I"⟩ ∈ lw_g := List.mem_filter.mpr ⟨List.mem_of_getElem? (i := 323) (by decide +kernel), by decide +kernel⟩
theorem v_324 : Cond.code ⟨"TapeHouse$Reader", "read", "(LTapeHouse$Sounds;)I"⟩ prog_3_method_2_code 3 (some FieldType.int) ∈ lw_g := List.mem_filter.mpr ⟨List.mem_of_getElem? (i := 324) (by decide +kernel), by decide +kernel⟩
theorem v_325 : Cond.methodLink "TapeHouse$Reader" 40 ⟨"TapeHouse$Reader", "startWith", "(LTapeHouse$Sounds;)V"⟩ ∈ lw_g := List.mem_filter.mpr ⟨List.mem_of_getElem? (i := 325) (by decide +kernel), by decide +kernel⟩
theorem v_327 : Cond.instanceMethod ⟨"TapeHouse$Reader", "startWith", "(LTapeHouse$Sounds;)V"⟩ ∈ lw_g := List.mem_filter.mpr ⟨List.mem_of_getElem? (i := 327) (by decide +kernel), by decide +kernel⟩
theorem v_328 : Cond.code ⟨"TapeHouse$Reader", "startWith", "(LTapeHouse$Sounds;)V"⟩ prog_3_method_3_code 3 none ∈ lw_g := List.mem_filter.mpr ⟨List.mem_of_getElem? (i := 328) (by decide +kernel), by decide +kernel⟩
theorem v_329 : Cond.methodLink "TapeHouse$Reader" 54 ⟨"TapeHouse$Reader", "nextToken", "()V"⟩ ∈ lw_g := List.mem_filter.mpr ⟨List.mem_of_getElem? (i := 329) (by decide +kernel), by decide +kernel⟩
theorem v_331 : Cond.instanceMethod ⟨"TapeHouse$Reader", "nextToken", "()V"⟩ ∈ lw_g := List.mem_filter.mpr ⟨List.mem_of_getElem? (i := 331) (by decide +kernel), by decide +kernel⟩
theorem v_332 : Cond.code ⟨"TapeHouse$Reader", "nextToken", "()V"⟩ prog_3_method_4_code 1 none ∈ lw_g := List.mem_filter.mpr ⟨List.mem_of_getElem? (i := 332) (by decide +kernel), by decide +kernel⟩
theorem w_333 : Cond.methodLinkNest "TapeHouse$Reader" 66 ⟨"TapeHouse$Text", "kindAt", "(I)I"⟩ "TapeHouse" ∈ lw_tbl := List.mem_of_getElem? (i := 333) (by decide +kernel)
theorem v_335 : Cond.instanceMethod ⟨"TapeHouse$Text", "kindAt", "(I)I"⟩ ∈ lw_g := List.mem_filter.mpr ⟨List.mem_of_getElem? (i := 335) (by decide +kernel), by decide +kernel⟩
theorem v_336 : Cond.code ⟨"TapeHouse$Text", "kindAt", "(I)I"⟩ prog_7_method_4_code 3 (some FieldType.int) ∈ lw_g := List.mem_filter.mpr ⟨List.mem_of_getElem? (i := 336) (by decide +kernel), by decide +kernel⟩
theorem v_337 : Cond.methodLink "TapeHouse$Reader" 44 ⟨"TapeHouse$Reader", "readClause", "([I)Z"⟩ ∈ lw_g := List.mem_filter.mpr ⟨List.mem_of_getElem? (i := 337) (by decide +kernel), by decide +kernel⟩
theorem v_339 : Cond.instanceMethod ⟨"TapeHouse$Reader", "readClause", "([I)Z"⟩ ∈ lw_g := List.mem_filter.mpr ⟨List.mem_of_getElem? (i := 339) (by decide +kernel), by decide +kernel⟩
theorem v_340 : Cond.code ⟨"TapeHouse$Reader", "readClause", "([I)Z"⟩ prog_3_method_7_code 3 (some FieldType.boolean) ∈ lw_g := List.mem_filter.mpr ⟨List.mem_of_getElem? (i := 340) (by decide +kernel), by decide +kernel⟩
theorem v_341 : Cond.methodLink "TapeHouse$Reader" 97 ⟨"TapeHouse$Reader", "wordHere", "()I"⟩ ∈ lw_g := List.mem_filter.mpr ⟨List.mem_of_getElem? (i := 341) (by decide +kernel), by decide +kernel⟩
theorem v_343 : Cond.instanceMethod ⟨"TapeHouse$Reader", "wordHere", "()I"⟩ ∈ lw_g := List.mem_filter.mpr ⟨List.mem_of_getElem? (i := 343) (by decide +kernel), by decide +kernel⟩
theorem v_344 : Cond.code ⟨"TapeHouse$Reader", "wordHere", "()I"⟩ prog_3_method_6_code 1 (some FieldType.int) ∈ lw_g := List.mem_filter.mpr ⟨List.mem_of_getElem? (i := 344) (by decide +kernel), by decide +kernel⟩
theorem v_346 : Cond.methodLink "TapeHouse$Reader" 81 ⟨"TapeHouse$Reader", "isWord", "(Ljava/lang/String;)Z"⟩ ∈ lw_g := List.mem_filter.mpr ⟨List.mem_of_getElem? (i := 346) (by decide +kernel), by decide +kernel⟩
theorem v_348 : Cond.instanceMethod ⟨"TapeHouse$Reader", "isWord", "(Ljava/lang/String;)Z"⟩ ∈ lw_g := List.mem_filter.mpr ⟨List.mem_of_getElem? (i := 348) (by decide +kernel), by decide +kernel⟩
theorem v_349 : Cond.code ⟨"TapeHouse$Reader", "isWord", "(Ljava/lang/String;)Z"⟩ prog_3_method_5_code 3 (some FieldType.boolean) ∈ lw_g := List.mem_filter.mpr ⟨List.mem_of_getElem? (i := 349) (by decide +kernel), by decide +kernel⟩
theorem v_350 : Cond.methodLink "TapeHouse$Reader" 69 ⟨"java/lang/String", "length", "()I"⟩ ∈ lw_g := List.mem_filter.mpr ⟨List.mem_of_getElem? (i := 350) (by decide +kernel), by decide +kernel⟩
theorem v_351 : Cond.instanceMethod ⟨"java/lang/String", "length", "()I"⟩ ∈ lw_g := List.mem_filter.mpr ⟨List.mem_of_getElem? (i := 351) (by decide +kernel), by decide +kernel⟩
theorem v_352 : Cond.selects "java/lang/String" ⟨"java/lang/String", "length", "()I"⟩ ⟨"java/lang/String", "length", "()I"⟩ ∈ lw_g := List.mem_filter.mpr ⟨List.mem_of_getElem? (i := 352) (by decide +kernel), by decide +kernel⟩
theorem v_353 : Cond.code ⟨"java/lang/String", "length", "()I"⟩ prog_14_method_54_code 1 (some FieldType.int) ∈ lw_g := List.mem_filter.mpr ⟨List.mem_of_getElem? (i := 353) (by decide +kernel), by decide +kernel⟩
theorem v_354 : Cond.methodLink "java/lang/String" 335 ⟨"java/lang/String", "coder", "()B"⟩ ∈ lw_g := List.mem_filter.mpr ⟨List.mem_of_getElem? (i := 354) (by decide +kernel), by decide +kernel⟩
theorem v_355 : Cond.instanceMethod ⟨"java/lang/String", "coder", "()B"⟩ ∈ lw_g := List.mem_filter.mpr ⟨List.mem_of_getElem? (i := 355) (by decide +kernel), by decide +kernel⟩
theorem v_356 : Cond.selects "java/lang/String" ⟨"java/lang/String", "coder", "()B"⟩ ⟨"java/lang/String", "coder", "()B"⟩ ∈ lw_g := List.mem_filter.mpr ⟨List.mem_of_getElem? (i := 356) (by decide +kernel), by decide +kernel⟩
theorem v_357 : Cond.code ⟨"java/lang/String", "coder", "()B"⟩ prog_14_method_152_code 1 (some FieldType.byte) ∈ lw_g := List.mem_filter.mpr ⟨List.mem_of_getElem? (i := 357) (by decide +kernel), by decide +kernel⟩
theorem v_358 : Cond.fieldLink "java/lang/String" 38 "java/lang/String" "COMPACT_STRINGS" "Z" ∈ lw_g := List.mem_filter.mpr ⟨List.mem_of_getElem? (i := 358) (by decide +kernel), by decide +kernel⟩
theorem w_359 : Cond.laysStatic "java/lang/String" "COMPACT_STRINGS" "Z" ∈ lw_tbl := List.mem_of_getElem? (i := 359) (by decide +kernel)
theorem w_360 : Cond.methodLinkNest "TapeHouse$Reader" 48 ⟨"TapeHouse$Text", "letterAt", "(I)I"⟩ "TapeHouse" ∈ lw_tbl := List.mem_of_getElem? (i := 360) (by decide +kernel)
theorem v_362 : Cond.instanceMethod ⟨"TapeHouse$Text", "letterAt", "(I)I"⟩ ∈ lw_g := List.mem_filter.mpr ⟨List.mem_of_getElem? (i := 362) (by decide +kernel), by decide +kernel⟩
theorem v_363 : Cond.code ⟨"TapeHouse$Text", "letterAt", "(I)I"⟩ prog_7_method_3_code 2 (some FieldType.int) ∈ lw_g := List.mem_filter.mpr ⟨List.mem_of_getElem? (i := 363) (by decide +kernel), by decide +kernel⟩
theorem w_364 : Cond.methodLinkNest "TapeHouse$Text" 19 ⟨"TapeHouse", "isWithin", "(III)Z"⟩ "TapeHouse" ∈ lw_tbl := List.mem_of_getElem? (i := 364) (by decide +kernel)
theorem v_365 : Cond.methodLink "TapeHouse$Reader" 75 ⟨"java/lang/String", "charAt", "(I)C"⟩ ∈ lw_g := List.mem_filter.mpr ⟨List.mem_of_getElem? (i := 365) (by decide +kernel), by decide +kernel⟩
theorem v_366 : Cond.instanceMethod ⟨"java/lang/String", "charAt", "(I)C"⟩ ∈ lw_g := List.mem_filter.mpr ⟨List.mem_of_getElem? (i := 366) (by decide +kernel), by decide +kernel⟩
theorem v_367 : Cond.selects "java/lang/String" ⟨"java/lang/String", "charAt", "(I)C"⟩ ⟨"java/lang/String", "charAt", "(I)C"⟩ ∈ lw_g := List.mem_filter.mpr ⟨List.mem_of_getElem? (i := 367) (by decide +kernel), by decide +kernel⟩
theorem v_368 : Cond.code ⟨"java/lang/String", "charAt", "(I)C"⟩ prog_14_method_56_code 2 (some FieldType.char) ∈ lw_g := List.mem_filter.mpr ⟨List.mem_of_getElem? (i := 368) (by decide +kernel), by decide +kernel⟩
theorem v_369 : Cond.methodLink "java/lang/String" 492 ⟨"java/lang/String", "isLatin1", "()Z"⟩ ∈ lw_g := List.mem_filter.mpr ⟨List.mem_of_getElem? (i := 369) (by decide +kernel), by decide +kernel⟩
theorem v_370 : Cond.instanceMethod ⟨"java/lang/String", "isLatin1", "()Z"⟩ ∈ lw_g := List.mem_filter.mpr ⟨List.mem_of_getElem? (i := 370) (by decide +kernel), by decide +kernel⟩
theorem v_371 : Cond.selects "java/lang/String" ⟨"java/lang/String", "isLatin1", "()Z"⟩ ⟨"java/lang/String", "isLatin1", "()Z"⟩ ∈ lw_g := List.mem_filter.mpr ⟨List.mem_of_getElem? (i := 371) (by decide +kernel), by decide +kernel⟩
theorem v_372 : Cond.code ⟨"java/lang/String", "isLatin1", "()Z"⟩ prog_14_method_154_code 1 (some FieldType.boolean) ∈ lw_g := List.mem_filter.mpr ⟨List.mem_of_getElem? (i := 372) (by decide +kernel), by decide +kernel⟩
theorem v_373 : Cond.methodLink "java/lang/String" 495 ⟨"java/lang/StringLatin1", "charAt", "([BI)C"⟩ ∈ lw_g := List.mem_filter.mpr ⟨List.mem_of_getElem? (i := 373) (by decide +kernel), by decide +kernel⟩
theorem v_374 : Cond.static ⟨"java/lang/StringLatin1", "charAt", "([BI)C"⟩ ∈ lw_g := List.mem_filter.mpr ⟨List.mem_of_getElem? (i := 374) (by decide +kernel), by decide +kernel⟩
theorem v_375 : Cond.code ⟨"java/lang/StringLatin1", "charAt", "([BI)C"⟩ prog_15_method_2_code 2 (some FieldType.char) ∈ lw_g := List.mem_filter.mpr ⟨List.mem_of_getElem? (i := 375) (by decide +kernel), by decide +kernel⟩
theorem v_376 : Cond.methodLink "java/lang/StringLatin1" 9 ⟨"java/lang/String", "checkIndex", "(II)V"⟩ ∈ lw_g := List.mem_filter.mpr ⟨List.mem_of_getElem? (i := 376) (by decide +kernel), by decide +kernel⟩
theorem v_377 : Cond.static ⟨"java/lang/String", "checkIndex", "(II)V"⟩ ∈ lw_g := List.mem_filter.mpr ⟨List.mem_of_getElem? (i := 377) (by decide +kernel), by decide +kernel⟩
theorem v_378 : Cond.code ⟨"java/lang/String", "checkIndex", "(II)V"⟩ prog_14_method_155_code 2 none ∈ lw_g := List.mem_filter.mpr ⟨List.mem_of_getElem? (i := 378) (by decide +kernel), by decide +kernel⟩
theorem v_379 : Cond.fieldLink "java/lang/String" 1053 "jdk/internal/util/Preconditions" "SIOOBE_FORMATTER" "Ljava/util/function/BiFunction;" ∈ lw_g := List.mem_filter.mpr ⟨List.mem_of_getElem? (i := 379) (by decide +kernel), by decide +kernel⟩
theorem w_380 : Cond.laysStatic "jdk/internal/util/Preconditions" "SIOOBE_FORMATTER" "Ljava/util/function/BiFunction;" ∈ lw_tbl := List.mem_of_getElem? (i := 380) (by decide +kernel)
theorem v_381 : Cond.methodLink "java/lang/String" 1059 ⟨"jdk/internal/util/Preconditions", "checkIndex", "(IILjava/util/function/BiFunction;)I"⟩ ∈ lw_g := List.mem_filter.mpr ⟨List.mem_of_getElem? (i := 381) (by decide +kernel), by decide +kernel⟩
theorem v_382 : Cond.static ⟨"jdk/internal/util/Preconditions", "checkIndex", "(IILjava/util/function/BiFunction;)I"⟩ ∈ lw_g := List.mem_filter.mpr ⟨List.mem_of_getElem? (i := 382) (by decide +kernel), by decide +kernel⟩
theorem v_383 : Cond.code ⟨"jdk/internal/util/Preconditions", "checkIndex", "(IILjava/util/function/BiFunction;)I"⟩ prog_17_method_11_code 3 (some FieldType.int) ∈ lw_g := List.mem_filter.mpr ⟨List.mem_of_getElem? (i := 383) (by decide +kernel), by decide +kernel⟩
theorem v_409 : Cond.methodLink "TapeHouse$Reader" 100 ⟨"TapeHouse$Reader", "readTone", "([I)Z"⟩ ∈ lw_g := List.mem_filter.mpr ⟨List.mem_of_getElem? (i := 409) (by decide +kernel), by decide +kernel⟩
theorem v_411 : Cond.instanceMethod ⟨"TapeHouse$Reader", "readTone", "([I)Z"⟩ ∈ lw_g := List.mem_filter.mpr ⟨List.mem_of_getElem? (i := 411) (by decide +kernel), by decide +kernel⟩
theorem v_412 : Cond.code ⟨"TapeHouse$Reader", "readTone", "([I)Z"⟩ prog_3_method_8_code 2 (some FieldType.boolean) ∈ lw_g := List.mem_filter.mpr ⟨List.mem_of_getElem? (i := 412) (by decide +kernel), by decide +kernel⟩
theorem v_413 : Cond.methodLink "TapeHouse$Reader" 106 ⟨"TapeHouse$Reader", "readNumber", "([IIII)Z"⟩ ∈ lw_g := List.mem_filter.mpr ⟨List.mem_of_getElem? (i := 413) (by decide +kernel), by decide +kernel⟩
theorem v_415 : Cond.instanceMethod ⟨"TapeHouse$Reader", "readNumber", "([IIII)Z"⟩ ∈ lw_g := List.mem_filter.mpr ⟨List.mem_of_getElem? (i := 415) (by decide +kernel), by decide +kernel⟩
theorem v_416 : Cond.code ⟨"TapeHouse$Reader", "readNumber", "([IIII)Z"⟩ prog_3_method_11_code 7 (some FieldType.boolean) ∈ lw_g := List.mem_filter.mpr ⟨List.mem_of_getElem? (i := 416) (by decide +kernel), by decide +kernel⟩
theorem w_417 : Cond.methodLinkNest "TapeHouse$Reader" 113 ⟨"TapeHouse", "isWithin", "(III)Z"⟩ "TapeHouse" ∈ lw_tbl := List.mem_of_getElem? (i := 417) (by decide +kernel)
theorem v_418 : Cond.methodLink "TapeHouse$Reader" 103 ⟨"TapeHouse$Reader", "readPut", "([I)Z"⟩ ∈ lw_g := List.mem_filter.mpr ⟨List.mem_of_getElem? (i := 418) (by decide +kernel), by decide +kernel⟩
theorem v_420 : Cond.instanceMethod ⟨"TapeHouse$Reader", "readPut", "([I)Z"⟩ ∈ lw_g := List.mem_filter.mpr ⟨List.mem_of_getElem? (i := 420) (by decide +kernel), by decide +kernel⟩
theorem v_421 : Cond.code ⟨"TapeHouse$Reader", "readPut", "([I)Z"⟩ prog_3_method_9_code 2 (some FieldType.boolean) ∈ lw_g := List.mem_filter.mpr ⟨List.mem_of_getElem? (i := 421) (by decide +kernel), by decide +kernel⟩
theorem v_422 : Cond.methodLink "TapeHouse$Reader" 110 ⟨"TapeHouse$Reader", "readShift", "([I)Z"⟩ ∈ lw_g := List.mem_filter.mpr ⟨List.mem_of_getElem? (i := 422) (by decide +kernel), by decide +kernel⟩
theorem v_424 : Cond.instanceMethod ⟨"TapeHouse$Reader", "readShift", "([I)Z"⟩ ∈ lw_g := List.mem_filter.mpr ⟨List.mem_of_getElem? (i := 424) (by decide +kernel), by decide +kernel⟩
theorem v_425 : Cond.code ⟨"TapeHouse$Reader", "readShift", "([I)Z"⟩ prog_3_method_10_code 3 (some FieldType.boolean) ∈ lw_g := List.mem_filter.mpr ⟨List.mem_of_getElem? (i := 425) (by decide +kernel), by decide +kernel⟩
theorem v_427 : Cond.methodLink "TapeHouseLaw" 27 ⟨"TapeHouse", "house", "()I"⟩ ∈ lw_g := List.mem_filter.mpr ⟨List.mem_of_getElem? (i := 427) (by decide +kernel), by decide +kernel⟩
theorem v_428 : Cond.instanceMethod ⟨"TapeHouse", "house", "()I"⟩ ∈ lw_g := List.mem_filter.mpr ⟨List.mem_of_getElem? (i := 428) (by decide +kernel), by decide +kernel⟩
theorem v_429 : Cond.selects "TapeHouse" ⟨"TapeHouse", "house", "()I"⟩ ⟨"TapeHouse", "house", "()I"⟩ ∈ lw_g := List.mem_filter.mpr ⟨List.mem_of_getElem? (i := 429) (by decide +kernel), by decide +kernel⟩
theorem v_430 : Cond.code ⟨"TapeHouse", "house", "()I"⟩ prog_1_method_5_code 2 (some FieldType.int) ∈ lw_g := List.mem_filter.mpr ⟨List.mem_of_getElem? (i := 430) (by decide +kernel), by decide +kernel⟩
theorem v_431 : Cond.constant "TapeHouse" 68 (-2000000003) ∈ lw_g := List.mem_filter.mpr ⟨List.mem_of_getElem? (i := 431) (by decide +kernel), by decide +kernel⟩
theorem v_432 : Cond.methodLink "TapeHouse" 76 ⟨"TapeHouse", "perform", "([I)V"⟩ ∈ lw_g := List.mem_filter.mpr ⟨List.mem_of_getElem? (i := 432) (by decide +kernel), by decide +kernel⟩
theorem v_434 : Cond.instanceMethod ⟨"TapeHouse", "perform", "([I)V"⟩ ∈ lw_g := List.mem_filter.mpr ⟨List.mem_of_getElem? (i := 434) (by decide +kernel), by decide +kernel⟩
theorem v_435 : Cond.code ⟨"TapeHouse", "perform", "([I)V"⟩ prog_1_method_40_code 2 none ∈ lw_g := List.mem_filter.mpr ⟨List.mem_of_getElem? (i := 435) (by decide +kernel), by decide +kernel⟩
theorem v_436 : Cond.methodLink "TapeHouse" 288 ⟨"TapeHouse", "clearAll", "()V"⟩ ∈ lw_g := List.mem_filter.mpr ⟨List.mem_of_getElem? (i := 436) (by decide +kernel), by decide +kernel⟩
theorem v_438 : Cond.instanceMethod ⟨"TapeHouse", "clearAll", "()V"⟩ ∈ lw_g := List.mem_filter.mpr ⟨List.mem_of_getElem? (i := 438) (by decide +kernel), by decide +kernel⟩
theorem v_439 : Cond.code ⟨"TapeHouse", "clearAll", "()V"⟩ prog_1_method_41_code 2 none ∈ lw_g := List.mem_filter.mpr ⟨List.mem_of_getElem? (i := 439) (by decide +kernel), by decide +kernel⟩
theorem w_440 : Cond.methodLinkNest "TapeHouse" 303 ⟨"TapeHouse$Track", "becomeEmpty", "()V"⟩ "TapeHouse" ∈ lw_tbl := List.mem_of_getElem? (i := 440) (by decide +kernel)
theorem v_442 : Cond.instanceMethod ⟨"TapeHouse$Track", "becomeEmpty", "()V"⟩ ∈ lw_g := List.mem_filter.mpr ⟨List.mem_of_getElem? (i := 442) (by decide +kernel), by decide +kernel⟩
theorem v_443 : Cond.code ⟨"TapeHouse$Track", "becomeEmpty", "()V"⟩ prog_8_method_2_code 1 none ∈ lw_g := List.mem_filter.mpr ⟨List.mem_of_getElem? (i := 443) (by decide +kernel), by decide +kernel⟩
theorem w_444 : Cond.methodLinkNest "TapeHouse" 147 ⟨"TapeHouse$Sounds", "addTone", "(III)I"⟩ "TapeHouse" ∈ lw_tbl := List.mem_of_getElem? (i := 444) (by decide +kernel)
theorem v_446 : Cond.instanceMethod ⟨"TapeHouse$Sounds", "addTone", "(III)I"⟩ ∈ lw_g := List.mem_filter.mpr ⟨List.mem_of_getElem? (i := 446) (by decide +kernel), by decide +kernel⟩
theorem v_447 : Cond.code ⟨"TapeHouse$Sounds", "addTone", "(III)I"⟩ prog_4_method_3_code 6 (some FieldType.int) ∈ lw_g := List.mem_filter.mpr ⟨List.mem_of_getElem? (i := 447) (by decide +kernel), by decide +kernel⟩
theorem v_448 : Cond.methodLink "TapeHouse$Sounds" 28 ⟨"TapeHouse$Sounds", "addRow", "(I)I"⟩ ∈ lw_g := List.mem_filter.mpr ⟨List.mem_of_getElem? (i := 448) (by decide +kernel), by decide +kernel⟩
theorem v_450 : Cond.instanceMethod ⟨"TapeHouse$Sounds", "addRow", "(I)I"⟩ ∈ lw_g := List.mem_filter.mpr ⟨List.mem_of_getElem? (i := 450) (by decide +kernel), by decide +kernel⟩
theorem v_451 : Cond.code ⟨"TapeHouse$Sounds", "addRow", "(I)I"⟩ prog_4_method_2_code 3 (some FieldType.int) ∈ lw_g := List.mem_filter.mpr ⟨List.mem_of_getElem? (i := 451) (by decide +kernel), by decide +kernel⟩
theorem w_452 : Cond.methodLinkNest "TapeHouse$Sounds" 24 ⟨"TapeHouse", "isWithin", "(III)Z"⟩ "TapeHouse" ∈ lw_tbl := List.mem_of_getElem? (i := 452) (by decide +kernel)
theorem v_453 : Cond.methodLink "TapeHouse$Sounds" 32 ⟨"TapeHouse$Sounds", "setFloat", "(IIF)V"⟩ ∈ lw_g := List.mem_filter.mpr ⟨List.mem_of_getElem? (i := 453) (by decide +kernel), by decide +kernel⟩
theorem v_455 : Cond.instanceMethod ⟨"TapeHouse$Sounds", "setFloat", "(IIF)V"⟩ ∈ lw_g := List.mem_filter.mpr ⟨List.mem_of_getElem? (i := 455) (by decide +kernel), by decide +kernel⟩
theorem v_456 : Cond.code ⟨"TapeHouse$Sounds", "setFloat", "(IIF)V"⟩ prog_4_method_6_code 4 none ∈ lw_g := List.mem_filter.mpr ⟨List.mem_of_getElem? (i := 456) (by decide +kernel), by decide +kernel⟩
theorem v_457 : Cond.methodLink "TapeHouse$Sounds" 36 ⟨"TapeHouse$Sounds", "isThere", "(II)Z"⟩ ∈ lw_g := List.mem_filter.mpr ⟨List.mem_of_getElem? (i := 457) (by decide +kernel), by decide +kernel⟩
theorem v_459 : Cond.instanceMethod ⟨"TapeHouse$Sounds", "isThere", "(II)Z"⟩ ∈ lw_g := List.mem_filter.mpr ⟨List.mem_of_getElem? (i := 459) (by decide +kernel), by decide +kernel⟩
theorem v_460 : Cond.code ⟨"TapeHouse$Sounds", "isThere", "(II)Z"⟩ prog_4_method_4_code 3 (some FieldType.boolean) ∈ lw_g := List.mem_filter.mpr ⟨List.mem_of_getElem? (i := 460) (by decide +kernel), by decide +kernel⟩
theorem v_461 : Cond.methodLink "TapeHouse" 291 ⟨"TapeHouse", "put", "(IIIII)I"⟩ ∈ lw_g := List.mem_filter.mpr ⟨List.mem_of_getElem? (i := 461) (by decide +kernel), by decide +kernel⟩
theorem v_462 : Cond.instanceMethod ⟨"TapeHouse", "put", "(IIIII)I"⟩ ∈ lw_g := List.mem_filter.mpr ⟨List.mem_of_getElem? (i := 462) (by decide +kernel), by decide +kernel⟩
theorem v_463 : Cond.selects "TapeHouse" ⟨"TapeHouse", "put", "(IIIII)I"⟩ ⟨"TapeHouse", "put", "(IIIII)I"⟩ ∈ lw_g := List.mem_filter.mpr ⟨List.mem_of_getElem? (i := 463) (by decide +kernel), by decide +kernel⟩
theorem v_464 : Cond.code ⟨"TapeHouse", "put", "(IIIII)I"⟩ prog_1_method_9_code 8 (some FieldType.int) ∈ lw_g := List.mem_filter.mpr ⟨List.mem_of_getElem? (i := 464) (by decide +kernel), by decide +kernel⟩
theorem v_465 : Cond.methodLink "TapeHouse" 151 ⟨"TapeHouse", "isTrack", "(I)Z"⟩ ∈ lw_g := List.mem_filter.mpr ⟨List.mem_of_getElem? (i := 465) (by decide +kernel), by decide +kernel⟩
theorem v_466 : Cond.static ⟨"TapeHouse", "isTrack", "(I)Z"⟩ ∈ lw_g := List.mem_filter.mpr ⟨List.mem_of_getElem? (i := 466) (by decide +kernel), by decide +kernel⟩
theorem v_467 : Cond.code ⟨"TapeHouse", "isTrack", "(I)Z"⟩ prog_1_method_36_code 1 (some FieldType.boolean) ∈ lw_g := List.mem_filter.mpr ⟨List.mem_of_getElem? (i := 467) (by decide +kernel), by decide +kernel⟩
theorem v_468 : Cond.methodLink "TapeHouse" 83 ⟨"TapeHouse", "isSound", "(I)Z"⟩ ∈ lw_g := List.mem_filter.mpr ⟨List.mem_of_getElem? (i := 468) (by decide +kernel), by decide +kernel⟩
theorem v_470 : Cond.instanceMethod ⟨"TapeHouse", "isSound", "(I)Z"⟩ ∈ lw_g := List.mem_filter.mpr ⟨List.mem_of_getElem? (i := 470) (by decide +kernel), by decide +kernel⟩
theorem v_471 : Cond.code ⟨"TapeHouse", "isSound", "(I)Z"⟩ prog_1_method_38_code 2 (some FieldType.boolean) ∈ lw_g := List.mem_filter.mpr ⟨List.mem_of_getElem? (i := 471) (by decide +kernel), by decide +kernel⟩
theorem v_472 : Cond.constant "TapeHouse" 87 (-2000000001) ∈ lw_g := List.mem_filter.mpr ⟨List.mem_of_getElem? (i := 472) (by decide +kernel), by decide +kernel⟩
theorem v_473 : Cond.methodLink "TapeHouse" 154 ⟨"TapeHouse", "isPlaceFor", "(II)Z"⟩ ∈ lw_g := List.mem_filter.mpr ⟨List.mem_of_getElem? (i := 473) (by decide +kernel), by decide +kernel⟩
theorem v_474 : Cond.static ⟨"TapeHouse", "isPlaceFor", "(II)Z"⟩ ∈ lw_g := List.mem_filter.mpr ⟨List.mem_of_getElem? (i := 474) (by decide +kernel), by decide +kernel⟩
theorem v_475 : Cond.code ⟨"TapeHouse", "isPlaceFor", "(II)Z"⟩ prog_1_method_35_code 2 (some FieldType.boolean) ∈ lw_g := List.mem_filter.mpr ⟨List.mem_of_getElem? (i := 475) (by decide +kernel), by decide +kernel⟩
theorem v_476 : Cond.classLink "TapeHouse" 122 "TapeHouse$Span" ∈ lw_g := List.mem_filter.mpr ⟨List.mem_of_getElem? (i := 476) (by decide +kernel), by decide +kernel⟩
theorem v_477 : Cond.instantiable "TapeHouse$Span" 7 ∈ lw_g := List.mem_filter.mpr ⟨List.mem_of_getElem? (i := 477) (by decide +kernel), by decide +kernel⟩
theorem w_478 : Cond.methodLinkNest "TapeHouse" 157 ⟨"TapeHouse$Span", "<init>", "(IIIIIII)V"⟩ "TapeHouse" ∈ lw_tbl := List.mem_of_getElem? (i := 478) (by decide +kernel)
theorem v_479 : Cond.instanceMethod ⟨"TapeHouse$Span", "<init>", "(IIIIIII)V"⟩ ∈ lw_g := List.mem_filter.mpr ⟨List.mem_of_getElem? (i := 479) (by decide +kernel), by decide +kernel⟩
theorem v_480 : Cond.code ⟨"TapeHouse$Span", "<init>", "(IIIIIII)V"⟩ prog_5_method_1_code 8 none ∈ lw_g := List.mem_filter.mpr ⟨List.mem_of_getElem? (i := 480) (by decide +kernel), by decide +kernel⟩
theorem v_481 : Cond.methodLink "TapeHouse$Span" 1 ⟨"java/lang/Object", "<init>", "()V"⟩ ∈ lw_g := List.mem_filter.mpr ⟨List.mem_of_getElem? (i := 481) (by decide +kernel), by decide +kernel⟩
theorem v_482 : Cond.fieldLink "TapeHouse$Span" 7 "TapeHouse$Span" "sound" "I" ∈ lw_g := List.mem_filter.mpr ⟨List.mem_of_getElem? (i := 482) (by decide +kernel), by decide +kernel⟩
theorem w_483 : Cond.fieldLinkNest "TapeHouse" 121 "TapeHouse$Span" "sound" "I" "TapeHouse" ∈ lw_tbl := List.mem_of_getElem? (i := 483) (by decide +kernel)
theorem w_484 : Cond.fieldLinkNest "TapeHouse$Tape" 55 "TapeHouse$Span" "sound" "I" "TapeHouse" ∈ lw_tbl := List.mem_of_getElem? (i := 484) (by decide +kernel)
theorem v_485 : Cond.fieldLink "TapeHouse$Span" 13 "TapeHouse$Span" "first" "I" ∈ lw_g := List.mem_filter.mpr ⟨List.mem_of_getElem? (i := 485) (by decide +kernel), by decide +kernel⟩
theorem w_486 : Cond.fieldLinkNest "TapeHouse" 126 "TapeHouse$Span" "first" "I" "TapeHouse" ∈ lw_tbl := List.mem_of_getElem? (i := 486) (by decide +kernel)
theorem w_487 : Cond.fieldLinkNest "TapeHouse$Tape" 58 "TapeHouse$Span" "first" "I" "TapeHouse" ∈ lw_tbl := List.mem_of_getElem? (i := 487) (by decide +kernel)
theorem v_488 : Cond.fieldLink "TapeHouse$Span" 16 "TapeHouse$Span" "length" "I" ∈ lw_g := List.mem_filter.mpr ⟨List.mem_of_getElem? (i := 488) (by decide +kernel), by decide +kernel⟩
theorem w_489 : Cond.fieldLinkNest "TapeHouse" 129 "TapeHouse$Span" "length" "I" "TapeHouse" ∈ lw_tbl := List.mem_of_getElem? (i := 489) (by decide +kernel)
theorem w_490 : Cond.fieldLinkNest "TapeHouse$Tape" 61 "TapeHouse$Span" "length" "I" "TapeHouse" ∈ lw_tbl := List.mem_of_getElem? (i := 490) (by decide +kernel)
theorem v_491 : Cond.fieldLink "TapeHouse$Span" 19 "TapeHouse$Span" "start" "I" ∈ lw_g := List.mem_filter.mpr ⟨List.mem_of_getElem? (i := 491) (by decide +kernel), by decide +kernel⟩
theorem w_492 : Cond.fieldLinkNest "TapeHouse$Track" 46 "TapeHouse$Span" "start" "I" "TapeHouse" ∈ lw_tbl := List.mem_of_getElem? (i := 492) (by decide +kernel)
theorem w_493 : Cond.fieldLinkNest "TapeHouse$Tape" 28 "TapeHouse$Span" "start" "I" "TapeHouse" ∈ lw_tbl := List.mem_of_getElem? (i := 493) (by decide +kernel)
theorem w_494 : Cond.fieldLinkNest "TapeHouse" 132 "TapeHouse$Span" "start" "I" "TapeHouse" ∈ lw_tbl := List.mem_of_getElem? (i := 494) (by decide +kernel)
theorem v_495 : Cond.fieldLink "TapeHouse$Span" 22 "TapeHouse$Span" "gain" "I" ∈ lw_g := List.mem_filter.mpr ⟨List.mem_of_getElem? (i := 495) (by decide +kernel), by decide +kernel⟩
theorem w_496 : Cond.fieldLinkNest "TapeHouse" 135 "TapeHouse$Span" "gain" "I" "TapeHouse" ∈ lw_tbl := List.mem_of_getElem? (i := 496) (by decide +kernel)
theorem v_497 : Cond.fieldLink "TapeHouse$Span" 25 "TapeHouse$Span" "in" "I" ∈ lw_g := List.mem_filter.mpr ⟨List.mem_of_getElem? (i := 497) (by decide +kernel), by decide +kernel⟩
theorem w_498 : Cond.fieldLinkNest "TapeHouse" 138 "TapeHouse$Span" "in" "I" "TapeHouse" ∈ lw_tbl := List.mem_of_getElem? (i := 498) (by decide +kernel)
theorem v_499 : Cond.fieldLink "TapeHouse$Span" 28 "TapeHouse$Span" "out" "I" ∈ lw_g := List.mem_filter.mpr ⟨List.mem_of_getElem? (i := 499) (by decide +kernel), by decide +kernel⟩
theorem w_500 : Cond.fieldLinkNest "TapeHouse" 141 "TapeHouse$Span" "out" "I" "TapeHouse" ∈ lw_tbl := List.mem_of_getElem? (i := 500) (by decide +kernel)
theorem w_516 : Cond.methodLinkNest "TapeHouse" 160 ⟨"TapeHouse$Track", "lay", "(LTapeHouse$Span;I)Z"⟩ "TapeHouse" ∈ lw_tbl := List.mem_of_getElem? (i := 516) (by decide +kernel)
theorem v_518 : Cond.instanceMethod ⟨"TapeHouse$Track", "lay", "(LTapeHouse$Span;I)Z"⟩ ∈ lw_g := List.mem_filter.mpr ⟨List.mem_of_getElem? (i := 518) (by decide +kernel), by decide +kernel⟩
theorem v_519 : Cond.code ⟨"TapeHouse$Track", "lay", "(LTapeHouse$Span;I)Z"⟩ prog_8_method_3_code 3 (some FieldType.boolean) ∈ lw_g := List.mem_filter.mpr ⟨List.mem_of_getElem? (i := 519) (by decide +kernel), by decide +kernel⟩
theorem w_520 : Cond.methodLinkNest "TapeHouse$Track" 51 ⟨"TapeHouse$Span", "end", "()I"⟩ "TapeHouse" ∈ lw_tbl := List.mem_of_getElem? (i := 520) (by decide +kernel)
theorem v_522 : Cond.instanceMethod ⟨"TapeHouse$Span", "end", "()I"⟩ ∈ lw_g := List.mem_filter.mpr ⟨List.mem_of_getElem? (i := 522) (by decide +kernel), by decide +kernel⟩
theorem v_523 : Cond.code ⟨"TapeHouse$Span", "end", "()I"⟩ prog_5_method_2_code 1 (some FieldType.int) ∈ lw_g := List.mem_filter.mpr ⟨List.mem_of_getElem? (i := 523) (by decide +kernel), by decide +kernel⟩
theorem w_524 : Cond.methodLinkNest "TapeHouse$Track" 55 ⟨"TapeHouse$Tape", "takeRest", "(LTapeHouse$Tape;III)V"⟩ "TapeHouse" ∈ lw_tbl := List.mem_of_getElem? (i := 524) (by decide +kernel)
theorem v_526 : Cond.instanceMethod ⟨"TapeHouse$Tape", "takeRest", "(LTapeHouse$Tape;III)V"⟩ ∈ lw_g := List.mem_filter.mpr ⟨List.mem_of_getElem? (i := 526) (by decide +kernel), by decide +kernel⟩
theorem v_527 : Cond.code ⟨"TapeHouse$Tape", "takeRest", "(LTapeHouse$Tape;III)V"⟩ prog_6_method_3_code 7 none ∈ lw_g := List.mem_filter.mpr ⟨List.mem_of_getElem? (i := 527) (by decide +kernel), by decide +kernel⟩
theorem w_528 : Cond.methodLinkNest "TapeHouse$Tape" 24 ⟨"TapeHouse$Span", "end", "()I"⟩ "TapeHouse" ∈ lw_tbl := List.mem_of_getElem? (i := 528) (by decide +kernel)
theorem v_529 : Cond.methodLink "TapeHouse$Tape" 31 ⟨"TapeHouse$Tape", "append", "(LTapeHouse$Span;)V"⟩ ∈ lw_g := List.mem_filter.mpr ⟨List.mem_of_getElem? (i := 529) (by decide +kernel), by decide +kernel⟩
theorem v_531 : Cond.instanceMethod ⟨"TapeHouse$Tape", "append", "(LTapeHouse$Span;)V"⟩ ∈ lw_g := List.mem_filter.mpr ⟨List.mem_of_getElem? (i := 531) (by decide +kernel), by decide +kernel⟩
theorem v_532 : Cond.code ⟨"TapeHouse$Tape", "append", "(LTapeHouse$Span;)V"⟩ prog_6_method_4_code 2 none ∈ lw_g := List.mem_filter.mpr ⟨List.mem_of_getElem? (i := 532) (by decide +kernel), by decide +kernel⟩
theorem w_533 : Cond.methodLinkNest "TapeHouse$Tape" 35 ⟨"TapeHouse$Span", "aheadOf", "(I)LTapeHouse$Span;"⟩ "TapeHouse" ∈ lw_tbl := List.mem_of_getElem? (i := 533) (by decide +kernel)
theorem v_535 : Cond.instanceMethod ⟨"TapeHouse$Span", "aheadOf", "(I)LTapeHouse$Span;"⟩ ∈ lw_g := List.mem_filter.mpr ⟨List.mem_of_getElem? (i := 535) (by decide +kernel), by decide +kernel⟩
theorem v_536 : Cond.code ⟨"TapeHouse$Span", "aheadOf", "(I)LTapeHouse$Span;"⟩ prog_5_method_7_code 3 (some (FieldType.object "TapeHouse$Span")) ∈ lw_g := List.mem_filter.mpr ⟨List.mem_of_getElem? (i := 536) (by decide +kernel), by decide +kernel⟩
theorem v_537 : Cond.classLink "TapeHouse$Span" 8 "TapeHouse$Span" ∈ lw_g := List.mem_filter.mpr ⟨List.mem_of_getElem? (i := 537) (by decide +kernel), by decide +kernel⟩
theorem v_538 : Cond.methodLink "TapeHouse$Span" 40 ⟨"java/lang/Math", "min", "(II)I"⟩ ∈ lw_g := List.mem_filter.mpr ⟨List.mem_of_getElem? (i := 538) (by decide +kernel), by decide +kernel⟩
theorem v_539 : Cond.static ⟨"java/lang/Math", "min", "(II)I"⟩ ∈ lw_g := List.mem_filter.mpr ⟨List.mem_of_getElem? (i := 539) (by decide +kernel), by decide +kernel⟩
theorem v_540 : Cond.code ⟨"java/lang/Math", "min", "(II)I"⟩ prog_13_method_69_code 2 (some FieldType.int) ∈ lw_g := List.mem_filter.mpr ⟨List.mem_of_getElem? (i := 540) (by decide +kernel), by decide +kernel⟩
theorem v_541 : Cond.methodLink "TapeHouse$Span" 37 ⟨"TapeHouse$Span", "<init>", "(IIIIIII)V"⟩ ∈ lw_g := List.mem_filter.mpr ⟨List.mem_of_getElem? (i := 541) (by decide +kernel), by decide +kernel⟩
theorem w_542 : Cond.methodLinkNest "TapeHouse$Tape" 39 ⟨"TapeHouse$Span", "from", "(I)LTapeHouse$Span;"⟩ "TapeHouse" ∈ lw_tbl := List.mem_of_getElem? (i := 542) (by decide +kernel)
theorem v_544 : Cond.instanceMethod ⟨"TapeHouse$Span", "from", "(I)LTapeHouse$Span;"⟩ ∈ lw_g := List.mem_filter.mpr ⟨List.mem_of_getElem? (i := 544) (by decide +kernel), by decide +kernel⟩
theorem v_545 : Cond.code ⟨"TapeHouse$Span", "from", "(I)LTapeHouse$Span;"⟩ prog_5_method_8_code 4 (some (FieldType.object "TapeHouse$Span")) ∈ lw_g := List.mem_filter.mpr ⟨List.mem_of_getElem? (i := 545) (by decide +kernel), by decide +kernel⟩
theorem w_546 : Cond.methodLinkNest "TapeHouse$Track" 59 ⟨"TapeHouse$Tape", "insert", "(LTapeHouse$Span;)V"⟩ "TapeHouse" ∈ lw_tbl := List.mem_of_getElem? (i := 546) (by decide +kernel)
theorem v_548 : Cond.instanceMethod ⟨"TapeHouse$Tape", "insert", "(LTapeHouse$Span;)V"⟩ ∈ lw_g := List.mem_filter.mpr ⟨List.mem_of_getElem? (i := 548) (by decide +kernel), by decide +kernel⟩
theorem v_549 : Cond.code ⟨"TapeHouse$Tape", "insert", "(LTapeHouse$Span;)V"⟩ prog_6_method_5_code 3 none ∈ lw_g := List.mem_filter.mpr ⟨List.mem_of_getElem? (i := 549) (by decide +kernel), by decide +kernel⟩
theorem v_550 : Cond.methodLink "TapeHouse$Track" 63 ⟨"TapeHouse$Track", "acceptDraft", "()Z"⟩ ∈ lw_g := List.mem_filter.mpr ⟨List.mem_of_getElem? (i := 550) (by decide +kernel), by decide +kernel⟩
theorem v_552 : Cond.instanceMethod ⟨"TapeHouse$Track", "acceptDraft", "()Z"⟩ ∈ lw_g := List.mem_filter.mpr ⟨List.mem_of_getElem? (i := 552) (by decide +kernel), by decide +kernel⟩
theorem v_553 : Cond.code ⟨"TapeHouse$Track", "acceptDraft", "()Z"⟩ prog_8_method_8_code 3 (some FieldType.boolean) ∈ lw_g := List.mem_filter.mpr ⟨List.mem_of_getElem? (i := 553) (by decide +kernel), by decide +kernel⟩
theorem v_554 : Cond.methodLink "TapeHouse$Track" 90 ⟨"java/lang/Math", "min", "(II)I"⟩ ∈ lw_g := List.mem_filter.mpr ⟨List.mem_of_getElem? (i := 554) (by decide +kernel), by decide +kernel⟩
theorem v_555 : Cond.methodLink "TapeHouse" 295 ⟨"TapeHouse", "fade", "(IIII)I"⟩ ∈ lw_g := List.mem_filter.mpr ⟨List.mem_of_getElem? (i := 555) (by decide +kernel), by decide +kernel⟩
theorem v_556 : Cond.instanceMethod ⟨"TapeHouse", "fade", "(IIII)I"⟩ ∈ lw_g := List.mem_filter.mpr ⟨List.mem_of_getElem? (i := 556) (by decide +kernel), by decide +kernel⟩
theorem v_557 : Cond.selects "TapeHouse" ⟨"TapeHouse", "fade", "(IIII)I"⟩ ⟨"TapeHouse", "fade", "(IIII)I"⟩ ∈ lw_g := List.mem_filter.mpr ⟨List.mem_of_getElem? (i := 557) (by decide +kernel), by decide +kernel⟩
theorem v_558 : Cond.code ⟨"TapeHouse", "fade", "(IIII)I"⟩ prog_1_method_10_code 6 (some FieldType.int) ∈ lw_g := List.mem_filter.mpr ⟨List.mem_of_getElem? (i := 558) (by decide +kernel), by decide +kernel⟩
theorem v_559 : Cond.methodLink "TapeHouse" 107 ⟨"TapeHouse", "isSpan", "(II)Z"⟩ ∈ lw_g := List.mem_filter.mpr ⟨List.mem_of_getElem? (i := 559) (by decide +kernel), by decide +kernel⟩
theorem v_561 : Cond.instanceMethod ⟨"TapeHouse", "isSpan", "(II)Z"⟩ ∈ lw_g := List.mem_filter.mpr ⟨List.mem_of_getElem? (i := 561) (by decide +kernel), by decide +kernel⟩
theorem v_562 : Cond.code ⟨"TapeHouse", "isSpan", "(II)Z"⟩ prog_1_method_39_code 3 (some FieldType.boolean) ∈ lw_g := List.mem_filter.mpr ⟨List.mem_of_getElem? (i := 562) (by decide +kernel), by decide +kernel⟩
theorem w_563 : Cond.methodLinkNest "TapeHouse" 165 ⟨"TapeHouse$Span", "allowsFades", "(II)Z"⟩ "TapeHouse" ∈ lw_tbl := List.mem_of_getElem? (i := 563) (by decide +kernel)
theorem v_565 : Cond.instanceMethod ⟨"TapeHouse$Span", "allowsFades", "(II)Z"⟩ ∈ lw_g := List.mem_filter.mpr ⟨List.mem_of_getElem? (i := 565) (by decide +kernel), by decide +kernel⟩
theorem v_566 : Cond.code ⟨"TapeHouse$Span", "allowsFades", "(II)Z"⟩ prog_5_method_3_code 3 (some FieldType.boolean) ∈ lw_g := List.mem_filter.mpr ⟨List.mem_of_getElem? (i := 566) (by decide +kernel), by decide +kernel⟩
theorem w_567 : Cond.methodLinkNest "TapeHouse$Span" 31 ⟨"TapeHouse", "isWithin", "(III)Z"⟩ "TapeHouse" ∈ lw_tbl := List.mem_of_getElem? (i := 567) (by decide +kernel)
theorem w_568 : Cond.methodLinkNest "TapeHouse" 168 ⟨"TapeHouse$Span", "faded", "(II)LTapeHouse$Span;"⟩ "TapeHouse" ∈ lw_tbl := List.mem_of_getElem? (i := 568) (by decide +kernel)
theorem v_570 : Cond.instanceMethod ⟨"TapeHouse$Span", "faded", "(II)LTapeHouse$Span;"⟩ ∈ lw_g := List.mem_filter.mpr ⟨List.mem_of_getElem? (i := 570) (by decide +kernel), by decide +kernel⟩
theorem v_571 : Cond.code ⟨"TapeHouse$Span", "faded", "(II)LTapeHouse$Span;"⟩ prog_5_method_4_code 3 (some (FieldType.object "TapeHouse$Span")) ∈ lw_g := List.mem_filter.mpr ⟨List.mem_of_getElem? (i := 571) (by decide +kernel), by decide +kernel⟩
theorem w_572 : Cond.methodLinkNest "TapeHouse" 172 ⟨"TapeHouse$Track", "replace", "(ILTapeHouse$Span;)V"⟩ "TapeHouse" ∈ lw_tbl := List.mem_of_getElem? (i := 572) (by decide +kernel)
theorem v_574 : Cond.instanceMethod ⟨"TapeHouse$Track", "replace", "(ILTapeHouse$Span;)V"⟩ ∈ lw_g := List.mem_filter.mpr ⟨List.mem_of_getElem? (i := 574) (by decide +kernel), by decide +kernel⟩
theorem v_575 : Cond.code ⟨"TapeHouse$Track", "replace", "(ILTapeHouse$Span;)V"⟩ prog_8_method_6_code 3 none ∈ lw_g := List.mem_filter.mpr ⟨List.mem_of_getElem? (i := 575) (by decide +kernel), by decide +kernel⟩
theorem w_576 : Cond.methodLinkNest "TapeHouse$Track" 82 ⟨"TapeHouse$Tape", "copyOf", "(LTapeHouse$Tape;)V"⟩ "TapeHouse" ∈ lw_tbl := List.mem_of_getElem? (i := 576) (by decide +kernel)
theorem v_578 : Cond.instanceMethod ⟨"TapeHouse$Tape", "copyOf", "(LTapeHouse$Tape;)V"⟩ ∈ lw_g := List.mem_filter.mpr ⟨List.mem_of_getElem? (i := 578) (by decide +kernel), by decide +kernel⟩
theorem v_579 : Cond.code ⟨"TapeHouse$Tape", "copyOf", "(LTapeHouse$Tape;)V"⟩ prog_6_method_2_code 3 none ∈ lw_g := List.mem_filter.mpr ⟨List.mem_of_getElem? (i := 579) (by decide +kernel), by decide +kernel⟩
theorem w_580 : Cond.methodLinkNest "TapeHouse$Track" 86 ⟨"TapeHouse", "isWithin", "(III)Z"⟩ "TapeHouse" ∈ lw_tbl := List.mem_of_getElem? (i := 580) (by decide +kernel)
theorem v_581 : Cond.methodLink "TapeHouse" 299 ⟨"TapeHouse", "gain", "(III)I"⟩ ∈ lw_g := List.mem_filter.mpr ⟨List.mem_of_getElem? (i := 581) (by decide +kernel), by decide +kernel⟩
theorem v_582 : Cond.instanceMethod ⟨"TapeHouse", "gain", "(III)I"⟩ ∈ lw_g := List.mem_filter.mpr ⟨List.mem_of_getElem? (i := 582) (by decide +kernel), by decide +kernel⟩
theorem v_583 : Cond.selects "TapeHouse" ⟨"TapeHouse", "gain", "(III)I"⟩ ⟨"TapeHouse", "gain", "(III)I"⟩ ∈ lw_g := List.mem_filter.mpr ⟨List.mem_of_getElem? (i := 583) (by decide +kernel), by decide +kernel⟩
theorem v_584 : Cond.code ⟨"TapeHouse", "gain", "(III)I"⟩ prog_1_method_11_code 5 (some FieldType.int) ∈ lw_g := List.mem_filter.mpr ⟨List.mem_of_getElem? (i := 584) (by decide +kernel), by decide +kernel⟩
theorem w_585 : Cond.methodLinkNest "TapeHouse" 176 ⟨"TapeHouse$Span", "louder", "(I)LTapeHouse$Span;"⟩ "TapeHouse" ∈ lw_tbl := List.mem_of_getElem? (i := 585) (by decide +kernel)
theorem v_587 : Cond.instanceMethod ⟨"TapeHouse$Span", "louder", "(I)LTapeHouse$Span;"⟩ ∈ lw_g := List.mem_filter.mpr ⟨List.mem_of_getElem? (i := 587) (by decide +kernel), by decide +kernel⟩
theorem v_588 : Cond.code ⟨"TapeHouse$Span", "louder", "(I)LTapeHouse$Span;"⟩ prog_5_method_5_code 2 (some (FieldType.object "TapeHouse$Span")) ∈ lw_g := List.mem_filter.mpr ⟨List.mem_of_getElem? (i := 588) (by decide +kernel), by decide +kernel⟩
theorem v_589 : Cond.methodLink "TapeHouse" 301 ⟨"TapeHouse", "shift", "(II)I"⟩ ∈ lw_g := List.mem_filter.mpr ⟨List.mem_of_getElem? (i := 589) (by decide +kernel), by decide +kernel⟩
theorem v_590 : Cond.instanceMethod ⟨"TapeHouse", "shift", "(II)I"⟩ ∈ lw_g := List.mem_filter.mpr ⟨List.mem_of_getElem? (i := 590) (by decide +kernel), by decide +kernel⟩
theorem v_591 : Cond.selects "TapeHouse" ⟨"TapeHouse", "shift", "(II)I"⟩ ⟨"TapeHouse", "shift", "(II)I"⟩ ∈ lw_g := List.mem_filter.mpr ⟨List.mem_of_getElem? (i := 591) (by decide +kernel), by decide +kernel⟩
theorem v_592 : Cond.code ⟨"TapeHouse", "shift", "(II)I"⟩ prog_1_method_15_code 4 (some FieldType.int) ∈ lw_g := List.mem_filter.mpr ⟨List.mem_of_getElem? (i := 592) (by decide +kernel), by decide +kernel⟩
theorem w_593 : Cond.methodLinkNest "TapeHouse" 195 ⟨"TapeHouse$Track", "shiftTo", "(I)V"⟩ "TapeHouse" ∈ lw_tbl := List.mem_of_getElem? (i := 593) (by decide +kernel)
theorem v_595 : Cond.instanceMethod ⟨"TapeHouse$Track", "shiftTo", "(I)V"⟩ ∈ lw_g := List.mem_filter.mpr ⟨List.mem_of_getElem? (i := 595) (by decide +kernel), by decide +kernel⟩
theorem v_596 : Cond.code ⟨"TapeHouse$Track", "shiftTo", "(I)V"⟩ prog_8_method_7_code 2 none ∈ lw_g := List.mem_filter.mpr ⟨List.mem_of_getElem? (i := 596) (by decide +kernel), by decide +kernel⟩
theorem v_597 : Cond.methodLink "TapeHouse" 80 ⟨"TapeHouse", "forgetAllBehindText", "()V"⟩ ∈ lw_g := List.mem_filter.mpr ⟨List.mem_of_getElem? (i := 597) (by decide +kernel), by decide +kernel⟩
theorem v_599 : Cond.instanceMethod ⟨"TapeHouse", "forgetAllBehindText", "()V"⟩ ∈ lw_g := List.mem_filter.mpr ⟨List.mem_of_getElem? (i := 599) (by decide +kernel), by decide +kernel⟩
theorem v_600 : Cond.code ⟨"TapeHouse", "forgetAllBehindText", "()V"⟩ prog_1_method_42_code 2 none ∈ lw_g := List.mem_filter.mpr ⟨List.mem_of_getElem? (i := 600) (by decide +kernel), by decide +kernel⟩
theorem v_601 : Cond.methodLink "TapeHouseLaw" 31 ⟨"TapeHouse", "sound", "(III)I"⟩ ∈ lw_g := List.mem_filter.mpr ⟨List.mem_of_getElem? (i := 601) (by decide +kernel), by decide +kernel⟩
theorem v_602 : Cond.instanceMethod ⟨"TapeHouse", "sound", "(III)I"⟩ ∈ lw_g := List.mem_filter.mpr ⟨List.mem_of_getElem? (i := 602) (by decide +kernel), by decide +kernel⟩
theorem v_603 : Cond.selects "TapeHouse" ⟨"TapeHouse", "sound", "(III)I"⟩ ⟨"TapeHouse", "sound", "(III)I"⟩ ∈ lw_g := List.mem_filter.mpr ⟨List.mem_of_getElem? (i := 603) (by decide +kernel), by decide +kernel⟩
theorem v_604 : Cond.code ⟨"TapeHouse", "sound", "(III)I"⟩ prog_1_method_6_code 4 (some FieldType.int) ∈ lw_g := List.mem_filter.mpr ⟨List.mem_of_getElem? (i := 604) (by decide +kernel), by decide +kernel⟩
theorem w_605 : Cond.methodLinkNest "TapeHouse" 92 ⟨"TapeHouse$Sounds", "floatAt", "(II)F"⟩ "TapeHouse" ∈ lw_tbl := List.mem_of_getElem? (i := 605) (by decide +kernel)
theorem v_607 : Cond.instanceMethod ⟨"TapeHouse$Sounds", "floatAt", "(II)F"⟩ ∈ lw_g := List.mem_filter.mpr ⟨List.mem_of_getElem? (i := 607) (by decide +kernel), by decide +kernel⟩
theorem v_608 : Cond.code ⟨"TapeHouse$Sounds", "floatAt", "(II)F"⟩ prog_4_method_5_code 3 (some FieldType.float) ∈ lw_g := List.mem_filter.mpr ⟨List.mem_of_getElem? (i := 608) (by decide +kernel), by decide +kernel⟩
theorem v_609 : Cond.methodLink "TapeHouse" 96 ⟨"TapeHouse", "sixteenfold", "(F)I"⟩ ∈ lw_g := List.mem_filter.mpr ⟨List.mem_of_getElem? (i := 609) (by decide +kernel), by decide +kernel⟩
theorem v_610 : Cond.static ⟨"TapeHouse", "sixteenfold", "(F)I"⟩ ∈ lw_g := List.mem_filter.mpr ⟨List.mem_of_getElem? (i := 610) (by decide +kernel), by decide +kernel⟩
theorem v_611 : Cond.code ⟨"TapeHouse", "sixteenfold", "(F)I"⟩ prog_1_method_51_code 1 (some FieldType.int) ∈ lw_g := List.mem_filter.mpr ⟨List.mem_of_getElem? (i := 611) (by decide +kernel), by decide +kernel⟩
theorem v_612 : Cond.constantFloat "TapeHouse" 314 1098907648 ∈ lw_g := List.mem_filter.mpr ⟨List.mem_of_getElem? (i := 612) (by decide +kernel), by decide +kernel⟩
theorem v_613 : Cond.methodLink "TapeHouse" 100 ⟨"TapeHouse", "bitsOfFloat", "(F)I"⟩ ∈ lw_g := List.mem_filter.mpr ⟨List.mem_of_getElem? (i := 613) (by decide +kernel), by decide +kernel⟩
theorem v_614 : Cond.static ⟨"TapeHouse", "bitsOfFloat", "(F)I"⟩ ∈ lw_g := List.mem_filter.mpr ⟨List.mem_of_getElem? (i := 614) (by decide +kernel), by decide +kernel⟩
theorem v_615 : Cond.code ⟨"TapeHouse", "bitsOfFloat", "(F)I"⟩ prog_1_method_52_code 2 (some FieldType.int) ∈ lw_g := List.mem_filter.mpr ⟨List.mem_of_getElem? (i := 615) (by decide +kernel), by decide +kernel⟩
theorem v_616 : Cond.methodLink "TapeHouse" 315 ⟨"TapeHouse", "bitsOfSize", "(DII)J"⟩ ∈ lw_g := List.mem_filter.mpr ⟨List.mem_of_getElem? (i := 616) (by decide +kernel), by decide +kernel⟩
theorem v_617 : Cond.static ⟨"TapeHouse", "bitsOfSize", "(DII)J"⟩ ∈ lw_g := List.mem_filter.mpr ⟨List.mem_of_getElem? (i := 617) (by decide +kernel), by decide +kernel⟩
theorem v_618 : Cond.code ⟨"TapeHouse", "bitsOfSize", "(DII)J"⟩ prog_1_method_54_code 9 (some FieldType.long) ∈ lw_g := List.mem_filter.mpr ⟨List.mem_of_getElem? (i := 618) (by decide +kernel), by decide +kernel⟩
theorem v_619 : Cond.constantDouble "TapeHouse" 322 4611686018427387904 ∈ lw_g := List.mem_filter.mpr ⟨List.mem_of_getElem? (i := 619) (by decide +kernel), by decide +kernel⟩
theorem v_620 : Cond.constant "TapeHouse" 319 (-2147483648) ∈ lw_g := List.mem_filter.mpr ⟨List.mem_of_getElem? (i := 620) (by decide +kernel), by decide +kernel⟩
theorem v_621 : Cond.methodLink "TapeHouse" 103 ⟨"TapeHouse", "timesOf", "(II)I"⟩ ∈ lw_g := List.mem_filter.mpr ⟨List.mem_of_getElem? (i := 621) (by decide +kernel), by decide +kernel⟩
theorem v_623 : Cond.instanceMethod ⟨"TapeHouse", "timesOf", "(II)I"⟩ ∈ lw_g := List.mem_filter.mpr ⟨List.mem_of_getElem? (i := 623) (by decide +kernel), by decide +kernel⟩
theorem v_624 : Cond.code ⟨"TapeHouse", "timesOf", "(II)I"⟩ prog_1_method_45_code 5 (some FieldType.int) ∈ lw_g := List.mem_filter.mpr ⟨List.mem_of_getElem? (i := 624) (by decide +kernel), by decide +kernel⟩
theorem w_625 : Cond.methodLinkNest "TapeHouse" 313 ⟨"TapeHouse$Tape", "timesOf", "(II)I"⟩ "TapeHouse" ∈ lw_tbl := List.mem_of_getElem? (i := 625) (by decide +kernel)
theorem v_627 : Cond.instanceMethod ⟨"TapeHouse$Tape", "timesOf", "(II)I"⟩ ∈ lw_g := List.mem_filter.mpr ⟨List.mem_of_getElem? (i := 627) (by decide +kernel), by decide +kernel⟩
theorem v_628 : Cond.code ⟨"TapeHouse$Tape", "timesOf", "(II)I"⟩ prog_6_method_8_code 6 (some FieldType.int) ∈ lw_g := List.mem_filter.mpr ⟨List.mem_of_getElem? (i := 628) (by decide +kernel), by decide +kernel⟩
theorem w_629 : Cond.methodLinkNest "TapeHouse$Tape" 42 ⟨"TapeHouse", "isWithin", "(III)Z"⟩ "TapeHouse" ∈ lw_tbl := List.mem_of_getElem? (i := 629) (by decide +kernel)
theorem v_630 : Cond.methodLink "TapeHouseLaw" 36 ⟨"TapeHouse", "span", "(III)I"⟩ ∈ lw_g := List.mem_filter.mpr ⟨List.mem_of_getElem? (i := 630) (by decide +kernel), by decide +kernel⟩
theorem v_631 : Cond.instanceMethod ⟨"TapeHouse", "span", "(III)I"⟩ ∈ lw_g := List.mem_filter.mpr ⟨List.mem_of_getElem? (i := 631) (by decide +kernel), by decide +kernel⟩
theorem v_632 : Cond.selects "TapeHouse" ⟨"TapeHouse", "span", "(III)I"⟩ ⟨"TapeHouse", "span", "(III)I"⟩ ∈ lw_g := List.mem_filter.mpr ⟨List.mem_of_getElem? (i := 632) (by decide +kernel), by decide +kernel⟩
theorem v_633 : Cond.code ⟨"TapeHouse", "span", "(III)I"⟩ prog_1_method_7_code 5 (some FieldType.int) ∈ lw_g := List.mem_filter.mpr ⟨List.mem_of_getElem? (i := 633) (by decide +kernel), by decide +kernel⟩
theorem v_634 : Cond.methodLink "TapeHouseLaw" 40 ⟨"TapeHouse", "tone", "(III)I"⟩ ∈ lw_g := List.mem_filter.mpr ⟨List.mem_of_getElem? (i := 634) (by decide +kernel), by decide +kernel⟩
theorem v_635 : Cond.instanceMethod ⟨"TapeHouse", "tone", "(III)I"⟩ ∈ lw_g := List.mem_filter.mpr ⟨List.mem_of_getElem? (i := 635) (by decide +kernel), by decide +kernel⟩
theorem v_636 : Cond.selects "TapeHouse" ⟨"TapeHouse", "tone", "(III)I"⟩ ⟨"TapeHouse", "tone", "(III)I"⟩ ∈ lw_g := List.mem_filter.mpr ⟨List.mem_of_getElem? (i := 636) (by decide +kernel), by decide +kernel⟩
theorem v_637 : Cond.code ⟨"TapeHouse", "tone", "(III)I"⟩ prog_1_method_8_code 4 (some FieldType.int) ∈ lw_g := List.mem_filter.mpr ⟨List.mem_of_getElem? (i := 637) (by decide +kernel), by decide +kernel⟩
theorem v_638 : Cond.methodLink "TapeHouseLaw" 44 ⟨"TapeHouse", "put", "(IIIII)I"⟩ ∈ lw_g := List.mem_filter.mpr ⟨List.mem_of_getElem? (i := 638) (by decide +kernel), by decide +kernel⟩
theorem v_639 : Cond.methodLink "TapeHouseLaw" 49 ⟨"TapeHouse", "fade", "(IIII)I"⟩ ∈ lw_g := List.mem_filter.mpr ⟨List.mem_of_getElem? (i := 639) (by decide +kernel), by decide +kernel⟩
theorem v_640 : Cond.methodLink "TapeHouseLaw" 54 ⟨"TapeHouse", "gain", "(III)I"⟩ ∈ lw_g := List.mem_filter.mpr ⟨List.mem_of_getElem? (i := 640) (by decide +kernel), by decide +kernel⟩
theorem v_641 : Cond.methodLink "TapeHouseLaw" 58 ⟨"TapeHouse", "wipe", "(III)I"⟩ ∈ lw_g := List.mem_filter.mpr ⟨List.mem_of_getElem? (i := 641) (by decide +kernel), by decide +kernel⟩
theorem v_642 : Cond.instanceMethod ⟨"TapeHouse", "wipe", "(III)I"⟩ ∈ lw_g := List.mem_filter.mpr ⟨List.mem_of_getElem? (i := 642) (by decide +kernel), by decide +kernel⟩
theorem v_643 : Cond.selects "TapeHouse" ⟨"TapeHouse", "wipe", "(III)I"⟩ ⟨"TapeHouse", "wipe", "(III)I"⟩ ∈ lw_g := List.mem_filter.mpr ⟨List.mem_of_getElem? (i := 643) (by decide +kernel), by decide +kernel⟩
theorem v_644 : Cond.code ⟨"TapeHouse", "wipe", "(III)I"⟩ prog_1_method_12_code 4 (some FieldType.int) ∈ lw_g := List.mem_filter.mpr ⟨List.mem_of_getElem? (i := 644) (by decide +kernel), by decide +kernel⟩
theorem v_645 : Cond.methodLink "TapeHouse" 180 ⟨"TapeHouse", "isMoment", "(I)Z"⟩ ∈ lw_g := List.mem_filter.mpr ⟨List.mem_of_getElem? (i := 645) (by decide +kernel), by decide +kernel⟩
theorem v_646 : Cond.static ⟨"TapeHouse", "isMoment", "(I)Z"⟩ ∈ lw_g := List.mem_filter.mpr ⟨List.mem_of_getElem? (i := 646) (by decide +kernel), by decide +kernel⟩
theorem v_647 : Cond.code ⟨"TapeHouse", "isMoment", "(I)Z"⟩ prog_1_method_34_code 1 (some FieldType.boolean) ∈ lw_g := List.mem_filter.mpr ⟨List.mem_of_getElem? (i := 647) (by decide +kernel), by decide +kernel⟩
theorem w_648 : Cond.methodLinkNest "TapeHouse" 183 ⟨"TapeHouse$Track", "clear", "(II)Z"⟩ "TapeHouse" ∈ lw_tbl := List.mem_of_getElem? (i := 648) (by decide +kernel)
theorem v_650 : Cond.instanceMethod ⟨"TapeHouse$Track", "clear", "(II)Z"⟩ ∈ lw_g := List.mem_filter.mpr ⟨List.mem_of_getElem? (i := 650) (by decide +kernel), by decide +kernel⟩
theorem v_651 : Cond.code ⟨"TapeHouse$Track", "clear", "(II)Z"⟩ prog_8_method_4_code 3 (some FieldType.boolean) ∈ lw_g := List.mem_filter.mpr ⟨List.mem_of_getElem? (i := 651) (by decide +kernel), by decide +kernel⟩
theorem v_652 : Cond.methodLink "TapeHouseLaw" 62 ⟨"TapeHouse", "cut", "(II)I"⟩ ∈ lw_g := List.mem_filter.mpr ⟨List.mem_of_getElem? (i := 652) (by decide +kernel), by decide +kernel⟩
theorem v_653 : Cond.instanceMethod ⟨"TapeHouse", "cut", "(II)I"⟩ ∈ lw_g := List.mem_filter.mpr ⟨List.mem_of_getElem? (i := 653) (by decide +kernel), by decide +kernel⟩
theorem v_654 : Cond.selects "TapeHouse" ⟨"TapeHouse", "cut", "(II)I"⟩ ⟨"TapeHouse", "cut", "(II)I"⟩ ∈ lw_g := List.mem_filter.mpr ⟨List.mem_of_getElem? (i := 654) (by decide +kernel), by decide +kernel⟩
theorem v_655 : Cond.code ⟨"TapeHouse", "cut", "(II)I"⟩ prog_1_method_13_code 3 (some FieldType.int) ∈ lw_g := List.mem_filter.mpr ⟨List.mem_of_getElem? (i := 655) (by decide +kernel), by decide +kernel⟩
theorem w_656 : Cond.methodLinkNest "TapeHouse" 186 ⟨"TapeHouse$Track", "split", "(I)Z"⟩ "TapeHouse" ∈ lw_tbl := List.mem_of_getElem? (i := 656) (by decide +kernel)
theorem v_658 : Cond.instanceMethod ⟨"TapeHouse$Track", "split", "(I)Z"⟩ ∈ lw_g := List.mem_filter.mpr ⟨List.mem_of_getElem? (i := 658) (by decide +kernel), by decide +kernel⟩
theorem v_659 : Cond.code ⟨"TapeHouse$Track", "split", "(I)Z"⟩ prog_8_method_5_code 4 (some FieldType.boolean) ∈ lw_g := List.mem_filter.mpr ⟨List.mem_of_getElem? (i := 659) (by decide +kernel), by decide +kernel⟩
theorem w_660 : Cond.methodLinkNest "TapeHouse$Track" 67 ⟨"TapeHouse$Tape", "indexAt", "(I)I"⟩ "TapeHouse" ∈ lw_tbl := List.mem_of_getElem? (i := 660) (by decide +kernel)
theorem v_662 : Cond.instanceMethod ⟨"TapeHouse$Tape", "indexAt", "(I)I"⟩ ∈ lw_g := List.mem_filter.mpr ⟨List.mem_of_getElem? (i := 662) (by decide +kernel), by decide +kernel⟩
theorem v_663 : Cond.code ⟨"TapeHouse$Tape", "indexAt", "(I)I"⟩ prog_6_method_6_code 3 (some FieldType.int) ∈ lw_g := List.mem_filter.mpr ⟨List.mem_of_getElem? (i := 663) (by decide +kernel), by decide +kernel⟩
theorem w_664 : Cond.methodLinkNest "TapeHouse$Track" 75 ⟨"TapeHouse$Span", "aheadOf", "(I)LTapeHouse$Span;"⟩ "TapeHouse" ∈ lw_tbl := List.mem_of_getElem? (i := 664) (by decide +kernel)
theorem w_665 : Cond.methodLinkNest "TapeHouse$Track" 79 ⟨"TapeHouse$Span", "from", "(I)LTapeHouse$Span;"⟩ "TapeHouse" ∈ lw_tbl := List.mem_of_getElem? (i := 665) (by decide +kernel)
theorem v_666 : Cond.methodLink "TapeHouseLaw" 67 ⟨"TapeHouse", "move", "(III)I"⟩ ∈ lw_g := List.mem_filter.mpr ⟨List.mem_of_getElem? (i := 666) (by decide +kernel), by decide +kernel⟩
theorem v_667 : Cond.instanceMethod ⟨"TapeHouse", "move", "(III)I"⟩ ∈ lw_g := List.mem_filter.mpr ⟨List.mem_of_getElem? (i := 667) (by decide +kernel), by decide +kernel⟩
theorem v_668 : Cond.selects "TapeHouse" ⟨"TapeHouse", "move", "(III)I"⟩ ⟨"TapeHouse", "move", "(III)I"⟩ ∈ lw_g := List.mem_filter.mpr ⟨List.mem_of_getElem? (i := 668) (by decide +kernel), by decide +kernel⟩
theorem v_669 : Cond.code ⟨"TapeHouse", "move", "(III)I"⟩ prog_1_method_14_code 5 (some FieldType.int) ∈ lw_g := List.mem_filter.mpr ⟨List.mem_of_getElem? (i := 669) (by decide +kernel), by decide +kernel⟩
theorem w_670 : Cond.methodLinkNest "TapeHouse" 189 ⟨"TapeHouse$Span", "movedTo", "(I)LTapeHouse$Span;"⟩ "TapeHouse" ∈ lw_tbl := List.mem_of_getElem? (i := 670) (by decide +kernel)
theorem v_672 : Cond.instanceMethod ⟨"TapeHouse$Span", "movedTo", "(I)LTapeHouse$Span;"⟩ ∈ lw_g := List.mem_filter.mpr ⟨List.mem_of_getElem? (i := 672) (by decide +kernel), by decide +kernel⟩
theorem v_673 : Cond.code ⟨"TapeHouse$Span", "movedTo", "(I)LTapeHouse$Span;"⟩ prog_5_method_6_code 2 (some (FieldType.object "TapeHouse$Span")) ∈ lw_g := List.mem_filter.mpr ⟨List.mem_of_getElem? (i := 673) (by decide +kernel), by decide +kernel⟩
theorem v_674 : Cond.methodLink "TapeHouseLaw" 71 ⟨"TapeHouse", "shift", "(II)I"⟩ ∈ lw_g := List.mem_filter.mpr ⟨List.mem_of_getElem? (i := 674) (by decide +kernel), by decide +kernel⟩
theorem v_675 : Cond.methodLink "TapeHouseLaw" 75 ⟨"TapeHouse", "shut", "(I)I"⟩ ∈ lw_g := List.mem_filter.mpr ⟨List.mem_of_getElem? (i := 675) (by decide +kernel), by decide +kernel⟩
theorem v_676 : Cond.instanceMethod ⟨"TapeHouse", "shut", "(I)I"⟩ ∈ lw_g := List.mem_filter.mpr ⟨List.mem_of_getElem? (i := 676) (by decide +kernel), by decide +kernel⟩
theorem v_677 : Cond.selects "TapeHouse" ⟨"TapeHouse", "shut", "(I)I"⟩ ⟨"TapeHouse", "shut", "(I)I"⟩ ∈ lw_g := List.mem_filter.mpr ⟨List.mem_of_getElem? (i := 677) (by decide +kernel), by decide +kernel⟩
theorem v_678 : Cond.code ⟨"TapeHouse", "shut", "(I)I"⟩ prog_1_method_16_code 3 (some FieldType.int) ∈ lw_g := List.mem_filter.mpr ⟨List.mem_of_getElem? (i := 678) (by decide +kernel), by decide +kernel⟩
theorem v_679 : Cond.methodLink "TapeHouseLaw" 79 ⟨"TapeHouse", "bounce", "(II)I"⟩ ∈ lw_g := List.mem_filter.mpr ⟨List.mem_of_getElem? (i := 679) (by decide +kernel), by decide +kernel⟩
theorem v_680 : Cond.instanceMethod ⟨"TapeHouse", "bounce", "(II)I"⟩ ∈ lw_g := List.mem_filter.mpr ⟨List.mem_of_getElem? (i := 680) (by decide +kernel), by decide +kernel⟩
theorem v_681 : Cond.selects "TapeHouse" ⟨"TapeHouse", "bounce", "(II)I"⟩ ⟨"TapeHouse", "bounce", "(II)I"⟩ ∈ lw_g := List.mem_filter.mpr ⟨List.mem_of_getElem? (i := 681) (by decide +kernel), by decide +kernel⟩
theorem v_682 : Cond.code ⟨"TapeHouse", "bounce", "(II)I"⟩ prog_1_method_17_code 5 (some FieldType.int) ∈ lw_g := List.mem_filter.mpr ⟨List.mem_of_getElem? (i := 682) (by decide +kernel), by decide +kernel⟩
theorem w_683 : Cond.methodLinkNest "TapeHouse" 202 ⟨"TapeHouse$Sounds", "addRow", "(I)I"⟩ "TapeHouse" ∈ lw_tbl := List.mem_of_getElem? (i := 683) (by decide +kernel)
theorem v_684 : Cond.methodLink "TapeHouse" 206 ⟨"TapeHouse", "heardAt", "(I)F"⟩ ∈ lw_g := List.mem_filter.mpr ⟨List.mem_of_getElem? (i := 684) (by decide +kernel), by decide +kernel⟩
theorem v_686 : Cond.instanceMethod ⟨"TapeHouse", "heardAt", "(I)F"⟩ ∈ lw_g := List.mem_filter.mpr ⟨List.mem_of_getElem? (i := 686) (by decide +kernel), by decide +kernel⟩
theorem v_687 : Cond.code ⟨"TapeHouse", "heardAt", "(I)F"⟩ prog_1_method_44_code 5 (some FieldType.float) ∈ lw_g := List.mem_filter.mpr ⟨List.mem_of_getElem? (i := 687) (by decide +kernel), by decide +kernel⟩
theorem v_688 : Cond.methodLink "TapeHouse" 237 ⟨"TapeHouse", "playedOn", "(LTapeHouse$Tape;I)F"⟩ ∈ lw_g := List.mem_filter.mpr ⟨List.mem_of_getElem? (i := 688) (by decide +kernel), by decide +kernel⟩
theorem v_690 : Cond.instanceMethod ⟨"TapeHouse", "playedOn", "(LTapeHouse$Tape;I)F"⟩ ∈ lw_g := List.mem_filter.mpr ⟨List.mem_of_getElem? (i := 690) (by decide +kernel), by decide +kernel⟩
theorem v_691 : Cond.code ⟨"TapeHouse", "playedOn", "(LTapeHouse$Tape;I)F"⟩ prog_1_method_43_code 6 (some FieldType.float) ∈ lw_g := List.mem_filter.mpr ⟨List.mem_of_getElem? (i := 691) (by decide +kernel), by decide +kernel⟩
theorem w_692 : Cond.methodLinkNest "TapeHouse" 306 ⟨"TapeHouse$Tape", "indexAt", "(I)I"⟩ "TapeHouse" ∈ lw_tbl := List.mem_of_getElem? (i := 692) (by decide +kernel)
theorem w_693 : Cond.methodLinkNest "TapeHouse" 309 ⟨"TapeHouse$Span", "weigh", "(FI)F"⟩ "TapeHouse" ∈ lw_tbl := List.mem_of_getElem? (i := 693) (by decide +kernel)
theorem v_695 : Cond.instanceMethod ⟨"TapeHouse$Span", "weigh", "(FI)F"⟩ ∈ lw_g := List.mem_filter.mpr ⟨List.mem_of_getElem? (i := 695) (by decide +kernel), by decide +kernel⟩
theorem v_696 : Cond.code ⟨"TapeHouse$Span", "weigh", "(FI)F"⟩ prog_5_method_9_code 4 (some FieldType.float) ∈ lw_g := List.mem_filter.mpr ⟨List.mem_of_getElem? (i := 696) (by decide +kernel), by decide +kernel⟩
theorem v_697 : Cond.constantFloat "TapeHouse$Span" 46 1090519040 ∈ lw_g := List.mem_filter.mpr ⟨List.mem_of_getElem? (i := 697) (by decide +kernel), by decide +kernel⟩
theorem w_698 : Cond.methodLinkNest "TapeHouse" 210 ⟨"TapeHouse$Sounds", "setFloat", "(IIF)V"⟩ "TapeHouse" ∈ lw_tbl := List.mem_of_getElem? (i := 698) (by decide +kernel)
theorem v_699 : Cond.methodLink "TapeHouseLaw" 83 ⟨"TapeHouse", "undo", "(I)I"⟩ ∈ lw_g := List.mem_filter.mpr ⟨List.mem_of_getElem? (i := 699) (by decide +kernel), by decide +kernel⟩
theorem v_700 : Cond.instanceMethod ⟨"TapeHouse", "undo", "(I)I"⟩ ∈ lw_g := List.mem_filter.mpr ⟨List.mem_of_getElem? (i := 700) (by decide +kernel), by decide +kernel⟩
theorem v_701 : Cond.selects "TapeHouse" ⟨"TapeHouse", "undo", "(I)I"⟩ ⟨"TapeHouse", "undo", "(I)I"⟩ ∈ lw_g := List.mem_filter.mpr ⟨List.mem_of_getElem? (i := 701) (by decide +kernel), by decide +kernel⟩
theorem v_702 : Cond.code ⟨"TapeHouse", "undo", "(I)I"⟩ prog_1_method_18_code 2 (some FieldType.int) ∈ lw_g := List.mem_filter.mpr ⟨List.mem_of_getElem? (i := 702) (by decide +kernel), by decide +kernel⟩
theorem w_703 : Cond.methodLinkNest "TapeHouse" 214 ⟨"TapeHouse$Track", "goBack", "()Z"⟩ "TapeHouse" ∈ lw_tbl := List.mem_of_getElem? (i := 703) (by decide +kernel)
theorem v_705 : Cond.instanceMethod ⟨"TapeHouse$Track", "goBack", "()Z"⟩ ∈ lw_g := List.mem_filter.mpr ⟨List.mem_of_getElem? (i := 705) (by decide +kernel), by decide +kernel⟩
theorem v_706 : Cond.code ⟨"TapeHouse$Track", "goBack", "()Z"⟩ prog_8_method_9_code 3 (some FieldType.boolean) ∈ lw_g := List.mem_filter.mpr ⟨List.mem_of_getElem? (i := 706) (by decide +kernel), by decide +kernel⟩
theorem v_707 : Cond.methodLink "TapeHouseLaw" 87 ⟨"TapeHouse", "keep", "(I)I"⟩ ∈ lw_g := List.mem_filter.mpr ⟨List.mem_of_getElem? (i := 707) (by decide +kernel), by decide +kernel⟩
theorem v_708 : Cond.instanceMethod ⟨"TapeHouse", "keep", "(I)I"⟩ ∈ lw_g := List.mem_filter.mpr ⟨List.mem_of_getElem? (i := 708) (by decide +kernel), by decide +kernel⟩
theorem v_709 : Cond.selects "TapeHouse" ⟨"TapeHouse", "keep", "(I)I"⟩ ⟨"TapeHouse", "keep", "(I)I"⟩ ∈ lw_g := List.mem_filter.mpr ⟨List.mem_of_getElem? (i := 709) (by decide +kernel), by decide +kernel⟩
theorem v_710 : Cond.code ⟨"TapeHouse", "keep", "(I)I"⟩ prog_1_method_19_code 3 (some FieldType.int) ∈ lw_g := List.mem_filter.mpr ⟨List.mem_of_getElem? (i := 710) (by decide +kernel), by decide +kernel⟩
theorem w_711 : Cond.methodLinkNest "TapeHouse" 221 ⟨"TapeHouse$Track", "store", "(I)V"⟩ "TapeHouse" ∈ lw_tbl := List.mem_of_getElem? (i := 711) (by decide +kernel)
theorem v_713 : Cond.instanceMethod ⟨"TapeHouse$Track", "store", "(I)V"⟩ ∈ lw_g := List.mem_filter.mpr ⟨List.mem_of_getElem? (i := 713) (by decide +kernel), by decide +kernel⟩
theorem v_714 : Cond.code ⟨"TapeHouse$Track", "store", "(I)V"⟩ prog_8_method_10_code 2 none ∈ lw_g := List.mem_filter.mpr ⟨List.mem_of_getElem? (i := 714) (by decide +kernel), by decide +kernel⟩
theorem v_715 : Cond.methodLink "TapeHouse" 224 ⟨"TapeHouse", "spansOfAll", "()I"⟩ ∈ lw_g := List.mem_filter.mpr ⟨List.mem_of_getElem? (i := 715) (by decide +kernel), by decide +kernel⟩
theorem v_717 : Cond.instanceMethod ⟨"TapeHouse", "spansOfAll", "()I"⟩ ∈ lw_g := List.mem_filter.mpr ⟨List.mem_of_getElem? (i := 717) (by decide +kernel), by decide +kernel⟩
theorem v_718 : Cond.code ⟨"TapeHouse", "spansOfAll", "()I"⟩ prog_1_method_46_code 3 (some FieldType.int) ∈ lw_g := List.mem_filter.mpr ⟨List.mem_of_getElem? (i := 718) (by decide +kernel), by decide +kernel⟩
theorem v_719 : Cond.methodLink "TapeHouseLaw" 91 ⟨"TapeHouse", "back", "(I)I"⟩ ∈ lw_g := List.mem_filter.mpr ⟨List.mem_of_getElem? (i := 719) (by decide +kernel), by decide +kernel⟩
theorem v_720 : Cond.instanceMethod ⟨"TapeHouse", "back", "(I)I"⟩ ∈ lw_g := List.mem_filter.mpr ⟨List.mem_of_getElem? (i := 720) (by decide +kernel), by decide +kernel⟩
theorem v_721 : Cond.selects "TapeHouse" ⟨"TapeHouse", "back", "(I)I"⟩ ⟨"TapeHouse", "back", "(I)I"⟩ ∈ lw_g := List.mem_filter.mpr ⟨List.mem_of_getElem? (i := 721) (by decide +kernel), by decide +kernel⟩
theorem v_722 : Cond.code ⟨"TapeHouse", "back", "(I)I"⟩ prog_1_method_20_code 3 (some FieldType.int) ∈ lw_g := List.mem_filter.mpr ⟨List.mem_of_getElem? (i := 722) (by decide +kernel), by decide +kernel⟩
theorem w_723 : Cond.methodLinkNest "TapeHouse" 228 ⟨"TapeHouse$Track", "restore", "(I)V"⟩ "TapeHouse" ∈ lw_tbl := List.mem_of_getElem? (i := 723) (by decide +kernel)
theorem v_725 : Cond.instanceMethod ⟨"TapeHouse$Track", "restore", "(I)V"⟩ ∈ lw_g := List.mem_filter.mpr ⟨List.mem_of_getElem? (i := 725) (by decide +kernel), by decide +kernel⟩
theorem v_726 : Cond.code ⟨"TapeHouse$Track", "restore", "(I)V"⟩ prog_8_method_11_code 2 none ∈ lw_g := List.mem_filter.mpr ⟨List.mem_of_getElem? (i := 726) (by decide +kernel), by decide +kernel⟩
theorem v_727 : Cond.methodLink "TapeHouseLaw" 95 ⟨"TapeHouse", "heard", "(I)I"⟩ ∈ lw_g := List.mem_filter.mpr ⟨List.mem_of_getElem? (i := 727) (by decide +kernel), by decide +kernel⟩
theorem v_728 : Cond.instanceMethod ⟨"TapeHouse", "heard", "(I)I"⟩ ∈ lw_g := List.mem_filter.mpr ⟨List.mem_of_getElem? (i := 728) (by decide +kernel), by decide +kernel⟩
theorem v_729 : Cond.selects "TapeHouse" ⟨"TapeHouse", "heard", "(I)I"⟩ ⟨"TapeHouse", "heard", "(I)I"⟩ ∈ lw_g := List.mem_filter.mpr ⟨List.mem_of_getElem? (i := 729) (by decide +kernel), by decide +kernel⟩
theorem v_730 : Cond.code ⟨"TapeHouse", "heard", "(I)I"⟩ prog_1_method_21_code 2 (some FieldType.int) ∈ lw_g := List.mem_filter.mpr ⟨List.mem_of_getElem? (i := 730) (by decide +kernel), by decide +kernel⟩
theorem v_731 : Cond.methodLink "TapeHouseLaw" 99 ⟨"TapeHouse", "exact", "(I)J"⟩ ∈ lw_g := List.mem_filter.mpr ⟨List.mem_of_getElem? (i := 731) (by decide +kernel), by decide +kernel⟩
theorem v_732 : Cond.instanceMethod ⟨"TapeHouse", "exact", "(I)J"⟩ ∈ lw_g := List.mem_filter.mpr ⟨List.mem_of_getElem? (i := 732) (by decide +kernel), by decide +kernel⟩
theorem v_733 : Cond.selects "TapeHouse" ⟨"TapeHouse", "exact", "(I)J"⟩ ⟨"TapeHouse", "exact", "(I)J"⟩ ∈ lw_g := List.mem_filter.mpr ⟨List.mem_of_getElem? (i := 733) (by decide +kernel), by decide +kernel⟩
theorem v_734 : Cond.code ⟨"TapeHouse", "exact", "(I)J"⟩ prog_1_method_22_code 2 (some FieldType.long) ∈ lw_g := List.mem_filter.mpr ⟨List.mem_of_getElem? (i := 734) (by decide +kernel), by decide +kernel⟩
theorem v_735 : Cond.constantLong "TapeHouse" 231 (-2000000002) ∈ lw_g := List.mem_filter.mpr ⟨List.mem_of_getElem? (i := 735) (by decide +kernel), by decide +kernel⟩
theorem v_736 : Cond.methodLink "TapeHouseLaw" 104 ⟨"TapeHouse", "sum", "(II)J"⟩ ∈ lw_g := List.mem_filter.mpr ⟨List.mem_of_getElem? (i := 736) (by decide +kernel), by decide +kernel⟩
theorem v_737 : Cond.instanceMethod ⟨"TapeHouse", "sum", "(II)J"⟩ ∈ lw_g := List.mem_filter.mpr ⟨List.mem_of_getElem? (i := 737) (by decide +kernel), by decide +kernel⟩
theorem v_738 : Cond.selects "TapeHouse" ⟨"TapeHouse", "sum", "(II)J"⟩ ⟨"TapeHouse", "sum", "(II)J"⟩ ∈ lw_g := List.mem_filter.mpr ⟨List.mem_of_getElem? (i := 738) (by decide +kernel), by decide +kernel⟩
theorem v_739 : Cond.code ⟨"TapeHouse", "sum", "(II)J"⟩ prog_1_method_23_code 6 (some FieldType.long) ∈ lw_g := List.mem_filter.mpr ⟨List.mem_of_getElem? (i := 739) (by decide +kernel), by decide +kernel⟩
theorem v_740 : Cond.methodLink "TapeHouse" 233 ⟨"TapeHouse", "bitsOfDouble", "(D)J"⟩ ∈ lw_g := List.mem_filter.mpr ⟨List.mem_of_getElem? (i := 740) (by decide +kernel), by decide +kernel⟩
theorem v_741 : Cond.static ⟨"TapeHouse", "bitsOfDouble", "(D)J"⟩ ∈ lw_g := List.mem_filter.mpr ⟨List.mem_of_getElem? (i := 741) (by decide +kernel), by decide +kernel⟩
theorem v_742 : Cond.code ⟨"TapeHouse", "bitsOfDouble", "(D)J"⟩ prog_1_method_53_code 4 (some FieldType.long) ∈ lw_g := List.mem_filter.mpr ⟨List.mem_of_getElem? (i := 742) (by decide +kernel), by decide +kernel⟩
theorem v_743 : Cond.constantLong "TapeHouse" 320 (-9223372036854775808) ∈ lw_g := List.mem_filter.mpr ⟨List.mem_of_getElem? (i := 743) (by decide +kernel), by decide +kernel⟩
theorem v_744 : Cond.methodLink "TapeHouseLaw" 109 ⟨"TapeHouse", "played", "(II)I"⟩ ∈ lw_g := List.mem_filter.mpr ⟨List.mem_of_getElem? (i := 744) (by decide +kernel), by decide +kernel⟩
theorem v_745 : Cond.instanceMethod ⟨"TapeHouse", "played", "(II)I"⟩ ∈ lw_g := List.mem_filter.mpr ⟨List.mem_of_getElem? (i := 745) (by decide +kernel), by decide +kernel⟩
theorem v_746 : Cond.selects "TapeHouse" ⟨"TapeHouse", "played", "(II)I"⟩ ⟨"TapeHouse", "played", "(II)I"⟩ ∈ lw_g := List.mem_filter.mpr ⟨List.mem_of_getElem? (i := 746) (by decide +kernel), by decide +kernel⟩
theorem v_747 : Cond.code ⟨"TapeHouse", "played", "(II)I"⟩ prog_1_method_24_code 3 (some FieldType.int) ∈ lw_g := List.mem_filter.mpr ⟨List.mem_of_getElem? (i := 747) (by decide +kernel), by decide +kernel⟩
theorem v_748 : Cond.methodLink "TapeHouseLaw" 113 ⟨"TapeHouse", "covers", "(III)I"⟩ ∈ lw_g := List.mem_filter.mpr ⟨List.mem_of_getElem? (i := 748) (by decide +kernel), by decide +kernel⟩
theorem v_749 : Cond.instanceMethod ⟨"TapeHouse", "covers", "(III)I"⟩ ∈ lw_g := List.mem_filter.mpr ⟨List.mem_of_getElem? (i := 749) (by decide +kernel), by decide +kernel⟩
theorem v_750 : Cond.selects "TapeHouse" ⟨"TapeHouse", "covers", "(III)I"⟩ ⟨"TapeHouse", "covers", "(III)I"⟩ ∈ lw_g := List.mem_filter.mpr ⟨List.mem_of_getElem? (i := 750) (by decide +kernel), by decide +kernel⟩
theorem v_751 : Cond.code ⟨"TapeHouse", "covers", "(III)I"⟩ prog_1_method_25_code 4 (some FieldType.int) ∈ lw_g := List.mem_filter.mpr ⟨List.mem_of_getElem? (i := 751) (by decide +kernel), by decide +kernel⟩
theorem w_752 : Cond.methodLinkNest "TapeHouse" 241 ⟨"TapeHouse$Tape", "momentsWithin", "(II)I"⟩ "TapeHouse" ∈ lw_tbl := List.mem_of_getElem? (i := 752) (by decide +kernel)
theorem v_754 : Cond.instanceMethod ⟨"TapeHouse$Tape", "momentsWithin", "(II)I"⟩ ∈ lw_g := List.mem_filter.mpr ⟨List.mem_of_getElem? (i := 754) (by decide +kernel), by decide +kernel⟩
theorem v_755 : Cond.code ⟨"TapeHouse$Tape", "momentsWithin", "(II)I"⟩ prog_6_method_7_code 6 (some FieldType.int) ∈ lw_g := List.mem_filter.mpr ⟨List.mem_of_getElem? (i := 755) (by decide +kernel), by decide +kernel⟩
theorem v_756 : Cond.methodLink "TapeHouse$Tape" 46 ⟨"java/lang/Math", "min", "(II)I"⟩ ∈ lw_g := List.mem_filter.mpr ⟨List.mem_of_getElem? (i := 756) (by decide +kernel), by decide +kernel⟩
theorem v_757 : Cond.methodLink "TapeHouse$Tape" 52 ⟨"java/lang/Math", "max", "(II)I"⟩ ∈ lw_g := List.mem_filter.mpr ⟨List.mem_of_getElem? (i := 757) (by decide +kernel), by decide +kernel⟩
theorem v_758 : Cond.static ⟨"java/lang/Math", "max", "(II)I"⟩ ∈ lw_g := List.mem_filter.mpr ⟨List.mem_of_getElem? (i := 758) (by decide +kernel), by decide +kernel⟩
theorem v_759 : Cond.code ⟨"java/lang/Math", "max", "(II)I"⟩ prog_13_method_65_code 2 (some FieldType.int) ∈ lw_g := List.mem_filter.mpr ⟨List.mem_of_getElem? (i := 759) (by decide +kernel), by decide +kernel⟩
theorem v_760 : Cond.methodLink "TapeHouseLaw" 117 ⟨"TapeHouse", "rack", "(III)I"⟩ ∈ lw_g := List.mem_filter.mpr ⟨List.mem_of_getElem? (i := 760) (by decide +kernel), by decide +kernel⟩
theorem v_761 : Cond.instanceMethod ⟨"TapeHouse", "rack", "(III)I"⟩ ∈ lw_g := List.mem_filter.mpr ⟨List.mem_of_getElem? (i := 761) (by decide +kernel), by decide +kernel⟩
theorem v_762 : Cond.selects "TapeHouse" ⟨"TapeHouse", "rack", "(III)I"⟩ ⟨"TapeHouse", "rack", "(III)I"⟩ ∈ lw_g := List.mem_filter.mpr ⟨List.mem_of_getElem? (i := 762) (by decide +kernel), by decide +kernel⟩
theorem v_763 : Cond.code ⟨"TapeHouse", "rack", "(III)I"⟩ prog_1_method_26_code 4 (some FieldType.int) ∈ lw_g := List.mem_filter.mpr ⟨List.mem_of_getElem? (i := 763) (by decide +kernel), by decide +kernel⟩
theorem v_764 : Cond.methodLink "TapeHouse" 244 ⟨"TapeHouse", "isRack", "(I)Z"⟩ ∈ lw_g := List.mem_filter.mpr ⟨List.mem_of_getElem? (i := 764) (by decide +kernel), by decide +kernel⟩
theorem v_765 : Cond.static ⟨"TapeHouse", "isRack", "(I)Z"⟩ ∈ lw_g := List.mem_filter.mpr ⟨List.mem_of_getElem? (i := 765) (by decide +kernel), by decide +kernel⟩
theorem v_766 : Cond.code ⟨"TapeHouse", "isRack", "(I)Z"⟩ prog_1_method_37_code 1 (some FieldType.boolean) ∈ lw_g := List.mem_filter.mpr ⟨List.mem_of_getElem? (i := 766) (by decide +kernel), by decide +kernel⟩
theorem v_767 : Cond.constant "TapeHouse" 247 (-2000000012) ∈ lw_g := List.mem_filter.mpr ⟨List.mem_of_getElem? (i := 767) (by decide +kernel), by decide +kernel⟩
theorem w_768 : Cond.methodLinkNest "TapeHouse" 248 ⟨"TapeHouse$Rack", "makeAnew", "(II)V"⟩ "TapeHouse" ∈ lw_tbl := List.mem_of_getElem? (i := 768) (by decide +kernel)
theorem v_770 : Cond.instanceMethod ⟨"TapeHouse$Rack", "makeAnew", "(II)V"⟩ ∈ lw_g := List.mem_filter.mpr ⟨List.mem_of_getElem? (i := 770) (by decide +kernel), by decide +kernel⟩
theorem v_771 : Cond.code ⟨"TapeHouse$Rack", "makeAnew", "(II)V"⟩ prog_2_method_2_code 4 none ∈ lw_g := List.mem_filter.mpr ⟨List.mem_of_getElem? (i := 771) (by decide +kernel), by decide +kernel⟩
theorem v_772 : Cond.methodLink "TapeHouseLaw" 121 ⟨"TapeHouse", "hang", "(IIII)I"⟩ ∈ lw_g := List.mem_filter.mpr ⟨List.mem_of_getElem? (i := 772) (by decide +kernel), by decide +kernel⟩
theorem v_773 : Cond.instanceMethod ⟨"TapeHouse", "hang", "(IIII)I"⟩ ∈ lw_g := List.mem_filter.mpr ⟨List.mem_of_getElem? (i := 773) (by decide +kernel), by decide +kernel⟩
theorem v_774 : Cond.selects "TapeHouse" ⟨"TapeHouse", "hang", "(IIII)I"⟩ ⟨"TapeHouse", "hang", "(IIII)I"⟩ ∈ lw_g := List.mem_filter.mpr ⟨List.mem_of_getElem? (i := 774) (by decide +kernel), by decide +kernel⟩
theorem v_775 : Cond.code ⟨"TapeHouse", "hang", "(IIII)I"⟩ prog_1_method_27_code 6 (some FieldType.int) ∈ lw_g := List.mem_filter.mpr ⟨List.mem_of_getElem? (i := 775) (by decide +kernel), by decide +kernel⟩
theorem w_776 : Cond.methodLinkNest "TapeHouse" 252 ⟨"TapeHouse$Rack", "tryToHang", "(III)I"⟩ "TapeHouse" ∈ lw_tbl := List.mem_of_getElem? (i := 776) (by decide +kernel)
theorem v_778 : Cond.instanceMethod ⟨"TapeHouse$Rack", "tryToHang", "(III)I"⟩ ∈ lw_g := List.mem_filter.mpr ⟨List.mem_of_getElem? (i := 778) (by decide +kernel), by decide +kernel⟩
theorem v_779 : Cond.code ⟨"TapeHouse$Rack", "tryToHang", "(III)I"⟩ prog_2_method_5_code 5 (some FieldType.int) ∈ lw_g := List.mem_filter.mpr ⟨List.mem_of_getElem? (i := 779) (by decide +kernel), by decide +kernel⟩
theorem v_780 : Cond.methodLink "TapeHouse$Rack" 35 ⟨"TapeHouse$Rack", "findAt", "(I)I"⟩ ∈ lw_g := List.mem_filter.mpr ⟨List.mem_of_getElem? (i := 780) (by decide +kernel), by decide +kernel⟩
theorem v_782 : Cond.instanceMethod ⟨"TapeHouse$Rack", "findAt", "(I)I"⟩ ∈ lw_g := List.mem_filter.mpr ⟨List.mem_of_getElem? (i := 782) (by decide +kernel), by decide +kernel⟩
theorem v_783 : Cond.code ⟨"TapeHouse$Rack", "findAt", "(I)I"⟩ prog_2_method_4_code 2 (some FieldType.int) ∈ lw_g := List.mem_filter.mpr ⟨List.mem_of_getElem? (i := 783) (by decide +kernel), by decide +kernel⟩
theorem v_784 : Cond.constant "TapeHouse$Rack" 29 (-2000000011) ∈ lw_g := List.mem_filter.mpr ⟨List.mem_of_getElem? (i := 784) (by decide +kernel), by decide +kernel⟩
theorem w_785 : Cond.methodLinkNest "TapeHouse$Rack" 30 ⟨"TapeHouse", "isWithin", "(III)Z"⟩ "TapeHouse" ∈ lw_tbl := List.mem_of_getElem? (i := 785) (by decide +kernel)
theorem v_786 : Cond.constant "TapeHouse$Rack" 34 (-2000000013) ∈ lw_g := List.mem_filter.mpr ⟨List.mem_of_getElem? (i := 786) (by decide +kernel), by decide +kernel⟩
theorem v_787 : Cond.constant "TapeHouse$Rack" 39 (-2000000014) ∈ lw_g := List.mem_filter.mpr ⟨List.mem_of_getElem? (i := 787) (by decide +kernel), by decide +kernel⟩
theorem v_788 : Cond.methodLink "TapeHouseLaw" 125 ⟨"TapeHouse", "take", "(II)I"⟩ ∈ lw_g := List.mem_filter.mpr ⟨List.mem_of_getElem? (i := 788) (by decide +kernel), by decide +kernel⟩
theorem v_789 : Cond.instanceMethod ⟨"TapeHouse", "take", "(II)I"⟩ ∈ lw_g := List.mem_filter.mpr ⟨List.mem_of_getElem? (i := 789) (by decide +kernel), by decide +kernel⟩
theorem v_790 : Cond.selects "TapeHouse" ⟨"TapeHouse", "take", "(II)I"⟩ ⟨"TapeHouse", "take", "(II)I"⟩ ∈ lw_g := List.mem_filter.mpr ⟨List.mem_of_getElem? (i := 790) (by decide +kernel), by decide +kernel⟩
theorem v_791 : Cond.code ⟨"TapeHouse", "take", "(II)I"⟩ prog_1_method_28_code 3 (some FieldType.int) ∈ lw_g := List.mem_filter.mpr ⟨List.mem_of_getElem? (i := 791) (by decide +kernel), by decide +kernel⟩
theorem w_792 : Cond.methodLinkNest "TapeHouse" 255 ⟨"TapeHouse$Rack", "takeFrom", "(I)I"⟩ "TapeHouse" ∈ lw_tbl := List.mem_of_getElem? (i := 792) (by decide +kernel)
theorem v_794 : Cond.instanceMethod ⟨"TapeHouse$Rack", "takeFrom", "(I)I"⟩ ∈ lw_g := List.mem_filter.mpr ⟨List.mem_of_getElem? (i := 794) (by decide +kernel), by decide +kernel⟩
theorem v_795 : Cond.code ⟨"TapeHouse$Rack", "takeFrom", "(I)I"⟩ prog_2_method_6_code 4 (some FieldType.int) ∈ lw_g := List.mem_filter.mpr ⟨List.mem_of_getElem? (i := 795) (by decide +kernel), by decide +kernel⟩
theorem v_796 : Cond.constant "TapeHouse$Rack" 40 (-2000000015) ∈ lw_g := List.mem_filter.mpr ⟨List.mem_of_getElem? (i := 796) (by decide +kernel), by decide +kernel⟩
theorem v_797 : Cond.methodLink "TapeHouseLaw" 129 ⟨"TapeHouse", "likeness", "(II)I"⟩ ∈ lw_g := List.mem_filter.mpr ⟨List.mem_of_getElem? (i := 797) (by decide +kernel), by decide +kernel⟩
theorem v_798 : Cond.instanceMethod ⟨"TapeHouse", "likeness", "(II)I"⟩ ∈ lw_g := List.mem_filter.mpr ⟨List.mem_of_getElem? (i := 798) (by decide +kernel), by decide +kernel⟩
theorem v_799 : Cond.selects "TapeHouse" ⟨"TapeHouse", "likeness", "(II)I"⟩ ⟨"TapeHouse", "likeness", "(II)I"⟩ ∈ lw_g := List.mem_filter.mpr ⟨List.mem_of_getElem? (i := 799) (by decide +kernel), by decide +kernel⟩
theorem v_800 : Cond.code ⟨"TapeHouse", "likeness", "(II)I"⟩ prog_1_method_29_code 3 (some FieldType.int) ∈ lw_g := List.mem_filter.mpr ⟨List.mem_of_getElem? (i := 800) (by decide +kernel), by decide +kernel⟩
theorem v_801 : Cond.constant "TapeHouse" 261 (-2000000011) ∈ lw_g := List.mem_filter.mpr ⟨List.mem_of_getElem? (i := 801) (by decide +kernel), by decide +kernel⟩
theorem w_802 : Cond.methodLinkNest "TapeHouse" 262 ⟨"TapeHouse$Rack", "becomeLike", "(LTapeHouse$Rack;)V"⟩ "TapeHouse" ∈ lw_tbl := List.mem_of_getElem? (i := 802) (by decide +kernel)
theorem v_804 : Cond.instanceMethod ⟨"TapeHouse$Rack", "becomeLike", "(LTapeHouse$Rack;)V"⟩ ∈ lw_g := List.mem_filter.mpr ⟨List.mem_of_getElem? (i := 804) (by decide +kernel), by decide +kernel⟩
theorem v_805 : Cond.code ⟨"TapeHouse$Rack", "becomeLike", "(LTapeHouse$Rack;)V"⟩ prog_2_method_7_code 3 none ∈ lw_g := List.mem_filter.mpr ⟨List.mem_of_getElem? (i := 805) (by decide +kernel), by decide +kernel⟩
theorem w_806 : Cond.methodLinkNest "TapeHouse" 266 ⟨"TapeHouse$Rack", "things", "()I"⟩ "TapeHouse" ∈ lw_tbl := List.mem_of_getElem? (i := 806) (by decide +kernel)
theorem v_808 : Cond.instanceMethod ⟨"TapeHouse$Rack", "things", "()I"⟩ ∈ lw_g := List.mem_filter.mpr ⟨List.mem_of_getElem? (i := 808) (by decide +kernel), by decide +kernel⟩
theorem v_809 : Cond.code ⟨"TapeHouse$Rack", "things", "()I"⟩ prog_2_method_3_code 3 (some FieldType.int) ∈ lw_g := List.mem_filter.mpr ⟨List.mem_of_getElem? (i := 809) (by decide +kernel), by decide +kernel⟩
theorem v_810 : Cond.methodLink "TapeHouseLaw" 133 ⟨"TapeHouse", "pass", "(II)I"⟩ ∈ lw_g := List.mem_filter.mpr ⟨List.mem_of_getElem? (i := 810) (by decide +kernel), by decide +kernel⟩
theorem v_811 : Cond.instanceMethod ⟨"TapeHouse", "pass", "(II)I"⟩ ∈ lw_g := List.mem_filter.mpr ⟨List.mem_of_getElem? (i := 811) (by decide +kernel), by decide +kernel⟩
theorem v_812 : Cond.selects "TapeHouse" ⟨"TapeHouse", "pass", "(II)I"⟩ ⟨"TapeHouse", "pass", "(II)I"⟩ ∈ lw_g := List.mem_filter.mpr ⟨List.mem_of_getElem? (i := 812) (by decide +kernel), by decide +kernel⟩
theorem v_813 : Cond.code ⟨"TapeHouse", "pass", "(II)I"⟩ prog_1_method_30_code 3 (some FieldType.int) ∈ lw_g := List.mem_filter.mpr ⟨List.mem_of_getElem? (i := 813) (by decide +kernel), by decide +kernel⟩
theorem w_814 : Cond.methodLinkNest "TapeHouse" 269 ⟨"TapeHouse$Rack", "hangAllOn", "(LTapeHouse$Rack;)I"⟩ "TapeHouse" ∈ lw_tbl := List.mem_of_getElem? (i := 814) (by decide +kernel)
theorem v_816 : Cond.instanceMethod ⟨"TapeHouse$Rack", "hangAllOn", "(LTapeHouse$Rack;)I"⟩ ∈ lw_g := List.mem_filter.mpr ⟨List.mem_of_getElem? (i := 816) (by decide +kernel), by decide +kernel⟩
theorem v_817 : Cond.code ⟨"TapeHouse$Rack", "hangAllOn", "(LTapeHouse$Rack;)I"⟩ prog_2_method_8_code 4 (some FieldType.int) ∈ lw_g := List.mem_filter.mpr ⟨List.mem_of_getElem? (i := 817) (by decide +kernel), by decide +kernel⟩
theorem v_818 : Cond.methodLink "TapeHouse$Rack" 41 ⟨"TapeHouse$Rack", "tryToHang", "(III)I"⟩ ∈ lw_g := List.mem_filter.mpr ⟨List.mem_of_getElem? (i := 818) (by decide +kernel), by decide +kernel⟩
theorem v_819 : Cond.methodLink "TapeHouseLaw" 137 ⟨"TapeHouse", "drop", "(I)I"⟩ ∈ lw_g := List.mem_filter.mpr ⟨List.mem_of_getElem? (i := 819) (by decide +kernel), by decide +kernel⟩
theorem v_820 : Cond.instanceMethod ⟨"TapeHouse", "drop", "(I)I"⟩ ∈ lw_g := List.mem_filter.mpr ⟨List.mem_of_getElem? (i := 820) (by decide +kernel), by decide +kernel⟩
theorem v_821 : Cond.selects "TapeHouse" ⟨"TapeHouse", "drop", "(I)I"⟩ ⟨"TapeHouse", "drop", "(I)I"⟩ ∈ lw_g := List.mem_filter.mpr ⟨List.mem_of_getElem? (i := 821) (by decide +kernel), by decide +kernel⟩
theorem v_822 : Cond.code ⟨"TapeHouse", "drop", "(I)I"⟩ prog_1_method_31_code 3 (some FieldType.int) ∈ lw_g := List.mem_filter.mpr ⟨List.mem_of_getElem? (i := 822) (by decide +kernel), by decide +kernel⟩
theorem v_823 : Cond.methodLink "TapeHouseLaw" 141 ⟨"TapeHouse", "count", "(I)I"⟩ ∈ lw_g := List.mem_filter.mpr ⟨List.mem_of_getElem? (i := 823) (by decide +kernel), by decide +kernel⟩
theorem v_824 : Cond.instanceMethod ⟨"TapeHouse", "count", "(I)I"⟩ ∈ lw_g := List.mem_filter.mpr ⟨List.mem_of_getElem? (i := 824) (by decide +kernel), by decide +kernel⟩
theorem v_825 : Cond.selects "TapeHouse" ⟨"TapeHouse", "count", "(I)I"⟩ ⟨"TapeHouse", "count", "(I)I"⟩ ∈ lw_g := List.mem_filter.mpr ⟨List.mem_of_getElem? (i := 825) (by decide +kernel), by decide +kernel⟩
theorem v_826 : Cond.code ⟨"TapeHouse", "count", "(I)I"⟩ prog_1_method_32_code 2 (some FieldType.int) ∈ lw_g := List.mem_filter.mpr ⟨List.mem_of_getElem? (i := 826) (by decide +kernel), by decide +kernel⟩
theorem w_827 : Cond.methodLinkNest "TapeHouse" 273 ⟨"TapeHouse$Tape", "gaps", "()I"⟩ "TapeHouse" ∈ lw_tbl := List.mem_of_getElem? (i := 827) (by decide +kernel)
theorem v_829 : Cond.instanceMethod ⟨"TapeHouse$Tape", "gaps", "()I"⟩ ∈ lw_g := List.mem_filter.mpr ⟨List.mem_of_getElem? (i := 829) (by decide +kernel), by decide +kernel⟩
theorem v_830 : Cond.code ⟨"TapeHouse$Tape", "gaps", "()I"⟩ prog_6_method_9_code 4 (some FieldType.int) ∈ lw_g := List.mem_filter.mpr ⟨List.mem_of_getElem? (i := 830) (by decide +kernel), by decide +kernel⟩
theorem v_831 : Cond.methodLink "TapeHouse" 276 ⟨"TapeHouse", "shutBits", "()I"⟩ ∈ lw_g := List.mem_filter.mpr ⟨List.mem_of_getElem? (i := 831) (by decide +kernel), by decide +kernel⟩
theorem v_833 : Cond.instanceMethod ⟨"TapeHouse", "shutBits", "()I"⟩ ∈ lw_g := List.mem_filter.mpr ⟨List.mem_of_getElem? (i := 833) (by decide +kernel), by decide +kernel⟩
theorem v_834 : Cond.code ⟨"TapeHouse", "shutBits", "()I"⟩ prog_1_method_47_code 3 (some FieldType.int) ∈ lw_g := List.mem_filter.mpr ⟨List.mem_of_getElem? (i := 834) (by decide +kernel), by decide +kernel⟩
theorem v_835 : Cond.methodLink "TapeHouse" 279 ⟨"TapeHouse", "loudest", "()I"⟩ ∈ lw_g := List.mem_filter.mpr ⟨List.mem_of_getElem? (i := 835) (by decide +kernel), by decide +kernel⟩
theorem v_837 : Cond.instanceMethod ⟨"TapeHouse", "loudest", "()I"⟩ ∈ lw_g := List.mem_filter.mpr ⟨List.mem_of_getElem? (i := 837) (by decide +kernel), by decide +kernel⟩
theorem v_838 : Cond.code ⟨"TapeHouse", "loudest", "()I"⟩ prog_1_method_48_code 6 (some FieldType.int) ∈ lw_g := List.mem_filter.mpr ⟨List.mem_of_getElem? (i := 838) (by decide +kernel), by decide +kernel⟩
theorem v_839 : Cond.methodLink "TapeHouse" 282 ⟨"TapeHouse", "silentMoments", "()I"⟩ ∈ lw_g := List.mem_filter.mpr ⟨List.mem_of_getElem? (i := 839) (by decide +kernel), by decide +kernel⟩
theorem v_841 : Cond.instanceMethod ⟨"TapeHouse", "silentMoments", "()I"⟩ ∈ lw_g := List.mem_filter.mpr ⟨List.mem_of_getElem? (i := 841) (by decide +kernel), by decide +kernel⟩
theorem v_842 : Cond.code ⟨"TapeHouse", "silentMoments", "()I"⟩ prog_1_method_49_code 3 (some FieldType.int) ∈ lw_g := List.mem_filter.mpr ⟨List.mem_of_getElem? (i := 842) (by decide +kernel), by decide +kernel⟩
theorem v_843 : Cond.methodLink "TapeHouse" 285 ⟨"TapeHouse", "thingsOnRacks", "()I"⟩ ∈ lw_g := List.mem_filter.mpr ⟨List.mem_of_getElem? (i := 843) (by decide +kernel), by decide +kernel⟩
theorem v_845 : Cond.instanceMethod ⟨"TapeHouse", "thingsOnRacks", "()I"⟩ ∈ lw_g := List.mem_filter.mpr ⟨List.mem_of_getElem? (i := 845) (by decide +kernel), by decide +kernel⟩
theorem v_846 : Cond.code ⟨"TapeHouse", "thingsOnRacks", "()I"⟩ prog_1_method_50_code 3 (some FieldType.int) ∈ lw_g := List.mem_filter.mpr ⟨List.mem_of_getElem? (i := 846) (by decide +kernel), by decide +kernel⟩
theorem v_847 : Cond.classLink "TapeHouseLaw" 10 "TapeHouseModel" ∈ lw_g := List.mem_filter.mpr ⟨List.mem_of_getElem? (i := 847) (by decide +kernel), by decide +kernel⟩
theorem v_848 : Cond.instantiable "TapeHouseModel" 24 ∈ lw_g := List.mem_filter.mpr ⟨List.mem_of_getElem? (i := 848) (by decide +kernel), by decide +kernel⟩
theorem v_849 : Cond.methodLink "TapeHouseLaw" 12 ⟨"TapeHouseModel", "<init>", "()V"⟩ ∈ lw_g := List.mem_filter.mpr ⟨List.mem_of_getElem? (i := 849) (by decide +kernel), by decide +kernel⟩
theorem v_850 : Cond.instanceMethod ⟨"TapeHouseModel", "<init>", "()V"⟩ ∈ lw_g := List.mem_filter.mpr ⟨List.mem_of_getElem? (i := 850) (by decide +kernel), by decide +kernel⟩
theorem v_851 : Cond.code ⟨"TapeHouseModel", "<init>", "()V"⟩ prog_10_method_1_code 2 none ∈ lw_g := List.mem_filter.mpr ⟨List.mem_of_getElem? (i := 851) (by decide +kernel), by decide +kernel⟩
theorem v_852 : Cond.methodLink "TapeHouseModel" 1 ⟨"java/lang/Object", "<init>", "()V"⟩ ∈ lw_g := List.mem_filter.mpr ⟨List.mem_of_getElem? (i := 852) (by decide +kernel), by decide +kernel⟩
theorem v_853 : Cond.fieldLink "TapeHouseModel" 7 "TapeHouseModel" "floats" "[F" ∈ lw_g := List.mem_filter.mpr ⟨List.mem_of_getElem? (i := 853) (by decide +kernel), by decide +kernel⟩
theorem v_854 : Cond.fieldLink "TapeHouseModel" 13 "TapeHouseModel" "sizes" "[I" ∈ lw_g := List.mem_filter.mpr ⟨List.mem_of_getElem? (i := 854) (by decide +kernel), by decide +kernel⟩
theorem v_855 : Cond.fieldLink "TapeHouseModel" 159 "TapeHouseModel" "sounds" "I" ∈ lw_g := List.mem_filter.mpr ⟨List.mem_of_getElem? (i := 855) (by decide +kernel), by decide +kernel⟩
theorem v_856 : Cond.fieldLink "TapeHouseModel" 17 "TapeHouseModel" "now" "[I" ∈ lw_g := List.mem_filter.mpr ⟨List.mem_of_getElem? (i := 856) (by decide +kernel), by decide +kernel⟩
theorem v_857 : Cond.fieldLink "TapeHouseModel" 20 "TapeHouseModel" "shut" "[I" ∈ lw_g := List.mem_filter.mpr ⟨List.mem_of_getElem? (i := 857) (by decide +kernel), by decide +kernel⟩
theorem v_858 : Cond.fieldLink "TapeHouseModel" 23 "TapeHouseModel" "past" "[I" ∈ lw_g := List.mem_filter.mpr ⟨List.mem_of_getElem? (i := 858) (by decide +kernel), by decide +kernel⟩
theorem v_859 : Cond.fieldLink "TapeHouseModel" 26 "TapeHouseModel" "deeds" "[I" ∈ lw_g := List.mem_filter.mpr ⟨List.mem_of_getElem? (i := 859) (by decide +kernel), by decide +kernel⟩
theorem v_860 : Cond.fieldLink "TapeHouseModel" 29 "TapeHouseModel" "images" "[I" ∈ lw_g := List.mem_filter.mpr ⟨List.mem_of_getElem? (i := 860) (by decide +kernel), by decide +kernel⟩
theorem v_861 : Cond.fieldLink "TapeHouseModel" 32 "TapeHouseModel" "imageShut" "[I" ∈ lw_g := List.mem_filter.mpr ⟨List.mem_of_getElem? (i := 861) (by decide +kernel), by decide +kernel⟩
theorem v_862 : Cond.fieldLink "TapeHouseModel" 35 "TapeHouseModel" "kept" "[Z" ∈ lw_g := List.mem_filter.mpr ⟨List.mem_of_getElem? (i := 862) (by decide +kernel), by decide +kernel⟩
theorem v_863 : Cond.fieldLink "TapeHouseModel" 39 "TapeHouseModel" "owner" "[I" ∈ lw_g := List.mem_filter.mpr ⟨List.mem_of_getElem? (i := 863) (by decide +kernel), by decide +kernel⟩
theorem v_864 : Cond.fieldLink "TapeHouseModel" 42 "TapeHouseModel" "old" "[I" ∈ lw_g := List.mem_filter.mpr ⟨List.mem_of_getElem? (i := 864) (by decide +kernel), by decide +kernel⟩
theorem v_865 : Cond.fieldLink "TapeHouseModel" 45 "TapeHouseModel" "letters" "[I" ∈ lw_g := List.mem_filter.mpr ⟨List.mem_of_getElem? (i := 865) (by decide +kernel), by decide +kernel⟩
theorem v_866 : Cond.fieldLink "TapeHouseModel" 94 "TapeHouseModel" "written" "I" ∈ lw_g := List.mem_filter.mpr ⟨List.mem_of_getElem? (i := 866) (by decide +kernel), by decide +kernel⟩
theorem v_867 : Cond.fieldLink "TapeHouseModel" 98 "TapeHouseModel" "at" "I" ∈ lw_g := List.mem_filter.mpr ⟨List.mem_of_getElem? (i := 867) (by decide +kernel), by decide +kernel⟩
theorem v_868 : Cond.fieldLink "TapeHouseModel" 104 "TapeHouseModel" "start" "I" ∈ lw_g := List.mem_filter.mpr ⟨List.mem_of_getElem? (i := 868) (by decide +kernel), by decide +kernel⟩
theorem v_869 : Cond.fieldLink "TapeHouseModel" 114 "TapeHouseModel" "kind" "I" ∈ lw_g := List.mem_filter.mpr ⟨List.mem_of_getElem? (i := 869) (by decide +kernel), by decide +kernel⟩
theorem v_870 : Cond.fieldLink "TapeHouseModel" 107 "TapeHouseModel" "value" "I" ∈ lw_g := List.mem_filter.mpr ⟨List.mem_of_getElem? (i := 870) (by decide +kernel), by decide +kernel⟩
theorem v_871 : Cond.fieldLink "TapeHouseModel" 121 "TapeHouseModel" "place" "I" ∈ lw_g := List.mem_filter.mpr ⟨List.mem_of_getElem? (i := 871) (by decide +kernel), by decide +kernel⟩
theorem v_872 : Cond.fieldLink "TapeHouseModel" 48 "TapeHouseModel" "toldSizes" "[I" ∈ lw_g := List.mem_filter.mpr ⟨List.mem_of_getElem? (i := 872) (by decide +kernel), by decide +kernel⟩
theorem v_873 : Cond.fieldLink "TapeHouseModel" 130 "TapeHouseModel" "toldSounds" "I" ∈ lw_g := List.mem_filter.mpr ⟨List.mem_of_getElem? (i := 873) (by decide +kernel), by decide +kernel⟩
theorem v_874 : Cond.fieldLink "TapeHouseModel" 51 "TapeHouseModel" "sort" "[I" ∈ lw_g := List.mem_filter.mpr ⟨List.mem_of_getElem? (i := 874) (by decide +kernel), by decide +kernel⟩
theorem v_875 : Cond.fieldLink "TapeHouseModel" 54 "TapeHouseModel" "room" "[I" ∈ lw_g := List.mem_filter.mpr ⟨List.mem_of_getElem? (i := 875) (by decide +kernel), by decide +kernel⟩
theorem v_876 : Cond.fieldLink "TapeHouseModel" 57 "TapeHouseModel" "things" "[I" ∈ lw_g := List.mem_filter.mpr ⟨List.mem_of_getElem? (i := 876) (by decide +kernel), by decide +kernel⟩
theorem v_926 : Cond.methodLink "TapeHouseLaw" 17 ⟨"TapeHouseModel", "write", "(I)I"⟩ ∈ lw_g := List.mem_filter.mpr ⟨List.mem_of_getElem? (i := 926) (by decide +kernel), by decide +kernel⟩
theorem v_927 : Cond.instanceMethod ⟨"TapeHouseModel", "write", "(I)I"⟩ ∈ lw_g := List.mem_filter.mpr ⟨List.mem_of_getElem? (i := 927) (by decide +kernel), by decide +kernel⟩
theorem v_928 : Cond.selects "TapeHouseModel" ⟨"TapeHouseModel", "write", "(I)I"⟩ ⟨"TapeHouseModel", "write", "(I)I"⟩ ∈ lw_g := List.mem_filter.mpr ⟨List.mem_of_getElem? (i := 928) (by decide +kernel), by decide +kernel⟩
theorem v_929 : Cond.code ⟨"TapeHouseModel", "write", "(I)I"⟩ prog_10_method_31_code 2 (some FieldType.int) ∈ lw_g := List.mem_filter.mpr ⟨List.mem_of_getElem? (i := 929) (by decide +kernel), by decide +kernel⟩
theorem v_930 : Cond.constantLong "TapeHouseModel" 188 255 ∈ lw_g := List.mem_filter.mpr ⟨List.mem_of_getElem? (i := 930) (by decide +kernel), by decide +kernel⟩
theorem v_931 : Cond.methodLink "TapeHouseModel" 62 ⟨"TapeHouseModel", "in", "(JJJ)Z"⟩ ∈ lw_g := List.mem_filter.mpr ⟨List.mem_of_getElem? (i := 931) (by decide +kernel), by decide +kernel⟩
theorem v_932 : Cond.static ⟨"TapeHouseModel", "in", "(JJJ)Z"⟩ ∈ lw_g := List.mem_filter.mpr ⟨List.mem_of_getElem? (i := 932) (by decide +kernel), by decide +kernel⟩
theorem v_933 : Cond.code ⟨"TapeHouseModel", "in", "(JJJ)Z"⟩ prog_10_method_3_code 6 (some FieldType.boolean) ∈ lw_g := List.mem_filter.mpr ⟨List.mem_of_getElem? (i := 933) (by decide +kernel), by decide +kernel⟩
theorem v_934 : Cond.constant "TapeHouseModel" 190 (-2000000002) ∈ lw_g := List.mem_filter.mpr ⟨List.mem_of_getElem? (i := 934) (by decide +kernel), by decide +kernel⟩
theorem v_935 : Cond.constant "TapeHouseModel" 191 (-2000000004) ∈ lw_g := List.mem_filter.mpr ⟨List.mem_of_getElem? (i := 935) (by decide +kernel), by decide +kernel⟩
theorem v_936 : Cond.methodLink "TapeHouseLaw" 22 ⟨"TapeHouseModel", "erase", "()I"⟩ ∈ lw_g := List.mem_filter.mpr ⟨List.mem_of_getElem? (i := 936) (by decide +kernel), by decide +kernel⟩
theorem v_937 : Cond.instanceMethod ⟨"TapeHouseModel", "erase", "()I"⟩ ∈ lw_g := List.mem_filter.mpr ⟨List.mem_of_getElem? (i := 937) (by decide +kernel), by decide +kernel⟩
theorem v_938 : Cond.selects "TapeHouseModel" ⟨"TapeHouseModel", "erase", "()I"⟩ ⟨"TapeHouseModel", "erase", "()I"⟩ ∈ lw_g := List.mem_filter.mpr ⟨List.mem_of_getElem? (i := 938) (by decide +kernel), by decide +kernel⟩
theorem v_939 : Cond.code ⟨"TapeHouseModel", "erase", "()I"⟩ prog_10_method_32_code 2 (some FieldType.int) ∈ lw_g := List.mem_filter.mpr ⟨List.mem_of_getElem? (i := 939) (by decide +kernel), by decide +kernel⟩
theorem v_940 : Cond.methodLink "TapeHouseLaw" 26 ⟨"TapeHouseModel", "fault", "()I"⟩ ∈ lw_g := List.mem_filter.mpr ⟨List.mem_of_getElem? (i := 940) (by decide +kernel), by decide +kernel⟩
theorem v_941 : Cond.instanceMethod ⟨"TapeHouseModel", "fault", "()I"⟩ ∈ lw_g := List.mem_filter.mpr ⟨List.mem_of_getElem? (i := 941) (by decide +kernel), by decide +kernel⟩
theorem v_942 : Cond.selects "TapeHouseModel" ⟨"TapeHouseModel", "fault", "()I"⟩ ⟨"TapeHouseModel", "fault", "()I"⟩ ∈ lw_g := List.mem_filter.mpr ⟨List.mem_of_getElem? (i := 942) (by decide +kernel), by decide +kernel⟩
theorem v_943 : Cond.code ⟨"TapeHouseModel", "fault", "()I"⟩ prog_10_method_33_code 1 (some FieldType.int) ∈ lw_g := List.mem_filter.mpr ⟨List.mem_of_getElem? (i := 943) (by decide +kernel), by decide +kernel⟩
theorem v_944 : Cond.methodLink "TapeHouseModel" 192 ⟨"TapeHouseModel", "reads", "(Z)I"⟩ ∈ lw_g := List.mem_filter.mpr ⟨List.mem_of_getElem? (i := 944) (by decide +kernel), by decide +kernel⟩
theorem v_946 : Cond.instanceMethod ⟨"TapeHouseModel", "reads", "(Z)I"⟩ ∈ lw_g := List.mem_filter.mpr ⟨List.mem_of_getElem? (i := 946) (by decide +kernel), by decide +kernel⟩
theorem v_947 : Cond.code ⟨"TapeHouseModel", "reads", "(Z)I"⟩ prog_10_method_30_code 4 (some FieldType.int) ∈ lw_g := List.mem_filter.mpr ⟨List.mem_of_getElem? (i := 947) (by decide +kernel), by decide +kernel⟩
theorem v_948 : Cond.methodLink "TapeHouseModel" 127 ⟨"TapeHouseModel", "next", "()V"⟩ ∈ lw_g := List.mem_filter.mpr ⟨List.mem_of_getElem? (i := 948) (by decide +kernel), by decide +kernel⟩
theorem v_950 : Cond.instanceMethod ⟨"TapeHouseModel", "next", "()V"⟩ ∈ lw_g := List.mem_filter.mpr ⟨List.mem_of_getElem? (i := 950) (by decide +kernel), by decide +kernel⟩
theorem v_951 : Cond.code ⟨"TapeHouseModel", "next", "()V"⟩ prog_10_method_19_code 2 none ∈ lw_g := List.mem_filter.mpr ⟨List.mem_of_getElem? (i := 951) (by decide +kernel), by decide +kernel⟩
theorem v_952 : Cond.methodLink "TapeHouseModel" 101 ⟨"TapeHouseModel", "byteAt", "(I)I"⟩ ∈ lw_g := List.mem_filter.mpr ⟨List.mem_of_getElem? (i := 952) (by decide +kernel), by decide +kernel⟩
theorem v_954 : Cond.instanceMethod ⟨"TapeHouseModel", "byteAt", "(I)I"⟩ ∈ lw_g := List.mem_filter.mpr ⟨List.mem_of_getElem? (i := 954) (by decide +kernel), by decide +kernel⟩
theorem v_955 : Cond.code ⟨"TapeHouseModel", "byteAt", "(I)I"⟩ prog_10_method_18_code 2 (some FieldType.int) ∈ lw_g := List.mem_filter.mpr ⟨List.mem_of_getElem? (i := 955) (by decide +kernel), by decide +kernel⟩
theorem v_956 : Cond.constantLong "TapeHouseModel" 110 97 ∈ lw_g := List.mem_filter.mpr ⟨List.mem_of_getElem? (i := 956) (by decide +kernel), by decide +kernel⟩
theorem v_957 : Cond.constantLong "TapeHouseModel" 112 122 ∈ lw_g := List.mem_filter.mpr ⟨List.mem_of_getElem? (i := 957) (by decide +kernel), by decide +kernel⟩
theorem v_958 : Cond.constantLong "TapeHouseModel" 117 48 ∈ lw_g := List.mem_filter.mpr ⟨List.mem_of_getElem? (i := 958) (by decide +kernel), by decide +kernel⟩
theorem v_959 : Cond.constantLong "TapeHouseModel" 119 57 ∈ lw_g := List.mem_filter.mpr ⟨List.mem_of_getElem? (i := 959) (by decide +kernel), by decide +kernel⟩
theorem v_960 : Cond.methodLink "TapeHouseModel" 185 ⟨"TapeHouseModel", "clause", "(Z)V"⟩ ∈ lw_g := List.mem_filter.mpr ⟨List.mem_of_getElem? (i := 960) (by decide +kernel), by decide +kernel⟩
theorem v_962 : Cond.instanceMethod ⟨"TapeHouseModel", "clause", "(Z)V"⟩ ∈ lw_g := List.mem_filter.mpr ⟨List.mem_of_getElem? (i := 962) (by decide +kernel), by decide +kernel⟩
theorem v_963 : Cond.code ⟨"TapeHouseModel", "clause", "(Z)V"⟩ prog_10_method_29_code 2 none ∈ lw_g := List.mem_filter.mpr ⟨List.mem_of_getElem? (i := 963) (by decide +kernel), by decide +kernel⟩
theorem v_964 : Cond.methodLink "TapeHouseModel" 161 ⟨"TapeHouseModel", "isWord", "(IIIII)Z"⟩ ∈ lw_g := List.mem_filter.mpr ⟨List.mem_of_getElem? (i := 964) (by decide +kernel), by decide +kernel⟩
theorem v_966 : Cond.instanceMethod ⟨"TapeHouseModel", "isWord", "(IIIII)Z"⟩ ∈ lw_g := List.mem_filter.mpr ⟨List.mem_of_getElem? (i := 966) (by decide +kernel), by decide +kernel⟩
theorem v_967 : Cond.code ⟨"TapeHouseModel", "isWord", "(IIIII)Z"⟩ prog_10_method_28_code 7 (some FieldType.boolean) ∈ lw_g := List.mem_filter.mpr ⟨List.mem_of_getElem? (i := 967) (by decide +kernel), by decide +kernel⟩
theorem v_968 : Cond.methodLink "TapeHouseModel" 165 ⟨"TapeHouseModel", "toldHouse", "(Z)V"⟩ ∈ lw_g := List.mem_filter.mpr ⟨List.mem_of_getElem? (i := 968) (by decide +kernel), by decide +kernel⟩
theorem v_970 : Cond.instanceMethod ⟨"TapeHouseModel", "toldHouse", "(Z)V"⟩ ∈ lw_g := List.mem_filter.mpr ⟨List.mem_of_getElem? (i := 970) (by decide +kernel), by decide +kernel⟩
theorem v_971 : Cond.code ⟨"TapeHouseModel", "toldHouse", "(Z)V"⟩ prog_10_method_27_code 3 none ∈ lw_g := List.mem_filter.mpr ⟨List.mem_of_getElem? (i := 971) (by decide +kernel), by decide +kernel⟩
theorem v_972 : Cond.methodLink "TapeHouseModel" 169 ⟨"TapeHouseModel", "toldTone", "(Z)V"⟩ ∈ lw_g := List.mem_filter.mpr ⟨List.mem_of_getElem? (i := 972) (by decide +kernel), by decide +kernel⟩
theorem v_974 : Cond.instanceMethod ⟨"TapeHouseModel", "toldTone", "(Z)V"⟩ ∈ lw_g := List.mem_filter.mpr ⟨List.mem_of_getElem? (i := 974) (by decide +kernel), by decide +kernel⟩
theorem v_975 : Cond.code ⟨"TapeHouseModel", "toldTone", "(Z)V"⟩ prog_10_method_22_code 5 none ∈ lw_g := List.mem_filter.mpr ⟨List.mem_of_getElem? (i := 975) (by decide +kernel), by decide +kernel⟩
theorem v_976 : Cond.methodLink "TapeHouseModel" 124 ⟨"TapeHouseModel", "faults", "()V"⟩ ∈ lw_g := List.mem_filter.mpr ⟨List.mem_of_getElem? (i := 976) (by decide +kernel), by decide +kernel⟩
theorem v_978 : Cond.instanceMethod ⟨"TapeHouseModel", "faults", "()V"⟩ ∈ lw_g := List.mem_filter.mpr ⟨List.mem_of_getElem? (i := 978) (by decide +kernel), by decide +kernel⟩
theorem v_979 : Cond.code ⟨"TapeHouseModel", "faults", "()V"⟩ prog_10_method_20_code 1 none ∈ lw_g := List.mem_filter.mpr ⟨List.mem_of_getElem? (i := 979) (by decide +kernel), by decide +kernel⟩
theorem v_980 : Cond.methodLink "TapeHouseModel" 133 ⟨"TapeHouseModel", "number", "(II)I"⟩ ∈ lw_g := List.mem_filter.mpr ⟨List.mem_of_getElem? (i := 980) (by decide +kernel), by decide +kernel⟩
theorem v_982 : Cond.instanceMethod ⟨"TapeHouseModel", "number", "(II)I"⟩ ∈ lw_g := List.mem_filter.mpr ⟨List.mem_of_getElem? (i := 982) (by decide +kernel), by decide +kernel⟩
theorem v_983 : Cond.code ⟨"TapeHouseModel", "number", "(II)I"⟩ prog_10_method_21_code 4 (some FieldType.int) ∈ lw_g := List.mem_filter.mpr ⟨List.mem_of_getElem? (i := 983) (by decide +kernel), by decide +kernel⟩
theorem v_984 : Cond.methodLink "TapeHouseModel" 136 ⟨"TapeHouseModel", "sounds", "(III)V"⟩ ∈ lw_g := List.mem_filter.mpr ⟨List.mem_of_getElem? (i := 984) (by decide +kernel), by decide +kernel⟩
theorem v_986 : Cond.instanceMethod ⟨"TapeHouseModel", "sounds", "(III)V"⟩ ∈ lw_g := List.mem_filter.mpr ⟨List.mem_of_getElem? (i := 986) (by decide +kernel), by decide +kernel⟩
theorem v_987 : Cond.code ⟨"TapeHouseModel", "sounds", "(III)V"⟩ prog_10_method_35_code 5 none ∈ lw_g := List.mem_filter.mpr ⟨List.mem_of_getElem? (i := 987) (by decide +kernel), by decide +kernel⟩
theorem v_988 : Cond.methodLink "TapeHouseModel" 172 ⟨"TapeHouseModel", "toldPut", "(Z)V"⟩ ∈ lw_g := List.mem_filter.mpr ⟨List.mem_of_getElem? (i := 988) (by decide +kernel), by decide +kernel⟩
theorem v_990 : Cond.instanceMethod ⟨"TapeHouseModel", "toldPut", "(Z)V"⟩ ∈ lw_g := List.mem_filter.mpr ⟨List.mem_of_getElem? (i := 990) (by decide +kernel), by decide +kernel⟩
theorem v_991 : Cond.code ⟨"TapeHouseModel", "toldPut", "(Z)V"⟩ prog_10_method_23_code 7 none ∈ lw_g := List.mem_filter.mpr ⟨List.mem_of_getElem? (i := 991) (by decide +kernel), by decide +kernel⟩
theorem v_992 : Cond.methodLink "TapeHouseModel" 139 ⟨"TapeHouseModel", "tells", "(I)V"⟩ ∈ lw_g := List.mem_filter.mpr ⟨List.mem_of_getElem? (i := 992) (by decide +kernel), by decide +kernel⟩
theorem v_994 : Cond.instanceMethod ⟨"TapeHouseModel", "tells", "(I)V"⟩ ∈ lw_g := List.mem_filter.mpr ⟨List.mem_of_getElem? (i := 994) (by decide +kernel), by decide +kernel⟩
theorem v_995 : Cond.code ⟨"TapeHouseModel", "tells", "(I)V"⟩ prog_10_method_9_code 4 none ∈ lw_g := List.mem_filter.mpr ⟨List.mem_of_getElem? (i := 995) (by decide +kernel), by decide +kernel⟩
theorem v_996 : Cond.methodLink "TapeHouseModel" 70 ⟨"TapeHouseModel", "many", "(I)I"⟩ ∈ lw_g := List.mem_filter.mpr ⟨List.mem_of_getElem? (i := 996) (by decide +kernel), by decide +kernel⟩
theorem v_998 : Cond.instanceMethod ⟨"TapeHouseModel", "many", "(I)I"⟩ ∈ lw_g := List.mem_filter.mpr ⟨List.mem_of_getElem? (i := 998) (by decide +kernel), by decide +kernel⟩
theorem v_999 : Cond.code ⟨"TapeHouseModel", "many", "(I)I"⟩ prog_10_method_5_code 2 (some FieldType.int) ∈ lw_g := List.mem_filter.mpr ⟨List.mem_of_getElem? (i := 999) (by decide +kernel), by decide +kernel⟩
theorem v_1000 : Cond.methodLink "TapeHouseModel" 74 ⟨"TapeHouseModel", "of", "(III)I"⟩ ∈ lw_g := List.mem_filter.mpr ⟨List.mem_of_getElem? (i := 1000) (by decide +kernel), by decide +kernel⟩
theorem v_1002 : Cond.instanceMethod ⟨"TapeHouseModel", "of", "(III)I"⟩ ∈ lw_g := List.mem_filter.mpr ⟨List.mem_of_getElem? (i := 1002) (by decide +kernel), by decide +kernel⟩
theorem v_1003 : Cond.code ⟨"TapeHouseModel", "of", "(III)I"⟩ prog_10_method_6_code 4 (some FieldType.int) ∈ lw_g := List.mem_filter.mpr ⟨List.mem_of_getElem? (i := 1003) (by decide +kernel), by decide +kernel⟩
theorem v_1004 : Cond.methodLink "TapeHouseModel" 143 ⟨"TapeHouseModel", "brings", "(IIII)V"⟩ ∈ lw_g := List.mem_filter.mpr ⟨List.mem_of_getElem? (i := 1004) (by decide +kernel), by decide +kernel⟩
theorem v_1006 : Cond.instanceMethod ⟨"TapeHouseModel", "brings", "(IIII)V"⟩ ∈ lw_g := List.mem_filter.mpr ⟨List.mem_of_getElem? (i := 1006) (by decide +kernel), by decide +kernel⟩
theorem v_1007 : Cond.code ⟨"TapeHouseModel", "brings", "(IIII)V"⟩ prog_10_method_15_code 5 none ∈ lw_g := List.mem_filter.mpr ⟨List.mem_of_getElem? (i := 1007) (by decide +kernel), by decide +kernel⟩
theorem v_1008 : Cond.methodLink "TapeHouseModel" 90 ⟨"TapeHouseModel", "gives", "(III)V"⟩ ∈ lw_g := List.mem_filter.mpr ⟨List.mem_of_getElem? (i := 1008) (by decide +kernel), by decide +kernel⟩
theorem v_1010 : Cond.instanceMethod ⟨"TapeHouseModel", "gives", "(III)V"⟩ ∈ lw_g := List.mem_filter.mpr ⟨List.mem_of_getElem? (i := 1010) (by decide +kernel), by decide +kernel⟩
theorem v_1011 : Cond.code ⟨"TapeHouseModel", "gives", "(III)V"⟩ prog_10_method_10_code 5 none ∈ lw_g := List.mem_filter.mpr ⟨List.mem_of_getElem? (i := 1011) (by decide +kernel), by decide +kernel⟩
theorem v_1012 : Cond.methodLink "TapeHouseModel" 146 ⟨"TapeHouseModel", "fades", "(III)V"⟩ ∈ lw_g := List.mem_filter.mpr ⟨List.mem_of_getElem? (i := 1012) (by decide +kernel), by decide +kernel⟩
theorem v_1014 : Cond.instanceMethod ⟨"TapeHouseModel", "fades", "(III)V"⟩ ∈ lw_g := List.mem_filter.mpr ⟨List.mem_of_getElem? (i := 1014) (by decide +kernel), by decide +kernel⟩
theorem v_1015 : Cond.code ⟨"TapeHouseModel", "fades", "(III)V"⟩ prog_10_method_16_code 4 none ∈ lw_g := List.mem_filter.mpr ⟨List.mem_of_getElem? (i := 1015) (by decide +kernel), by decide +kernel⟩
theorem v_1016 : Cond.methodLink "TapeHouseModel" 149 ⟨"TapeHouseModel", "runs", "(I)I"⟩ ∈ lw_g := List.mem_filter.mpr ⟨List.mem_of_getElem? (i := 1016) (by decide +kernel), by decide +kernel⟩
theorem v_1018 : Cond.instanceMethod ⟨"TapeHouseModel", "runs", "(I)I"⟩ ∈ lw_g := List.mem_filter.mpr ⟨List.mem_of_getElem? (i := 1018) (by decide +kernel), by decide +kernel⟩
theorem v_1019 : Cond.code ⟨"TapeHouseModel", "runs", "(I)I"⟩ prog_10_method_12_code 4 (some FieldType.int) ∈ lw_g := List.mem_filter.mpr ⟨List.mem_of_getElem? (i := 1019) (by decide +kernel), by decide +kernel⟩
theorem v_1020 : Cond.methodLink "TapeHouseModel" 78 ⟨"TapeHouseModel", "begins", "(II)Z"⟩ ∈ lw_g := List.mem_filter.mpr ⟨List.mem_of_getElem? (i := 1020) (by decide +kernel), by decide +kernel⟩
theorem v_1022 : Cond.instanceMethod ⟨"TapeHouseModel", "begins", "(II)Z"⟩ ∈ lw_g := List.mem_filter.mpr ⟨List.mem_of_getElem? (i := 1022) (by decide +kernel), by decide +kernel⟩
theorem v_1023 : Cond.code ⟨"TapeHouseModel", "begins", "(II)Z"⟩ prog_10_method_11_code 3 (some FieldType.boolean) ∈ lw_g := List.mem_filter.mpr ⟨List.mem_of_getElem? (i := 1023) (by decide +kernel), by decide +kernel⟩
theorem v_1024 : Cond.methodLink "TapeHouseModel" 152 ⟨"TapeHouseModel", "lays", "(II)V"⟩ ∈ lw_g := List.mem_filter.mpr ⟨List.mem_of_getElem? (i := 1024) (by decide +kernel), by decide +kernel⟩
theorem v_1026 : Cond.instanceMethod ⟨"TapeHouseModel", "lays", "(II)V"⟩ ∈ lw_g := List.mem_filter.mpr ⟨List.mem_of_getElem? (i := 1026) (by decide +kernel), by decide +kernel⟩
theorem v_1027 : Cond.code ⟨"TapeHouseModel", "lays", "(II)V"⟩ prog_10_method_14_code 8 none ∈ lw_g := List.mem_filter.mpr ⟨List.mem_of_getElem? (i := 1027) (by decide +kernel), by decide +kernel⟩
theorem v_1028 : Cond.methodLink "TapeHouseModel" 82 ⟨"TapeHouseModel", "sets", "(IIII)V"⟩ ∈ lw_g := List.mem_filter.mpr ⟨List.mem_of_getElem? (i := 1028) (by decide +kernel), by decide +kernel⟩
theorem v_1030 : Cond.instanceMethod ⟨"TapeHouseModel", "sets", "(IIII)V"⟩ ∈ lw_g := List.mem_filter.mpr ⟨List.mem_of_getElem? (i := 1030) (by decide +kernel), by decide +kernel⟩
theorem v_1031 : Cond.code ⟨"TapeHouseModel", "sets", "(IIII)V"⟩ prog_10_method_7_code 5 none ∈ lw_g := List.mem_filter.mpr ⟨List.mem_of_getElem? (i := 1031) (by decide +kernel), by decide +kernel⟩
theorem v_1032 : Cond.methodLink "TapeHouseModel" 86 ⟨"TapeHouseModel", "least", "(II)I"⟩ ∈ lw_g := List.mem_filter.mpr ⟨List.mem_of_getElem? (i := 1032) (by decide +kernel), by decide +kernel⟩
theorem v_1033 : Cond.static ⟨"TapeHouseModel", "least", "(II)I"⟩ ∈ lw_g := List.mem_filter.mpr ⟨List.mem_of_getElem? (i := 1033) (by decide +kernel), by decide +kernel⟩
theorem v_1034 : Cond.code ⟨"TapeHouseModel", "least", "(II)I"⟩ prog_10_method_13_code 2 (some FieldType.int) ∈ lw_g := List.mem_filter.mpr ⟨List.mem_of_getElem? (i := 1034) (by decide +kernel), by decide +kernel⟩
theorem v_1035 : Cond.methodLink "TapeHouseModel" 175 ⟨"TapeHouseModel", "toldFade", "(ZZ)V"⟩ ∈ lw_g := List.mem_filter.mpr ⟨List.mem_of_getElem? (i := 1035) (by decide +kernel), by decide +kernel⟩
theorem v_1037 : Cond.instanceMethod ⟨"TapeHouseModel", "toldFade", "(ZZ)V"⟩ ∈ lw_g := List.mem_filter.mpr ⟨List.mem_of_getElem? (i := 1037) (by decide +kernel), by decide +kernel⟩
theorem v_1038 : Cond.code ⟨"TapeHouseModel", "toldFade", "(ZZ)V"⟩ prog_10_method_24_code 7 none ∈ lw_g := List.mem_filter.mpr ⟨List.mem_of_getElem? (i := 1038) (by decide +kernel), by decide +kernel⟩
theorem v_1039 : Cond.methodLink "TapeHouseModel" 156 ⟨"TapeHouseModel", "isSpan", "(II)Z"⟩ ∈ lw_g := List.mem_filter.mpr ⟨List.mem_of_getElem? (i := 1039) (by decide +kernel), by decide +kernel⟩
theorem v_1041 : Cond.instanceMethod ⟨"TapeHouseModel", "isSpan", "(II)Z"⟩ ∈ lw_g := List.mem_filter.mpr ⟨List.mem_of_getElem? (i := 1041) (by decide +kernel), by decide +kernel⟩
theorem v_1042 : Cond.code ⟨"TapeHouseModel", "isSpan", "(II)Z"⟩ prog_10_method_8_code 3 (some FieldType.boolean) ∈ lw_g := List.mem_filter.mpr ⟨List.mem_of_getElem? (i := 1042) (by decide +kernel), by decide +kernel⟩
theorem v_1043 : Cond.methodLink "TapeHouseModel" 66 ⟨"TapeHouseModel", "isTrack", "(I)Z"⟩ ∈ lw_g := List.mem_filter.mpr ⟨List.mem_of_getElem? (i := 1043) (by decide +kernel), by decide +kernel⟩
theorem v_1044 : Cond.static ⟨"TapeHouseModel", "isTrack", "(I)Z"⟩ ∈ lw_g := List.mem_filter.mpr ⟨List.mem_of_getElem? (i := 1044) (by decide +kernel), by decide +kernel⟩
theorem v_1045 : Cond.code ⟨"TapeHouseModel", "isTrack", "(I)Z"⟩ prog_10_method_4_code 1 (some FieldType.boolean) ∈ lw_g := List.mem_filter.mpr ⟨List.mem_of_getElem? (i := 1045) (by decide +kernel), by decide +kernel⟩
theorem v_1046 : Cond.constantLong "TapeHouseModel" 60 3 ∈ lw_g := List.mem_filter.mpr ⟨List.mem_of_getElem? (i := 1046) (by decide +kernel), by decide +kernel⟩
theorem v_1047 : Cond.methodLink "TapeHouseModel" 179 ⟨"TapeHouseModel", "toldShift", "(Z)V"⟩ ∈ lw_g := List.mem_filter.mpr ⟨List.mem_of_getElem? (i := 1047) (by decide +kernel), by decide +kernel⟩
theorem v_1049 : Cond.instanceMethod ⟨"TapeHouseModel", "toldShift", "(Z)V"⟩ ∈ lw_g := List.mem_filter.mpr ⟨List.mem_of_getElem? (i := 1049) (by decide +kernel), by decide +kernel⟩
theorem v_1050 : Cond.code ⟨"TapeHouseModel", "toldShift", "(Z)V"⟩ prog_10_method_25_code 5 none ∈ lw_g := List.mem_filter.mpr ⟨List.mem_of_getElem? (i := 1050) (by decide +kernel), by decide +kernel⟩
theorem v_1051 : Cond.methodLink "TapeHouseModel" 182 ⟨"TapeHouseModel", "toldShut", "(Z)V"⟩ ∈ lw_g := List.mem_filter.mpr ⟨List.mem_of_getElem? (i := 1051) (by decide +kernel), by decide +kernel⟩
theorem v_1053 : Cond.instanceMethod ⟨"TapeHouseModel", "toldShut", "(Z)V"⟩ ∈ lw_g := List.mem_filter.mpr ⟨List.mem_of_getElem? (i := 1053) (by decide +kernel), by decide +kernel⟩
theorem v_1054 : Cond.code ⟨"TapeHouseModel", "toldShut", "(Z)V"⟩ prog_10_method_26_code 3 none ∈ lw_g := List.mem_filter.mpr ⟨List.mem_of_getElem? (i := 1054) (by decide +kernel), by decide +kernel⟩
theorem v_1055 : Cond.methodLink "TapeHouseLaw" 30 ⟨"TapeHouseModel", "house", "()I"⟩ ∈ lw_g := List.mem_filter.mpr ⟨List.mem_of_getElem? (i := 1055) (by decide +kernel), by decide +kernel⟩
theorem v_1056 : Cond.instanceMethod ⟨"TapeHouseModel", "house", "()I"⟩ ∈ lw_g := List.mem_filter.mpr ⟨List.mem_of_getElem? (i := 1056) (by decide +kernel), by decide +kernel⟩
theorem v_1057 : Cond.selects "TapeHouseModel" ⟨"TapeHouseModel", "house", "()I"⟩ ⟨"TapeHouseModel", "house", "()I"⟩ ∈ lw_g := List.mem_filter.mpr ⟨List.mem_of_getElem? (i := 1057) (by decide +kernel), by decide +kernel⟩
theorem v_1058 : Cond.code ⟨"TapeHouseModel", "house", "()I"⟩ prog_10_method_34_code 3 (some FieldType.int) ∈ lw_g := List.mem_filter.mpr ⟨List.mem_of_getElem? (i := 1058) (by decide +kernel), by decide +kernel⟩
theorem v_1059 : Cond.constant "TapeHouseModel" 196 (-2000000003) ∈ lw_g := List.mem_filter.mpr ⟨List.mem_of_getElem? (i := 1059) (by decide +kernel), by decide +kernel⟩
theorem v_1060 : Cond.methodLink "TapeHouseLaw" 35 ⟨"TapeHouseModel", "sound", "(III)I"⟩ ∈ lw_g := List.mem_filter.mpr ⟨List.mem_of_getElem? (i := 1060) (by decide +kernel), by decide +kernel⟩
theorem v_1061 : Cond.instanceMethod ⟨"TapeHouseModel", "sound", "(III)I"⟩ ∈ lw_g := List.mem_filter.mpr ⟨List.mem_of_getElem? (i := 1061) (by decide +kernel), by decide +kernel⟩
theorem v_1062 : Cond.selects "TapeHouseModel" ⟨"TapeHouseModel", "sound", "(III)I"⟩ ⟨"TapeHouseModel", "sound", "(III)I"⟩ ∈ lw_g := List.mem_filter.mpr ⟨List.mem_of_getElem? (i := 1062) (by decide +kernel), by decide +kernel⟩
theorem v_1063 : Cond.code ⟨"TapeHouseModel", "sound", "(III)I"⟩ prog_10_method_40_code 5 (some FieldType.int) ∈ lw_g := List.mem_filter.mpr ⟨List.mem_of_getElem? (i := 1063) (by decide +kernel), by decide +kernel⟩
theorem v_1064 : Cond.constant "TapeHouseModel" 207 (-2000000001) ∈ lw_g := List.mem_filter.mpr ⟨List.mem_of_getElem? (i := 1064) (by decide +kernel), by decide +kernel⟩
theorem v_1065 : Cond.constantFloat "TapeHouseModel" 208 1098907648 ∈ lw_g := List.mem_filter.mpr ⟨List.mem_of_getElem? (i := 1065) (by decide +kernel), by decide +kernel⟩
theorem v_1066 : Cond.methodLink "TapeHouseModel" 209 ⟨"java/lang/Float", "floatToIntBits", "(F)I"⟩ ∈ lw_g := List.mem_filter.mpr ⟨List.mem_of_getElem? (i := 1066) (by decide +kernel), by decide +kernel⟩
theorem v_1067 : Cond.static ⟨"java/lang/Float", "floatToIntBits", "(F)I"⟩ ∈ lw_g := List.mem_filter.mpr ⟨List.mem_of_getElem? (i := 1067) (by decide +kernel), by decide +kernel⟩
theorem v_1068 : Cond.code ⟨"java/lang/Float", "floatToIntBits", "(F)I"⟩ prog_12_method_24_code 1 (some FieldType.int) ∈ lw_g := List.mem_filter.mpr ⟨List.mem_of_getElem? (i := 1068) (by decide +kernel), by decide +kernel⟩
theorem v_1069 : Cond.methodLink "java/lang/Float" 59 ⟨"java/lang/Float", "isNaN", "(F)Z"⟩ ∈ lw_g := List.mem_filter.mpr ⟨List.mem_of_getElem? (i := 1069) (by decide +kernel), by decide +kernel⟩
theorem v_1070 : Cond.static ⟨"java/lang/Float", "isNaN", "(F)Z"⟩ ∈ lw_g := List.mem_filter.mpr ⟨List.mem_of_getElem? (i := 1070) (by decide +kernel), by decide +kernel⟩
theorem v_1071 : Cond.code ⟨"java/lang/Float", "isNaN", "(F)Z"⟩ prog_12_method_6_code 1 (some FieldType.boolean) ∈ lw_g := List.mem_filter.mpr ⟨List.mem_of_getElem? (i := 1071) (by decide +kernel), by decide +kernel⟩
theorem v_1072 : Cond.methodLink "java/lang/Float" 74 ⟨"java/lang/Float", "floatToRawIntBits", "(F)I"⟩ ∈ lw_g := List.mem_filter.mpr ⟨List.mem_of_getElem? (i := 1072) (by decide +kernel), by decide +kernel⟩
theorem v_1073 : Cond.static ⟨"java/lang/Float", "floatToRawIntBits", "(F)I"⟩ ∈ lw_g := List.mem_filter.mpr ⟨List.mem_of_getElem? (i := 1073) (by decide +kernel), by decide +kernel⟩
theorem v_1074 : Cond.native ⟨"java/lang/Float", "floatToRawIntBits", "(F)I"⟩ ∈ lw_g := List.mem_filter.mpr ⟨List.mem_of_getElem? (i := 1074) (by decide +kernel), by decide +kernel⟩
theorem v_1075 : Cond.constant "java/lang/Float" 77 2143289344 ∈ lw_g := List.mem_filter.mpr ⟨List.mem_of_getElem? (i := 1075) (by decide +kernel), by decide +kernel⟩
theorem v_1076 : Cond.methodLink "TapeHouseModel" 215 ⟨"TapeHouseModel", "times", "(II)I"⟩ ∈ lw_g := List.mem_filter.mpr ⟨List.mem_of_getElem? (i := 1076) (by decide +kernel), by decide +kernel⟩
theorem v_1078 : Cond.instanceMethod ⟨"TapeHouseModel", "times", "(II)I"⟩ ∈ lw_g := List.mem_filter.mpr ⟨List.mem_of_getElem? (i := 1078) (by decide +kernel), by decide +kernel⟩
theorem v_1079 : Cond.code ⟨"TapeHouseModel", "times", "(II)I"⟩ prog_10_method_39_code 7 (some FieldType.int) ∈ lw_g := List.mem_filter.mpr ⟨List.mem_of_getElem? (i := 1079) (by decide +kernel), by decide +kernel⟩
theorem v_1080 : Cond.methodLink "TapeHouseModel" 197 ⟨"TapeHouseModel", "spanAt", "(II)I"⟩ ∈ lw_g := List.mem_filter.mpr ⟨List.mem_of_getElem? (i := 1080) (by decide +kernel), by decide +kernel⟩
theorem v_1082 : Cond.instanceMethod ⟨"TapeHouseModel", "spanAt", "(II)I"⟩ ∈ lw_g := List.mem_filter.mpr ⟨List.mem_of_getElem? (i := 1082) (by decide +kernel), by decide +kernel⟩
theorem v_1083 : Cond.code ⟨"TapeHouseModel", "spanAt", "(II)I"⟩ prog_10_method_36_code 4 (some FieldType.int) ∈ lw_g := List.mem_filter.mpr ⟨List.mem_of_getElem? (i := 1083) (by decide +kernel), by decide +kernel⟩
theorem v_1084 : Cond.methodLink "TapeHouseLaw" 39 ⟨"TapeHouseModel", "span", "(III)I"⟩ ∈ lw_g := List.mem_filter.mpr ⟨List.mem_of_getElem? (i := 1084) (by decide +kernel), by decide +kernel⟩
theorem v_1085 : Cond.instanceMethod ⟨"TapeHouseModel", "span", "(III)I"⟩ ∈ lw_g := List.mem_filter.mpr ⟨List.mem_of_getElem? (i := 1085) (by decide +kernel), by decide +kernel⟩
theorem v_1086 : Cond.selects "TapeHouseModel" ⟨"TapeHouseModel", "span", "(III)I"⟩ ⟨"TapeHouseModel", "span", "(III)I"⟩ ∈ lw_g := List.mem_filter.mpr ⟨List.mem_of_getElem? (i := 1086) (by decide +kernel), by decide +kernel⟩
theorem v_1087 : Cond.code ⟨"TapeHouseModel", "span", "(III)I"⟩ prog_10_method_41_code 4 (some FieldType.int) ∈ lw_g := List.mem_filter.mpr ⟨List.mem_of_getElem? (i := 1087) (by decide +kernel), by decide +kernel⟩
theorem v_1088 : Cond.constantLong "TapeHouseModel" 218 6 ∈ lw_g := List.mem_filter.mpr ⟨List.mem_of_getElem? (i := 1088) (by decide +kernel), by decide +kernel⟩
theorem v_1089 : Cond.methodLink "TapeHouseLaw" 43 ⟨"TapeHouseModel", "tone", "(III)I"⟩ ∈ lw_g := List.mem_filter.mpr ⟨List.mem_of_getElem? (i := 1089) (by decide +kernel), by decide +kernel⟩
theorem v_1090 : Cond.instanceMethod ⟨"TapeHouseModel", "tone", "(III)I"⟩ ∈ lw_g := List.mem_filter.mpr ⟨List.mem_of_getElem? (i := 1090) (by decide +kernel), by decide +kernel⟩
theorem v_1091 : Cond.selects "TapeHouseModel" ⟨"TapeHouseModel", "tone", "(III)I"⟩ ⟨"TapeHouseModel", "tone", "(III)I"⟩ ∈ lw_g := List.mem_filter.mpr ⟨List.mem_of_getElem? (i := 1091) (by decide +kernel), by decide +kernel⟩
theorem v_1092 : Cond.code ⟨"TapeHouseModel", "tone", "(III)I"⟩ prog_10_method_42_code 4 (some FieldType.int) ∈ lw_g := List.mem_filter.mpr ⟨List.mem_of_getElem? (i := 1092) (by decide +kernel), by decide +kernel⟩
theorem v_1093 : Cond.constantLong "TapeHouseModel" 220 200 ∈ lw_g := List.mem_filter.mpr ⟨List.mem_of_getElem? (i := 1093) (by decide +kernel), by decide +kernel⟩
theorem v_1094 : Cond.constantLong "TapeHouseModel" 222 64 ∈ lw_g := List.mem_filter.mpr ⟨List.mem_of_getElem? (i := 1094) (by decide +kernel), by decide +kernel⟩
theorem v_1095 : Cond.methodLink "TapeHouseLaw" 48 ⟨"TapeHouseModel", "put", "(IIIII)I"⟩ ∈ lw_g := List.mem_filter.mpr ⟨List.mem_of_getElem? (i := 1095) (by decide +kernel), by decide +kernel⟩
theorem v_1096 : Cond.instanceMethod ⟨"TapeHouseModel", "put", "(IIIII)I"⟩ ∈ lw_g := List.mem_filter.mpr ⟨List.mem_of_getElem? (i := 1096) (by decide +kernel), by decide +kernel⟩
theorem v_1097 : Cond.selects "TapeHouseModel" ⟨"TapeHouseModel", "put", "(IIIII)I"⟩ ⟨"TapeHouseModel", "put", "(IIIII)I"⟩ ∈ lw_g := List.mem_filter.mpr ⟨List.mem_of_getElem? (i := 1097) (by decide +kernel), by decide +kernel⟩
theorem v_1098 : Cond.code ⟨"TapeHouseModel", "put", "(IIIII)I"⟩ prog_10_method_43_code 6 (some FieldType.int) ∈ lw_g := List.mem_filter.mpr ⟨List.mem_of_getElem? (i := 1098) (by decide +kernel), by decide +kernel⟩
theorem v_1099 : Cond.methodLink "TapeHouseModel" 224 ⟨"TapeHouseModel", "notes", "(I)V"⟩ ∈ lw_g := List.mem_filter.mpr ⟨List.mem_of_getElem? (i := 1099) (by decide +kernel), by decide +kernel⟩
theorem v_1101 : Cond.instanceMethod ⟨"TapeHouseModel", "notes", "(I)V"⟩ ∈ lw_g := List.mem_filter.mpr ⟨List.mem_of_getElem? (i := 1101) (by decide +kernel), by decide +kernel⟩
theorem v_1102 : Cond.code ⟨"TapeHouseModel", "notes", "(I)V"⟩ prog_10_method_17_code 4 none ∈ lw_g := List.mem_filter.mpr ⟨List.mem_of_getElem? (i := 1102) (by decide +kernel), by decide +kernel⟩
theorem v_1103 : Cond.methodLink "TapeHouseLaw" 53 ⟨"TapeHouseModel", "fade", "(IIII)I"⟩ ∈ lw_g := List.mem_filter.mpr ⟨List.mem_of_getElem? (i := 1103) (by decide +kernel), by decide +kernel⟩
theorem v_1104 : Cond.instanceMethod ⟨"TapeHouseModel", "fade", "(IIII)I"⟩ ∈ lw_g := List.mem_filter.mpr ⟨List.mem_of_getElem? (i := 1104) (by decide +kernel), by decide +kernel⟩
theorem v_1105 : Cond.selects "TapeHouseModel" ⟨"TapeHouseModel", "fade", "(IIII)I"⟩ ⟨"TapeHouseModel", "fade", "(IIII)I"⟩ ∈ lw_g := List.mem_filter.mpr ⟨List.mem_of_getElem? (i := 1105) (by decide +kernel), by decide +kernel⟩
theorem v_1106 : Cond.code ⟨"TapeHouseModel", "fade", "(IIII)I"⟩ prog_10_method_44_code 6 (some FieldType.int) ∈ lw_g := List.mem_filter.mpr ⟨List.mem_of_getElem? (i := 1106) (by decide +kernel), by decide +kernel⟩
theorem v_1107 : Cond.methodLink "TapeHouseLaw" 57 ⟨"TapeHouseModel", "gain", "(III)I"⟩ ∈ lw_g := List.mem_filter.mpr ⟨List.mem_of_getElem? (i := 1107) (by decide +kernel), by decide +kernel⟩
theorem v_1108 : Cond.instanceMethod ⟨"TapeHouseModel", "gain", "(III)I"⟩ ∈ lw_g := List.mem_filter.mpr ⟨List.mem_of_getElem? (i := 1108) (by decide +kernel), by decide +kernel⟩
theorem v_1109 : Cond.selects "TapeHouseModel" ⟨"TapeHouseModel", "gain", "(III)I"⟩ ⟨"TapeHouseModel", "gain", "(III)I"⟩ ∈ lw_g := List.mem_filter.mpr ⟨List.mem_of_getElem? (i := 1109) (by decide +kernel), by decide +kernel⟩
theorem v_1110 : Cond.code ⟨"TapeHouseModel", "gain", "(III)I"⟩ prog_10_method_45_code 5 (some FieldType.int) ∈ lw_g := List.mem_filter.mpr ⟨List.mem_of_getElem? (i := 1110) (by decide +kernel), by decide +kernel⟩
theorem v_1111 : Cond.constantLong "TapeHouseModel" 227 16 ∈ lw_g := List.mem_filter.mpr ⟨List.mem_of_getElem? (i := 1111) (by decide +kernel), by decide +kernel⟩
theorem v_1112 : Cond.methodLink "TapeHouseLaw" 61 ⟨"TapeHouseModel", "wipe", "(III)I"⟩ ∈ lw_g := List.mem_filter.mpr ⟨List.mem_of_getElem? (i := 1112) (by decide +kernel), by decide +kernel⟩
theorem v_1113 : Cond.instanceMethod ⟨"TapeHouseModel", "wipe", "(III)I"⟩ ∈ lw_g := List.mem_filter.mpr ⟨List.mem_of_getElem? (i := 1113) (by decide +kernel), by decide +kernel⟩
theorem v_1114 : Cond.selects "TapeHouseModel" ⟨"TapeHouseModel", "wipe", "(III)I"⟩ ⟨"TapeHouseModel", "wipe", "(III)I"⟩ ∈ lw_g := List.mem_filter.mpr ⟨List.mem_of_getElem? (i := 1114) (by decide +kernel), by decide +kernel⟩
theorem v_1115 : Cond.code ⟨"TapeHouseModel", "wipe", "(III)I"⟩ prog_10_method_46_code 4 (some FieldType.int) ∈ lw_g := List.mem_filter.mpr ⟨List.mem_of_getElem? (i := 1115) (by decide +kernel), by decide +kernel⟩
theorem v_1116 : Cond.constantLong "TapeHouseModel" 201 127 ∈ lw_g := List.mem_filter.mpr ⟨List.mem_of_getElem? (i := 1116) (by decide +kernel), by decide +kernel⟩
theorem v_1117 : Cond.constantLong "TapeHouseModel" 229 128 ∈ lw_g := List.mem_filter.mpr ⟨List.mem_of_getElem? (i := 1117) (by decide +kernel), by decide +kernel⟩
theorem v_1118 : Cond.methodLink "TapeHouseLaw" 66 ⟨"TapeHouseModel", "cut", "(II)I"⟩ ∈ lw_g := List.mem_filter.mpr ⟨List.mem_of_getElem? (i := 1118) (by decide +kernel), by decide +kernel⟩
theorem v_1119 : Cond.instanceMethod ⟨"TapeHouseModel", "cut", "(II)I"⟩ ∈ lw_g := List.mem_filter.mpr ⟨List.mem_of_getElem? (i := 1119) (by decide +kernel), by decide +kernel⟩
theorem v_1120 : Cond.selects "TapeHouseModel" ⟨"TapeHouseModel", "cut", "(II)I"⟩ ⟨"TapeHouseModel", "cut", "(II)I"⟩ ∈ lw_g := List.mem_filter.mpr ⟨List.mem_of_getElem? (i := 1120) (by decide +kernel), by decide +kernel⟩
theorem v_1121 : Cond.code ⟨"TapeHouseModel", "cut", "(II)I"⟩ prog_10_method_47_code 3 (some FieldType.int) ∈ lw_g := List.mem_filter.mpr ⟨List.mem_of_getElem? (i := 1121) (by decide +kernel), by decide +kernel⟩
theorem v_1122 : Cond.methodLink "TapeHouseLaw" 70 ⟨"TapeHouseModel", "move", "(III)I"⟩ ∈ lw_g := List.mem_filter.mpr ⟨List.mem_of_getElem? (i := 1122) (by decide +kernel), by decide +kernel⟩
theorem v_1123 : Cond.instanceMethod ⟨"TapeHouseModel", "move", "(III)I"⟩ ∈ lw_g := List.mem_filter.mpr ⟨List.mem_of_getElem? (i := 1123) (by decide +kernel), by decide +kernel⟩
theorem v_1124 : Cond.selects "TapeHouseModel" ⟨"TapeHouseModel", "move", "(III)I"⟩ ⟨"TapeHouseModel", "move", "(III)I"⟩ ∈ lw_g := List.mem_filter.mpr ⟨List.mem_of_getElem? (i := 1124) (by decide +kernel), by decide +kernel⟩
theorem v_1125 : Cond.code ⟨"TapeHouseModel", "move", "(III)I"⟩ prog_10_method_48_code 4 (some FieldType.int) ∈ lw_g := List.mem_filter.mpr ⟨List.mem_of_getElem? (i := 1125) (by decide +kernel), by decide +kernel⟩
theorem v_1126 : Cond.methodLink "TapeHouseLaw" 74 ⟨"TapeHouseModel", "shift", "(II)I"⟩ ∈ lw_g := List.mem_filter.mpr ⟨List.mem_of_getElem? (i := 1126) (by decide +kernel), by decide +kernel⟩
theorem v_1127 : Cond.instanceMethod ⟨"TapeHouseModel", "shift", "(II)I"⟩ ∈ lw_g := List.mem_filter.mpr ⟨List.mem_of_getElem? (i := 1127) (by decide +kernel), by decide +kernel⟩
theorem v_1128 : Cond.selects "TapeHouseModel" ⟨"TapeHouseModel", "shift", "(II)I"⟩ ⟨"TapeHouseModel", "shift", "(II)I"⟩ ∈ lw_g := List.mem_filter.mpr ⟨List.mem_of_getElem? (i := 1128) (by decide +kernel), by decide +kernel⟩
theorem v_1129 : Cond.code ⟨"TapeHouseModel", "shift", "(II)I"⟩ prog_10_method_49_code 4 (some FieldType.int) ∈ lw_g := List.mem_filter.mpr ⟨List.mem_of_getElem? (i := 1129) (by decide +kernel), by decide +kernel⟩
theorem v_1130 : Cond.constantLong "TapeHouseModel" 231 (-16) ∈ lw_g := List.mem_filter.mpr ⟨List.mem_of_getElem? (i := 1130) (by decide +kernel), by decide +kernel⟩
theorem v_1131 : Cond.methodLink "TapeHouseLaw" 78 ⟨"TapeHouseModel", "shut", "(I)I"⟩ ∈ lw_g := List.mem_filter.mpr ⟨List.mem_of_getElem? (i := 1131) (by decide +kernel), by decide +kernel⟩
theorem v_1132 : Cond.instanceMethod ⟨"TapeHouseModel", "shut", "(I)I"⟩ ∈ lw_g := List.mem_filter.mpr ⟨List.mem_of_getElem? (i := 1132) (by decide +kernel), by decide +kernel⟩
theorem v_1133 : Cond.selects "TapeHouseModel" ⟨"TapeHouseModel", "shut", "(I)I"⟩ ⟨"TapeHouseModel", "shut", "(I)I"⟩ ∈ lw_g := List.mem_filter.mpr ⟨List.mem_of_getElem? (i := 1133) (by decide +kernel), by decide +kernel⟩
theorem v_1134 : Cond.code ⟨"TapeHouseModel", "shut", "(I)I"⟩ prog_10_method_50_code 2 (some FieldType.int) ∈ lw_g := List.mem_filter.mpr ⟨List.mem_of_getElem? (i := 1134) (by decide +kernel), by decide +kernel⟩
theorem v_1135 : Cond.methodLink "TapeHouseLaw" 82 ⟨"TapeHouseModel", "bounce", "(II)I"⟩ ∈ lw_g := List.mem_filter.mpr ⟨List.mem_of_getElem? (i := 1135) (by decide +kernel), by decide +kernel⟩
theorem v_1136 : Cond.instanceMethod ⟨"TapeHouseModel", "bounce", "(II)I"⟩ ∈ lw_g := List.mem_filter.mpr ⟨List.mem_of_getElem? (i := 1136) (by decide +kernel), by decide +kernel⟩
theorem v_1137 : Cond.selects "TapeHouseModel" ⟨"TapeHouseModel", "bounce", "(II)I"⟩ ⟨"TapeHouseModel", "bounce", "(II)I"⟩ ∈ lw_g := List.mem_filter.mpr ⟨List.mem_of_getElem? (i := 1137) (by decide +kernel), by decide +kernel⟩
theorem v_1138 : Cond.code ⟨"TapeHouseModel", "bounce", "(II)I"⟩ prog_10_method_51_code 4 (some FieldType.int) ∈ lw_g := List.mem_filter.mpr ⟨List.mem_of_getElem? (i := 1138) (by decide +kernel), by decide +kernel⟩
theorem v_1139 : Cond.methodLink "TapeHouseModel" 233 ⟨"TapeHouseModel", "heardAt", "(I)F"⟩ ∈ lw_g := List.mem_filter.mpr ⟨List.mem_of_getElem? (i := 1139) (by decide +kernel), by decide +kernel⟩
theorem v_1141 : Cond.instanceMethod ⟨"TapeHouseModel", "heardAt", "(I)F"⟩ ∈ lw_g := List.mem_filter.mpr ⟨List.mem_of_getElem? (i := 1141) (by decide +kernel), by decide +kernel⟩
theorem v_1142 : Cond.code ⟨"TapeHouseModel", "heardAt", "(I)F"⟩ prog_10_method_38_code 5 (some FieldType.float) ∈ lw_g := List.mem_filter.mpr ⟨List.mem_of_getElem? (i := 1142) (by decide +kernel), by decide +kernel⟩
theorem v_1143 : Cond.methodLink "TapeHouseModel" 203 ⟨"TapeHouseModel", "playedAt", "(II)F"⟩ ∈ lw_g := List.mem_filter.mpr ⟨List.mem_of_getElem? (i := 1143) (by decide +kernel), by decide +kernel⟩
theorem v_1145 : Cond.instanceMethod ⟨"TapeHouseModel", "playedAt", "(II)F"⟩ ∈ lw_g := List.mem_filter.mpr ⟨List.mem_of_getElem? (i := 1145) (by decide +kernel), by decide +kernel⟩
theorem v_1146 : Cond.code ⟨"TapeHouseModel", "playedAt", "(II)F"⟩ prog_10_method_37_code 6 (some FieldType.float) ∈ lw_g := List.mem_filter.mpr ⟨List.mem_of_getElem? (i := 1146) (by decide +kernel), by decide +kernel⟩
theorem v_1147 : Cond.constantFloat "TapeHouseModel" 200 1090519040 ∈ lw_g := List.mem_filter.mpr ⟨List.mem_of_getElem? (i := 1147) (by decide +kernel), by decide +kernel⟩
theorem v_1148 : Cond.methodLink "TapeHouseLaw" 86 ⟨"TapeHouseModel", "undo", "(I)I"⟩ ∈ lw_g := List.mem_filter.mpr ⟨List.mem_of_getElem? (i := 1148) (by decide +kernel), by decide +kernel⟩
theorem v_1149 : Cond.instanceMethod ⟨"TapeHouseModel", "undo", "(I)I"⟩ ∈ lw_g := List.mem_filter.mpr ⟨List.mem_of_getElem? (i := 1149) (by decide +kernel), by decide +kernel⟩
theorem v_1150 : Cond.selects "TapeHouseModel" ⟨"TapeHouseModel", "undo", "(I)I"⟩ ⟨"TapeHouseModel", "undo", "(I)I"⟩ ∈ lw_g := List.mem_filter.mpr ⟨List.mem_of_getElem? (i := 1150) (by decide +kernel), by decide +kernel⟩
theorem v_1151 : Cond.code ⟨"TapeHouseModel", "undo", "(I)I"⟩ prog_10_method_52_code 3 (some FieldType.int) ∈ lw_g := List.mem_filter.mpr ⟨List.mem_of_getElem? (i := 1151) (by decide +kernel), by decide +kernel⟩
theorem v_1152 : Cond.methodLink "TapeHouseLaw" 90 ⟨"TapeHouseModel", "keep", "(I)I"⟩ ∈ lw_g := List.mem_filter.mpr ⟨List.mem_of_getElem? (i := 1152) (by decide +kernel), by decide +kernel⟩
theorem v_1153 : Cond.instanceMethod ⟨"TapeHouseModel", "keep", "(I)I"⟩ ∈ lw_g := List.mem_filter.mpr ⟨List.mem_of_getElem? (i := 1153) (by decide +kernel), by decide +kernel⟩
theorem v_1154 : Cond.selects "TapeHouseModel" ⟨"TapeHouseModel", "keep", "(I)I"⟩ ⟨"TapeHouseModel", "keep", "(I)I"⟩ ∈ lw_g := List.mem_filter.mpr ⟨List.mem_of_getElem? (i := 1154) (by decide +kernel), by decide +kernel⟩
theorem v_1155 : Cond.code ⟨"TapeHouseModel", "keep", "(I)I"⟩ prog_10_method_54_code 3 (some FieldType.int) ∈ lw_g := List.mem_filter.mpr ⟨List.mem_of_getElem? (i := 1155) (by decide +kernel), by decide +kernel⟩
theorem v_1156 : Cond.methodLink "TapeHouseModel" 237 ⟨"TapeHouseModel", "allSpans", "()I"⟩ ∈ lw_g := List.mem_filter.mpr ⟨List.mem_of_getElem? (i := 1156) (by decide +kernel), by decide +kernel⟩
theorem v_1158 : Cond.instanceMethod ⟨"TapeHouseModel", "allSpans", "()I"⟩ ∈ lw_g := List.mem_filter.mpr ⟨List.mem_of_getElem? (i := 1158) (by decide +kernel), by decide +kernel⟩
theorem v_1159 : Cond.code ⟨"TapeHouseModel", "allSpans", "()I"⟩ prog_10_method_53_code 1 (some FieldType.int) ∈ lw_g := List.mem_filter.mpr ⟨List.mem_of_getElem? (i := 1159) (by decide +kernel), by decide +kernel⟩
theorem v_1160 : Cond.methodLink "TapeHouseLaw" 94 ⟨"TapeHouseModel", "back", "(I)I"⟩ ∈ lw_g := List.mem_filter.mpr ⟨List.mem_of_getElem? (i := 1160) (by decide +kernel), by decide +kernel⟩
theorem v_1161 : Cond.instanceMethod ⟨"TapeHouseModel", "back", "(I)I"⟩ ∈ lw_g := List.mem_filter.mpr ⟨List.mem_of_getElem? (i := 1161) (by decide +kernel), by decide +kernel⟩
theorem v_1162 : Cond.selects "TapeHouseModel" ⟨"TapeHouseModel", "back", "(I)I"⟩ ⟨"TapeHouseModel", "back", "(I)I"⟩ ∈ lw_g := List.mem_filter.mpr ⟨List.mem_of_getElem? (i := 1162) (by decide +kernel), by decide +kernel⟩
theorem v_1163 : Cond.code ⟨"TapeHouseModel", "back", "(I)I"⟩ prog_10_method_55_code 3 (some FieldType.int) ∈ lw_g := List.mem_filter.mpr ⟨List.mem_of_getElem? (i := 1163) (by decide +kernel), by decide +kernel⟩
theorem v_1164 : Cond.methodLink "TapeHouseLaw" 98 ⟨"TapeHouseModel", "heard", "(I)I"⟩ ∈ lw_g := List.mem_filter.mpr ⟨List.mem_of_getElem? (i := 1164) (by decide +kernel), by decide +kernel⟩
theorem v_1165 : Cond.instanceMethod ⟨"TapeHouseModel", "heard", "(I)I"⟩ ∈ lw_g := List.mem_filter.mpr ⟨List.mem_of_getElem? (i := 1165) (by decide +kernel), by decide +kernel⟩
theorem v_1166 : Cond.selects "TapeHouseModel" ⟨"TapeHouseModel", "heard", "(I)I"⟩ ⟨"TapeHouseModel", "heard", "(I)I"⟩ ∈ lw_g := List.mem_filter.mpr ⟨List.mem_of_getElem? (i := 1166) (by decide +kernel), by decide +kernel⟩
theorem v_1167 : Cond.code ⟨"TapeHouseModel", "heard", "(I)I"⟩ prog_10_method_56_code 2 (some FieldType.int) ∈ lw_g := List.mem_filter.mpr ⟨List.mem_of_getElem? (i := 1167) (by decide +kernel), by decide +kernel⟩
theorem v_1168 : Cond.methodLink "TapeHouseLaw" 103 ⟨"TapeHouseModel", "exact", "(I)J"⟩ ∈ lw_g := List.mem_filter.mpr ⟨List.mem_of_getElem? (i := 1168) (by decide +kernel), by decide +kernel⟩
theorem v_1169 : Cond.instanceMethod ⟨"TapeHouseModel", "exact", "(I)J"⟩ ∈ lw_g := List.mem_filter.mpr ⟨List.mem_of_getElem? (i := 1169) (by decide +kernel), by decide +kernel⟩
theorem v_1170 : Cond.selects "TapeHouseModel" ⟨"TapeHouseModel", "exact", "(I)J"⟩ ⟨"TapeHouseModel", "exact", "(I)J"⟩ ∈ lw_g := List.mem_filter.mpr ⟨List.mem_of_getElem? (i := 1170) (by decide +kernel), by decide +kernel⟩
theorem v_1171 : Cond.code ⟨"TapeHouseModel", "exact", "(I)J"⟩ prog_10_method_57_code 2 (some FieldType.long) ∈ lw_g := List.mem_filter.mpr ⟨List.mem_of_getElem? (i := 1171) (by decide +kernel), by decide +kernel⟩
theorem v_1172 : Cond.constantLong "TapeHouseModel" 241 (-2000000002) ∈ lw_g := List.mem_filter.mpr ⟨List.mem_of_getElem? (i := 1172) (by decide +kernel), by decide +kernel⟩
theorem v_1173 : Cond.methodLink "TapeHouseLaw" 108 ⟨"TapeHouseModel", "sum", "(II)J"⟩ ∈ lw_g := List.mem_filter.mpr ⟨List.mem_of_getElem? (i := 1173) (by decide +kernel), by decide +kernel⟩
theorem v_1174 : Cond.instanceMethod ⟨"TapeHouseModel", "sum", "(II)J"⟩ ∈ lw_g := List.mem_filter.mpr ⟨List.mem_of_getElem? (i := 1174) (by decide +kernel), by decide +kernel⟩
theorem v_1175 : Cond.selects "TapeHouseModel" ⟨"TapeHouseModel", "sum", "(II)J"⟩ ⟨"TapeHouseModel", "sum", "(II)J"⟩ ∈ lw_g := List.mem_filter.mpr ⟨List.mem_of_getElem? (i := 1175) (by decide +kernel), by decide +kernel⟩
theorem v_1176 : Cond.code ⟨"TapeHouseModel", "sum", "(II)J"⟩ prog_10_method_58_code 6 (some FieldType.long) ∈ lw_g := List.mem_filter.mpr ⟨List.mem_of_getElem? (i := 1176) (by decide +kernel), by decide +kernel⟩
theorem v_1177 : Cond.methodLink "TapeHouseModel" 243 ⟨"java/lang/Double", "doubleToLongBits", "(D)J"⟩ ∈ lw_g := List.mem_filter.mpr ⟨List.mem_of_getElem? (i := 1177) (by decide +kernel), by decide +kernel⟩
theorem v_1178 : Cond.static ⟨"java/lang/Double", "doubleToLongBits", "(D)J"⟩ ∈ lw_g := List.mem_filter.mpr ⟨List.mem_of_getElem? (i := 1178) (by decide +kernel), by decide +kernel⟩
theorem v_1179 : Cond.code ⟨"java/lang/Double", "doubleToLongBits", "(D)J"⟩ prog_11_method_23_code 2 (some FieldType.long) ∈ lw_g := List.mem_filter.mpr ⟨List.mem_of_getElem? (i := 1179) (by decide +kernel), by decide +kernel⟩
theorem v_1180 : Cond.methodLink "java/lang/Double" 122 ⟨"java/lang/Double", "isNaN", "(D)Z"⟩ ∈ lw_g := List.mem_filter.mpr ⟨List.mem_of_getElem? (i := 1180) (by decide +kernel), by decide +kernel⟩
theorem v_1181 : Cond.static ⟨"java/lang/Double", "isNaN", "(D)Z"⟩ ∈ lw_g := List.mem_filter.mpr ⟨List.mem_of_getElem? (i := 1181) (by decide +kernel), by decide +kernel⟩
theorem v_1182 : Cond.code ⟨"java/lang/Double", "isNaN", "(D)Z"⟩ prog_11_method_6_code 2 (some FieldType.boolean) ∈ lw_g := List.mem_filter.mpr ⟨List.mem_of_getElem? (i := 1182) (by decide +kernel), by decide +kernel⟩
theorem v_1183 : Cond.methodLink "java/lang/Double" 134 ⟨"java/lang/Double", "doubleToRawLongBits", "(D)J"⟩ ∈ lw_g := List.mem_filter.mpr ⟨List.mem_of_getElem? (i := 1183) (by decide +kernel), by decide +kernel⟩
theorem v_1184 : Cond.static ⟨"java/lang/Double", "doubleToRawLongBits", "(D)J"⟩ ∈ lw_g := List.mem_filter.mpr ⟨List.mem_of_getElem? (i := 1184) (by decide +kernel), by decide +kernel⟩
theorem v_1185 : Cond.native ⟨"java/lang/Double", "doubleToRawLongBits", "(D)J"⟩ ∈ lw_g := List.mem_filter.mpr ⟨List.mem_of_getElem? (i := 1185) (by decide +kernel), by decide +kernel⟩
theorem v_1186 : Cond.constantLong "java/lang/Double" 137 9221120237041090560 ∈ lw_g := List.mem_filter.mpr ⟨List.mem_of_getElem? (i := 1186) (by decide +kernel), by decide +kernel⟩
theorem v_1187 : Cond.methodLink "TapeHouseLaw" 112 ⟨"TapeHouseModel", "played", "(II)I"⟩ ∈ lw_g := List.mem_filter.mpr ⟨List.mem_of_getElem? (i := 1187) (by decide +kernel), by decide +kernel⟩
theorem v_1188 : Cond.instanceMethod ⟨"TapeHouseModel", "played", "(II)I"⟩ ∈ lw_g := List.mem_filter.mpr ⟨List.mem_of_getElem? (i := 1188) (by decide +kernel), by decide +kernel⟩
theorem v_1189 : Cond.selects "TapeHouseModel" ⟨"TapeHouseModel", "played", "(II)I"⟩ ⟨"TapeHouseModel", "played", "(II)I"⟩ ∈ lw_g := List.mem_filter.mpr ⟨List.mem_of_getElem? (i := 1189) (by decide +kernel), by decide +kernel⟩
theorem v_1190 : Cond.code ⟨"TapeHouseModel", "played", "(II)I"⟩ prog_10_method_59_code 3 (some FieldType.int) ∈ lw_g := List.mem_filter.mpr ⟨List.mem_of_getElem? (i := 1190) (by decide +kernel), by decide +kernel⟩
theorem v_1191 : Cond.methodLink "TapeHouseLaw" 116 ⟨"TapeHouseModel", "covers", "(III)I"⟩ ∈ lw_g := List.mem_filter.mpr ⟨List.mem_of_getElem? (i := 1191) (by decide +kernel), by decide +kernel⟩
theorem v_1192 : Cond.instanceMethod ⟨"TapeHouseModel", "covers", "(III)I"⟩ ∈ lw_g := List.mem_filter.mpr ⟨List.mem_of_getElem? (i := 1192) (by decide +kernel), by decide +kernel⟩
theorem v_1193 : Cond.selects "TapeHouseModel" ⟨"TapeHouseModel", "covers", "(III)I"⟩ ⟨"TapeHouseModel", "covers", "(III)I"⟩ ∈ lw_g := List.mem_filter.mpr ⟨List.mem_of_getElem? (i := 1193) (by decide +kernel), by decide +kernel⟩
theorem v_1194 : Cond.code ⟨"TapeHouseModel", "covers", "(III)I"⟩ prog_10_method_60_code 6 (some FieldType.int) ∈ lw_g := List.mem_filter.mpr ⟨List.mem_of_getElem? (i := 1194) (by decide +kernel), by decide +kernel⟩
theorem v_1195 : Cond.methodLink "TapeHouseLaw" 120 ⟨"TapeHouseModel", "rack", "(III)I"⟩ ∈ lw_g := List.mem_filter.mpr ⟨List.mem_of_getElem? (i := 1195) (by decide +kernel), by decide +kernel⟩
theorem v_1196 : Cond.instanceMethod ⟨"TapeHouseModel", "rack", "(III)I"⟩ ∈ lw_g := List.mem_filter.mpr ⟨List.mem_of_getElem? (i := 1196) (by decide +kernel), by decide +kernel⟩
theorem v_1197 : Cond.selects "TapeHouseModel" ⟨"TapeHouseModel", "rack", "(III)I"⟩ ⟨"TapeHouseModel", "rack", "(III)I"⟩ ∈ lw_g := List.mem_filter.mpr ⟨List.mem_of_getElem? (i := 1197) (by decide +kernel), by decide +kernel⟩
theorem v_1198 : Cond.code ⟨"TapeHouseModel", "rack", "(III)I"⟩ prog_10_method_63_code 5 (some FieldType.int) ∈ lw_g := List.mem_filter.mpr ⟨List.mem_of_getElem? (i := 1198) (by decide +kernel), by decide +kernel⟩
theorem v_1199 : Cond.methodLink "TapeHouseModel" 251 ⟨"TapeHouseModel", "isRack", "(I)Z"⟩ ∈ lw_g := List.mem_filter.mpr ⟨List.mem_of_getElem? (i := 1199) (by decide +kernel), by decide +kernel⟩
theorem v_1200 : Cond.static ⟨"TapeHouseModel", "isRack", "(I)Z"⟩ ∈ lw_g := List.mem_filter.mpr ⟨List.mem_of_getElem? (i := 1200) (by decide +kernel), by decide +kernel⟩
theorem v_1201 : Cond.code ⟨"TapeHouseModel", "isRack", "(I)Z"⟩ prog_10_method_61_code 1 (some FieldType.boolean) ∈ lw_g := List.mem_filter.mpr ⟨List.mem_of_getElem? (i := 1201) (by decide +kernel), by decide +kernel⟩
theorem v_1202 : Cond.constantLong "TapeHouseModel" 249 2 ∈ lw_g := List.mem_filter.mpr ⟨List.mem_of_getElem? (i := 1202) (by decide +kernel), by decide +kernel⟩
theorem v_1203 : Cond.constant "TapeHouseModel" 254 (-2000000012) ∈ lw_g := List.mem_filter.mpr ⟨List.mem_of_getElem? (i := 1203) (by decide +kernel), by decide +kernel⟩
theorem v_1204 : Cond.methodLink "TapeHouseLaw" 124 ⟨"TapeHouseModel", "hang", "(IIII)I"⟩ ∈ lw_g := List.mem_filter.mpr ⟨List.mem_of_getElem? (i := 1204) (by decide +kernel), by decide +kernel⟩
theorem v_1205 : Cond.instanceMethod ⟨"TapeHouseModel", "hang", "(IIII)I"⟩ ∈ lw_g := List.mem_filter.mpr ⟨List.mem_of_getElem? (i := 1205) (by decide +kernel), by decide +kernel⟩
theorem v_1206 : Cond.selects "TapeHouseModel" ⟨"TapeHouseModel", "hang", "(IIII)I"⟩ ⟨"TapeHouseModel", "hang", "(IIII)I"⟩ ∈ lw_g := List.mem_filter.mpr ⟨List.mem_of_getElem? (i := 1206) (by decide +kernel), by decide +kernel⟩
theorem v_1207 : Cond.code ⟨"TapeHouseModel", "hang", "(IIII)I"⟩ prog_10_method_65_code 6 (some FieldType.int) ∈ lw_g := List.mem_filter.mpr ⟨List.mem_of_getElem? (i := 1207) (by decide +kernel), by decide +kernel⟩
theorem v_1208 : Cond.constantLong "TapeHouseModel" 255 99 ∈ lw_g := List.mem_filter.mpr ⟨List.mem_of_getElem? (i := 1208) (by decide +kernel), by decide +kernel⟩
theorem v_1209 : Cond.constant "TapeHouseModel" 257 (-2000000011) ∈ lw_g := List.mem_filter.mpr ⟨List.mem_of_getElem? (i := 1209) (by decide +kernel), by decide +kernel⟩
theorem v_1210 : Cond.constant "TapeHouseModel" 258 (-2000000013) ∈ lw_g := List.mem_filter.mpr ⟨List.mem_of_getElem? (i := 1210) (by decide +kernel), by decide +kernel⟩
theorem v_1211 : Cond.methodLink "TapeHouseModel" 259 ⟨"TapeHouseModel", "isFor", "(II)Z"⟩ ∈ lw_g := List.mem_filter.mpr ⟨List.mem_of_getElem? (i := 1211) (by decide +kernel), by decide +kernel⟩
theorem v_1213 : Cond.instanceMethod ⟨"TapeHouseModel", "isFor", "(II)Z"⟩ ∈ lw_g := List.mem_filter.mpr ⟨List.mem_of_getElem? (i := 1213) (by decide +kernel), by decide +kernel⟩
theorem v_1214 : Cond.code ⟨"TapeHouseModel", "isFor", "(II)Z"⟩ prog_10_method_64_code 3 (some FieldType.boolean) ∈ lw_g := List.mem_filter.mpr ⟨List.mem_of_getElem? (i := 1214) (by decide +kernel), by decide +kernel⟩
theorem v_1215 : Cond.constant "TapeHouseModel" 262 (-2000000014) ∈ lw_g := List.mem_filter.mpr ⟨List.mem_of_getElem? (i := 1215) (by decide +kernel), by decide +kernel⟩
theorem v_1216 : Cond.methodLink "TapeHouseLaw" 128 ⟨"TapeHouseModel", "take", "(II)I"⟩ ∈ lw_g := List.mem_filter.mpr ⟨List.mem_of_getElem? (i := 1216) (by decide +kernel), by decide +kernel⟩
theorem v_1217 : Cond.instanceMethod ⟨"TapeHouseModel", "take", "(II)I"⟩ ∈ lw_g := List.mem_filter.mpr ⟨List.mem_of_getElem? (i := 1217) (by decide +kernel), by decide +kernel⟩
theorem v_1218 : Cond.selects "TapeHouseModel" ⟨"TapeHouseModel", "take", "(II)I"⟩ ⟨"TapeHouseModel", "take", "(II)I"⟩ ∈ lw_g := List.mem_filter.mpr ⟨List.mem_of_getElem? (i := 1218) (by decide +kernel), by decide +kernel⟩
theorem v_1219 : Cond.code ⟨"TapeHouseModel", "take", "(II)I"⟩ prog_10_method_66_code 4 (some FieldType.int) ∈ lw_g := List.mem_filter.mpr ⟨List.mem_of_getElem? (i := 1219) (by decide +kernel), by decide +kernel⟩
theorem v_1220 : Cond.constant "TapeHouseModel" 263 (-2000000015) ∈ lw_g := List.mem_filter.mpr ⟨List.mem_of_getElem? (i := 1220) (by decide +kernel), by decide +kernel⟩
theorem v_1221 : Cond.methodLink "TapeHouseLaw" 132 ⟨"TapeHouseModel", "likeness", "(II)I"⟩ ∈ lw_g := List.mem_filter.mpr ⟨List.mem_of_getElem? (i := 1221) (by decide +kernel), by decide +kernel⟩
theorem v_1222 : Cond.instanceMethod ⟨"TapeHouseModel", "likeness", "(II)I"⟩ ∈ lw_g := List.mem_filter.mpr ⟨List.mem_of_getElem? (i := 1222) (by decide +kernel), by decide +kernel⟩
theorem v_1223 : Cond.selects "TapeHouseModel" ⟨"TapeHouseModel", "likeness", "(II)I"⟩ ⟨"TapeHouseModel", "likeness", "(II)I"⟩ ∈ lw_g := List.mem_filter.mpr ⟨List.mem_of_getElem? (i := 1223) (by decide +kernel), by decide +kernel⟩
theorem v_1224 : Cond.code ⟨"TapeHouseModel", "likeness", "(II)I"⟩ prog_10_method_67_code 4 (some FieldType.int) ∈ lw_g := List.mem_filter.mpr ⟨List.mem_of_getElem? (i := 1224) (by decide +kernel), by decide +kernel⟩
theorem v_1225 : Cond.methodLink "TapeHouseModel" 264 ⟨"TapeHouseModel", "thingsOn", "(I)I"⟩ ∈ lw_g := List.mem_filter.mpr ⟨List.mem_of_getElem? (i := 1225) (by decide +kernel), by decide +kernel⟩
theorem v_1227 : Cond.instanceMethod ⟨"TapeHouseModel", "thingsOn", "(I)I"⟩ ∈ lw_g := List.mem_filter.mpr ⟨List.mem_of_getElem? (i := 1227) (by decide +kernel), by decide +kernel⟩
theorem v_1228 : Cond.code ⟨"TapeHouseModel", "thingsOn", "(I)I"⟩ prog_10_method_62_code 4 (some FieldType.int) ∈ lw_g := List.mem_filter.mpr ⟨List.mem_of_getElem? (i := 1228) (by decide +kernel), by decide +kernel⟩
theorem v_1229 : Cond.methodLink "TapeHouseLaw" 136 ⟨"TapeHouseModel", "pass", "(II)I"⟩ ∈ lw_g := List.mem_filter.mpr ⟨List.mem_of_getElem? (i := 1229) (by decide +kernel), by decide +kernel⟩
theorem v_1230 : Cond.instanceMethod ⟨"TapeHouseModel", "pass", "(II)I"⟩ ∈ lw_g := List.mem_filter.mpr ⟨List.mem_of_getElem? (i := 1230) (by decide +kernel), by decide +kernel⟩
theorem v_1231 : Cond.selects "TapeHouseModel" ⟨"TapeHouseModel", "pass", "(II)I"⟩ ⟨"TapeHouseModel", "pass", "(II)I"⟩ ∈ lw_g := List.mem_filter.mpr ⟨List.mem_of_getElem? (i := 1231) (by decide +kernel), by decide +kernel⟩
theorem v_1232 : Cond.code ⟨"TapeHouseModel", "pass", "(II)I"⟩ prog_10_method_68_code 6 (some FieldType.int) ∈ lw_g := List.mem_filter.mpr ⟨List.mem_of_getElem? (i := 1232) (by decide +kernel), by decide +kernel⟩
theorem v_1233 : Cond.methodLink "TapeHouseLaw" 140 ⟨"TapeHouseModel", "drop", "(I)I"⟩ ∈ lw_g := List.mem_filter.mpr ⟨List.mem_of_getElem? (i := 1233) (by decide +kernel), by decide +kernel⟩
theorem v_1234 : Cond.instanceMethod ⟨"TapeHouseModel", "drop", "(I)I"⟩ ∈ lw_g := List.mem_filter.mpr ⟨List.mem_of_getElem? (i := 1234) (by decide +kernel), by decide +kernel⟩
theorem v_1235 : Cond.selects "TapeHouseModel" ⟨"TapeHouseModel", "drop", "(I)I"⟩ ⟨"TapeHouseModel", "drop", "(I)I"⟩ ∈ lw_g := List.mem_filter.mpr ⟨List.mem_of_getElem? (i := 1235) (by decide +kernel), by decide +kernel⟩
theorem v_1236 : Cond.code ⟨"TapeHouseModel", "drop", "(I)I"⟩ prog_10_method_69_code 3 (some FieldType.int) ∈ lw_g := List.mem_filter.mpr ⟨List.mem_of_getElem? (i := 1236) (by decide +kernel), by decide +kernel⟩
theorem v_1237 : Cond.methodLink "TapeHouseLaw" 144 ⟨"TapeHouseModel", "count", "(I)I"⟩ ∈ lw_g := List.mem_filter.mpr ⟨List.mem_of_getElem? (i := 1237) (by decide +kernel), by decide +kernel⟩
theorem v_1238 : Cond.instanceMethod ⟨"TapeHouseModel", "count", "(I)I"⟩ ∈ lw_g := List.mem_filter.mpr ⟨List.mem_of_getElem? (i := 1238) (by decide +kernel), by decide +kernel⟩
theorem v_1239 : Cond.selects "TapeHouseModel" ⟨"TapeHouseModel", "count", "(I)I"⟩ ⟨"TapeHouseModel", "count", "(I)I"⟩ ∈ lw_g := List.mem_filter.mpr ⟨List.mem_of_getElem? (i := 1239) (by decide +kernel), by decide +kernel⟩
theorem v_1240 : Cond.code ⟨"TapeHouseModel", "count", "(I)I"⟩ prog_10_method_73_code 2 (some FieldType.int) ∈ lw_g := List.mem_filter.mpr ⟨List.mem_of_getElem? (i := 1240) (by decide +kernel), by decide +kernel⟩
theorem v_1241 : Cond.constantLong "TapeHouseModel" 268 21 ∈ lw_g := List.mem_filter.mpr ⟨List.mem_of_getElem? (i := 1241) (by decide +kernel), by decide +kernel⟩
theorem v_1242 : Cond.methodLink "TapeHouseModel" 270 ⟨"TapeHouseModel", "loudest", "()I"⟩ ∈ lw_g := List.mem_filter.mpr ⟨List.mem_of_getElem? (i := 1242) (by decide +kernel), by decide +kernel⟩
theorem v_1244 : Cond.instanceMethod ⟨"TapeHouseModel", "loudest", "()I"⟩ ∈ lw_g := List.mem_filter.mpr ⟨List.mem_of_getElem? (i := 1244) (by decide +kernel), by decide +kernel⟩
theorem v_1245 : Cond.code ⟨"TapeHouseModel", "loudest", "()I"⟩ prog_10_method_70_code 6 (some FieldType.int) ∈ lw_g := List.mem_filter.mpr ⟨List.mem_of_getElem? (i := 1245) (by decide +kernel), by decide +kernel⟩
theorem v_1246 : Cond.constantFloat "TapeHouseModel" 267 3212836864 ∈ lw_g := List.mem_filter.mpr ⟨List.mem_of_getElem? (i := 1246) (by decide +kernel), by decide +kernel⟩
theorem v_1247 : Cond.methodLink "TapeHouseModel" 273 ⟨"TapeHouseModel", "silent", "()I"⟩ ∈ lw_g := List.mem_filter.mpr ⟨List.mem_of_getElem? (i := 1247) (by decide +kernel), by decide +kernel⟩
theorem v_1249 : Cond.instanceMethod ⟨"TapeHouseModel", "silent", "()I"⟩ ∈ lw_g := List.mem_filter.mpr ⟨List.mem_of_getElem? (i := 1249) (by decide +kernel), by decide +kernel⟩
theorem v_1250 : Cond.code ⟨"TapeHouseModel", "silent", "()I"⟩ prog_10_method_71_code 3 (some FieldType.int) ∈ lw_g := List.mem_filter.mpr ⟨List.mem_of_getElem? (i := 1250) (by decide +kernel), by decide +kernel⟩
theorem v_1251 : Cond.methodLink "TapeHouseModel" 276 ⟨"TapeHouseModel", "gaps", "(I)I"⟩ ∈ lw_g := List.mem_filter.mpr ⟨List.mem_of_getElem? (i := 1251) (by decide +kernel), by decide +kernel⟩
theorem v_1253 : Cond.instanceMethod ⟨"TapeHouseModel", "gaps", "(I)I"⟩ ∈ lw_g := List.mem_filter.mpr ⟨List.mem_of_getElem? (i := 1253) (by decide +kernel), by decide +kernel⟩
theorem v_1254 : Cond.code ⟨"TapeHouseModel", "gaps", "(I)I"⟩ prog_10_method_72_code 6 (some FieldType.int) ∈ lw_g := List.mem_filter.mpr ⟨List.mem_of_getElem? (i := 1254) (by decide +kernel), by decide +kernel⟩
theorem v_1255 : Cond.fieldLink "java/lang/String" 9 "java/lang/String" "value" "[B" ∈ lw_g := List.mem_filter.mpr ⟨List.mem_of_getElem? (i := 1255) (by decide +kernel), by decide +kernel⟩
theorem v_1256 : Cond.fieldLink "java/lang/String" 15 "java/lang/String" "coder" "B" ∈ lw_g := List.mem_filter.mpr ⟨List.mem_of_getElem? (i := 1256) (by decide +kernel), by decide +kernel⟩
theorem gd_node {own : String} {bytes : ByteArray} {ret : Option FieldType} {nm : String} {nL lv pc k : Nat} {A B : aT} (ha : SOK own bytes ret nm nL lv pc A) (hb : SOK own bytes ret nm nL lv pc B) : SOK own bytes ret nm nL lv pc (bif Nat.blt pc k then A else B) := by
  cases Nat.blt pc k with
  | true => exact ha
  | false => exact hb
theorem gd_leaf {own : String} {bytes : ByteArray} {ret : Option FieldType} {nm : String} {nL lv pc k : Nat} {A : aT} (ha : SOK own bytes ret nm nL lv k A) : SOK own bytes ret nm nL lv pc (bif Nat.beq pc k then A else x_bad) := by
  cases hb : Nat.beq pc k with
  | true =>
    have e := Nat.eq_of_beq_eq_true hb
    subst e
    exact ha
  | false => exact st_bad
