theorem tt1 {w : Cond} (h : w ∈ tables_1_1) : w ∈ lw_tbl := List.mem_append_right _ (List.mem_append_left _ h)
theorem tt2 {w : Cond} (h : w ∈ tables_1_2) : w ∈ lw_tbl := List.mem_append_right _ (List.mem_append_right _ (List.mem_append_left _ h))
theorem tt3 {w : Cond} (h : w ∈ tables_1_3) : w ∈ lw_tbl := List.mem_append_right _ (List.mem_append_right _ (List.mem_append_right _ (List.mem_append_left _ h)))
theorem tt4 {w : Cond} (h : w ∈ tables_1_4) : w ∈ lw_tbl := List.mem_append_right _ (List.mem_append_right _ (List.mem_append_right _ (List.mem_append_right _ (List.mem_append_left _ h))))
theorem tt5 {w : Cond} (h : w ∈ tables_1_5) : w ∈ lw_tbl := List.mem_append_right _ (List.mem_append_right _ (List.mem_append_right _ (List.mem_append_right _ (List.mem_append_right _ (List.mem_append_left _ h)))))
theorem tt6 {w : Cond} (h : w ∈ tables_1_6) : w ∈ lw_tbl := List.mem_append_right _ (List.mem_append_right _ (List.mem_append_right _ (List.mem_append_right _ (List.mem_append_right _ (List.mem_append_right _ (h))))))
theorem tw_0 : (Cond.selects "LineGuard" ⟨"LineGuard", "keysOf", "(I)LLineGuard$Keys;"⟩ ⟨"LineGuard", "keysOf", "(I)LLineGuard$Keys;"⟩ : Cond) ∈ uT := uni_mem (List.mem_of_getElem? (i := 0) (by decide +kernel)) rfl
theorem tw_1 : (Cond.selects "LineGuard" ⟨"LineGuard", "forgetSessions", "()V"⟩ ⟨"LineGuard", "forgetSessions", "()V"⟩ : Cond) ∈ uT := uni_mem (List.mem_of_getElem? (i := 1) (by decide +kernel)) rfl
theorem tw_2 : (Cond.selects "LineGuard" ⟨"LineGuard", "ruleOf", "(LLineGuard$Keys;)LLineGuard$Rule;"⟩ ⟨"LineGuard", "ruleOf", "(LLineGuard$Keys;)LLineGuard$Rule;"⟩ : Cond) ∈ uT := uni_mem (List.mem_of_getElem? (i := 2) (by decide +kernel)) rfl
theorem tw_3 : (Cond.selects "LineGuard$NewerRule" ⟨"LineGuard$NewerRule", "derive", "(LLineGuard$Row;IILLineGuard$Row;)V"⟩ ⟨"LineGuard$NewerRule", "derive", "(LLineGuard$Row;IILLineGuard$Row;)V"⟩ : Cond) ∈ uT := uni_mem (List.mem_of_getElem? (i := 3) (by decide +kernel)) rfl
theorem tw_4 : (Cond.selects "LineGuard$NewerRule" ⟨"LineGuard$NewerRule", "cmac", "(LLineGuard$Row;LLineGuard$Row;)V"⟩ ⟨"LineGuard$NewerRule", "cmac", "(LLineGuard$Row;LLineGuard$Row;)V"⟩ : Cond) ∈ uT := uni_mem (List.mem_of_getElem? (i := 4) (by decide +kernel)) rfl
theorem tw_5 : (Cond.selects "LineGuard$Aes" ⟨"LineGuard$Aes", "load", "()V"⟩ ⟨"LineGuard$Aes", "load", "()V"⟩ : Cond) ∈ uT := uni_mem (List.mem_of_getElem? (i := 5) (by decide +kernel)) rfl
theorem tw_6 : (Cond.selects "LineGuard$Aes" ⟨"LineGuard$Aes", "addWords", "(I)V"⟩ ⟨"LineGuard$Aes", "addWords", "(I)V"⟩ : Cond) ∈ uT := uni_mem (List.mem_of_getElem? (i := 6) (by decide +kernel)) rfl
theorem tw_7 : (Cond.selects "LineGuard$Aes" ⟨"LineGuard$Aes", "boxShifted", "([II)V"⟩ ⟨"LineGuard$Aes", "boxShifted", "([II)V"⟩ : Cond) ∈ uT := uni_mem (List.mem_of_getElem? (i := 7) (by decide +kernel)) rfl
theorem tw_8 : (Cond.selects "LineGuard$Aes" ⟨"LineGuard$Aes", "store", "()V"⟩ ⟨"LineGuard$Aes", "store", "()V"⟩ : Cond) ∈ uT := uni_mem (List.mem_of_getElem? (i := 8) (by decide +kernel)) rfl
theorem tw_9 : (Cond.selects "LineGuard$Des" ⟨"LineGuard$Des", "load", "()J"⟩ ⟨"LineGuard$Des", "load", "()J"⟩ : Cond) ∈ uT := uni_mem (List.mem_of_getElem? (i := 9) (by decide +kernel)) rfl
theorem tw_10 : (Cond.selects "LineGuard$Des" ⟨"LineGuard$Des", "rounds", "(J[JZ)J"⟩ ⟨"LineGuard$Des", "rounds", "(J[JZ)J"⟩ : Cond) ∈ uT := uni_mem (List.mem_of_getElem? (i := 10) (by decide +kernel)) rfl
theorem tw_11 : (Cond.selects "LineGuard$Des" ⟨"LineGuard$Des", "store", "(J)V"⟩ ⟨"LineGuard$Des", "store", "(J)V"⟩ : Cond) ∈ uT := uni_mem (List.mem_of_getElem? (i := 11) (by decide +kernel)) rfl
theorem tw_12 : (Cond.selects "LineGuard$NewerRule" ⟨"LineGuard$NewerRule", "doubleTurn", "()V"⟩ ⟨"LineGuard$NewerRule", "doubleTurn", "()V"⟩ : Cond) ∈ uT := uni_mem (List.mem_of_getElem? (i := 12) (by decide +kernel)) rfl
theorem tw_13 : (Cond.selects "LineGuard$OlderRule" ⟨"LineGuard$OlderRule", "sessionKey", "(LLineGuard$Row;IILLineGuard$Row;)V"⟩ ⟨"LineGuard$OlderRule", "sessionKey", "(LLineGuard$Row;IILLineGuard$Row;)V"⟩ : Cond) ∈ uT := uni_mem (List.mem_of_getElem? (i := 13) (by decide +kernel)) rfl
theorem tw_14 : (Cond.selects "LineGuard$OlderRule" ⟨"LineGuard$OlderRule", "retail", "(LLineGuard$Row;LLineGuard$Row;LLineGuard$Row;)V"⟩ ⟨"LineGuard$OlderRule", "retail", "(LLineGuard$Row;LLineGuard$Row;LLineGuard$Row;)V"⟩ : Cond) ∈ uT := uni_mem (List.mem_of_getElem? (i := 14) (by decide +kernel)) rfl
theorem tw_15 : (Cond.selects "LineGuard$OlderRule" ⟨"LineGuard$OlderRule", "mac3", "(LLineGuard$Row;LLineGuard$Row;)V"⟩ ⟨"LineGuard$OlderRule", "mac3", "(LLineGuard$Row;LLineGuard$Row;)V"⟩ : Cond) ∈ uT := uni_mem (List.mem_of_getElem? (i := 15) (by decide +kernel)) rfl
theorem tw_16 : (Cond.selects "LineGuard$NewerRule" ⟨"LineGuard$NewerRule", "hide", "(LLineGuard$Session;I)V"⟩ ⟨"LineGuard$NewerRule", "hide", "(LLineGuard$Session;I)V"⟩ : Cond) ∈ uT := uni_mem (List.mem_of_getElem? (i := 16) (by decide +kernel)) rfl
theorem tw_17 : (Cond.selects "LineGuard$NewerRule" ⟨"LineGuard$NewerRule", "startFromCount", "(LLineGuard$Session;I)V"⟩ ⟨"LineGuard$NewerRule", "startFromCount", "(LLineGuard$Session;I)V"⟩ : Cond) ∈ uT := uni_mem (List.mem_of_getElem? (i := 17) (by decide +kernel)) rfl
theorem tw_18 : (Cond.selects "LineGuard$NewerRule" ⟨"LineGuard$NewerRule", "chainCommand", "(LLineGuard$Session;LLineGuard$Row;)V"⟩ ⟨"LineGuard$NewerRule", "chainCommand", "(LLineGuard$Session;LLineGuard$Row;)V"⟩ : Cond) ∈ uT := uni_mem (List.mem_of_getElem? (i := 18) (by decide +kernel)) rfl
theorem tw_19 : (Cond.selects "LineGuard$OlderRule" ⟨"LineGuard$OlderRule", "chainCommand", "(LLineGuard$Session;)V"⟩ ⟨"LineGuard$OlderRule", "chainCommand", "(LLineGuard$Session;)V"⟩ : Cond) ∈ uT := uni_mem (List.mem_of_getElem? (i := 19) (by decide +kernel)) rfl
theorem tw_20 : (Cond.selects "LineGuard" ⟨"LineGuard", "isProving", "(LLineGuard$Rule;)Z"⟩ ⟨"LineGuard", "isProving", "(LLineGuard$Rule;)Z"⟩ : Cond) ∈ uT := uni_mem (List.mem_of_getElem? (i := 20) (by decide +kernel)) rfl
theorem tw_21 : (Cond.selects "LineGuard$NewerRule" ⟨"LineGuard$NewerRule", "show", "(LLineGuard$Session;I)Z"⟩ ⟨"LineGuard$NewerRule", "show", "(LLineGuard$Session;I)Z"⟩ : Cond) ∈ uT := uni_mem (List.mem_of_getElem? (i := 21) (by decide +kernel)) rfl
theorem tw_22 : (Cond.selects "LineGuard$OlderRule" ⟨"LineGuard$OlderRule", "show", "(LLineGuard$Session;)Z"⟩ ⟨"LineGuard$OlderRule", "show", "(LLineGuard$Session;)Z"⟩ : Cond) ∈ uT := uni_mem (List.mem_of_getElem? (i := 22) (by decide +kernel)) rfl
theorem tw_23 : (Cond.selects "LineGuard$NewerRule" ⟨"LineGuard$NewerRule", "codeAnswer", "(LLineGuard$Session;I)V"⟩ ⟨"LineGuard$NewerRule", "codeAnswer", "(LLineGuard$Session;I)V"⟩ : Cond) ∈ uT := uni_mem (List.mem_of_getElem? (i := 23) (by decide +kernel)) rfl
theorem tw_24 : (Cond.selects "LineGuard$OlderRule" ⟨"LineGuard$OlderRule", "codeAnswer", "(LLineGuard$Session;I)V"⟩ ⟨"LineGuard$OlderRule", "codeAnswer", "(LLineGuard$Session;I)V"⟩ : Cond) ∈ uT := uni_mem (List.mem_of_getElem? (i := 24) (by decide +kernel)) rfl
theorem tw_25 : (Cond.selects "LineGuard" ⟨"LineGuard", "sessionOf", "(I)LLineGuard$Session;"⟩ ⟨"LineGuard", "sessionOf", "(I)LLineGuard$Session;"⟩ : Cond) ∈ uT := uni_mem (List.mem_of_getElem? (i := 25) (by decide +kernel)) rfl
theorem tw_26 : (Cond.selects "LineGuardModel" ⟨"LineGuardModel", "makeBoxes", "()V"⟩ ⟨"LineGuardModel", "makeBoxes", "()V"⟩ : Cond) ∈ uT := uni_mem (List.mem_of_getElem? (i := 26) (by decide +kernel)) rfl
theorem tw_27 : (Cond.selects "LineGuardModel" ⟨"LineGuardModel", "putFour", "(I)V"⟩ ⟨"LineGuardModel", "putFour", "(I)V"⟩ : Cond) ∈ uT := uni_mem (List.mem_of_getElem? (i := 27) (by decide +kernel)) rfl
theorem tw_28 : (Cond.selects "LineGuardModel" ⟨"LineGuardModel", "use", "()I"⟩ ⟨"LineGuardModel", "use", "()I"⟩ : Cond) ∈ uT := uni_mem (List.mem_of_getElem? (i := 28) (by decide +kernel)) rfl
theorem tw_29 : (Cond.selects "LineGuardModel" ⟨"LineGuardModel", "none", "()V"⟩ ⟨"LineGuardModel", "none", "()V"⟩ : Cond) ∈ uT := uni_mem (List.mem_of_getElem? (i := 29) (by decide +kernel)) rfl
theorem tw_30 : (Cond.selects "LineGuardModel" ⟨"LineGuardModel", "make", "(IZ)V"⟩ ⟨"LineGuardModel", "make", "(IZ)V"⟩ : Cond) ∈ uT := uni_mem (List.mem_of_getElem? (i := 30) (by decide +kernel)) rfl
theorem tw_31 : (Cond.selects "LineGuardModel" ⟨"LineGuardModel", "made", "(IIII)V"⟩ ⟨"LineGuardModel", "made", "(IIII)V"⟩ : Cond) ∈ uT := uni_mem (List.mem_of_getElem? (i := 31) (by decide +kernel)) rfl
theorem tw_32 : (Cond.selects "LineGuardModel" ⟨"LineGuardModel", "des3", "([BI[BIZ)V"⟩ ⟨"LineGuardModel", "des3", "([BI[BIZ)V"⟩ : Cond) ∈ uT := uni_mem (List.mem_of_getElem? (i := 32) (by decide +kernel)) rfl
theorem tw_33 : (Cond.selects "LineGuardModel" ⟨"LineGuardModel", "des", "([BI[BIZ)V"⟩ ⟨"LineGuardModel", "des", "([BI[BIZ)V"⟩ : Cond) ∈ uT := uni_mem (List.mem_of_getElem? (i := 33) (by decide +kernel)) rfl
theorem tw_34 : (Cond.selects "LineGuardModel" ⟨"LineGuardModel", "desKey", "([BI)V"⟩ ⟨"LineGuardModel", "desKey", "([BI)V"⟩ : Cond) ∈ uT := uni_mem (List.mem_of_getElem? (i := 34) (by decide +kernel)) rfl
theorem tw_35 : (Cond.selects "LineGuardModel" ⟨"LineGuardModel", "fresh", "()V"⟩ ⟨"LineGuardModel", "fresh", "()V"⟩ : Cond) ∈ uT := uni_mem (List.mem_of_getElem? (i := 35) (by decide +kernel)) rfl
theorem tw_36 : (Cond.selects "LineGuardModel" ⟨"LineGuardModel", "addAll", "([BII)V"⟩ ⟨"LineGuardModel", "addAll", "([BII)V"⟩ : Cond) ∈ uT := uni_mem (List.mem_of_getElem? (i := 36) (by decide +kernel)) rfl
theorem tw_37 : (Cond.selects "LineGuardModel" ⟨"LineGuardModel", "add", "(I)V"⟩ ⟨"LineGuardModel", "add", "(I)V"⟩ : Cond) ∈ uT := uni_mem (List.mem_of_getElem? (i := 37) (by decide +kernel)) rfl
theorem tw_38 : (Cond.selects "LineGuardModel" ⟨"LineGuardModel", "retail", "([BI[BI)V"⟩ ⟨"LineGuardModel", "retail", "([BI[BI)V"⟩ : Cond) ∈ uT := uni_mem (List.mem_of_getElem? (i := 38) (by decide +kernel)) rfl
theorem tw_39 : (Cond.selects "LineGuardModel" ⟨"LineGuardModel", "fillUp", "(I)V"⟩ ⟨"LineGuardModel", "fillUp", "(I)V"⟩ : Cond) ∈ uT := uni_mem (List.mem_of_getElem? (i := 39) (by decide +kernel)) rfl
theorem tw_40 : (Cond.selects "LineGuardModel" ⟨"LineGuardModel", "proofOf", "(IZ)V"⟩ ⟨"LineGuardModel", "proofOf", "(IZ)V"⟩ : Cond) ∈ uT := uni_mem (List.mem_of_getElem? (i := 40) (by decide +kernel)) rfl
theorem tw_41 : (Cond.selects "LineGuardModel" ⟨"LineGuardModel", "mac3", "([BI)V"⟩ ⟨"LineGuardModel", "mac3", "([BI)V"⟩ : Cond) ∈ uT := uni_mem (List.mem_of_getElem? (i := 41) (by decide +kernel)) rfl
theorem tw_42 : (Cond.selects "LineGuardModel" ⟨"LineGuardModel", "kdf", "([BIIIII[BI)V"⟩ ⟨"LineGuardModel", "kdf", "([BIIIII[BI)V"⟩ : Cond) ∈ uT := uni_mem (List.mem_of_getElem? (i := 42) (by decide +kernel)) rfl
theorem tw_43 : (Cond.selects "LineGuardModel" ⟨"LineGuardModel", "cmac", "([BII)V"⟩ ⟨"LineGuardModel", "cmac", "([BII)V"⟩ : Cond) ∈ uT := uni_mem (List.mem_of_getElem? (i := 43) (by decide +kernel)) rfl
theorem tw_44 : (Cond.selects "LineGuardModel" ⟨"LineGuardModel", "aesKey", "([BII)V"⟩ ⟨"LineGuardModel", "aesKey", "([BII)V"⟩ : Cond) ∈ uT := uni_mem (List.mem_of_getElem? (i := 44) (by decide +kernel)) rfl
theorem tw_45 : (Cond.selects "LineGuardModel" ⟨"LineGuardModel", "aes", "([BIZ)V"⟩ ⟨"LineGuardModel", "aes", "([BIZ)V"⟩ : Cond) ∈ uT := uni_mem (List.mem_of_getElem? (i := 45) (by decide +kernel)) rfl
theorem tw_46 : (Cond.selects "LineGuardModel" ⟨"LineGuardModel", "addKey", "([BII)V"⟩ ⟨"LineGuardModel", "addKey", "([BII)V"⟩ : Cond) ∈ uT := uni_mem (List.mem_of_getElem? (i := 46) (by decide +kernel)) rfl
theorem tw_47 : (Cond.selects "LineGuardModel" ⟨"LineGuardModel", "mixColumns", "([BIIIII)V"⟩ ⟨"LineGuardModel", "mixColumns", "([BIIIII)V"⟩ : Cond) ∈ uT := uni_mem (List.mem_of_getElem? (i := 47) (by decide +kernel)) rfl
theorem tw_48 : (Cond.selects "LineGuardModel" ⟨"LineGuardModel", "aboutHost", "(I)V"⟩ ⟨"LineGuardModel", "aboutHost", "(I)V"⟩ : Cond) ∈ uT := uni_mem (List.mem_of_getElem? (i := 48) (by decide +kernel)) rfl
theorem tw_49 : (Cond.selects "LineGuardModel" ⟨"LineGuardModel", "commandMac", "(I[BI[BIIZ)V"⟩ ⟨"LineGuardModel", "commandMac", "(I[BI[BIIZ)V"⟩ : Cond) ∈ uT := uni_mem (List.mem_of_getElem? (i := 49) (by decide +kernel)) rfl
theorem tw_50 : (Cond.selects "LineGuardModel" ⟨"LineGuardModel", "addLength", "(I)V"⟩ ⟨"LineGuardModel", "addLength", "(I)V"⟩ : Cond) ∈ uT := uni_mem (List.mem_of_getElem? (i := 50) (by decide +kernel)) rfl
theorem tw_51 : (Cond.selects "LineGuardModel" ⟨"LineGuardModel", "opens", "(II)V"⟩ ⟨"LineGuardModel", "opens", "(II)V"⟩ : Cond) ∈ uT := uni_mem (List.mem_of_getElem? (i := 51) (by decide +kernel)) rfl
theorem tw_52 : (Cond.selects "LineGuardModel" ⟨"LineGuardModel", "keepCommand", "(I[BI)V"⟩ ⟨"LineGuardModel", "keepCommand", "(I[BI)V"⟩ : Cond) ∈ uT := uni_mem (List.mem_of_getElem? (i := 52) (by decide +kernel)) rfl
theorem tw_53 : (Cond.selects "LineGuardModel" ⟨"LineGuardModel", "hide", "(IIZ)I"⟩ ⟨"LineGuardModel", "hide", "(IIZ)I"⟩ : Cond) ∈ uT := uni_mem (List.mem_of_getElem? (i := 53) (by decide +kernel)) rfl
theorem tw_54 : (Cond.selects "LineGuardModel" ⟨"LineGuardModel", "blockOf", "(I)I"⟩ ⟨"LineGuardModel", "blockOf", "(I)I"⟩ : Cond) ∈ uT := uni_mem (List.mem_of_getElem? (i := 54) (by decide +kernel)) rfl
theorem tw_55 : (Cond.selects "LineGuardModel" ⟨"LineGuardModel", "first", "(IZ)V"⟩ ⟨"LineGuardModel", "first", "(IZ)V"⟩ : Cond) ∈ uT := uni_mem (List.mem_of_getElem? (i := 55) (by decide +kernel)) rfl
theorem tw_56 : (Cond.selects "LineGuardModel" ⟨"LineGuardModel", "one", "(I[BIZ)V"⟩ ⟨"LineGuardModel", "one", "(I[BIZ)V"⟩ : Cond) ∈ uT := uni_mem (List.mem_of_getElem? (i := 56) (by decide +kernel)) rfl
theorem tw_57 : (Cond.selects "LineGuardModel" ⟨"LineGuardModel", "proven", "(I)Z"⟩ ⟨"LineGuardModel", "proven", "(I)Z"⟩ : Cond) ∈ uT := uni_mem (List.mem_of_getElem? (i := 57) (by decide +kernel)) rfl
theorem tw_58 : (Cond.selects "LineGuardModel" ⟨"LineGuardModel", "isCode", "(I)Z"⟩ ⟨"LineGuardModel", "isCode", "(I)Z"⟩ : Cond) ∈ uT := uni_mem (List.mem_of_getElem? (i := 58) (by decide +kernel)) rfl
theorem tw_59 : (Cond.selects "LineGuardModel" ⟨"LineGuardModel", "opened", "(I)I"⟩ ⟨"LineGuardModel", "opened", "(I)I"⟩ : Cond) ∈ uT := uni_mem (List.mem_of_getElem? (i := 59) (by decide +kernel)) rfl
theorem tw_60 : (Cond.selects "LineGuardModel" ⟨"LineGuardModel", "plain", "(IIZ)I"⟩ ⟨"LineGuardModel", "plain", "(IIZ)I"⟩ : Cond) ∈ uT := uni_mem (List.mem_of_getElem? (i := 60) (by decide +kernel)) rfl
theorem tw_61 : (Cond.selects "LineGuardModel" ⟨"LineGuardModel", "answers", "(I)Z"⟩ ⟨"LineGuardModel", "answers", "(I)Z"⟩ : Cond) ∈ uT := uni_mem (List.mem_of_getElem? (i := 61) (by decide +kernel)) rfl
theorem tw_62 : (Cond.selects "LineGuardModel" ⟨"LineGuardModel", "answerMac", "(I[BII)V"⟩ ⟨"LineGuardModel", "answerMac", "(I[BII)V"⟩ : Cond) ∈ uT := uni_mem (List.mem_of_getElem? (i := 62) (by decide +kernel)) rfl
theorem tw_63 : (Cond.selects "LineGuardModel" ⟨"LineGuardModel", "wide", "(I)I"⟩ ⟨"LineGuardModel", "wide", "(I)I"⟩ : Cond) ∈ uT := uni_mem (List.mem_of_getElem? (i := 63) (by decide +kernel)) rfl
theorem tw_64 : (Cond.initialized "LineGuardLaw" : Cond) ∈ uT := uni_mem (tt1 (List.mem_of_getElem? (i := 0) (by decide +kernel))) rfl
theorem tw_65 : (Cond.initialized "LineGuard" : Cond) ∈ uT := uni_mem (tt1 (List.mem_of_getElem? (i := 1) (by decide +kernel))) rfl
theorem tw_66 : (Cond.initialized "LineGuard$Row" : Cond) ∈ uT := uni_mem (tt1 (List.mem_of_getElem? (i := 2) (by decide +kernel))) rfl
theorem tw_67 : (Cond.initialized "LineGuard$Keys" : Cond) ∈ uT := uni_mem (tt1 (List.mem_of_getElem? (i := 3) (by decide +kernel))) rfl
theorem tw_68 : (Cond.initialized "LineGuard$Session" : Cond) ∈ uT := uni_mem (tt1 (List.mem_of_getElem? (i := 4) (by decide +kernel))) rfl
theorem tw_69 : (Cond.initialized "LineGuard$Rule" : Cond) ∈ uT := uni_mem (tt1 (List.mem_of_getElem? (i := 5) (by decide +kernel))) rfl
theorem tw_70 : (Cond.initialized "LineGuard$OlderRule" : Cond) ∈ uT := uni_mem (tt1 (List.mem_of_getElem? (i := 6) (by decide +kernel))) rfl
theorem tw_71 : (Cond.initialized "LineGuard$BlockCipher" : Cond) ∈ uT := uni_mem (tt1 (List.mem_of_getElem? (i := 7) (by decide +kernel))) rfl
theorem tw_72 : (Cond.initialized "LineGuard$Des" : Cond) ∈ uT := uni_mem (tt1 (List.mem_of_getElem? (i := 8) (by decide +kernel))) rfl
theorem tw_73 : (Cond.initialized "LineGuard$NewerRule" : Cond) ∈ uT := uni_mem (tt1 (List.mem_of_getElem? (i := 9) (by decide +kernel))) rfl
theorem tw_74 : (Cond.initialized "LineGuard$Aes" : Cond) ∈ uT := uni_mem (tt1 (List.mem_of_getElem? (i := 10) (by decide +kernel))) rfl
theorem tw_75 : (Cond.initialized "LineGuardModel" : Cond) ∈ uT := uni_mem (tt1 (List.mem_of_getElem? (i := 11) (by decide +kernel))) rfl
theorem tw_76 : (Cond.classLink "LineGuardLaw" 7 "LineGuard" : Cond) ∈ uT := uni_mem (tt1 (List.mem_of_getElem? (i := 12) (by decide +kernel))) rfl
theorem tw_77 : (Cond.instantiable "LineGuard" 11 : Cond) ∈ uT := uni_mem (tt1 (List.mem_of_getElem? (i := 13) (by decide +kernel))) rfl
theorem tw_78 : (Cond.methodLink "LineGuardLaw" 9 ⟨"LineGuard", "<init>", "()V"⟩ : Cond) ∈ uT := uni_mem (tt1 (List.mem_of_getElem? (i := 14) (by decide +kernel))) rfl
theorem tw_79 : (Cond.instanceMethod ⟨"LineGuard", "<init>", "()V"⟩ : Cond) ∈ uT := uni_mem (tt1 (List.mem_of_getElem? (i := 15) (by decide +kernel))) rfl
theorem tw_80 : (Cond.code ⟨"LineGuard", "<init>", "()V"⟩ prog_1_method_1_code 1 none : Cond) ∈ uT := uni_mem (tt1 (List.mem_of_getElem? (i := 16) rfl)) rfl
theorem tw_81 : (Cond.methodLink "LineGuard" 1 ⟨"java/lang/Object", "<init>", "()V"⟩ : Cond) ∈ uT := uni_mem (tt1 (List.mem_of_getElem? (i := 17) (by decide +kernel))) rfl
theorem tw_82 : (Cond.instanceMethod ⟨"java/lang/Object", "<init>", "()V"⟩ : Cond) ∈ uT := uni_mem (tt1 (List.mem_of_getElem? (i := 18) (by decide +kernel))) rfl
theorem tw_83 : (Cond.code ⟨"java/lang/Object", "<init>", "()V"⟩ object_method_1_code 1 none : Cond) ∈ uT := uni_mem (tt1 (List.mem_of_getElem? (i := 19) rfl)) rfl
theorem tw_84 : (Cond.classLink "LineGuard" 7 "LineGuard$Row" : Cond) ∈ uT := uni_mem (tt1 (List.mem_of_getElem? (i := 20) (by decide +kernel))) rfl
theorem tw_85 : (Cond.instantiable "LineGuard$Row" 2 : Cond) ∈ uT := uni_mem (tt1 (List.mem_of_getElem? (i := 21) (by decide +kernel))) rfl
theorem tw_86 : (Cond.methodLink "LineGuard" 11 ⟨"LineGuard$Row", "<init>", "(I)V"⟩ : Cond) ∈ uT := uni_mem (tt1 (List.mem_of_getElem? (i := 22) (by decide +kernel))) rfl
theorem tw_87 : (Cond.instanceMethod ⟨"LineGuard$Row", "<init>", "(I)V"⟩ : Cond) ∈ uT := uni_mem (tt1 (List.mem_of_getElem? (i := 23) (by decide +kernel))) rfl
theorem tw_88 : (Cond.code ⟨"LineGuard$Row", "<init>", "(I)V"⟩ prog_8_method_1_code 2 none : Cond) ∈ uT := uni_mem (tt1 (List.mem_of_getElem? (i := 24) rfl)) rfl
theorem tw_89 : (Cond.methodLink "LineGuard$Row" 3 ⟨"java/lang/Object", "<init>", "()V"⟩ : Cond) ∈ uT := uni_mem (tt1 (List.mem_of_getElem? (i := 25) (by decide +kernel))) rfl
theorem tw_90 : (Cond.fieldLink "LineGuard$Row" 15 "LineGuard$Row" "bytes" "[I" : Cond) ∈ uT := uni_mem (tt1 (List.mem_of_getElem? (i := 26) (by decide +kernel))) rfl
theorem tw_91 : (Cond.fieldLink "LineGuard$Row" 9 "LineGuard$Row" "size" "I" : Cond) ∈ uT := uni_mem (tt1 (List.mem_of_getElem? (i := 27) (by decide +kernel))) rfl
theorem tw_96 : (Cond.superclass "LineGuard$Row" "java/lang/Object" : Cond) ∈ uT := uni_mem (tt1 (List.mem_of_getElem? (i := 32) (by decide +kernel))) rfl
theorem tw_97 : (Cond.arrayClass .int : Cond) ∈ uT := uni_mem (tt1 (List.mem_of_getElem? (i := 33) (by decide +kernel))) rfl
theorem tw_98 : (Cond.classLink "LineGuard" 27 "LineGuard$Keys" : Cond) ∈ uT := uni_mem (tt1 (List.mem_of_getElem? (i := 34) (by decide +kernel))) rfl
theorem tw_99 : (Cond.instantiable "LineGuard$Keys" 5 : Cond) ∈ uT := uni_mem (tt1 (List.mem_of_getElem? (i := 35) (by decide +kernel))) rfl
theorem tn_100 : (Cond.methodLinkNest "LineGuard" 29 ⟨"LineGuard$Keys", "<init>", "()V"⟩ "LineGuard" : Cond) ∈ lw_tbl := tt1 (List.mem_of_getElem? (i := 36) (by decide +kernel))
theorem tw_101 : (Cond.instanceMethod ⟨"LineGuard$Keys", "<init>", "()V"⟩ : Cond) ∈ uT := uni_mem (tt1 (List.mem_of_getElem? (i := 37) (by decide +kernel))) rfl
theorem tw_102 : (Cond.code ⟨"LineGuard$Keys", "<init>", "()V"⟩ prog_5_method_1_code 1 none : Cond) ∈ uT := uni_mem (tt1 (List.mem_of_getElem? (i := 38) rfl)) rfl
theorem tw_103 : (Cond.methodLink "LineGuard$Keys" 3 ⟨"java/lang/Object", "<init>", "()V"⟩ : Cond) ∈ uT := uni_mem (tt1 (List.mem_of_getElem? (i := 39) (by decide +kernel))) rfl
theorem tw_104 : (Cond.classLink "LineGuard$Keys" 18 "LineGuard$Row" : Cond) ∈ uT := uni_mem (tt1 (List.mem_of_getElem? (i := 40) (by decide +kernel))) rfl
theorem tw_105 : (Cond.methodLink "LineGuard$Keys" 20 ⟨"LineGuard$Row", "<init>", "(I)V"⟩ : Cond) ∈ uT := uni_mem (tt1 (List.mem_of_getElem? (i := 41) (by decide +kernel))) rfl
theorem tw_106 : (Cond.fieldLink "LineGuard$Keys" 9 "LineGuard$Keys" "rule" "I" : Cond) ∈ uT := uni_mem (tt1 (List.mem_of_getElem? (i := 42) (by decide +kernel))) rfl
theorem tn_107 : (Cond.fieldLinkNest "LineGuard" 103 "LineGuard$Keys" "rule" "I" "LineGuard" : Cond) ∈ lw_tbl := tt1 (List.mem_of_getElem? (i := 43) (by decide +kernel))
theorem tw_108 : (Cond.fieldLink "LineGuard$Keys" 15 "LineGuard$Keys" "length" "I" : Cond) ∈ uT := uni_mem (tt1 (List.mem_of_getElem? (i := 44) (by decide +kernel))) rfl
theorem tn_109 : (Cond.fieldLinkNest "LineGuard$NewerRule" 53 "LineGuard$Keys" "length" "I" "LineGuard" : Cond) ∈ lw_tbl := tt1 (List.mem_of_getElem? (i := 45) (by decide +kernel))
theorem tn_110 : (Cond.fieldLinkNest "LineGuard" 106 "LineGuard$Keys" "length" "I" "LineGuard" : Cond) ∈ lw_tbl := tt1 (List.mem_of_getElem? (i := 46) (by decide +kernel))
theorem tw_111 : (Cond.fieldLink "LineGuard$Keys" 23 "LineGuard$Keys" "enc" "LLineGuard$Row;" : Cond) ∈ uT := uni_mem (tt1 (List.mem_of_getElem? (i := 47) (by decide +kernel))) rfl
theorem tn_112 : (Cond.fieldLinkNest "LineGuard$NewerRule" 39 "LineGuard$Keys" "enc" "LLineGuard$Row;" "LineGuard" : Cond) ∈ lw_tbl := tt1 (List.mem_of_getElem? (i := 48) (by decide +kernel))
theorem tn_113 : (Cond.fieldLinkNest "LineGuard$OlderRule" 54 "LineGuard$Keys" "enc" "LLineGuard$Row;" "LineGuard" : Cond) ∈ lw_tbl := tt1 (List.mem_of_getElem? (i := 49) (by decide +kernel))
theorem tw_114 : (Cond.fieldLink "LineGuard$Keys" 27 "LineGuard$Keys" "mac" "LLineGuard$Row;" : Cond) ∈ uT := uni_mem (tt1 (List.mem_of_getElem? (i := 50) (by decide +kernel))) rfl
theorem tn_115 : (Cond.fieldLinkNest "LineGuard$OlderRule" 18 "LineGuard$Keys" "mac" "LLineGuard$Row;" "LineGuard" : Cond) ∈ lw_tbl := tt1 (List.mem_of_getElem? (i := 51) (by decide +kernel))
theorem tn_116 : (Cond.fieldLinkNest "LineGuard$NewerRule" 58 "LineGuard$Keys" "mac" "LLineGuard$Row;" "LineGuard" : Cond) ∈ lw_tbl := tt1 (List.mem_of_getElem? (i := 52) (by decide +kernel))
theorem tw_117 : (Cond.fieldLink "LineGuard$Keys" 30 "LineGuard$Keys" "seal" "LLineGuard$Row;" : Cond) ∈ uT := uni_mem (tt1 (List.mem_of_getElem? (i := 53) (by decide +kernel))) rfl
theorem tn_118 : (Cond.fieldLinkNest "LineGuard$OlderRule" 61 "LineGuard$Keys" "seal" "LLineGuard$Row;" "LineGuard" : Cond) ∈ lw_tbl := tt1 (List.mem_of_getElem? (i := 54) (by decide +kernel))
theorem tn_119 : (Cond.fieldLinkNest "LineGuard$NewerRule" 68 "LineGuard$Keys" "seal" "LLineGuard$Row;" "LineGuard" : Cond) ∈ lw_tbl := tt1 (List.mem_of_getElem? (i := 55) (by decide +kernel))
theorem tw_130 : (Cond.superclass "LineGuard$Keys" "java/lang/Object" : Cond) ∈ uT := uni_mem (tt1 (List.mem_of_getElem? (i := 66) (by decide +kernel))) rfl
theorem tw_131 : (Cond.classLink "LineGuard" 37 "LineGuard$Session" : Cond) ∈ uT := uni_mem (tt1 (List.mem_of_getElem? (i := 67) (by decide +kernel))) rfl
theorem tw_132 : (Cond.instantiable "LineGuard$Session" 14 : Cond) ∈ uT := uni_mem (tt1 (List.mem_of_getElem? (i := 68) (by decide +kernel))) rfl
theorem tn_133 : (Cond.methodLinkNest "LineGuard" 39 ⟨"LineGuard$Session", "<init>", "()V"⟩ "LineGuard" : Cond) ∈ lw_tbl := tt1 (List.mem_of_getElem? (i := 69) (by decide +kernel))
theorem tw_134 : (Cond.instanceMethod ⟨"LineGuard$Session", "<init>", "()V"⟩ : Cond) ∈ uT := uni_mem (tt1 (List.mem_of_getElem? (i := 70) (by decide +kernel))) rfl
theorem tw_135 : (Cond.code ⟨"LineGuard$Session", "<init>", "()V"⟩ prog_10_method_1_code 1 none : Cond) ∈ uT := uni_mem (tt1 (List.mem_of_getElem? (i := 71) rfl)) rfl
theorem tw_136 : (Cond.methodLink "LineGuard$Session" 3 ⟨"java/lang/Object", "<init>", "()V"⟩ : Cond) ∈ uT := uni_mem (tt1 (List.mem_of_getElem? (i := 72) (by decide +kernel))) rfl
theorem tw_137 : (Cond.classLink "LineGuard$Session" 18 "LineGuard$Row" : Cond) ∈ uT := uni_mem (tt1 (List.mem_of_getElem? (i := 73) (by decide +kernel))) rfl
theorem tw_138 : (Cond.methodLink "LineGuard$Session" 20 ⟨"LineGuard$Row", "<init>", "(I)V"⟩ : Cond) ∈ uT := uni_mem (tt1 (List.mem_of_getElem? (i := 74) (by decide +kernel))) rfl
theorem tw_139 : (Cond.fieldLink "LineGuard$Session" 9 "LineGuard$Session" "state" "I" : Cond) ∈ uT := uni_mem (tt1 (List.mem_of_getElem? (i := 75) (by decide +kernel))) rfl
theorem tn_140 : (Cond.fieldLinkNest "LineGuard" 139 "LineGuard$Session" "state" "I" "LineGuard" : Cond) ∈ lw_tbl := tt1 (List.mem_of_getElem? (i := 76) (by decide +kernel))
theorem tw_141 : (Cond.fieldLink "LineGuard$Session" 15 "LineGuard$Session" "level" "I" : Cond) ∈ uT := uni_mem (tt1 (List.mem_of_getElem? (i := 77) (by decide +kernel))) rfl
theorem tn_142 : (Cond.fieldLinkNest "LineGuard$Rule" 43 "LineGuard$Session" "level" "I" "LineGuard" : Cond) ∈ lw_tbl := tt1 (List.mem_of_getElem? (i := 78) (by decide +kernel))
theorem tn_143 : (Cond.fieldLinkNest "LineGuard" 216 "LineGuard$Session" "level" "I" "LineGuard" : Cond) ∈ lw_tbl := tt1 (List.mem_of_getElem? (i := 79) (by decide +kernel))
theorem tw_144 : (Cond.fieldLink "LineGuard$Session" 23 "LineGuard$Session" "enc" "LLineGuard$Row;" : Cond) ∈ uT := uni_mem (tt1 (List.mem_of_getElem? (i := 80) (by decide +kernel))) rfl
theorem tn_145 : (Cond.fieldLinkNest "LineGuard$OlderRule" 57 "LineGuard$Session" "enc" "LLineGuard$Row;" "LineGuard" : Cond) ∈ lw_tbl := tt1 (List.mem_of_getElem? (i := 81) (by decide +kernel))
theorem tn_146 : (Cond.fieldLinkNest "LineGuard$NewerRule" 57 "LineGuard$Session" "enc" "LLineGuard$Row;" "LineGuard" : Cond) ∈ lw_tbl := tt1 (List.mem_of_getElem? (i := 82) (by decide +kernel))
theorem tw_147 : (Cond.fieldLink "LineGuard$Session" 27 "LineGuard$Session" "mac" "LLineGuard$Row;" : Cond) ∈ uT := uni_mem (tt1 (List.mem_of_getElem? (i := 83) (by decide +kernel))) rfl
theorem tn_148 : (Cond.fieldLinkNest "LineGuard$OlderRule" 24 "LineGuard$Session" "mac" "LLineGuard$Row;" "LineGuard" : Cond) ∈ lw_tbl := tt1 (List.mem_of_getElem? (i := 84) (by decide +kernel))
theorem tn_149 : (Cond.fieldLinkNest "LineGuard$NewerRule" 61 "LineGuard$Session" "mac" "LLineGuard$Row;" "LineGuard" : Cond) ∈ lw_tbl := tt1 (List.mem_of_getElem? (i := 85) (by decide +kernel))
theorem tw_150 : (Cond.fieldLink "LineGuard$Session" 30 "LineGuard$Session" "back" "LLineGuard$Row;" : Cond) ∈ uT := uni_mem (tt1 (List.mem_of_getElem? (i := 86) (by decide +kernel))) rfl
theorem tn_151 : (Cond.fieldLinkNest "LineGuard$OlderRule" 58 "LineGuard$Session" "back" "LLineGuard$Row;" "LineGuard" : Cond) ∈ lw_tbl := tt1 (List.mem_of_getElem? (i := 87) (by decide +kernel))
theorem tn_152 : (Cond.fieldLinkNest "LineGuard$NewerRule" 62 "LineGuard$Session" "back" "LLineGuard$Row;" "LineGuard" : Cond) ∈ lw_tbl := tt1 (List.mem_of_getElem? (i := 88) (by decide +kernel))
theorem tw_153 : (Cond.fieldLink "LineGuard$Session" 33 "LineGuard$Session" "seal" "LLineGuard$Row;" : Cond) ∈ uT := uni_mem (tt1 (List.mem_of_getElem? (i := 89) (by decide +kernel))) rfl
theorem tn_154 : (Cond.fieldLinkNest "LineGuard$OlderRule" 64 "LineGuard$Session" "seal" "LLineGuard$Row;" "LineGuard" : Cond) ∈ lw_tbl := tt1 (List.mem_of_getElem? (i := 90) (by decide +kernel))
theorem tn_155 : (Cond.fieldLinkNest "LineGuard$NewerRule" 65 "LineGuard$Session" "seal" "LLineGuard$Row;" "LineGuard" : Cond) ∈ lw_tbl := tt1 (List.mem_of_getElem? (i := 91) (by decide +kernel))
theorem tn_156 : (Cond.fieldLinkNest "LineGuard" 205 "LineGuard$Session" "seal" "LLineGuard$Row;" "LineGuard" : Cond) ∈ lw_tbl := tt1 (List.mem_of_getElem? (i := 92) (by decide +kernel))
theorem tw_157 : (Cond.fieldLink "LineGuard$Session" 36 "LineGuard$Session" "holderProof" "LLineGuard$Row;" : Cond) ∈ uT := uni_mem (tt1 (List.mem_of_getElem? (i := 93) (by decide +kernel))) rfl
theorem tn_158 : (Cond.fieldLinkNest "LineGuard$NewerRule" 72 "LineGuard$Session" "holderProof" "LLineGuard$Row;" "LineGuard" : Cond) ∈ lw_tbl := tt1 (List.mem_of_getElem? (i := 94) (by decide +kernel))
theorem tn_159 : (Cond.fieldLinkNest "LineGuard$OlderRule" 75 "LineGuard$Session" "holderProof" "LLineGuard$Row;" "LineGuard" : Cond) ∈ lw_tbl := tt1 (List.mem_of_getElem? (i := 95) (by decide +kernel))
theorem tn_160 : (Cond.fieldLinkNest "LineGuard" 129 "LineGuard$Session" "holderProof" "LLineGuard$Row;" "LineGuard" : Cond) ∈ lw_tbl := tt1 (List.mem_of_getElem? (i := 96) (by decide +kernel))
theorem tw_161 : (Cond.fieldLink "LineGuard$Session" 39 "LineGuard$Session" "callerProof" "LLineGuard$Row;" : Cond) ∈ uT := uni_mem (tt1 (List.mem_of_getElem? (i := 97) (by decide +kernel))) rfl
theorem tn_162 : (Cond.fieldLinkNest "LineGuard$NewerRule" 75 "LineGuard$Session" "callerProof" "LLineGuard$Row;" "LineGuard" : Cond) ∈ lw_tbl := tt1 (List.mem_of_getElem? (i := 98) (by decide +kernel))
theorem tn_163 : (Cond.fieldLinkNest "LineGuard$OlderRule" 82 "LineGuard$Session" "callerProof" "LLineGuard$Row;" "LineGuard" : Cond) ∈ lw_tbl := tt1 (List.mem_of_getElem? (i := 99) (by decide +kernel))
theorem tn_164 : (Cond.fieldLinkNest "LineGuard" 151 "LineGuard$Session" "callerProof" "LLineGuard$Row;" "LineGuard" : Cond) ∈ lw_tbl := tt1 (List.mem_of_getElem? (i := 100) (by decide +kernel))
theorem tw_165 : (Cond.fieldLink "LineGuard$Session" 42 "LineGuard$Session" "challenge" "LLineGuard$Row;" : Cond) ∈ uT := uni_mem (tt1 (List.mem_of_getElem? (i := 101) (by decide +kernel))) rfl
theorem tn_166 : (Cond.fieldLinkNest "LineGuard$NewerRule" 44 "LineGuard$Session" "challenge" "LLineGuard$Row;" "LineGuard" : Cond) ∈ lw_tbl := tt1 (List.mem_of_getElem? (i := 102) (by decide +kernel))
theorem tn_167 : (Cond.fieldLinkNest "LineGuard$OlderRule" 43 "LineGuard$Session" "challenge" "LLineGuard$Row;" "LineGuard" : Cond) ∈ lw_tbl := tt1 (List.mem_of_getElem? (i := 103) (by decide +kernel))
theorem tn_168 : (Cond.fieldLinkNest "LineGuard" 126 "LineGuard$Session" "challenge" "LLineGuard$Row;" "LineGuard" : Cond) ∈ lw_tbl := tt1 (List.mem_of_getElem? (i := 104) (by decide +kernel))
theorem tw_169 : (Cond.fieldLink "LineGuard$Session" 45 "LineGuard$Session" "chain" "LLineGuard$Row;" : Cond) ∈ uT := uni_mem (tt1 (List.mem_of_getElem? (i := 105) (by decide +kernel))) rfl
theorem tn_170 : (Cond.fieldLinkNest "LineGuard$NewerRule" 101 "LineGuard$Session" "chain" "LLineGuard$Row;" "LineGuard" : Cond) ∈ lw_tbl := tt1 (List.mem_of_getElem? (i := 106) (by decide +kernel))
theorem tn_171 : (Cond.fieldLinkNest "LineGuard$OlderRule" 120 "LineGuard$Session" "chain" "LLineGuard$Row;" "LineGuard" : Cond) ∈ lw_tbl := tt1 (List.mem_of_getElem? (i := 107) (by decide +kernel))
theorem tw_172 : (Cond.fieldLink "LineGuard$Session" 48 "LineGuard$Session" "backChain" "LLineGuard$Row;" : Cond) ∈ uT := uni_mem (tt1 (List.mem_of_getElem? (i := 108) (by decide +kernel))) rfl
theorem tn_173 : (Cond.fieldLinkNest "LineGuard$OlderRule" 145 "LineGuard$Session" "backChain" "LLineGuard$Row;" "LineGuard" : Cond) ∈ lw_tbl := tt1 (List.mem_of_getElem? (i := 109) (by decide +kernel))
theorem tw_174 : (Cond.fieldLink "LineGuard$Session" 51 "LineGuard$Session" "command" "LLineGuard$Row;" : Cond) ∈ uT := uni_mem (tt1 (List.mem_of_getElem? (i := 110) (by decide +kernel))) rfl
theorem tn_175 : (Cond.fieldLinkNest "LineGuard$NewerRule" 78 "LineGuard$Session" "command" "LLineGuard$Row;" "LineGuard" : Cond) ∈ lw_tbl := tt1 (List.mem_of_getElem? (i := 111) (by decide +kernel))
theorem tn_176 : (Cond.fieldLinkNest "LineGuard$OlderRule" 92 "LineGuard$Session" "command" "LLineGuard$Row;" "LineGuard" : Cond) ∈ lw_tbl := tt1 (List.mem_of_getElem? (i := 112) (by decide +kernel))
theorem tn_177 : (Cond.fieldLinkNest "LineGuard" 145 "LineGuard$Session" "command" "LLineGuard$Row;" "LineGuard" : Cond) ∈ lw_tbl := tt1 (List.mem_of_getElem? (i := 113) (by decide +kernel))
theorem tw_178 : (Cond.fieldLink "LineGuard$Session" 54 "LineGuard$Session" "count" "I" : Cond) ∈ uT := uni_mem (tt1 (List.mem_of_getElem? (i := 114) (by decide +kernel))) rfl
theorem tn_179 : (Cond.fieldLinkNest "LineGuard$OlderRule" 166 "LineGuard$Session" "count" "I" "LineGuard" : Cond) ∈ lw_tbl := tt1 (List.mem_of_getElem? (i := 115) (by decide +kernel))
theorem tn_180 : (Cond.fieldLinkNest "LineGuard" 167 "LineGuard$Session" "count" "I" "LineGuard" : Cond) ∈ lw_tbl := tt1 (List.mem_of_getElem? (i := 116) (by decide +kernel))
theorem tn_181 : (Cond.fieldLinkNest "LineGuard$NewerRule" 184 "LineGuard$Session" "count" "I" "LineGuard" : Cond) ∈ lw_tbl := tt1 (List.mem_of_getElem? (i := 117) (by decide +kernel))
theorem tw_182 : (Cond.fieldLink "LineGuard$Session" 57 "LineGuard$Session" "commanded" "Z" : Cond) ∈ uT := uni_mem (tt1 (List.mem_of_getElem? (i := 118) (by decide +kernel))) rfl
theorem tn_183 : (Cond.fieldLinkNest "LineGuard" 170 "LineGuard$Session" "commanded" "Z" "LineGuard" : Cond) ∈ lw_tbl := tt1 (List.mem_of_getElem? (i := 119) (by decide +kernel))
theorem tw_212 : (Cond.superclass "LineGuard$Session" "java/lang/Object" : Cond) ∈ uT := uni_mem (tt1 (List.mem_of_getElem? (i := 148) (by decide +kernel))) rfl
theorem tw_213 : (Cond.classLink "LineGuard" 47 "LineGuard$OlderRule" : Cond) ∈ uT := uni_mem (tt1 (List.mem_of_getElem? (i := 149) (by decide +kernel))) rfl
theorem tw_214 : (Cond.instantiable "LineGuard$OlderRule" 6 : Cond) ∈ uT := uni_mem (tt1 (List.mem_of_getElem? (i := 150) (by decide +kernel))) rfl
theorem tn_215 : (Cond.methodLinkNest "LineGuard" 49 ⟨"LineGuard$OlderRule", "<init>", "()V"⟩ "LineGuard" : Cond) ∈ lw_tbl := tt1 (List.mem_of_getElem? (i := 151) (by decide +kernel))
theorem tw_216 : (Cond.instanceMethod ⟨"LineGuard$OlderRule", "<init>", "()V"⟩ : Cond) ∈ uT := uni_mem (tt1 (List.mem_of_getElem? (i := 152) (by decide +kernel))) rfl
theorem tw_217 : (Cond.code ⟨"LineGuard$OlderRule", "<init>", "()V"⟩ prog_7_method_1_code 1 none : Cond) ∈ uT := uni_mem (tt1 (List.mem_of_getElem? (i := 153) rfl)) rfl
theorem tw_218 : (Cond.methodLink "LineGuard$OlderRule" 3 ⟨"LineGuard$Rule", "<init>", "()V"⟩ : Cond) ∈ uT := uni_mem (tt1 (List.mem_of_getElem? (i := 154) (by decide +kernel))) rfl
theorem tw_219 : (Cond.instanceMethod ⟨"LineGuard$Rule", "<init>", "()V"⟩ : Cond) ∈ uT := uni_mem (tt1 (List.mem_of_getElem? (i := 155) (by decide +kernel))) rfl
theorem tw_220 : (Cond.code ⟨"LineGuard$Rule", "<init>", "()V"⟩ prog_9_method_1_code 1 none : Cond) ∈ uT := uni_mem (tt1 (List.mem_of_getElem? (i := 156) rfl)) rfl
theorem tw_221 : (Cond.methodLink "LineGuard$Rule" 3 ⟨"java/lang/Object", "<init>", "()V"⟩ : Cond) ∈ uT := uni_mem (tt1 (List.mem_of_getElem? (i := 157) (by decide +kernel))) rfl
theorem tw_222 : (Cond.classLink "LineGuard$Rule" 9 "LineGuard$Row" : Cond) ∈ uT := uni_mem (tt1 (List.mem_of_getElem? (i := 158) (by decide +kernel))) rfl
theorem tw_223 : (Cond.methodLink "LineGuard$Rule" 13 ⟨"LineGuard$Row", "<init>", "(I)V"⟩ : Cond) ∈ uT := uni_mem (tt1 (List.mem_of_getElem? (i := 159) (by decide +kernel))) rfl
theorem tw_224 : (Cond.methodLink "LineGuard$Rule" 32 ⟨"LineGuard$Row", "addZeros", "(I)V"⟩ : Cond) ∈ uT := uni_mem (tt1 (List.mem_of_getElem? (i := 160) (by decide +kernel))) rfl
theorem tw_225 : (Cond.instanceMethod ⟨"LineGuard$Row", "addZeros", "(I)V"⟩ : Cond) ∈ uT := uni_mem (tt1 (List.mem_of_getElem? (i := 161) (by decide +kernel))) rfl
theorem tw_226 : (Cond.selects "LineGuard$Row" ⟨"LineGuard$Row", "addZeros", "(I)V"⟩ ⟨"LineGuard$Row", "addZeros", "(I)V"⟩ : Cond) ∈ uT := uni_mem (tt1 (List.mem_of_getElem? (i := 162) (by decide +kernel))) rfl
theorem tw_227 : (Cond.code ⟨"LineGuard$Row", "addZeros", "(I)V"⟩ prog_8_method_9_code 3 none : Cond) ∈ uT := uni_mem (tt1 (List.mem_of_getElem? (i := 163) rfl)) rfl
theorem tw_228 : (Cond.methodLink "LineGuard$Row" 19 ⟨"LineGuard$Row", "add", "(I)V"⟩ : Cond) ∈ uT := uni_mem (tt1 (List.mem_of_getElem? (i := 164) (by decide +kernel))) rfl
theorem tw_229 : (Cond.instanceMethod ⟨"LineGuard$Row", "add", "(I)V"⟩ : Cond) ∈ uT := uni_mem (tt1 (List.mem_of_getElem? (i := 165) (by decide +kernel))) rfl
theorem tw_230 : (Cond.selects "LineGuard$Row" ⟨"LineGuard$Row", "add", "(I)V"⟩ ⟨"LineGuard$Row", "add", "(I)V"⟩ : Cond) ∈ uT := uni_mem (tt1 (List.mem_of_getElem? (i := 166) (by decide +kernel))) rfl
theorem tw_231 : (Cond.code ⟨"LineGuard$Row", "add", "(I)V"⟩ prog_8_method_7_code 2 none : Cond) ∈ uT := uni_mem (tt1 (List.mem_of_getElem? (i := 167) rfl)) rfl
theorem tw_232 : (Cond.classLink "LineGuard$OlderRule" 9 "LineGuard$Des" : Cond) ∈ uT := uni_mem (tt1 (List.mem_of_getElem? (i := 168) (by decide +kernel))) rfl
theorem tw_233 : (Cond.instantiable "LineGuard$Des" 6 : Cond) ∈ uT := uni_mem (tt1 (List.mem_of_getElem? (i := 169) (by decide +kernel))) rfl
theorem tw_234 : (Cond.methodLink "LineGuard$OlderRule" 11 ⟨"LineGuard$Des", "<init>", "()V"⟩ : Cond) ∈ uT := uni_mem (tt1 (List.mem_of_getElem? (i := 170) (by decide +kernel))) rfl
theorem tw_235 : (Cond.instanceMethod ⟨"LineGuard$Des", "<init>", "()V"⟩ : Cond) ∈ uT := uni_mem (tt1 (List.mem_of_getElem? (i := 171) (by decide +kernel))) rfl
theorem tw_236 : (Cond.code ⟨"LineGuard$Des", "<init>", "()V"⟩ prog_4_method_1_code 7 none : Cond) ∈ uT := uni_mem (tt1 (List.mem_of_getElem? (i := 172) rfl)) rfl
theorem tw_237 : (Cond.methodLink "LineGuard$Des" 1 ⟨"LineGuard$BlockCipher", "<init>", "(I)V"⟩ : Cond) ∈ uT := uni_mem (tt1 (List.mem_of_getElem? (i := 173) (by decide +kernel))) rfl
theorem tw_238 : (Cond.instanceMethod ⟨"LineGuard$BlockCipher", "<init>", "(I)V"⟩ : Cond) ∈ uT := uni_mem (tt1 (List.mem_of_getElem? (i := 174) (by decide +kernel))) rfl
theorem tw_239 : (Cond.code ⟨"LineGuard$BlockCipher", "<init>", "(I)V"⟩ prog_3_method_1_code 2 none : Cond) ∈ uT := uni_mem (tt1 (List.mem_of_getElem? (i := 175) rfl)) rfl
theorem tw_240 : (Cond.methodLink "LineGuard$BlockCipher" 1 ⟨"java/lang/Object", "<init>", "()V"⟩ : Cond) ∈ uT := uni_mem (tt1 (List.mem_of_getElem? (i := 176) (by decide +kernel))) rfl
theorem tw_241 : (Cond.fieldLink "LineGuard$Des" 24 "LineGuard$Des" "SPREAD" "[I" : Cond) ∈ uT := uni_mem (tt1 (List.mem_of_getElem? (i := 177) (by decide +kernel))) rfl
theorem tw_243 : (Cond.fieldLink "LineGuard$Des" 27 "LineGuard$Des" "BOXES" "[I" : Cond) ∈ uT := uni_mem (tt1 (List.mem_of_getElem? (i := 179) (by decide +kernel))) rfl
theorem tw_245 : (Cond.fieldLink "LineGuard$Des" 7 "LineGuard$Des" "spreadBoxes" "[I" : Cond) ∈ uT := uni_mem (tt1 (List.mem_of_getElem? (i := 181) (by decide +kernel))) rfl
theorem tw_246 : (Cond.fieldLink "LineGuard$Des" 13 "LineGuard$Des" "first" "[J" : Cond) ∈ uT := uni_mem (tt1 (List.mem_of_getElem? (i := 182) (by decide +kernel))) rfl
theorem tw_247 : (Cond.fieldLink "LineGuard$Des" 17 "LineGuard$Des" "second" "[J" : Cond) ∈ uT := uni_mem (tt1 (List.mem_of_getElem? (i := 183) (by decide +kernel))) rfl
theorem tw_248 : (Cond.fieldLink "LineGuard$Des" 20 "LineGuard$Des" "triple" "Z" : Cond) ∈ uT := uni_mem (tt1 (List.mem_of_getElem? (i := 184) (by decide +kernel))) rfl
theorem tw_249 : (Cond.fieldLink "LineGuard$BlockCipher" 7 "LineGuard$BlockCipher" "block" "[I" : Cond) ∈ uT := uni_mem (tt1 (List.mem_of_getElem? (i := 185) (by decide +kernel))) rfl
theorem tw_250 : (Cond.fieldLink "LineGuard$Aes" 62 "LineGuard$Aes" "block" "[I" : Cond) ∈ uT := uni_mem (tt1 (List.mem_of_getElem? (i := 186) (by decide +kernel))) rfl
theorem tw_251 : (Cond.sameField "LineGuard$Aes" "LineGuard$BlockCipher" "block" "[I" : Cond) ∈ uT := uni_mem (tt1 (List.mem_of_getElem? (i := 187) (by decide +kernel))) rfl
theorem tw_252 : (Cond.fieldLink "LineGuard$Des" 50 "LineGuard$Des" "block" "[I" : Cond) ∈ uT := uni_mem (tt1 (List.mem_of_getElem? (i := 188) (by decide +kernel))) rfl
theorem tw_253 : (Cond.sameField "LineGuard$Des" "LineGuard$BlockCipher" "block" "[I" : Cond) ∈ uT := uni_mem (tt1 (List.mem_of_getElem? (i := 189) (by decide +kernel))) rfl
theorem tw_254 : (Cond.fieldLink "LineGuard$BlockCipher" 13 "LineGuard$BlockCipher" "before" "[I" : Cond) ∈ uT := uni_mem (tt1 (List.mem_of_getElem? (i := 190) (by decide +kernel))) rfl
theorem tw_267 : (Cond.superclass "LineGuard$Des" "LineGuard$BlockCipher" : Cond) ∈ uT := uni_mem (tt1 (List.mem_of_getElem? (i := 203) (by decide +kernel))) rfl
theorem tw_268 : (Cond.arrayClass .long : Cond) ∈ uT := uni_mem (tt1 (List.mem_of_getElem? (i := 204) (by decide +kernel))) rfl
theorem tw_269 : (Cond.fieldLink "LineGuard$OlderRule" 12 "LineGuard$OlderRule" "des" "LLineGuard$Des;" : Cond) ∈ uT := uni_mem (tt1 (List.mem_of_getElem? (i := 205) (by decide +kernel))) rfl
theorem tw_270 : (Cond.fieldLink "LineGuard$Rule" 16 "LineGuard$Rule" "text" "LLineGuard$Row;" : Cond) ∈ uT := uni_mem (tt1 (List.mem_of_getElem? (i := 206) (by decide +kernel))) rfl
theorem tw_271 : (Cond.fieldLink "LineGuard$OlderRule" 31 "LineGuard$OlderRule" "text" "LLineGuard$Row;" : Cond) ∈ uT := uni_mem (tt1 (List.mem_of_getElem? (i := 207) (by decide +kernel))) rfl
theorem tw_272 : (Cond.sameField "LineGuard$OlderRule" "LineGuard$Rule" "text" "LLineGuard$Row;" : Cond) ∈ uT := uni_mem (tt1 (List.mem_of_getElem? (i := 208) (by decide +kernel))) rfl
theorem tw_273 : (Cond.fieldLink "LineGuard$NewerRule" 149 "LineGuard$NewerRule" "text" "LLineGuard$Row;" : Cond) ∈ uT := uni_mem (tt1 (List.mem_of_getElem? (i := 209) (by decide +kernel))) rfl
theorem tw_274 : (Cond.sameField "LineGuard$NewerRule" "LineGuard$Rule" "text" "LLineGuard$Row;" : Cond) ∈ uT := uni_mem (tt1 (List.mem_of_getElem? (i := 210) (by decide +kernel))) rfl
theorem tw_275 : (Cond.fieldLink "LineGuard$Rule" 20 "LineGuard$Rule" "data" "LLineGuard$Row;" : Cond) ∈ uT := uni_mem (tt1 (List.mem_of_getElem? (i := 211) (by decide +kernel))) rfl
theorem tw_276 : (Cond.fieldLink "LineGuard$NewerRule" 22 "LineGuard$NewerRule" "data" "LLineGuard$Row;" : Cond) ∈ uT := uni_mem (tt1 (List.mem_of_getElem? (i := 212) (by decide +kernel))) rfl
theorem tw_277 : (Cond.sameField "LineGuard$NewerRule" "LineGuard$Rule" "data" "LLineGuard$Row;" : Cond) ∈ uT := uni_mem (tt1 (List.mem_of_getElem? (i := 213) (by decide +kernel))) rfl
theorem tw_278 : (Cond.fieldLink "LineGuard$OlderRule" 89 "LineGuard$OlderRule" "data" "LLineGuard$Row;" : Cond) ∈ uT := uni_mem (tt1 (List.mem_of_getElem? (i := 214) (by decide +kernel))) rfl
theorem tw_279 : (Cond.sameField "LineGuard$OlderRule" "LineGuard$Rule" "data" "LLineGuard$Row;" : Cond) ∈ uT := uni_mem (tt1 (List.mem_of_getElem? (i := 215) (by decide +kernel))) rfl
theorem tw_280 : (Cond.fieldLink "LineGuard$Rule" 23 "LineGuard$Rule" "code" "LLineGuard$Row;" : Cond) ∈ uT := uni_mem (tt1 (List.mem_of_getElem? (i := 216) (by decide +kernel))) rfl
theorem tw_281 : (Cond.fieldLink "LineGuard$OlderRule" 148 "LineGuard$OlderRule" "code" "LLineGuard$Row;" : Cond) ∈ uT := uni_mem (tt1 (List.mem_of_getElem? (i := 217) (by decide +kernel))) rfl
theorem tw_282 : (Cond.sameField "LineGuard$OlderRule" "LineGuard$Rule" "code" "LLineGuard$Row;" : Cond) ∈ uT := uni_mem (tt1 (List.mem_of_getElem? (i := 218) (by decide +kernel))) rfl
theorem tw_283 : (Cond.fieldLink "LineGuard$NewerRule" 131 "LineGuard$NewerRule" "code" "LLineGuard$Row;" : Cond) ∈ uT := uni_mem (tt1 (List.mem_of_getElem? (i := 219) (by decide +kernel))) rfl
theorem tw_284 : (Cond.sameField "LineGuard$NewerRule" "LineGuard$Rule" "code" "LLineGuard$Row;" : Cond) ∈ uT := uni_mem (tt1 (List.mem_of_getElem? (i := 220) (by decide +kernel))) rfl
theorem tw_285 : (Cond.fieldLink "LineGuard$Rule" 26 "LineGuard$Rule" "iv" "LLineGuard$Row;" : Cond) ∈ uT := uni_mem (tt1 (List.mem_of_getElem? (i := 221) (by decide +kernel))) rfl
theorem tw_286 : (Cond.fieldLink "LineGuard$OlderRule" 163 "LineGuard$OlderRule" "iv" "LLineGuard$Row;" : Cond) ∈ uT := uni_mem (tt1 (List.mem_of_getElem? (i := 222) (by decide +kernel))) rfl
theorem tw_287 : (Cond.sameField "LineGuard$OlderRule" "LineGuard$Rule" "iv" "LLineGuard$Row;" : Cond) ∈ uT := uni_mem (tt1 (List.mem_of_getElem? (i := 223) (by decide +kernel))) rfl
theorem tw_288 : (Cond.fieldLink "LineGuard$NewerRule" 175 "LineGuard$NewerRule" "iv" "LLineGuard$Row;" : Cond) ∈ uT := uni_mem (tt1 (List.mem_of_getElem? (i := 224) (by decide +kernel))) rfl
theorem tw_289 : (Cond.sameField "LineGuard$NewerRule" "LineGuard$Rule" "iv" "LLineGuard$Row;" : Cond) ∈ uT := uni_mem (tt1 (List.mem_of_getElem? (i := 225) (by decide +kernel))) rfl
theorem tw_290 : (Cond.fieldLink "LineGuard$Rule" 29 "LineGuard$Rule" "zeros" "LLineGuard$Row;" : Cond) ∈ uT := uni_mem (tt1 (List.mem_of_getElem? (i := 226) (by decide +kernel))) rfl
theorem tw_291 : (Cond.fieldLink "LineGuard$OlderRule" 40 "LineGuard$OlderRule" "zeros" "LLineGuard$Row;" : Cond) ∈ uT := uni_mem (tt1 (List.mem_of_getElem? (i := 227) (by decide +kernel))) rfl
theorem tw_292 : (Cond.sameField "LineGuard$OlderRule" "LineGuard$Rule" "zeros" "LLineGuard$Row;" : Cond) ∈ uT := uni_mem (tt1 (List.mem_of_getElem? (i := 228) (by decide +kernel))) rfl
theorem tw_293 : (Cond.fieldLink "LineGuard$NewerRule" 137 "LineGuard$NewerRule" "zeros" "LLineGuard$Row;" : Cond) ∈ uT := uni_mem (tt1 (List.mem_of_getElem? (i := 229) (by decide +kernel))) rfl
theorem tw_294 : (Cond.sameField "LineGuard$NewerRule" "LineGuard$Rule" "zeros" "LLineGuard$Row;" : Cond) ∈ uT := uni_mem (tt1 (List.mem_of_getElem? (i := 230) (by decide +kernel))) rfl
theorem tw_307 : (Cond.superclass "LineGuard$OlderRule" "LineGuard$Rule" : Cond) ∈ uT := uni_mem (tt2 (List.mem_of_getElem? (i := 3) (by decide +kernel))) rfl
theorem tw_308 : (Cond.classLink "LineGuard" 54 "LineGuard$NewerRule" : Cond) ∈ uT := uni_mem (tt2 (List.mem_of_getElem? (i := 4) (by decide +kernel))) rfl
theorem tw_309 : (Cond.instantiable "LineGuard$NewerRule" 7 : Cond) ∈ uT := uni_mem (tt2 (List.mem_of_getElem? (i := 5) (by decide +kernel))) rfl
theorem tn_310 : (Cond.methodLinkNest "LineGuard" 56 ⟨"LineGuard$NewerRule", "<init>", "()V"⟩ "LineGuard" : Cond) ∈ lw_tbl := tt2 (List.mem_of_getElem? (i := 6) (by decide +kernel))
theorem tw_311 : (Cond.instanceMethod ⟨"LineGuard$NewerRule", "<init>", "()V"⟩ : Cond) ∈ uT := uni_mem (tt2 (List.mem_of_getElem? (i := 7) (by decide +kernel))) rfl
theorem tw_312 : (Cond.code ⟨"LineGuard$NewerRule", "<init>", "()V"⟩ prog_6_method_1_code 1 none : Cond) ∈ uT := uni_mem (tt2 (List.mem_of_getElem? (i := 8) rfl)) rfl
theorem tw_313 : (Cond.methodLink "LineGuard$NewerRule" 3 ⟨"LineGuard$Rule", "<init>", "()V"⟩ : Cond) ∈ uT := uni_mem (tt2 (List.mem_of_getElem? (i := 9) (by decide +kernel))) rfl
theorem tw_314 : (Cond.classLink "LineGuard$NewerRule" 9 "LineGuard$Aes" : Cond) ∈ uT := uni_mem (tt2 (List.mem_of_getElem? (i := 10) (by decide +kernel))) rfl
theorem tw_315 : (Cond.instantiable "LineGuard$Aes" 7 : Cond) ∈ uT := uni_mem (tt2 (List.mem_of_getElem? (i := 11) (by decide +kernel))) rfl
theorem tw_316 : (Cond.methodLink "LineGuard$NewerRule" 11 ⟨"LineGuard$Aes", "<init>", "()V"⟩ : Cond) ∈ uT := uni_mem (tt2 (List.mem_of_getElem? (i := 12) (by decide +kernel))) rfl
theorem tw_317 : (Cond.instanceMethod ⟨"LineGuard$Aes", "<init>", "()V"⟩ : Cond) ∈ uT := uni_mem (tt2 (List.mem_of_getElem? (i := 13) (by decide +kernel))) rfl
theorem tw_318 : (Cond.code ⟨"LineGuard$Aes", "<init>", "()V"⟩ prog_2_method_1_code 2 none : Cond) ∈ uT := uni_mem (tt2 (List.mem_of_getElem? (i := 14) rfl)) rfl
theorem tw_319 : (Cond.methodLink "LineGuard$Aes" 1 ⟨"LineGuard$BlockCipher", "<init>", "(I)V"⟩ : Cond) ∈ uT := uni_mem (tt2 (List.mem_of_getElem? (i := 15) (by decide +kernel))) rfl
theorem tw_320 : (Cond.fieldLink "LineGuard$Aes" 26 "LineGuard$Aes" "BOX" "[I" : Cond) ∈ uT := uni_mem (tt2 (List.mem_of_getElem? (i := 16) (by decide +kernel))) rfl
theorem tw_322 : (Cond.fieldLink "LineGuard$Aes" 7 "LineGuard$Aes" "boxBack" "[I" : Cond) ∈ uT := uni_mem (tt2 (List.mem_of_getElem? (i := 18) (by decide +kernel))) rfl
theorem tw_323 : (Cond.fieldLink "LineGuard$Aes" 13 "LineGuard$Aes" "words" "[I" : Cond) ∈ uT := uni_mem (tt2 (List.mem_of_getElem? (i := 19) (by decide +kernel))) rfl
theorem tw_324 : (Cond.fieldLink "LineGuard$Aes" 16 "LineGuard$Aes" "state" "[I" : Cond) ∈ uT := uni_mem (tt2 (List.mem_of_getElem? (i := 20) (by decide +kernel))) rfl
theorem tw_325 : (Cond.fieldLink "LineGuard$Aes" 19 "LineGuard$Aes" "boxed" "[I" : Cond) ∈ uT := uni_mem (tt2 (List.mem_of_getElem? (i := 21) (by decide +kernel))) rfl
theorem tw_326 : (Cond.fieldLink "LineGuard$Aes" 22 "LineGuard$Aes" "rounds" "I" : Cond) ∈ uT := uni_mem (tt2 (List.mem_of_getElem? (i := 22) (by decide +kernel))) rfl
theorem tw_339 : (Cond.superclass "LineGuard$Aes" "LineGuard$BlockCipher" : Cond) ∈ uT := uni_mem (tt2 (List.mem_of_getElem? (i := 35) (by decide +kernel))) rfl
theorem tw_340 : (Cond.fieldLink "LineGuard$NewerRule" 12 "LineGuard$NewerRule" "aes" "LLineGuard$Aes;" : Cond) ∈ uT := uni_mem (tt2 (List.mem_of_getElem? (i := 36) (by decide +kernel))) rfl
theorem tw_341 : (Cond.fieldLink "LineGuard$NewerRule" 18 "LineGuard$NewerRule" "turn" "[I" : Cond) ∈ uT := uni_mem (tt2 (List.mem_of_getElem? (i := 37) (by decide +kernel))) rfl
theorem tw_351 : (Cond.superclass "LineGuard$NewerRule" "LineGuard$Rule" : Cond) ∈ uT := uni_mem (tt2 (List.mem_of_getElem? (i := 47) (by decide +kernel))) rfl
theorem tw_352 : (Cond.fieldLink "LineGuard" 14 "LineGuard" "theTape" "LLineGuard$Row;" : Cond) ∈ uT := uni_mem (tt2 (List.mem_of_getElem? (i := 48) (by decide +kernel))) rfl
theorem tw_353 : (Cond.fieldLink "LineGuard" 18 "LineGuard" "theOut" "LLineGuard$Row;" : Cond) ∈ uT := uni_mem (tt2 (List.mem_of_getElem? (i := 49) (by decide +kernel))) rfl
theorem tw_354 : (Cond.fieldLink "LineGuard" 21 "LineGuard" "theLine" "LLineGuard$Row;" : Cond) ∈ uT := uni_mem (tt2 (List.mem_of_getElem? (i := 50) (by decide +kernel))) rfl
theorem tw_355 : (Cond.fieldLink "LineGuard" 24 "LineGuard" "theName" "LLineGuard$Row;" : Cond) ∈ uT := uni_mem (tt2 (List.mem_of_getElem? (i := 51) (by decide +kernel))) rfl
theorem tw_356 : (Cond.fieldLink "LineGuard" 30 "LineGuard" "callerKeys" "LLineGuard$Keys;" : Cond) ∈ uT := uni_mem (tt2 (List.mem_of_getElem? (i := 52) (by decide +kernel))) rfl
theorem tw_357 : (Cond.fieldLink "LineGuard" 34 "LineGuard" "holderKeys" "LLineGuard$Keys;" : Cond) ∈ uT := uni_mem (tt2 (List.mem_of_getElem? (i := 53) (by decide +kernel))) rfl
theorem tw_358 : (Cond.fieldLink "LineGuard" 40 "LineGuard" "caller" "LLineGuard$Session;" : Cond) ∈ uT := uni_mem (tt2 (List.mem_of_getElem? (i := 54) (by decide +kernel))) rfl
theorem tw_359 : (Cond.fieldLink "LineGuard" 44 "LineGuard" "holder" "LLineGuard$Session;" : Cond) ∈ uT := uni_mem (tt2 (List.mem_of_getElem? (i := 55) (by decide +kernel))) rfl
theorem tw_360 : (Cond.fieldLink "LineGuard" 50 "LineGuard" "older" "LLineGuard$Rule;" : Cond) ∈ uT := uni_mem (tt2 (List.mem_of_getElem? (i := 56) (by decide +kernel))) rfl
theorem tw_361 : (Cond.fieldLink "LineGuard" 57 "LineGuard" "newer" "LLineGuard$Rule;" : Cond) ∈ uT := uni_mem (tt2 (List.mem_of_getElem? (i := 57) (by decide +kernel))) rfl
theorem tw_362 : (Cond.fieldLink "LineGuard" 60 "LineGuard" "counterNow" "I" : Cond) ∈ uT := uni_mem (tt2 (List.mem_of_getElem? (i := 58) (by decide +kernel))) rfl
theorem tw_385 : (Cond.superclass "LineGuard" "java/lang/Object" : Cond) ∈ uT := uni_mem (tt2 (List.mem_of_getElem? (i := 81) (by decide +kernel))) rfl
theorem tw_386 : (Cond.methodLink "LineGuardLaw" 13 ⟨"LineGuard", "feed", "(IIIII)I"⟩ : Cond) ∈ uT := uni_mem (tt2 (List.mem_of_getElem? (i := 82) (by decide +kernel))) rfl
theorem tw_387 : (Cond.instanceMethod ⟨"LineGuard", "feed", "(IIIII)I"⟩ : Cond) ∈ uT := uni_mem (tt2 (List.mem_of_getElem? (i := 83) (by decide +kernel))) rfl
theorem tw_388 : (Cond.selects "LineGuard" ⟨"LineGuard", "feed", "(IIIII)I"⟩ ⟨"LineGuard", "feed", "(IIIII)I"⟩ : Cond) ∈ uT := uni_mem (tt2 (List.mem_of_getElem? (i := 84) (by decide +kernel))) rfl
theorem tw_389 : (Cond.code ⟨"LineGuard", "feed", "(IIIII)I"⟩ prog_1_method_2_code 6 (some .int) : Cond) ∈ uT := uni_mem (tt2 (List.mem_of_getElem? (i := 85) rfl)) rfl
theorem tw_390 : (Cond.methodLink "LineGuard" 64 ⟨"LineGuard$Row", "size", "()I"⟩ : Cond) ∈ uT := uni_mem (tt2 (List.mem_of_getElem? (i := 86) (by decide +kernel))) rfl
theorem tw_391 : (Cond.instanceMethod ⟨"LineGuard$Row", "size", "()I"⟩ : Cond) ∈ uT := uni_mem (tt2 (List.mem_of_getElem? (i := 87) (by decide +kernel))) rfl
theorem tw_392 : (Cond.selects "LineGuard$Row" ⟨"LineGuard$Row", "size", "()I"⟩ ⟨"LineGuard$Row", "size", "()I"⟩ : Cond) ∈ uT := uni_mem (tt2 (List.mem_of_getElem? (i := 88) (by decide +kernel))) rfl
theorem tw_393 : (Cond.code ⟨"LineGuard$Row", "size", "()I"⟩ prog_8_method_2_code 1 (some .int) : Cond) ∈ uT := uni_mem (tt2 (List.mem_of_getElem? (i := 89) rfl)) rfl
theorem tw_394 : (Cond.methodLink "LineGuard" 68 ⟨"LineGuard$Row", "addNumber", "(JI)V"⟩ : Cond) ∈ uT := uni_mem (tt2 (List.mem_of_getElem? (i := 90) (by decide +kernel))) rfl
theorem tw_395 : (Cond.instanceMethod ⟨"LineGuard$Row", "addNumber", "(JI)V"⟩ : Cond) ∈ uT := uni_mem (tt2 (List.mem_of_getElem? (i := 91) (by decide +kernel))) rfl
theorem tw_396 : (Cond.selects "LineGuard$Row" ⟨"LineGuard$Row", "addNumber", "(JI)V"⟩ ⟨"LineGuard$Row", "addNumber", "(JI)V"⟩ : Cond) ∈ uT := uni_mem (tt2 (List.mem_of_getElem? (i := 92) (by decide +kernel))) rfl
theorem tw_397 : (Cond.code ⟨"LineGuard$Row", "addNumber", "(JI)V"⟩ prog_8_method_8_code 5 none : Cond) ∈ uT := uni_mem (tt2 (List.mem_of_getElem? (i := 93) rfl)) rfl
theorem tw_398 : (Cond.methodLink "LineGuardLaw" 18 ⟨"LineGuard", "end", "(I)I"⟩ : Cond) ∈ uT := uni_mem (tt2 (List.mem_of_getElem? (i := 94) (by decide +kernel))) rfl
theorem tw_399 : (Cond.instanceMethod ⟨"LineGuard", "end", "(I)I"⟩ : Cond) ∈ uT := uni_mem (tt2 (List.mem_of_getElem? (i := 95) (by decide +kernel))) rfl
theorem tw_400 : (Cond.selects "LineGuard" ⟨"LineGuard", "end", "(I)I"⟩ ⟨"LineGuard", "end", "(I)I"⟩ : Cond) ∈ uT := uni_mem (tt2 (List.mem_of_getElem? (i := 96) (by decide +kernel))) rfl
theorem tw_401 : (Cond.code ⟨"LineGuard", "end", "(I)I"⟩ prog_1_method_3_code 2 (some .int) : Cond) ∈ uT := uni_mem (tt2 (List.mem_of_getElem? (i := 97) rfl)) rfl
theorem tw_402 : (Cond.methodLink "LineGuard" 72 ⟨"LineGuard$Row", "shorten", "(I)Z"⟩ : Cond) ∈ uT := uni_mem (tt2 (List.mem_of_getElem? (i := 98) (by decide +kernel))) rfl
