theorem tw_0 : (Cond.selects "LineGuard" ⟨"LineGuard", "keysOf", "(I)LLineGuard$Keys;"⟩ ⟨"LineGuard", "keysOf", "(I)LLineGuard$Keys;"⟩ : Cond) ∈ uT := uni_mem (List.mem_of_getElem? (i := 0) (by decide +kernel)) rfl
theorem tw_1 : (Cond.selects "LineGuard" ⟨"LineGuard", "forgetSessions", "()V"⟩ ⟨"LineGuard", "forgetSessions", "()V"⟩ : Cond) ∈ uT := uni_mem (List.mem_of_getElem? (i := 1) (by decide +kernel)) rfl
theorem tw_2 : (Cond.selects "LineGuard" ⟨"LineGuard", "ruleOf", "(LLineGuard$Keys;)LLineGuard$Rule;"⟩ ⟨"LineGuard", "ruleOf", "(LLineGuard$Keys;)LLineGuard$Rule;"⟩ : Cond) ∈ uT := uni_mem (List.mem_of_getElem? (i := 2) (by decide +kernel)) rfl
theorem tw_3 : (Cond.selects "LineGuard$NewerRule" ⟨"LineGuard$NewerRule", "derive", "(LLineGuard$Row;IILLineGuard$Row;)V"⟩ ⟨"LineGuard$NewerRule", "derive", "(LLineGuard$Row;IILLineGuard$Row;)V"⟩ : Cond) ∈ uT := uni_mem (List.mem_of_getElem? (i := 3) (by decide +kernel)) rfl
theorem tw_4 : (Cond.selects "LineGuard$NewerRule" ⟨"LineGuard$NewerRule", "cmac", "(LLineGuard$Row;LLineGuard$Row;)V"⟩ ⟨"LineGuard$NewerRule", "cmac", "(LLineGuard$Row;LLineGuard$Row;)V"⟩ : Cond) ∈ uT := uni_mem (List.mem_of_getElem? (i := 4) (by decide +kernel)) rfl
theorem tw_5 : (Cond.selects "LineGuard$Aes" ⟨"LineGuard$Aes", "load", "()V"⟩ ⟨"LineGuard$Aes", "load", "()V"⟩ : Cond) ∈ uT := uni_mem (List.mem_of_getElem? (i := 5) (by decide +kernel)) rfl
theorem tw_6 : (Cond.selects "LineGuard$Aes" ⟨"LineGuard$Aes", "addWords", "(I)V"⟩ ⟨"LineGuard$Aes", "addWords", "(I)V"⟩ : Cond) ∈ uT := uni_mem (List.mem_of_getElem? (i := 6) (by decide +kernel)) rfl
theorem tw_7 : (Cond.selects "LineGuard$Aes" ⟨"LineGuard$Aes", "boxShifted", "([II)V"⟩ ⟨"LineGuard$Aes", "boxShifted", "([II)V"⟩ : Cond) ∈ uT := uni_mem (List.mem_of_getElem? (i := 7) (by decide +kernel)) rfl
theorem tw_8 : (Cond.selects "LineGuard$Aes" ⟨"LineGuard$Aes", "store", "()V"⟩ ⟨"LineGuard$Aes", "store", "()V"⟩ : Cond) ∈ uT := uni_mem (List.mem_of_getElem? (i := 8) (by decide +kernel)) rfl
theorem tw_9 : (Cond.selects "LineGuard$Des" ⟨"LineGuard$Des", "load", "()J"⟩ ⟨"LineGuard$Des", "load", "()J"⟩ : Cond) ∈ uT := uni_mem (List.mem_of_getElem? (i := 9) (by decide +kernel)) rfl
theorem tw_10 : (Cond.selects "LineGuard$Des" ⟨"LineGuard$Des", "rounds", "(J[JZ)J"⟩ ⟨"LineGuard$Des", "rounds", "(J[JZ)J"⟩ : Cond) ∈ uT := uni_mem (List.mem_of_getElem? (i := 10) (by decide +kernel)) rfl
theorem tw_11 : (Cond.selects "LineGuard$Des" ⟨"LineGuard$Des", "store", "(J)V"⟩ ⟨"LineGuard$Des", "store", "(J)V"⟩ : Cond) ∈ uT := uni_mem (List.mem_of_getElem? (i := 11) (by decide +kernel)) rfl
theorem tw_12 : (Cond.selects "LineGuard$NewerRule" ⟨"LineGuard$NewerRule", "doubleTurn", "()V"⟩ ⟨"LineGuard$NewerRule", "doubleTurn", "()V"⟩ : Cond) ∈ uT := uni_mem (List.mem_of_getElem? (i := 12) (by decide +kernel)) rfl
theorem tw_13 : (Cond.selects "LineGuard$OlderRule" ⟨"LineGuard$OlderRule", "sessionKey", "(LLineGuard$Row;IILLineGuard$Row;)V"⟩ ⟨"LineGuard$OlderRule", "sessionKey", "(LLineGuard$Row;IILLineGuard$Row;)V"⟩ : Cond) ∈ uT := uni_mem (List.mem_of_getElem? (i := 13) (by decide +kernel)) rfl
theorem tw_14 : (Cond.selects "LineGuard$OlderRule" ⟨"LineGuard$OlderRule", "retail", "(LLineGuard$Row;LLineGuard$Row;LLineGuard$Row;)V"⟩ ⟨"LineGuard$OlderRule", "retail", "(LLineGuard$Row;LLineGuard$Row;LLineGuard$Row;)V"⟩ : Cond) ∈ uT := uni_mem (List.mem_of_getElem? (i := 14) (by decide +kernel)) rfl
theorem tw_15 : (Cond.selects "LineGuard$OlderRule" ⟨"LineGuard$OlderRule", "mac3", "(LLineGuard$Row;LLineGuard$Row;)V"⟩ ⟨"LineGuard$OlderRule", "mac3", "(LLineGuard$Row;LLineGuard$Row;)V"⟩ : Cond) ∈ uT := uni_mem (List.mem_of_getElem? (i := 15) (by decide +kernel)) rfl
theorem tw_16 : (Cond.selects "LineGuard$NewerRule" ⟨"LineGuard$NewerRule", "hide", "(LLineGuard$Session;I)V"⟩ ⟨"LineGuard$NewerRule", "hide", "(LLineGuard$Session;I)V"⟩ : Cond) ∈ uT := uni_mem (List.mem_of_getElem? (i := 16) (by decide +kernel)) rfl
theorem tw_17 : (Cond.selects "LineGuard$NewerRule" ⟨"LineGuard$NewerRule", "startFromCount", "(LLineGuard$Session;I)V"⟩ ⟨"LineGuard$NewerRule", "startFromCount", "(LLineGuard$Session;I)V"⟩ : Cond) ∈ uT := uni_mem (List.mem_of_getElem? (i := 17) (by decide +kernel)) rfl
theorem tw_18 : (Cond.selects "LineGuard$NewerRule" ⟨"LineGuard$NewerRule", "chainCommand", "(LLineGuard$Session;LLineGuard$Row;)V"⟩ ⟨"LineGuard$NewerRule", "chainCommand", "(LLineGuard$Session;LLineGuard$Row;)V"⟩ : Cond) ∈ uT := uni_mem (List.mem_of_getElem? (i := 18) (by decide +kernel)) rfl
theorem tw_19 : (Cond.selects "LineGuard$OlderRule" ⟨"LineGuard$OlderRule", "chainCommand", "(LLineGuard$Session;)V"⟩ ⟨"LineGuard$OlderRule", "chainCommand", "(LLineGuard$Session;)V"⟩ : Cond) ∈ uT := uni_mem (List.mem_of_getElem? (i := 19) (by decide +kernel)) rfl
theorem tw_20 : (Cond.selects "LineGuard" ⟨"LineGuard", "isProving", "(LLineGuard$Rule;)Z"⟩ ⟨"LineGuard", "isProving", "(LLineGuard$Rule;)Z"⟩ : Cond) ∈ uT := uni_mem (List.mem_of_getElem? (i := 20) (by decide +kernel)) rfl
theorem tw_21 : (Cond.selects "LineGuard$NewerRule" ⟨"LineGuard$NewerRule", "show", "(LLineGuard$Session;I)Z"⟩ ⟨"LineGuard$NewerRule", "show", "(LLineGuard$Session;I)Z"⟩ : Cond) ∈ uT := uni_mem (List.mem_of_getElem? (i := 21) (by decide +kernel)) rfl
theorem tw_22 : (Cond.selects "LineGuard$OlderRule" ⟨"LineGuard$OlderRule", "show", "(LLineGuard$Session;)Z"⟩ ⟨"LineGuard$OlderRule", "show", "(LLineGuard$Session;)Z"⟩ : Cond) ∈ uT := uni_mem (List.mem_of_getElem? (i := 22) (by decide +kernel)) rfl
theorem tw_23 : (Cond.selects "LineGuard$NewerRule" ⟨"LineGuard$NewerRule", "codeAnswer", "(LLineGuard$Session;I)V"⟩ ⟨"LineGuard$NewerRule", "codeAnswer", "(LLineGuard$Session;I)V"⟩ : Cond) ∈ uT := uni_mem (List.mem_of_getElem? (i := 23) (by decide +kernel)) rfl
theorem tw_24 : (Cond.selects "LineGuard$OlderRule" ⟨"LineGuard$OlderRule", "codeAnswer", "(LLineGuard$Session;I)V"⟩ ⟨"LineGuard$OlderRule", "codeAnswer", "(LLineGuard$Session;I)V"⟩ : Cond) ∈ uT := uni_mem (List.mem_of_getElem? (i := 24) (by decide +kernel)) rfl
theorem tw_25 : (Cond.selects "LineGuard" ⟨"LineGuard", "sessionOf", "(I)LLineGuard$Session;"⟩ ⟨"LineGuard", "sessionOf", "(I)LLineGuard$Session;"⟩ : Cond) ∈ uT := uni_mem (List.mem_of_getElem? (i := 25) (by decide +kernel)) rfl
theorem tw_26 : (Cond.selects "LineGuardModel" ⟨"LineGuardModel", "makeBoxes", "()V"⟩ ⟨"LineGuardModel", "makeBoxes", "()V"⟩ : Cond) ∈ uT := uni_mem (List.mem_of_getElem? (i := 26) (by decide +kernel)) rfl
theorem tw_27 : (Cond.selects "LineGuardModel" ⟨"LineGuardModel", "putFour", "(I)V"⟩ ⟨"LineGuardModel", "putFour", "(I)V"⟩ : Cond) ∈ uT := uni_mem (List.mem_of_getElem? (i := 27) (by decide +kernel)) rfl
theorem tw_28 : (Cond.selects "LineGuardModel" ⟨"LineGuardModel", "use", "()I"⟩ ⟨"LineGuardModel", "use", "()I"⟩ : Cond) ∈ uT := uni_mem (List.mem_of_getElem? (i := 28) (by decide +kernel)) rfl
theorem tw_29 : (Cond.selects "LineGuardModel" ⟨"LineGuardModel", "none", "()V"⟩ ⟨"LineGuardModel", "none", "()V"⟩ : Cond) ∈ uT := uni_mem (List.mem_of_getElem? (i := 29) (by decide +kernel)) rfl
theorem tw_30 : (Cond.selects "LineGuardModel" ⟨"LineGuardModel", "make", "(IZ)V"⟩ ⟨"LineGuardModel", "make", "(IZ)V"⟩ : Cond) ∈ uT := uni_mem (List.mem_of_getElem? (i := 30) (by decide +kernel)) rfl
theorem tw_31 : (Cond.selects "LineGuardModel" ⟨"LineGuardModel", "made", "(IIII)V"⟩ ⟨"LineGuardModel", "made", "(IIII)V"⟩ : Cond) ∈ uT := uni_mem (List.mem_of_getElem? (i := 31) (by decide +kernel)) rfl
theorem tw_32 : (Cond.selects "LineGuardModel" ⟨"LineGuardModel", "des3", "([BI[BIZ)V"⟩ ⟨"LineGuardModel", "des3", "([BI[BIZ)V"⟩ : Cond) ∈ uT := uni_mem (List.mem_of_getElem? (i := 32) (by decide +kernel)) rfl
theorem tw_33 : (Cond.selects "LineGuardModel" ⟨"LineGuardModel", "des", "([BI[BIZ)V"⟩ ⟨"LineGuardModel", "des", "([BI[BIZ)V"⟩ : Cond) ∈ uT := uni_mem (List.mem_of_getElem? (i := 33) (by decide +kernel)) rfl
theorem tw_34 : (Cond.selects "LineGuardModel" ⟨"LineGuardModel", "desKey", "([BI)V"⟩ ⟨"LineGuardModel", "desKey", "([BI)V"⟩ : Cond) ∈ uT := uni_mem (List.mem_of_getElem? (i := 34) (by decide +kernel)) rfl
theorem tw_35 : (Cond.selects "LineGuardModel" ⟨"LineGuardModel", "fresh", "()V"⟩ ⟨"LineGuardModel", "fresh", "()V"⟩ : Cond) ∈ uT := uni_mem (List.mem_of_getElem? (i := 35) (by decide +kernel)) rfl
theorem tw_36 : (Cond.selects "LineGuardModel" ⟨"LineGuardModel", "addAll", "([BII)V"⟩ ⟨"LineGuardModel", "addAll", "([BII)V"⟩ : Cond) ∈ uT := uni_mem (List.mem_of_getElem? (i := 36) (by decide +kernel)) rfl
theorem tw_37 : (Cond.selects "LineGuardModel" ⟨"LineGuardModel", "add", "(I)V"⟩ ⟨"LineGuardModel", "add", "(I)V"⟩ : Cond) ∈ uT := uni_mem (List.mem_of_getElem? (i := 37) (by decide +kernel)) rfl
theorem tw_38 : (Cond.selects "LineGuardModel" ⟨"LineGuardModel", "retail", "([BI[BI)V"⟩ ⟨"LineGuardModel", "retail", "([BI[BI)V"⟩ : Cond) ∈ uT := uni_mem (List.mem_of_getElem? (i := 38) (by decide +kernel)) rfl
theorem tw_39 : (Cond.selects "LineGuardModel" ⟨"LineGuardModel", "fillUp", "(I)V"⟩ ⟨"LineGuardModel", "fillUp", "(I)V"⟩ : Cond) ∈ uT := uni_mem (List.mem_of_getElem? (i := 39) (by decide +kernel)) rfl
theorem tw_40 : (Cond.selects "LineGuardModel" ⟨"LineGuardModel", "proofOf", "(IZ)V"⟩ ⟨"LineGuardModel", "proofOf", "(IZ)V"⟩ : Cond) ∈ uT := uni_mem (List.mem_of_getElem? (i := 40) (by decide +kernel)) rfl
theorem tw_41 : (Cond.selects "LineGuardModel" ⟨"LineGuardModel", "mac3", "([BI)V"⟩ ⟨"LineGuardModel", "mac3", "([BI)V"⟩ : Cond) ∈ uT := uni_mem (List.mem_of_getElem? (i := 41) (by decide +kernel)) rfl
theorem tw_42 : (Cond.selects "LineGuardModel" ⟨"LineGuardModel", "kdf", "([BIIIII[BI)V"⟩ ⟨"LineGuardModel", "kdf", "([BIIIII[BI)V"⟩ : Cond) ∈ uT := uni_mem (List.mem_of_getElem? (i := 42) (by decide +kernel)) rfl
theorem tw_43 : (Cond.selects "LineGuardModel" ⟨"LineGuardModel", "cmac", "([BII)V"⟩ ⟨"LineGuardModel", "cmac", "([BII)V"⟩ : Cond) ∈ uT := uni_mem (List.mem_of_getElem? (i := 43) (by decide +kernel)) rfl
theorem tw_44 : (Cond.selects "LineGuardModel" ⟨"LineGuardModel", "aesKey", "([BII)V"⟩ ⟨"LineGuardModel", "aesKey", "([BII)V"⟩ : Cond) ∈ uT := uni_mem (List.mem_of_getElem? (i := 44) (by decide +kernel)) rfl
theorem tw_45 : (Cond.selects "LineGuardModel" ⟨"LineGuardModel", "aes", "([BIZ)V"⟩ ⟨"LineGuardModel", "aes", "([BIZ)V"⟩ : Cond) ∈ uT := uni_mem (List.mem_of_getElem? (i := 45) (by decide +kernel)) rfl
theorem tw_46 : (Cond.selects "LineGuardModel" ⟨"LineGuardModel", "addKey", "([BII)V"⟩ ⟨"LineGuardModel", "addKey", "([BII)V"⟩ : Cond) ∈ uT := uni_mem (List.mem_of_getElem? (i := 46) (by decide +kernel)) rfl
theorem tw_47 : (Cond.selects "LineGuardModel" ⟨"LineGuardModel", "mixColumns", "([BIIIII)V"⟩ ⟨"LineGuardModel", "mixColumns", "([BIIIII)V"⟩ : Cond) ∈ uT := uni_mem (List.mem_of_getElem? (i := 47) (by decide +kernel)) rfl
theorem tw_48 : (Cond.selects "LineGuardModel" ⟨"LineGuardModel", "aboutHost", "(I)V"⟩ ⟨"LineGuardModel", "aboutHost", "(I)V"⟩ : Cond) ∈ uT := uni_mem (List.mem_of_getElem? (i := 48) (by decide +kernel)) rfl
theorem tw_49 : (Cond.selects "LineGuardModel" ⟨"LineGuardModel", "commandMac", "(I[BI[BIIZ)V"⟩ ⟨"LineGuardModel", "commandMac", "(I[BI[BIIZ)V"⟩ : Cond) ∈ uT := uni_mem (List.mem_of_getElem? (i := 49) (by decide +kernel)) rfl
theorem tw_50 : (Cond.selects "LineGuardModel" ⟨"LineGuardModel", "addLength", "(I)V"⟩ ⟨"LineGuardModel", "addLength", "(I)V"⟩ : Cond) ∈ uT := uni_mem (List.mem_of_getElem? (i := 50) (by decide +kernel)) rfl
theorem tw_51 : (Cond.selects "LineGuardModel" ⟨"LineGuardModel", "opens", "(II)V"⟩ ⟨"LineGuardModel", "opens", "(II)V"⟩ : Cond) ∈ uT := uni_mem (List.mem_of_getElem? (i := 51) (by decide +kernel)) rfl
theorem tw_52 : (Cond.selects "LineGuardModel" ⟨"LineGuardModel", "keepCommand", "(I[BI)V"⟩ ⟨"LineGuardModel", "keepCommand", "(I[BI)V"⟩ : Cond) ∈ uT := uni_mem (List.mem_of_getElem? (i := 52) (by decide +kernel)) rfl
theorem tw_53 : (Cond.selects "LineGuardModel" ⟨"LineGuardModel", "hide", "(IIZ)I"⟩ ⟨"LineGuardModel", "hide", "(IIZ)I"⟩ : Cond) ∈ uT := uni_mem (List.mem_of_getElem? (i := 53) (by decide +kernel)) rfl
theorem tw_54 : (Cond.selects "LineGuardModel" ⟨"LineGuardModel", "blockOf", "(I)I"⟩ ⟨"LineGuardModel", "blockOf", "(I)I"⟩ : Cond) ∈ uT := uni_mem (List.mem_of_getElem? (i := 54) (by decide +kernel)) rfl
theorem tw_55 : (Cond.selects "LineGuardModel" ⟨"LineGuardModel", "first", "(IZ)V"⟩ ⟨"LineGuardModel", "first", "(IZ)V"⟩ : Cond) ∈ uT := uni_mem (List.mem_of_getElem? (i := 55) (by decide +kernel)) rfl
theorem tw_56 : (Cond.selects "LineGuardModel" ⟨"LineGuardModel", "one", "(I[BIZ)V"⟩ ⟨"LineGuardModel", "one", "(I[BIZ)V"⟩ : Cond) ∈ uT := uni_mem (List.mem_of_getElem? (i := 56) (by decide +kernel)) rfl
theorem tw_57 : (Cond.selects "LineGuardModel" ⟨"LineGuardModel", "proven", "(I)Z"⟩ ⟨"LineGuardModel", "proven", "(I)Z"⟩ : Cond) ∈ uT := uni_mem (List.mem_of_getElem? (i := 57) (by decide +kernel)) rfl
theorem tw_58 : (Cond.selects "LineGuardModel" ⟨"LineGuardModel", "isCode", "(I)Z"⟩ ⟨"LineGuardModel", "isCode", "(I)Z"⟩ : Cond) ∈ uT := uni_mem (List.mem_of_getElem? (i := 58) (by decide +kernel)) rfl
theorem tw_59 : (Cond.selects "LineGuardModel" ⟨"LineGuardModel", "opened", "(I)I"⟩ ⟨"LineGuardModel", "opened", "(I)I"⟩ : Cond) ∈ uT := uni_mem (List.mem_of_getElem? (i := 59) (by decide +kernel)) rfl
theorem tw_60 : (Cond.selects "LineGuardModel" ⟨"LineGuardModel", "plain", "(IIZ)I"⟩ ⟨"LineGuardModel", "plain", "(IIZ)I"⟩ : Cond) ∈ uT := uni_mem (List.mem_of_getElem? (i := 60) (by decide +kernel)) rfl
theorem tw_61 : (Cond.selects "LineGuardModel" ⟨"LineGuardModel", "answers", "(I)Z"⟩ ⟨"LineGuardModel", "answers", "(I)Z"⟩ : Cond) ∈ uT := uni_mem (List.mem_of_getElem? (i := 61) (by decide +kernel)) rfl
theorem tw_62 : (Cond.selects "LineGuardModel" ⟨"LineGuardModel", "answerMac", "(I[BII)V"⟩ ⟨"LineGuardModel", "answerMac", "(I[BII)V"⟩ : Cond) ∈ uT := uni_mem (List.mem_of_getElem? (i := 62) (by decide +kernel)) rfl
theorem tw_63 : (Cond.selects "LineGuardModel" ⟨"LineGuardModel", "wide", "(I)I"⟩ ⟨"LineGuardModel", "wide", "(I)I"⟩ : Cond) ∈ uT := uni_mem (List.mem_of_getElem? (i := 63) (by decide +kernel)) rfl
theorem tw_64 : (Cond.initialized "LineGuardLaw" : Cond) ∈ uT := uni_mem (List.mem_of_getElem? (i := 64) (by decide +kernel)) rfl
theorem tw_65 : (Cond.initialized "LineGuard" : Cond) ∈ uT := uni_mem (List.mem_of_getElem? (i := 65) (by decide +kernel)) rfl
theorem tw_66 : (Cond.initialized "LineGuard$Row" : Cond) ∈ uT := uni_mem (List.mem_of_getElem? (i := 66) (by decide +kernel)) rfl
theorem tw_67 : (Cond.initialized "LineGuard$Keys" : Cond) ∈ uT := uni_mem (List.mem_of_getElem? (i := 67) (by decide +kernel)) rfl
theorem tw_68 : (Cond.initialized "LineGuard$Session" : Cond) ∈ uT := uni_mem (List.mem_of_getElem? (i := 68) (by decide +kernel)) rfl
theorem tw_69 : (Cond.initialized "LineGuard$Rule" : Cond) ∈ uT := uni_mem (List.mem_of_getElem? (i := 69) (by decide +kernel)) rfl
theorem tw_70 : (Cond.initialized "LineGuard$OlderRule" : Cond) ∈ uT := uni_mem (List.mem_of_getElem? (i := 70) (by decide +kernel)) rfl
theorem tw_71 : (Cond.initialized "LineGuard$BlockCipher" : Cond) ∈ uT := uni_mem (List.mem_of_getElem? (i := 71) (by decide +kernel)) rfl
theorem tw_72 : (Cond.initialized "LineGuard$Des" : Cond) ∈ uT := uni_mem (List.mem_of_getElem? (i := 72) (by decide +kernel)) rfl
theorem tw_73 : (Cond.initialized "LineGuard$NewerRule" : Cond) ∈ uT := uni_mem (List.mem_of_getElem? (i := 73) (by decide +kernel)) rfl
theorem tw_74 : (Cond.initialized "LineGuard$Aes" : Cond) ∈ uT := uni_mem (List.mem_of_getElem? (i := 74) (by decide +kernel)) rfl
theorem tw_75 : (Cond.initialized "LineGuardModel" : Cond) ∈ uT := uni_mem (List.mem_of_getElem? (i := 75) (by decide +kernel)) rfl
theorem tw_76 : (Cond.classLink "LineGuardLaw" 7 "LineGuard" : Cond) ∈ uT := uni_mem (List.mem_of_getElem? (i := 76) (by decide +kernel)) rfl
theorem tw_77 : (Cond.instantiable "LineGuard" 11 : Cond) ∈ uT := uni_mem (List.mem_of_getElem? (i := 77) (by decide +kernel)) rfl
theorem tw_78 : (Cond.methodLink "LineGuardLaw" 9 ⟨"LineGuard", "<init>", "()V"⟩ : Cond) ∈ uT := uni_mem (List.mem_of_getElem? (i := 78) (by decide +kernel)) rfl
theorem tw_79 : (Cond.instanceMethod ⟨"LineGuard", "<init>", "()V"⟩ : Cond) ∈ uT := uni_mem (List.mem_of_getElem? (i := 79) (by decide +kernel)) rfl
theorem tw_80 : (Cond.code ⟨"LineGuard", "<init>", "()V"⟩ prog_1_method_1_code 1 none : Cond) ∈ uT := uni_mem (List.mem_of_getElem? (i := 80) (by decide +kernel)) rfl
theorem tw_81 : (Cond.methodLink "LineGuard" 1 ⟨"java/lang/Object", "<init>", "()V"⟩ : Cond) ∈ uT := uni_mem (List.mem_of_getElem? (i := 81) (by decide +kernel)) rfl
theorem tw_82 : (Cond.instanceMethod ⟨"java/lang/Object", "<init>", "()V"⟩ : Cond) ∈ uT := uni_mem (List.mem_of_getElem? (i := 82) (by decide +kernel)) rfl
theorem tw_83 : (Cond.code ⟨"java/lang/Object", "<init>", "()V"⟩ object_method_1_code 1 none : Cond) ∈ uT := uni_mem (List.mem_of_getElem? (i := 83) (by decide +kernel)) rfl
theorem tw_84 : (Cond.classLink "LineGuard" 7 "LineGuard$Row" : Cond) ∈ uT := uni_mem (List.mem_of_getElem? (i := 84) (by decide +kernel)) rfl
theorem tw_85 : (Cond.instantiable "LineGuard$Row" 2 : Cond) ∈ uT := uni_mem (List.mem_of_getElem? (i := 85) (by decide +kernel)) rfl
theorem tw_86 : (Cond.methodLink "LineGuard" 11 ⟨"LineGuard$Row", "<init>", "(I)V"⟩ : Cond) ∈ uT := uni_mem (List.mem_of_getElem? (i := 86) (by decide +kernel)) rfl
theorem tw_87 : (Cond.instanceMethod ⟨"LineGuard$Row", "<init>", "(I)V"⟩ : Cond) ∈ uT := uni_mem (List.mem_of_getElem? (i := 87) (by decide +kernel)) rfl
theorem tw_88 : (Cond.code ⟨"LineGuard$Row", "<init>", "(I)V"⟩ prog_8_method_1_code 2 none : Cond) ∈ uT := uni_mem (List.mem_of_getElem? (i := 88) (by decide +kernel)) rfl
theorem tw_89 : (Cond.methodLink "LineGuard$Row" 3 ⟨"java/lang/Object", "<init>", "()V"⟩ : Cond) ∈ uT := uni_mem (List.mem_of_getElem? (i := 89) (by decide +kernel)) rfl
theorem tw_90 : (Cond.fieldLink "LineGuard$Row" 15 "LineGuard$Row" "bytes" "[I" : Cond) ∈ uT := uni_mem (List.mem_of_getElem? (i := 90) (by decide +kernel)) rfl
theorem tw_91 : (Cond.fieldLink "LineGuard$Row" 9 "LineGuard$Row" "size" "I" : Cond) ∈ uT := uni_mem (List.mem_of_getElem? (i := 91) (by decide +kernel)) rfl
theorem tw_96 : (Cond.superclass "LineGuard$Row" "java/lang/Object" : Cond) ∈ uT := uni_mem (List.mem_of_getElem? (i := 96) (by decide +kernel)) rfl
theorem tw_97 : (Cond.arrayClass .int : Cond) ∈ uT := uni_mem (List.mem_of_getElem? (i := 97) (by decide +kernel)) rfl
theorem tw_98 : (Cond.classLink "LineGuard" 27 "LineGuard$Keys" : Cond) ∈ uT := uni_mem (List.mem_of_getElem? (i := 98) (by decide +kernel)) rfl
theorem tw_99 : (Cond.instantiable "LineGuard$Keys" 5 : Cond) ∈ uT := uni_mem (List.mem_of_getElem? (i := 99) (by decide +kernel)) rfl
theorem tw_100 : (Cond.methodLinkNest "LineGuard" 29 ⟨"LineGuard$Keys", "<init>", "()V"⟩ "LineGuard" : Cond) ∈ uT := uni_mem (List.mem_of_getElem? (i := 100) (by decide +kernel)) rfl
theorem tw_101 : (Cond.instanceMethod ⟨"LineGuard$Keys", "<init>", "()V"⟩ : Cond) ∈ uT := uni_mem (List.mem_of_getElem? (i := 101) (by decide +kernel)) rfl
theorem tw_102 : (Cond.code ⟨"LineGuard$Keys", "<init>", "()V"⟩ prog_5_method_1_code 1 none : Cond) ∈ uT := uni_mem (List.mem_of_getElem? (i := 102) (by decide +kernel)) rfl
theorem tw_103 : (Cond.methodLink "LineGuard$Keys" 3 ⟨"java/lang/Object", "<init>", "()V"⟩ : Cond) ∈ uT := uni_mem (List.mem_of_getElem? (i := 103) (by decide +kernel)) rfl
theorem tw_104 : (Cond.classLink "LineGuard$Keys" 18 "LineGuard$Row" : Cond) ∈ uT := uni_mem (List.mem_of_getElem? (i := 104) (by decide +kernel)) rfl
theorem tw_105 : (Cond.methodLink "LineGuard$Keys" 20 ⟨"LineGuard$Row", "<init>", "(I)V"⟩ : Cond) ∈ uT := uni_mem (List.mem_of_getElem? (i := 105) (by decide +kernel)) rfl
theorem tw_106 : (Cond.fieldLink "LineGuard$Keys" 9 "LineGuard$Keys" "rule" "I" : Cond) ∈ uT := uni_mem (List.mem_of_getElem? (i := 106) (by decide +kernel)) rfl
theorem tw_107 : (Cond.fieldLinkNest "LineGuard" 103 "LineGuard$Keys" "rule" "I" "LineGuard" : Cond) ∈ uT := uni_mem (List.mem_of_getElem? (i := 107) (by decide +kernel)) rfl
theorem tw_108 : (Cond.fieldLink "LineGuard$Keys" 15 "LineGuard$Keys" "length" "I" : Cond) ∈ uT := uni_mem (List.mem_of_getElem? (i := 108) (by decide +kernel)) rfl
theorem tw_109 : (Cond.fieldLinkNest "LineGuard$NewerRule" 53 "LineGuard$Keys" "length" "I" "LineGuard" : Cond) ∈ uT := uni_mem (List.mem_of_getElem? (i := 109) (by decide +kernel)) rfl
theorem tw_110 : (Cond.fieldLinkNest "LineGuard" 106 "LineGuard$Keys" "length" "I" "LineGuard" : Cond) ∈ uT := uni_mem (List.mem_of_getElem? (i := 110) (by decide +kernel)) rfl
theorem tw_111 : (Cond.fieldLink "LineGuard$Keys" 23 "LineGuard$Keys" "enc" "LLineGuard$Row;" : Cond) ∈ uT := uni_mem (List.mem_of_getElem? (i := 111) (by decide +kernel)) rfl
theorem tw_112 : (Cond.fieldLinkNest "LineGuard$NewerRule" 39 "LineGuard$Keys" "enc" "LLineGuard$Row;" "LineGuard" : Cond) ∈ uT := uni_mem (List.mem_of_getElem? (i := 112) (by decide +kernel)) rfl
theorem tw_113 : (Cond.fieldLinkNest "LineGuard$OlderRule" 54 "LineGuard$Keys" "enc" "LLineGuard$Row;" "LineGuard" : Cond) ∈ uT := uni_mem (List.mem_of_getElem? (i := 113) (by decide +kernel)) rfl
theorem tw_114 : (Cond.fieldLink "LineGuard$Keys" 27 "LineGuard$Keys" "mac" "LLineGuard$Row;" : Cond) ∈ uT := uni_mem (List.mem_of_getElem? (i := 114) (by decide +kernel)) rfl
theorem tw_115 : (Cond.fieldLinkNest "LineGuard$OlderRule" 18 "LineGuard$Keys" "mac" "LLineGuard$Row;" "LineGuard" : Cond) ∈ uT := uni_mem (List.mem_of_getElem? (i := 115) (by decide +kernel)) rfl
theorem tw_116 : (Cond.fieldLinkNest "LineGuard$NewerRule" 58 "LineGuard$Keys" "mac" "LLineGuard$Row;" "LineGuard" : Cond) ∈ uT := uni_mem (List.mem_of_getElem? (i := 116) (by decide +kernel)) rfl
theorem tw_117 : (Cond.fieldLink "LineGuard$Keys" 30 "LineGuard$Keys" "seal" "LLineGuard$Row;" : Cond) ∈ uT := uni_mem (List.mem_of_getElem? (i := 117) (by decide +kernel)) rfl
theorem tw_118 : (Cond.fieldLinkNest "LineGuard$OlderRule" 61 "LineGuard$Keys" "seal" "LLineGuard$Row;" "LineGuard" : Cond) ∈ uT := uni_mem (List.mem_of_getElem? (i := 118) (by decide +kernel)) rfl
theorem tw_119 : (Cond.fieldLinkNest "LineGuard$NewerRule" 68 "LineGuard$Keys" "seal" "LLineGuard$Row;" "LineGuard" : Cond) ∈ uT := uni_mem (List.mem_of_getElem? (i := 119) (by decide +kernel)) rfl
theorem tw_130 : (Cond.superclass "LineGuard$Keys" "java/lang/Object" : Cond) ∈ uT := uni_mem (List.mem_of_getElem? (i := 130) (by decide +kernel)) rfl
theorem tw_131 : (Cond.classLink "LineGuard" 37 "LineGuard$Session" : Cond) ∈ uT := uni_mem (List.mem_of_getElem? (i := 131) (by decide +kernel)) rfl
theorem tw_132 : (Cond.instantiable "LineGuard$Session" 14 : Cond) ∈ uT := uni_mem (List.mem_of_getElem? (i := 132) (by decide +kernel)) rfl
theorem tw_133 : (Cond.methodLinkNest "LineGuard" 39 ⟨"LineGuard$Session", "<init>", "()V"⟩ "LineGuard" : Cond) ∈ uT := uni_mem (List.mem_of_getElem? (i := 133) (by decide +kernel)) rfl
theorem tw_134 : (Cond.instanceMethod ⟨"LineGuard$Session", "<init>", "()V"⟩ : Cond) ∈ uT := uni_mem (List.mem_of_getElem? (i := 134) (by decide +kernel)) rfl
theorem tw_135 : (Cond.code ⟨"LineGuard$Session", "<init>", "()V"⟩ prog_10_method_1_code 1 none : Cond) ∈ uT := uni_mem (List.mem_of_getElem? (i := 135) (by decide +kernel)) rfl
theorem tw_136 : (Cond.methodLink "LineGuard$Session" 3 ⟨"java/lang/Object", "<init>", "()V"⟩ : Cond) ∈ uT := uni_mem (List.mem_of_getElem? (i := 136) (by decide +kernel)) rfl
theorem tw_137 : (Cond.classLink "LineGuard$Session" 18 "LineGuard$Row" : Cond) ∈ uT := uni_mem (List.mem_of_getElem? (i := 137) (by decide +kernel)) rfl
theorem tw_138 : (Cond.methodLink "LineGuard$Session" 20 ⟨"LineGuard$Row", "<init>", "(I)V"⟩ : Cond) ∈ uT := uni_mem (List.mem_of_getElem? (i := 138) (by decide +kernel)) rfl
theorem tw_139 : (Cond.fieldLink "LineGuard$Session" 9 "LineGuard$Session" "state" "I" : Cond) ∈ uT := uni_mem (List.mem_of_getElem? (i := 139) (by decide +kernel)) rfl
theorem tw_140 : (Cond.fieldLinkNest "LineGuard" 139 "LineGuard$Session" "state" "I" "LineGuard" : Cond) ∈ uT := uni_mem (List.mem_of_getElem? (i := 140) (by decide +kernel)) rfl
theorem tw_141 : (Cond.fieldLink "LineGuard$Session" 15 "LineGuard$Session" "level" "I" : Cond) ∈ uT := uni_mem (List.mem_of_getElem? (i := 141) (by decide +kernel)) rfl
theorem tw_142 : (Cond.fieldLinkNest "LineGuard$Rule" 43 "LineGuard$Session" "level" "I" "LineGuard" : Cond) ∈ uT := uni_mem (List.mem_of_getElem? (i := 142) (by decide +kernel)) rfl
theorem tw_143 : (Cond.fieldLinkNest "LineGuard" 216 "LineGuard$Session" "level" "I" "LineGuard" : Cond) ∈ uT := uni_mem (List.mem_of_getElem? (i := 143) (by decide +kernel)) rfl
theorem tw_144 : (Cond.fieldLink "LineGuard$Session" 23 "LineGuard$Session" "enc" "LLineGuard$Row;" : Cond) ∈ uT := uni_mem (List.mem_of_getElem? (i := 144) (by decide +kernel)) rfl
theorem tw_145 : (Cond.fieldLinkNest "LineGuard$OlderRule" 57 "LineGuard$Session" "enc" "LLineGuard$Row;" "LineGuard" : Cond) ∈ uT := uni_mem (List.mem_of_getElem? (i := 145) (by decide +kernel)) rfl
theorem tw_146 : (Cond.fieldLinkNest "LineGuard$NewerRule" 57 "LineGuard$Session" "enc" "LLineGuard$Row;" "LineGuard" : Cond) ∈ uT := uni_mem (List.mem_of_getElem? (i := 146) (by decide +kernel)) rfl
theorem tw_147 : (Cond.fieldLink "LineGuard$Session" 27 "LineGuard$Session" "mac" "LLineGuard$Row;" : Cond) ∈ uT := uni_mem (List.mem_of_getElem? (i := 147) (by decide +kernel)) rfl
theorem tw_148 : (Cond.fieldLinkNest "LineGuard$OlderRule" 24 "LineGuard$Session" "mac" "LLineGuard$Row;" "LineGuard" : Cond) ∈ uT := uni_mem (List.mem_of_getElem? (i := 148) (by decide +kernel)) rfl
theorem tw_149 : (Cond.fieldLinkNest "LineGuard$NewerRule" 61 "LineGuard$Session" "mac" "LLineGuard$Row;" "LineGuard" : Cond) ∈ uT := uni_mem (List.mem_of_getElem? (i := 149) (by decide +kernel)) rfl
theorem tw_150 : (Cond.fieldLink "LineGuard$Session" 30 "LineGuard$Session" "back" "LLineGuard$Row;" : Cond) ∈ uT := uni_mem (List.mem_of_getElem? (i := 150) (by decide +kernel)) rfl
theorem tw_151 : (Cond.fieldLinkNest "LineGuard$OlderRule" 58 "LineGuard$Session" "back" "LLineGuard$Row;" "LineGuard" : Cond) ∈ uT := uni_mem (List.mem_of_getElem? (i := 151) (by decide +kernel)) rfl
theorem tw_152 : (Cond.fieldLinkNest "LineGuard$NewerRule" 62 "LineGuard$Session" "back" "LLineGuard$Row;" "LineGuard" : Cond) ∈ uT := uni_mem (List.mem_of_getElem? (i := 152) (by decide +kernel)) rfl
theorem tw_153 : (Cond.fieldLink "LineGuard$Session" 33 "LineGuard$Session" "seal" "LLineGuard$Row;" : Cond) ∈ uT := uni_mem (List.mem_of_getElem? (i := 153) (by decide +kernel)) rfl
theorem tw_154 : (Cond.fieldLinkNest "LineGuard$OlderRule" 64 "LineGuard$Session" "seal" "LLineGuard$Row;" "LineGuard" : Cond) ∈ uT := uni_mem (List.mem_of_getElem? (i := 154) (by decide +kernel)) rfl
theorem tw_155 : (Cond.fieldLinkNest "LineGuard$NewerRule" 65 "LineGuard$Session" "seal" "LLineGuard$Row;" "LineGuard" : Cond) ∈ uT := uni_mem (List.mem_of_getElem? (i := 155) (by decide +kernel)) rfl
theorem tw_156 : (Cond.fieldLinkNest "LineGuard" 205 "LineGuard$Session" "seal" "LLineGuard$Row;" "LineGuard" : Cond) ∈ uT := uni_mem (List.mem_of_getElem? (i := 156) (by decide +kernel)) rfl
theorem tw_157 : (Cond.fieldLink "LineGuard$Session" 36 "LineGuard$Session" "holderProof" "LLineGuard$Row;" : Cond) ∈ uT := uni_mem (List.mem_of_getElem? (i := 157) (by decide +kernel)) rfl
theorem tw_158 : (Cond.fieldLinkNest "LineGuard$NewerRule" 72 "LineGuard$Session" "holderProof" "LLineGuard$Row;" "LineGuard" : Cond) ∈ uT := uni_mem (List.mem_of_getElem? (i := 158) (by decide +kernel)) rfl
theorem tw_159 : (Cond.fieldLinkNest "LineGuard$OlderRule" 75 "LineGuard$Session" "holderProof" "LLineGuard$Row;" "LineGuard" : Cond) ∈ uT := uni_mem (List.mem_of_getElem? (i := 159) (by decide +kernel)) rfl
theorem tw_160 : (Cond.fieldLinkNest "LineGuard" 129 "LineGuard$Session" "holderProof" "LLineGuard$Row;" "LineGuard" : Cond) ∈ uT := uni_mem (List.mem_of_getElem? (i := 160) (by decide +kernel)) rfl
theorem tw_161 : (Cond.fieldLink "LineGuard$Session" 39 "LineGuard$Session" "callerProof" "LLineGuard$Row;" : Cond) ∈ uT := uni_mem (List.mem_of_getElem? (i := 161) (by decide +kernel)) rfl
theorem tw_162 : (Cond.fieldLinkNest "LineGuard$NewerRule" 75 "LineGuard$Session" "callerProof" "LLineGuard$Row;" "LineGuard" : Cond) ∈ uT := uni_mem (List.mem_of_getElem? (i := 162) (by decide +kernel)) rfl
theorem tw_163 : (Cond.fieldLinkNest "LineGuard$OlderRule" 82 "LineGuard$Session" "callerProof" "LLineGuard$Row;" "LineGuard" : Cond) ∈ uT := uni_mem (List.mem_of_getElem? (i := 163) (by decide +kernel)) rfl
theorem tw_164 : (Cond.fieldLinkNest "LineGuard" 151 "LineGuard$Session" "callerProof" "LLineGuard$Row;" "LineGuard" : Cond) ∈ uT := uni_mem (List.mem_of_getElem? (i := 164) (by decide +kernel)) rfl
theorem tw_165 : (Cond.fieldLink "LineGuard$Session" 42 "LineGuard$Session" "challenge" "LLineGuard$Row;" : Cond) ∈ uT := uni_mem (List.mem_of_getElem? (i := 165) (by decide +kernel)) rfl
theorem tw_166 : (Cond.fieldLinkNest "LineGuard$NewerRule" 44 "LineGuard$Session" "challenge" "LLineGuard$Row;" "LineGuard" : Cond) ∈ uT := uni_mem (List.mem_of_getElem? (i := 166) (by decide +kernel)) rfl
theorem tw_167 : (Cond.fieldLinkNest "LineGuard$OlderRule" 43 "LineGuard$Session" "challenge" "LLineGuard$Row;" "LineGuard" : Cond) ∈ uT := uni_mem (List.mem_of_getElem? (i := 167) (by decide +kernel)) rfl
theorem tw_168 : (Cond.fieldLinkNest "LineGuard" 126 "LineGuard$Session" "challenge" "LLineGuard$Row;" "LineGuard" : Cond) ∈ uT := uni_mem (List.mem_of_getElem? (i := 168) (by decide +kernel)) rfl
theorem tw_169 : (Cond.fieldLink "LineGuard$Session" 45 "LineGuard$Session" "chain" "LLineGuard$Row;" : Cond) ∈ uT := uni_mem (List.mem_of_getElem? (i := 169) (by decide +kernel)) rfl
theorem tw_170 : (Cond.fieldLinkNest "LineGuard$NewerRule" 101 "LineGuard$Session" "chain" "LLineGuard$Row;" "LineGuard" : Cond) ∈ uT := uni_mem (List.mem_of_getElem? (i := 170) (by decide +kernel)) rfl
theorem tw_171 : (Cond.fieldLinkNest "LineGuard$OlderRule" 120 "LineGuard$Session" "chain" "LLineGuard$Row;" "LineGuard" : Cond) ∈ uT := uni_mem (List.mem_of_getElem? (i := 171) (by decide +kernel)) rfl
theorem tw_172 : (Cond.fieldLink "LineGuard$Session" 48 "LineGuard$Session" "backChain" "LLineGuard$Row;" : Cond) ∈ uT := uni_mem (List.mem_of_getElem? (i := 172) (by decide +kernel)) rfl
theorem tw_173 : (Cond.fieldLinkNest "LineGuard$OlderRule" 145 "LineGuard$Session" "backChain" "LLineGuard$Row;" "LineGuard" : Cond) ∈ uT := uni_mem (List.mem_of_getElem? (i := 173) (by decide +kernel)) rfl
theorem tw_174 : (Cond.fieldLink "LineGuard$Session" 51 "LineGuard$Session" "command" "LLineGuard$Row;" : Cond) ∈ uT := uni_mem (List.mem_of_getElem? (i := 174) (by decide +kernel)) rfl
theorem tw_175 : (Cond.fieldLinkNest "LineGuard$NewerRule" 78 "LineGuard$Session" "command" "LLineGuard$Row;" "LineGuard" : Cond) ∈ uT := uni_mem (List.mem_of_getElem? (i := 175) (by decide +kernel)) rfl
theorem tw_176 : (Cond.fieldLinkNest "LineGuard$OlderRule" 92 "LineGuard$Session" "command" "LLineGuard$Row;" "LineGuard" : Cond) ∈ uT := uni_mem (List.mem_of_getElem? (i := 176) (by decide +kernel)) rfl
theorem tw_177 : (Cond.fieldLinkNest "LineGuard" 145 "LineGuard$Session" "command" "LLineGuard$Row;" "LineGuard" : Cond) ∈ uT := uni_mem (List.mem_of_getElem? (i := 177) (by decide +kernel)) rfl
theorem tw_178 : (Cond.fieldLink "LineGuard$Session" 54 "LineGuard$Session" "count" "I" : Cond) ∈ uT := uni_mem (List.mem_of_getElem? (i := 178) (by decide +kernel)) rfl
theorem tw_179 : (Cond.fieldLinkNest "LineGuard$OlderRule" 166 "LineGuard$Session" "count" "I" "LineGuard" : Cond) ∈ uT := uni_mem (List.mem_of_getElem? (i := 179) (by decide +kernel)) rfl
theorem tw_180 : (Cond.fieldLinkNest "LineGuard" 167 "LineGuard$Session" "count" "I" "LineGuard" : Cond) ∈ uT := uni_mem (List.mem_of_getElem? (i := 180) (by decide +kernel)) rfl
theorem tw_181 : (Cond.fieldLinkNest "LineGuard$NewerRule" 184 "LineGuard$Session" "count" "I" "LineGuard" : Cond) ∈ uT := uni_mem (List.mem_of_getElem? (i := 181) (by decide +kernel)) rfl
theorem tw_182 : (Cond.fieldLink "LineGuard$Session" 57 "LineGuard$Session" "commanded" "Z" : Cond) ∈ uT := uni_mem (List.mem_of_getElem? (i := 182) (by decide +kernel)) rfl
theorem tw_183 : (Cond.fieldLinkNest "LineGuard" 170 "LineGuard$Session" "commanded" "Z" "LineGuard" : Cond) ∈ uT := uni_mem (List.mem_of_getElem? (i := 183) (by decide +kernel)) rfl
theorem tw_212 : (Cond.superclass "LineGuard$Session" "java/lang/Object" : Cond) ∈ uT := uni_mem (List.mem_of_getElem? (i := 212) (by decide +kernel)) rfl
theorem tw_213 : (Cond.classLink "LineGuard" 47 "LineGuard$OlderRule" : Cond) ∈ uT := uni_mem (List.mem_of_getElem? (i := 213) (by decide +kernel)) rfl
theorem tw_214 : (Cond.instantiable "LineGuard$OlderRule" 6 : Cond) ∈ uT := uni_mem (List.mem_of_getElem? (i := 214) (by decide +kernel)) rfl
theorem tw_215 : (Cond.methodLinkNest "LineGuard" 49 ⟨"LineGuard$OlderRule", "<init>", "()V"⟩ "LineGuard" : Cond) ∈ uT := uni_mem (List.mem_of_getElem? (i := 215) (by decide +kernel)) rfl
theorem tw_216 : (Cond.instanceMethod ⟨"LineGuard$OlderRule", "<init>", "()V"⟩ : Cond) ∈ uT := uni_mem (List.mem_of_getElem? (i := 216) (by decide +kernel)) rfl
theorem tw_217 : (Cond.code ⟨"LineGuard$OlderRule", "<init>", "()V"⟩ prog_7_method_1_code 1 none : Cond) ∈ uT := uni_mem (List.mem_of_getElem? (i := 217) (by decide +kernel)) rfl
theorem tw_218 : (Cond.methodLink "LineGuard$OlderRule" 3 ⟨"LineGuard$Rule", "<init>", "()V"⟩ : Cond) ∈ uT := uni_mem (List.mem_of_getElem? (i := 218) (by decide +kernel)) rfl
theorem tw_219 : (Cond.instanceMethod ⟨"LineGuard$Rule", "<init>", "()V"⟩ : Cond) ∈ uT := uni_mem (List.mem_of_getElem? (i := 219) (by decide +kernel)) rfl
theorem tw_220 : (Cond.code ⟨"LineGuard$Rule", "<init>", "()V"⟩ prog_9_method_1_code 1 none : Cond) ∈ uT := uni_mem (List.mem_of_getElem? (i := 220) (by decide +kernel)) rfl
theorem tw_221 : (Cond.methodLink "LineGuard$Rule" 3 ⟨"java/lang/Object", "<init>", "()V"⟩ : Cond) ∈ uT := uni_mem (List.mem_of_getElem? (i := 221) (by decide +kernel)) rfl
theorem tw_222 : (Cond.classLink "LineGuard$Rule" 9 "LineGuard$Row" : Cond) ∈ uT := uni_mem (List.mem_of_getElem? (i := 222) (by decide +kernel)) rfl
theorem tw_223 : (Cond.methodLink "LineGuard$Rule" 13 ⟨"LineGuard$Row", "<init>", "(I)V"⟩ : Cond) ∈ uT := uni_mem (List.mem_of_getElem? (i := 223) (by decide +kernel)) rfl
theorem tw_224 : (Cond.methodLink "LineGuard$Rule" 32 ⟨"LineGuard$Row", "addZeros", "(I)V"⟩ : Cond) ∈ uT := uni_mem (List.mem_of_getElem? (i := 224) (by decide +kernel)) rfl
theorem tw_225 : (Cond.instanceMethod ⟨"LineGuard$Row", "addZeros", "(I)V"⟩ : Cond) ∈ uT := uni_mem (List.mem_of_getElem? (i := 225) (by decide +kernel)) rfl
theorem tw_226 : (Cond.selects "LineGuard$Row" ⟨"LineGuard$Row", "addZeros", "(I)V"⟩ ⟨"LineGuard$Row", "addZeros", "(I)V"⟩ : Cond) ∈ uT := uni_mem (List.mem_of_getElem? (i := 226) (by decide +kernel)) rfl
theorem tw_227 : (Cond.code ⟨"LineGuard$Row", "addZeros", "(I)V"⟩ prog_8_method_9_code 3 none : Cond) ∈ uT := uni_mem (List.mem_of_getElem? (i := 227) (by decide +kernel)) rfl
theorem tw_228 : (Cond.methodLink "LineGuard$Row" 19 ⟨"LineGuard$Row", "add", "(I)V"⟩ : Cond) ∈ uT := uni_mem (List.mem_of_getElem? (i := 228) (by decide +kernel)) rfl
theorem tw_229 : (Cond.instanceMethod ⟨"LineGuard$Row", "add", "(I)V"⟩ : Cond) ∈ uT := uni_mem (List.mem_of_getElem? (i := 229) (by decide +kernel)) rfl
theorem tw_230 : (Cond.selects "LineGuard$Row" ⟨"LineGuard$Row", "add", "(I)V"⟩ ⟨"LineGuard$Row", "add", "(I)V"⟩ : Cond) ∈ uT := uni_mem (List.mem_of_getElem? (i := 230) (by decide +kernel)) rfl
theorem tw_231 : (Cond.code ⟨"LineGuard$Row", "add", "(I)V"⟩ prog_8_method_7_code 2 none : Cond) ∈ uT := uni_mem (List.mem_of_getElem? (i := 231) (by decide +kernel)) rfl
theorem tw_232 : (Cond.classLink "LineGuard$OlderRule" 9 "LineGuard$Des" : Cond) ∈ uT := uni_mem (List.mem_of_getElem? (i := 232) (by decide +kernel)) rfl
theorem tw_233 : (Cond.instantiable "LineGuard$Des" 6 : Cond) ∈ uT := uni_mem (List.mem_of_getElem? (i := 233) (by decide +kernel)) rfl
theorem tw_234 : (Cond.methodLink "LineGuard$OlderRule" 11 ⟨"LineGuard$Des", "<init>", "()V"⟩ : Cond) ∈ uT := uni_mem (List.mem_of_getElem? (i := 234) (by decide +kernel)) rfl
theorem tw_235 : (Cond.instanceMethod ⟨"LineGuard$Des", "<init>", "()V"⟩ : Cond) ∈ uT := uni_mem (List.mem_of_getElem? (i := 235) (by decide +kernel)) rfl
theorem tw_236 : (Cond.code ⟨"LineGuard$Des", "<init>", "()V"⟩ prog_4_method_1_code 7 none : Cond) ∈ uT := uni_mem (List.mem_of_getElem? (i := 236) (by decide +kernel)) rfl
theorem tw_237 : (Cond.methodLink "LineGuard$Des" 1 ⟨"LineGuard$BlockCipher", "<init>", "(I)V"⟩ : Cond) ∈ uT := uni_mem (List.mem_of_getElem? (i := 237) (by decide +kernel)) rfl
theorem tw_238 : (Cond.instanceMethod ⟨"LineGuard$BlockCipher", "<init>", "(I)V"⟩ : Cond) ∈ uT := uni_mem (List.mem_of_getElem? (i := 238) (by decide +kernel)) rfl
theorem tw_239 : (Cond.code ⟨"LineGuard$BlockCipher", "<init>", "(I)V"⟩ prog_3_method_1_code 2 none : Cond) ∈ uT := uni_mem (List.mem_of_getElem? (i := 239) (by decide +kernel)) rfl
theorem tw_240 : (Cond.methodLink "LineGuard$BlockCipher" 1 ⟨"java/lang/Object", "<init>", "()V"⟩ : Cond) ∈ uT := uni_mem (List.mem_of_getElem? (i := 240) (by decide +kernel)) rfl
theorem tw_241 : (Cond.fieldLink "LineGuard$Des" 24 "LineGuard$Des" "SPREAD" "[I" : Cond) ∈ uT := uni_mem (List.mem_of_getElem? (i := 241) (by decide +kernel)) rfl
theorem tw_243 : (Cond.fieldLink "LineGuard$Des" 27 "LineGuard$Des" "BOXES" "[I" : Cond) ∈ uT := uni_mem (List.mem_of_getElem? (i := 243) (by decide +kernel)) rfl
theorem tw_245 : (Cond.fieldLink "LineGuard$Des" 7 "LineGuard$Des" "spreadBoxes" "[I" : Cond) ∈ uT := uni_mem (List.mem_of_getElem? (i := 245) (by decide +kernel)) rfl
theorem tw_246 : (Cond.fieldLink "LineGuard$Des" 13 "LineGuard$Des" "first" "[J" : Cond) ∈ uT := uni_mem (List.mem_of_getElem? (i := 246) (by decide +kernel)) rfl
theorem tw_247 : (Cond.fieldLink "LineGuard$Des" 17 "LineGuard$Des" "second" "[J" : Cond) ∈ uT := uni_mem (List.mem_of_getElem? (i := 247) (by decide +kernel)) rfl
theorem tw_248 : (Cond.fieldLink "LineGuard$Des" 20 "LineGuard$Des" "triple" "Z" : Cond) ∈ uT := uni_mem (List.mem_of_getElem? (i := 248) (by decide +kernel)) rfl
theorem tw_249 : (Cond.fieldLink "LineGuard$BlockCipher" 7 "LineGuard$BlockCipher" "block" "[I" : Cond) ∈ uT := uni_mem (List.mem_of_getElem? (i := 249) (by decide +kernel)) rfl
theorem tw_250 : (Cond.fieldLink "LineGuard$Aes" 62 "LineGuard$Aes" "block" "[I" : Cond) ∈ uT := uni_mem (List.mem_of_getElem? (i := 250) (by decide +kernel)) rfl
theorem tw_251 : (Cond.sameField "LineGuard$Aes" "LineGuard$BlockCipher" "block" "[I" : Cond) ∈ uT := uni_mem (List.mem_of_getElem? (i := 251) (by decide +kernel)) rfl
theorem tw_252 : (Cond.fieldLink "LineGuard$Des" 50 "LineGuard$Des" "block" "[I" : Cond) ∈ uT := uni_mem (List.mem_of_getElem? (i := 252) (by decide +kernel)) rfl
theorem tw_253 : (Cond.sameField "LineGuard$Des" "LineGuard$BlockCipher" "block" "[I" : Cond) ∈ uT := uni_mem (List.mem_of_getElem? (i := 253) (by decide +kernel)) rfl
theorem tw_254 : (Cond.fieldLink "LineGuard$BlockCipher" 13 "LineGuard$BlockCipher" "before" "[I" : Cond) ∈ uT := uni_mem (List.mem_of_getElem? (i := 254) (by decide +kernel)) rfl
theorem tw_267 : (Cond.superclass "LineGuard$Des" "LineGuard$BlockCipher" : Cond) ∈ uT := uni_mem (List.mem_of_getElem? (i := 267) (by decide +kernel)) rfl
theorem tw_268 : (Cond.arrayClass .long : Cond) ∈ uT := uni_mem (List.mem_of_getElem? (i := 268) (by decide +kernel)) rfl
theorem tw_269 : (Cond.fieldLink "LineGuard$OlderRule" 12 "LineGuard$OlderRule" "des" "LLineGuard$Des;" : Cond) ∈ uT := uni_mem (List.mem_of_getElem? (i := 269) (by decide +kernel)) rfl
theorem tw_270 : (Cond.fieldLink "LineGuard$Rule" 16 "LineGuard$Rule" "text" "LLineGuard$Row;" : Cond) ∈ uT := uni_mem (List.mem_of_getElem? (i := 270) (by decide +kernel)) rfl
theorem tw_271 : (Cond.fieldLink "LineGuard$OlderRule" 31 "LineGuard$OlderRule" "text" "LLineGuard$Row;" : Cond) ∈ uT := uni_mem (List.mem_of_getElem? (i := 271) (by decide +kernel)) rfl
theorem tw_272 : (Cond.sameField "LineGuard$OlderRule" "LineGuard$Rule" "text" "LLineGuard$Row;" : Cond) ∈ uT := uni_mem (List.mem_of_getElem? (i := 272) (by decide +kernel)) rfl
theorem tw_273 : (Cond.fieldLink "LineGuard$NewerRule" 149 "LineGuard$NewerRule" "text" "LLineGuard$Row;" : Cond) ∈ uT := uni_mem (List.mem_of_getElem? (i := 273) (by decide +kernel)) rfl
theorem tw_274 : (Cond.sameField "LineGuard$NewerRule" "LineGuard$Rule" "text" "LLineGuard$Row;" : Cond) ∈ uT := uni_mem (List.mem_of_getElem? (i := 274) (by decide +kernel)) rfl
theorem tw_275 : (Cond.fieldLink "LineGuard$Rule" 20 "LineGuard$Rule" "data" "LLineGuard$Row;" : Cond) ∈ uT := uni_mem (List.mem_of_getElem? (i := 275) (by decide +kernel)) rfl
theorem tw_276 : (Cond.fieldLink "LineGuard$NewerRule" 22 "LineGuard$NewerRule" "data" "LLineGuard$Row;" : Cond) ∈ uT := uni_mem (List.mem_of_getElem? (i := 276) (by decide +kernel)) rfl
theorem tw_277 : (Cond.sameField "LineGuard$NewerRule" "LineGuard$Rule" "data" "LLineGuard$Row;" : Cond) ∈ uT := uni_mem (List.mem_of_getElem? (i := 277) (by decide +kernel)) rfl
theorem tw_278 : (Cond.fieldLink "LineGuard$OlderRule" 89 "LineGuard$OlderRule" "data" "LLineGuard$Row;" : Cond) ∈ uT := uni_mem (List.mem_of_getElem? (i := 278) (by decide +kernel)) rfl
theorem tw_279 : (Cond.sameField "LineGuard$OlderRule" "LineGuard$Rule" "data" "LLineGuard$Row;" : Cond) ∈ uT := uni_mem (List.mem_of_getElem? (i := 279) (by decide +kernel)) rfl
theorem tw_280 : (Cond.fieldLink "LineGuard$Rule" 23 "LineGuard$Rule" "code" "LLineGuard$Row;" : Cond) ∈ uT := uni_mem (List.mem_of_getElem? (i := 280) (by decide +kernel)) rfl
theorem tw_281 : (Cond.fieldLink "LineGuard$OlderRule" 148 "LineGuard$OlderRule" "code" "LLineGuard$Row;" : Cond) ∈ uT := uni_mem (List.mem_of_getElem? (i := 281) (by decide +kernel)) rfl
theorem tw_282 : (Cond.sameField "LineGuard$OlderRule" "LineGuard$Rule" "code" "LLineGuard$Row;" : Cond) ∈ uT := uni_mem (List.mem_of_getElem? (i := 282) (by decide +kernel)) rfl
theorem tw_283 : (Cond.fieldLink "LineGuard$NewerRule" 131 "LineGuard$NewerRule" "code" "LLineGuard$Row;" : Cond) ∈ uT := uni_mem (List.mem_of_getElem? (i := 283) (by decide +kernel)) rfl
theorem tw_284 : (Cond.sameField "LineGuard$NewerRule" "LineGuard$Rule" "code" "LLineGuard$Row;" : Cond) ∈ uT := uni_mem (List.mem_of_getElem? (i := 284) (by decide +kernel)) rfl
theorem tw_285 : (Cond.fieldLink "LineGuard$Rule" 26 "LineGuard$Rule" "iv" "LLineGuard$Row;" : Cond) ∈ uT := uni_mem (List.mem_of_getElem? (i := 285) (by decide +kernel)) rfl
theorem tw_286 : (Cond.fieldLink "LineGuard$OlderRule" 163 "LineGuard$OlderRule" "iv" "LLineGuard$Row;" : Cond) ∈ uT := uni_mem (List.mem_of_getElem? (i := 286) (by decide +kernel)) rfl
theorem tw_287 : (Cond.sameField "LineGuard$OlderRule" "LineGuard$Rule" "iv" "LLineGuard$Row;" : Cond) ∈ uT := uni_mem (List.mem_of_getElem? (i := 287) (by decide +kernel)) rfl
theorem tw_288 : (Cond.fieldLink "LineGuard$NewerRule" 175 "LineGuard$NewerRule" "iv" "LLineGuard$Row;" : Cond) ∈ uT := uni_mem (List.mem_of_getElem? (i := 288) (by decide +kernel)) rfl
theorem tw_289 : (Cond.sameField "LineGuard$NewerRule" "LineGuard$Rule" "iv" "LLineGuard$Row;" : Cond) ∈ uT := uni_mem (List.mem_of_getElem? (i := 289) (by decide +kernel)) rfl
theorem tw_290 : (Cond.fieldLink "LineGuard$Rule" 29 "LineGuard$Rule" "zeros" "LLineGuard$Row;" : Cond) ∈ uT := uni_mem (List.mem_of_getElem? (i := 290) (by decide +kernel)) rfl
theorem tw_291 : (Cond.fieldLink "LineGuard$OlderRule" 40 "LineGuard$OlderRule" "zeros" "LLineGuard$Row;" : Cond) ∈ uT := uni_mem (List.mem_of_getElem? (i := 291) (by decide +kernel)) rfl
theorem tw_292 : (Cond.sameField "LineGuard$OlderRule" "LineGuard$Rule" "zeros" "LLineGuard$Row;" : Cond) ∈ uT := uni_mem (List.mem_of_getElem? (i := 292) (by decide +kernel)) rfl
theorem tw_293 : (Cond.fieldLink "LineGuard$NewerRule" 137 "LineGuard$NewerRule" "zeros" "LLineGuard$Row;" : Cond) ∈ uT := uni_mem (List.mem_of_getElem? (i := 293) (by decide +kernel)) rfl
theorem tw_294 : (Cond.sameField "LineGuard$NewerRule" "LineGuard$Rule" "zeros" "LLineGuard$Row;" : Cond) ∈ uT := uni_mem (List.mem_of_getElem? (i := 294) (by decide +kernel)) rfl
theorem tw_307 : (Cond.superclass "LineGuard$OlderRule" "LineGuard$Rule" : Cond) ∈ uT := uni_mem (List.mem_of_getElem? (i := 307) (by decide +kernel)) rfl
theorem tw_308 : (Cond.classLink "LineGuard" 54 "LineGuard$NewerRule" : Cond) ∈ uT := uni_mem (List.mem_of_getElem? (i := 308) (by decide +kernel)) rfl
theorem tw_309 : (Cond.instantiable "LineGuard$NewerRule" 7 : Cond) ∈ uT := uni_mem (List.mem_of_getElem? (i := 309) (by decide +kernel)) rfl
theorem tw_310 : (Cond.methodLinkNest "LineGuard" 56 ⟨"LineGuard$NewerRule", "<init>", "()V"⟩ "LineGuard" : Cond) ∈ uT := uni_mem (List.mem_of_getElem? (i := 310) (by decide +kernel)) rfl
theorem tw_311 : (Cond.instanceMethod ⟨"LineGuard$NewerRule", "<init>", "()V"⟩ : Cond) ∈ uT := uni_mem (List.mem_of_getElem? (i := 311) (by decide +kernel)) rfl
theorem tw_312 : (Cond.code ⟨"LineGuard$NewerRule", "<init>", "()V"⟩ prog_6_method_1_code 1 none : Cond) ∈ uT := uni_mem (List.mem_of_getElem? (i := 312) (by decide +kernel)) rfl
theorem tw_313 : (Cond.methodLink "LineGuard$NewerRule" 3 ⟨"LineGuard$Rule", "<init>", "()V"⟩ : Cond) ∈ uT := uni_mem (List.mem_of_getElem? (i := 313) (by decide +kernel)) rfl
theorem tw_314 : (Cond.classLink "LineGuard$NewerRule" 9 "LineGuard$Aes" : Cond) ∈ uT := uni_mem (List.mem_of_getElem? (i := 314) (by decide +kernel)) rfl
theorem tw_315 : (Cond.instantiable "LineGuard$Aes" 7 : Cond) ∈ uT := uni_mem (List.mem_of_getElem? (i := 315) (by decide +kernel)) rfl
theorem tw_316 : (Cond.methodLink "LineGuard$NewerRule" 11 ⟨"LineGuard$Aes", "<init>", "()V"⟩ : Cond) ∈ uT := uni_mem (List.mem_of_getElem? (i := 316) (by decide +kernel)) rfl
theorem tw_317 : (Cond.instanceMethod ⟨"LineGuard$Aes", "<init>", "()V"⟩ : Cond) ∈ uT := uni_mem (List.mem_of_getElem? (i := 317) (by decide +kernel)) rfl
theorem tw_318 : (Cond.code ⟨"LineGuard$Aes", "<init>", "()V"⟩ prog_2_method_1_code 2 none : Cond) ∈ uT := uni_mem (List.mem_of_getElem? (i := 318) (by decide +kernel)) rfl
theorem tw_319 : (Cond.methodLink "LineGuard$Aes" 1 ⟨"LineGuard$BlockCipher", "<init>", "(I)V"⟩ : Cond) ∈ uT := uni_mem (List.mem_of_getElem? (i := 319) (by decide +kernel)) rfl
theorem tw_320 : (Cond.fieldLink "LineGuard$Aes" 26 "LineGuard$Aes" "BOX" "[I" : Cond) ∈ uT := uni_mem (List.mem_of_getElem? (i := 320) (by decide +kernel)) rfl
theorem tw_322 : (Cond.fieldLink "LineGuard$Aes" 7 "LineGuard$Aes" "boxBack" "[I" : Cond) ∈ uT := uni_mem (List.mem_of_getElem? (i := 322) (by decide +kernel)) rfl
theorem tw_323 : (Cond.fieldLink "LineGuard$Aes" 13 "LineGuard$Aes" "words" "[I" : Cond) ∈ uT := uni_mem (List.mem_of_getElem? (i := 323) (by decide +kernel)) rfl
theorem tw_324 : (Cond.fieldLink "LineGuard$Aes" 16 "LineGuard$Aes" "state" "[I" : Cond) ∈ uT := uni_mem (List.mem_of_getElem? (i := 324) (by decide +kernel)) rfl
theorem tw_325 : (Cond.fieldLink "LineGuard$Aes" 19 "LineGuard$Aes" "boxed" "[I" : Cond) ∈ uT := uni_mem (List.mem_of_getElem? (i := 325) (by decide +kernel)) rfl
theorem tw_326 : (Cond.fieldLink "LineGuard$Aes" 22 "LineGuard$Aes" "rounds" "I" : Cond) ∈ uT := uni_mem (List.mem_of_getElem? (i := 326) (by decide +kernel)) rfl
theorem tw_339 : (Cond.superclass "LineGuard$Aes" "LineGuard$BlockCipher" : Cond) ∈ uT := uni_mem (List.mem_of_getElem? (i := 339) (by decide +kernel)) rfl
theorem tw_340 : (Cond.fieldLink "LineGuard$NewerRule" 12 "LineGuard$NewerRule" "aes" "LLineGuard$Aes;" : Cond) ∈ uT := uni_mem (List.mem_of_getElem? (i := 340) (by decide +kernel)) rfl
theorem tw_341 : (Cond.fieldLink "LineGuard$NewerRule" 18 "LineGuard$NewerRule" "turn" "[I" : Cond) ∈ uT := uni_mem (List.mem_of_getElem? (i := 341) (by decide +kernel)) rfl
theorem tw_351 : (Cond.superclass "LineGuard$NewerRule" "LineGuard$Rule" : Cond) ∈ uT := uni_mem (List.mem_of_getElem? (i := 351) (by decide +kernel)) rfl
theorem tw_352 : (Cond.fieldLink "LineGuard" 14 "LineGuard" "theTape" "LLineGuard$Row;" : Cond) ∈ uT := uni_mem (List.mem_of_getElem? (i := 352) (by decide +kernel)) rfl
theorem tw_353 : (Cond.fieldLink "LineGuard" 18 "LineGuard" "theOut" "LLineGuard$Row;" : Cond) ∈ uT := uni_mem (List.mem_of_getElem? (i := 353) (by decide +kernel)) rfl
theorem tw_354 : (Cond.fieldLink "LineGuard" 21 "LineGuard" "theLine" "LLineGuard$Row;" : Cond) ∈ uT := uni_mem (List.mem_of_getElem? (i := 354) (by decide +kernel)) rfl
theorem tw_355 : (Cond.fieldLink "LineGuard" 24 "LineGuard" "theName" "LLineGuard$Row;" : Cond) ∈ uT := uni_mem (List.mem_of_getElem? (i := 355) (by decide +kernel)) rfl
theorem tw_356 : (Cond.fieldLink "LineGuard" 30 "LineGuard" "callerKeys" "LLineGuard$Keys;" : Cond) ∈ uT := uni_mem (List.mem_of_getElem? (i := 356) (by decide +kernel)) rfl
theorem tw_357 : (Cond.fieldLink "LineGuard" 34 "LineGuard" "holderKeys" "LLineGuard$Keys;" : Cond) ∈ uT := uni_mem (List.mem_of_getElem? (i := 357) (by decide +kernel)) rfl
theorem tw_358 : (Cond.fieldLink "LineGuard" 40 "LineGuard" "caller" "LLineGuard$Session;" : Cond) ∈ uT := uni_mem (List.mem_of_getElem? (i := 358) (by decide +kernel)) rfl
theorem tw_359 : (Cond.fieldLink "LineGuard" 44 "LineGuard" "holder" "LLineGuard$Session;" : Cond) ∈ uT := uni_mem (List.mem_of_getElem? (i := 359) (by decide +kernel)) rfl
theorem tw_360 : (Cond.fieldLink "LineGuard" 50 "LineGuard" "older" "LLineGuard$Rule;" : Cond) ∈ uT := uni_mem (List.mem_of_getElem? (i := 360) (by decide +kernel)) rfl
theorem tw_361 : (Cond.fieldLink "LineGuard" 57 "LineGuard" "newer" "LLineGuard$Rule;" : Cond) ∈ uT := uni_mem (List.mem_of_getElem? (i := 361) (by decide +kernel)) rfl
theorem tw_362 : (Cond.fieldLink "LineGuard" 60 "LineGuard" "counterNow" "I" : Cond) ∈ uT := uni_mem (List.mem_of_getElem? (i := 362) (by decide +kernel)) rfl
theorem tw_385 : (Cond.superclass "LineGuard" "java/lang/Object" : Cond) ∈ uT := uni_mem (List.mem_of_getElem? (i := 385) (by decide +kernel)) rfl
theorem tw_386 : (Cond.methodLink "LineGuardLaw" 13 ⟨"LineGuard", "feed", "(IIIII)I"⟩ : Cond) ∈ uT := uni_mem (List.mem_of_getElem? (i := 386) (by decide +kernel)) rfl
theorem tw_387 : (Cond.instanceMethod ⟨"LineGuard", "feed", "(IIIII)I"⟩ : Cond) ∈ uT := uni_mem (List.mem_of_getElem? (i := 387) (by decide +kernel)) rfl
theorem tw_388 : (Cond.selects "LineGuard" ⟨"LineGuard", "feed", "(IIIII)I"⟩ ⟨"LineGuard", "feed", "(IIIII)I"⟩ : Cond) ∈ uT := uni_mem (List.mem_of_getElem? (i := 388) (by decide +kernel)) rfl
theorem tw_389 : (Cond.code ⟨"LineGuard", "feed", "(IIIII)I"⟩ prog_1_method_2_code 6 (some .int) : Cond) ∈ uT := uni_mem (List.mem_of_getElem? (i := 389) (by decide +kernel)) rfl
theorem tw_390 : (Cond.methodLink "LineGuard" 64 ⟨"LineGuard$Row", "size", "()I"⟩ : Cond) ∈ uT := uni_mem (List.mem_of_getElem? (i := 390) (by decide +kernel)) rfl
theorem tw_391 : (Cond.instanceMethod ⟨"LineGuard$Row", "size", "()I"⟩ : Cond) ∈ uT := uni_mem (List.mem_of_getElem? (i := 391) (by decide +kernel)) rfl
theorem tw_392 : (Cond.selects "LineGuard$Row" ⟨"LineGuard$Row", "size", "()I"⟩ ⟨"LineGuard$Row", "size", "()I"⟩ : Cond) ∈ uT := uni_mem (List.mem_of_getElem? (i := 392) (by decide +kernel)) rfl
theorem tw_393 : (Cond.code ⟨"LineGuard$Row", "size", "()I"⟩ prog_8_method_2_code 1 (some .int) : Cond) ∈ uT := uni_mem (List.mem_of_getElem? (i := 393) (by decide +kernel)) rfl
theorem tw_394 : (Cond.methodLink "LineGuard" 68 ⟨"LineGuard$Row", "addNumber", "(JI)V"⟩ : Cond) ∈ uT := uni_mem (List.mem_of_getElem? (i := 394) (by decide +kernel)) rfl
theorem tw_395 : (Cond.instanceMethod ⟨"LineGuard$Row", "addNumber", "(JI)V"⟩ : Cond) ∈ uT := uni_mem (List.mem_of_getElem? (i := 395) (by decide +kernel)) rfl
theorem tw_396 : (Cond.selects "LineGuard$Row" ⟨"LineGuard$Row", "addNumber", "(JI)V"⟩ ⟨"LineGuard$Row", "addNumber", "(JI)V"⟩ : Cond) ∈ uT := uni_mem (List.mem_of_getElem? (i := 396) (by decide +kernel)) rfl
theorem tw_397 : (Cond.code ⟨"LineGuard$Row", "addNumber", "(JI)V"⟩ prog_8_method_8_code 5 none : Cond) ∈ uT := uni_mem (List.mem_of_getElem? (i := 397) (by decide +kernel)) rfl
theorem tw_398 : (Cond.methodLink "LineGuardLaw" 18 ⟨"LineGuard", "end", "(I)I"⟩ : Cond) ∈ uT := uni_mem (List.mem_of_getElem? (i := 398) (by decide +kernel)) rfl
theorem tw_399 : (Cond.instanceMethod ⟨"LineGuard", "end", "(I)I"⟩ : Cond) ∈ uT := uni_mem (List.mem_of_getElem? (i := 399) (by decide +kernel)) rfl
theorem tw_400 : (Cond.selects "LineGuard" ⟨"LineGuard", "end", "(I)I"⟩ ⟨"LineGuard", "end", "(I)I"⟩ : Cond) ∈ uT := uni_mem (List.mem_of_getElem? (i := 400) (by decide +kernel)) rfl
theorem tw_401 : (Cond.code ⟨"LineGuard", "end", "(I)I"⟩ prog_1_method_3_code 2 (some .int) : Cond) ∈ uT := uni_mem (List.mem_of_getElem? (i := 401) (by decide +kernel)) rfl
theorem tw_402 : (Cond.methodLink "LineGuard" 72 ⟨"LineGuard$Row", "shorten", "(I)Z"⟩ : Cond) ∈ uT := uni_mem (List.mem_of_getElem? (i := 402) (by decide +kernel)) rfl
theorem tw_403 : (Cond.instanceMethod ⟨"LineGuard$Row", "shorten", "(I)Z"⟩ : Cond) ∈ uT := uni_mem (List.mem_of_getElem? (i := 403) (by decide +kernel)) rfl
theorem tw_404 : (Cond.selects "LineGuard$Row" ⟨"LineGuard$Row", "shorten", "(I)Z"⟩ ⟨"LineGuard$Row", "shorten", "(I)Z"⟩ : Cond) ∈ uT := uni_mem (List.mem_of_getElem? (i := 404) (by decide +kernel)) rfl
theorem tw_405 : (Cond.code ⟨"LineGuard$Row", "shorten", "(I)Z"⟩ prog_8_method_6_code 2 (some .boolean) : Cond) ∈ uT := uni_mem (List.mem_of_getElem? (i := 405) (by decide +kernel)) rfl
theorem tw_406 : (Cond.methodLink "LineGuardLaw" 23 ⟨"LineGuard", "out", "(I)I"⟩ : Cond) ∈ uT := uni_mem (List.mem_of_getElem? (i := 406) (by decide +kernel)) rfl
theorem tw_407 : (Cond.instanceMethod ⟨"LineGuard", "out", "(I)I"⟩ : Cond) ∈ uT := uni_mem (List.mem_of_getElem? (i := 407) (by decide +kernel)) rfl
theorem tw_408 : (Cond.selects "LineGuard" ⟨"LineGuard", "out", "(I)I"⟩ ⟨"LineGuard", "out", "(I)I"⟩ : Cond) ∈ uT := uni_mem (List.mem_of_getElem? (i := 408) (by decide +kernel)) rfl
theorem tw_409 : (Cond.code ⟨"LineGuard", "out", "(I)I"⟩ prog_1_method_4_code 2 (some .int) : Cond) ∈ uT := uni_mem (List.mem_of_getElem? (i := 409) (by decide +kernel)) rfl
theorem tw_410 : (Cond.methodLink "LineGuard" 76 ⟨"LineGuard$Row", "at", "(I)I"⟩ : Cond) ∈ uT := uni_mem (List.mem_of_getElem? (i := 410) (by decide +kernel)) rfl
theorem tw_411 : (Cond.instanceMethod ⟨"LineGuard$Row", "at", "(I)I"⟩ : Cond) ∈ uT := uni_mem (List.mem_of_getElem? (i := 411) (by decide +kernel)) rfl
theorem tw_412 : (Cond.selects "LineGuard$Row" ⟨"LineGuard$Row", "at", "(I)I"⟩ ⟨"LineGuard$Row", "at", "(I)I"⟩ : Cond) ∈ uT := uni_mem (List.mem_of_getElem? (i := 412) (by decide +kernel)) rfl
theorem tw_413 : (Cond.code ⟨"LineGuard$Row", "at", "(I)I"⟩ prog_8_method_3_code 2 (some .int) : Cond) ∈ uT := uni_mem (List.mem_of_getElem? (i := 413) (by decide +kernel)) rfl
theorem tw_414 : (Cond.methodLink "LineGuardLaw" 27 ⟨"LineGuard", "line", "(I)I"⟩ : Cond) ∈ uT := uni_mem (List.mem_of_getElem? (i := 414) (by decide +kernel)) rfl
theorem tw_415 : (Cond.instanceMethod ⟨"LineGuard", "line", "(I)I"⟩ : Cond) ∈ uT := uni_mem (List.mem_of_getElem? (i := 415) (by decide +kernel)) rfl
theorem tw_416 : (Cond.selects "LineGuard" ⟨"LineGuard", "line", "(I)I"⟩ ⟨"LineGuard", "line", "(I)I"⟩ : Cond) ∈ uT := uni_mem (List.mem_of_getElem? (i := 416) (by decide +kernel)) rfl
theorem tw_417 : (Cond.code ⟨"LineGuard", "line", "(I)I"⟩ prog_1_method_5_code 2 (some .int) : Cond) ∈ uT := uni_mem (List.mem_of_getElem? (i := 417) (by decide +kernel)) rfl
theorem tw_418 : (Cond.methodLink "LineGuardLaw" 31 ⟨"LineGuard", "alter", "(II)I"⟩ : Cond) ∈ uT := uni_mem (List.mem_of_getElem? (i := 418) (by decide +kernel)) rfl
theorem tw_419 : (Cond.instanceMethod ⟨"LineGuard", "alter", "(II)I"⟩ : Cond) ∈ uT := uni_mem (List.mem_of_getElem? (i := 419) (by decide +kernel)) rfl
theorem tw_420 : (Cond.selects "LineGuard" ⟨"LineGuard", "alter", "(II)I"⟩ ⟨"LineGuard", "alter", "(II)I"⟩ : Cond) ∈ uT := uni_mem (List.mem_of_getElem? (i := 420) (by decide +kernel)) rfl
theorem tw_421 : (Cond.code ⟨"LineGuard", "alter", "(II)I"⟩ prog_1_method_6_code 3 (some .int) : Cond) ∈ uT := uni_mem (List.mem_of_getElem? (i := 421) (by decide +kernel)) rfl
theorem tw_422 : (Cond.methodLink "LineGuard" 80 ⟨"LineGuard$Row", "put", "(II)V"⟩ : Cond) ∈ uT := uni_mem (List.mem_of_getElem? (i := 422) (by decide +kernel)) rfl
theorem tw_423 : (Cond.instanceMethod ⟨"LineGuard$Row", "put", "(II)V"⟩ : Cond) ∈ uT := uni_mem (List.mem_of_getElem? (i := 423) (by decide +kernel)) rfl
theorem tw_424 : (Cond.selects "LineGuard$Row" ⟨"LineGuard$Row", "put", "(II)V"⟩ ⟨"LineGuard$Row", "put", "(II)V"⟩ : Cond) ∈ uT := uni_mem (List.mem_of_getElem? (i := 424) (by decide +kernel)) rfl
theorem tw_425 : (Cond.code ⟨"LineGuard$Row", "put", "(II)V"⟩ prog_8_method_4_code 3 none : Cond) ∈ uT := uni_mem (List.mem_of_getElem? (i := 425) (by decide +kernel)) rfl
theorem tw_426 : (Cond.methodLink "LineGuardLaw" 36 ⟨"LineGuard", "cut", "(I)I"⟩ : Cond) ∈ uT := uni_mem (List.mem_of_getElem? (i := 426) (by decide +kernel)) rfl
theorem tw_427 : (Cond.instanceMethod ⟨"LineGuard", "cut", "(I)I"⟩ : Cond) ∈ uT := uni_mem (List.mem_of_getElem? (i := 427) (by decide +kernel)) rfl
theorem tw_428 : (Cond.selects "LineGuard" ⟨"LineGuard", "cut", "(I)I"⟩ ⟨"LineGuard", "cut", "(I)I"⟩ : Cond) ∈ uT := uni_mem (List.mem_of_getElem? (i := 428) (by decide +kernel)) rfl
theorem tw_429 : (Cond.code ⟨"LineGuard", "cut", "(I)I"⟩ prog_1_method_7_code 2 (some .int) : Cond) ∈ uT := uni_mem (List.mem_of_getElem? (i := 429) (by decide +kernel)) rfl
theorem tw_430 : (Cond.methodLink "LineGuardLaw" 40 ⟨"LineGuard", "slip", "()I"⟩ : Cond) ∈ uT := uni_mem (List.mem_of_getElem? (i := 430) (by decide +kernel)) rfl
theorem tw_431 : (Cond.instanceMethod ⟨"LineGuard", "slip", "()I"⟩ : Cond) ∈ uT := uni_mem (List.mem_of_getElem? (i := 431) (by decide +kernel)) rfl
theorem tw_432 : (Cond.selects "LineGuard" ⟨"LineGuard", "slip", "()I"⟩ ⟨"LineGuard", "slip", "()I"⟩ : Cond) ∈ uT := uni_mem (List.mem_of_getElem? (i := 432) (by decide +kernel)) rfl
theorem tw_433 : (Cond.code ⟨"LineGuard", "slip", "()I"⟩ prog_1_method_8_code 2 (some .int) : Cond) ∈ uT := uni_mem (List.mem_of_getElem? (i := 433) (by decide +kernel)) rfl
theorem tw_434 : (Cond.methodLink "LineGuard" 84 ⟨"LineGuard$Row", "copy", "(LLineGuard$Row;)V"⟩ : Cond) ∈ uT := uni_mem (List.mem_of_getElem? (i := 434) (by decide +kernel)) rfl
theorem tw_435 : (Cond.instanceMethod ⟨"LineGuard$Row", "copy", "(LLineGuard$Row;)V"⟩ : Cond) ∈ uT := uni_mem (List.mem_of_getElem? (i := 435) (by decide +kernel)) rfl
theorem tw_436 : (Cond.selects "LineGuard$Row" ⟨"LineGuard$Row", "copy", "(LLineGuard$Row;)V"⟩ ⟨"LineGuard$Row", "copy", "(LLineGuard$Row;)V"⟩ : Cond) ∈ uT := uni_mem (List.mem_of_getElem? (i := 436) (by decide +kernel)) rfl
theorem tw_437 : (Cond.code ⟨"LineGuard$Row", "copy", "(LLineGuard$Row;)V"⟩ prog_8_method_12_code 2 none : Cond) ∈ uT := uni_mem (List.mem_of_getElem? (i := 437) (by decide +kernel)) rfl
theorem tw_438 : (Cond.methodLink "LineGuard$Row" 31 ⟨"LineGuard$Row", "clear", "()V"⟩ : Cond) ∈ uT := uni_mem (List.mem_of_getElem? (i := 438) (by decide +kernel)) rfl
theorem tw_439 : (Cond.instanceMethod ⟨"LineGuard$Row", "clear", "()V"⟩ : Cond) ∈ uT := uni_mem (List.mem_of_getElem? (i := 439) (by decide +kernel)) rfl
theorem tw_440 : (Cond.selects "LineGuard$Row" ⟨"LineGuard$Row", "clear", "()V"⟩ ⟨"LineGuard$Row", "clear", "()V"⟩ : Cond) ∈ uT := uni_mem (List.mem_of_getElem? (i := 440) (by decide +kernel)) rfl
theorem tw_441 : (Cond.code ⟨"LineGuard$Row", "clear", "()V"⟩ prog_8_method_5_code 1 none : Cond) ∈ uT := uni_mem (List.mem_of_getElem? (i := 441) (by decide +kernel)) rfl
theorem tw_442 : (Cond.methodLink "LineGuard$Row" 27 ⟨"LineGuard$Row", "addPart", "(LLineGuard$Row;II)V"⟩ : Cond) ∈ uT := uni_mem (List.mem_of_getElem? (i := 442) (by decide +kernel)) rfl
theorem tw_443 : (Cond.instanceMethod ⟨"LineGuard$Row", "addPart", "(LLineGuard$Row;II)V"⟩ : Cond) ∈ uT := uni_mem (List.mem_of_getElem? (i := 443) (by decide +kernel)) rfl
theorem tw_444 : (Cond.selects "LineGuard$Row" ⟨"LineGuard$Row", "addPart", "(LLineGuard$Row;II)V"⟩ ⟨"LineGuard$Row", "addPart", "(LLineGuard$Row;II)V"⟩ : Cond) ∈ uT := uni_mem (List.mem_of_getElem? (i := 444) (by decide +kernel)) rfl
theorem tw_445 : (Cond.code ⟨"LineGuard$Row", "addPart", "(LLineGuard$Row;II)V"⟩ prog_8_method_10_code 5 none : Cond) ∈ uT := uni_mem (List.mem_of_getElem? (i := 445) (by decide +kernel)) rfl
theorem tw_446 : (Cond.methodLink "LineGuard$Row" 23 ⟨"LineGuard$Row", "at", "(I)I"⟩ : Cond) ∈ uT := uni_mem (List.mem_of_getElem? (i := 446) (by decide +kernel)) rfl
theorem tw_447 : (Cond.methodLink "LineGuard" 88 ⟨"LineGuard$Row", "clear", "()V"⟩ : Cond) ∈ uT := uni_mem (List.mem_of_getElem? (i := 447) (by decide +kernel)) rfl
theorem tw_448 : (Cond.methodLink "LineGuardLaw" 45 ⟨"LineGuard", "keys", "(II)I"⟩ : Cond) ∈ uT := uni_mem (List.mem_of_getElem? (i := 448) (by decide +kernel)) rfl
theorem tw_449 : (Cond.instanceMethod ⟨"LineGuard", "keys", "(II)I"⟩ : Cond) ∈ uT := uni_mem (List.mem_of_getElem? (i := 449) (by decide +kernel)) rfl
theorem tw_450 : (Cond.selects "LineGuard" ⟨"LineGuard", "keys", "(II)I"⟩ ⟨"LineGuard", "keys", "(II)I"⟩ : Cond) ∈ uT := uni_mem (List.mem_of_getElem? (i := 450) (by decide +kernel)) rfl
theorem tw_451 : (Cond.code ⟨"LineGuard", "keys", "(II)I"⟩ prog_1_method_9_code 5 (some .int) : Cond) ∈ uT := uni_mem (List.mem_of_getElem? (i := 451) (by decide +kernel)) rfl
theorem tw_452 : (Cond.methodLink "LineGuard" 91 ⟨"LineGuard", "keysOf", "(I)LLineGuard$Keys;"⟩ : Cond) ∈ uT := uni_mem (List.mem_of_getElem? (i := 452) (by decide +kernel)) rfl
theorem tw_454 : (Cond.instanceMethod ⟨"LineGuard", "keysOf", "(I)LLineGuard$Keys;"⟩ : Cond) ∈ uT := uni_mem (List.mem_of_getElem? (i := 454) (by decide +kernel)) rfl
theorem tw_455 : (Cond.code ⟨"LineGuard", "keysOf", "(I)LLineGuard$Keys;"⟩ prog_1_method_21_code 2 (Option.some (.object "LineGuard$Keys")) : Cond) ∈ uT := uni_mem (List.mem_of_getElem? (i := 455) (by decide +kernel)) rfl
theorem tw_456 : (Cond.methodLink "LineGuard" 95 ⟨"LineGuard$Keys", "tell", "(ILLineGuard$Row;)Z"⟩ : Cond) ∈ uT := uni_mem (List.mem_of_getElem? (i := 456) (by decide +kernel)) rfl
theorem tw_457 : (Cond.instanceMethod ⟨"LineGuard$Keys", "tell", "(ILLineGuard$Row;)Z"⟩ : Cond) ∈ uT := uni_mem (List.mem_of_getElem? (i := 457) (by decide +kernel)) rfl
theorem tw_458 : (Cond.selects "LineGuard$Keys" ⟨"LineGuard$Keys", "tell", "(ILLineGuard$Row;)Z"⟩ ⟨"LineGuard$Keys", "tell", "(ILLineGuard$Row;)Z"⟩ : Cond) ∈ uT := uni_mem (List.mem_of_getElem? (i := 458) (by decide +kernel)) rfl
theorem tw_459 : (Cond.code ⟨"LineGuard$Keys", "tell", "(ILLineGuard$Row;)Z"⟩ prog_5_method_2_code 5 (some .boolean) : Cond) ∈ uT := uni_mem (List.mem_of_getElem? (i := 459) (by decide +kernel)) rfl
theorem tw_460 : (Cond.methodLink "LineGuard$Keys" 33 ⟨"LineGuard$Row", "size", "()I"⟩ : Cond) ∈ uT := uni_mem (List.mem_of_getElem? (i := 460) (by decide +kernel)) rfl
theorem tw_461 : (Cond.methodLink "LineGuard$Keys" 37 ⟨"LineGuard$Row", "copyPart", "(LLineGuard$Row;II)V"⟩ : Cond) ∈ uT := uni_mem (List.mem_of_getElem? (i := 461) (by decide +kernel)) rfl
theorem tw_462 : (Cond.instanceMethod ⟨"LineGuard$Row", "copyPart", "(LLineGuard$Row;II)V"⟩ : Cond) ∈ uT := uni_mem (List.mem_of_getElem? (i := 462) (by decide +kernel)) rfl
theorem tw_463 : (Cond.selects "LineGuard$Row" ⟨"LineGuard$Row", "copyPart", "(LLineGuard$Row;II)V"⟩ ⟨"LineGuard$Row", "copyPart", "(LLineGuard$Row;II)V"⟩ : Cond) ∈ uT := uni_mem (List.mem_of_getElem? (i := 463) (by decide +kernel)) rfl
theorem tw_464 : (Cond.code ⟨"LineGuard$Row", "copyPart", "(LLineGuard$Row;II)V"⟩ prog_8_method_13_code 4 none : Cond) ∈ uT := uni_mem (List.mem_of_getElem? (i := 464) (by decide +kernel)) rfl
theorem tw_465 : (Cond.methodLink "LineGuard" 99 ⟨"LineGuard", "forgetSessions", "()V"⟩ : Cond) ∈ uT := uni_mem (List.mem_of_getElem? (i := 465) (by decide +kernel)) rfl
theorem tw_467 : (Cond.instanceMethod ⟨"LineGuard", "forgetSessions", "()V"⟩ : Cond) ∈ uT := uni_mem (List.mem_of_getElem? (i := 467) (by decide +kernel)) rfl
theorem tw_468 : (Cond.code ⟨"LineGuard", "forgetSessions", "()V"⟩ prog_1_method_24_code 1 none : Cond) ∈ uT := uni_mem (List.mem_of_getElem? (i := 468) (by decide +kernel)) rfl
theorem tw_469 : (Cond.methodLink "LineGuard" 136 ⟨"LineGuard$Session", "finish", "()V"⟩ : Cond) ∈ uT := uni_mem (List.mem_of_getElem? (i := 469) (by decide +kernel)) rfl
theorem tw_470 : (Cond.instanceMethod ⟨"LineGuard$Session", "finish", "()V"⟩ : Cond) ∈ uT := uni_mem (List.mem_of_getElem? (i := 470) (by decide +kernel)) rfl
theorem tw_471 : (Cond.selects "LineGuard$Session" ⟨"LineGuard$Session", "finish", "()V"⟩ ⟨"LineGuard$Session", "finish", "()V"⟩ : Cond) ∈ uT := uni_mem (List.mem_of_getElem? (i := 471) (by decide +kernel)) rfl
theorem tw_472 : (Cond.code ⟨"LineGuard$Session", "finish", "()V"⟩ prog_10_method_4_code 1 none : Cond) ∈ uT := uni_mem (List.mem_of_getElem? (i := 472) (by decide +kernel)) rfl
theorem tw_473 : (Cond.methodLink "LineGuardLaw" 49 ⟨"LineGuard", "name", "()I"⟩ : Cond) ∈ uT := uni_mem (List.mem_of_getElem? (i := 473) (by decide +kernel)) rfl
theorem tw_474 : (Cond.instanceMethod ⟨"LineGuard", "name", "()I"⟩ : Cond) ∈ uT := uni_mem (List.mem_of_getElem? (i := 474) (by decide +kernel)) rfl
theorem tw_475 : (Cond.selects "LineGuard" ⟨"LineGuard", "name", "()I"⟩ ⟨"LineGuard", "name", "()I"⟩ : Cond) ∈ uT := uni_mem (List.mem_of_getElem? (i := 475) (by decide +kernel)) rfl
theorem tw_476 : (Cond.code ⟨"LineGuard", "name", "()I"⟩ prog_1_method_10_code 3 (some .int) : Cond) ∈ uT := uni_mem (List.mem_of_getElem? (i := 476) (by decide +kernel)) rfl
theorem tw_477 : (Cond.methodLink "LineGuardLaw" 53 ⟨"LineGuard", "counter", "(I)I"⟩ : Cond) ∈ uT := uni_mem (List.mem_of_getElem? (i := 477) (by decide +kernel)) rfl
theorem tw_478 : (Cond.instanceMethod ⟨"LineGuard", "counter", "(I)I"⟩ : Cond) ∈ uT := uni_mem (List.mem_of_getElem? (i := 478) (by decide +kernel)) rfl
theorem tw_479 : (Cond.selects "LineGuard" ⟨"LineGuard", "counter", "(I)I"⟩ ⟨"LineGuard", "counter", "(I)I"⟩ : Cond) ∈ uT := uni_mem (List.mem_of_getElem? (i := 479) (by decide +kernel)) rfl
theorem tw_480 : (Cond.code ⟨"LineGuard", "counter", "(I)I"⟩ prog_1_method_11_code 2 (some .int) : Cond) ∈ uT := uni_mem (List.mem_of_getElem? (i := 480) (by decide +kernel)) rfl
theorem tw_481 : (Cond.constant "LineGuard" 102 (16777215) : Cond) ∈ uT := uni_mem (List.mem_of_getElem? (i := 481) (by decide +kernel)) rfl
theorem tw_482 : (Cond.methodLink "LineGuardLaw" 59 ⟨"LineGuard", "start", "(J)I"⟩ : Cond) ∈ uT := uni_mem (List.mem_of_getElem? (i := 482) (by decide +kernel)) rfl
theorem tw_483 : (Cond.instanceMethod ⟨"LineGuard", "start", "(J)I"⟩ : Cond) ∈ uT := uni_mem (List.mem_of_getElem? (i := 483) (by decide +kernel)) rfl
theorem tw_484 : (Cond.selects "LineGuard" ⟨"LineGuard", "start", "(J)I"⟩ ⟨"LineGuard", "start", "(J)I"⟩ : Cond) ∈ uT := uni_mem (List.mem_of_getElem? (i := 484) (by decide +kernel)) rfl
theorem tw_485 : (Cond.code ⟨"LineGuard", "start", "(J)I"⟩ prog_1_method_12_code 4 (some .int) : Cond) ∈ uT := uni_mem (List.mem_of_getElem? (i := 485) (by decide +kernel)) rfl
theorem tw_486 : (Cond.methodLink "LineGuard" 109 ⟨"LineGuard", "ruleOf", "(LLineGuard$Keys;)LLineGuard$Rule;"⟩ : Cond) ∈ uT := uni_mem (List.mem_of_getElem? (i := 486) (by decide +kernel)) rfl
theorem tw_488 : (Cond.instanceMethod ⟨"LineGuard", "ruleOf", "(LLineGuard$Keys;)LLineGuard$Rule;"⟩ : Cond) ∈ uT := uni_mem (List.mem_of_getElem? (i := 488) (by decide +kernel)) rfl
theorem tw_489 : (Cond.code ⟨"LineGuard", "ruleOf", "(LLineGuard$Keys;)LLineGuard$Rule;"⟩ prog_1_method_23_code 2 (Option.some (.object "LineGuard$Rule")) : Cond) ∈ uT := uni_mem (List.mem_of_getElem? (i := 489) (by decide +kernel)) rfl
theorem tw_490 : (Cond.methodLink "LineGuard" 113 ⟨"LineGuard$Rule", "makeChallenge", "(LLineGuard$Keys;LLineGuard$Session;ILLineGuard$Row;)V"⟩ : Cond) ∈ uT := uni_mem (List.mem_of_getElem? (i := 490) (by decide +kernel)) rfl
theorem tw_492 : (Cond.sameMethod "LineGuard$Rule" "LineGuard$Rule" "makeChallenge" "(LLineGuard$Keys;LLineGuard$Session;ILLineGuard$Row;)V" : Cond) ∈ uT := uni_mem (List.mem_of_getElem? (i := 492) (by decide +kernel)) rfl
theorem tw_493 : (Cond.selects "LineGuard$NewerRule" ⟨"LineGuard$Rule", "makeChallenge", "(LLineGuard$Keys;LLineGuard$Session;ILLineGuard$Row;)V"⟩ ⟨"LineGuard$NewerRule", "makeChallenge", "(LLineGuard$Keys;LLineGuard$Session;ILLineGuard$Row;)V"⟩ : Cond) ∈ uT := uni_mem (List.mem_of_getElem? (i := 493) (by decide +kernel)) rfl
theorem tw_494 : (Cond.instanceMethod ⟨"LineGuard$NewerRule", "makeChallenge", "(LLineGuard$Keys;LLineGuard$Session;ILLineGuard$Row;)V"⟩ : Cond) ∈ uT := uni_mem (List.mem_of_getElem? (i := 494) (by decide +kernel)) rfl
theorem tw_495 : (Cond.code ⟨"LineGuard$NewerRule", "makeChallenge", "(LLineGuard$Keys;LLineGuard$Session;ILLineGuard$Row;)V"⟩ prog_6_method_4_code 5 none : Cond) ∈ uT := uni_mem (List.mem_of_getElem? (i := 495) (by decide +kernel)) rfl
theorem tw_496 : (Cond.methodLink "LineGuard$NewerRule" 26 ⟨"LineGuard$Row", "clear", "()V"⟩ : Cond) ∈ uT := uni_mem (List.mem_of_getElem? (i := 496) (by decide +kernel)) rfl
theorem tw_497 : (Cond.methodLink "LineGuard$NewerRule" 31 ⟨"LineGuard$Row", "addNumber", "(JI)V"⟩ : Cond) ∈ uT := uni_mem (List.mem_of_getElem? (i := 497) (by decide +kernel)) rfl
theorem tw_498 : (Cond.methodLink "LineGuard$NewerRule" 35 ⟨"LineGuard$Row", "addAll", "(LLineGuard$Row;)V"⟩ : Cond) ∈ uT := uni_mem (List.mem_of_getElem? (i := 498) (by decide +kernel)) rfl
theorem tw_499 : (Cond.instanceMethod ⟨"LineGuard$Row", "addAll", "(LLineGuard$Row;)V"⟩ : Cond) ∈ uT := uni_mem (List.mem_of_getElem? (i := 499) (by decide +kernel)) rfl
theorem tw_500 : (Cond.selects "LineGuard$Row" ⟨"LineGuard$Row", "addAll", "(LLineGuard$Row;)V"⟩ ⟨"LineGuard$Row", "addAll", "(LLineGuard$Row;)V"⟩ : Cond) ∈ uT := uni_mem (List.mem_of_getElem? (i := 500) (by decide +kernel)) rfl
theorem tw_501 : (Cond.code ⟨"LineGuard$Row", "addAll", "(LLineGuard$Row;)V"⟩ prog_8_method_11_code 2 none : Cond) ∈ uT := uni_mem (List.mem_of_getElem? (i := 501) (by decide +kernel)) rfl
theorem tw_502 : (Cond.methodLink "LineGuard$NewerRule" 49 ⟨"LineGuard$NewerRule", "derive", "(LLineGuard$Row;IILLineGuard$Row;)V"⟩ : Cond) ∈ uT := uni_mem (List.mem_of_getElem? (i := 502) (by decide +kernel)) rfl
theorem tw_504 : (Cond.instanceMethod ⟨"LineGuard$NewerRule", "derive", "(LLineGuard$Row;IILLineGuard$Row;)V"⟩ : Cond) ∈ uT := uni_mem (List.mem_of_getElem? (i := 504) (by decide +kernel)) rfl
theorem tw_505 : (Cond.code ⟨"LineGuard$NewerRule", "derive", "(LLineGuard$Row;IILLineGuard$Row;)V"⟩ prog_6_method_16_code 6 none : Cond) ∈ uT := uni_mem (List.mem_of_getElem? (i := 505) (by decide +kernel)) rfl
theorem tw_506 : (Cond.methodLink "LineGuard$NewerRule" 181 ⟨"LineGuard$Row", "addZeros", "(I)V"⟩ : Cond) ∈ uT := uni_mem (List.mem_of_getElem? (i := 506) (by decide +kernel)) rfl
theorem tw_507 : (Cond.methodLink "LineGuard$NewerRule" 178 ⟨"LineGuard$Row", "add", "(I)V"⟩ : Cond) ∈ uT := uni_mem (List.mem_of_getElem? (i := 507) (by decide +kernel)) rfl
theorem tw_508 : (Cond.methodLink "LineGuard$NewerRule" 156 ⟨"LineGuard$NewerRule", "cmac", "(LLineGuard$Row;LLineGuard$Row;)V"⟩ : Cond) ∈ uT := uni_mem (List.mem_of_getElem? (i := 508) (by decide +kernel)) rfl
theorem tw_510 : (Cond.instanceMethod ⟨"LineGuard$NewerRule", "cmac", "(LLineGuard$Row;LLineGuard$Row;)V"⟩ : Cond) ∈ uT := uni_mem (List.mem_of_getElem? (i := 510) (by decide +kernel)) rfl
theorem tw_511 : (Cond.code ⟨"LineGuard$NewerRule", "cmac", "(LLineGuard$Row;LLineGuard$Row;)V"⟩ prog_6_method_17_code 5 none : Cond) ∈ uT := uni_mem (List.mem_of_getElem? (i := 511) (by decide +kernel)) rfl
theorem tw_512 : (Cond.methodLink "LineGuard$NewerRule" 134 ⟨"LineGuard$Aes", "setKey", "(LLineGuard$Row;)V"⟩ : Cond) ∈ uT := uni_mem (List.mem_of_getElem? (i := 512) (by decide +kernel)) rfl
theorem tw_513 : (Cond.instanceMethod ⟨"LineGuard$Aes", "setKey", "(LLineGuard$Row;)V"⟩ : Cond) ∈ uT := uni_mem (List.mem_of_getElem? (i := 513) (by decide +kernel)) rfl
theorem tw_514 : (Cond.selects "LineGuard$Aes" ⟨"LineGuard$Aes", "setKey", "(LLineGuard$Row;)V"⟩ ⟨"LineGuard$Aes", "setKey", "(LLineGuard$Row;)V"⟩ : Cond) ∈ uT := uni_mem (List.mem_of_getElem? (i := 514) (by decide +kernel)) rfl
theorem tw_515 : (Cond.code ⟨"LineGuard$Aes", "setKey", "(LLineGuard$Row;)V"⟩ prog_2_method_2_code 6 none : Cond) ∈ uT := uni_mem (List.mem_of_getElem? (i := 515) (by decide +kernel)) rfl
theorem tw_516 : (Cond.methodLink "LineGuard$Aes" 29 ⟨"LineGuard$Row", "size", "()I"⟩ : Cond) ∈ uT := uni_mem (List.mem_of_getElem? (i := 516) (by decide +kernel)) rfl
theorem tw_517 : (Cond.methodLink "LineGuard$Aes" 35 ⟨"LineGuard$Row", "at", "(I)I"⟩ : Cond) ∈ uT := uni_mem (List.mem_of_getElem? (i := 517) (by decide +kernel)) rfl
theorem tw_518 : (Cond.methodLink "LineGuard$Aes" 39 ⟨"LineGuard$Aes", "boxWord", "(I)I"⟩ : Cond) ∈ uT := uni_mem (List.mem_of_getElem? (i := 518) (by decide +kernel)) rfl
theorem tw_519 : (Cond.static ⟨"LineGuard$Aes", "boxWord", "(I)I"⟩ : Cond) ∈ uT := uni_mem (List.mem_of_getElem? (i := 519) (by decide +kernel)) rfl
theorem tw_520 : (Cond.code ⟨"LineGuard$Aes", "boxWord", "(I)I"⟩ prog_2_method_9_code 1 (some .int) : Cond) ∈ uT := uni_mem (List.mem_of_getElem? (i := 520) (by decide +kernel)) rfl
theorem tw_521 : (Cond.methodLink "LineGuard$NewerRule" 69 ⟨"LineGuard$Row", "copy", "(LLineGuard$Row;)V"⟩ : Cond) ∈ uT := uni_mem (List.mem_of_getElem? (i := 521) (by decide +kernel)) rfl
theorem tw_522 : (Cond.methodLink "LineGuard$NewerRule" 140 ⟨"LineGuard$Aes", "startFrom", "(LLineGuard$Row;)V"⟩ : Cond) ∈ uT := uni_mem (List.mem_of_getElem? (i := 522) (by decide +kernel)) rfl
theorem tw_523 : (Cond.sameMethod "LineGuard$Aes" "LineGuard$BlockCipher" "startFrom" "(LLineGuard$Row;)V" : Cond) ∈ uT := uni_mem (List.mem_of_getElem? (i := 523) (by decide +kernel)) rfl
theorem tw_525 : (Cond.selects "LineGuard$Aes" ⟨"LineGuard$Aes", "startFrom", "(LLineGuard$Row;)V"⟩ ⟨"LineGuard$BlockCipher", "startFrom", "(LLineGuard$Row;)V"⟩ : Cond) ∈ uT := uni_mem (List.mem_of_getElem? (i := 525) (by decide +kernel)) rfl
theorem tw_526 : (Cond.instanceMethod ⟨"LineGuard$BlockCipher", "startFrom", "(LLineGuard$Row;)V"⟩ : Cond) ∈ uT := uni_mem (List.mem_of_getElem? (i := 526) (by decide +kernel)) rfl
theorem tw_527 : (Cond.code ⟨"LineGuard$BlockCipher", "startFrom", "(LLineGuard$Row;)V"⟩ prog_3_method_4_code 3 none : Cond) ∈ uT := uni_mem (List.mem_of_getElem? (i := 527) (by decide +kernel)) rfl
theorem tw_528 : (Cond.methodLink "LineGuard$BlockCipher" 16 ⟨"LineGuard$Row", "at", "(I)I"⟩ : Cond) ∈ uT := uni_mem (List.mem_of_getElem? (i := 528) (by decide +kernel)) rfl
theorem tw_529 : (Cond.methodLink "LineGuard$NewerRule" 146 ⟨"LineGuard$Aes", "chainThere", "(LLineGuard$Row;II)V"⟩ : Cond) ∈ uT := uni_mem (List.mem_of_getElem? (i := 529) (by decide +kernel)) rfl
theorem tw_530 : (Cond.sameMethod "LineGuard$Aes" "LineGuard$BlockCipher" "chainThere" "(LLineGuard$Row;II)V" : Cond) ∈ uT := uni_mem (List.mem_of_getElem? (i := 530) (by decide +kernel)) rfl
theorem tw_532 : (Cond.selects "LineGuard$Aes" ⟨"LineGuard$Aes", "chainThere", "(LLineGuard$Row;II)V"⟩ ⟨"LineGuard$BlockCipher", "chainThere", "(LLineGuard$Row;II)V"⟩ : Cond) ∈ uT := uni_mem (List.mem_of_getElem? (i := 532) (by decide +kernel)) rfl
theorem tw_533 : (Cond.instanceMethod ⟨"LineGuard$BlockCipher", "chainThere", "(LLineGuard$Row;II)V"⟩ : Cond) ∈ uT := uni_mem (List.mem_of_getElem? (i := 533) (by decide +kernel)) rfl
theorem tw_534 : (Cond.code ⟨"LineGuard$BlockCipher", "chainThere", "(LLineGuard$Row;II)V"⟩ prog_3_method_5_code 6 none : Cond) ∈ uT := uni_mem (List.mem_of_getElem? (i := 534) (by decide +kernel)) rfl
theorem tw_535 : (Cond.methodLink "LineGuard$BlockCipher" 22 ⟨"LineGuard$BlockCipher", "there", "()V"⟩ : Cond) ∈ uT := uni_mem (List.mem_of_getElem? (i := 535) (by decide +kernel)) rfl
theorem tw_537 : (Cond.sameMethod "LineGuard$BlockCipher" "LineGuard$BlockCipher" "there" "()V" : Cond) ∈ uT := uni_mem (List.mem_of_getElem? (i := 537) (by decide +kernel)) rfl
theorem tw_538 : (Cond.selects "LineGuard$Aes" ⟨"LineGuard$BlockCipher", "there", "()V"⟩ ⟨"LineGuard$Aes", "there", "()V"⟩ : Cond) ∈ uT := uni_mem (List.mem_of_getElem? (i := 538) (by decide +kernel)) rfl
theorem tw_539 : (Cond.instanceMethod ⟨"LineGuard$Aes", "there", "()V"⟩ : Cond) ∈ uT := uni_mem (List.mem_of_getElem? (i := 539) (by decide +kernel)) rfl
theorem tw_540 : (Cond.code ⟨"LineGuard$Aes", "there", "()V"⟩ prog_2_method_3_code 3 none : Cond) ∈ uT := uni_mem (List.mem_of_getElem? (i := 540) (by decide +kernel)) rfl
theorem tw_541 : (Cond.methodLink "LineGuard$Aes" 42 ⟨"LineGuard$Aes", "load", "()V"⟩ : Cond) ∈ uT := uni_mem (List.mem_of_getElem? (i := 541) (by decide +kernel)) rfl
theorem tw_543 : (Cond.instanceMethod ⟨"LineGuard$Aes", "load", "()V"⟩ : Cond) ∈ uT := uni_mem (List.mem_of_getElem? (i := 543) (by decide +kernel)) rfl
theorem tw_544 : (Cond.code ⟨"LineGuard$Aes", "load", "()V"⟩ prog_2_method_5_code 3 none : Cond) ∈ uT := uni_mem (List.mem_of_getElem? (i := 544) (by decide +kernel)) rfl
theorem tw_545 : (Cond.methodLink "LineGuard$Aes" 46 ⟨"LineGuard$Aes", "addWords", "(I)V"⟩ : Cond) ∈ uT := uni_mem (List.mem_of_getElem? (i := 545) (by decide +kernel)) rfl
theorem tw_547 : (Cond.instanceMethod ⟨"LineGuard$Aes", "addWords", "(I)V"⟩ : Cond) ∈ uT := uni_mem (List.mem_of_getElem? (i := 547) (by decide +kernel)) rfl
theorem tw_548 : (Cond.code ⟨"LineGuard$Aes", "addWords", "(I)V"⟩ prog_2_method_7_code 3 none : Cond) ∈ uT := uni_mem (List.mem_of_getElem? (i := 548) (by decide +kernel)) rfl
theorem tw_549 : (Cond.methodLink "LineGuard$Aes" 49 ⟨"LineGuard$Aes", "boxShifted", "([II)V"⟩ : Cond) ∈ uT := uni_mem (List.mem_of_getElem? (i := 549) (by decide +kernel)) rfl
theorem tw_551 : (Cond.instanceMethod ⟨"LineGuard$Aes", "boxShifted", "([II)V"⟩ : Cond) ∈ uT := uni_mem (List.mem_of_getElem? (i := 551) (by decide +kernel)) rfl
theorem tw_552 : (Cond.code ⟨"LineGuard$Aes", "boxShifted", "([II)V"⟩ prog_2_method_8_code 4 none : Cond) ∈ uT := uni_mem (List.mem_of_getElem? (i := 552) (by decide +kernel)) rfl
theorem tw_553 : (Cond.methodLink "LineGuard$Aes" 53 ⟨"LineGuard$Aes", "mix", "(I)I"⟩ : Cond) ∈ uT := uni_mem (List.mem_of_getElem? (i := 553) (by decide +kernel)) rfl
theorem tw_554 : (Cond.static ⟨"LineGuard$Aes", "mix", "(I)I"⟩ : Cond) ∈ uT := uni_mem (List.mem_of_getElem? (i := 554) (by decide +kernel)) rfl
theorem tw_555 : (Cond.code ⟨"LineGuard$Aes", "mix", "(I)I"⟩ prog_2_method_10_code 3 (some .int) : Cond) ∈ uT := uni_mem (List.mem_of_getElem? (i := 555) (by decide +kernel)) rfl
theorem tw_556 : (Cond.constant "LineGuard$Aes" 65 (2139062143) : Cond) ∈ uT := uni_mem (List.mem_of_getElem? (i := 556) (by decide +kernel)) rfl
theorem tw_557 : (Cond.constant "LineGuard$Aes" 66 (16843009) : Cond) ∈ uT := uni_mem (List.mem_of_getElem? (i := 557) (by decide +kernel)) rfl
theorem tw_558 : (Cond.methodLink "LineGuard$Aes" 56 ⟨"LineGuard$Aes", "store", "()V"⟩ : Cond) ∈ uT := uni_mem (List.mem_of_getElem? (i := 558) (by decide +kernel)) rfl
theorem tw_560 : (Cond.instanceMethod ⟨"LineGuard$Aes", "store", "()V"⟩ : Cond) ∈ uT := uni_mem (List.mem_of_getElem? (i := 560) (by decide +kernel)) rfl
theorem tw_561 : (Cond.code ⟨"LineGuard$Aes", "store", "()V"⟩ prog_2_method_6_code 2 none : Cond) ∈ uT := uni_mem (List.mem_of_getElem? (i := 561) (by decide +kernel)) rfl
theorem tw_562 : (Cond.selects "LineGuard$Des" ⟨"LineGuard$BlockCipher", "there", "()V"⟩ ⟨"LineGuard$Des", "there", "()V"⟩ : Cond) ∈ uT := uni_mem (List.mem_of_getElem? (i := 562) (by decide +kernel)) rfl
theorem tw_563 : (Cond.instanceMethod ⟨"LineGuard$Des", "there", "()V"⟩ : Cond) ∈ uT := uni_mem (List.mem_of_getElem? (i := 563) (by decide +kernel)) rfl
theorem tw_564 : (Cond.code ⟨"LineGuard$Des", "there", "()V"⟩ prog_4_method_4_code 3 none : Cond) ∈ uT := uni_mem (List.mem_of_getElem? (i := 564) (by decide +kernel)) rfl
theorem tw_565 : (Cond.methodLink "LineGuard$Des" 34 ⟨"LineGuard$Des", "load", "()J"⟩ : Cond) ∈ uT := uni_mem (List.mem_of_getElem? (i := 565) (by decide +kernel)) rfl
theorem tw_567 : (Cond.instanceMethod ⟨"LineGuard$Des", "load", "()J"⟩ : Cond) ∈ uT := uni_mem (List.mem_of_getElem? (i := 567) (by decide +kernel)) rfl
theorem tw_568 : (Cond.code ⟨"LineGuard$Des", "load", "()J"⟩ prog_4_method_6_code 4 (some .long) : Cond) ∈ uT := uni_mem (List.mem_of_getElem? (i := 568) (by decide +kernel)) rfl
theorem tw_569 : (Cond.methodLink "LineGuard$Des" 38 ⟨"LineGuard$Des", "reorder", "(JZ)J"⟩ : Cond) ∈ uT := uni_mem (List.mem_of_getElem? (i := 569) (by decide +kernel)) rfl
theorem tw_570 : (Cond.static ⟨"LineGuard$Des", "reorder", "(JZ)J"⟩ : Cond) ∈ uT := uni_mem (List.mem_of_getElem? (i := 570) (by decide +kernel)) rfl
theorem tw_571 : (Cond.code ⟨"LineGuard$Des", "reorder", "(JZ)J"⟩ prog_4_method_11_code 10 (some .long) : Cond) ∈ uT := uni_mem (List.mem_of_getElem? (i := 571) (by decide +kernel)) rfl
theorem tw_572 : (Cond.fieldLink "LineGuard$Des" 75 "LineGuard$Des" "SWAPS" "[I" : Cond) ∈ uT := uni_mem (List.mem_of_getElem? (i := 572) (by decide +kernel)) rfl
theorem tw_574 : (Cond.fieldLink "LineGuard$Des" 78 "LineGuard$Des" "SWAP_MASKS" "[J" : Cond) ∈ uT := uni_mem (List.mem_of_getElem? (i := 574) (by decide +kernel)) rfl
theorem tw_576 : (Cond.methodLink "LineGuard$Des" 42 ⟨"LineGuard$Des", "rounds", "(J[JZ)J"⟩ : Cond) ∈ uT := uni_mem (List.mem_of_getElem? (i := 576) (by decide +kernel)) rfl
theorem tw_578 : (Cond.instanceMethod ⟨"LineGuard$Des", "rounds", "(J[JZ)J"⟩ : Cond) ∈ uT := uni_mem (List.mem_of_getElem? (i := 578) (by decide +kernel)) rfl
theorem tw_579 : (Cond.code ⟨"LineGuard$Des", "rounds", "(J[JZ)J"⟩ prog_4_method_10_code 15 (some .long) : Cond) ∈ uT := uni_mem (List.mem_of_getElem? (i := 579) (by decide +kernel)) rfl
theorem tw_580 : (Cond.constantLong "LineGuard$Des" 73 (4294967295) : Cond) ∈ uT := uni_mem (List.mem_of_getElem? (i := 580) (by decide +kernel)) rfl
theorem tw_581 : (Cond.methodLink "LineGuard$Des" 46 ⟨"LineGuard$Des", "store", "(J)V"⟩ : Cond) ∈ uT := uni_mem (List.mem_of_getElem? (i := 581) (by decide +kernel)) rfl
theorem tw_583 : (Cond.instanceMethod ⟨"LineGuard$Des", "store", "(J)V"⟩ : Cond) ∈ uT := uni_mem (List.mem_of_getElem? (i := 583) (by decide +kernel)) rfl
theorem tw_584 : (Cond.code ⟨"LineGuard$Des", "store", "(J)V"⟩ prog_4_method_7_code 4 none : Cond) ∈ uT := uni_mem (List.mem_of_getElem? (i := 584) (by decide +kernel)) rfl
theorem tw_585 : (Cond.methodLink "LineGuard$BlockCipher" 25 ⟨"LineGuard$Row", "put", "(II)V"⟩ : Cond) ∈ uT := uni_mem (List.mem_of_getElem? (i := 585) (by decide +kernel)) rfl
theorem tw_586 : (Cond.methodLink "LineGuard$NewerRule" 190 ⟨"LineGuard$Row", "at", "(I)I"⟩ : Cond) ∈ uT := uni_mem (List.mem_of_getElem? (i := 586) (by decide +kernel)) rfl
theorem tw_587 : (Cond.methodLink "LineGuard$NewerRule" 194 ⟨"LineGuard$NewerRule", "doubleTurn", "()V"⟩ : Cond) ∈ uT := uni_mem (List.mem_of_getElem? (i := 587) (by decide +kernel)) rfl
theorem tw_589 : (Cond.instanceMethod ⟨"LineGuard$NewerRule", "doubleTurn", "()V"⟩ : Cond) ∈ uT := uni_mem (List.mem_of_getElem? (i := 589) (by decide +kernel)) rfl
theorem tw_590 : (Cond.code ⟨"LineGuard$NewerRule", "doubleTurn", "()V"⟩ prog_6_method_18_code 4 none : Cond) ∈ uT := uni_mem (List.mem_of_getElem? (i := 590) (by decide +kernel)) rfl
theorem tw_591 : (Cond.methodLink "LineGuard$NewerRule" 81 ⟨"LineGuard$Row", "size", "()I"⟩ : Cond) ∈ uT := uni_mem (List.mem_of_getElem? (i := 591) (by decide +kernel)) rfl
theorem tw_592 : (Cond.methodLink "LineGuard$NewerRule" 167 ⟨"LineGuard$NewerRule", "isBlocks", "(I)Z"⟩ : Cond) ∈ uT := uni_mem (List.mem_of_getElem? (i := 592) (by decide +kernel)) rfl
theorem tw_593 : (Cond.sameMethod "LineGuard$NewerRule" "LineGuard$Rule" "isBlocks" "(I)Z" : Cond) ∈ uT := uni_mem (List.mem_of_getElem? (i := 593) (by decide +kernel)) rfl
theorem tw_595 : (Cond.selects "LineGuard$NewerRule" ⟨"LineGuard$NewerRule", "isBlocks", "(I)Z"⟩ ⟨"LineGuard$Rule", "isBlocks", "(I)Z"⟩ : Cond) ∈ uT := uni_mem (List.mem_of_getElem? (i := 595) (by decide +kernel)) rfl
theorem tw_596 : (Cond.instanceMethod ⟨"LineGuard$Rule", "isBlocks", "(I)Z"⟩ : Cond) ∈ uT := uni_mem (List.mem_of_getElem? (i := 596) (by decide +kernel)) rfl
theorem tw_597 : (Cond.code ⟨"LineGuard$Rule", "isBlocks", "(I)Z"⟩ prog_9_method_12_code 2 (some .boolean) : Cond) ∈ uT := uni_mem (List.mem_of_getElem? (i := 597) (by decide +kernel)) rfl
theorem tw_598 : (Cond.methodLink "LineGuard$Rule" 39 ⟨"LineGuard$Rule", "width", "()I"⟩ : Cond) ∈ uT := uni_mem (List.mem_of_getElem? (i := 598) (by decide +kernel)) rfl
theorem tw_600 : (Cond.sameMethod "LineGuard$Rule" "LineGuard$Rule" "width" "()I" : Cond) ∈ uT := uni_mem (List.mem_of_getElem? (i := 600) (by decide +kernel)) rfl
theorem tw_601 : (Cond.selects "LineGuard$NewerRule" ⟨"LineGuard$Rule", "width", "()I"⟩ ⟨"LineGuard$NewerRule", "width", "()I"⟩ : Cond) ∈ uT := uni_mem (List.mem_of_getElem? (i := 601) (by decide +kernel)) rfl
theorem tw_602 : (Cond.instanceMethod ⟨"LineGuard$NewerRule", "width", "()I"⟩ : Cond) ∈ uT := uni_mem (List.mem_of_getElem? (i := 602) (by decide +kernel)) rfl
theorem tw_603 : (Cond.code ⟨"LineGuard$NewerRule", "width", "()I"⟩ prog_6_method_2_code 1 (some .int) : Cond) ∈ uT := uni_mem (List.mem_of_getElem? (i := 603) (by decide +kernel)) rfl
theorem tw_604 : (Cond.selects "LineGuard$OlderRule" ⟨"LineGuard$Rule", "width", "()I"⟩ ⟨"LineGuard$OlderRule", "width", "()I"⟩ : Cond) ∈ uT := uni_mem (List.mem_of_getElem? (i := 604) (by decide +kernel)) rfl
theorem tw_605 : (Cond.instanceMethod ⟨"LineGuard$OlderRule", "width", "()I"⟩ : Cond) ∈ uT := uni_mem (List.mem_of_getElem? (i := 605) (by decide +kernel)) rfl
theorem tw_606 : (Cond.code ⟨"LineGuard$OlderRule", "width", "()I"⟩ prog_7_method_2_code 1 (some .int) : Cond) ∈ uT := uni_mem (List.mem_of_getElem? (i := 606) (by decide +kernel)) rfl
theorem tw_607 : (Cond.methodLink "LineGuard$NewerRule" 160 ⟨"LineGuard$Row", "pad", "(I)V"⟩ : Cond) ∈ uT := uni_mem (List.mem_of_getElem? (i := 607) (by decide +kernel)) rfl
theorem tw_608 : (Cond.instanceMethod ⟨"LineGuard$Row", "pad", "(I)V"⟩ : Cond) ∈ uT := uni_mem (List.mem_of_getElem? (i := 608) (by decide +kernel)) rfl
theorem tw_609 : (Cond.selects "LineGuard$Row" ⟨"LineGuard$Row", "pad", "(I)V"⟩ ⟨"LineGuard$Row", "pad", "(I)V"⟩ : Cond) ∈ uT := uni_mem (List.mem_of_getElem? (i := 609) (by decide +kernel)) rfl
theorem tw_610 : (Cond.code ⟨"LineGuard$Row", "pad", "(I)V"⟩ prog_8_method_14_code 3 none : Cond) ∈ uT := uni_mem (List.mem_of_getElem? (i := 610) (by decide +kernel)) rfl
theorem tw_611 : (Cond.methodLink "LineGuard$NewerRule" 197 ⟨"LineGuard$Row", "put", "(II)V"⟩ : Cond) ∈ uT := uni_mem (List.mem_of_getElem? (i := 611) (by decide +kernel)) rfl
theorem tw_612 : (Cond.methodLink "LineGuard$NewerRule" 85 ⟨"LineGuard$Row", "copyPart", "(LLineGuard$Row;II)V"⟩ : Cond) ∈ uT := uni_mem (List.mem_of_getElem? (i := 612) (by decide +kernel)) rfl
theorem tw_613 : (Cond.methodLink "LineGuard$NewerRule" 187 ⟨"LineGuard$Row", "addPart", "(LLineGuard$Row;II)V"⟩ : Cond) ∈ uT := uni_mem (List.mem_of_getElem? (i := 613) (by decide +kernel)) rfl
theorem tw_614 : (Cond.selects "LineGuard$OlderRule" ⟨"LineGuard$Rule", "makeChallenge", "(LLineGuard$Keys;LLineGuard$Session;ILLineGuard$Row;)V"⟩ ⟨"LineGuard$OlderRule", "makeChallenge", "(LLineGuard$Keys;LLineGuard$Session;ILLineGuard$Row;)V"⟩ : Cond) ∈ uT := uni_mem (List.mem_of_getElem? (i := 614) (by decide +kernel)) rfl
theorem tw_615 : (Cond.instanceMethod ⟨"LineGuard$OlderRule", "makeChallenge", "(LLineGuard$Keys;LLineGuard$Session;ILLineGuard$Row;)V"⟩ : Cond) ∈ uT := uni_mem (List.mem_of_getElem? (i := 615) (by decide +kernel)) rfl
theorem tw_616 : (Cond.code ⟨"LineGuard$OlderRule", "makeChallenge", "(LLineGuard$Keys;LLineGuard$Session;ILLineGuard$Row;)V"⟩ prog_7_method_4_code 5 none : Cond) ∈ uT := uni_mem (List.mem_of_getElem? (i := 616) (by decide +kernel)) rfl
theorem tw_617 : (Cond.methodLink "LineGuard$OlderRule" 27 ⟨"LineGuard$OlderRule", "sessionKey", "(LLineGuard$Row;IILLineGuard$Row;)V"⟩ : Cond) ∈ uT := uni_mem (List.mem_of_getElem? (i := 617) (by decide +kernel)) rfl
theorem tw_619 : (Cond.instanceMethod ⟨"LineGuard$OlderRule", "sessionKey", "(LLineGuard$Row;IILLineGuard$Row;)V"⟩ : Cond) ∈ uT := uni_mem (List.mem_of_getElem? (i := 619) (by decide +kernel)) rfl
theorem tw_620 : (Cond.code ⟨"LineGuard$OlderRule", "sessionKey", "(LLineGuard$Row;IILLineGuard$Row;)V"⟩ prog_7_method_11_code 5 none : Cond) ∈ uT := uni_mem (List.mem_of_getElem? (i := 620) (by decide +kernel)) rfl
theorem tw_621 : (Cond.methodLink "LineGuard$OlderRule" 65 ⟨"LineGuard$Row", "clear", "()V"⟩ : Cond) ∈ uT := uni_mem (List.mem_of_getElem? (i := 621) (by decide +kernel)) rfl
theorem tw_622 : (Cond.methodLink "LineGuard$OlderRule" 68 ⟨"LineGuard$Row", "addNumber", "(JI)V"⟩ : Cond) ∈ uT := uni_mem (List.mem_of_getElem? (i := 622) (by decide +kernel)) rfl
theorem tw_623 : (Cond.methodLink "LineGuard$OlderRule" 160 ⟨"LineGuard$Row", "addZeros", "(I)V"⟩ : Cond) ∈ uT := uni_mem (List.mem_of_getElem? (i := 623) (by decide +kernel)) rfl
theorem tw_624 : (Cond.methodLink "LineGuard$OlderRule" 111 ⟨"LineGuard$Des", "setTriple", "(LLineGuard$Row;)V"⟩ : Cond) ∈ uT := uni_mem (List.mem_of_getElem? (i := 624) (by decide +kernel)) rfl
theorem tw_625 : (Cond.instanceMethod ⟨"LineGuard$Des", "setTriple", "(LLineGuard$Row;)V"⟩ : Cond) ∈ uT := uni_mem (List.mem_of_getElem? (i := 625) (by decide +kernel)) rfl
theorem tw_626 : (Cond.selects "LineGuard$Des" ⟨"LineGuard$Des", "setTriple", "(LLineGuard$Row;)V"⟩ ⟨"LineGuard$Des", "setTriple", "(LLineGuard$Row;)V"⟩ : Cond) ∈ uT := uni_mem (List.mem_of_getElem? (i := 626) (by decide +kernel)) rfl
theorem tw_627 : (Cond.code ⟨"LineGuard$Des", "setTriple", "(LLineGuard$Row;)V"⟩ prog_4_method_3_code 2 none : Cond) ∈ uT := uni_mem (List.mem_of_getElem? (i := 627) (by decide +kernel)) rfl
theorem tw_628 : (Cond.methodLink "LineGuard$Des" 30 ⟨"LineGuard$Des", "schedule", "(LLineGuard$Row;I[J)V"⟩ : Cond) ∈ uT := uni_mem (List.mem_of_getElem? (i := 628) (by decide +kernel)) rfl
theorem tw_629 : (Cond.static ⟨"LineGuard$Des", "schedule", "(LLineGuard$Row;I[J)V"⟩ : Cond) ∈ uT := uni_mem (List.mem_of_getElem? (i := 629) (by decide +kernel)) rfl
theorem tw_630 : (Cond.code ⟨"LineGuard$Des", "schedule", "(LLineGuard$Row;I[J)V"⟩ prog_4_method_8_code 11 none : Cond) ∈ uT := uni_mem (List.mem_of_getElem? (i := 630) (by decide +kernel)) rfl
theorem tw_631 : (Cond.methodLink "LineGuard$Des" 53 ⟨"LineGuard$Row", "at", "(I)I"⟩ : Cond) ∈ uT := uni_mem (List.mem_of_getElem? (i := 631) (by decide +kernel)) rfl
theorem tw_632 : (Cond.fieldLink "LineGuard$Des" 59 "LineGuard$Des" "CHOICE_1" "[I" : Cond) ∈ uT := uni_mem (List.mem_of_getElem? (i := 632) (by decide +kernel)) rfl
theorem tw_634 : (Cond.methodLink "LineGuard$Des" 62 ⟨"LineGuard$Des", "choose", "(JI[I)J"⟩ : Cond) ∈ uT := uni_mem (List.mem_of_getElem? (i := 634) (by decide +kernel)) rfl
theorem tw_635 : (Cond.static ⟨"LineGuard$Des", "choose", "(JI[I)J"⟩ : Cond) ∈ uT := uni_mem (List.mem_of_getElem? (i := 635) (by decide +kernel)) rfl
theorem tw_636 : (Cond.code ⟨"LineGuard$Des", "choose", "(JI[I)J"⟩ prog_4_method_9_code 7 (some .long) : Cond) ∈ uT := uni_mem (List.mem_of_getElem? (i := 636) (by decide +kernel)) rfl
theorem tw_637 : (Cond.constant "LineGuard$Des" 66 (268435455) : Cond) ∈ uT := uni_mem (List.mem_of_getElem? (i := 637) (by decide +kernel)) rfl
theorem tw_638 : (Cond.fieldLink "LineGuard$Des" 67 "LineGuard$Des" "SHIFTS" "[I" : Cond) ∈ uT := uni_mem (List.mem_of_getElem? (i := 638) (by decide +kernel)) rfl
theorem tw_640 : (Cond.fieldLink "LineGuard$Des" 70 "LineGuard$Des" "CHOICE_2" "[I" : Cond) ∈ uT := uni_mem (List.mem_of_getElem? (i := 640) (by decide +kernel)) rfl
theorem tw_642 : (Cond.methodLink "LineGuard$OlderRule" 114 ⟨"LineGuard$Des", "startFrom", "(LLineGuard$Row;)V"⟩ : Cond) ∈ uT := uni_mem (List.mem_of_getElem? (i := 642) (by decide +kernel)) rfl
theorem tw_643 : (Cond.sameMethod "LineGuard$Des" "LineGuard$BlockCipher" "startFrom" "(LLineGuard$Row;)V" : Cond) ∈ uT := uni_mem (List.mem_of_getElem? (i := 643) (by decide +kernel)) rfl
theorem tw_644 : (Cond.selects "LineGuard$Des" ⟨"LineGuard$Des", "startFrom", "(LLineGuard$Row;)V"⟩ ⟨"LineGuard$BlockCipher", "startFrom", "(LLineGuard$Row;)V"⟩ : Cond) ∈ uT := uni_mem (List.mem_of_getElem? (i := 644) (by decide +kernel)) rfl
theorem tw_645 : (Cond.methodLink "LineGuard$OlderRule" 95 ⟨"LineGuard$Row", "size", "()I"⟩ : Cond) ∈ uT := uni_mem (List.mem_of_getElem? (i := 645) (by decide +kernel)) rfl
theorem tw_646 : (Cond.methodLink "LineGuard$OlderRule" 117 ⟨"LineGuard$Des", "chainThere", "(LLineGuard$Row;II)V"⟩ : Cond) ∈ uT := uni_mem (List.mem_of_getElem? (i := 646) (by decide +kernel)) rfl
theorem tw_647 : (Cond.sameMethod "LineGuard$Des" "LineGuard$BlockCipher" "chainThere" "(LLineGuard$Row;II)V" : Cond) ∈ uT := uni_mem (List.mem_of_getElem? (i := 647) (by decide +kernel)) rfl
theorem tw_648 : (Cond.selects "LineGuard$Des" ⟨"LineGuard$Des", "chainThere", "(LLineGuard$Row;II)V"⟩ ⟨"LineGuard$BlockCipher", "chainThere", "(LLineGuard$Row;II)V"⟩ : Cond) ∈ uT := uni_mem (List.mem_of_getElem? (i := 648) (by decide +kernel)) rfl
theorem tw_649 : (Cond.methodLink "LineGuard$OlderRule" 34 ⟨"LineGuard$Row", "copy", "(LLineGuard$Row;)V"⟩ : Cond) ∈ uT := uni_mem (List.mem_of_getElem? (i := 649) (by decide +kernel)) rfl
theorem tw_650 : (Cond.methodLink "LineGuard$OlderRule" 46 ⟨"LineGuard$OlderRule", "retail", "(LLineGuard$Row;LLineGuard$Row;LLineGuard$Row;)V"⟩ : Cond) ∈ uT := uni_mem (List.mem_of_getElem? (i := 650) (by decide +kernel)) rfl
theorem tw_652 : (Cond.instanceMethod ⟨"LineGuard$OlderRule", "retail", "(LLineGuard$Row;LLineGuard$Row;LLineGuard$Row;)V"⟩ : Cond) ∈ uT := uni_mem (List.mem_of_getElem? (i := 652) (by decide +kernel)) rfl
theorem tw_653 : (Cond.code ⟨"LineGuard$OlderRule", "retail", "(LLineGuard$Row;LLineGuard$Row;LLineGuard$Row;)V"⟩ prog_7_method_16_code 5 none : Cond) ∈ uT := uni_mem (List.mem_of_getElem? (i := 653) (by decide +kernel)) rfl
theorem tw_654 : (Cond.methodLink "LineGuard$OlderRule" 107 ⟨"LineGuard$Row", "pad", "(I)V"⟩ : Cond) ∈ uT := uni_mem (List.mem_of_getElem? (i := 654) (by decide +kernel)) rfl
theorem tw_655 : (Cond.methodLink "LineGuard$OlderRule" 170 ⟨"LineGuard$Des", "setSingle", "(LLineGuard$Row;)V"⟩ : Cond) ∈ uT := uni_mem (List.mem_of_getElem? (i := 655) (by decide +kernel)) rfl
theorem tw_656 : (Cond.instanceMethod ⟨"LineGuard$Des", "setSingle", "(LLineGuard$Row;)V"⟩ : Cond) ∈ uT := uni_mem (List.mem_of_getElem? (i := 656) (by decide +kernel)) rfl
theorem tw_657 : (Cond.selects "LineGuard$Des" ⟨"LineGuard$Des", "setSingle", "(LLineGuard$Row;)V"⟩ ⟨"LineGuard$Des", "setSingle", "(LLineGuard$Row;)V"⟩ : Cond) ∈ uT := uni_mem (List.mem_of_getElem? (i := 657) (by decide +kernel)) rfl
theorem tw_658 : (Cond.code ⟨"LineGuard$Des", "setSingle", "(LLineGuard$Row;)V"⟩ prog_4_method_2_code 2 none : Cond) ∈ uT := uni_mem (List.mem_of_getElem? (i := 658) (by decide +kernel)) rfl
theorem tw_659 : (Cond.methodLink "LineGuard$OlderRule" 99 ⟨"LineGuard$Row", "copyPart", "(LLineGuard$Row;II)V"⟩ : Cond) ∈ uT := uni_mem (List.mem_of_getElem? (i := 659) (by decide +kernel)) rfl
theorem tw_660 : (Cond.methodLink "LineGuard$OlderRule" 50 ⟨"LineGuard$Row", "shorten", "(I)Z"⟩ : Cond) ∈ uT := uni_mem (List.mem_of_getElem? (i := 660) (by decide +kernel)) rfl
theorem tw_661 : (Cond.methodLink "LineGuard" 119 ⟨"LineGuard$Rule", "makeSession", "(LLineGuard$Keys;LLineGuard$Session;JI)V"⟩ : Cond) ∈ uT := uni_mem (List.mem_of_getElem? (i := 661) (by decide +kernel)) rfl
theorem tw_663 : (Cond.sameMethod "LineGuard$Rule" "LineGuard$Rule" "makeSession" "(LLineGuard$Keys;LLineGuard$Session;JI)V" : Cond) ∈ uT := uni_mem (List.mem_of_getElem? (i := 663) (by decide +kernel)) rfl
theorem tw_664 : (Cond.selects "LineGuard$NewerRule" ⟨"LineGuard$Rule", "makeSession", "(LLineGuard$Keys;LLineGuard$Session;JI)V"⟩ ⟨"LineGuard$NewerRule", "makeSession", "(LLineGuard$Keys;LLineGuard$Session;JI)V"⟩ : Cond) ∈ uT := uni_mem (List.mem_of_getElem? (i := 664) (by decide +kernel)) rfl
theorem tw_665 : (Cond.instanceMethod ⟨"LineGuard$NewerRule", "makeSession", "(LLineGuard$Keys;LLineGuard$Session;JI)V"⟩ : Cond) ∈ uT := uni_mem (List.mem_of_getElem? (i := 665) (by decide +kernel)) rfl
theorem tw_666 : (Cond.code ⟨"LineGuard$NewerRule", "makeSession", "(LLineGuard$Keys;LLineGuard$Session;JI)V"⟩ prog_6_method_5_code 6 none : Cond) ∈ uT := uni_mem (List.mem_of_getElem? (i := 666) (by decide +kernel)) rfl
theorem tw_667 : (Cond.selects "LineGuard$OlderRule" ⟨"LineGuard$Rule", "makeSession", "(LLineGuard$Keys;LLineGuard$Session;JI)V"⟩ ⟨"LineGuard$OlderRule", "makeSession", "(LLineGuard$Keys;LLineGuard$Session;JI)V"⟩ : Cond) ∈ uT := uni_mem (List.mem_of_getElem? (i := 667) (by decide +kernel)) rfl
theorem tw_668 : (Cond.instanceMethod ⟨"LineGuard$OlderRule", "makeSession", "(LLineGuard$Keys;LLineGuard$Session;JI)V"⟩ : Cond) ∈ uT := uni_mem (List.mem_of_getElem? (i := 668) (by decide +kernel)) rfl
theorem tw_669 : (Cond.code ⟨"LineGuard$OlderRule", "makeSession", "(LLineGuard$Keys;LLineGuard$Session;JI)V"⟩ prog_7_method_5_code 6 none : Cond) ∈ uT := uni_mem (List.mem_of_getElem? (i := 669) (by decide +kernel)) rfl
theorem tw_670 : (Cond.methodLink "LineGuard$OlderRule" 72 ⟨"LineGuard$Row", "addAll", "(LLineGuard$Row;)V"⟩ : Cond) ∈ uT := uni_mem (List.mem_of_getElem? (i := 670) (by decide +kernel)) rfl
theorem tw_671 : (Cond.methodLink "LineGuard$OlderRule" 78 ⟨"LineGuard$OlderRule", "mac3", "(LLineGuard$Row;LLineGuard$Row;)V"⟩ : Cond) ∈ uT := uni_mem (List.mem_of_getElem? (i := 671) (by decide +kernel)) rfl
theorem tw_673 : (Cond.instanceMethod ⟨"LineGuard$OlderRule", "mac3", "(LLineGuard$Row;LLineGuard$Row;)V"⟩ : Cond) ∈ uT := uni_mem (List.mem_of_getElem? (i := 673) (by decide +kernel)) rfl
theorem tw_674 : (Cond.code ⟨"LineGuard$OlderRule", "mac3", "(LLineGuard$Row;LLineGuard$Row;)V"⟩ prog_7_method_15_code 3 none : Cond) ∈ uT := uni_mem (List.mem_of_getElem? (i := 674) (by decide +kernel)) rfl
theorem tw_675 : (Cond.methodLink "LineGuard" 123 ⟨"LineGuard$Session", "begin", "()V"⟩ : Cond) ∈ uT := uni_mem (List.mem_of_getElem? (i := 675) (by decide +kernel)) rfl
theorem tw_676 : (Cond.instanceMethod ⟨"LineGuard$Session", "begin", "()V"⟩ : Cond) ∈ uT := uni_mem (List.mem_of_getElem? (i := 676) (by decide +kernel)) rfl
theorem tw_677 : (Cond.selects "LineGuard$Session" ⟨"LineGuard$Session", "begin", "()V"⟩ ⟨"LineGuard$Session", "begin", "()V"⟩ : Cond) ∈ uT := uni_mem (List.mem_of_getElem? (i := 677) (by decide +kernel)) rfl
theorem tw_678 : (Cond.code ⟨"LineGuard$Session", "begin", "()V"⟩ prog_10_method_2_code 1 none : Cond) ∈ uT := uni_mem (List.mem_of_getElem? (i := 678) (by decide +kernel)) rfl
theorem tw_679 : (Cond.methodLink "LineGuard$Session" 61 ⟨"LineGuard$Row", "clear", "()V"⟩ : Cond) ∈ uT := uni_mem (List.mem_of_getElem? (i := 679) (by decide +kernel)) rfl
theorem tw_680 : (Cond.methodLink "LineGuard$Session" 64 ⟨"LineGuard$Row", "addZeros", "(I)V"⟩ : Cond) ∈ uT := uni_mem (List.mem_of_getElem? (i := 680) (by decide +kernel)) rfl
theorem tw_681 : (Cond.methodLink "LineGuard" 132 ⟨"LineGuard$Row", "same", "(LLineGuard$Row;)Z"⟩ : Cond) ∈ uT := uni_mem (List.mem_of_getElem? (i := 681) (by decide +kernel)) rfl
theorem tw_682 : (Cond.instanceMethod ⟨"LineGuard$Row", "same", "(LLineGuard$Row;)Z"⟩ : Cond) ∈ uT := uni_mem (List.mem_of_getElem? (i := 682) (by decide +kernel)) rfl
theorem tw_683 : (Cond.selects "LineGuard$Row" ⟨"LineGuard$Row", "same", "(LLineGuard$Row;)Z"⟩ ⟨"LineGuard$Row", "same", "(LLineGuard$Row;)Z"⟩ : Cond) ∈ uT := uni_mem (List.mem_of_getElem? (i := 683) (by decide +kernel)) rfl
theorem tw_684 : (Cond.code ⟨"LineGuard$Row", "same", "(LLineGuard$Row;)Z"⟩ prog_8_method_16_code 2 (some .boolean) : Cond) ∈ uT := uni_mem (List.mem_of_getElem? (i := 684) (by decide +kernel)) rfl
theorem tw_685 : (Cond.methodLink "LineGuard$Row" 34 ⟨"LineGuard$Row", "hasAt", "(ILLineGuard$Row;I)Z"⟩ : Cond) ∈ uT := uni_mem (List.mem_of_getElem? (i := 685) (by decide +kernel)) rfl
theorem tw_686 : (Cond.instanceMethod ⟨"LineGuard$Row", "hasAt", "(ILLineGuard$Row;I)Z"⟩ : Cond) ∈ uT := uni_mem (List.mem_of_getElem? (i := 686) (by decide +kernel)) rfl
theorem tw_687 : (Cond.selects "LineGuard$Row" ⟨"LineGuard$Row", "hasAt", "(ILLineGuard$Row;I)Z"⟩ ⟨"LineGuard$Row", "hasAt", "(ILLineGuard$Row;I)Z"⟩ : Cond) ∈ uT := uni_mem (List.mem_of_getElem? (i := 687) (by decide +kernel)) rfl
theorem tw_688 : (Cond.code ⟨"LineGuard$Row", "hasAt", "(ILLineGuard$Row;I)Z"⟩ prog_8_method_18_code 5 (some .boolean) : Cond) ∈ uT := uni_mem (List.mem_of_getElem? (i := 688) (by decide +kernel)) rfl
theorem tw_689 : (Cond.methodLink "LineGuardLaw" 64 ⟨"LineGuard", "prove", "(I)I"⟩ : Cond) ∈ uT := uni_mem (List.mem_of_getElem? (i := 689) (by decide +kernel)) rfl
theorem tw_690 : (Cond.instanceMethod ⟨"LineGuard", "prove", "(I)I"⟩ : Cond) ∈ uT := uni_mem (List.mem_of_getElem? (i := 690) (by decide +kernel)) rfl
theorem tw_691 : (Cond.selects "LineGuard" ⟨"LineGuard", "prove", "(I)I"⟩ ⟨"LineGuard", "prove", "(I)I"⟩ : Cond) ∈ uT := uni_mem (List.mem_of_getElem? (i := 691) (by decide +kernel)) rfl
theorem tw_692 : (Cond.code ⟨"LineGuard", "prove", "(I)I"⟩ prog_1_method_13_code 3 (some .int) : Cond) ∈ uT := uni_mem (List.mem_of_getElem? (i := 692) (by decide +kernel)) rfl
theorem tw_693 : (Cond.methodLink "LineGuard" 142 ⟨"LineGuard$Rule", "hasLevel", "(I)Z"⟩ : Cond) ∈ uT := uni_mem (List.mem_of_getElem? (i := 693) (by decide +kernel)) rfl
theorem tw_694 : (Cond.instanceMethod ⟨"LineGuard$Rule", "hasLevel", "(I)Z"⟩ : Cond) ∈ uT := uni_mem (List.mem_of_getElem? (i := 694) (by decide +kernel)) rfl
theorem tw_695 : (Cond.sameMethod "LineGuard$Rule" "LineGuard$Rule" "hasLevel" "(I)Z" : Cond) ∈ uT := uni_mem (List.mem_of_getElem? (i := 695) (by decide +kernel)) rfl
theorem tw_696 : (Cond.selects "LineGuard$NewerRule" ⟨"LineGuard$Rule", "hasLevel", "(I)Z"⟩ ⟨"LineGuard$Rule", "hasLevel", "(I)Z"⟩ : Cond) ∈ uT := uni_mem (List.mem_of_getElem? (i := 696) (by decide +kernel)) rfl
theorem tw_697 : (Cond.selects "LineGuard$OlderRule" ⟨"LineGuard$Rule", "hasLevel", "(I)Z"⟩ ⟨"LineGuard$Rule", "hasLevel", "(I)Z"⟩ : Cond) ∈ uT := uni_mem (List.mem_of_getElem? (i := 697) (by decide +kernel)) rfl
theorem tw_698 : (Cond.code ⟨"LineGuard$Rule", "hasLevel", "(I)Z"⟩ prog_9_method_11_code 2 (some .boolean) : Cond) ∈ uT := uni_mem (List.mem_of_getElem? (i := 698) (by decide +kernel)) rfl
theorem tw_699 : (Cond.methodLink "LineGuard$Rule" 35 ⟨"LineGuard$Rule", "hidesAnswers", "()Z"⟩ : Cond) ∈ uT := uni_mem (List.mem_of_getElem? (i := 699) (by decide +kernel)) rfl
theorem tw_701 : (Cond.sameMethod "LineGuard$Rule" "LineGuard$Rule" "hidesAnswers" "()Z" : Cond) ∈ uT := uni_mem (List.mem_of_getElem? (i := 701) (by decide +kernel)) rfl
theorem tw_702 : (Cond.selects "LineGuard$NewerRule" ⟨"LineGuard$Rule", "hidesAnswers", "()Z"⟩ ⟨"LineGuard$NewerRule", "hidesAnswers", "()Z"⟩ : Cond) ∈ uT := uni_mem (List.mem_of_getElem? (i := 702) (by decide +kernel)) rfl
theorem tw_703 : (Cond.instanceMethod ⟨"LineGuard$NewerRule", "hidesAnswers", "()Z"⟩ : Cond) ∈ uT := uni_mem (List.mem_of_getElem? (i := 703) (by decide +kernel)) rfl
theorem tw_704 : (Cond.code ⟨"LineGuard$NewerRule", "hidesAnswers", "()Z"⟩ prog_6_method_3_code 1 (some .boolean) : Cond) ∈ uT := uni_mem (List.mem_of_getElem? (i := 704) (by decide +kernel)) rfl
theorem tw_705 : (Cond.selects "LineGuard$OlderRule" ⟨"LineGuard$Rule", "hidesAnswers", "()Z"⟩ ⟨"LineGuard$OlderRule", "hidesAnswers", "()Z"⟩ : Cond) ∈ uT := uni_mem (List.mem_of_getElem? (i := 705) (by decide +kernel)) rfl
theorem tw_706 : (Cond.instanceMethod ⟨"LineGuard$OlderRule", "hidesAnswers", "()Z"⟩ : Cond) ∈ uT := uni_mem (List.mem_of_getElem? (i := 706) (by decide +kernel)) rfl
theorem tw_707 : (Cond.code ⟨"LineGuard$OlderRule", "hidesAnswers", "()Z"⟩ prog_7_method_3_code 1 (some .boolean) : Cond) ∈ uT := uni_mem (List.mem_of_getElem? (i := 707) (by decide +kernel)) rfl
theorem tw_708 : (Cond.methodLink "LineGuard" 148 ⟨"LineGuard$Row", "add", "(I)V"⟩ : Cond) ∈ uT := uni_mem (List.mem_of_getElem? (i := 708) (by decide +kernel)) rfl
theorem tw_709 : (Cond.methodLink "LineGuard" 154 ⟨"LineGuard$Row", "addAll", "(LLineGuard$Row;)V"⟩ : Cond) ∈ uT := uni_mem (List.mem_of_getElem? (i := 709) (by decide +kernel)) rfl
theorem tw_710 : (Cond.methodLink "LineGuard" 157 ⟨"LineGuard$Rule", "secure", "(LLineGuard$Session;LLineGuard$Row;)V"⟩ : Cond) ∈ uT := uni_mem (List.mem_of_getElem? (i := 710) (by decide +kernel)) rfl
theorem tw_712 : (Cond.sameMethod "LineGuard$Rule" "LineGuard$Rule" "secure" "(LLineGuard$Session;LLineGuard$Row;)V" : Cond) ∈ uT := uni_mem (List.mem_of_getElem? (i := 712) (by decide +kernel)) rfl
theorem tw_713 : (Cond.selects "LineGuard$NewerRule" ⟨"LineGuard$Rule", "secure", "(LLineGuard$Session;LLineGuard$Row;)V"⟩ ⟨"LineGuard$NewerRule", "secure", "(LLineGuard$Session;LLineGuard$Row;)V"⟩ : Cond) ∈ uT := uni_mem (List.mem_of_getElem? (i := 713) (by decide +kernel)) rfl
theorem tw_714 : (Cond.instanceMethod ⟨"LineGuard$NewerRule", "secure", "(LLineGuard$Session;LLineGuard$Row;)V"⟩ : Cond) ∈ uT := uni_mem (List.mem_of_getElem? (i := 714) (by decide +kernel)) rfl
theorem tw_715 : (Cond.code ⟨"LineGuard$NewerRule", "secure", "(LLineGuard$Session;LLineGuard$Row;)V"⟩ prog_6_method_6_code 3 none : Cond) ∈ uT := uni_mem (List.mem_of_getElem? (i := 715) (by decide +kernel)) rfl
theorem tw_716 : (Cond.methodLink "LineGuard$NewerRule" 89 ⟨"LineGuard$NewerRule", "hides", "(LLineGuard$Session;I)Z"⟩ : Cond) ∈ uT := uni_mem (List.mem_of_getElem? (i := 716) (by decide +kernel)) rfl
theorem tw_717 : (Cond.sameMethod "LineGuard$NewerRule" "LineGuard$Rule" "hides" "(LLineGuard$Session;I)Z" : Cond) ∈ uT := uni_mem (List.mem_of_getElem? (i := 717) (by decide +kernel)) rfl
theorem tw_719 : (Cond.selects "LineGuard$NewerRule" ⟨"LineGuard$NewerRule", "hides", "(LLineGuard$Session;I)Z"⟩ ⟨"LineGuard$Rule", "hides", "(LLineGuard$Session;I)Z"⟩ : Cond) ∈ uT := uni_mem (List.mem_of_getElem? (i := 719) (by decide +kernel)) rfl
theorem tw_720 : (Cond.instanceMethod ⟨"LineGuard$Rule", "hides", "(LLineGuard$Session;I)Z"⟩ : Cond) ∈ uT := uni_mem (List.mem_of_getElem? (i := 720) (by decide +kernel)) rfl
theorem tw_721 : (Cond.code ⟨"LineGuard$Rule", "hides", "(LLineGuard$Session;I)Z"⟩ prog_9_method_13_code 3 (some .boolean) : Cond) ∈ uT := uni_mem (List.mem_of_getElem? (i := 721) (by decide +kernel)) rfl
theorem tw_722 : (Cond.methodLink "LineGuard$Rule" 49 ⟨"LineGuard$Row", "size", "()I"⟩ : Cond) ∈ uT := uni_mem (List.mem_of_getElem? (i := 722) (by decide +kernel)) rfl
theorem tw_723 : (Cond.methodLink "LineGuard$NewerRule" 93 ⟨"LineGuard$NewerRule", "hide", "(LLineGuard$Session;I)V"⟩ : Cond) ∈ uT := uni_mem (List.mem_of_getElem? (i := 723) (by decide +kernel)) rfl
theorem tw_725 : (Cond.instanceMethod ⟨"LineGuard$NewerRule", "hide", "(LLineGuard$Session;I)V"⟩ : Cond) ∈ uT := uni_mem (List.mem_of_getElem? (i := 725) (by decide +kernel)) rfl
theorem tw_726 : (Cond.code ⟨"LineGuard$NewerRule", "hide", "(LLineGuard$Session;I)V"⟩ prog_6_method_13_code 3 none : Cond) ∈ uT := uni_mem (List.mem_of_getElem? (i := 726) (by decide +kernel)) rfl
theorem tw_727 : (Cond.methodLink "LineGuard$NewerRule" 164 ⟨"LineGuard$NewerRule", "startFromCount", "(LLineGuard$Session;I)V"⟩ : Cond) ∈ uT := uni_mem (List.mem_of_getElem? (i := 727) (by decide +kernel)) rfl
theorem tw_729 : (Cond.instanceMethod ⟨"LineGuard$NewerRule", "startFromCount", "(LLineGuard$Session;I)V"⟩ : Cond) ∈ uT := uni_mem (List.mem_of_getElem? (i := 729) (by decide +kernel)) rfl
theorem tw_730 : (Cond.code ⟨"LineGuard$NewerRule", "startFromCount", "(LLineGuard$Session;I)V"⟩ prog_6_method_15_code 3 none : Cond) ∈ uT := uni_mem (List.mem_of_getElem? (i := 730) (by decide +kernel)) rfl
theorem tw_731 : (Cond.methodLink "LineGuard$NewerRule" 97 ⟨"LineGuard$NewerRule", "chainCommand", "(LLineGuard$Session;LLineGuard$Row;)V"⟩ : Cond) ∈ uT := uni_mem (List.mem_of_getElem? (i := 731) (by decide +kernel)) rfl
theorem tw_733 : (Cond.instanceMethod ⟨"LineGuard$NewerRule", "chainCommand", "(LLineGuard$Session;LLineGuard$Row;)V"⟩ : Cond) ∈ uT := uni_mem (List.mem_of_getElem? (i := 733) (by decide +kernel)) rfl
theorem tw_734 : (Cond.code ⟨"LineGuard$NewerRule", "chainCommand", "(LLineGuard$Session;LLineGuard$Row;)V"⟩ prog_6_method_11_code 3 none : Cond) ∈ uT := uni_mem (List.mem_of_getElem? (i := 734) (by decide +kernel)) rfl
theorem tw_735 : (Cond.methodLink "LineGuard$NewerRule" 152 ⟨"LineGuard$NewerRule", "addHead", "(LLineGuard$Row;I)V"⟩ : Cond) ∈ uT := uni_mem (List.mem_of_getElem? (i := 735) (by decide +kernel)) rfl
theorem tw_736 : (Cond.sameMethod "LineGuard$NewerRule" "LineGuard$Rule" "addHead" "(LLineGuard$Row;I)V" : Cond) ∈ uT := uni_mem (List.mem_of_getElem? (i := 736) (by decide +kernel)) rfl
theorem tw_738 : (Cond.selects "LineGuard$NewerRule" ⟨"LineGuard$NewerRule", "addHead", "(LLineGuard$Row;I)V"⟩ ⟨"LineGuard$Rule", "addHead", "(LLineGuard$Row;I)V"⟩ : Cond) ∈ uT := uni_mem (List.mem_of_getElem? (i := 738) (by decide +kernel)) rfl
theorem tw_739 : (Cond.instanceMethod ⟨"LineGuard$Rule", "addHead", "(LLineGuard$Row;I)V"⟩ : Cond) ∈ uT := uni_mem (List.mem_of_getElem? (i := 739) (by decide +kernel)) rfl
theorem tw_740 : (Cond.code ⟨"LineGuard$Rule", "addHead", "(LLineGuard$Row;I)V"⟩ prog_9_method_14_code 3 none : Cond) ∈ uT := uni_mem (List.mem_of_getElem? (i := 740) (by decide +kernel)) rfl
theorem tw_741 : (Cond.methodLink "LineGuard$Rule" 52 ⟨"LineGuard$Row", "at", "(I)I"⟩ : Cond) ∈ uT := uni_mem (List.mem_of_getElem? (i := 741) (by decide +kernel)) rfl
theorem tw_742 : (Cond.methodLink "LineGuard$Rule" 56 ⟨"LineGuard$Row", "add", "(I)V"⟩ : Cond) ∈ uT := uni_mem (List.mem_of_getElem? (i := 742) (by decide +kernel)) rfl
theorem tw_743 : (Cond.methodLink "LineGuard$Rule" 59 ⟨"LineGuard$Row", "addPart", "(LLineGuard$Row;II)V"⟩ : Cond) ∈ uT := uni_mem (List.mem_of_getElem? (i := 743) (by decide +kernel)) rfl
theorem tw_744 : (Cond.methodLink "LineGuard$NewerRule" 104 ⟨"LineGuard$NewerRule", "putCommand", "(LLineGuard$Row;LLineGuard$Row;LLineGuard$Row;)V"⟩ : Cond) ∈ uT := uni_mem (List.mem_of_getElem? (i := 744) (by decide +kernel)) rfl
theorem tw_745 : (Cond.sameMethod "LineGuard$NewerRule" "LineGuard$Rule" "putCommand" "(LLineGuard$Row;LLineGuard$Row;LLineGuard$Row;)V" : Cond) ∈ uT := uni_mem (List.mem_of_getElem? (i := 745) (by decide +kernel)) rfl
theorem tw_747 : (Cond.selects "LineGuard$NewerRule" ⟨"LineGuard$NewerRule", "putCommand", "(LLineGuard$Row;LLineGuard$Row;LLineGuard$Row;)V"⟩ ⟨"LineGuard$Rule", "putCommand", "(LLineGuard$Row;LLineGuard$Row;LLineGuard$Row;)V"⟩ : Cond) ∈ uT := uni_mem (List.mem_of_getElem? (i := 747) (by decide +kernel)) rfl
theorem tw_748 : (Cond.instanceMethod ⟨"LineGuard$Rule", "putCommand", "(LLineGuard$Row;LLineGuard$Row;LLineGuard$Row;)V"⟩ : Cond) ∈ uT := uni_mem (List.mem_of_getElem? (i := 748) (by decide +kernel)) rfl
theorem tw_749 : (Cond.code ⟨"LineGuard$Rule", "putCommand", "(LLineGuard$Row;LLineGuard$Row;LLineGuard$Row;)V"⟩ prog_9_method_15_code 4 none : Cond) ∈ uT := uni_mem (List.mem_of_getElem? (i := 749) (by decide +kernel)) rfl
theorem tw_750 : (Cond.methodLink "LineGuard$Rule" 63 ⟨"LineGuard$Row", "clear", "()V"⟩ : Cond) ∈ uT := uni_mem (List.mem_of_getElem? (i := 750) (by decide +kernel)) rfl
theorem tw_751 : (Cond.methodLink "LineGuard$Rule" 66 ⟨"LineGuard$Row", "addAll", "(LLineGuard$Row;)V"⟩ : Cond) ∈ uT := uni_mem (List.mem_of_getElem? (i := 751) (by decide +kernel)) rfl
theorem tw_752 : (Cond.selects "LineGuard$OlderRule" ⟨"LineGuard$Rule", "secure", "(LLineGuard$Session;LLineGuard$Row;)V"⟩ ⟨"LineGuard$OlderRule", "secure", "(LLineGuard$Session;LLineGuard$Row;)V"⟩ : Cond) ∈ uT := uni_mem (List.mem_of_getElem? (i := 752) (by decide +kernel)) rfl
theorem tw_753 : (Cond.instanceMethod ⟨"LineGuard$OlderRule", "secure", "(LLineGuard$Session;LLineGuard$Row;)V"⟩ : Cond) ∈ uT := uni_mem (List.mem_of_getElem? (i := 753) (by decide +kernel)) rfl
theorem tw_754 : (Cond.code ⟨"LineGuard$OlderRule", "secure", "(LLineGuard$Session;LLineGuard$Row;)V"⟩ prog_7_method_6_code 3 none : Cond) ∈ uT := uni_mem (List.mem_of_getElem? (i := 754) (by decide +kernel)) rfl
theorem tw_755 : (Cond.methodLink "LineGuard$OlderRule" 85 ⟨"LineGuard$OlderRule", "chainCommand", "(LLineGuard$Session;)V"⟩ : Cond) ∈ uT := uni_mem (List.mem_of_getElem? (i := 755) (by decide +kernel)) rfl
theorem tw_757 : (Cond.instanceMethod ⟨"LineGuard$OlderRule", "chainCommand", "(LLineGuard$Session;)V"⟩ : Cond) ∈ uT := uni_mem (List.mem_of_getElem? (i := 757) (by decide +kernel)) rfl
theorem tw_758 : (Cond.code ⟨"LineGuard$OlderRule", "chainCommand", "(LLineGuard$Session;)V"⟩ prog_7_method_12_code 2 none : Cond) ∈ uT := uni_mem (List.mem_of_getElem? (i := 758) (by decide +kernel)) rfl
theorem tw_759 : (Cond.methodLink "LineGuard$OlderRule" 173 ⟨"LineGuard$OlderRule", "addHead", "(LLineGuard$Row;I)V"⟩ : Cond) ∈ uT := uni_mem (List.mem_of_getElem? (i := 759) (by decide +kernel)) rfl
theorem tw_760 : (Cond.sameMethod "LineGuard$OlderRule" "LineGuard$Rule" "addHead" "(LLineGuard$Row;I)V" : Cond) ∈ uT := uni_mem (List.mem_of_getElem? (i := 760) (by decide +kernel)) rfl
theorem tw_761 : (Cond.selects "LineGuard$OlderRule" ⟨"LineGuard$OlderRule", "addHead", "(LLineGuard$Row;I)V"⟩ ⟨"LineGuard$Rule", "addHead", "(LLineGuard$Row;I)V"⟩ : Cond) ∈ uT := uni_mem (List.mem_of_getElem? (i := 761) (by decide +kernel)) rfl
theorem tw_762 : (Cond.methodLink "LineGuard$OlderRule" 177 ⟨"LineGuard$Row", "addPart", "(LLineGuard$Row;II)V"⟩ : Cond) ∈ uT := uni_mem (List.mem_of_getElem? (i := 762) (by decide +kernel)) rfl
theorem tw_763 : (Cond.methodLink "LineGuard$OlderRule" 103 ⟨"LineGuard$OlderRule", "hides", "(LLineGuard$Session;I)Z"⟩ : Cond) ∈ uT := uni_mem (List.mem_of_getElem? (i := 763) (by decide +kernel)) rfl
theorem tw_764 : (Cond.sameMethod "LineGuard$OlderRule" "LineGuard$Rule" "hides" "(LLineGuard$Session;I)Z" : Cond) ∈ uT := uni_mem (List.mem_of_getElem? (i := 764) (by decide +kernel)) rfl
theorem tw_765 : (Cond.selects "LineGuard$OlderRule" ⟨"LineGuard$OlderRule", "hides", "(LLineGuard$Session;I)Z"⟩ ⟨"LineGuard$Rule", "hides", "(LLineGuard$Session;I)Z"⟩ : Cond) ∈ uT := uni_mem (List.mem_of_getElem? (i := 765) (by decide +kernel)) rfl
theorem tw_766 : (Cond.methodLink "LineGuard$OlderRule" 123 ⟨"LineGuard$OlderRule", "putCommand", "(LLineGuard$Row;LLineGuard$Row;LLineGuard$Row;)V"⟩ : Cond) ∈ uT := uni_mem (List.mem_of_getElem? (i := 766) (by decide +kernel)) rfl
theorem tw_767 : (Cond.sameMethod "LineGuard$OlderRule" "LineGuard$Rule" "putCommand" "(LLineGuard$Row;LLineGuard$Row;LLineGuard$Row;)V" : Cond) ∈ uT := uni_mem (List.mem_of_getElem? (i := 767) (by decide +kernel)) rfl
theorem tw_768 : (Cond.selects "LineGuard$OlderRule" ⟨"LineGuard$OlderRule", "putCommand", "(LLineGuard$Row;LLineGuard$Row;LLineGuard$Row;)V"⟩ ⟨"LineGuard$Rule", "putCommand", "(LLineGuard$Row;LLineGuard$Row;LLineGuard$Row;)V"⟩ : Cond) ∈ uT := uni_mem (List.mem_of_getElem? (i := 768) (by decide +kernel)) rfl
theorem tw_769 : (Cond.methodLink "LineGuard" 161 ⟨"LineGuard$Session", "open", "(I)V"⟩ : Cond) ∈ uT := uni_mem (List.mem_of_getElem? (i := 769) (by decide +kernel)) rfl
theorem tw_770 : (Cond.instanceMethod ⟨"LineGuard$Session", "open", "(I)V"⟩ : Cond) ∈ uT := uni_mem (List.mem_of_getElem? (i := 770) (by decide +kernel)) rfl
theorem tw_771 : (Cond.selects "LineGuard$Session" ⟨"LineGuard$Session", "open", "(I)V"⟩ ⟨"LineGuard$Session", "open", "(I)V"⟩ : Cond) ∈ uT := uni_mem (List.mem_of_getElem? (i := 771) (by decide +kernel)) rfl
theorem tw_772 : (Cond.code ⟨"LineGuard$Session", "open", "(I)V"⟩ prog_10_method_3_code 2 none : Cond) ∈ uT := uni_mem (List.mem_of_getElem? (i := 772) (by decide +kernel)) rfl
theorem tw_773 : (Cond.methodLink "LineGuard$Session" 67 ⟨"LineGuard$Row", "copyPart", "(LLineGuard$Row;II)V"⟩ : Cond) ∈ uT := uni_mem (List.mem_of_getElem? (i := 773) (by decide +kernel)) rfl
theorem tw_774 : (Cond.methodLink "LineGuardLaw" 68 ⟨"LineGuard", "send", "()I"⟩ : Cond) ∈ uT := uni_mem (List.mem_of_getElem? (i := 774) (by decide +kernel)) rfl
theorem tw_775 : (Cond.instanceMethod ⟨"LineGuard", "send", "()I"⟩ : Cond) ∈ uT := uni_mem (List.mem_of_getElem? (i := 775) (by decide +kernel)) rfl
theorem tw_776 : (Cond.selects "LineGuard" ⟨"LineGuard", "send", "()I"⟩ ⟨"LineGuard", "send", "()I"⟩ : Cond) ∈ uT := uni_mem (List.mem_of_getElem? (i := 776) (by decide +kernel)) rfl
theorem tw_777 : (Cond.code ⟨"LineGuard", "send", "()I"⟩ prog_1_method_14_code 3 (some .int) : Cond) ∈ uT := uni_mem (List.mem_of_getElem? (i := 777) (by decide +kernel)) rfl
theorem tw_778 : (Cond.methodLink "LineGuard" 164 ⟨"LineGuard$Session", "isOpenWith", "(I)Z"⟩ : Cond) ∈ uT := uni_mem (List.mem_of_getElem? (i := 778) (by decide +kernel)) rfl
theorem tw_779 : (Cond.instanceMethod ⟨"LineGuard$Session", "isOpenWith", "(I)Z"⟩ : Cond) ∈ uT := uni_mem (List.mem_of_getElem? (i := 779) (by decide +kernel)) rfl
theorem tw_780 : (Cond.selects "LineGuard$Session" ⟨"LineGuard$Session", "isOpenWith", "(I)Z"⟩ ⟨"LineGuard$Session", "isOpenWith", "(I)Z"⟩ : Cond) ∈ uT := uni_mem (List.mem_of_getElem? (i := 780) (by decide +kernel)) rfl
theorem tw_781 : (Cond.code ⟨"LineGuard$Session", "isOpenWith", "(I)Z"⟩ prog_10_method_5_code 2 (some .boolean) : Cond) ∈ uT := uni_mem (List.mem_of_getElem? (i := 781) (by decide +kernel)) rfl
theorem tw_782 : (Cond.methodLink "LineGuardLaw" 72 ⟨"LineGuard", "take", "()I"⟩ : Cond) ∈ uT := uni_mem (List.mem_of_getElem? (i := 782) (by decide +kernel)) rfl
theorem tw_783 : (Cond.instanceMethod ⟨"LineGuard", "take", "()I"⟩ : Cond) ∈ uT := uni_mem (List.mem_of_getElem? (i := 783) (by decide +kernel)) rfl
theorem tw_784 : (Cond.selects "LineGuard" ⟨"LineGuard", "take", "()I"⟩ ⟨"LineGuard", "take", "()I"⟩ : Cond) ∈ uT := uni_mem (List.mem_of_getElem? (i := 784) (by decide +kernel)) rfl
theorem tw_785 : (Cond.code ⟨"LineGuard", "take", "()I"⟩ prog_1_method_15_code 5 (some .int) : Cond) ∈ uT := uni_mem (List.mem_of_getElem? (i := 785) (by decide +kernel)) rfl
theorem tw_786 : (Cond.methodLink "LineGuard" 174 ⟨"LineGuard", "isProving", "(LLineGuard$Rule;)Z"⟩ : Cond) ∈ uT := uni_mem (List.mem_of_getElem? (i := 786) (by decide +kernel)) rfl
theorem tw_788 : (Cond.instanceMethod ⟨"LineGuard", "isProving", "(LLineGuard$Rule;)Z"⟩ : Cond) ∈ uT := uni_mem (List.mem_of_getElem? (i := 788) (by decide +kernel)) rfl
theorem tw_789 : (Cond.code ⟨"LineGuard", "isProving", "(LLineGuard$Rule;)Z"⟩ prog_1_method_26_code 2 (some .boolean) : Cond) ∈ uT := uni_mem (List.mem_of_getElem? (i := 789) (by decide +kernel)) rfl
theorem tw_790 : (Cond.methodLink "LineGuard" 220 ⟨"LineGuard$Row", "hasAt", "(ILLineGuard$Row;I)Z"⟩ : Cond) ∈ uT := uni_mem (List.mem_of_getElem? (i := 790) (by decide +kernel)) rfl
theorem tw_791 : (Cond.methodLink "LineGuard" 178 ⟨"LineGuard$Rule", "openSecured", "(LLineGuard$Session;LLineGuard$Row;)Z"⟩ : Cond) ∈ uT := uni_mem (List.mem_of_getElem? (i := 791) (by decide +kernel)) rfl
theorem tw_793 : (Cond.sameMethod "LineGuard$Rule" "LineGuard$Rule" "openSecured" "(LLineGuard$Session;LLineGuard$Row;)Z" : Cond) ∈ uT := uni_mem (List.mem_of_getElem? (i := 793) (by decide +kernel)) rfl
theorem tw_794 : (Cond.selects "LineGuard$NewerRule" ⟨"LineGuard$Rule", "openSecured", "(LLineGuard$Session;LLineGuard$Row;)Z"⟩ ⟨"LineGuard$NewerRule", "openSecured", "(LLineGuard$Session;LLineGuard$Row;)Z"⟩ : Cond) ∈ uT := uni_mem (List.mem_of_getElem? (i := 794) (by decide +kernel)) rfl
theorem tw_795 : (Cond.instanceMethod ⟨"LineGuard$NewerRule", "openSecured", "(LLineGuard$Session;LLineGuard$Row;)Z"⟩ : Cond) ∈ uT := uni_mem (List.mem_of_getElem? (i := 795) (by decide +kernel)) rfl
theorem tw_796 : (Cond.code ⟨"LineGuard$NewerRule", "openSecured", "(LLineGuard$Session;LLineGuard$Row;)Z"⟩ prog_6_method_7_code 3 (some .boolean) : Cond) ∈ uT := uni_mem (List.mem_of_getElem? (i := 796) (by decide +kernel)) rfl
theorem tw_797 : (Cond.methodLink "LineGuard$NewerRule" 108 ⟨"LineGuard$NewerRule", "splitCommand", "(LLineGuard$Row;)Z"⟩ : Cond) ∈ uT := uni_mem (List.mem_of_getElem? (i := 797) (by decide +kernel)) rfl
theorem tw_798 : (Cond.sameMethod "LineGuard$NewerRule" "LineGuard$Rule" "splitCommand" "(LLineGuard$Row;)Z" : Cond) ∈ uT := uni_mem (List.mem_of_getElem? (i := 798) (by decide +kernel)) rfl
theorem tw_800 : (Cond.selects "LineGuard$NewerRule" ⟨"LineGuard$NewerRule", "splitCommand", "(LLineGuard$Row;)Z"⟩ ⟨"LineGuard$Rule", "splitCommand", "(LLineGuard$Row;)Z"⟩ : Cond) ∈ uT := uni_mem (List.mem_of_getElem? (i := 800) (by decide +kernel)) rfl
theorem tw_801 : (Cond.instanceMethod ⟨"LineGuard$Rule", "splitCommand", "(LLineGuard$Row;)Z"⟩ : Cond) ∈ uT := uni_mem (List.mem_of_getElem? (i := 801) (by decide +kernel)) rfl
theorem tw_802 : (Cond.code ⟨"LineGuard$Rule", "splitCommand", "(LLineGuard$Row;)Z"⟩ prog_9_method_16_code 2 (some .boolean) : Cond) ∈ uT := uni_mem (List.mem_of_getElem? (i := 802) (by decide +kernel)) rfl
theorem tw_803 : (Cond.methodLink "LineGuard$Rule" 70 ⟨"LineGuard$Row", "copyPart", "(LLineGuard$Row;II)V"⟩ : Cond) ∈ uT := uni_mem (List.mem_of_getElem? (i := 803) (by decide +kernel)) rfl
theorem tw_804 : (Cond.methodLink "LineGuard$NewerRule" 112 ⟨"LineGuard$Row", "endsWithCode", "(LLineGuard$Row;)Z"⟩ : Cond) ∈ uT := uni_mem (List.mem_of_getElem? (i := 804) (by decide +kernel)) rfl
theorem tw_805 : (Cond.instanceMethod ⟨"LineGuard$Row", "endsWithCode", "(LLineGuard$Row;)Z"⟩ : Cond) ∈ uT := uni_mem (List.mem_of_getElem? (i := 805) (by decide +kernel)) rfl
theorem tw_806 : (Cond.selects "LineGuard$Row" ⟨"LineGuard$Row", "endsWithCode", "(LLineGuard$Row;)Z"⟩ ⟨"LineGuard$Row", "endsWithCode", "(LLineGuard$Row;)Z"⟩ : Cond) ∈ uT := uni_mem (List.mem_of_getElem? (i := 806) (by decide +kernel)) rfl
theorem tw_807 : (Cond.code ⟨"LineGuard$Row", "endsWithCode", "(LLineGuard$Row;)Z"⟩ prog_8_method_17_code 2 (some .boolean) : Cond) ∈ uT := uni_mem (List.mem_of_getElem? (i := 807) (by decide +kernel)) rfl
theorem tw_808 : (Cond.methodLink "LineGuard$NewerRule" 115 ⟨"LineGuard$NewerRule", "show", "(LLineGuard$Session;I)Z"⟩ : Cond) ∈ uT := uni_mem (List.mem_of_getElem? (i := 808) (by decide +kernel)) rfl
theorem tw_810 : (Cond.instanceMethod ⟨"LineGuard$NewerRule", "show", "(LLineGuard$Session;I)Z"⟩ : Cond) ∈ uT := uni_mem (List.mem_of_getElem? (i := 810) (by decide +kernel)) rfl
theorem tw_811 : (Cond.code ⟨"LineGuard$NewerRule", "show", "(LLineGuard$Session;I)Z"⟩ prog_6_method_14_code 3 (some .boolean) : Cond) ∈ uT := uni_mem (List.mem_of_getElem? (i := 811) (by decide +kernel)) rfl
theorem tw_812 : (Cond.methodLink "LineGuard$NewerRule" 143 ⟨"LineGuard$Aes", "chainBack", "(LLineGuard$Row;II)V"⟩ : Cond) ∈ uT := uni_mem (List.mem_of_getElem? (i := 812) (by decide +kernel)) rfl
theorem tw_813 : (Cond.sameMethod "LineGuard$Aes" "LineGuard$BlockCipher" "chainBack" "(LLineGuard$Row;II)V" : Cond) ∈ uT := uni_mem (List.mem_of_getElem? (i := 813) (by decide +kernel)) rfl
theorem tw_815 : (Cond.selects "LineGuard$Aes" ⟨"LineGuard$Aes", "chainBack", "(LLineGuard$Row;II)V"⟩ ⟨"LineGuard$BlockCipher", "chainBack", "(LLineGuard$Row;II)V"⟩ : Cond) ∈ uT := uni_mem (List.mem_of_getElem? (i := 815) (by decide +kernel)) rfl
theorem tw_816 : (Cond.instanceMethod ⟨"LineGuard$BlockCipher", "chainBack", "(LLineGuard$Row;II)V"⟩ : Cond) ∈ uT := uni_mem (List.mem_of_getElem? (i := 816) (by decide +kernel)) rfl
theorem tw_817 : (Cond.code ⟨"LineGuard$BlockCipher", "chainBack", "(LLineGuard$Row;II)V"⟩ prog_3_method_6_code 7 none : Cond) ∈ uT := uni_mem (List.mem_of_getElem? (i := 817) (by decide +kernel)) rfl
theorem tw_818 : (Cond.methodLink "LineGuard$BlockCipher" 29 ⟨"LineGuard$BlockCipher", "back", "()V"⟩ : Cond) ∈ uT := uni_mem (List.mem_of_getElem? (i := 818) (by decide +kernel)) rfl
theorem tw_820 : (Cond.sameMethod "LineGuard$BlockCipher" "LineGuard$BlockCipher" "back" "()V" : Cond) ∈ uT := uni_mem (List.mem_of_getElem? (i := 820) (by decide +kernel)) rfl
theorem tw_821 : (Cond.selects "LineGuard$Aes" ⟨"LineGuard$BlockCipher", "back", "()V"⟩ ⟨"LineGuard$Aes", "back", "()V"⟩ : Cond) ∈ uT := uni_mem (List.mem_of_getElem? (i := 821) (by decide +kernel)) rfl
theorem tw_822 : (Cond.instanceMethod ⟨"LineGuard$Aes", "back", "()V"⟩ : Cond) ∈ uT := uni_mem (List.mem_of_getElem? (i := 822) (by decide +kernel)) rfl
theorem tw_823 : (Cond.code ⟨"LineGuard$Aes", "back", "()V"⟩ prog_2_method_4_code 3 none : Cond) ∈ uT := uni_mem (List.mem_of_getElem? (i := 823) (by decide +kernel)) rfl
theorem tw_824 : (Cond.methodLink "LineGuard$Aes" 59 ⟨"LineGuard$Aes", "beforeMix", "(I)I"⟩ : Cond) ∈ uT := uni_mem (List.mem_of_getElem? (i := 824) (by decide +kernel)) rfl
theorem tw_825 : (Cond.static ⟨"LineGuard$Aes", "beforeMix", "(I)I"⟩ : Cond) ∈ uT := uni_mem (List.mem_of_getElem? (i := 825) (by decide +kernel)) rfl
theorem tw_826 : (Cond.code ⟨"LineGuard$Aes", "beforeMix", "(I)I"⟩ prog_2_method_11_code 2 (some .int) : Cond) ∈ uT := uni_mem (List.mem_of_getElem? (i := 826) (by decide +kernel)) rfl
theorem tw_827 : (Cond.constant "LineGuard$Aes" 67 (1061109567) : Cond) ∈ uT := uni_mem (List.mem_of_getElem? (i := 827) (by decide +kernel)) rfl
theorem tw_828 : (Cond.selects "LineGuard$Des" ⟨"LineGuard$BlockCipher", "back", "()V"⟩ ⟨"LineGuard$Des", "back", "()V"⟩ : Cond) ∈ uT := uni_mem (List.mem_of_getElem? (i := 828) (by decide +kernel)) rfl
theorem tw_829 : (Cond.instanceMethod ⟨"LineGuard$Des", "back", "()V"⟩ : Cond) ∈ uT := uni_mem (List.mem_of_getElem? (i := 829) (by decide +kernel)) rfl
theorem tw_830 : (Cond.code ⟨"LineGuard$Des", "back", "()V"⟩ prog_4_method_5_code 3 none : Cond) ∈ uT := uni_mem (List.mem_of_getElem? (i := 830) (by decide +kernel)) rfl
theorem tw_831 : (Cond.methodLink "LineGuard$NewerRule" 171 ⟨"LineGuard$Row", "unpad", "()Z"⟩ : Cond) ∈ uT := uni_mem (List.mem_of_getElem? (i := 831) (by decide +kernel)) rfl
theorem tw_832 : (Cond.instanceMethod ⟨"LineGuard$Row", "unpad", "()Z"⟩ : Cond) ∈ uT := uni_mem (List.mem_of_getElem? (i := 832) (by decide +kernel)) rfl
theorem tw_833 : (Cond.selects "LineGuard$Row" ⟨"LineGuard$Row", "unpad", "()Z"⟩ ⟨"LineGuard$Row", "unpad", "()Z"⟩ : Cond) ∈ uT := uni_mem (List.mem_of_getElem? (i := 833) (by decide +kernel)) rfl
theorem tw_834 : (Cond.code ⟨"LineGuard$Row", "unpad", "()Z"⟩ prog_8_method_15_code 2 (some .boolean) : Cond) ∈ uT := uni_mem (List.mem_of_getElem? (i := 834) (by decide +kernel)) rfl
theorem tw_835 : (Cond.methodLink "LineGuard$NewerRule" 118 ⟨"LineGuard$NewerRule", "joinCommand", "(LLineGuard$Row;LLineGuard$Row;)Z"⟩ : Cond) ∈ uT := uni_mem (List.mem_of_getElem? (i := 835) (by decide +kernel)) rfl
theorem tw_836 : (Cond.sameMethod "LineGuard$NewerRule" "LineGuard$Rule" "joinCommand" "(LLineGuard$Row;LLineGuard$Row;)Z" : Cond) ∈ uT := uni_mem (List.mem_of_getElem? (i := 836) (by decide +kernel)) rfl
theorem tw_838 : (Cond.selects "LineGuard$NewerRule" ⟨"LineGuard$NewerRule", "joinCommand", "(LLineGuard$Row;LLineGuard$Row;)Z"⟩ ⟨"LineGuard$Rule", "joinCommand", "(LLineGuard$Row;LLineGuard$Row;)Z"⟩ : Cond) ∈ uT := uni_mem (List.mem_of_getElem? (i := 838) (by decide +kernel)) rfl
theorem tw_839 : (Cond.instanceMethod ⟨"LineGuard$Rule", "joinCommand", "(LLineGuard$Row;LLineGuard$Row;)Z"⟩ : Cond) ∈ uT := uni_mem (List.mem_of_getElem? (i := 839) (by decide +kernel)) rfl
theorem tw_840 : (Cond.code ⟨"LineGuard$Rule", "joinCommand", "(LLineGuard$Row;LLineGuard$Row;)Z"⟩ prog_9_method_17_code 3 (some .boolean) : Cond) ∈ uT := uni_mem (List.mem_of_getElem? (i := 840) (by decide +kernel)) rfl
theorem tw_841 : (Cond.selects "LineGuard$OlderRule" ⟨"LineGuard$Rule", "openSecured", "(LLineGuard$Session;LLineGuard$Row;)Z"⟩ ⟨"LineGuard$OlderRule", "openSecured", "(LLineGuard$Session;LLineGuard$Row;)Z"⟩ : Cond) ∈ uT := uni_mem (List.mem_of_getElem? (i := 841) (by decide +kernel)) rfl
theorem tw_842 : (Cond.instanceMethod ⟨"LineGuard$OlderRule", "openSecured", "(LLineGuard$Session;LLineGuard$Row;)Z"⟩ : Cond) ∈ uT := uni_mem (List.mem_of_getElem? (i := 842) (by decide +kernel)) rfl
theorem tw_843 : (Cond.code ⟨"LineGuard$OlderRule", "openSecured", "(LLineGuard$Session;LLineGuard$Row;)Z"⟩ prog_7_method_7_code 3 (some .boolean) : Cond) ∈ uT := uni_mem (List.mem_of_getElem? (i := 843) (by decide +kernel)) rfl
theorem tw_844 : (Cond.methodLink "LineGuard$OlderRule" 126 ⟨"LineGuard$OlderRule", "splitCommand", "(LLineGuard$Row;)Z"⟩ : Cond) ∈ uT := uni_mem (List.mem_of_getElem? (i := 844) (by decide +kernel)) rfl
theorem tw_845 : (Cond.sameMethod "LineGuard$OlderRule" "LineGuard$Rule" "splitCommand" "(LLineGuard$Row;)Z" : Cond) ∈ uT := uni_mem (List.mem_of_getElem? (i := 845) (by decide +kernel)) rfl
theorem tw_846 : (Cond.selects "LineGuard$OlderRule" ⟨"LineGuard$OlderRule", "splitCommand", "(LLineGuard$Row;)Z"⟩ ⟨"LineGuard$Rule", "splitCommand", "(LLineGuard$Row;)Z"⟩ : Cond) ∈ uT := uni_mem (List.mem_of_getElem? (i := 846) (by decide +kernel)) rfl
theorem tw_847 : (Cond.methodLink "LineGuard$OlderRule" 130 ⟨"LineGuard$OlderRule", "show", "(LLineGuard$Session;)Z"⟩ : Cond) ∈ uT := uni_mem (List.mem_of_getElem? (i := 847) (by decide +kernel)) rfl
theorem tw_849 : (Cond.instanceMethod ⟨"LineGuard$OlderRule", "show", "(LLineGuard$Session;)Z"⟩ : Cond) ∈ uT := uni_mem (List.mem_of_getElem? (i := 849) (by decide +kernel)) rfl
theorem tw_850 : (Cond.code ⟨"LineGuard$OlderRule", "show", "(LLineGuard$Session;)Z"⟩ prog_7_method_13_code 2 (some .boolean) : Cond) ∈ uT := uni_mem (List.mem_of_getElem? (i := 850) (by decide +kernel)) rfl
theorem tw_851 : (Cond.methodLink "LineGuard$OlderRule" 180 ⟨"LineGuard$OlderRule", "isBlocks", "(I)Z"⟩ : Cond) ∈ uT := uni_mem (List.mem_of_getElem? (i := 851) (by decide +kernel)) rfl
theorem tw_852 : (Cond.sameMethod "LineGuard$OlderRule" "LineGuard$Rule" "isBlocks" "(I)Z" : Cond) ∈ uT := uni_mem (List.mem_of_getElem? (i := 852) (by decide +kernel)) rfl
theorem tw_853 : (Cond.selects "LineGuard$OlderRule" ⟨"LineGuard$OlderRule", "isBlocks", "(I)Z"⟩ ⟨"LineGuard$Rule", "isBlocks", "(I)Z"⟩ : Cond) ∈ uT := uni_mem (List.mem_of_getElem? (i := 853) (by decide +kernel)) rfl
theorem tw_854 : (Cond.methodLink "LineGuard$OlderRule" 157 ⟨"LineGuard$Des", "chainBack", "(LLineGuard$Row;II)V"⟩ : Cond) ∈ uT := uni_mem (List.mem_of_getElem? (i := 854) (by decide +kernel)) rfl
theorem tw_855 : (Cond.sameMethod "LineGuard$Des" "LineGuard$BlockCipher" "chainBack" "(LLineGuard$Row;II)V" : Cond) ∈ uT := uni_mem (List.mem_of_getElem? (i := 855) (by decide +kernel)) rfl
theorem tw_856 : (Cond.selects "LineGuard$Des" ⟨"LineGuard$Des", "chainBack", "(LLineGuard$Row;II)V"⟩ ⟨"LineGuard$BlockCipher", "chainBack", "(LLineGuard$Row;II)V"⟩ : Cond) ∈ uT := uni_mem (List.mem_of_getElem? (i := 856) (by decide +kernel)) rfl
theorem tw_857 : (Cond.methodLink "LineGuard$OlderRule" 183 ⟨"LineGuard$Row", "unpad", "()Z"⟩ : Cond) ∈ uT := uni_mem (List.mem_of_getElem? (i := 857) (by decide +kernel)) rfl
theorem tw_858 : (Cond.methodLink "LineGuard$OlderRule" 134 ⟨"LineGuard$OlderRule", "joinCommand", "(LLineGuard$Row;LLineGuard$Row;)Z"⟩ : Cond) ∈ uT := uni_mem (List.mem_of_getElem? (i := 858) (by decide +kernel)) rfl
theorem tw_859 : (Cond.sameMethod "LineGuard$OlderRule" "LineGuard$Rule" "joinCommand" "(LLineGuard$Row;LLineGuard$Row;)Z" : Cond) ∈ uT := uni_mem (List.mem_of_getElem? (i := 859) (by decide +kernel)) rfl
theorem tw_860 : (Cond.selects "LineGuard$OlderRule" ⟨"LineGuard$OlderRule", "joinCommand", "(LLineGuard$Row;LLineGuard$Row;)Z"⟩ ⟨"LineGuard$Rule", "joinCommand", "(LLineGuard$Row;LLineGuard$Row;)Z"⟩ : Cond) ∈ uT := uni_mem (List.mem_of_getElem? (i := 860) (by decide +kernel)) rfl
theorem tw_861 : (Cond.methodLink "LineGuard$OlderRule" 138 ⟨"LineGuard$Row", "endsWithCode", "(LLineGuard$Row;)Z"⟩ : Cond) ∈ uT := uni_mem (List.mem_of_getElem? (i := 861) (by decide +kernel)) rfl
theorem tw_862 : (Cond.constant "LineGuard" 182 (36864) : Cond) ∈ uT := uni_mem (List.mem_of_getElem? (i := 862) (by decide +kernel)) rfl
theorem tw_863 : (Cond.methodLink "LineGuardLaw" 76 ⟨"LineGuard", "answer", "(I)I"⟩ : Cond) ∈ uT := uni_mem (List.mem_of_getElem? (i := 863) (by decide +kernel)) rfl
theorem tw_864 : (Cond.instanceMethod ⟨"LineGuard", "answer", "(I)I"⟩ : Cond) ∈ uT := uni_mem (List.mem_of_getElem? (i := 864) (by decide +kernel)) rfl
theorem tw_865 : (Cond.selects "LineGuard" ⟨"LineGuard", "answer", "(I)I"⟩ ⟨"LineGuard", "answer", "(I)I"⟩ : Cond) ∈ uT := uni_mem (List.mem_of_getElem? (i := 865) (by decide +kernel)) rfl
theorem tw_866 : (Cond.code ⟨"LineGuard", "answer", "(I)I"⟩ prog_1_method_16_code 3 (some .int) : Cond) ∈ uT := uni_mem (List.mem_of_getElem? (i := 866) (by decide +kernel)) rfl
theorem tw_867 : (Cond.methodLink "LineGuard" 183 ⟨"LineGuard$Session", "isAnswerable", "()Z"⟩ : Cond) ∈ uT := uni_mem (List.mem_of_getElem? (i := 867) (by decide +kernel)) rfl
theorem tw_868 : (Cond.instanceMethod ⟨"LineGuard$Session", "isAnswerable", "()Z"⟩ : Cond) ∈ uT := uni_mem (List.mem_of_getElem? (i := 868) (by decide +kernel)) rfl
theorem tw_869 : (Cond.selects "LineGuard$Session" ⟨"LineGuard$Session", "isAnswerable", "()Z"⟩ ⟨"LineGuard$Session", "isAnswerable", "()Z"⟩ : Cond) ∈ uT := uni_mem (List.mem_of_getElem? (i := 869) (by decide +kernel)) rfl
theorem tw_870 : (Cond.code ⟨"LineGuard$Session", "isAnswerable", "()Z"⟩ prog_10_method_6_code 1 (some .boolean) : Cond) ∈ uT := uni_mem (List.mem_of_getElem? (i := 870) (by decide +kernel)) rfl
theorem tw_871 : (Cond.methodLink "LineGuard$Session" 71 ⟨"LineGuard$Session", "isOpenWith", "(I)Z"⟩ : Cond) ∈ uT := uni_mem (List.mem_of_getElem? (i := 871) (by decide +kernel)) rfl
theorem tw_872 : (Cond.methodLink "LineGuard" 187 ⟨"LineGuard", "isSw", "(I)Z"⟩ : Cond) ∈ uT := uni_mem (List.mem_of_getElem? (i := 872) (by decide +kernel)) rfl
theorem tw_873 : (Cond.static ⟨"LineGuard", "isSw", "(I)Z"⟩ : Cond) ∈ uT := uni_mem (List.mem_of_getElem? (i := 873) (by decide +kernel)) rfl
theorem tw_874 : (Cond.code ⟨"LineGuard", "isSw", "(I)Z"⟩ prog_1_method_25_code 1 (some .boolean) : Cond) ∈ uT := uni_mem (List.mem_of_getElem? (i := 874) (by decide +kernel)) rfl
theorem tw_875 : (Cond.constant "LineGuard" 219 (65535) : Cond) ∈ uT := uni_mem (List.mem_of_getElem? (i := 875) (by decide +kernel)) rfl
theorem tw_876 : (Cond.methodLink "LineGuard" 190 ⟨"LineGuard$Rule", "secureAnswer", "(LLineGuard$Session;LLineGuard$Row;ILLineGuard$Row;)V"⟩ : Cond) ∈ uT := uni_mem (List.mem_of_getElem? (i := 876) (by decide +kernel)) rfl
theorem tw_878 : (Cond.sameMethod "LineGuard$Rule" "LineGuard$Rule" "secureAnswer" "(LLineGuard$Session;LLineGuard$Row;ILLineGuard$Row;)V" : Cond) ∈ uT := uni_mem (List.mem_of_getElem? (i := 878) (by decide +kernel)) rfl
theorem tw_879 : (Cond.selects "LineGuard$NewerRule" ⟨"LineGuard$Rule", "secureAnswer", "(LLineGuard$Session;LLineGuard$Row;ILLineGuard$Row;)V"⟩ ⟨"LineGuard$NewerRule", "secureAnswer", "(LLineGuard$Session;LLineGuard$Row;ILLineGuard$Row;)V"⟩ : Cond) ∈ uT := uni_mem (List.mem_of_getElem? (i := 879) (by decide +kernel)) rfl
theorem tw_880 : (Cond.instanceMethod ⟨"LineGuard$NewerRule", "secureAnswer", "(LLineGuard$Session;LLineGuard$Row;ILLineGuard$Row;)V"⟩ : Cond) ∈ uT := uni_mem (List.mem_of_getElem? (i := 880) (by decide +kernel)) rfl
theorem tw_881 : (Cond.code ⟨"LineGuard$NewerRule", "secureAnswer", "(LLineGuard$Session;LLineGuard$Row;ILLineGuard$Row;)V"⟩ prog_6_method_8_code 5 none : Cond) ∈ uT := uni_mem (List.mem_of_getElem? (i := 881) (by decide +kernel)) rfl
theorem tw_882 : (Cond.methodLink "LineGuard$NewerRule" 122 ⟨"LineGuard$NewerRule", "codeAnswer", "(LLineGuard$Session;I)V"⟩ : Cond) ∈ uT := uni_mem (List.mem_of_getElem? (i := 882) (by decide +kernel)) rfl
theorem tw_884 : (Cond.instanceMethod ⟨"LineGuard$NewerRule", "codeAnswer", "(LLineGuard$Session;I)V"⟩ : Cond) ∈ uT := uni_mem (List.mem_of_getElem? (i := 884) (by decide +kernel)) rfl
theorem tw_885 : (Cond.code ⟨"LineGuard$NewerRule", "codeAnswer", "(LLineGuard$Session;I)V"⟩ prog_6_method_12_code 3 none : Cond) ∈ uT := uni_mem (List.mem_of_getElem? (i := 885) (by decide +kernel)) rfl
theorem tw_886 : (Cond.methodLink "LineGuard$NewerRule" 125 ⟨"LineGuard$NewerRule", "putAnswer", "(LLineGuard$Row;)V"⟩ : Cond) ∈ uT := uni_mem (List.mem_of_getElem? (i := 886) (by decide +kernel)) rfl
theorem tw_887 : (Cond.sameMethod "LineGuard$NewerRule" "LineGuard$Rule" "putAnswer" "(LLineGuard$Row;)V" : Cond) ∈ uT := uni_mem (List.mem_of_getElem? (i := 887) (by decide +kernel)) rfl
theorem tw_889 : (Cond.selects "LineGuard$NewerRule" ⟨"LineGuard$NewerRule", "putAnswer", "(LLineGuard$Row;)V"⟩ ⟨"LineGuard$Rule", "putAnswer", "(LLineGuard$Row;)V"⟩ : Cond) ∈ uT := uni_mem (List.mem_of_getElem? (i := 889) (by decide +kernel)) rfl
theorem tw_890 : (Cond.instanceMethod ⟨"LineGuard$Rule", "putAnswer", "(LLineGuard$Row;)V"⟩ : Cond) ∈ uT := uni_mem (List.mem_of_getElem? (i := 890) (by decide +kernel)) rfl
theorem tw_891 : (Cond.code ⟨"LineGuard$Rule", "putAnswer", "(LLineGuard$Row;)V"⟩ prog_9_method_18_code 2 none : Cond) ∈ uT := uni_mem (List.mem_of_getElem? (i := 891) (by decide +kernel)) rfl
theorem tw_892 : (Cond.methodLink "LineGuard$Rule" 73 ⟨"LineGuard$Row", "copy", "(LLineGuard$Row;)V"⟩ : Cond) ∈ uT := uni_mem (List.mem_of_getElem? (i := 892) (by decide +kernel)) rfl
theorem tw_893 : (Cond.selects "LineGuard$OlderRule" ⟨"LineGuard$Rule", "secureAnswer", "(LLineGuard$Session;LLineGuard$Row;ILLineGuard$Row;)V"⟩ ⟨"LineGuard$OlderRule", "secureAnswer", "(LLineGuard$Session;LLineGuard$Row;ILLineGuard$Row;)V"⟩ : Cond) ∈ uT := uni_mem (List.mem_of_getElem? (i := 893) (by decide +kernel)) rfl
theorem tw_894 : (Cond.instanceMethod ⟨"LineGuard$OlderRule", "secureAnswer", "(LLineGuard$Session;LLineGuard$Row;ILLineGuard$Row;)V"⟩ : Cond) ∈ uT := uni_mem (List.mem_of_getElem? (i := 894) (by decide +kernel)) rfl
theorem tw_895 : (Cond.code ⟨"LineGuard$OlderRule", "secureAnswer", "(LLineGuard$Session;LLineGuard$Row;ILLineGuard$Row;)V"⟩ prog_7_method_8_code 5 none : Cond) ∈ uT := uni_mem (List.mem_of_getElem? (i := 895) (by decide +kernel)) rfl
theorem tw_896 : (Cond.methodLink "LineGuard$OlderRule" 141 ⟨"LineGuard$OlderRule", "codeAnswer", "(LLineGuard$Session;I)V"⟩ : Cond) ∈ uT := uni_mem (List.mem_of_getElem? (i := 896) (by decide +kernel)) rfl
theorem tw_898 : (Cond.instanceMethod ⟨"LineGuard$OlderRule", "codeAnswer", "(LLineGuard$Session;I)V"⟩ : Cond) ∈ uT := uni_mem (List.mem_of_getElem? (i := 898) (by decide +kernel)) rfl
theorem tw_899 : (Cond.code ⟨"LineGuard$OlderRule", "codeAnswer", "(LLineGuard$Session;I)V"⟩ prog_7_method_14_code 3 none : Cond) ∈ uT := uni_mem (List.mem_of_getElem? (i := 899) (by decide +kernel)) rfl
theorem tw_900 : (Cond.methodLink "LineGuard$OlderRule" 187 ⟨"LineGuard$Row", "at", "(I)I"⟩ : Cond) ∈ uT := uni_mem (List.mem_of_getElem? (i := 900) (by decide +kernel)) rfl
theorem tw_901 : (Cond.methodLink "LineGuard$OlderRule" 191 ⟨"LineGuard$Row", "add", "(I)V"⟩ : Cond) ∈ uT := uni_mem (List.mem_of_getElem? (i := 901) (by decide +kernel)) rfl
theorem tw_902 : (Cond.methodLink "LineGuard$OlderRule" 151 ⟨"LineGuard$OlderRule", "putAnswer", "(LLineGuard$Row;)V"⟩ : Cond) ∈ uT := uni_mem (List.mem_of_getElem? (i := 902) (by decide +kernel)) rfl
theorem tw_903 : (Cond.sameMethod "LineGuard$OlderRule" "LineGuard$Rule" "putAnswer" "(LLineGuard$Row;)V" : Cond) ∈ uT := uni_mem (List.mem_of_getElem? (i := 903) (by decide +kernel)) rfl
theorem tw_904 : (Cond.selects "LineGuard$OlderRule" ⟨"LineGuard$OlderRule", "putAnswer", "(LLineGuard$Row;)V"⟩ ⟨"LineGuard$Rule", "putAnswer", "(LLineGuard$Row;)V"⟩ : Cond) ∈ uT := uni_mem (List.mem_of_getElem? (i := 904) (by decide +kernel)) rfl
theorem tw_905 : (Cond.methodLink "LineGuardLaw" 80 ⟨"LineGuard", "accept", "(I)I"⟩ : Cond) ∈ uT := uni_mem (List.mem_of_getElem? (i := 905) (by decide +kernel)) rfl
theorem tw_906 : (Cond.instanceMethod ⟨"LineGuard", "accept", "(I)I"⟩ : Cond) ∈ uT := uni_mem (List.mem_of_getElem? (i := 906) (by decide +kernel)) rfl
theorem tw_907 : (Cond.selects "LineGuard" ⟨"LineGuard", "accept", "(I)I"⟩ ⟨"LineGuard", "accept", "(I)I"⟩ : Cond) ∈ uT := uni_mem (List.mem_of_getElem? (i := 907) (by decide +kernel)) rfl
theorem tw_908 : (Cond.code ⟨"LineGuard", "accept", "(I)I"⟩ prog_1_method_17_code 3 (some .int) : Cond) ∈ uT := uni_mem (List.mem_of_getElem? (i := 908) (by decide +kernel)) rfl
theorem tw_909 : (Cond.methodLink "LineGuard" 194 ⟨"LineGuard$Rule", "openAnswer", "(LLineGuard$Session;LLineGuard$Row;ILLineGuard$Row;)Z"⟩ : Cond) ∈ uT := uni_mem (List.mem_of_getElem? (i := 909) (by decide +kernel)) rfl
theorem tw_911 : (Cond.sameMethod "LineGuard$Rule" "LineGuard$Rule" "openAnswer" "(LLineGuard$Session;LLineGuard$Row;ILLineGuard$Row;)Z" : Cond) ∈ uT := uni_mem (List.mem_of_getElem? (i := 911) (by decide +kernel)) rfl
theorem tw_912 : (Cond.selects "LineGuard$NewerRule" ⟨"LineGuard$Rule", "openAnswer", "(LLineGuard$Session;LLineGuard$Row;ILLineGuard$Row;)Z"⟩ ⟨"LineGuard$NewerRule", "openAnswer", "(LLineGuard$Session;LLineGuard$Row;ILLineGuard$Row;)Z"⟩ : Cond) ∈ uT := uni_mem (List.mem_of_getElem? (i := 912) (by decide +kernel)) rfl
theorem tw_913 : (Cond.instanceMethod ⟨"LineGuard$NewerRule", "openAnswer", "(LLineGuard$Session;LLineGuard$Row;ILLineGuard$Row;)Z"⟩ : Cond) ∈ uT := uni_mem (List.mem_of_getElem? (i := 913) (by decide +kernel)) rfl
theorem tw_914 : (Cond.code ⟨"LineGuard$NewerRule", "openAnswer", "(LLineGuard$Session;LLineGuard$Row;ILLineGuard$Row;)Z"⟩ prog_6_method_9_code 5 (some .boolean) : Cond) ∈ uT := uni_mem (List.mem_of_getElem? (i := 914) (by decide +kernel)) rfl
theorem tw_915 : (Cond.methodLink "LineGuard$NewerRule" 128 ⟨"LineGuard$NewerRule", "splitAnswer", "(LLineGuard$Row;)Z"⟩ : Cond) ∈ uT := uni_mem (List.mem_of_getElem? (i := 915) (by decide +kernel)) rfl
theorem tw_916 : (Cond.sameMethod "LineGuard$NewerRule" "LineGuard$Rule" "splitAnswer" "(LLineGuard$Row;)Z" : Cond) ∈ uT := uni_mem (List.mem_of_getElem? (i := 916) (by decide +kernel)) rfl
theorem tw_918 : (Cond.selects "LineGuard$NewerRule" ⟨"LineGuard$NewerRule", "splitAnswer", "(LLineGuard$Row;)Z"⟩ ⟨"LineGuard$Rule", "splitAnswer", "(LLineGuard$Row;)Z"⟩ : Cond) ∈ uT := uni_mem (List.mem_of_getElem? (i := 918) (by decide +kernel)) rfl
theorem tw_919 : (Cond.instanceMethod ⟨"LineGuard$Rule", "splitAnswer", "(LLineGuard$Row;)Z"⟩ : Cond) ∈ uT := uni_mem (List.mem_of_getElem? (i := 919) (by decide +kernel)) rfl
theorem tw_920 : (Cond.code ⟨"LineGuard$Rule", "splitAnswer", "(LLineGuard$Row;)Z"⟩ prog_9_method_19_code 2 (some .boolean) : Cond) ∈ uT := uni_mem (List.mem_of_getElem? (i := 920) (by decide +kernel)) rfl
theorem tw_921 : (Cond.selects "LineGuard$OlderRule" ⟨"LineGuard$Rule", "openAnswer", "(LLineGuard$Session;LLineGuard$Row;ILLineGuard$Row;)Z"⟩ ⟨"LineGuard$OlderRule", "openAnswer", "(LLineGuard$Session;LLineGuard$Row;ILLineGuard$Row;)Z"⟩ : Cond) ∈ uT := uni_mem (List.mem_of_getElem? (i := 921) (by decide +kernel)) rfl
theorem tw_922 : (Cond.instanceMethod ⟨"LineGuard$OlderRule", "openAnswer", "(LLineGuard$Session;LLineGuard$Row;ILLineGuard$Row;)Z"⟩ : Cond) ∈ uT := uni_mem (List.mem_of_getElem? (i := 922) (by decide +kernel)) rfl
theorem tw_923 : (Cond.code ⟨"LineGuard$OlderRule", "openAnswer", "(LLineGuard$Session;LLineGuard$Row;ILLineGuard$Row;)Z"⟩ prog_7_method_9_code 5 (some .boolean) : Cond) ∈ uT := uni_mem (List.mem_of_getElem? (i := 923) (by decide +kernel)) rfl
theorem tw_924 : (Cond.methodLink "LineGuard$OlderRule" 154 ⟨"LineGuard$OlderRule", "splitAnswer", "(LLineGuard$Row;)Z"⟩ : Cond) ∈ uT := uni_mem (List.mem_of_getElem? (i := 924) (by decide +kernel)) rfl
theorem tw_925 : (Cond.sameMethod "LineGuard$OlderRule" "LineGuard$Rule" "splitAnswer" "(LLineGuard$Row;)Z" : Cond) ∈ uT := uni_mem (List.mem_of_getElem? (i := 925) (by decide +kernel)) rfl
theorem tw_926 : (Cond.selects "LineGuard$OlderRule" ⟨"LineGuard$OlderRule", "splitAnswer", "(LLineGuard$Row;)Z"⟩ ⟨"LineGuard$Rule", "splitAnswer", "(LLineGuard$Row;)Z"⟩ : Cond) ∈ uT := uni_mem (List.mem_of_getElem? (i := 926) (by decide +kernel)) rfl
theorem tw_927 : (Cond.methodLink "LineGuardLaw" 84 ⟨"LineGuard", "seal", "(IZ)I"⟩ : Cond) ∈ uT := uni_mem (List.mem_of_getElem? (i := 927) (by decide +kernel)) rfl
theorem tw_928 : (Cond.instanceMethod ⟨"LineGuard", "seal", "(IZ)I"⟩ : Cond) ∈ uT := uni_mem (List.mem_of_getElem? (i := 928) (by decide +kernel)) rfl
theorem tw_929 : (Cond.selects "LineGuard" ⟨"LineGuard", "seal", "(IZ)I"⟩ ⟨"LineGuard", "seal", "(IZ)I"⟩ : Cond) ∈ uT := uni_mem (List.mem_of_getElem? (i := 929) (by decide +kernel)) rfl
theorem tw_930 : (Cond.code ⟨"LineGuard", "seal", "(IZ)I"⟩ prog_1_method_18_code 7 (some .int) : Cond) ∈ uT := uni_mem (List.mem_of_getElem? (i := 930) (by decide +kernel)) rfl
theorem tw_931 : (Cond.methodLink "LineGuard" 198 ⟨"LineGuard", "sessionOf", "(I)LLineGuard$Session;"⟩ : Cond) ∈ uT := uni_mem (List.mem_of_getElem? (i := 931) (by decide +kernel)) rfl
theorem tw_933 : (Cond.instanceMethod ⟨"LineGuard", "sessionOf", "(I)LLineGuard$Session;"⟩ : Cond) ∈ uT := uni_mem (List.mem_of_getElem? (i := 933) (by decide +kernel)) rfl
theorem tw_934 : (Cond.code ⟨"LineGuard", "sessionOf", "(I)LLineGuard$Session;"⟩ prog_1_method_22_code 2 (Option.some (.object "LineGuard$Session")) : Cond) ∈ uT := uni_mem (List.mem_of_getElem? (i := 934) (by decide +kernel)) rfl
theorem tw_935 : (Cond.methodLink "LineGuard" 202 ⟨"LineGuard$Rule", "isBlocks", "(I)Z"⟩ : Cond) ∈ uT := uni_mem (List.mem_of_getElem? (i := 935) (by decide +kernel)) rfl
theorem tw_936 : (Cond.methodLink "LineGuard" 208 ⟨"LineGuard$Rule", "sealWith", "(LLineGuard$Row;LLineGuard$Row;Z)V"⟩ : Cond) ∈ uT := uni_mem (List.mem_of_getElem? (i := 936) (by decide +kernel)) rfl
theorem tw_938 : (Cond.sameMethod "LineGuard$Rule" "LineGuard$Rule" "sealWith" "(LLineGuard$Row;LLineGuard$Row;Z)V" : Cond) ∈ uT := uni_mem (List.mem_of_getElem? (i := 938) (by decide +kernel)) rfl
theorem tw_939 : (Cond.selects "LineGuard$NewerRule" ⟨"LineGuard$Rule", "sealWith", "(LLineGuard$Row;LLineGuard$Row;Z)V"⟩ ⟨"LineGuard$NewerRule", "sealWith", "(LLineGuard$Row;LLineGuard$Row;Z)V"⟩ : Cond) ∈ uT := uni_mem (List.mem_of_getElem? (i := 939) (by decide +kernel)) rfl
theorem tw_940 : (Cond.instanceMethod ⟨"LineGuard$NewerRule", "sealWith", "(LLineGuard$Row;LLineGuard$Row;Z)V"⟩ : Cond) ∈ uT := uni_mem (List.mem_of_getElem? (i := 940) (by decide +kernel)) rfl
theorem tw_941 : (Cond.code ⟨"LineGuard$NewerRule", "sealWith", "(LLineGuard$Row;LLineGuard$Row;Z)V"⟩ prog_6_method_10_code 4 none : Cond) ∈ uT := uni_mem (List.mem_of_getElem? (i := 941) (by decide +kernel)) rfl
theorem tw_942 : (Cond.selects "LineGuard$OlderRule" ⟨"LineGuard$Rule", "sealWith", "(LLineGuard$Row;LLineGuard$Row;Z)V"⟩ ⟨"LineGuard$OlderRule", "sealWith", "(LLineGuard$Row;LLineGuard$Row;Z)V"⟩ : Cond) ∈ uT := uni_mem (List.mem_of_getElem? (i := 942) (by decide +kernel)) rfl
theorem tw_943 : (Cond.instanceMethod ⟨"LineGuard$OlderRule", "sealWith", "(LLineGuard$Row;LLineGuard$Row;Z)V"⟩ : Cond) ∈ uT := uni_mem (List.mem_of_getElem? (i := 943) (by decide +kernel)) rfl
theorem tw_944 : (Cond.code ⟨"LineGuard$OlderRule", "sealWith", "(LLineGuard$Row;LLineGuard$Row;Z)V"⟩ prog_7_method_10_code 5 none : Cond) ∈ uT := uni_mem (List.mem_of_getElem? (i := 944) (by decide +kernel)) rfl
theorem tw_945 : (Cond.methodLink "LineGuardLaw" 89 ⟨"LineGuard", "secret", "(III)I"⟩ : Cond) ∈ uT := uni_mem (List.mem_of_getElem? (i := 945) (by decide +kernel)) rfl
theorem tw_946 : (Cond.instanceMethod ⟨"LineGuard", "secret", "(III)I"⟩ : Cond) ∈ uT := uni_mem (List.mem_of_getElem? (i := 946) (by decide +kernel)) rfl
theorem tw_947 : (Cond.selects "LineGuard" ⟨"LineGuard", "secret", "(III)I"⟩ ⟨"LineGuard", "secret", "(III)I"⟩ : Cond) ∈ uT := uni_mem (List.mem_of_getElem? (i := 947) (by decide +kernel)) rfl
theorem tw_948 : (Cond.code ⟨"LineGuard", "secret", "(III)I"⟩ prog_1_method_19_code 6 (some .int) : Cond) ∈ uT := uni_mem (List.mem_of_getElem? (i := 948) (by decide +kernel)) rfl
theorem tw_949 : (Cond.methodLink "LineGuard" 212 ⟨"LineGuard$Session", "secretRow", "(I)LLineGuard$Row;"⟩ : Cond) ∈ uT := uni_mem (List.mem_of_getElem? (i := 949) (by decide +kernel)) rfl
theorem tw_950 : (Cond.instanceMethod ⟨"LineGuard$Session", "secretRow", "(I)LLineGuard$Row;"⟩ : Cond) ∈ uT := uni_mem (List.mem_of_getElem? (i := 950) (by decide +kernel)) rfl
theorem tw_951 : (Cond.selects "LineGuard$Session" ⟨"LineGuard$Session", "secretRow", "(I)LLineGuard$Row;"⟩ ⟨"LineGuard$Session", "secretRow", "(I)LLineGuard$Row;"⟩ : Cond) ∈ uT := uni_mem (List.mem_of_getElem? (i := 951) (by decide +kernel)) rfl
theorem tw_952 : (Cond.code ⟨"LineGuard$Session", "secretRow", "(I)LLineGuard$Row;"⟩ prog_10_method_7_code 2 (Option.some (.object "LineGuard$Row")) : Cond) ∈ uT := uni_mem (List.mem_of_getElem? (i := 952) (by decide +kernel)) rfl
theorem tw_953 : (Cond.methodLink "LineGuardLaw" 94 ⟨"LineGuard", "about", "(II)I"⟩ : Cond) ∈ uT := uni_mem (List.mem_of_getElem? (i := 953) (by decide +kernel)) rfl
theorem tw_954 : (Cond.instanceMethod ⟨"LineGuard", "about", "(II)I"⟩ : Cond) ∈ uT := uni_mem (List.mem_of_getElem? (i := 954) (by decide +kernel)) rfl
theorem tw_955 : (Cond.selects "LineGuard" ⟨"LineGuard", "about", "(II)I"⟩ ⟨"LineGuard", "about", "(II)I"⟩ : Cond) ∈ uT := uni_mem (List.mem_of_getElem? (i := 955) (by decide +kernel)) rfl
theorem tw_956 : (Cond.code ⟨"LineGuard", "about", "(II)I"⟩ prog_1_method_20_code 5 (some .int) : Cond) ∈ uT := uni_mem (List.mem_of_getElem? (i := 956) (by decide +kernel)) rfl
theorem tw_957 : (Cond.classLink "LineGuardLaw" 10 "LineGuardModel" : Cond) ∈ uT := uni_mem (List.mem_of_getElem? (i := 957) (by decide +kernel)) rfl
theorem tw_958 : (Cond.instantiable "LineGuardModel" 57 : Cond) ∈ uT := uni_mem (List.mem_of_getElem? (i := 958) (by decide +kernel)) rfl
theorem tw_959 : (Cond.methodLink "LineGuardLaw" 12 ⟨"LineGuardModel", "<init>", "()V"⟩ : Cond) ∈ uT := uni_mem (List.mem_of_getElem? (i := 959) (by decide +kernel)) rfl
theorem tw_960 : (Cond.instanceMethod ⟨"LineGuardModel", "<init>", "()V"⟩ : Cond) ∈ uT := uni_mem (List.mem_of_getElem? (i := 960) (by decide +kernel)) rfl
theorem tw_961 : (Cond.code ⟨"LineGuardModel", "<init>", "()V"⟩ prog_12_method_20_code 1 none : Cond) ∈ uT := uni_mem (List.mem_of_getElem? (i := 961) (by decide +kernel)) rfl
theorem tw_962 : (Cond.methodLink "LineGuardModel" 127 ⟨"java/lang/Object", "<init>", "()V"⟩ : Cond) ∈ uT := uni_mem (List.mem_of_getElem? (i := 962) (by decide +kernel)) rfl
theorem tw_963 : (Cond.constant "LineGuardModel" 132 (1116352408) : Cond) ∈ uT := uni_mem (List.mem_of_getElem? (i := 963) (by decide +kernel)) rfl
theorem tw_964 : (Cond.constant "LineGuardModel" 133 (1899447441) : Cond) ∈ uT := uni_mem (List.mem_of_getElem? (i := 964) (by decide +kernel)) rfl
theorem tw_965 : (Cond.constant "LineGuardModel" 134 (-1245643825) : Cond) ∈ uT := uni_mem (List.mem_of_getElem? (i := 965) (by decide +kernel)) rfl
theorem tw_966 : (Cond.constant "LineGuardModel" 135 (-373957723) : Cond) ∈ uT := uni_mem (List.mem_of_getElem? (i := 966) (by decide +kernel)) rfl
theorem tw_967 : (Cond.constant "LineGuardModel" 136 (961987163) : Cond) ∈ uT := uni_mem (List.mem_of_getElem? (i := 967) (by decide +kernel)) rfl
theorem tw_968 : (Cond.constant "LineGuardModel" 137 (1508970993) : Cond) ∈ uT := uni_mem (List.mem_of_getElem? (i := 968) (by decide +kernel)) rfl
theorem tw_969 : (Cond.constant "LineGuardModel" 138 (-1841331548) : Cond) ∈ uT := uni_mem (List.mem_of_getElem? (i := 969) (by decide +kernel)) rfl
theorem tw_970 : (Cond.constant "LineGuardModel" 139 (-1424204075) : Cond) ∈ uT := uni_mem (List.mem_of_getElem? (i := 970) (by decide +kernel)) rfl
theorem tw_971 : (Cond.constant "LineGuardModel" 140 (-670586216) : Cond) ∈ uT := uni_mem (List.mem_of_getElem? (i := 971) (by decide +kernel)) rfl
theorem tw_972 : (Cond.constant "LineGuardModel" 141 (310598401) : Cond) ∈ uT := uni_mem (List.mem_of_getElem? (i := 972) (by decide +kernel)) rfl
theorem tw_973 : (Cond.constant "LineGuardModel" 142 (607225278) : Cond) ∈ uT := uni_mem (List.mem_of_getElem? (i := 973) (by decide +kernel)) rfl
theorem tw_974 : (Cond.constant "LineGuardModel" 143 (1426881987) : Cond) ∈ uT := uni_mem (List.mem_of_getElem? (i := 974) (by decide +kernel)) rfl
theorem tw_975 : (Cond.constant "LineGuardModel" 144 (1925078388) : Cond) ∈ uT := uni_mem (List.mem_of_getElem? (i := 975) (by decide +kernel)) rfl
theorem tw_976 : (Cond.constant "LineGuardModel" 145 (-2132889090) : Cond) ∈ uT := uni_mem (List.mem_of_getElem? (i := 976) (by decide +kernel)) rfl
theorem tw_977 : (Cond.constant "LineGuardModel" 146 (-1680079193) : Cond) ∈ uT := uni_mem (List.mem_of_getElem? (i := 977) (by decide +kernel)) rfl
theorem tw_978 : (Cond.constant "LineGuardModel" 147 (-1046744716) : Cond) ∈ uT := uni_mem (List.mem_of_getElem? (i := 978) (by decide +kernel)) rfl
theorem tw_979 : (Cond.constant "LineGuardModel" 148 (-459576895) : Cond) ∈ uT := uni_mem (List.mem_of_getElem? (i := 979) (by decide +kernel)) rfl
theorem tw_980 : (Cond.constant "LineGuardModel" 149 (-272742522) : Cond) ∈ uT := uni_mem (List.mem_of_getElem? (i := 980) (by decide +kernel)) rfl
theorem tw_981 : (Cond.constant "LineGuardModel" 150 (264347078) : Cond) ∈ uT := uni_mem (List.mem_of_getElem? (i := 981) (by decide +kernel)) rfl
theorem tw_982 : (Cond.constant "LineGuardModel" 151 (604807628) : Cond) ∈ uT := uni_mem (List.mem_of_getElem? (i := 982) (by decide +kernel)) rfl
theorem tw_983 : (Cond.constant "LineGuardModel" 152 (770255983) : Cond) ∈ uT := uni_mem (List.mem_of_getElem? (i := 983) (by decide +kernel)) rfl
theorem tw_984 : (Cond.constant "LineGuardModel" 153 (1249150122) : Cond) ∈ uT := uni_mem (List.mem_of_getElem? (i := 984) (by decide +kernel)) rfl
theorem tw_985 : (Cond.constant "LineGuardModel" 154 (1555081692) : Cond) ∈ uT := uni_mem (List.mem_of_getElem? (i := 985) (by decide +kernel)) rfl
theorem tw_986 : (Cond.constant "LineGuardModel" 155 (1996064986) : Cond) ∈ uT := uni_mem (List.mem_of_getElem? (i := 986) (by decide +kernel)) rfl
theorem tw_987 : (Cond.constant "LineGuardModel" 156 (-1740746414) : Cond) ∈ uT := uni_mem (List.mem_of_getElem? (i := 987) (by decide +kernel)) rfl
theorem tw_988 : (Cond.constant "LineGuardModel" 157 (-1473132947) : Cond) ∈ uT := uni_mem (List.mem_of_getElem? (i := 988) (by decide +kernel)) rfl
theorem tw_989 : (Cond.constant "LineGuardModel" 158 (-1341970488) : Cond) ∈ uT := uni_mem (List.mem_of_getElem? (i := 989) (by decide +kernel)) rfl
theorem tw_990 : (Cond.constant "LineGuardModel" 159 (-1084653625) : Cond) ∈ uT := uni_mem (List.mem_of_getElem? (i := 990) (by decide +kernel)) rfl
theorem tw_991 : (Cond.constant "LineGuardModel" 160 (-958395405) : Cond) ∈ uT := uni_mem (List.mem_of_getElem? (i := 991) (by decide +kernel)) rfl
theorem tw_992 : (Cond.constant "LineGuardModel" 161 (-710438585) : Cond) ∈ uT := uni_mem (List.mem_of_getElem? (i := 992) (by decide +kernel)) rfl
theorem tw_993 : (Cond.constant "LineGuardModel" 162 (113926993) : Cond) ∈ uT := uni_mem (List.mem_of_getElem? (i := 993) (by decide +kernel)) rfl
theorem tw_994 : (Cond.constant "LineGuardModel" 163 (338241895) : Cond) ∈ uT := uni_mem (List.mem_of_getElem? (i := 994) (by decide +kernel)) rfl
theorem tw_995 : (Cond.constant "LineGuardModel" 164 (666307205) : Cond) ∈ uT := uni_mem (List.mem_of_getElem? (i := 995) (by decide +kernel)) rfl
theorem tw_996 : (Cond.constant "LineGuardModel" 165 (773529912) : Cond) ∈ uT := uni_mem (List.mem_of_getElem? (i := 996) (by decide +kernel)) rfl
theorem tw_997 : (Cond.constant "LineGuardModel" 166 (1294757372) : Cond) ∈ uT := uni_mem (List.mem_of_getElem? (i := 997) (by decide +kernel)) rfl
theorem tw_998 : (Cond.constant "LineGuardModel" 167 (1396182291) : Cond) ∈ uT := uni_mem (List.mem_of_getElem? (i := 998) (by decide +kernel)) rfl
theorem tw_999 : (Cond.constant "LineGuardModel" 168 (1695183700) : Cond) ∈ uT := uni_mem (List.mem_of_getElem? (i := 999) (by decide +kernel)) rfl
theorem tw_1000 : (Cond.constant "LineGuardModel" 169 (1986661051) : Cond) ∈ uT := uni_mem (List.mem_of_getElem? (i := 1000) (by decide +kernel)) rfl
theorem tw_1001 : (Cond.constant "LineGuardModel" 170 (-2117940946) : Cond) ∈ uT := uni_mem (List.mem_of_getElem? (i := 1001) (by decide +kernel)) rfl
theorem tw_1002 : (Cond.constant "LineGuardModel" 171 (-1838011259) : Cond) ∈ uT := uni_mem (List.mem_of_getElem? (i := 1002) (by decide +kernel)) rfl
theorem tw_1003 : (Cond.constant "LineGuardModel" 172 (-1564481375) : Cond) ∈ uT := uni_mem (List.mem_of_getElem? (i := 1003) (by decide +kernel)) rfl
theorem tw_1004 : (Cond.constant "LineGuardModel" 173 (-1474664885) : Cond) ∈ uT := uni_mem (List.mem_of_getElem? (i := 1004) (by decide +kernel)) rfl
theorem tw_1005 : (Cond.constant "LineGuardModel" 174 (-1035236496) : Cond) ∈ uT := uni_mem (List.mem_of_getElem? (i := 1005) (by decide +kernel)) rfl
theorem tw_1006 : (Cond.constant "LineGuardModel" 175 (-949202525) : Cond) ∈ uT := uni_mem (List.mem_of_getElem? (i := 1006) (by decide +kernel)) rfl
theorem tw_1007 : (Cond.constant "LineGuardModel" 176 (-778901479) : Cond) ∈ uT := uni_mem (List.mem_of_getElem? (i := 1007) (by decide +kernel)) rfl
theorem tw_1008 : (Cond.constant "LineGuardModel" 177 (-694614492) : Cond) ∈ uT := uni_mem (List.mem_of_getElem? (i := 1008) (by decide +kernel)) rfl
theorem tw_1009 : (Cond.constant "LineGuardModel" 178 (-200395387) : Cond) ∈ uT := uni_mem (List.mem_of_getElem? (i := 1009) (by decide +kernel)) rfl
theorem tw_1010 : (Cond.constant "LineGuardModel" 179 (275423344) : Cond) ∈ uT := uni_mem (List.mem_of_getElem? (i := 1010) (by decide +kernel)) rfl
theorem tw_1011 : (Cond.constant "LineGuardModel" 180 (430227734) : Cond) ∈ uT := uni_mem (List.mem_of_getElem? (i := 1011) (by decide +kernel)) rfl
theorem tw_1012 : (Cond.constant "LineGuardModel" 181 (506948616) : Cond) ∈ uT := uni_mem (List.mem_of_getElem? (i := 1012) (by decide +kernel)) rfl
theorem tw_1013 : (Cond.constant "LineGuardModel" 182 (659060556) : Cond) ∈ uT := uni_mem (List.mem_of_getElem? (i := 1013) (by decide +kernel)) rfl
theorem tw_1014 : (Cond.constant "LineGuardModel" 183 (883997877) : Cond) ∈ uT := uni_mem (List.mem_of_getElem? (i := 1014) (by decide +kernel)) rfl
theorem tw_1015 : (Cond.constant "LineGuardModel" 184 (958139571) : Cond) ∈ uT := uni_mem (List.mem_of_getElem? (i := 1015) (by decide +kernel)) rfl
theorem tw_1016 : (Cond.constant "LineGuardModel" 185 (1322822218) : Cond) ∈ uT := uni_mem (List.mem_of_getElem? (i := 1016) (by decide +kernel)) rfl
theorem tw_1017 : (Cond.constant "LineGuardModel" 186 (1537002063) : Cond) ∈ uT := uni_mem (List.mem_of_getElem? (i := 1017) (by decide +kernel)) rfl
theorem tw_1018 : (Cond.constant "LineGuardModel" 187 (1747873779) : Cond) ∈ uT := uni_mem (List.mem_of_getElem? (i := 1018) (by decide +kernel)) rfl
theorem tw_1019 : (Cond.constant "LineGuardModel" 188 (1955562222) : Cond) ∈ uT := uni_mem (List.mem_of_getElem? (i := 1019) (by decide +kernel)) rfl
theorem tw_1020 : (Cond.constant "LineGuardModel" 189 (2024104815) : Cond) ∈ uT := uni_mem (List.mem_of_getElem? (i := 1020) (by decide +kernel)) rfl
theorem tw_1021 : (Cond.constant "LineGuardModel" 190 (-2067236844) : Cond) ∈ uT := uni_mem (List.mem_of_getElem? (i := 1021) (by decide +kernel)) rfl
theorem tw_1022 : (Cond.constant "LineGuardModel" 191 (-1933114872) : Cond) ∈ uT := uni_mem (List.mem_of_getElem? (i := 1022) (by decide +kernel)) rfl
theorem tw_1023 : (Cond.constant "LineGuardModel" 192 (-1866530822) : Cond) ∈ uT := uni_mem (List.mem_of_getElem? (i := 1023) (by decide +kernel)) rfl
theorem tw_1024 : (Cond.constant "LineGuardModel" 193 (-1538233109) : Cond) ∈ uT := uni_mem (List.mem_of_getElem? (i := 1024) (by decide +kernel)) rfl
theorem tw_1025 : (Cond.constant "LineGuardModel" 194 (-1090935817) : Cond) ∈ uT := uni_mem (List.mem_of_getElem? (i := 1025) (by decide +kernel)) rfl
theorem tw_1026 : (Cond.constant "LineGuardModel" 195 (-965641998) : Cond) ∈ uT := uni_mem (List.mem_of_getElem? (i := 1026) (by decide +kernel)) rfl
theorem tw_1027 : (Cond.constant "LineGuardModel" 199 (1779033703) : Cond) ∈ uT := uni_mem (List.mem_of_getElem? (i := 1027) (by decide +kernel)) rfl
theorem tw_1028 : (Cond.constant "LineGuardModel" 200 (-1150833019) : Cond) ∈ uT := uni_mem (List.mem_of_getElem? (i := 1028) (by decide +kernel)) rfl
theorem tw_1029 : (Cond.constant "LineGuardModel" 201 (1013904242) : Cond) ∈ uT := uni_mem (List.mem_of_getElem? (i := 1029) (by decide +kernel)) rfl
theorem tw_1030 : (Cond.constant "LineGuardModel" 202 (-1521486534) : Cond) ∈ uT := uni_mem (List.mem_of_getElem? (i := 1030) (by decide +kernel)) rfl
theorem tw_1031 : (Cond.constant "LineGuardModel" 203 (1359893119) : Cond) ∈ uT := uni_mem (List.mem_of_getElem? (i := 1031) (by decide +kernel)) rfl
theorem tw_1032 : (Cond.constant "LineGuardModel" 204 (-1694144372) : Cond) ∈ uT := uni_mem (List.mem_of_getElem? (i := 1032) (by decide +kernel)) rfl
theorem tw_1033 : (Cond.constant "LineGuardModel" 205 (528734635) : Cond) ∈ uT := uni_mem (List.mem_of_getElem? (i := 1033) (by decide +kernel)) rfl
theorem tw_1034 : (Cond.constant "LineGuardModel" 206 (1541459225) : Cond) ∈ uT := uni_mem (List.mem_of_getElem? (i := 1034) (by decide +kernel)) rfl
theorem tw_1035 : (Cond.methodLink "LineGuardModel" 295 ⟨"LineGuardModel", "makeBoxes", "()V"⟩ : Cond) ∈ uT := uni_mem (List.mem_of_getElem? (i := 1035) (by decide +kernel)) rfl
theorem tw_1037 : (Cond.instanceMethod ⟨"LineGuardModel", "makeBoxes", "()V"⟩ : Cond) ∈ uT := uni_mem (List.mem_of_getElem? (i := 1037) (by decide +kernel)) rfl
theorem tw_1038 : (Cond.code ⟨"LineGuardModel", "makeBoxes", "()V"⟩ prog_12_method_6_code 6 none : Cond) ∈ uT := uni_mem (List.mem_of_getElem? (i := 1038) (by decide +kernel)) rfl
theorem tw_1039 : (Cond.methodLink "LineGuardModel" 52 ⟨"LineGuardModel", "times", "(II)I"⟩ : Cond) ∈ uT := uni_mem (List.mem_of_getElem? (i := 1039) (by decide +kernel)) rfl
theorem tw_1040 : (Cond.static ⟨"LineGuardModel", "times", "(II)I"⟩ : Cond) ∈ uT := uni_mem (List.mem_of_getElem? (i := 1040) (by decide +kernel)) rfl
theorem tw_1041 : (Cond.code ⟨"LineGuardModel", "times", "(II)I"⟩ prog_12_method_5_code 5 (some .int) : Cond) ∈ uT := uni_mem (List.mem_of_getElem? (i := 1041) (by decide +kernel)) rfl
theorem tw_1042 : (Cond.methodLink "LineGuardModel" 48 ⟨"LineGuardModel", "twice", "(I)I"⟩ : Cond) ∈ uT := uni_mem (List.mem_of_getElem? (i := 1042) (by decide +kernel)) rfl
theorem tw_1043 : (Cond.static ⟨"LineGuardModel", "twice", "(I)I"⟩ : Cond) ∈ uT := uni_mem (List.mem_of_getElem? (i := 1043) (by decide +kernel)) rfl
theorem tw_1044 : (Cond.code ⟨"LineGuardModel", "twice", "(I)I"⟩ prog_12_method_4_code 1 (some .int) : Cond) ∈ uT := uni_mem (List.mem_of_getElem? (i := 1044) (by decide +kernel)) rfl
theorem tw_1045 : (Cond.fieldLink "LineGuardModel" 23 "LineGuardModel" "ip" "[I" : Cond) ∈ uT := uni_mem (List.mem_of_getElem? (i := 1045) (by decide +kernel)) rfl
theorem tw_1046 : (Cond.fieldLink "LineGuardModel" 29 "LineGuardModel" "spread" "[I" : Cond) ∈ uT := uni_mem (List.mem_of_getElem? (i := 1046) (by decide +kernel)) rfl
theorem tw_1047 : (Cond.fieldLink "LineGuardModel" 41 "LineGuardModel" "mix" "[I" : Cond) ∈ uT := uni_mem (List.mem_of_getElem? (i := 1047) (by decide +kernel)) rfl
theorem tw_1048 : (Cond.fieldLink "LineGuardModel" 1 "LineGuardModel" "choice" "[I" : Cond) ∈ uT := uni_mem (List.mem_of_getElem? (i := 1048) (by decide +kernel)) rfl
theorem tw_1049 : (Cond.fieldLink "LineGuardModel" 13 "LineGuardModel" "second" "[I" : Cond) ∈ uT := uni_mem (List.mem_of_getElem? (i := 1049) (by decide +kernel)) rfl
theorem tw_1050 : (Cond.fieldLink "LineGuardModel" 32 "LineGuardModel" "boxes" "[I" : Cond) ∈ uT := uni_mem (List.mem_of_getElem? (i := 1050) (by decide +kernel)) rfl
theorem tw_1051 : (Cond.fieldLink "LineGuardModel" 196 "LineGuardModel" "rounds" "[I" : Cond) ∈ uT := uni_mem (List.mem_of_getElem? (i := 1051) (by decide +kernel)) rfl
theorem tw_1052 : (Cond.fieldLink "LineGuardModel" 207 "LineGuardModel" "first" "[I" : Cond) ∈ uT := uni_mem (List.mem_of_getElem? (i := 1052) (by decide +kernel)) rfl
theorem tw_1053 : (Cond.fieldLink "LineGuardModel" 56 "LineGuardModel" "sbox" "[I" : Cond) ∈ uT := uni_mem (List.mem_of_getElem? (i := 1053) (by decide +kernel)) rfl
theorem tw_1054 : (Cond.fieldLink "LineGuardModel" 59 "LineGuardModel" "unbox" "[I" : Cond) ∈ uT := uni_mem (List.mem_of_getElem? (i := 1054) (by decide +kernel)) rfl
theorem tw_1055 : (Cond.fieldLink "LineGuardModel" 20 "LineGuardModel" "bit" "[I" : Cond) ∈ uT := uni_mem (List.mem_of_getElem? (i := 1055) (by decide +kernel)) rfl
theorem tw_1056 : (Cond.fieldLink "LineGuardModel" 38 "LineGuardModel" "turned" "[I" : Cond) ∈ uT := uni_mem (List.mem_of_getElem? (i := 1056) (by decide +kernel)) rfl
theorem tw_1057 : (Cond.fieldLink "LineGuardModel" 7 "LineGuardModel" "cd" "[I" : Cond) ∈ uT := uni_mem (List.mem_of_getElem? (i := 1057) (by decide +kernel)) rfl
theorem tw_1058 : (Cond.fieldLink "LineGuardModel" 10 "LineGuardModel" "subkey" "[I" : Cond) ∈ uT := uni_mem (List.mem_of_getElem? (i := 1058) (by decide +kernel)) rfl
theorem tw_1059 : (Cond.fieldLink "LineGuardModel" 35 "LineGuardModel" "half" "[I" : Cond) ∈ uT := uni_mem (List.mem_of_getElem? (i := 1059) (by decide +kernel)) rfl
theorem tw_1060 : (Cond.fieldLink "LineGuardModel" 26 "LineGuardModel" "word" "[I" : Cond) ∈ uT := uni_mem (List.mem_of_getElem? (i := 1060) (by decide +kernel)) rfl
theorem tw_1061 : (Cond.fieldLink "LineGuardModel" 66 "LineGuardModel" "roundKey" "[B" : Cond) ∈ uT := uni_mem (List.mem_of_getElem? (i := 1061) (by decide +kernel)) rfl
theorem tw_1062 : (Cond.fieldLink "LineGuardModel" 62 "LineGuardModel" "aesRounds" "I" : Cond) ∈ uT := uni_mem (List.mem_of_getElem? (i := 1062) (by decide +kernel)) rfl
theorem tw_1063 : (Cond.fieldLink "LineGuardModel" 74 "LineGuardModel" "cell" "[B" : Cond) ∈ uT := uni_mem (List.mem_of_getElem? (i := 1063) (by decide +kernel)) rfl
theorem tw_1064 : (Cond.fieldLink "LineGuardModel" 210 "LineGuardModel" "w" "[I" : Cond) ∈ uT := uni_mem (List.mem_of_getElem? (i := 1064) (by decide +kernel)) rfl
theorem tw_1065 : (Cond.fieldLink "LineGuardModel" 213 "LineGuardModel" "sums" "[I" : Cond) ∈ uT := uni_mem (List.mem_of_getElem? (i := 1065) (by decide +kernel)) rfl
theorem tw_1066 : (Cond.fieldLink "LineGuardModel" 216 "LineGuardModel" "sha" "[B" : Cond) ∈ uT := uni_mem (List.mem_of_getElem? (i := 1066) (by decide +kernel)) rfl
theorem tw_1067 : (Cond.fieldLink "LineGuardModel" 84 "LineGuardModel" "m" "[B" : Cond) ∈ uT := uni_mem (List.mem_of_getElem? (i := 1067) (by decide +kernel)) rfl
theorem tw_1068 : (Cond.fieldLink "LineGuardModel" 81 "LineGuardModel" "mn" "I" : Cond) ∈ uT := uni_mem (List.mem_of_getElem? (i := 1068) (by decide +kernel)) rfl
theorem tw_1069 : (Cond.fieldLink "LineGuardModel" 94 "LineGuardModel" "mac" "[B" : Cond) ∈ uT := uni_mem (List.mem_of_getElem? (i := 1069) (by decide +kernel)) rfl
theorem tw_1070 : (Cond.fieldLink "LineGuardModel" 103 "LineGuardModel" "k1" "[B" : Cond) ∈ uT := uni_mem (List.mem_of_getElem? (i := 1070) (by decide +kernel)) rfl
theorem tw_1071 : (Cond.fieldLink "LineGuardModel" 118 "LineGuardModel" "over" "[B" : Cond) ∈ uT := uni_mem (List.mem_of_getElem? (i := 1071) (by decide +kernel)) rfl
theorem tw_1072 : (Cond.fieldLink "LineGuardModel" 219 "LineGuardModel" "tape" "[B" : Cond) ∈ uT := uni_mem (List.mem_of_getElem? (i := 1072) (by decide +kernel)) rfl
theorem tw_1073 : (Cond.fieldLink "LineGuardModel" 298 "LineGuardModel" "taped" "I" : Cond) ∈ uT := uni_mem (List.mem_of_getElem? (i := 1073) (by decide +kernel)) rfl
theorem tw_1074 : (Cond.fieldLink "LineGuardModel" 222 "LineGuardModel" "out" "[B" : Cond) ∈ uT := uni_mem (List.mem_of_getElem? (i := 1074) (by decide +kernel)) rfl
theorem tw_1075 : (Cond.fieldLink "LineGuardModel" 304 "LineGuardModel" "outSize" "I" : Cond) ∈ uT := uni_mem (List.mem_of_getElem? (i := 1075) (by decide +kernel)) rfl
theorem tw_1076 : (Cond.fieldLink "LineGuardModel" 225 "LineGuardModel" "line" "[B" : Cond) ∈ uT := uni_mem (List.mem_of_getElem? (i := 1076) (by decide +kernel)) rfl
theorem tw_1077 : (Cond.fieldLink "LineGuardModel" 307 "LineGuardModel" "lineSize" "I" : Cond) ∈ uT := uni_mem (List.mem_of_getElem? (i := 1077) (by decide +kernel)) rfl
theorem tw_1078 : (Cond.fieldLink "LineGuardModel" 228 "LineGuardModel" "name" "[B" : Cond) ∈ uT := uni_mem (List.mem_of_getElem? (i := 1078) (by decide +kernel)) rfl
theorem tw_1079 : (Cond.fieldLink "LineGuardModel" 321 "LineGuardModel" "nameSize" "I" : Cond) ∈ uT := uni_mem (List.mem_of_getElem? (i := 1079) (by decide +kernel)) rfl
theorem tw_1080 : (Cond.fieldLink "LineGuardModel" 325 "LineGuardModel" "counter" "I" : Cond) ∈ uT := uni_mem (List.mem_of_getElem? (i := 1080) (by decide +kernel)) rfl
theorem tw_1081 : (Cond.fieldLink "LineGuardModel" 231 "LineGuardModel" "rule" "[I" : Cond) ∈ uT := uni_mem (List.mem_of_getElem? (i := 1081) (by decide +kernel)) rfl
theorem tw_1082 : (Cond.fieldLink "LineGuardModel" 234 "LineGuardModel" "length" "[I" : Cond) ∈ uT := uni_mem (List.mem_of_getElem? (i := 1082) (by decide +kernel)) rfl
theorem tw_1083 : (Cond.fieldLink "LineGuardModel" 237 "LineGuardModel" "told" "[B" : Cond) ∈ uT := uni_mem (List.mem_of_getElem? (i := 1083) (by decide +kernel)) rfl
theorem tw_1084 : (Cond.fieldLink "LineGuardModel" 240 "LineGuardModel" "session" "[I" : Cond) ∈ uT := uni_mem (List.mem_of_getElem? (i := 1084) (by decide +kernel)) rfl
theorem tw_1085 : (Cond.fieldLink "LineGuardModel" 243 "LineGuardModel" "level" "[I" : Cond) ∈ uT := uni_mem (List.mem_of_getElem? (i := 1085) (by decide +kernel)) rfl
theorem tw_1086 : (Cond.fieldLink "LineGuardModel" 246 "LineGuardModel" "keys" "[B" : Cond) ∈ uT := uni_mem (List.mem_of_getElem? (i := 1086) (by decide +kernel)) rfl
theorem tw_1087 : (Cond.fieldLink "LineGuardModel" 249 "LineGuardModel" "own" "[B" : Cond) ∈ uT := uni_mem (List.mem_of_getElem? (i := 1087) (by decide +kernel)) rfl
theorem tw_1088 : (Cond.fieldLink "LineGuardModel" 252 "LineGuardModel" "theirs" "[B" : Cond) ∈ uT := uni_mem (List.mem_of_getElem? (i := 1088) (by decide +kernel)) rfl
theorem tw_1089 : (Cond.fieldLink "LineGuardModel" 255 "LineGuardModel" "check" "[B" : Cond) ∈ uT := uni_mem (List.mem_of_getElem? (i := 1089) (by decide +kernel)) rfl
theorem tw_1090 : (Cond.fieldLink "LineGuardModel" 258 "LineGuardModel" "chain" "[B" : Cond) ∈ uT := uni_mem (List.mem_of_getElem? (i := 1090) (by decide +kernel)) rfl
theorem tw_1091 : (Cond.fieldLink "LineGuardModel" 261 "LineGuardModel" "backChain" "[B" : Cond) ∈ uT := uni_mem (List.mem_of_getElem? (i := 1091) (by decide +kernel)) rfl
theorem tw_1092 : (Cond.fieldLink "LineGuardModel" 264 "LineGuardModel" "count" "[I" : Cond) ∈ uT := uni_mem (List.mem_of_getElem? (i := 1092) (by decide +kernel)) rfl
theorem tw_1093 : (Cond.fieldLink "LineGuardModel" 267 "LineGuardModel" "has" "[Z" : Cond) ∈ uT := uni_mem (List.mem_of_getElem? (i := 1093) (by decide +kernel)) rfl
theorem tw_1094 : (Cond.fieldLink "LineGuardModel" 271 "LineGuardModel" "command" "[B" : Cond) ∈ uT := uni_mem (List.mem_of_getElem? (i := 1094) (by decide +kernel)) rfl
theorem tw_1095 : (Cond.fieldLink "LineGuardModel" 274 "LineGuardModel" "commandSize" "[I" : Cond) ∈ uT := uni_mem (List.mem_of_getElem? (i := 1095) (by decide +kernel)) rfl
theorem tw_1096 : (Cond.fieldLink "LineGuardModel" 277 "LineGuardModel" "host" "[B" : Cond) ∈ uT := uni_mem (List.mem_of_getElem? (i := 1096) (by decide +kernel)) rfl
theorem tw_1097 : (Cond.fieldLink "LineGuardModel" 280 "LineGuardModel" "number" "[B" : Cond) ∈ uT := uni_mem (List.mem_of_getElem? (i := 1097) (by decide +kernel)) rfl
theorem tw_1098 : (Cond.fieldLink "LineGuardModel" 283 "LineGuardModel" "block" "[B" : Cond) ∈ uT := uni_mem (List.mem_of_getElem? (i := 1098) (by decide +kernel)) rfl
theorem tw_1099 : (Cond.fieldLink "LineGuardModel" 286 "LineGuardModel" "work" "[B" : Cond) ∈ uT := uni_mem (List.mem_of_getElem? (i := 1099) (by decide +kernel)) rfl
theorem tw_1100 : (Cond.fieldLink "LineGuardModel" 289 "LineGuardModel" "code" "[B" : Cond) ∈ uT := uni_mem (List.mem_of_getElem? (i := 1100) (by decide +kernel)) rfl
theorem tw_1101 : (Cond.fieldLink "LineGuardModel" 292 "LineGuardModel" "ahead" "[B" : Cond) ∈ uT := uni_mem (List.mem_of_getElem? (i := 1101) (by decide +kernel)) rfl
theorem tw_1216 : (Cond.superclass "LineGuardModel" "java/lang/Object" : Cond) ∈ uT := uni_mem (List.mem_of_getElem? (i := 1216) (by decide +kernel)) rfl
theorem tw_1217 : (Cond.arrayClass .byte : Cond) ∈ uT := uni_mem (List.mem_of_getElem? (i := 1217) (by decide +kernel)) rfl
theorem tw_1218 : (Cond.arrayClass .boolean : Cond) ∈ uT := uni_mem (List.mem_of_getElem? (i := 1218) (by decide +kernel)) rfl
theorem tw_1219 : (Cond.methodLink "LineGuardLaw" 17 ⟨"LineGuardModel", "feed", "(IIIII)I"⟩ : Cond) ∈ uT := uni_mem (List.mem_of_getElem? (i := 1219) (by decide +kernel)) rfl
theorem tw_1220 : (Cond.instanceMethod ⟨"LineGuardModel", "feed", "(IIIII)I"⟩ : Cond) ∈ uT := uni_mem (List.mem_of_getElem? (i := 1220) (by decide +kernel)) rfl
theorem tw_1221 : (Cond.selects "LineGuardModel" ⟨"LineGuardModel", "feed", "(IIIII)I"⟩ ⟨"LineGuardModel", "feed", "(IIIII)I"⟩ : Cond) ∈ uT := uni_mem (List.mem_of_getElem? (i := 1221) (by decide +kernel)) rfl
theorem tw_1222 : (Cond.code ⟨"LineGuardModel", "feed", "(IIIII)I"⟩ prog_12_method_22_code 6 (some .int) : Cond) ∈ uT := uni_mem (List.mem_of_getElem? (i := 1222) (by decide +kernel)) rfl
theorem tw_1223 : (Cond.methodLink "LineGuardModel" 301 ⟨"LineGuardModel", "putFour", "(I)V"⟩ : Cond) ∈ uT := uni_mem (List.mem_of_getElem? (i := 1223) (by decide +kernel)) rfl
theorem tw_1225 : (Cond.instanceMethod ⟨"LineGuardModel", "putFour", "(I)V"⟩ : Cond) ∈ uT := uni_mem (List.mem_of_getElem? (i := 1225) (by decide +kernel)) rfl
theorem tw_1226 : (Cond.code ⟨"LineGuardModel", "putFour", "(I)V"⟩ prog_12_method_21_code 3 none : Cond) ∈ uT := uni_mem (List.mem_of_getElem? (i := 1226) (by decide +kernel)) rfl
theorem tw_1227 : (Cond.methodLink "LineGuardLaw" 22 ⟨"LineGuardModel", "end", "(I)I"⟩ : Cond) ∈ uT := uni_mem (List.mem_of_getElem? (i := 1227) (by decide +kernel)) rfl
theorem tw_1228 : (Cond.instanceMethod ⟨"LineGuardModel", "end", "(I)I"⟩ : Cond) ∈ uT := uni_mem (List.mem_of_getElem? (i := 1228) (by decide +kernel)) rfl
theorem tw_1229 : (Cond.selects "LineGuardModel" ⟨"LineGuardModel", "end", "(I)I"⟩ ⟨"LineGuardModel", "end", "(I)I"⟩ : Cond) ∈ uT := uni_mem (List.mem_of_getElem? (i := 1229) (by decide +kernel)) rfl
theorem tw_1230 : (Cond.code ⟨"LineGuardModel", "end", "(I)I"⟩ prog_12_method_23_code 2 (some .int) : Cond) ∈ uT := uni_mem (List.mem_of_getElem? (i := 1230) (by decide +kernel)) rfl
theorem tw_1231 : (Cond.methodLink "LineGuardLaw" 26 ⟨"LineGuardModel", "out", "(I)I"⟩ : Cond) ∈ uT := uni_mem (List.mem_of_getElem? (i := 1231) (by decide +kernel)) rfl
theorem tw_1232 : (Cond.instanceMethod ⟨"LineGuardModel", "out", "(I)I"⟩ : Cond) ∈ uT := uni_mem (List.mem_of_getElem? (i := 1232) (by decide +kernel)) rfl
theorem tw_1233 : (Cond.selects "LineGuardModel" ⟨"LineGuardModel", "out", "(I)I"⟩ ⟨"LineGuardModel", "out", "(I)I"⟩ : Cond) ∈ uT := uni_mem (List.mem_of_getElem? (i := 1233) (by decide +kernel)) rfl
theorem tw_1234 : (Cond.code ⟨"LineGuardModel", "out", "(I)I"⟩ prog_12_method_24_code 2 (some .int) : Cond) ∈ uT := uni_mem (List.mem_of_getElem? (i := 1234) (by decide +kernel)) rfl
theorem tw_1235 : (Cond.methodLink "LineGuardLaw" 30 ⟨"LineGuardModel", "line", "(I)I"⟩ : Cond) ∈ uT := uni_mem (List.mem_of_getElem? (i := 1235) (by decide +kernel)) rfl
theorem tw_1236 : (Cond.instanceMethod ⟨"LineGuardModel", "line", "(I)I"⟩ : Cond) ∈ uT := uni_mem (List.mem_of_getElem? (i := 1236) (by decide +kernel)) rfl
theorem tw_1237 : (Cond.selects "LineGuardModel" ⟨"LineGuardModel", "line", "(I)I"⟩ ⟨"LineGuardModel", "line", "(I)I"⟩ : Cond) ∈ uT := uni_mem (List.mem_of_getElem? (i := 1237) (by decide +kernel)) rfl
theorem tw_1238 : (Cond.code ⟨"LineGuardModel", "line", "(I)I"⟩ prog_12_method_25_code 2 (some .int) : Cond) ∈ uT := uni_mem (List.mem_of_getElem? (i := 1238) (by decide +kernel)) rfl
theorem tw_1239 : (Cond.methodLink "LineGuardLaw" 35 ⟨"LineGuardModel", "alter", "(II)I"⟩ : Cond) ∈ uT := uni_mem (List.mem_of_getElem? (i := 1239) (by decide +kernel)) rfl
theorem tw_1240 : (Cond.instanceMethod ⟨"LineGuardModel", "alter", "(II)I"⟩ : Cond) ∈ uT := uni_mem (List.mem_of_getElem? (i := 1240) (by decide +kernel)) rfl
theorem tw_1241 : (Cond.selects "LineGuardModel" ⟨"LineGuardModel", "alter", "(II)I"⟩ ⟨"LineGuardModel", "alter", "(II)I"⟩ : Cond) ∈ uT := uni_mem (List.mem_of_getElem? (i := 1241) (by decide +kernel)) rfl
theorem tw_1242 : (Cond.code ⟨"LineGuardModel", "alter", "(II)I"⟩ prog_12_method_26_code 3 (some .int) : Cond) ∈ uT := uni_mem (List.mem_of_getElem? (i := 1242) (by decide +kernel)) rfl
theorem tw_1243 : (Cond.methodLink "LineGuardLaw" 39 ⟨"LineGuardModel", "cut", "(I)I"⟩ : Cond) ∈ uT := uni_mem (List.mem_of_getElem? (i := 1243) (by decide +kernel)) rfl
theorem tw_1244 : (Cond.instanceMethod ⟨"LineGuardModel", "cut", "(I)I"⟩ : Cond) ∈ uT := uni_mem (List.mem_of_getElem? (i := 1244) (by decide +kernel)) rfl
theorem tw_1245 : (Cond.selects "LineGuardModel" ⟨"LineGuardModel", "cut", "(I)I"⟩ ⟨"LineGuardModel", "cut", "(I)I"⟩ : Cond) ∈ uT := uni_mem (List.mem_of_getElem? (i := 1245) (by decide +kernel)) rfl
theorem tw_1246 : (Cond.code ⟨"LineGuardModel", "cut", "(I)I"⟩ prog_12_method_27_code 2 (some .int) : Cond) ∈ uT := uni_mem (List.mem_of_getElem? (i := 1246) (by decide +kernel)) rfl
theorem tw_1247 : (Cond.methodLink "LineGuardLaw" 44 ⟨"LineGuardModel", "slip", "()I"⟩ : Cond) ∈ uT := uni_mem (List.mem_of_getElem? (i := 1247) (by decide +kernel)) rfl
theorem tw_1248 : (Cond.instanceMethod ⟨"LineGuardModel", "slip", "()I"⟩ : Cond) ∈ uT := uni_mem (List.mem_of_getElem? (i := 1248) (by decide +kernel)) rfl
theorem tw_1249 : (Cond.selects "LineGuardModel" ⟨"LineGuardModel", "slip", "()I"⟩ ⟨"LineGuardModel", "slip", "()I"⟩ : Cond) ∈ uT := uni_mem (List.mem_of_getElem? (i := 1249) (by decide +kernel)) rfl
theorem tw_1250 : (Cond.code ⟨"LineGuardModel", "slip", "()I"⟩ prog_12_method_29_code 3 (some .int) : Cond) ∈ uT := uni_mem (List.mem_of_getElem? (i := 1250) (by decide +kernel)) rfl
theorem tw_1251 : (Cond.methodLink "LineGuardModel" 310 ⟨"LineGuardModel", "use", "()I"⟩ : Cond) ∈ uT := uni_mem (List.mem_of_getElem? (i := 1251) (by decide +kernel)) rfl
theorem tw_1253 : (Cond.instanceMethod ⟨"LineGuardModel", "use", "()I"⟩ : Cond) ∈ uT := uni_mem (List.mem_of_getElem? (i := 1253) (by decide +kernel)) rfl
theorem tw_1254 : (Cond.code ⟨"LineGuardModel", "use", "()I"⟩ prog_12_method_28_code 2 (some .int) : Cond) ∈ uT := uni_mem (List.mem_of_getElem? (i := 1254) (by decide +kernel)) rfl
theorem tw_1255 : (Cond.methodLink "LineGuardLaw" 48 ⟨"LineGuardModel", "keys", "(II)I"⟩ : Cond) ∈ uT := uni_mem (List.mem_of_getElem? (i := 1255) (by decide +kernel)) rfl
theorem tw_1256 : (Cond.instanceMethod ⟨"LineGuardModel", "keys", "(II)I"⟩ : Cond) ∈ uT := uni_mem (List.mem_of_getElem? (i := 1256) (by decide +kernel)) rfl
theorem tw_1257 : (Cond.selects "LineGuardModel" ⟨"LineGuardModel", "keys", "(II)I"⟩ ⟨"LineGuardModel", "keys", "(II)I"⟩ : Cond) ∈ uT := uni_mem (List.mem_of_getElem? (i := 1257) (by decide +kernel)) rfl
theorem tw_1258 : (Cond.code ⟨"LineGuardModel", "keys", "(II)I"⟩ prog_12_method_32_code 7 (some .int) : Cond) ∈ uT := uni_mem (List.mem_of_getElem? (i := 1258) (by decide +kernel)) rfl
theorem tw_1259 : (Cond.methodLink "LineGuardModel" 314 ⟨"LineGuardModel", "isSide", "(I)Z"⟩ : Cond) ∈ uT := uni_mem (List.mem_of_getElem? (i := 1259) (by decide +kernel)) rfl
theorem tw_1260 : (Cond.static ⟨"LineGuardModel", "isSide", "(I)Z"⟩ : Cond) ∈ uT := uni_mem (List.mem_of_getElem? (i := 1260) (by decide +kernel)) rfl
theorem tw_1261 : (Cond.code ⟨"LineGuardModel", "isSide", "(I)Z"⟩ prog_12_method_31_code 1 (some .boolean) : Cond) ∈ uT := uni_mem (List.mem_of_getElem? (i := 1261) (by decide +kernel)) rfl
theorem tw_1262 : (Cond.methodLink "LineGuardModel" 318 ⟨"LineGuardModel", "none", "()V"⟩ : Cond) ∈ uT := uni_mem (List.mem_of_getElem? (i := 1262) (by decide +kernel)) rfl
theorem tw_1264 : (Cond.instanceMethod ⟨"LineGuardModel", "none", "()V"⟩ : Cond) ∈ uT := uni_mem (List.mem_of_getElem? (i := 1264) (by decide +kernel)) rfl
theorem tw_1265 : (Cond.code ⟨"LineGuardModel", "none", "()V"⟩ prog_12_method_30_code 1 none : Cond) ∈ uT := uni_mem (List.mem_of_getElem? (i := 1265) (by decide +kernel)) rfl
theorem tw_1266 : (Cond.methodLink "LineGuardLaw" 52 ⟨"LineGuardModel", "name", "()I"⟩ : Cond) ∈ uT := uni_mem (List.mem_of_getElem? (i := 1266) (by decide +kernel)) rfl
theorem tw_1267 : (Cond.instanceMethod ⟨"LineGuardModel", "name", "()I"⟩ : Cond) ∈ uT := uni_mem (List.mem_of_getElem? (i := 1267) (by decide +kernel)) rfl
theorem tw_1268 : (Cond.selects "LineGuardModel" ⟨"LineGuardModel", "name", "()I"⟩ ⟨"LineGuardModel", "name", "()I"⟩ : Cond) ∈ uT := uni_mem (List.mem_of_getElem? (i := 1268) (by decide +kernel)) rfl
theorem tw_1269 : (Cond.code ⟨"LineGuardModel", "name", "()I"⟩ prog_12_method_33_code 3 (some .int) : Cond) ∈ uT := uni_mem (List.mem_of_getElem? (i := 1269) (by decide +kernel)) rfl
theorem tw_1270 : (Cond.methodLink "LineGuardLaw" 56 ⟨"LineGuardModel", "counter", "(I)I"⟩ : Cond) ∈ uT := uni_mem (List.mem_of_getElem? (i := 1270) (by decide +kernel)) rfl
theorem tw_1271 : (Cond.instanceMethod ⟨"LineGuardModel", "counter", "(I)I"⟩ : Cond) ∈ uT := uni_mem (List.mem_of_getElem? (i := 1271) (by decide +kernel)) rfl
theorem tw_1272 : (Cond.selects "LineGuardModel" ⟨"LineGuardModel", "counter", "(I)I"⟩ ⟨"LineGuardModel", "counter", "(I)I"⟩ : Cond) ∈ uT := uni_mem (List.mem_of_getElem? (i := 1272) (by decide +kernel)) rfl
theorem tw_1273 : (Cond.code ⟨"LineGuardModel", "counter", "(I)I"⟩ prog_12_method_34_code 2 (some .int) : Cond) ∈ uT := uni_mem (List.mem_of_getElem? (i := 1273) (by decide +kernel)) rfl
theorem tw_1274 : (Cond.constant "LineGuardModel" 324 (16777215) : Cond) ∈ uT := uni_mem (List.mem_of_getElem? (i := 1274) (by decide +kernel)) rfl
theorem tw_1275 : (Cond.methodLink "LineGuardLaw" 63 ⟨"LineGuardModel", "start", "(J)I"⟩ : Cond) ∈ uT := uni_mem (List.mem_of_getElem? (i := 1275) (by decide +kernel)) rfl
theorem tw_1276 : (Cond.instanceMethod ⟨"LineGuardModel", "start", "(J)I"⟩ : Cond) ∈ uT := uni_mem (List.mem_of_getElem? (i := 1276) (by decide +kernel)) rfl
theorem tw_1277 : (Cond.selects "LineGuardModel" ⟨"LineGuardModel", "start", "(J)I"⟩ ⟨"LineGuardModel", "start", "(J)I"⟩ : Cond) ∈ uT := uni_mem (List.mem_of_getElem? (i := 1277) (by decide +kernel)) rfl
theorem tw_1278 : (Cond.code ⟨"LineGuardModel", "start", "(J)I"⟩ prog_12_method_40_code 6 (some .int) : Cond) ∈ uT := uni_mem (List.mem_of_getElem? (i := 1278) (by decide +kernel)) rfl
theorem tw_1279 : (Cond.methodLink "LineGuardModel" 350 ⟨"LineGuardModel", "make", "(IZ)V"⟩ : Cond) ∈ uT := uni_mem (List.mem_of_getElem? (i := 1279) (by decide +kernel)) rfl
theorem tw_1281 : (Cond.instanceMethod ⟨"LineGuardModel", "make", "(IZ)V"⟩ : Cond) ∈ uT := uni_mem (List.mem_of_getElem? (i := 1281) (by decide +kernel)) rfl
theorem tw_1282 : (Cond.code ⟨"LineGuardModel", "make", "(IZ)V"⟩ prog_12_method_38_code 6 none : Cond) ∈ uT := uni_mem (List.mem_of_getElem? (i := 1282) (by decide +kernel)) rfl
theorem tw_1283 : (Cond.methodLink "LineGuardModel" 328 ⟨"LineGuardModel", "made", "(IIII)V"⟩ : Cond) ∈ uT := uni_mem (List.mem_of_getElem? (i := 1283) (by decide +kernel)) rfl
theorem tw_1285 : (Cond.instanceMethod ⟨"LineGuardModel", "made", "(IIII)V"⟩ : Cond) ∈ uT := uni_mem (List.mem_of_getElem? (i := 1285) (by decide +kernel)) rfl
theorem tw_1286 : (Cond.code ⟨"LineGuardModel", "made", "(IIII)V"⟩ prog_12_method_35_code 6 none : Cond) ∈ uT := uni_mem (List.mem_of_getElem? (i := 1286) (by decide +kernel)) rfl
theorem tw_1287 : (Cond.methodLink "LineGuardModel" 97 ⟨"LineGuardModel", "des3", "([BI[BIZ)V"⟩ : Cond) ∈ uT := uni_mem (List.mem_of_getElem? (i := 1287) (by decide +kernel)) rfl
theorem tw_1289 : (Cond.instanceMethod ⟨"LineGuardModel", "des3", "([BI[BIZ)V"⟩ : Cond) ∈ uT := uni_mem (List.mem_of_getElem? (i := 1289) (by decide +kernel)) rfl
theorem tw_1290 : (Cond.code ⟨"LineGuardModel", "des3", "([BI[BIZ)V"⟩ prog_12_method_3_code 6 none : Cond) ∈ uT := uni_mem (List.mem_of_getElem? (i := 1290) (by decide +kernel)) rfl
theorem tw_1291 : (Cond.methodLink "LineGuardModel" 44 ⟨"LineGuardModel", "des", "([BI[BIZ)V"⟩ : Cond) ∈ uT := uni_mem (List.mem_of_getElem? (i := 1291) (by decide +kernel)) rfl
theorem tw_1293 : (Cond.instanceMethod ⟨"LineGuardModel", "des", "([BI[BIZ)V"⟩ : Cond) ∈ uT := uni_mem (List.mem_of_getElem? (i := 1293) (by decide +kernel)) rfl
theorem tw_1294 : (Cond.code ⟨"LineGuardModel", "des", "([BI[BIZ)V"⟩ prog_12_method_2_code 13 none : Cond) ∈ uT := uni_mem (List.mem_of_getElem? (i := 1294) (by decide +kernel)) rfl
theorem tw_1295 : (Cond.methodLink "LineGuardModel" 16 ⟨"LineGuardModel", "desKey", "([BI)V"⟩ : Cond) ∈ uT := uni_mem (List.mem_of_getElem? (i := 1295) (by decide +kernel)) rfl
theorem tw_1297 : (Cond.instanceMethod ⟨"LineGuardModel", "desKey", "([BI)V"⟩ : Cond) ∈ uT := uni_mem (List.mem_of_getElem? (i := 1297) (by decide +kernel)) rfl
theorem tw_1298 : (Cond.code ⟨"LineGuardModel", "desKey", "([BI)V"⟩ prog_12_method_1_code 9 none : Cond) ∈ uT := uni_mem (List.mem_of_getElem? (i := 1298) (by decide +kernel)) rfl
theorem tw_1299 : (Cond.methodLink "LineGuardModel" 114 ⟨"LineGuardModel", "fresh", "()V"⟩ : Cond) ∈ uT := uni_mem (List.mem_of_getElem? (i := 1299) (by decide +kernel)) rfl
theorem tw_1301 : (Cond.instanceMethod ⟨"LineGuardModel", "fresh", "()V"⟩ : Cond) ∈ uT := uni_mem (List.mem_of_getElem? (i := 1301) (by decide +kernel)) rfl
theorem tw_1302 : (Cond.code ⟨"LineGuardModel", "fresh", "()V"⟩ prog_12_method_11_code 1 none : Cond) ∈ uT := uni_mem (List.mem_of_getElem? (i := 1302) (by decide +kernel)) rfl
theorem tw_1303 : (Cond.methodLink "LineGuardModel" 121 ⟨"LineGuardModel", "addAll", "([BII)V"⟩ : Cond) ∈ uT := uni_mem (List.mem_of_getElem? (i := 1303) (by decide +kernel)) rfl
theorem tw_1305 : (Cond.instanceMethod ⟨"LineGuardModel", "addAll", "([BII)V"⟩ : Cond) ∈ uT := uni_mem (List.mem_of_getElem? (i := 1305) (by decide +kernel)) rfl
theorem tw_1306 : (Cond.code ⟨"LineGuardModel", "addAll", "([BII)V"⟩ prog_12_method_13_code 5 none : Cond) ∈ uT := uni_mem (List.mem_of_getElem? (i := 1306) (by decide +kernel)) rfl
theorem tw_1307 : (Cond.methodLink "LineGuardModel" 87 ⟨"LineGuardModel", "add", "(I)V"⟩ : Cond) ∈ uT := uni_mem (List.mem_of_getElem? (i := 1307) (by decide +kernel)) rfl
theorem tw_1309 : (Cond.instanceMethod ⟨"LineGuardModel", "add", "(I)V"⟩ : Cond) ∈ uT := uni_mem (List.mem_of_getElem? (i := 1309) (by decide +kernel)) rfl
theorem tw_1310 : (Cond.code ⟨"LineGuardModel", "add", "(I)V"⟩ prog_12_method_12_code 2 none : Cond) ∈ uT := uni_mem (List.mem_of_getElem? (i := 1310) (by decide +kernel)) rfl
theorem tw_1311 : (Cond.methodLink "LineGuardModel" 332 ⟨"LineGuardModel", "retail", "([BI[BI)V"⟩ : Cond) ∈ uT := uni_mem (List.mem_of_getElem? (i := 1311) (by decide +kernel)) rfl
theorem tw_1313 : (Cond.instanceMethod ⟨"LineGuardModel", "retail", "([BI[BI)V"⟩ : Cond) ∈ uT := uni_mem (List.mem_of_getElem? (i := 1313) (by decide +kernel)) rfl
theorem tw_1314 : (Cond.code ⟨"LineGuardModel", "retail", "([BI[BI)V"⟩ prog_12_method_16_code 7 none : Cond) ∈ uT := uni_mem (List.mem_of_getElem? (i := 1314) (by decide +kernel)) rfl
theorem tw_1315 : (Cond.methodLink "LineGuardModel" 91 ⟨"LineGuardModel", "fillUp", "(I)V"⟩ : Cond) ∈ uT := uni_mem (List.mem_of_getElem? (i := 1315) (by decide +kernel)) rfl
theorem tw_1317 : (Cond.instanceMethod ⟨"LineGuardModel", "fillUp", "(I)V"⟩ : Cond) ∈ uT := uni_mem (List.mem_of_getElem? (i := 1317) (by decide +kernel)) rfl
theorem tw_1318 : (Cond.code ⟨"LineGuardModel", "fillUp", "(I)V"⟩ prog_12_method_14_code 2 none : Cond) ∈ uT := uni_mem (List.mem_of_getElem? (i := 1318) (by decide +kernel)) rfl
theorem tw_1319 : (Cond.methodLink "LineGuardModel" 336 ⟨"LineGuardModel", "proofOf", "(IZ)V"⟩ : Cond) ∈ uT := uni_mem (List.mem_of_getElem? (i := 1319) (by decide +kernel)) rfl
theorem tw_1321 : (Cond.instanceMethod ⟨"LineGuardModel", "proofOf", "(IZ)V"⟩ : Cond) ∈ uT := uni_mem (List.mem_of_getElem? (i := 1321) (by decide +kernel)) rfl
theorem tw_1322 : (Cond.code ⟨"LineGuardModel", "proofOf", "(IZ)V"⟩ prog_12_method_39_code 4 none : Cond) ∈ uT := uni_mem (List.mem_of_getElem? (i := 1322) (by decide +kernel)) rfl
theorem tw_1323 : (Cond.methodLink "LineGuardModel" 347 ⟨"LineGuardModel", "mac3", "([BI)V"⟩ : Cond) ∈ uT := uni_mem (List.mem_of_getElem? (i := 1323) (by decide +kernel)) rfl
theorem tw_1325 : (Cond.instanceMethod ⟨"LineGuardModel", "mac3", "([BI)V"⟩ : Cond) ∈ uT := uni_mem (List.mem_of_getElem? (i := 1325) (by decide +kernel)) rfl
theorem tw_1326 : (Cond.code ⟨"LineGuardModel", "mac3", "([BI)V"⟩ prog_12_method_15_code 5 none : Cond) ∈ uT := uni_mem (List.mem_of_getElem? (i := 1326) (by decide +kernel)) rfl
theorem tw_1327 : (Cond.methodLink "LineGuardModel" 340 ⟨"LineGuardModel", "kdf", "([BIIIII[BI)V"⟩ : Cond) ∈ uT := uni_mem (List.mem_of_getElem? (i := 1327) (by decide +kernel)) rfl
theorem tw_1329 : (Cond.instanceMethod ⟨"LineGuardModel", "kdf", "([BIIIII[BI)V"⟩ : Cond) ∈ uT := uni_mem (List.mem_of_getElem? (i := 1329) (by decide +kernel)) rfl
theorem tw_1330 : (Cond.code ⟨"LineGuardModel", "kdf", "([BIIIII[BI)V"⟩ prog_12_method_19_code 11 none : Cond) ∈ uT := uni_mem (List.mem_of_getElem? (i := 1330) (by decide +kernel)) rfl
theorem tw_1331 : (Cond.methodLink "LineGuardModel" 124 ⟨"LineGuardModel", "cmac", "([BII)V"⟩ : Cond) ∈ uT := uni_mem (List.mem_of_getElem? (i := 1331) (by decide +kernel)) rfl
theorem tw_1333 : (Cond.instanceMethod ⟨"LineGuardModel", "cmac", "([BII)V"⟩ : Cond) ∈ uT := uni_mem (List.mem_of_getElem? (i := 1333) (by decide +kernel)) rfl
theorem tw_1334 : (Cond.code ⟨"LineGuardModel", "cmac", "([BII)V"⟩ prog_12_method_18_code 7 none : Cond) ∈ uT := uni_mem (List.mem_of_getElem? (i := 1334) (by decide +kernel)) rfl
theorem tw_1335 : (Cond.methodLink "LineGuardModel" 100 ⟨"LineGuardModel", "aesKey", "([BII)V"⟩ : Cond) ∈ uT := uni_mem (List.mem_of_getElem? (i := 1335) (by decide +kernel)) rfl
theorem tw_1337 : (Cond.instanceMethod ⟨"LineGuardModel", "aesKey", "([BII)V"⟩ : Cond) ∈ uT := uni_mem (List.mem_of_getElem? (i := 1337) (by decide +kernel)) rfl
theorem tw_1338 : (Cond.code ⟨"LineGuardModel", "aesKey", "([BII)V"⟩ prog_12_method_7_code 9 none : Cond) ∈ uT := uni_mem (List.mem_of_getElem? (i := 1338) (by decide +kernel)) rfl
theorem tw_1339 : (Cond.methodLink "LineGuardModel" 106 ⟨"LineGuardModel", "aes", "([BIZ)V"⟩ : Cond) ∈ uT := uni_mem (List.mem_of_getElem? (i := 1339) (by decide +kernel)) rfl
theorem tw_1341 : (Cond.instanceMethod ⟨"LineGuardModel", "aes", "([BIZ)V"⟩ : Cond) ∈ uT := uni_mem (List.mem_of_getElem? (i := 1341) (by decide +kernel)) rfl
theorem tw_1342 : (Cond.code ⟨"LineGuardModel", "aes", "([BIZ)V"⟩ prog_12_method_9_code 6 none : Cond) ∈ uT := uni_mem (List.mem_of_getElem? (i := 1342) (by decide +kernel)) rfl
theorem tw_1343 : (Cond.methodLink "LineGuardModel" 70 ⟨"LineGuardModel", "addKey", "([BII)V"⟩ : Cond) ∈ uT := uni_mem (List.mem_of_getElem? (i := 1343) (by decide +kernel)) rfl
theorem tw_1345 : (Cond.instanceMethod ⟨"LineGuardModel", "addKey", "([BII)V"⟩ : Cond) ∈ uT := uni_mem (List.mem_of_getElem? (i := 1345) (by decide +kernel)) rfl
theorem tw_1346 : (Cond.code ⟨"LineGuardModel", "addKey", "([BII)V"⟩ prog_12_method_8_code 5 none : Cond) ∈ uT := uni_mem (List.mem_of_getElem? (i := 1346) (by decide +kernel)) rfl
theorem tw_1347 : (Cond.methodLink "LineGuardModel" 77 ⟨"LineGuardModel", "mixColumns", "([BIIIII)V"⟩ : Cond) ∈ uT := uni_mem (List.mem_of_getElem? (i := 1347) (by decide +kernel)) rfl
theorem tw_1349 : (Cond.instanceMethod ⟨"LineGuardModel", "mixColumns", "([BIIIII)V"⟩ : Cond) ∈ uT := uni_mem (List.mem_of_getElem? (i := 1349) (by decide +kernel)) rfl
theorem tw_1350 : (Cond.code ⟨"LineGuardModel", "mixColumns", "([BIIIII)V"⟩ prog_12_method_10_code 10 none : Cond) ∈ uT := uni_mem (List.mem_of_getElem? (i := 1350) (by decide +kernel)) rfl
theorem tw_1351 : (Cond.methodLink "LineGuardModel" 110 ⟨"LineGuardModel", "shift", "([B)V"⟩ : Cond) ∈ uT := uni_mem (List.mem_of_getElem? (i := 1351) (by decide +kernel)) rfl
theorem tw_1352 : (Cond.static ⟨"LineGuardModel", "shift", "([B)V"⟩ : Cond) ∈ uT := uni_mem (List.mem_of_getElem? (i := 1352) (by decide +kernel)) rfl
theorem tw_1353 : (Cond.code ⟨"LineGuardModel", "shift", "([B)V"⟩ prog_12_method_17_code 3 none : Cond) ∈ uT := uni_mem (List.mem_of_getElem? (i := 1353) (by decide +kernel)) rfl
theorem tw_1354 : (Cond.methodLink "LineGuardModel" 344 ⟨"LineGuardModel", "aboutHost", "(I)V"⟩ : Cond) ∈ uT := uni_mem (List.mem_of_getElem? (i := 1354) (by decide +kernel)) rfl
theorem tw_1356 : (Cond.instanceMethod ⟨"LineGuardModel", "aboutHost", "(I)V"⟩ : Cond) ∈ uT := uni_mem (List.mem_of_getElem? (i := 1356) (by decide +kernel)) rfl
theorem tw_1357 : (Cond.code ⟨"LineGuardModel", "aboutHost", "(I)V"⟩ prog_12_method_36_code 3 none : Cond) ∈ uT := uni_mem (List.mem_of_getElem? (i := 1357) (by decide +kernel)) rfl
theorem tw_1358 : (Cond.methodLink "LineGuardLaw" 67 ⟨"LineGuardModel", "prove", "(I)I"⟩ : Cond) ∈ uT := uni_mem (List.mem_of_getElem? (i := 1358) (by decide +kernel)) rfl
theorem tw_1359 : (Cond.instanceMethod ⟨"LineGuardModel", "prove", "(I)I"⟩ : Cond) ∈ uT := uni_mem (List.mem_of_getElem? (i := 1359) (by decide +kernel)) rfl
theorem tw_1360 : (Cond.selects "LineGuardModel" ⟨"LineGuardModel", "prove", "(I)I"⟩ ⟨"LineGuardModel", "prove", "(I)I"⟩ : Cond) ∈ uT := uni_mem (List.mem_of_getElem? (i := 1360) (by decide +kernel)) rfl
theorem tw_1361 : (Cond.code ⟨"LineGuardModel", "prove", "(I)I"⟩ prog_12_method_45_code 3 (some .int) : Cond) ∈ uT := uni_mem (List.mem_of_getElem? (i := 1361) (by decide +kernel)) rfl
theorem tw_1362 : (Cond.methodLink "LineGuardModel" 356 ⟨"LineGuardModel", "isLevel", "(II)Z"⟩ : Cond) ∈ uT := uni_mem (List.mem_of_getElem? (i := 1362) (by decide +kernel)) rfl
theorem tw_1363 : (Cond.static ⟨"LineGuardModel", "isLevel", "(II)Z"⟩ : Cond) ∈ uT := uni_mem (List.mem_of_getElem? (i := 1363) (by decide +kernel)) rfl
theorem tw_1364 : (Cond.code ⟨"LineGuardModel", "isLevel", "(II)Z"⟩ prog_12_method_41_code 2 (some .boolean) : Cond) ∈ uT := uni_mem (List.mem_of_getElem? (i := 1364) (by decide +kernel)) rfl
theorem tw_1365 : (Cond.methodLink "LineGuardModel" 360 ⟨"LineGuardModel", "commandMac", "(I[BI[BIIZ)V"⟩ : Cond) ∈ uT := uni_mem (List.mem_of_getElem? (i := 1365) (by decide +kernel)) rfl
theorem tw_1367 : (Cond.instanceMethod ⟨"LineGuardModel", "commandMac", "(I[BI[BIIZ)V"⟩ : Cond) ∈ uT := uni_mem (List.mem_of_getElem? (i := 1367) (by decide +kernel)) rfl
theorem tw_1368 : (Cond.code ⟨"LineGuardModel", "commandMac", "(I[BI[BIIZ)V"⟩ prog_12_method_43_code 11 none : Cond) ∈ uT := uni_mem (List.mem_of_getElem? (i := 1368) (by decide +kernel)) rfl
theorem tw_1369 : (Cond.methodLink "LineGuardModel" 353 ⟨"LineGuardModel", "addLength", "(I)V"⟩ : Cond) ∈ uT := uni_mem (List.mem_of_getElem? (i := 1369) (by decide +kernel)) rfl
theorem tw_1371 : (Cond.instanceMethod ⟨"LineGuardModel", "addLength", "(I)V"⟩ : Cond) ∈ uT := uni_mem (List.mem_of_getElem? (i := 1371) (by decide +kernel)) rfl
theorem tw_1372 : (Cond.code ⟨"LineGuardModel", "addLength", "(I)V"⟩ prog_12_method_42_code 2 none : Cond) ∈ uT := uni_mem (List.mem_of_getElem? (i := 1372) (by decide +kernel)) rfl
theorem tw_1373 : (Cond.methodLink "LineGuardModel" 364 ⟨"LineGuardModel", "opens", "(II)V"⟩ : Cond) ∈ uT := uni_mem (List.mem_of_getElem? (i := 1373) (by decide +kernel)) rfl
theorem tw_1375 : (Cond.instanceMethod ⟨"LineGuardModel", "opens", "(II)V"⟩ : Cond) ∈ uT := uni_mem (List.mem_of_getElem? (i := 1375) (by decide +kernel)) rfl
theorem tw_1376 : (Cond.code ⟨"LineGuardModel", "opens", "(II)V"⟩ prog_12_method_44_code 4 none : Cond) ∈ uT := uni_mem (List.mem_of_getElem? (i := 1376) (by decide +kernel)) rfl
theorem tw_1377 : (Cond.methodLink "LineGuardLaw" 71 ⟨"LineGuardModel", "send", "()I"⟩ : Cond) ∈ uT := uni_mem (List.mem_of_getElem? (i := 1377) (by decide +kernel)) rfl
theorem tw_1378 : (Cond.instanceMethod ⟨"LineGuardModel", "send", "()I"⟩ : Cond) ∈ uT := uni_mem (List.mem_of_getElem? (i := 1378) (by decide +kernel)) rfl
theorem tw_1379 : (Cond.selects "LineGuardModel" ⟨"LineGuardModel", "send", "()I"⟩ ⟨"LineGuardModel", "send", "()I"⟩ : Cond) ∈ uT := uni_mem (List.mem_of_getElem? (i := 1379) (by decide +kernel)) rfl
theorem tw_1380 : (Cond.code ⟨"LineGuardModel", "send", "()I"⟩ prog_12_method_52_code 5 (some .int) : Cond) ∈ uT := uni_mem (List.mem_of_getElem? (i := 1380) (by decide +kernel)) rfl
theorem tw_1381 : (Cond.methodLink "LineGuardModel" 377 ⟨"LineGuardModel", "keepCommand", "(I[BI)V"⟩ : Cond) ∈ uT := uni_mem (List.mem_of_getElem? (i := 1381) (by decide +kernel)) rfl
theorem tw_1383 : (Cond.instanceMethod ⟨"LineGuardModel", "keepCommand", "(I[BI)V"⟩ : Cond) ∈ uT := uni_mem (List.mem_of_getElem? (i := 1383) (by decide +kernel)) rfl
theorem tw_1384 : (Cond.code ⟨"LineGuardModel", "keepCommand", "(I[BI)V"⟩ prog_12_method_51_code 5 none : Cond) ∈ uT := uni_mem (List.mem_of_getElem? (i := 1384) (by decide +kernel)) rfl
theorem tw_1385 : (Cond.methodLink "LineGuardModel" 381 ⟨"LineGuardModel", "hide", "(IIZ)I"⟩ : Cond) ∈ uT := uni_mem (List.mem_of_getElem? (i := 1385) (by decide +kernel)) rfl
theorem tw_1387 : (Cond.instanceMethod ⟨"LineGuardModel", "hide", "(IIZ)I"⟩ : Cond) ∈ uT := uni_mem (List.mem_of_getElem? (i := 1387) (by decide +kernel)) rfl
theorem tw_1388 : (Cond.code ⟨"LineGuardModel", "hide", "(IIZ)I"⟩ prog_12_method_49_code 8 (some .int) : Cond) ∈ uT := uni_mem (List.mem_of_getElem? (i := 1388) (by decide +kernel)) rfl
theorem tw_1389 : (Cond.methodLink "LineGuardModel" 368 ⟨"LineGuardModel", "blockOf", "(I)I"⟩ : Cond) ∈ uT := uni_mem (List.mem_of_getElem? (i := 1389) (by decide +kernel)) rfl
theorem tw_1391 : (Cond.instanceMethod ⟨"LineGuardModel", "blockOf", "(I)I"⟩ : Cond) ∈ uT := uni_mem (List.mem_of_getElem? (i := 1391) (by decide +kernel)) rfl
theorem tw_1392 : (Cond.code ⟨"LineGuardModel", "blockOf", "(I)I"⟩ prog_12_method_46_code 2 (some .int) : Cond) ∈ uT := uni_mem (List.mem_of_getElem? (i := 1392) (by decide +kernel)) rfl
theorem tw_1393 : (Cond.methodLink "LineGuardModel" 371 ⟨"LineGuardModel", "first", "(IZ)V"⟩ : Cond) ∈ uT := uni_mem (List.mem_of_getElem? (i := 1393) (by decide +kernel)) rfl
theorem tw_1395 : (Cond.instanceMethod ⟨"LineGuardModel", "first", "(IZ)V"⟩ : Cond) ∈ uT := uni_mem (List.mem_of_getElem? (i := 1395) (by decide +kernel)) rfl
theorem tw_1396 : (Cond.code ⟨"LineGuardModel", "first", "(IZ)V"⟩ prog_12_method_47_code 5 none : Cond) ∈ uT := uni_mem (List.mem_of_getElem? (i := 1396) (by decide +kernel)) rfl
theorem tw_1397 : (Cond.methodLink "LineGuardModel" 373 ⟨"LineGuardModel", "one", "(I[BIZ)V"⟩ : Cond) ∈ uT := uni_mem (List.mem_of_getElem? (i := 1397) (by decide +kernel)) rfl
theorem tw_1399 : (Cond.instanceMethod ⟨"LineGuardModel", "one", "(I[BIZ)V"⟩ : Cond) ∈ uT := uni_mem (List.mem_of_getElem? (i := 1399) (by decide +kernel)) rfl
theorem tw_1400 : (Cond.code ⟨"LineGuardModel", "one", "(I[BIZ)V"⟩ prog_12_method_48_code 5 none : Cond) ∈ uT := uni_mem (List.mem_of_getElem? (i := 1400) (by decide +kernel)) rfl
theorem tw_1401 : (Cond.methodLink "LineGuardLaw" 75 ⟨"LineGuardModel", "take", "()I"⟩ : Cond) ∈ uT := uni_mem (List.mem_of_getElem? (i := 1401) (by decide +kernel)) rfl
theorem tw_1402 : (Cond.instanceMethod ⟨"LineGuardModel", "take", "()I"⟩ : Cond) ∈ uT := uni_mem (List.mem_of_getElem? (i := 1402) (by decide +kernel)) rfl
theorem tw_1403 : (Cond.selects "LineGuardModel" ⟨"LineGuardModel", "take", "()I"⟩ ⟨"LineGuardModel", "take", "()I"⟩ : Cond) ∈ uT := uni_mem (List.mem_of_getElem? (i := 1403) (by decide +kernel)) rfl
theorem tw_1404 : (Cond.code ⟨"LineGuardModel", "take", "()I"⟩ prog_12_method_56_code 4 (some .int) : Cond) ∈ uT := uni_mem (List.mem_of_getElem? (i := 1404) (by decide +kernel)) rfl
theorem tw_1405 : (Cond.methodLink "LineGuardModel" 391 ⟨"LineGuardModel", "proven", "(I)Z"⟩ : Cond) ∈ uT := uni_mem (List.mem_of_getElem? (i := 1405) (by decide +kernel)) rfl
theorem tw_1407 : (Cond.instanceMethod ⟨"LineGuardModel", "proven", "(I)Z"⟩ : Cond) ∈ uT := uni_mem (List.mem_of_getElem? (i := 1407) (by decide +kernel)) rfl
theorem tw_1408 : (Cond.code ⟨"LineGuardModel", "proven", "(I)Z"⟩ prog_12_method_54_code 5 (some .boolean) : Cond) ∈ uT := uni_mem (List.mem_of_getElem? (i := 1408) (by decide +kernel)) rfl
theorem tw_1409 : (Cond.methodLink "LineGuardModel" 385 ⟨"LineGuardModel", "isCode", "(I)Z"⟩ : Cond) ∈ uT := uni_mem (List.mem_of_getElem? (i := 1409) (by decide +kernel)) rfl
theorem tw_1411 : (Cond.instanceMethod ⟨"LineGuardModel", "isCode", "(I)Z"⟩ : Cond) ∈ uT := uni_mem (List.mem_of_getElem? (i := 1411) (by decide +kernel)) rfl
theorem tw_1412 : (Cond.code ⟨"LineGuardModel", "isCode", "(I)Z"⟩ prog_12_method_53_code 4 (some .boolean) : Cond) ∈ uT := uni_mem (List.mem_of_getElem? (i := 1412) (by decide +kernel)) rfl
theorem tw_1413 : (Cond.constant "LineGuardModel" 394 (36864) : Cond) ∈ uT := uni_mem (List.mem_of_getElem? (i := 1413) (by decide +kernel)) rfl
theorem tw_1414 : (Cond.methodLink "LineGuardModel" 395 ⟨"LineGuardModel", "opened", "(I)I"⟩ : Cond) ∈ uT := uni_mem (List.mem_of_getElem? (i := 1414) (by decide +kernel)) rfl
theorem tw_1416 : (Cond.instanceMethod ⟨"LineGuardModel", "opened", "(I)I"⟩ : Cond) ∈ uT := uni_mem (List.mem_of_getElem? (i := 1416) (by decide +kernel)) rfl
theorem tw_1417 : (Cond.code ⟨"LineGuardModel", "opened", "(I)I"⟩ prog_12_method_55_code 5 (some .int) : Cond) ∈ uT := uni_mem (List.mem_of_getElem? (i := 1417) (by decide +kernel)) rfl
theorem tw_1418 : (Cond.methodLink "LineGuardModel" 388 ⟨"LineGuardModel", "plain", "(IIZ)I"⟩ : Cond) ∈ uT := uni_mem (List.mem_of_getElem? (i := 1418) (by decide +kernel)) rfl
theorem tw_1420 : (Cond.instanceMethod ⟨"LineGuardModel", "plain", "(IIZ)I"⟩ : Cond) ∈ uT := uni_mem (List.mem_of_getElem? (i := 1420) (by decide +kernel)) rfl
theorem tw_1421 : (Cond.code ⟨"LineGuardModel", "plain", "(IIZ)I"⟩ prog_12_method_50_code 7 (some .int) : Cond) ∈ uT := uni_mem (List.mem_of_getElem? (i := 1421) (by decide +kernel)) rfl
theorem tw_1422 : (Cond.methodLink "LineGuardLaw" 79 ⟨"LineGuardModel", "answer", "(I)I"⟩ : Cond) ∈ uT := uni_mem (List.mem_of_getElem? (i := 1422) (by decide +kernel)) rfl
theorem tw_1423 : (Cond.instanceMethod ⟨"LineGuardModel", "answer", "(I)I"⟩ : Cond) ∈ uT := uni_mem (List.mem_of_getElem? (i := 1423) (by decide +kernel)) rfl
theorem tw_1424 : (Cond.selects "LineGuardModel" ⟨"LineGuardModel", "answer", "(I)I"⟩ ⟨"LineGuardModel", "answer", "(I)I"⟩ : Cond) ∈ uT := uni_mem (List.mem_of_getElem? (i := 1424) (by decide +kernel)) rfl
theorem tw_1425 : (Cond.code ⟨"LineGuardModel", "answer", "(I)I"⟩ prog_12_method_59_code 4 (some .int) : Cond) ∈ uT := uni_mem (List.mem_of_getElem? (i := 1425) (by decide +kernel)) rfl
theorem tw_1426 : (Cond.methodLink "LineGuardModel" 398 ⟨"LineGuardModel", "answers", "(I)Z"⟩ : Cond) ∈ uT := uni_mem (List.mem_of_getElem? (i := 1426) (by decide +kernel)) rfl
theorem tw_1428 : (Cond.instanceMethod ⟨"LineGuardModel", "answers", "(I)Z"⟩ : Cond) ∈ uT := uni_mem (List.mem_of_getElem? (i := 1428) (by decide +kernel)) rfl
theorem tw_1429 : (Cond.code ⟨"LineGuardModel", "answers", "(I)Z"⟩ prog_12_method_58_code 2 (some .boolean) : Cond) ∈ uT := uni_mem (List.mem_of_getElem? (i := 1429) (by decide +kernel)) rfl
theorem tw_1430 : (Cond.constant "LineGuardModel" 401 (65535) : Cond) ∈ uT := uni_mem (List.mem_of_getElem? (i := 1430) (by decide +kernel)) rfl
theorem tw_1431 : (Cond.methodLink "LineGuardModel" 402 ⟨"LineGuardModel", "answerMac", "(I[BII)V"⟩ : Cond) ∈ uT := uni_mem (List.mem_of_getElem? (i := 1431) (by decide +kernel)) rfl
theorem tw_1433 : (Cond.instanceMethod ⟨"LineGuardModel", "answerMac", "(I[BII)V"⟩ : Cond) ∈ uT := uni_mem (List.mem_of_getElem? (i := 1433) (by decide +kernel)) rfl
theorem tw_1434 : (Cond.code ⟨"LineGuardModel", "answerMac", "(I[BII)V"⟩ prog_12_method_57_code 8 none : Cond) ∈ uT := uni_mem (List.mem_of_getElem? (i := 1434) (by decide +kernel)) rfl
theorem tw_1435 : (Cond.methodLink "LineGuardLaw" 83 ⟨"LineGuardModel", "accept", "(I)I"⟩ : Cond) ∈ uT := uni_mem (List.mem_of_getElem? (i := 1435) (by decide +kernel)) rfl
theorem tw_1436 : (Cond.instanceMethod ⟨"LineGuardModel", "accept", "(I)I"⟩ : Cond) ∈ uT := uni_mem (List.mem_of_getElem? (i := 1436) (by decide +kernel)) rfl
theorem tw_1437 : (Cond.selects "LineGuardModel" ⟨"LineGuardModel", "accept", "(I)I"⟩ ⟨"LineGuardModel", "accept", "(I)I"⟩ : Cond) ∈ uT := uni_mem (List.mem_of_getElem? (i := 1437) (by decide +kernel)) rfl
theorem tw_1438 : (Cond.code ⟨"LineGuardModel", "accept", "(I)I"⟩ prog_12_method_60_code 6 (some .int) : Cond) ∈ uT := uni_mem (List.mem_of_getElem? (i := 1438) (by decide +kernel)) rfl
theorem tw_1439 : (Cond.methodLink "LineGuardLaw" 88 ⟨"LineGuardModel", "seal", "(IZ)I"⟩ : Cond) ∈ uT := uni_mem (List.mem_of_getElem? (i := 1439) (by decide +kernel)) rfl
theorem tw_1440 : (Cond.instanceMethod ⟨"LineGuardModel", "seal", "(IZ)I"⟩ : Cond) ∈ uT := uni_mem (List.mem_of_getElem? (i := 1440) (by decide +kernel)) rfl
theorem tw_1441 : (Cond.selects "LineGuardModel" ⟨"LineGuardModel", "seal", "(IZ)I"⟩ ⟨"LineGuardModel", "seal", "(IZ)I"⟩ : Cond) ∈ uT := uni_mem (List.mem_of_getElem? (i := 1441) (by decide +kernel)) rfl
theorem tw_1442 : (Cond.code ⟨"LineGuardModel", "seal", "(IZ)I"⟩ prog_12_method_61_code 8 (some .int) : Cond) ∈ uT := uni_mem (List.mem_of_getElem? (i := 1442) (by decide +kernel)) rfl
theorem tw_1443 : (Cond.methodLink "LineGuardLaw" 93 ⟨"LineGuardModel", "secret", "(III)I"⟩ : Cond) ∈ uT := uni_mem (List.mem_of_getElem? (i := 1443) (by decide +kernel)) rfl
theorem tw_1444 : (Cond.instanceMethod ⟨"LineGuardModel", "secret", "(III)I"⟩ : Cond) ∈ uT := uni_mem (List.mem_of_getElem? (i := 1444) (by decide +kernel)) rfl
theorem tw_1445 : (Cond.selects "LineGuardModel" ⟨"LineGuardModel", "secret", "(III)I"⟩ ⟨"LineGuardModel", "secret", "(III)I"⟩ : Cond) ∈ uT := uni_mem (List.mem_of_getElem? (i := 1445) (by decide +kernel)) rfl
theorem tw_1446 : (Cond.code ⟨"LineGuardModel", "secret", "(III)I"⟩ prog_12_method_62_code 5 (some .int) : Cond) ∈ uT := uni_mem (List.mem_of_getElem? (i := 1446) (by decide +kernel)) rfl
theorem tw_1447 : (Cond.methodLink "LineGuardModel" 406 ⟨"LineGuardModel", "wide", "(I)I"⟩ : Cond) ∈ uT := uni_mem (List.mem_of_getElem? (i := 1447) (by decide +kernel)) rfl
theorem tw_1449 : (Cond.instanceMethod ⟨"LineGuardModel", "wide", "(I)I"⟩ : Cond) ∈ uT := uni_mem (List.mem_of_getElem? (i := 1449) (by decide +kernel)) rfl
theorem tw_1450 : (Cond.code ⟨"LineGuardModel", "wide", "(I)I"⟩ prog_12_method_37_code 2 (some .int) : Cond) ∈ uT := uni_mem (List.mem_of_getElem? (i := 1450) (by decide +kernel)) rfl
theorem tw_1451 : (Cond.methodLink "LineGuardLaw" 97 ⟨"LineGuardModel", "about", "(II)I"⟩ : Cond) ∈ uT := uni_mem (List.mem_of_getElem? (i := 1451) (by decide +kernel)) rfl
theorem tw_1452 : (Cond.instanceMethod ⟨"LineGuardModel", "about", "(II)I"⟩ : Cond) ∈ uT := uni_mem (List.mem_of_getElem? (i := 1452) (by decide +kernel)) rfl
theorem tw_1453 : (Cond.selects "LineGuardModel" ⟨"LineGuardModel", "about", "(II)I"⟩ ⟨"LineGuardModel", "about", "(II)I"⟩ : Cond) ∈ uT := uni_mem (List.mem_of_getElem? (i := 1453) (by decide +kernel)) rfl
theorem tw_1454 : (Cond.code ⟨"LineGuardModel", "about", "(II)I"⟩ prog_12_method_63_code 3 (some .int) : Cond) ∈ uT := uni_mem (List.mem_of_getElem? (i := 1454) (by decide +kernel)) rfl
theorem tw_1455 : (Cond.constantLong "LineGuardLaw" 57 (4294967295) : Cond) ∈ uT := uni_mem (List.mem_of_getElem? (i := 1455) (by decide +kernel)) rfl
theorem tw_1456 : (Cond.sameMethod "LineGuard$Rule" "LineGuard$Rule" "isBlocks" "(I)Z" : Cond) ∈ uT := uni_mem (List.mem_of_getElem? (i := 1456) (by decide +kernel)) rfl
theorem tw_1457 : (Cond.selects "LineGuard$NewerRule" ⟨"LineGuard$Rule", "isBlocks", "(I)Z"⟩ ⟨"LineGuard$Rule", "isBlocks", "(I)Z"⟩ : Cond) ∈ uT := uni_mem (List.mem_of_getElem? (i := 1457) (by decide +kernel)) rfl
theorem tw_1458 : (Cond.selects "LineGuard$OlderRule" ⟨"LineGuard$Rule", "isBlocks", "(I)Z"⟩ ⟨"LineGuard$Rule", "isBlocks", "(I)Z"⟩ : Cond) ∈ uT := uni_mem (List.mem_of_getElem? (i := 1458) (by decide +kernel)) rfl
