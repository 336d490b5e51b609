theorem tw_403 : (Cond.instanceMethod ⟨"LineGuard$Row", "shorten", "(I)Z"⟩ : Cond) ∈ uT := uni_mem (tt2 (List.mem_of_getElem? (i := 99) (by decide +kernel))) rfl
theorem tw_404 : (Cond.selects "LineGuard$Row" ⟨"LineGuard$Row", "shorten", "(I)Z"⟩ ⟨"LineGuard$Row", "shorten", "(I)Z"⟩ : Cond) ∈ uT := uni_mem (tt2 (List.mem_of_getElem? (i := 100) (by decide +kernel))) rfl
theorem tw_405 : (Cond.code ⟨"LineGuard$Row", "shorten", "(I)Z"⟩ prog_8_method_6_code 2 (some .boolean) : Cond) ∈ uT := uni_mem (tt2 (List.mem_of_getElem? (i := 101) rfl)) rfl
theorem tw_406 : (Cond.methodLink "LineGuardLaw" 23 ⟨"LineGuard", "out", "(I)I"⟩ : Cond) ∈ uT := uni_mem (tt2 (List.mem_of_getElem? (i := 102) (by decide +kernel))) rfl
theorem tw_407 : (Cond.instanceMethod ⟨"LineGuard", "out", "(I)I"⟩ : Cond) ∈ uT := uni_mem (tt2 (List.mem_of_getElem? (i := 103) (by decide +kernel))) rfl
theorem tw_408 : (Cond.selects "LineGuard" ⟨"LineGuard", "out", "(I)I"⟩ ⟨"LineGuard", "out", "(I)I"⟩ : Cond) ∈ uT := uni_mem (tt2 (List.mem_of_getElem? (i := 104) (by decide +kernel))) rfl
theorem tw_409 : (Cond.code ⟨"LineGuard", "out", "(I)I"⟩ prog_1_method_4_code 2 (some .int) : Cond) ∈ uT := uni_mem (tt2 (List.mem_of_getElem? (i := 105) rfl)) rfl
theorem tw_410 : (Cond.methodLink "LineGuard" 76 ⟨"LineGuard$Row", "at", "(I)I"⟩ : Cond) ∈ uT := uni_mem (tt2 (List.mem_of_getElem? (i := 106) (by decide +kernel))) rfl
theorem tw_411 : (Cond.instanceMethod ⟨"LineGuard$Row", "at", "(I)I"⟩ : Cond) ∈ uT := uni_mem (tt2 (List.mem_of_getElem? (i := 107) (by decide +kernel))) rfl
theorem tw_412 : (Cond.selects "LineGuard$Row" ⟨"LineGuard$Row", "at", "(I)I"⟩ ⟨"LineGuard$Row", "at", "(I)I"⟩ : Cond) ∈ uT := uni_mem (tt2 (List.mem_of_getElem? (i := 108) (by decide +kernel))) rfl
theorem tw_413 : (Cond.code ⟨"LineGuard$Row", "at", "(I)I"⟩ prog_8_method_3_code 2 (some .int) : Cond) ∈ uT := uni_mem (tt2 (List.mem_of_getElem? (i := 109) rfl)) rfl
theorem tw_414 : (Cond.methodLink "LineGuardLaw" 27 ⟨"LineGuard", "line", "(I)I"⟩ : Cond) ∈ uT := uni_mem (tt2 (List.mem_of_getElem? (i := 110) (by decide +kernel))) rfl
theorem tw_415 : (Cond.instanceMethod ⟨"LineGuard", "line", "(I)I"⟩ : Cond) ∈ uT := uni_mem (tt2 (List.mem_of_getElem? (i := 111) (by decide +kernel))) rfl
theorem tw_416 : (Cond.selects "LineGuard" ⟨"LineGuard", "line", "(I)I"⟩ ⟨"LineGuard", "line", "(I)I"⟩ : Cond) ∈ uT := uni_mem (tt2 (List.mem_of_getElem? (i := 112) (by decide +kernel))) rfl
theorem tw_417 : (Cond.code ⟨"LineGuard", "line", "(I)I"⟩ prog_1_method_5_code 2 (some .int) : Cond) ∈ uT := uni_mem (tt2 (List.mem_of_getElem? (i := 113) rfl)) rfl
theorem tw_418 : (Cond.methodLink "LineGuardLaw" 31 ⟨"LineGuard", "alter", "(II)I"⟩ : Cond) ∈ uT := uni_mem (tt2 (List.mem_of_getElem? (i := 114) (by decide +kernel))) rfl
theorem tw_419 : (Cond.instanceMethod ⟨"LineGuard", "alter", "(II)I"⟩ : Cond) ∈ uT := uni_mem (tt2 (List.mem_of_getElem? (i := 115) (by decide +kernel))) rfl
theorem tw_420 : (Cond.selects "LineGuard" ⟨"LineGuard", "alter", "(II)I"⟩ ⟨"LineGuard", "alter", "(II)I"⟩ : Cond) ∈ uT := uni_mem (tt2 (List.mem_of_getElem? (i := 116) (by decide +kernel))) rfl
theorem tw_421 : (Cond.code ⟨"LineGuard", "alter", "(II)I"⟩ prog_1_method_6_code 3 (some .int) : Cond) ∈ uT := uni_mem (tt2 (List.mem_of_getElem? (i := 117) rfl)) rfl
theorem tw_422 : (Cond.methodLink "LineGuard" 80 ⟨"LineGuard$Row", "put", "(II)V"⟩ : Cond) ∈ uT := uni_mem (tt2 (List.mem_of_getElem? (i := 118) (by decide +kernel))) rfl
theorem tw_423 : (Cond.instanceMethod ⟨"LineGuard$Row", "put", "(II)V"⟩ : Cond) ∈ uT := uni_mem (tt2 (List.mem_of_getElem? (i := 119) (by decide +kernel))) rfl
theorem tw_424 : (Cond.selects "LineGuard$Row" ⟨"LineGuard$Row", "put", "(II)V"⟩ ⟨"LineGuard$Row", "put", "(II)V"⟩ : Cond) ∈ uT := uni_mem (tt2 (List.mem_of_getElem? (i := 120) (by decide +kernel))) rfl
theorem tw_425 : (Cond.code ⟨"LineGuard$Row", "put", "(II)V"⟩ prog_8_method_4_code 3 none : Cond) ∈ uT := uni_mem (tt2 (List.mem_of_getElem? (i := 121) rfl)) rfl
theorem tw_426 : (Cond.methodLink "LineGuardLaw" 36 ⟨"LineGuard", "cut", "(I)I"⟩ : Cond) ∈ uT := uni_mem (tt2 (List.mem_of_getElem? (i := 122) (by decide +kernel))) rfl
theorem tw_427 : (Cond.instanceMethod ⟨"LineGuard", "cut", "(I)I"⟩ : Cond) ∈ uT := uni_mem (tt2 (List.mem_of_getElem? (i := 123) (by decide +kernel))) rfl
theorem tw_428 : (Cond.selects "LineGuard" ⟨"LineGuard", "cut", "(I)I"⟩ ⟨"LineGuard", "cut", "(I)I"⟩ : Cond) ∈ uT := uni_mem (tt2 (List.mem_of_getElem? (i := 124) (by decide +kernel))) rfl
theorem tw_429 : (Cond.code ⟨"LineGuard", "cut", "(I)I"⟩ prog_1_method_7_code 2 (some .int) : Cond) ∈ uT := uni_mem (tt2 (List.mem_of_getElem? (i := 125) rfl)) rfl
theorem tw_430 : (Cond.methodLink "LineGuardLaw" 40 ⟨"LineGuard", "slip", "()I"⟩ : Cond) ∈ uT := uni_mem (tt2 (List.mem_of_getElem? (i := 126) (by decide +kernel))) rfl
theorem tw_431 : (Cond.instanceMethod ⟨"LineGuard", "slip", "()I"⟩ : Cond) ∈ uT := uni_mem (tt2 (List.mem_of_getElem? (i := 127) (by decide +kernel))) rfl
theorem tw_432 : (Cond.selects "LineGuard" ⟨"LineGuard", "slip", "()I"⟩ ⟨"LineGuard", "slip", "()I"⟩ : Cond) ∈ uT := uni_mem (tt2 (List.mem_of_getElem? (i := 128) (by decide +kernel))) rfl
theorem tw_433 : (Cond.code ⟨"LineGuard", "slip", "()I"⟩ prog_1_method_8_code 2 (some .int) : Cond) ∈ uT := uni_mem (tt2 (List.mem_of_getElem? (i := 129) rfl)) rfl
theorem tw_434 : (Cond.methodLink "LineGuard" 84 ⟨"LineGuard$Row", "copy", "(LLineGuard$Row;)V"⟩ : Cond) ∈ uT := uni_mem (tt2 (List.mem_of_getElem? (i := 130) (by decide +kernel))) rfl
theorem tw_435 : (Cond.instanceMethod ⟨"LineGuard$Row", "copy", "(LLineGuard$Row;)V"⟩ : Cond) ∈ uT := uni_mem (tt2 (List.mem_of_getElem? (i := 131) (by decide +kernel))) rfl
theorem tw_436 : (Cond.selects "LineGuard$Row" ⟨"LineGuard$Row", "copy", "(LLineGuard$Row;)V"⟩ ⟨"LineGuard$Row", "copy", "(LLineGuard$Row;)V"⟩ : Cond) ∈ uT := uni_mem (tt2 (List.mem_of_getElem? (i := 132) (by decide +kernel))) rfl
theorem tw_437 : (Cond.code ⟨"LineGuard$Row", "copy", "(LLineGuard$Row;)V"⟩ prog_8_method_12_code 2 none : Cond) ∈ uT := uni_mem (tt2 (List.mem_of_getElem? (i := 133) rfl)) rfl
theorem tw_438 : (Cond.methodLink "LineGuard$Row" 31 ⟨"LineGuard$Row", "clear", "()V"⟩ : Cond) ∈ uT := uni_mem (tt2 (List.mem_of_getElem? (i := 134) (by decide +kernel))) rfl
theorem tw_439 : (Cond.instanceMethod ⟨"LineGuard$Row", "clear", "()V"⟩ : Cond) ∈ uT := uni_mem (tt2 (List.mem_of_getElem? (i := 135) (by decide +kernel))) rfl
theorem tw_440 : (Cond.selects "LineGuard$Row" ⟨"LineGuard$Row", "clear", "()V"⟩ ⟨"LineGuard$Row", "clear", "()V"⟩ : Cond) ∈ uT := uni_mem (tt2 (List.mem_of_getElem? (i := 136) (by decide +kernel))) rfl
theorem tw_441 : (Cond.code ⟨"LineGuard$Row", "clear", "()V"⟩ prog_8_method_5_code 1 none : Cond) ∈ uT := uni_mem (tt2 (List.mem_of_getElem? (i := 137) rfl)) rfl
theorem tw_442 : (Cond.methodLink "LineGuard$Row" 27 ⟨"LineGuard$Row", "addPart", "(LLineGuard$Row;II)V"⟩ : Cond) ∈ uT := uni_mem (tt2 (List.mem_of_getElem? (i := 138) (by decide +kernel))) rfl
theorem tw_443 : (Cond.instanceMethod ⟨"LineGuard$Row", "addPart", "(LLineGuard$Row;II)V"⟩ : Cond) ∈ uT := uni_mem (tt2 (List.mem_of_getElem? (i := 139) (by decide +kernel))) rfl
theorem tw_444 : (Cond.selects "LineGuard$Row" ⟨"LineGuard$Row", "addPart", "(LLineGuard$Row;II)V"⟩ ⟨"LineGuard$Row", "addPart", "(LLineGuard$Row;II)V"⟩ : Cond) ∈ uT := uni_mem (tt2 (List.mem_of_getElem? (i := 140) (by decide +kernel))) rfl
theorem tw_445 : (Cond.code ⟨"LineGuard$Row", "addPart", "(LLineGuard$Row;II)V"⟩ prog_8_method_10_code 5 none : Cond) ∈ uT := uni_mem (tt2 (List.mem_of_getElem? (i := 141) rfl)) rfl
theorem tw_446 : (Cond.methodLink "LineGuard$Row" 23 ⟨"LineGuard$Row", "at", "(I)I"⟩ : Cond) ∈ uT := uni_mem (tt2 (List.mem_of_getElem? (i := 142) (by decide +kernel))) rfl
theorem tw_447 : (Cond.methodLink "LineGuard" 88 ⟨"LineGuard$Row", "clear", "()V"⟩ : Cond) ∈ uT := uni_mem (tt2 (List.mem_of_getElem? (i := 143) (by decide +kernel))) rfl
theorem tw_448 : (Cond.methodLink "LineGuardLaw" 45 ⟨"LineGuard", "keys", "(II)I"⟩ : Cond) ∈ uT := uni_mem (tt2 (List.mem_of_getElem? (i := 144) (by decide +kernel))) rfl
theorem tw_449 : (Cond.instanceMethod ⟨"LineGuard", "keys", "(II)I"⟩ : Cond) ∈ uT := uni_mem (tt2 (List.mem_of_getElem? (i := 145) (by decide +kernel))) rfl
theorem tw_450 : (Cond.selects "LineGuard" ⟨"LineGuard", "keys", "(II)I"⟩ ⟨"LineGuard", "keys", "(II)I"⟩ : Cond) ∈ uT := uni_mem (tt2 (List.mem_of_getElem? (i := 146) (by decide +kernel))) rfl
theorem tw_451 : (Cond.code ⟨"LineGuard", "keys", "(II)I"⟩ prog_1_method_9_code 5 (some .int) : Cond) ∈ uT := uni_mem (tt2 (List.mem_of_getElem? (i := 147) rfl)) rfl
theorem tw_452 : (Cond.methodLink "LineGuard" 91 ⟨"LineGuard", "keysOf", "(I)LLineGuard$Keys;"⟩ : Cond) ∈ uT := uni_mem (tt2 (List.mem_of_getElem? (i := 148) (by decide +kernel))) rfl
theorem tw_454 : (Cond.instanceMethod ⟨"LineGuard", "keysOf", "(I)LLineGuard$Keys;"⟩ : Cond) ∈ uT := uni_mem (tt2 (List.mem_of_getElem? (i := 150) (by decide +kernel))) rfl
theorem tw_455 : (Cond.code ⟨"LineGuard", "keysOf", "(I)LLineGuard$Keys;"⟩ prog_1_method_21_code 2 (Option.some (.object "LineGuard$Keys")) : Cond) ∈ uT := uni_mem (tt2 (List.mem_of_getElem? (i := 151) rfl)) rfl
theorem tw_456 : (Cond.methodLink "LineGuard" 95 ⟨"LineGuard$Keys", "tell", "(ILLineGuard$Row;)Z"⟩ : Cond) ∈ uT := uni_mem (tt2 (List.mem_of_getElem? (i := 152) (by decide +kernel))) rfl
theorem tw_457 : (Cond.instanceMethod ⟨"LineGuard$Keys", "tell", "(ILLineGuard$Row;)Z"⟩ : Cond) ∈ uT := uni_mem (tt2 (List.mem_of_getElem? (i := 153) (by decide +kernel))) rfl
theorem tw_458 : (Cond.selects "LineGuard$Keys" ⟨"LineGuard$Keys", "tell", "(ILLineGuard$Row;)Z"⟩ ⟨"LineGuard$Keys", "tell", "(ILLineGuard$Row;)Z"⟩ : Cond) ∈ uT := uni_mem (tt2 (List.mem_of_getElem? (i := 154) (by decide +kernel))) rfl
theorem tw_459 : (Cond.code ⟨"LineGuard$Keys", "tell", "(ILLineGuard$Row;)Z"⟩ prog_5_method_2_code 5 (some .boolean) : Cond) ∈ uT := uni_mem (tt2 (List.mem_of_getElem? (i := 155) rfl)) rfl
theorem tw_460 : (Cond.methodLink "LineGuard$Keys" 33 ⟨"LineGuard$Row", "size", "()I"⟩ : Cond) ∈ uT := uni_mem (tt2 (List.mem_of_getElem? (i := 156) (by decide +kernel))) rfl
theorem tw_461 : (Cond.methodLink "LineGuard$Keys" 37 ⟨"LineGuard$Row", "copyPart", "(LLineGuard$Row;II)V"⟩ : Cond) ∈ uT := uni_mem (tt2 (List.mem_of_getElem? (i := 157) (by decide +kernel))) rfl
theorem tw_462 : (Cond.instanceMethod ⟨"LineGuard$Row", "copyPart", "(LLineGuard$Row;II)V"⟩ : Cond) ∈ uT := uni_mem (tt2 (List.mem_of_getElem? (i := 158) (by decide +kernel))) rfl
theorem tw_463 : (Cond.selects "LineGuard$Row" ⟨"LineGuard$Row", "copyPart", "(LLineGuard$Row;II)V"⟩ ⟨"LineGuard$Row", "copyPart", "(LLineGuard$Row;II)V"⟩ : Cond) ∈ uT := uni_mem (tt2 (List.mem_of_getElem? (i := 159) (by decide +kernel))) rfl
theorem tw_464 : (Cond.code ⟨"LineGuard$Row", "copyPart", "(LLineGuard$Row;II)V"⟩ prog_8_method_13_code 4 none : Cond) ∈ uT := uni_mem (tt2 (List.mem_of_getElem? (i := 160) rfl)) rfl
theorem tw_465 : (Cond.methodLink "LineGuard" 99 ⟨"LineGuard", "forgetSessions", "()V"⟩ : Cond) ∈ uT := uni_mem (tt2 (List.mem_of_getElem? (i := 161) (by decide +kernel))) rfl
theorem tw_467 : (Cond.instanceMethod ⟨"LineGuard", "forgetSessions", "()V"⟩ : Cond) ∈ uT := uni_mem (tt2 (List.mem_of_getElem? (i := 163) (by decide +kernel))) rfl
theorem tw_468 : (Cond.code ⟨"LineGuard", "forgetSessions", "()V"⟩ prog_1_method_24_code 1 none : Cond) ∈ uT := uni_mem (tt2 (List.mem_of_getElem? (i := 164) rfl)) rfl
theorem tw_469 : (Cond.methodLink "LineGuard" 136 ⟨"LineGuard$Session", "finish", "()V"⟩ : Cond) ∈ uT := uni_mem (tt2 (List.mem_of_getElem? (i := 165) (by decide +kernel))) rfl
theorem tw_470 : (Cond.instanceMethod ⟨"LineGuard$Session", "finish", "()V"⟩ : Cond) ∈ uT := uni_mem (tt2 (List.mem_of_getElem? (i := 166) (by decide +kernel))) rfl
theorem tw_471 : (Cond.selects "LineGuard$Session" ⟨"LineGuard$Session", "finish", "()V"⟩ ⟨"LineGuard$Session", "finish", "()V"⟩ : Cond) ∈ uT := uni_mem (tt2 (List.mem_of_getElem? (i := 167) (by decide +kernel))) rfl
theorem tw_472 : (Cond.code ⟨"LineGuard$Session", "finish", "()V"⟩ prog_10_method_4_code 1 none : Cond) ∈ uT := uni_mem (tt2 (List.mem_of_getElem? (i := 168) rfl)) rfl
theorem tw_473 : (Cond.methodLink "LineGuardLaw" 49 ⟨"LineGuard", "name", "()I"⟩ : Cond) ∈ uT := uni_mem (tt2 (List.mem_of_getElem? (i := 169) (by decide +kernel))) rfl
theorem tw_474 : (Cond.instanceMethod ⟨"LineGuard", "name", "()I"⟩ : Cond) ∈ uT := uni_mem (tt2 (List.mem_of_getElem? (i := 170) (by decide +kernel))) rfl
theorem tw_475 : (Cond.selects "LineGuard" ⟨"LineGuard", "name", "()I"⟩ ⟨"LineGuard", "name", "()I"⟩ : Cond) ∈ uT := uni_mem (tt2 (List.mem_of_getElem? (i := 171) (by decide +kernel))) rfl
theorem tw_476 : (Cond.code ⟨"LineGuard", "name", "()I"⟩ prog_1_method_10_code 3 (some .int) : Cond) ∈ uT := uni_mem (tt2 (List.mem_of_getElem? (i := 172) rfl)) rfl
theorem tw_477 : (Cond.methodLink "LineGuardLaw" 53 ⟨"LineGuard", "counter", "(I)I"⟩ : Cond) ∈ uT := uni_mem (tt2 (List.mem_of_getElem? (i := 173) (by decide +kernel))) rfl
theorem tw_478 : (Cond.instanceMethod ⟨"LineGuard", "counter", "(I)I"⟩ : Cond) ∈ uT := uni_mem (tt2 (List.mem_of_getElem? (i := 174) (by decide +kernel))) rfl
theorem tw_479 : (Cond.selects "LineGuard" ⟨"LineGuard", "counter", "(I)I"⟩ ⟨"LineGuard", "counter", "(I)I"⟩ : Cond) ∈ uT := uni_mem (tt2 (List.mem_of_getElem? (i := 175) (by decide +kernel))) rfl
theorem tw_480 : (Cond.code ⟨"LineGuard", "counter", "(I)I"⟩ prog_1_method_11_code 2 (some .int) : Cond) ∈ uT := uni_mem (tt2 (List.mem_of_getElem? (i := 176) rfl)) rfl
theorem tw_481 : (Cond.constant "LineGuard" 102 (16777215) : Cond) ∈ uT := uni_mem (tt2 (List.mem_of_getElem? (i := 177) (by decide +kernel))) rfl
theorem tw_482 : (Cond.methodLink "LineGuardLaw" 59 ⟨"LineGuard", "start", "(J)I"⟩ : Cond) ∈ uT := uni_mem (tt2 (List.mem_of_getElem? (i := 178) (by decide +kernel))) rfl
theorem tw_483 : (Cond.instanceMethod ⟨"LineGuard", "start", "(J)I"⟩ : Cond) ∈ uT := uni_mem (tt2 (List.mem_of_getElem? (i := 179) (by decide +kernel))) rfl
theorem tw_484 : (Cond.selects "LineGuard" ⟨"LineGuard", "start", "(J)I"⟩ ⟨"LineGuard", "start", "(J)I"⟩ : Cond) ∈ uT := uni_mem (tt2 (List.mem_of_getElem? (i := 180) (by decide +kernel))) rfl
theorem tw_485 : (Cond.code ⟨"LineGuard", "start", "(J)I"⟩ prog_1_method_12_code 4 (some .int) : Cond) ∈ uT := uni_mem (tt2 (List.mem_of_getElem? (i := 181) rfl)) rfl
theorem tw_486 : (Cond.methodLink "LineGuard" 109 ⟨"LineGuard", "ruleOf", "(LLineGuard$Keys;)LLineGuard$Rule;"⟩ : Cond) ∈ uT := uni_mem (tt2 (List.mem_of_getElem? (i := 182) (by decide +kernel))) rfl
theorem tw_488 : (Cond.instanceMethod ⟨"LineGuard", "ruleOf", "(LLineGuard$Keys;)LLineGuard$Rule;"⟩ : Cond) ∈ uT := uni_mem (tt2 (List.mem_of_getElem? (i := 184) (by decide +kernel))) rfl
theorem tw_489 : (Cond.code ⟨"LineGuard", "ruleOf", "(LLineGuard$Keys;)LLineGuard$Rule;"⟩ prog_1_method_23_code 2 (Option.some (.object "LineGuard$Rule")) : Cond) ∈ uT := uni_mem (tt2 (List.mem_of_getElem? (i := 185) rfl)) rfl
theorem tw_490 : (Cond.methodLink "LineGuard" 113 ⟨"LineGuard$Rule", "makeChallenge", "(LLineGuard$Keys;LLineGuard$Session;ILLineGuard$Row;)V"⟩ : Cond) ∈ uT := uni_mem (tt2 (List.mem_of_getElem? (i := 186) (by decide +kernel))) rfl
theorem tn_491 : (Cond.declares ⟨"LineGuard$Rule", "makeChallenge", "(LLineGuard$Keys;LLineGuard$Session;ILLineGuard$Row;)V"⟩ : Cond) ∈ lw_tbl := tt2 (List.mem_of_getElem? (i := 187) (by decide +kernel))
theorem tw_492 : (Cond.sameMethod "LineGuard$Rule" "LineGuard$Rule" "makeChallenge" "(LLineGuard$Keys;LLineGuard$Session;ILLineGuard$Row;)V" : Cond) ∈ uT := uni_mem (tt2 (List.mem_of_getElem? (i := 188) (by decide +kernel))) rfl
theorem tw_493 : (Cond.selects "LineGuard$NewerRule" ⟨"LineGuard$Rule", "makeChallenge", "(LLineGuard$Keys;LLineGuard$Session;ILLineGuard$Row;)V"⟩ ⟨"LineGuard$NewerRule", "makeChallenge", "(LLineGuard$Keys;LLineGuard$Session;ILLineGuard$Row;)V"⟩ : Cond) ∈ uT := uni_mem (tt2 (List.mem_of_getElem? (i := 189) (by decide +kernel))) rfl
theorem tw_494 : (Cond.instanceMethod ⟨"LineGuard$NewerRule", "makeChallenge", "(LLineGuard$Keys;LLineGuard$Session;ILLineGuard$Row;)V"⟩ : Cond) ∈ uT := uni_mem (tt2 (List.mem_of_getElem? (i := 190) (by decide +kernel))) rfl
theorem tw_495 : (Cond.code ⟨"LineGuard$NewerRule", "makeChallenge", "(LLineGuard$Keys;LLineGuard$Session;ILLineGuard$Row;)V"⟩ prog_6_method_4_code 5 none : Cond) ∈ uT := uni_mem (tt2 (List.mem_of_getElem? (i := 191) rfl)) rfl
theorem tw_496 : (Cond.methodLink "LineGuard$NewerRule" 26 ⟨"LineGuard$Row", "clear", "()V"⟩ : Cond) ∈ uT := uni_mem (tt2 (List.mem_of_getElem? (i := 192) (by decide +kernel))) rfl
theorem tw_497 : (Cond.methodLink "LineGuard$NewerRule" 31 ⟨"LineGuard$Row", "addNumber", "(JI)V"⟩ : Cond) ∈ uT := uni_mem (tt2 (List.mem_of_getElem? (i := 193) (by decide +kernel))) rfl
theorem tw_498 : (Cond.methodLink "LineGuard$NewerRule" 35 ⟨"LineGuard$Row", "addAll", "(LLineGuard$Row;)V"⟩ : Cond) ∈ uT := uni_mem (tt2 (List.mem_of_getElem? (i := 194) (by decide +kernel))) rfl
theorem tw_499 : (Cond.instanceMethod ⟨"LineGuard$Row", "addAll", "(LLineGuard$Row;)V"⟩ : Cond) ∈ uT := uni_mem (tt2 (List.mem_of_getElem? (i := 195) (by decide +kernel))) rfl
theorem tw_500 : (Cond.selects "LineGuard$Row" ⟨"LineGuard$Row", "addAll", "(LLineGuard$Row;)V"⟩ ⟨"LineGuard$Row", "addAll", "(LLineGuard$Row;)V"⟩ : Cond) ∈ uT := uni_mem (tt2 (List.mem_of_getElem? (i := 196) (by decide +kernel))) rfl
theorem tw_501 : (Cond.code ⟨"LineGuard$Row", "addAll", "(LLineGuard$Row;)V"⟩ prog_8_method_11_code 2 none : Cond) ∈ uT := uni_mem (tt2 (List.mem_of_getElem? (i := 197) rfl)) rfl
theorem tw_502 : (Cond.methodLink "LineGuard$NewerRule" 49 ⟨"LineGuard$NewerRule", "derive", "(LLineGuard$Row;IILLineGuard$Row;)V"⟩ : Cond) ∈ uT := uni_mem (tt2 (List.mem_of_getElem? (i := 198) (by decide +kernel))) rfl
theorem tw_504 : (Cond.instanceMethod ⟨"LineGuard$NewerRule", "derive", "(LLineGuard$Row;IILLineGuard$Row;)V"⟩ : Cond) ∈ uT := uni_mem (tt2 (List.mem_of_getElem? (i := 200) (by decide +kernel))) rfl
theorem tw_505 : (Cond.code ⟨"LineGuard$NewerRule", "derive", "(LLineGuard$Row;IILLineGuard$Row;)V"⟩ prog_6_method_16_code 6 none : Cond) ∈ uT := uni_mem (tt2 (List.mem_of_getElem? (i := 201) rfl)) rfl
theorem tw_506 : (Cond.methodLink "LineGuard$NewerRule" 181 ⟨"LineGuard$Row", "addZeros", "(I)V"⟩ : Cond) ∈ uT := uni_mem (tt2 (List.mem_of_getElem? (i := 202) (by decide +kernel))) rfl
theorem tw_507 : (Cond.methodLink "LineGuard$NewerRule" 178 ⟨"LineGuard$Row", "add", "(I)V"⟩ : Cond) ∈ uT := uni_mem (tt2 (List.mem_of_getElem? (i := 203) (by decide +kernel))) rfl
theorem tw_508 : (Cond.methodLink "LineGuard$NewerRule" 156 ⟨"LineGuard$NewerRule", "cmac", "(LLineGuard$Row;LLineGuard$Row;)V"⟩ : Cond) ∈ uT := uni_mem (tt2 (List.mem_of_getElem? (i := 204) (by decide +kernel))) rfl
theorem tw_510 : (Cond.instanceMethod ⟨"LineGuard$NewerRule", "cmac", "(LLineGuard$Row;LLineGuard$Row;)V"⟩ : Cond) ∈ uT := uni_mem (tt2 (List.mem_of_getElem? (i := 206) (by decide +kernel))) rfl
theorem tw_511 : (Cond.code ⟨"LineGuard$NewerRule", "cmac", "(LLineGuard$Row;LLineGuard$Row;)V"⟩ prog_6_method_17_code 5 none : Cond) ∈ uT := uni_mem (tt2 (List.mem_of_getElem? (i := 207) rfl)) rfl
theorem tw_512 : (Cond.methodLink "LineGuard$NewerRule" 134 ⟨"LineGuard$Aes", "setKey", "(LLineGuard$Row;)V"⟩ : Cond) ∈ uT := uni_mem (tt2 (List.mem_of_getElem? (i := 208) (by decide +kernel))) rfl
theorem tw_513 : (Cond.instanceMethod ⟨"LineGuard$Aes", "setKey", "(LLineGuard$Row;)V"⟩ : Cond) ∈ uT := uni_mem (tt2 (List.mem_of_getElem? (i := 209) (by decide +kernel))) rfl
theorem tw_514 : (Cond.selects "LineGuard$Aes" ⟨"LineGuard$Aes", "setKey", "(LLineGuard$Row;)V"⟩ ⟨"LineGuard$Aes", "setKey", "(LLineGuard$Row;)V"⟩ : Cond) ∈ uT := uni_mem (tt2 (List.mem_of_getElem? (i := 210) (by decide +kernel))) rfl
theorem tw_515 : (Cond.code ⟨"LineGuard$Aes", "setKey", "(LLineGuard$Row;)V"⟩ prog_2_method_2_code 6 none : Cond) ∈ uT := uni_mem (tt2 (List.mem_of_getElem? (i := 211) rfl)) rfl
theorem tw_516 : (Cond.methodLink "LineGuard$Aes" 29 ⟨"LineGuard$Row", "size", "()I"⟩ : Cond) ∈ uT := uni_mem (tt2 (List.mem_of_getElem? (i := 212) (by decide +kernel))) rfl
theorem tw_517 : (Cond.methodLink "LineGuard$Aes" 35 ⟨"LineGuard$Row", "at", "(I)I"⟩ : Cond) ∈ uT := uni_mem (tt2 (List.mem_of_getElem? (i := 213) (by decide +kernel))) rfl
theorem tw_518 : (Cond.methodLink "LineGuard$Aes" 39 ⟨"LineGuard$Aes", "boxWord", "(I)I"⟩ : Cond) ∈ uT := uni_mem (tt2 (List.mem_of_getElem? (i := 214) (by decide +kernel))) rfl
theorem tw_519 : (Cond.static ⟨"LineGuard$Aes", "boxWord", "(I)I"⟩ : Cond) ∈ uT := uni_mem (tt2 (List.mem_of_getElem? (i := 215) (by decide +kernel))) rfl
theorem tw_520 : (Cond.code ⟨"LineGuard$Aes", "boxWord", "(I)I"⟩ prog_2_method_9_code 1 (some .int) : Cond) ∈ uT := uni_mem (tt2 (List.mem_of_getElem? (i := 216) rfl)) rfl
theorem tw_521 : (Cond.methodLink "LineGuard$NewerRule" 69 ⟨"LineGuard$Row", "copy", "(LLineGuard$Row;)V"⟩ : Cond) ∈ uT := uni_mem (tt2 (List.mem_of_getElem? (i := 217) (by decide +kernel))) rfl
theorem tw_522 : (Cond.methodLink "LineGuard$NewerRule" 140 ⟨"LineGuard$Aes", "startFrom", "(LLineGuard$Row;)V"⟩ : Cond) ∈ uT := uni_mem (tt2 (List.mem_of_getElem? (i := 218) (by decide +kernel))) rfl
theorem tw_523 : (Cond.sameMethod "LineGuard$Aes" "LineGuard$BlockCipher" "startFrom" "(LLineGuard$Row;)V" : Cond) ∈ uT := uni_mem (tt2 (List.mem_of_getElem? (i := 219) (by decide +kernel))) rfl
theorem tn_524 : (Cond.declares ⟨"LineGuard$BlockCipher", "startFrom", "(LLineGuard$Row;)V"⟩ : Cond) ∈ lw_tbl := tt2 (List.mem_of_getElem? (i := 220) (by decide +kernel))
theorem tw_525 : (Cond.selects "LineGuard$Aes" ⟨"LineGuard$Aes", "startFrom", "(LLineGuard$Row;)V"⟩ ⟨"LineGuard$BlockCipher", "startFrom", "(LLineGuard$Row;)V"⟩ : Cond) ∈ uT := uni_mem (tt2 (List.mem_of_getElem? (i := 221) (by decide +kernel))) rfl
theorem tw_526 : (Cond.instanceMethod ⟨"LineGuard$BlockCipher", "startFrom", "(LLineGuard$Row;)V"⟩ : Cond) ∈ uT := uni_mem (tt2 (List.mem_of_getElem? (i := 222) (by decide +kernel))) rfl
theorem tw_527 : (Cond.code ⟨"LineGuard$BlockCipher", "startFrom", "(LLineGuard$Row;)V"⟩ prog_3_method_4_code 3 none : Cond) ∈ uT := uni_mem (tt2 (List.mem_of_getElem? (i := 223) rfl)) rfl
theorem tw_528 : (Cond.methodLink "LineGuard$BlockCipher" 16 ⟨"LineGuard$Row", "at", "(I)I"⟩ : Cond) ∈ uT := uni_mem (tt2 (List.mem_of_getElem? (i := 224) (by decide +kernel))) rfl
theorem tw_529 : (Cond.methodLink "LineGuard$NewerRule" 146 ⟨"LineGuard$Aes", "chainThere", "(LLineGuard$Row;II)V"⟩ : Cond) ∈ uT := uni_mem (tt2 (List.mem_of_getElem? (i := 225) (by decide +kernel))) rfl
theorem tw_530 : (Cond.sameMethod "LineGuard$Aes" "LineGuard$BlockCipher" "chainThere" "(LLineGuard$Row;II)V" : Cond) ∈ uT := uni_mem (tt2 (List.mem_of_getElem? (i := 226) (by decide +kernel))) rfl
theorem tn_531 : (Cond.declares ⟨"LineGuard$BlockCipher", "chainThere", "(LLineGuard$Row;II)V"⟩ : Cond) ∈ lw_tbl := tt2 (List.mem_of_getElem? (i := 227) (by decide +kernel))
theorem tw_532 : (Cond.selects "LineGuard$Aes" ⟨"LineGuard$Aes", "chainThere", "(LLineGuard$Row;II)V"⟩ ⟨"LineGuard$BlockCipher", "chainThere", "(LLineGuard$Row;II)V"⟩ : Cond) ∈ uT := uni_mem (tt2 (List.mem_of_getElem? (i := 228) (by decide +kernel))) rfl
theorem tw_533 : (Cond.instanceMethod ⟨"LineGuard$BlockCipher", "chainThere", "(LLineGuard$Row;II)V"⟩ : Cond) ∈ uT := uni_mem (tt2 (List.mem_of_getElem? (i := 229) (by decide +kernel))) rfl
theorem tw_534 : (Cond.code ⟨"LineGuard$BlockCipher", "chainThere", "(LLineGuard$Row;II)V"⟩ prog_3_method_5_code 6 none : Cond) ∈ uT := uni_mem (tt2 (List.mem_of_getElem? (i := 230) rfl)) rfl
theorem tw_535 : (Cond.methodLink "LineGuard$BlockCipher" 22 ⟨"LineGuard$BlockCipher", "there", "()V"⟩ : Cond) ∈ uT := uni_mem (tt2 (List.mem_of_getElem? (i := 231) (by decide +kernel))) rfl
theorem tn_536 : (Cond.declares ⟨"LineGuard$BlockCipher", "there", "()V"⟩ : Cond) ∈ lw_tbl := tt2 (List.mem_of_getElem? (i := 232) (by decide +kernel))
theorem tw_537 : (Cond.sameMethod "LineGuard$BlockCipher" "LineGuard$BlockCipher" "there" "()V" : Cond) ∈ uT := uni_mem (tt2 (List.mem_of_getElem? (i := 233) (by decide +kernel))) rfl
theorem tw_538 : (Cond.selects "LineGuard$Aes" ⟨"LineGuard$BlockCipher", "there", "()V"⟩ ⟨"LineGuard$Aes", "there", "()V"⟩ : Cond) ∈ uT := uni_mem (tt2 (List.mem_of_getElem? (i := 234) (by decide +kernel))) rfl
theorem tw_539 : (Cond.instanceMethod ⟨"LineGuard$Aes", "there", "()V"⟩ : Cond) ∈ uT := uni_mem (tt2 (List.mem_of_getElem? (i := 235) (by decide +kernel))) rfl
theorem tw_540 : (Cond.code ⟨"LineGuard$Aes", "there", "()V"⟩ prog_2_method_3_code 3 none : Cond) ∈ uT := uni_mem (tt2 (List.mem_of_getElem? (i := 236) rfl)) rfl
theorem tw_541 : (Cond.methodLink "LineGuard$Aes" 42 ⟨"LineGuard$Aes", "load", "()V"⟩ : Cond) ∈ uT := uni_mem (tt2 (List.mem_of_getElem? (i := 237) (by decide +kernel))) rfl
theorem tw_543 : (Cond.instanceMethod ⟨"LineGuard$Aes", "load", "()V"⟩ : Cond) ∈ uT := uni_mem (tt2 (List.mem_of_getElem? (i := 239) (by decide +kernel))) rfl
theorem tw_544 : (Cond.code ⟨"LineGuard$Aes", "load", "()V"⟩ prog_2_method_5_code 3 none : Cond) ∈ uT := uni_mem (tt3 (List.mem_of_getElem? (i := 0) rfl)) rfl
theorem tw_545 : (Cond.methodLink "LineGuard$Aes" 46 ⟨"LineGuard$Aes", "addWords", "(I)V"⟩ : Cond) ∈ uT := uni_mem (tt3 (List.mem_of_getElem? (i := 1) (by decide +kernel))) rfl
theorem tw_547 : (Cond.instanceMethod ⟨"LineGuard$Aes", "addWords", "(I)V"⟩ : Cond) ∈ uT := uni_mem (tt3 (List.mem_of_getElem? (i := 3) (by decide +kernel))) rfl
theorem tw_548 : (Cond.code ⟨"LineGuard$Aes", "addWords", "(I)V"⟩ prog_2_method_7_code 3 none : Cond) ∈ uT := uni_mem (tt3 (List.mem_of_getElem? (i := 4) rfl)) rfl
theorem tw_549 : (Cond.methodLink "LineGuard$Aes" 49 ⟨"LineGuard$Aes", "boxShifted", "([II)V"⟩ : Cond) ∈ uT := uni_mem (tt3 (List.mem_of_getElem? (i := 5) (by decide +kernel))) rfl
theorem tw_551 : (Cond.instanceMethod ⟨"LineGuard$Aes", "boxShifted", "([II)V"⟩ : Cond) ∈ uT := uni_mem (tt3 (List.mem_of_getElem? (i := 7) (by decide +kernel))) rfl
theorem tw_552 : (Cond.code ⟨"LineGuard$Aes", "boxShifted", "([II)V"⟩ prog_2_method_8_code 4 none : Cond) ∈ uT := uni_mem (tt3 (List.mem_of_getElem? (i := 8) rfl)) rfl
theorem tw_553 : (Cond.methodLink "LineGuard$Aes" 53 ⟨"LineGuard$Aes", "mix", "(I)I"⟩ : Cond) ∈ uT := uni_mem (tt3 (List.mem_of_getElem? (i := 9) (by decide +kernel))) rfl
theorem tw_554 : (Cond.static ⟨"LineGuard$Aes", "mix", "(I)I"⟩ : Cond) ∈ uT := uni_mem (tt3 (List.mem_of_getElem? (i := 10) (by decide +kernel))) rfl
theorem tw_555 : (Cond.code ⟨"LineGuard$Aes", "mix", "(I)I"⟩ prog_2_method_10_code 3 (some .int) : Cond) ∈ uT := uni_mem (tt3 (List.mem_of_getElem? (i := 11) rfl)) rfl
theorem tw_556 : (Cond.constant "LineGuard$Aes" 65 (2139062143) : Cond) ∈ uT := uni_mem (tt3 (List.mem_of_getElem? (i := 12) (by decide +kernel))) rfl
theorem tw_557 : (Cond.constant "LineGuard$Aes" 66 (16843009) : Cond) ∈ uT := uni_mem (tt3 (List.mem_of_getElem? (i := 13) (by decide +kernel))) rfl
theorem tw_558 : (Cond.methodLink "LineGuard$Aes" 56 ⟨"LineGuard$Aes", "store", "()V"⟩ : Cond) ∈ uT := uni_mem (tt3 (List.mem_of_getElem? (i := 14) (by decide +kernel))) rfl
theorem tw_560 : (Cond.instanceMethod ⟨"LineGuard$Aes", "store", "()V"⟩ : Cond) ∈ uT := uni_mem (tt3 (List.mem_of_getElem? (i := 16) (by decide +kernel))) rfl
theorem tw_561 : (Cond.code ⟨"LineGuard$Aes", "store", "()V"⟩ prog_2_method_6_code 2 none : Cond) ∈ uT := uni_mem (tt3 (List.mem_of_getElem? (i := 17) rfl)) rfl
theorem tw_562 : (Cond.selects "LineGuard$Des" ⟨"LineGuard$BlockCipher", "there", "()V"⟩ ⟨"LineGuard$Des", "there", "()V"⟩ : Cond) ∈ uT := uni_mem (tt3 (List.mem_of_getElem? (i := 18) (by decide +kernel))) rfl
theorem tw_563 : (Cond.instanceMethod ⟨"LineGuard$Des", "there", "()V"⟩ : Cond) ∈ uT := uni_mem (tt3 (List.mem_of_getElem? (i := 19) (by decide +kernel))) rfl
theorem tw_564 : (Cond.code ⟨"LineGuard$Des", "there", "()V"⟩ prog_4_method_4_code 3 none : Cond) ∈ uT := uni_mem (tt3 (List.mem_of_getElem? (i := 20) rfl)) rfl
theorem tw_565 : (Cond.methodLink "LineGuard$Des" 34 ⟨"LineGuard$Des", "load", "()J"⟩ : Cond) ∈ uT := uni_mem (tt3 (List.mem_of_getElem? (i := 21) (by decide +kernel))) rfl
theorem tw_567 : (Cond.instanceMethod ⟨"LineGuard$Des", "load", "()J"⟩ : Cond) ∈ uT := uni_mem (tt3 (List.mem_of_getElem? (i := 23) (by decide +kernel))) rfl
theorem tw_568 : (Cond.code ⟨"LineGuard$Des", "load", "()J"⟩ prog_4_method_6_code 4 (some .long) : Cond) ∈ uT := uni_mem (tt3 (List.mem_of_getElem? (i := 24) rfl)) rfl
theorem tw_569 : (Cond.methodLink "LineGuard$Des" 38 ⟨"LineGuard$Des", "reorder", "(JZ)J"⟩ : Cond) ∈ uT := uni_mem (tt3 (List.mem_of_getElem? (i := 25) (by decide +kernel))) rfl
theorem tw_570 : (Cond.static ⟨"LineGuard$Des", "reorder", "(JZ)J"⟩ : Cond) ∈ uT := uni_mem (tt3 (List.mem_of_getElem? (i := 26) (by decide +kernel))) rfl
theorem tw_571 : (Cond.code ⟨"LineGuard$Des", "reorder", "(JZ)J"⟩ prog_4_method_11_code 10 (some .long) : Cond) ∈ uT := uni_mem (tt3 (List.mem_of_getElem? (i := 27) rfl)) rfl
theorem tw_572 : (Cond.fieldLink "LineGuard$Des" 75 "LineGuard$Des" "SWAPS" "[I" : Cond) ∈ uT := uni_mem (tt3 (List.mem_of_getElem? (i := 28) (by decide +kernel))) rfl
theorem tw_574 : (Cond.fieldLink "LineGuard$Des" 78 "LineGuard$Des" "SWAP_MASKS" "[J" : Cond) ∈ uT := uni_mem (tt3 (List.mem_of_getElem? (i := 30) (by decide +kernel))) rfl
theorem tw_576 : (Cond.methodLink "LineGuard$Des" 42 ⟨"LineGuard$Des", "rounds", "(J[JZ)J"⟩ : Cond) ∈ uT := uni_mem (tt3 (List.mem_of_getElem? (i := 32) (by decide +kernel))) rfl
theorem tw_578 : (Cond.instanceMethod ⟨"LineGuard$Des", "rounds", "(J[JZ)J"⟩ : Cond) ∈ uT := uni_mem (tt3 (List.mem_of_getElem? (i := 34) (by decide +kernel))) rfl
theorem tw_579 : (Cond.code ⟨"LineGuard$Des", "rounds", "(J[JZ)J"⟩ prog_4_method_10_code 15 (some .long) : Cond) ∈ uT := uni_mem (tt3 (List.mem_of_getElem? (i := 35) rfl)) rfl
theorem tw_580 : (Cond.constantLong "LineGuard$Des" 73 (4294967295) : Cond) ∈ uT := uni_mem (tt3 (List.mem_of_getElem? (i := 36) (by decide +kernel))) rfl
theorem tw_581 : (Cond.methodLink "LineGuard$Des" 46 ⟨"LineGuard$Des", "store", "(J)V"⟩ : Cond) ∈ uT := uni_mem (tt3 (List.mem_of_getElem? (i := 37) (by decide +kernel))) rfl
theorem tw_583 : (Cond.instanceMethod ⟨"LineGuard$Des", "store", "(J)V"⟩ : Cond) ∈ uT := uni_mem (tt3 (List.mem_of_getElem? (i := 39) (by decide +kernel))) rfl
theorem tw_584 : (Cond.code ⟨"LineGuard$Des", "store", "(J)V"⟩ prog_4_method_7_code 4 none : Cond) ∈ uT := uni_mem (tt3 (List.mem_of_getElem? (i := 40) rfl)) rfl
theorem tw_585 : (Cond.methodLink "LineGuard$BlockCipher" 25 ⟨"LineGuard$Row", "put", "(II)V"⟩ : Cond) ∈ uT := uni_mem (tt3 (List.mem_of_getElem? (i := 41) (by decide +kernel))) rfl
theorem tw_586 : (Cond.methodLink "LineGuard$NewerRule" 190 ⟨"LineGuard$Row", "at", "(I)I"⟩ : Cond) ∈ uT := uni_mem (tt3 (List.mem_of_getElem? (i := 42) (by decide +kernel))) rfl
theorem tw_587 : (Cond.methodLink "LineGuard$NewerRule" 194 ⟨"LineGuard$NewerRule", "doubleTurn", "()V"⟩ : Cond) ∈ uT := uni_mem (tt3 (List.mem_of_getElem? (i := 43) (by decide +kernel))) rfl
theorem tw_589 : (Cond.instanceMethod ⟨"LineGuard$NewerRule", "doubleTurn", "()V"⟩ : Cond) ∈ uT := uni_mem (tt3 (List.mem_of_getElem? (i := 45) (by decide +kernel))) rfl
theorem tw_590 : (Cond.code ⟨"LineGuard$NewerRule", "doubleTurn", "()V"⟩ prog_6_method_18_code 4 none : Cond) ∈ uT := uni_mem (tt3 (List.mem_of_getElem? (i := 46) rfl)) rfl
theorem tw_591 : (Cond.methodLink "LineGuard$NewerRule" 81 ⟨"LineGuard$Row", "size", "()I"⟩ : Cond) ∈ uT := uni_mem (tt3 (List.mem_of_getElem? (i := 47) (by decide +kernel))) rfl
theorem tw_592 : (Cond.methodLink "LineGuard$NewerRule" 167 ⟨"LineGuard$NewerRule", "isBlocks", "(I)Z"⟩ : Cond) ∈ uT := uni_mem (tt3 (List.mem_of_getElem? (i := 48) (by decide +kernel))) rfl
theorem tw_593 : (Cond.sameMethod "LineGuard$NewerRule" "LineGuard$Rule" "isBlocks" "(I)Z" : Cond) ∈ uT := uni_mem (tt3 (List.mem_of_getElem? (i := 49) (by decide +kernel))) rfl
theorem tn_594 : (Cond.declares ⟨"LineGuard$Rule", "isBlocks", "(I)Z"⟩ : Cond) ∈ lw_tbl := tt3 (List.mem_of_getElem? (i := 50) (by decide +kernel))
theorem tw_595 : (Cond.selects "LineGuard$NewerRule" ⟨"LineGuard$NewerRule", "isBlocks", "(I)Z"⟩ ⟨"LineGuard$Rule", "isBlocks", "(I)Z"⟩ : Cond) ∈ uT := uni_mem (tt3 (List.mem_of_getElem? (i := 51) (by decide +kernel))) rfl
theorem tw_596 : (Cond.instanceMethod ⟨"LineGuard$Rule", "isBlocks", "(I)Z"⟩ : Cond) ∈ uT := uni_mem (tt3 (List.mem_of_getElem? (i := 52) (by decide +kernel))) rfl
theorem tw_597 : (Cond.code ⟨"LineGuard$Rule", "isBlocks", "(I)Z"⟩ prog_9_method_12_code 2 (some .boolean) : Cond) ∈ uT := uni_mem (tt3 (List.mem_of_getElem? (i := 53) rfl)) rfl
theorem tw_598 : (Cond.methodLink "LineGuard$Rule" 39 ⟨"LineGuard$Rule", "width", "()I"⟩ : Cond) ∈ uT := uni_mem (tt3 (List.mem_of_getElem? (i := 54) (by decide +kernel))) rfl
theorem tn_599 : (Cond.declares ⟨"LineGuard$Rule", "width", "()I"⟩ : Cond) ∈ lw_tbl := tt3 (List.mem_of_getElem? (i := 55) (by decide +kernel))
theorem tw_600 : (Cond.sameMethod "LineGuard$Rule" "LineGuard$Rule" "width" "()I" : Cond) ∈ uT := uni_mem (tt3 (List.mem_of_getElem? (i := 56) (by decide +kernel))) rfl
theorem tw_601 : (Cond.selects "LineGuard$NewerRule" ⟨"LineGuard$Rule", "width", "()I"⟩ ⟨"LineGuard$NewerRule", "width", "()I"⟩ : Cond) ∈ uT := uni_mem (tt3 (List.mem_of_getElem? (i := 57) (by decide +kernel))) rfl
theorem tw_602 : (Cond.instanceMethod ⟨"LineGuard$NewerRule", "width", "()I"⟩ : Cond) ∈ uT := uni_mem (tt3 (List.mem_of_getElem? (i := 58) (by decide +kernel))) rfl
theorem tw_603 : (Cond.code ⟨"LineGuard$NewerRule", "width", "()I"⟩ prog_6_method_2_code 1 (some .int) : Cond) ∈ uT := uni_mem (tt3 (List.mem_of_getElem? (i := 59) rfl)) rfl
theorem tw_604 : (Cond.selects "LineGuard$OlderRule" ⟨"LineGuard$Rule", "width", "()I"⟩ ⟨"LineGuard$OlderRule", "width", "()I"⟩ : Cond) ∈ uT := uni_mem (tt3 (List.mem_of_getElem? (i := 60) (by decide +kernel))) rfl
theorem tw_605 : (Cond.instanceMethod ⟨"LineGuard$OlderRule", "width", "()I"⟩ : Cond) ∈ uT := uni_mem (tt3 (List.mem_of_getElem? (i := 61) (by decide +kernel))) rfl
theorem tw_606 : (Cond.code ⟨"LineGuard$OlderRule", "width", "()I"⟩ prog_7_method_2_code 1 (some .int) : Cond) ∈ uT := uni_mem (tt3 (List.mem_of_getElem? (i := 62) rfl)) rfl
theorem tw_607 : (Cond.methodLink "LineGuard$NewerRule" 160 ⟨"LineGuard$Row", "pad", "(I)V"⟩ : Cond) ∈ uT := uni_mem (tt3 (List.mem_of_getElem? (i := 63) (by decide +kernel))) rfl
theorem tw_608 : (Cond.instanceMethod ⟨"LineGuard$Row", "pad", "(I)V"⟩ : Cond) ∈ uT := uni_mem (tt3 (List.mem_of_getElem? (i := 64) (by decide +kernel))) rfl
theorem tw_609 : (Cond.selects "LineGuard$Row" ⟨"LineGuard$Row", "pad", "(I)V"⟩ ⟨"LineGuard$Row", "pad", "(I)V"⟩ : Cond) ∈ uT := uni_mem (tt3 (List.mem_of_getElem? (i := 65) (by decide +kernel))) rfl
theorem tw_610 : (Cond.code ⟨"LineGuard$Row", "pad", "(I)V"⟩ prog_8_method_14_code 3 none : Cond) ∈ uT := uni_mem (tt3 (List.mem_of_getElem? (i := 66) rfl)) rfl
theorem tw_611 : (Cond.methodLink "LineGuard$NewerRule" 197 ⟨"LineGuard$Row", "put", "(II)V"⟩ : Cond) ∈ uT := uni_mem (tt3 (List.mem_of_getElem? (i := 67) (by decide +kernel))) rfl
theorem tw_612 : (Cond.methodLink "LineGuard$NewerRule" 85 ⟨"LineGuard$Row", "copyPart", "(LLineGuard$Row;II)V"⟩ : Cond) ∈ uT := uni_mem (tt3 (List.mem_of_getElem? (i := 68) (by decide +kernel))) rfl
theorem tw_613 : (Cond.methodLink "LineGuard$NewerRule" 187 ⟨"LineGuard$Row", "addPart", "(LLineGuard$Row;II)V"⟩ : Cond) ∈ uT := uni_mem (tt3 (List.mem_of_getElem? (i := 69) (by decide +kernel))) rfl
theorem tw_614 : (Cond.selects "LineGuard$OlderRule" ⟨"LineGuard$Rule", "makeChallenge", "(LLineGuard$Keys;LLineGuard$Session;ILLineGuard$Row;)V"⟩ ⟨"LineGuard$OlderRule", "makeChallenge", "(LLineGuard$Keys;LLineGuard$Session;ILLineGuard$Row;)V"⟩ : Cond) ∈ uT := uni_mem (tt3 (List.mem_of_getElem? (i := 70) (by decide +kernel))) rfl
theorem tw_615 : (Cond.instanceMethod ⟨"LineGuard$OlderRule", "makeChallenge", "(LLineGuard$Keys;LLineGuard$Session;ILLineGuard$Row;)V"⟩ : Cond) ∈ uT := uni_mem (tt3 (List.mem_of_getElem? (i := 71) (by decide +kernel))) rfl
theorem tw_616 : (Cond.code ⟨"LineGuard$OlderRule", "makeChallenge", "(LLineGuard$Keys;LLineGuard$Session;ILLineGuard$Row;)V"⟩ prog_7_method_4_code 5 none : Cond) ∈ uT := uni_mem (tt3 (List.mem_of_getElem? (i := 72) rfl)) rfl
theorem tw_617 : (Cond.methodLink "LineGuard$OlderRule" 27 ⟨"LineGuard$OlderRule", "sessionKey", "(LLineGuard$Row;IILLineGuard$Row;)V"⟩ : Cond) ∈ uT := uni_mem (tt3 (List.mem_of_getElem? (i := 73) (by decide +kernel))) rfl
theorem tw_619 : (Cond.instanceMethod ⟨"LineGuard$OlderRule", "sessionKey", "(LLineGuard$Row;IILLineGuard$Row;)V"⟩ : Cond) ∈ uT := uni_mem (tt3 (List.mem_of_getElem? (i := 75) (by decide +kernel))) rfl
theorem tw_620 : (Cond.code ⟨"LineGuard$OlderRule", "sessionKey", "(LLineGuard$Row;IILLineGuard$Row;)V"⟩ prog_7_method_11_code 5 none : Cond) ∈ uT := uni_mem (tt3 (List.mem_of_getElem? (i := 76) rfl)) rfl
theorem tw_621 : (Cond.methodLink "LineGuard$OlderRule" 65 ⟨"LineGuard$Row", "clear", "()V"⟩ : Cond) ∈ uT := uni_mem (tt3 (List.mem_of_getElem? (i := 77) (by decide +kernel))) rfl
theorem tw_622 : (Cond.methodLink "LineGuard$OlderRule" 68 ⟨"LineGuard$Row", "addNumber", "(JI)V"⟩ : Cond) ∈ uT := uni_mem (tt3 (List.mem_of_getElem? (i := 78) (by decide +kernel))) rfl
theorem tw_623 : (Cond.methodLink "LineGuard$OlderRule" 160 ⟨"LineGuard$Row", "addZeros", "(I)V"⟩ : Cond) ∈ uT := uni_mem (tt3 (List.mem_of_getElem? (i := 79) (by decide +kernel))) rfl
theorem tw_624 : (Cond.methodLink "LineGuard$OlderRule" 111 ⟨"LineGuard$Des", "setTriple", "(LLineGuard$Row;)V"⟩ : Cond) ∈ uT := uni_mem (tt3 (List.mem_of_getElem? (i := 80) (by decide +kernel))) rfl
theorem tw_625 : (Cond.instanceMethod ⟨"LineGuard$Des", "setTriple", "(LLineGuard$Row;)V"⟩ : Cond) ∈ uT := uni_mem (tt3 (List.mem_of_getElem? (i := 81) (by decide +kernel))) rfl
theorem tw_626 : (Cond.selects "LineGuard$Des" ⟨"LineGuard$Des", "setTriple", "(LLineGuard$Row;)V"⟩ ⟨"LineGuard$Des", "setTriple", "(LLineGuard$Row;)V"⟩ : Cond) ∈ uT := uni_mem (tt3 (List.mem_of_getElem? (i := 82) (by decide +kernel))) rfl
theorem tw_627 : (Cond.code ⟨"LineGuard$Des", "setTriple", "(LLineGuard$Row;)V"⟩ prog_4_method_3_code 2 none : Cond) ∈ uT := uni_mem (tt3 (List.mem_of_getElem? (i := 83) rfl)) rfl
theorem tw_628 : (Cond.methodLink "LineGuard$Des" 30 ⟨"LineGuard$Des", "schedule", "(LLineGuard$Row;I[J)V"⟩ : Cond) ∈ uT := uni_mem (tt3 (List.mem_of_getElem? (i := 84) (by decide +kernel))) rfl
theorem tw_629 : (Cond.static ⟨"LineGuard$Des", "schedule", "(LLineGuard$Row;I[J)V"⟩ : Cond) ∈ uT := uni_mem (tt3 (List.mem_of_getElem? (i := 85) (by decide +kernel))) rfl
theorem tw_630 : (Cond.code ⟨"LineGuard$Des", "schedule", "(LLineGuard$Row;I[J)V"⟩ prog_4_method_8_code 11 none : Cond) ∈ uT := uni_mem (tt3 (List.mem_of_getElem? (i := 86) rfl)) rfl
theorem tw_631 : (Cond.methodLink "LineGuard$Des" 53 ⟨"LineGuard$Row", "at", "(I)I"⟩ : Cond) ∈ uT := uni_mem (tt3 (List.mem_of_getElem? (i := 87) (by decide +kernel))) rfl
theorem tw_632 : (Cond.fieldLink "LineGuard$Des" 59 "LineGuard$Des" "CHOICE_1" "[I" : Cond) ∈ uT := uni_mem (tt3 (List.mem_of_getElem? (i := 88) (by decide +kernel))) rfl
theorem tw_634 : (Cond.methodLink "LineGuard$Des" 62 ⟨"LineGuard$Des", "choose", "(JI[I)J"⟩ : Cond) ∈ uT := uni_mem (tt3 (List.mem_of_getElem? (i := 90) (by decide +kernel))) rfl
theorem tw_635 : (Cond.static ⟨"LineGuard$Des", "choose", "(JI[I)J"⟩ : Cond) ∈ uT := uni_mem (tt3 (List.mem_of_getElem? (i := 91) (by decide +kernel))) rfl
theorem tw_636 : (Cond.code ⟨"LineGuard$Des", "choose", "(JI[I)J"⟩ prog_4_method_9_code 7 (some .long) : Cond) ∈ uT := uni_mem (tt3 (List.mem_of_getElem? (i := 92) rfl)) rfl
theorem tw_637 : (Cond.constant "LineGuard$Des" 66 (268435455) : Cond) ∈ uT := uni_mem (tt3 (List.mem_of_getElem? (i := 93) (by decide +kernel))) rfl
theorem tw_638 : (Cond.fieldLink "LineGuard$Des" 67 "LineGuard$Des" "SHIFTS" "[I" : Cond) ∈ uT := uni_mem (tt3 (List.mem_of_getElem? (i := 94) (by decide +kernel))) rfl
theorem tw_640 : (Cond.fieldLink "LineGuard$Des" 70 "LineGuard$Des" "CHOICE_2" "[I" : Cond) ∈ uT := uni_mem (tt3 (List.mem_of_getElem? (i := 96) (by decide +kernel))) rfl
theorem tw_642 : (Cond.methodLink "LineGuard$OlderRule" 114 ⟨"LineGuard$Des", "startFrom", "(LLineGuard$Row;)V"⟩ : Cond) ∈ uT := uni_mem (tt3 (List.mem_of_getElem? (i := 98) (by decide +kernel))) rfl
theorem tw_643 : (Cond.sameMethod "LineGuard$Des" "LineGuard$BlockCipher" "startFrom" "(LLineGuard$Row;)V" : Cond) ∈ uT := uni_mem (tt3 (List.mem_of_getElem? (i := 99) (by decide +kernel))) rfl
theorem tw_644 : (Cond.selects "LineGuard$Des" ⟨"LineGuard$Des", "startFrom", "(LLineGuard$Row;)V"⟩ ⟨"LineGuard$BlockCipher", "startFrom", "(LLineGuard$Row;)V"⟩ : Cond) ∈ uT := uni_mem (tt3 (List.mem_of_getElem? (i := 100) (by decide +kernel))) rfl
theorem tw_645 : (Cond.methodLink "LineGuard$OlderRule" 95 ⟨"LineGuard$Row", "size", "()I"⟩ : Cond) ∈ uT := uni_mem (tt3 (List.mem_of_getElem? (i := 101) (by decide +kernel))) rfl
theorem tw_646 : (Cond.methodLink "LineGuard$OlderRule" 117 ⟨"LineGuard$Des", "chainThere", "(LLineGuard$Row;II)V"⟩ : Cond) ∈ uT := uni_mem (tt3 (List.mem_of_getElem? (i := 102) (by decide +kernel))) rfl
theorem tw_647 : (Cond.sameMethod "LineGuard$Des" "LineGuard$BlockCipher" "chainThere" "(LLineGuard$Row;II)V" : Cond) ∈ uT := uni_mem (tt3 (List.mem_of_getElem? (i := 103) (by decide +kernel))) rfl
theorem tw_648 : (Cond.selects "LineGuard$Des" ⟨"LineGuard$Des", "chainThere", "(LLineGuard$Row;II)V"⟩ ⟨"LineGuard$BlockCipher", "chainThere", "(LLineGuard$Row;II)V"⟩ : Cond) ∈ uT := uni_mem (tt3 (List.mem_of_getElem? (i := 104) (by decide +kernel))) rfl
theorem tw_649 : (Cond.methodLink "LineGuard$OlderRule" 34 ⟨"LineGuard$Row", "copy", "(LLineGuard$Row;)V"⟩ : Cond) ∈ uT := uni_mem (tt3 (List.mem_of_getElem? (i := 105) (by decide +kernel))) rfl
theorem tw_650 : (Cond.methodLink "LineGuard$OlderRule" 46 ⟨"LineGuard$OlderRule", "retail", "(LLineGuard$Row;LLineGuard$Row;LLineGuard$Row;)V"⟩ : Cond) ∈ uT := uni_mem (tt3 (List.mem_of_getElem? (i := 106) (by decide +kernel))) rfl
theorem tw_652 : (Cond.instanceMethod ⟨"LineGuard$OlderRule", "retail", "(LLineGuard$Row;LLineGuard$Row;LLineGuard$Row;)V"⟩ : Cond) ∈ uT := uni_mem (tt3 (List.mem_of_getElem? (i := 108) (by decide +kernel))) rfl
theorem tw_653 : (Cond.code ⟨"LineGuard$OlderRule", "retail", "(LLineGuard$Row;LLineGuard$Row;LLineGuard$Row;)V"⟩ prog_7_method_16_code 5 none : Cond) ∈ uT := uni_mem (tt3 (List.mem_of_getElem? (i := 109) rfl)) rfl
theorem tw_654 : (Cond.methodLink "LineGuard$OlderRule" 107 ⟨"LineGuard$Row", "pad", "(I)V"⟩ : Cond) ∈ uT := uni_mem (tt3 (List.mem_of_getElem? (i := 110) (by decide +kernel))) rfl
theorem tw_655 : (Cond.methodLink "LineGuard$OlderRule" 170 ⟨"LineGuard$Des", "setSingle", "(LLineGuard$Row;)V"⟩ : Cond) ∈ uT := uni_mem (tt3 (List.mem_of_getElem? (i := 111) (by decide +kernel))) rfl
theorem tw_656 : (Cond.instanceMethod ⟨"LineGuard$Des", "setSingle", "(LLineGuard$Row;)V"⟩ : Cond) ∈ uT := uni_mem (tt3 (List.mem_of_getElem? (i := 112) (by decide +kernel))) rfl
theorem tw_657 : (Cond.selects "LineGuard$Des" ⟨"LineGuard$Des", "setSingle", "(LLineGuard$Row;)V"⟩ ⟨"LineGuard$Des", "setSingle", "(LLineGuard$Row;)V"⟩ : Cond) ∈ uT := uni_mem (tt3 (List.mem_of_getElem? (i := 113) (by decide +kernel))) rfl
theorem tw_658 : (Cond.code ⟨"LineGuard$Des", "setSingle", "(LLineGuard$Row;)V"⟩ prog_4_method_2_code 2 none : Cond) ∈ uT := uni_mem (tt3 (List.mem_of_getElem? (i := 114) rfl)) rfl
theorem tw_659 : (Cond.methodLink "LineGuard$OlderRule" 99 ⟨"LineGuard$Row", "copyPart", "(LLineGuard$Row;II)V"⟩ : Cond) ∈ uT := uni_mem (tt3 (List.mem_of_getElem? (i := 115) (by decide +kernel))) rfl
theorem tw_660 : (Cond.methodLink "LineGuard$OlderRule" 50 ⟨"LineGuard$Row", "shorten", "(I)Z"⟩ : Cond) ∈ uT := uni_mem (tt3 (List.mem_of_getElem? (i := 116) (by decide +kernel))) rfl
theorem tw_661 : (Cond.methodLink "LineGuard" 119 ⟨"LineGuard$Rule", "makeSession", "(LLineGuard$Keys;LLineGuard$Session;JI)V"⟩ : Cond) ∈ uT := uni_mem (tt3 (List.mem_of_getElem? (i := 117) (by decide +kernel))) rfl
theorem tn_662 : (Cond.declares ⟨"LineGuard$Rule", "makeSession", "(LLineGuard$Keys;LLineGuard$Session;JI)V"⟩ : Cond) ∈ lw_tbl := tt3 (List.mem_of_getElem? (i := 118) (by decide +kernel))
theorem tw_663 : (Cond.sameMethod "LineGuard$Rule" "LineGuard$Rule" "makeSession" "(LLineGuard$Keys;LLineGuard$Session;JI)V" : Cond) ∈ uT := uni_mem (tt3 (List.mem_of_getElem? (i := 119) (by decide +kernel))) rfl
theorem tw_664 : (Cond.selects "LineGuard$NewerRule" ⟨"LineGuard$Rule", "makeSession", "(LLineGuard$Keys;LLineGuard$Session;JI)V"⟩ ⟨"LineGuard$NewerRule", "makeSession", "(LLineGuard$Keys;LLineGuard$Session;JI)V"⟩ : Cond) ∈ uT := uni_mem (tt3 (List.mem_of_getElem? (i := 120) (by decide +kernel))) rfl
theorem tw_665 : (Cond.instanceMethod ⟨"LineGuard$NewerRule", "makeSession", "(LLineGuard$Keys;LLineGuard$Session;JI)V"⟩ : Cond) ∈ uT := uni_mem (tt3 (List.mem_of_getElem? (i := 121) (by decide +kernel))) rfl
theorem tw_666 : (Cond.code ⟨"LineGuard$NewerRule", "makeSession", "(LLineGuard$Keys;LLineGuard$Session;JI)V"⟩ prog_6_method_5_code 6 none : Cond) ∈ uT := uni_mem (tt3 (List.mem_of_getElem? (i := 122) rfl)) rfl
theorem tw_667 : (Cond.selects "LineGuard$OlderRule" ⟨"LineGuard$Rule", "makeSession", "(LLineGuard$Keys;LLineGuard$Session;JI)V"⟩ ⟨"LineGuard$OlderRule", "makeSession", "(LLineGuard$Keys;LLineGuard$Session;JI)V"⟩ : Cond) ∈ uT := uni_mem (tt3 (List.mem_of_getElem? (i := 123) (by decide +kernel))) rfl
theorem tw_668 : (Cond.instanceMethod ⟨"LineGuard$OlderRule", "makeSession", "(LLineGuard$Keys;LLineGuard$Session;JI)V"⟩ : Cond) ∈ uT := uni_mem (tt3 (List.mem_of_getElem? (i := 124) (by decide +kernel))) rfl
theorem tw_669 : (Cond.code ⟨"LineGuard$OlderRule", "makeSession", "(LLineGuard$Keys;LLineGuard$Session;JI)V"⟩ prog_7_method_5_code 6 none : Cond) ∈ uT := uni_mem (tt3 (List.mem_of_getElem? (i := 125) rfl)) rfl
theorem tw_670 : (Cond.methodLink "LineGuard$OlderRule" 72 ⟨"LineGuard$Row", "addAll", "(LLineGuard$Row;)V"⟩ : Cond) ∈ uT := uni_mem (tt3 (List.mem_of_getElem? (i := 126) (by decide +kernel))) rfl
theorem tw_671 : (Cond.methodLink "LineGuard$OlderRule" 78 ⟨"LineGuard$OlderRule", "mac3", "(LLineGuard$Row;LLineGuard$Row;)V"⟩ : Cond) ∈ uT := uni_mem (tt3 (List.mem_of_getElem? (i := 127) (by decide +kernel))) rfl
theorem tw_673 : (Cond.instanceMethod ⟨"LineGuard$OlderRule", "mac3", "(LLineGuard$Row;LLineGuard$Row;)V"⟩ : Cond) ∈ uT := uni_mem (tt3 (List.mem_of_getElem? (i := 129) (by decide +kernel))) rfl
theorem tw_674 : (Cond.code ⟨"LineGuard$OlderRule", "mac3", "(LLineGuard$Row;LLineGuard$Row;)V"⟩ prog_7_method_15_code 3 none : Cond) ∈ uT := uni_mem (tt3 (List.mem_of_getElem? (i := 130) rfl)) rfl
theorem tw_675 : (Cond.methodLink "LineGuard" 123 ⟨"LineGuard$Session", "begin", "()V"⟩ : Cond) ∈ uT := uni_mem (tt3 (List.mem_of_getElem? (i := 131) (by decide +kernel))) rfl
theorem tw_676 : (Cond.instanceMethod ⟨"LineGuard$Session", "begin", "()V"⟩ : Cond) ∈ uT := uni_mem (tt3 (List.mem_of_getElem? (i := 132) (by decide +kernel))) rfl
theorem tw_677 : (Cond.selects "LineGuard$Session" ⟨"LineGuard$Session", "begin", "()V"⟩ ⟨"LineGuard$Session", "begin", "()V"⟩ : Cond) ∈ uT := uni_mem (tt3 (List.mem_of_getElem? (i := 133) (by decide +kernel))) rfl
theorem tw_678 : (Cond.code ⟨"LineGuard$Session", "begin", "()V"⟩ prog_10_method_2_code 1 none : Cond) ∈ uT := uni_mem (tt3 (List.mem_of_getElem? (i := 134) rfl)) rfl
theorem tw_679 : (Cond.methodLink "LineGuard$Session" 61 ⟨"LineGuard$Row", "clear", "()V"⟩ : Cond) ∈ uT := uni_mem (tt3 (List.mem_of_getElem? (i := 135) (by decide +kernel))) rfl
theorem tw_680 : (Cond.methodLink "LineGuard$Session" 64 ⟨"LineGuard$Row", "addZeros", "(I)V"⟩ : Cond) ∈ uT := uni_mem (tt3 (List.mem_of_getElem? (i := 136) (by decide +kernel))) rfl
theorem tw_681 : (Cond.methodLink "LineGuard" 132 ⟨"LineGuard$Row", "same", "(LLineGuard$Row;)Z"⟩ : Cond) ∈ uT := uni_mem (tt3 (List.mem_of_getElem? (i := 137) (by decide +kernel))) rfl
theorem tw_682 : (Cond.instanceMethod ⟨"LineGuard$Row", "same", "(LLineGuard$Row;)Z"⟩ : Cond) ∈ uT := uni_mem (tt3 (List.mem_of_getElem? (i := 138) (by decide +kernel))) rfl
theorem tw_683 : (Cond.selects "LineGuard$Row" ⟨"LineGuard$Row", "same", "(LLineGuard$Row;)Z"⟩ ⟨"LineGuard$Row", "same", "(LLineGuard$Row;)Z"⟩ : Cond) ∈ uT := uni_mem (tt3 (List.mem_of_getElem? (i := 139) (by decide +kernel))) rfl
theorem tw_684 : (Cond.code ⟨"LineGuard$Row", "same", "(LLineGuard$Row;)Z"⟩ prog_8_method_16_code 2 (some .boolean) : Cond) ∈ uT := uni_mem (tt3 (List.mem_of_getElem? (i := 140) rfl)) rfl
theorem tw_685 : (Cond.methodLink "LineGuard$Row" 34 ⟨"LineGuard$Row", "hasAt", "(ILLineGuard$Row;I)Z"⟩ : Cond) ∈ uT := uni_mem (tt3 (List.mem_of_getElem? (i := 141) (by decide +kernel))) rfl
theorem tw_686 : (Cond.instanceMethod ⟨"LineGuard$Row", "hasAt", "(ILLineGuard$Row;I)Z"⟩ : Cond) ∈ uT := uni_mem (tt3 (List.mem_of_getElem? (i := 142) (by decide +kernel))) rfl
theorem tw_687 : (Cond.selects "LineGuard$Row" ⟨"LineGuard$Row", "hasAt", "(ILLineGuard$Row;I)Z"⟩ ⟨"LineGuard$Row", "hasAt", "(ILLineGuard$Row;I)Z"⟩ : Cond) ∈ uT := uni_mem (tt3 (List.mem_of_getElem? (i := 143) (by decide +kernel))) rfl
theorem tw_688 : (Cond.code ⟨"LineGuard$Row", "hasAt", "(ILLineGuard$Row;I)Z"⟩ prog_8_method_18_code 5 (some .boolean) : Cond) ∈ uT := uni_mem (tt3 (List.mem_of_getElem? (i := 144) rfl)) rfl
theorem tw_689 : (Cond.methodLink "LineGuardLaw" 64 ⟨"LineGuard", "prove", "(I)I"⟩ : Cond) ∈ uT := uni_mem (tt3 (List.mem_of_getElem? (i := 145) (by decide +kernel))) rfl
theorem tw_690 : (Cond.instanceMethod ⟨"LineGuard", "prove", "(I)I"⟩ : Cond) ∈ uT := uni_mem (tt3 (List.mem_of_getElem? (i := 146) (by decide +kernel))) rfl
theorem tw_691 : (Cond.selects "LineGuard" ⟨"LineGuard", "prove", "(I)I"⟩ ⟨"LineGuard", "prove", "(I)I"⟩ : Cond) ∈ uT := uni_mem (tt3 (List.mem_of_getElem? (i := 147) (by decide +kernel))) rfl
theorem tw_692 : (Cond.code ⟨"LineGuard", "prove", "(I)I"⟩ prog_1_method_13_code 3 (some .int) : Cond) ∈ uT := uni_mem (tt3 (List.mem_of_getElem? (i := 148) rfl)) rfl
theorem tw_693 : (Cond.methodLink "LineGuard" 142 ⟨"LineGuard$Rule", "hasLevel", "(I)Z"⟩ : Cond) ∈ uT := uni_mem (tt3 (List.mem_of_getElem? (i := 149) (by decide +kernel))) rfl
theorem tw_694 : (Cond.instanceMethod ⟨"LineGuard$Rule", "hasLevel", "(I)Z"⟩ : Cond) ∈ uT := uni_mem (tt3 (List.mem_of_getElem? (i := 150) (by decide +kernel))) rfl
theorem tw_695 : (Cond.sameMethod "LineGuard$Rule" "LineGuard$Rule" "hasLevel" "(I)Z" : Cond) ∈ uT := uni_mem (tt3 (List.mem_of_getElem? (i := 151) (by decide +kernel))) rfl
theorem tw_696 : (Cond.selects "LineGuard$NewerRule" ⟨"LineGuard$Rule", "hasLevel", "(I)Z"⟩ ⟨"LineGuard$Rule", "hasLevel", "(I)Z"⟩ : Cond) ∈ uT := uni_mem (tt3 (List.mem_of_getElem? (i := 152) (by decide +kernel))) rfl
theorem tw_697 : (Cond.selects "LineGuard$OlderRule" ⟨"LineGuard$Rule", "hasLevel", "(I)Z"⟩ ⟨"LineGuard$Rule", "hasLevel", "(I)Z"⟩ : Cond) ∈ uT := uni_mem (tt3 (List.mem_of_getElem? (i := 153) (by decide +kernel))) rfl
theorem tw_698 : (Cond.code ⟨"LineGuard$Rule", "hasLevel", "(I)Z"⟩ prog_9_method_11_code 2 (some .boolean) : Cond) ∈ uT := uni_mem (tt3 (List.mem_of_getElem? (i := 154) rfl)) rfl
theorem tw_699 : (Cond.methodLink "LineGuard$Rule" 35 ⟨"LineGuard$Rule", "hidesAnswers", "()Z"⟩ : Cond) ∈ uT := uni_mem (tt3 (List.mem_of_getElem? (i := 155) (by decide +kernel))) rfl
theorem tn_700 : (Cond.declares ⟨"LineGuard$Rule", "hidesAnswers", "()Z"⟩ : Cond) ∈ lw_tbl := tt3 (List.mem_of_getElem? (i := 156) (by decide +kernel))
theorem tw_701 : (Cond.sameMethod "LineGuard$Rule" "LineGuard$Rule" "hidesAnswers" "()Z" : Cond) ∈ uT := uni_mem (tt3 (List.mem_of_getElem? (i := 157) (by decide +kernel))) rfl
theorem tw_702 : (Cond.selects "LineGuard$NewerRule" ⟨"LineGuard$Rule", "hidesAnswers", "()Z"⟩ ⟨"LineGuard$NewerRule", "hidesAnswers", "()Z"⟩ : Cond) ∈ uT := uni_mem (tt3 (List.mem_of_getElem? (i := 158) (by decide +kernel))) rfl
theorem tw_703 : (Cond.instanceMethod ⟨"LineGuard$NewerRule", "hidesAnswers", "()Z"⟩ : Cond) ∈ uT := uni_mem (tt3 (List.mem_of_getElem? (i := 159) (by decide +kernel))) rfl
theorem tw_704 : (Cond.code ⟨"LineGuard$NewerRule", "hidesAnswers", "()Z"⟩ prog_6_method_3_code 1 (some .boolean) : Cond) ∈ uT := uni_mem (tt3 (List.mem_of_getElem? (i := 160) rfl)) rfl
theorem tw_705 : (Cond.selects "LineGuard$OlderRule" ⟨"LineGuard$Rule", "hidesAnswers", "()Z"⟩ ⟨"LineGuard$OlderRule", "hidesAnswers", "()Z"⟩ : Cond) ∈ uT := uni_mem (tt3 (List.mem_of_getElem? (i := 161) (by decide +kernel))) rfl
theorem tw_706 : (Cond.instanceMethod ⟨"LineGuard$OlderRule", "hidesAnswers", "()Z"⟩ : Cond) ∈ uT := uni_mem (tt3 (List.mem_of_getElem? (i := 162) (by decide +kernel))) rfl
theorem tw_707 : (Cond.code ⟨"LineGuard$OlderRule", "hidesAnswers", "()Z"⟩ prog_7_method_3_code 1 (some .boolean) : Cond) ∈ uT := uni_mem (tt3 (List.mem_of_getElem? (i := 163) rfl)) rfl
theorem tw_708 : (Cond.methodLink "LineGuard" 148 ⟨"LineGuard$Row", "add", "(I)V"⟩ : Cond) ∈ uT := uni_mem (tt3 (List.mem_of_getElem? (i := 164) (by decide +kernel))) rfl
theorem tw_709 : (Cond.methodLink "LineGuard" 154 ⟨"LineGuard$Row", "addAll", "(LLineGuard$Row;)V"⟩ : Cond) ∈ uT := uni_mem (tt3 (List.mem_of_getElem? (i := 165) (by decide +kernel))) rfl
theorem tw_710 : (Cond.methodLink "LineGuard" 157 ⟨"LineGuard$Rule", "secure", "(LLineGuard$Session;LLineGuard$Row;)V"⟩ : Cond) ∈ uT := uni_mem (tt3 (List.mem_of_getElem? (i := 166) (by decide +kernel))) rfl
theorem tn_711 : (Cond.declares ⟨"LineGuard$Rule", "secure", "(LLineGuard$Session;LLineGuard$Row;)V"⟩ : Cond) ∈ lw_tbl := tt3 (List.mem_of_getElem? (i := 167) (by decide +kernel))
theorem tw_712 : (Cond.sameMethod "LineGuard$Rule" "LineGuard$Rule" "secure" "(LLineGuard$Session;LLineGuard$Row;)V" : Cond) ∈ uT := uni_mem (tt3 (List.mem_of_getElem? (i := 168) (by decide +kernel))) rfl
theorem tw_713 : (Cond.selects "LineGuard$NewerRule" ⟨"LineGuard$Rule", "secure", "(LLineGuard$Session;LLineGuard$Row;)V"⟩ ⟨"LineGuard$NewerRule", "secure", "(LLineGuard$Session;LLineGuard$Row;)V"⟩ : Cond) ∈ uT := uni_mem (tt3 (List.mem_of_getElem? (i := 169) (by decide +kernel))) rfl
theorem tw_714 : (Cond.instanceMethod ⟨"LineGuard$NewerRule", "secure", "(LLineGuard$Session;LLineGuard$Row;)V"⟩ : Cond) ∈ uT := uni_mem (tt3 (List.mem_of_getElem? (i := 170) (by decide +kernel))) rfl
