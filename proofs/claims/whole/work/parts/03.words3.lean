theorem tw_715 : (Cond.code ⟨"LineGuard$NewerRule", "secure", "(LLineGuard$Session;LLineGuard$Row;)V"⟩ prog_6_method_6_code 3 none : Cond) ∈ uT := uni_mem (tt3 (List.mem_of_getElem? (i := 171) rfl)) rfl
theorem tw_716 : (Cond.methodLink "LineGuard$NewerRule" 89 ⟨"LineGuard$NewerRule", "hides", "(LLineGuard$Session;I)Z"⟩ : Cond) ∈ uT := uni_mem (tt3 (List.mem_of_getElem? (i := 172) (by decide +kernel))) rfl
theorem tw_717 : (Cond.sameMethod "LineGuard$NewerRule" "LineGuard$Rule" "hides" "(LLineGuard$Session;I)Z" : Cond) ∈ uT := uni_mem (tt3 (List.mem_of_getElem? (i := 173) (by decide +kernel))) rfl
theorem tn_718 : (Cond.declares ⟨"LineGuard$Rule", "hides", "(LLineGuard$Session;I)Z"⟩ : Cond) ∈ lw_tbl := tt3 (List.mem_of_getElem? (i := 174) (by decide +kernel))
theorem tw_719 : (Cond.selects "LineGuard$NewerRule" ⟨"LineGuard$NewerRule", "hides", "(LLineGuard$Session;I)Z"⟩ ⟨"LineGuard$Rule", "hides", "(LLineGuard$Session;I)Z"⟩ : Cond) ∈ uT := uni_mem (tt3 (List.mem_of_getElem? (i := 175) (by decide +kernel))) rfl
theorem tw_720 : (Cond.instanceMethod ⟨"LineGuard$Rule", "hides", "(LLineGuard$Session;I)Z"⟩ : Cond) ∈ uT := uni_mem (tt3 (List.mem_of_getElem? (i := 176) (by decide +kernel))) rfl
theorem tw_721 : (Cond.code ⟨"LineGuard$Rule", "hides", "(LLineGuard$Session;I)Z"⟩ prog_9_method_13_code 3 (some .boolean) : Cond) ∈ uT := uni_mem (tt3 (List.mem_of_getElem? (i := 177) rfl)) rfl
theorem tw_722 : (Cond.methodLink "LineGuard$Rule" 49 ⟨"LineGuard$Row", "size", "()I"⟩ : Cond) ∈ uT := uni_mem (tt3 (List.mem_of_getElem? (i := 178) (by decide +kernel))) rfl
theorem tw_723 : (Cond.methodLink "LineGuard$NewerRule" 93 ⟨"LineGuard$NewerRule", "hide", "(LLineGuard$Session;I)V"⟩ : Cond) ∈ uT := uni_mem (tt3 (List.mem_of_getElem? (i := 179) (by decide +kernel))) rfl
theorem tw_725 : (Cond.instanceMethod ⟨"LineGuard$NewerRule", "hide", "(LLineGuard$Session;I)V"⟩ : Cond) ∈ uT := uni_mem (tt3 (List.mem_of_getElem? (i := 181) (by decide +kernel))) rfl
theorem tw_726 : (Cond.code ⟨"LineGuard$NewerRule", "hide", "(LLineGuard$Session;I)V"⟩ prog_6_method_13_code 3 none : Cond) ∈ uT := uni_mem (tt3 (List.mem_of_getElem? (i := 182) rfl)) rfl
theorem tw_727 : (Cond.methodLink "LineGuard$NewerRule" 164 ⟨"LineGuard$NewerRule", "startFromCount", "(LLineGuard$Session;I)V"⟩ : Cond) ∈ uT := uni_mem (tt3 (List.mem_of_getElem? (i := 183) (by decide +kernel))) rfl
theorem tw_729 : (Cond.instanceMethod ⟨"LineGuard$NewerRule", "startFromCount", "(LLineGuard$Session;I)V"⟩ : Cond) ∈ uT := uni_mem (tt3 (List.mem_of_getElem? (i := 185) (by decide +kernel))) rfl
theorem tw_730 : (Cond.code ⟨"LineGuard$NewerRule", "startFromCount", "(LLineGuard$Session;I)V"⟩ prog_6_method_15_code 3 none : Cond) ∈ uT := uni_mem (tt3 (List.mem_of_getElem? (i := 186) rfl)) rfl
theorem tw_731 : (Cond.methodLink "LineGuard$NewerRule" 97 ⟨"LineGuard$NewerRule", "chainCommand", "(LLineGuard$Session;LLineGuard$Row;)V"⟩ : Cond) ∈ uT := uni_mem (tt3 (List.mem_of_getElem? (i := 187) (by decide +kernel))) rfl
theorem tw_733 : (Cond.instanceMethod ⟨"LineGuard$NewerRule", "chainCommand", "(LLineGuard$Session;LLineGuard$Row;)V"⟩ : Cond) ∈ uT := uni_mem (tt3 (List.mem_of_getElem? (i := 189) (by decide +kernel))) rfl
theorem tw_734 : (Cond.code ⟨"LineGuard$NewerRule", "chainCommand", "(LLineGuard$Session;LLineGuard$Row;)V"⟩ prog_6_method_11_code 3 none : Cond) ∈ uT := uni_mem (tt3 (List.mem_of_getElem? (i := 190) rfl)) rfl
theorem tw_735 : (Cond.methodLink "LineGuard$NewerRule" 152 ⟨"LineGuard$NewerRule", "addHead", "(LLineGuard$Row;I)V"⟩ : Cond) ∈ uT := uni_mem (tt3 (List.mem_of_getElem? (i := 191) (by decide +kernel))) rfl
theorem tw_736 : (Cond.sameMethod "LineGuard$NewerRule" "LineGuard$Rule" "addHead" "(LLineGuard$Row;I)V" : Cond) ∈ uT := uni_mem (tt3 (List.mem_of_getElem? (i := 192) (by decide +kernel))) rfl
theorem tn_737 : (Cond.declares ⟨"LineGuard$Rule", "addHead", "(LLineGuard$Row;I)V"⟩ : Cond) ∈ lw_tbl := tt3 (List.mem_of_getElem? (i := 193) (by decide +kernel))
theorem tw_738 : (Cond.selects "LineGuard$NewerRule" ⟨"LineGuard$NewerRule", "addHead", "(LLineGuard$Row;I)V"⟩ ⟨"LineGuard$Rule", "addHead", "(LLineGuard$Row;I)V"⟩ : Cond) ∈ uT := uni_mem (tt3 (List.mem_of_getElem? (i := 194) (by decide +kernel))) rfl
theorem tw_739 : (Cond.instanceMethod ⟨"LineGuard$Rule", "addHead", "(LLineGuard$Row;I)V"⟩ : Cond) ∈ uT := uni_mem (tt3 (List.mem_of_getElem? (i := 195) (by decide +kernel))) rfl
theorem tw_740 : (Cond.code ⟨"LineGuard$Rule", "addHead", "(LLineGuard$Row;I)V"⟩ prog_9_method_14_code 3 none : Cond) ∈ uT := uni_mem (tt3 (List.mem_of_getElem? (i := 196) rfl)) rfl
theorem tw_741 : (Cond.methodLink "LineGuard$Rule" 52 ⟨"LineGuard$Row", "at", "(I)I"⟩ : Cond) ∈ uT := uni_mem (tt3 (List.mem_of_getElem? (i := 197) (by decide +kernel))) rfl
theorem tw_742 : (Cond.methodLink "LineGuard$Rule" 56 ⟨"LineGuard$Row", "add", "(I)V"⟩ : Cond) ∈ uT := uni_mem (tt3 (List.mem_of_getElem? (i := 198) (by decide +kernel))) rfl
theorem tw_743 : (Cond.methodLink "LineGuard$Rule" 59 ⟨"LineGuard$Row", "addPart", "(LLineGuard$Row;II)V"⟩ : Cond) ∈ uT := uni_mem (tt3 (List.mem_of_getElem? (i := 199) (by decide +kernel))) rfl
theorem tw_744 : (Cond.methodLink "LineGuard$NewerRule" 104 ⟨"LineGuard$NewerRule", "putCommand", "(LLineGuard$Row;LLineGuard$Row;LLineGuard$Row;)V"⟩ : Cond) ∈ uT := uni_mem (tt3 (List.mem_of_getElem? (i := 200) (by decide +kernel))) rfl
theorem tw_745 : (Cond.sameMethod "LineGuard$NewerRule" "LineGuard$Rule" "putCommand" "(LLineGuard$Row;LLineGuard$Row;LLineGuard$Row;)V" : Cond) ∈ uT := uni_mem (tt3 (List.mem_of_getElem? (i := 201) (by decide +kernel))) rfl
theorem tn_746 : (Cond.declares ⟨"LineGuard$Rule", "putCommand", "(LLineGuard$Row;LLineGuard$Row;LLineGuard$Row;)V"⟩ : Cond) ∈ lw_tbl := tt3 (List.mem_of_getElem? (i := 202) (by decide +kernel))
theorem tw_747 : (Cond.selects "LineGuard$NewerRule" ⟨"LineGuard$NewerRule", "putCommand", "(LLineGuard$Row;LLineGuard$Row;LLineGuard$Row;)V"⟩ ⟨"LineGuard$Rule", "putCommand", "(LLineGuard$Row;LLineGuard$Row;LLineGuard$Row;)V"⟩ : Cond) ∈ uT := uni_mem (tt3 (List.mem_of_getElem? (i := 203) (by decide +kernel))) rfl
theorem tw_748 : (Cond.instanceMethod ⟨"LineGuard$Rule", "putCommand", "(LLineGuard$Row;LLineGuard$Row;LLineGuard$Row;)V"⟩ : Cond) ∈ uT := uni_mem (tt3 (List.mem_of_getElem? (i := 204) (by decide +kernel))) rfl
theorem tw_749 : (Cond.code ⟨"LineGuard$Rule", "putCommand", "(LLineGuard$Row;LLineGuard$Row;LLineGuard$Row;)V"⟩ prog_9_method_15_code 4 none : Cond) ∈ uT := uni_mem (tt3 (List.mem_of_getElem? (i := 205) rfl)) rfl
theorem tw_750 : (Cond.methodLink "LineGuard$Rule" 63 ⟨"LineGuard$Row", "clear", "()V"⟩ : Cond) ∈ uT := uni_mem (tt3 (List.mem_of_getElem? (i := 206) (by decide +kernel))) rfl
theorem tw_751 : (Cond.methodLink "LineGuard$Rule" 66 ⟨"LineGuard$Row", "addAll", "(LLineGuard$Row;)V"⟩ : Cond) ∈ uT := uni_mem (tt3 (List.mem_of_getElem? (i := 207) (by decide +kernel))) rfl
theorem tw_752 : (Cond.selects "LineGuard$OlderRule" ⟨"LineGuard$Rule", "secure", "(LLineGuard$Session;LLineGuard$Row;)V"⟩ ⟨"LineGuard$OlderRule", "secure", "(LLineGuard$Session;LLineGuard$Row;)V"⟩ : Cond) ∈ uT := uni_mem (tt3 (List.mem_of_getElem? (i := 208) (by decide +kernel))) rfl
theorem tw_753 : (Cond.instanceMethod ⟨"LineGuard$OlderRule", "secure", "(LLineGuard$Session;LLineGuard$Row;)V"⟩ : Cond) ∈ uT := uni_mem (tt3 (List.mem_of_getElem? (i := 209) (by decide +kernel))) rfl
theorem tw_754 : (Cond.code ⟨"LineGuard$OlderRule", "secure", "(LLineGuard$Session;LLineGuard$Row;)V"⟩ prog_7_method_6_code 3 none : Cond) ∈ uT := uni_mem (tt3 (List.mem_of_getElem? (i := 210) rfl)) rfl
theorem tw_755 : (Cond.methodLink "LineGuard$OlderRule" 85 ⟨"LineGuard$OlderRule", "chainCommand", "(LLineGuard$Session;)V"⟩ : Cond) ∈ uT := uni_mem (tt3 (List.mem_of_getElem? (i := 211) (by decide +kernel))) rfl
theorem tw_757 : (Cond.instanceMethod ⟨"LineGuard$OlderRule", "chainCommand", "(LLineGuard$Session;)V"⟩ : Cond) ∈ uT := uni_mem (tt3 (List.mem_of_getElem? (i := 213) (by decide +kernel))) rfl
theorem tw_758 : (Cond.code ⟨"LineGuard$OlderRule", "chainCommand", "(LLineGuard$Session;)V"⟩ prog_7_method_12_code 2 none : Cond) ∈ uT := uni_mem (tt3 (List.mem_of_getElem? (i := 214) rfl)) rfl
theorem tw_759 : (Cond.methodLink "LineGuard$OlderRule" 173 ⟨"LineGuard$OlderRule", "addHead", "(LLineGuard$Row;I)V"⟩ : Cond) ∈ uT := uni_mem (tt3 (List.mem_of_getElem? (i := 215) (by decide +kernel))) rfl
theorem tw_760 : (Cond.sameMethod "LineGuard$OlderRule" "LineGuard$Rule" "addHead" "(LLineGuard$Row;I)V" : Cond) ∈ uT := uni_mem (tt3 (List.mem_of_getElem? (i := 216) (by decide +kernel))) rfl
theorem tw_761 : (Cond.selects "LineGuard$OlderRule" ⟨"LineGuard$OlderRule", "addHead", "(LLineGuard$Row;I)V"⟩ ⟨"LineGuard$Rule", "addHead", "(LLineGuard$Row;I)V"⟩ : Cond) ∈ uT := uni_mem (tt3 (List.mem_of_getElem? (i := 217) (by decide +kernel))) rfl
theorem tw_762 : (Cond.methodLink "LineGuard$OlderRule" 177 ⟨"LineGuard$Row", "addPart", "(LLineGuard$Row;II)V"⟩ : Cond) ∈ uT := uni_mem (tt3 (List.mem_of_getElem? (i := 218) (by decide +kernel))) rfl
theorem tw_763 : (Cond.methodLink "LineGuard$OlderRule" 103 ⟨"LineGuard$OlderRule", "hides", "(LLineGuard$Session;I)Z"⟩ : Cond) ∈ uT := uni_mem (tt3 (List.mem_of_getElem? (i := 219) (by decide +kernel))) rfl
theorem tw_764 : (Cond.sameMethod "LineGuard$OlderRule" "LineGuard$Rule" "hides" "(LLineGuard$Session;I)Z" : Cond) ∈ uT := uni_mem (tt3 (List.mem_of_getElem? (i := 220) (by decide +kernel))) rfl
theorem tw_765 : (Cond.selects "LineGuard$OlderRule" ⟨"LineGuard$OlderRule", "hides", "(LLineGuard$Session;I)Z"⟩ ⟨"LineGuard$Rule", "hides", "(LLineGuard$Session;I)Z"⟩ : Cond) ∈ uT := uni_mem (tt3 (List.mem_of_getElem? (i := 221) (by decide +kernel))) rfl
theorem tw_766 : (Cond.methodLink "LineGuard$OlderRule" 123 ⟨"LineGuard$OlderRule", "putCommand", "(LLineGuard$Row;LLineGuard$Row;LLineGuard$Row;)V"⟩ : Cond) ∈ uT := uni_mem (tt3 (List.mem_of_getElem? (i := 222) (by decide +kernel))) rfl
theorem tw_767 : (Cond.sameMethod "LineGuard$OlderRule" "LineGuard$Rule" "putCommand" "(LLineGuard$Row;LLineGuard$Row;LLineGuard$Row;)V" : Cond) ∈ uT := uni_mem (tt3 (List.mem_of_getElem? (i := 223) (by decide +kernel))) rfl
theorem tw_768 : (Cond.selects "LineGuard$OlderRule" ⟨"LineGuard$OlderRule", "putCommand", "(LLineGuard$Row;LLineGuard$Row;LLineGuard$Row;)V"⟩ ⟨"LineGuard$Rule", "putCommand", "(LLineGuard$Row;LLineGuard$Row;LLineGuard$Row;)V"⟩ : Cond) ∈ uT := uni_mem (tt3 (List.mem_of_getElem? (i := 224) (by decide +kernel))) rfl
theorem tw_769 : (Cond.methodLink "LineGuard" 161 ⟨"LineGuard$Session", "open", "(I)V"⟩ : Cond) ∈ uT := uni_mem (tt3 (List.mem_of_getElem? (i := 225) (by decide +kernel))) rfl
theorem tw_770 : (Cond.instanceMethod ⟨"LineGuard$Session", "open", "(I)V"⟩ : Cond) ∈ uT := uni_mem (tt3 (List.mem_of_getElem? (i := 226) (by decide +kernel))) rfl
theorem tw_771 : (Cond.selects "LineGuard$Session" ⟨"LineGuard$Session", "open", "(I)V"⟩ ⟨"LineGuard$Session", "open", "(I)V"⟩ : Cond) ∈ uT := uni_mem (tt3 (List.mem_of_getElem? (i := 227) (by decide +kernel))) rfl
theorem tw_772 : (Cond.code ⟨"LineGuard$Session", "open", "(I)V"⟩ prog_10_method_3_code 2 none : Cond) ∈ uT := uni_mem (tt3 (List.mem_of_getElem? (i := 228) rfl)) rfl
theorem tw_773 : (Cond.methodLink "LineGuard$Session" 67 ⟨"LineGuard$Row", "copyPart", "(LLineGuard$Row;II)V"⟩ : Cond) ∈ uT := uni_mem (tt3 (List.mem_of_getElem? (i := 229) (by decide +kernel))) rfl
theorem tw_774 : (Cond.methodLink "LineGuardLaw" 68 ⟨"LineGuard", "send", "()I"⟩ : Cond) ∈ uT := uni_mem (tt3 (List.mem_of_getElem? (i := 230) (by decide +kernel))) rfl
theorem tw_775 : (Cond.instanceMethod ⟨"LineGuard", "send", "()I"⟩ : Cond) ∈ uT := uni_mem (tt3 (List.mem_of_getElem? (i := 231) (by decide +kernel))) rfl
theorem tw_776 : (Cond.selects "LineGuard" ⟨"LineGuard", "send", "()I"⟩ ⟨"LineGuard", "send", "()I"⟩ : Cond) ∈ uT := uni_mem (tt3 (List.mem_of_getElem? (i := 232) (by decide +kernel))) rfl
theorem tw_777 : (Cond.code ⟨"LineGuard", "send", "()I"⟩ prog_1_method_14_code 3 (some .int) : Cond) ∈ uT := uni_mem (tt3 (List.mem_of_getElem? (i := 233) rfl)) rfl
theorem tw_778 : (Cond.methodLink "LineGuard" 164 ⟨"LineGuard$Session", "isOpenWith", "(I)Z"⟩ : Cond) ∈ uT := uni_mem (tt3 (List.mem_of_getElem? (i := 234) (by decide +kernel))) rfl
theorem tw_779 : (Cond.instanceMethod ⟨"LineGuard$Session", "isOpenWith", "(I)Z"⟩ : Cond) ∈ uT := uni_mem (tt3 (List.mem_of_getElem? (i := 235) (by decide +kernel))) rfl
theorem tw_780 : (Cond.selects "LineGuard$Session" ⟨"LineGuard$Session", "isOpenWith", "(I)Z"⟩ ⟨"LineGuard$Session", "isOpenWith", "(I)Z"⟩ : Cond) ∈ uT := uni_mem (tt3 (List.mem_of_getElem? (i := 236) (by decide +kernel))) rfl
theorem tw_781 : (Cond.code ⟨"LineGuard$Session", "isOpenWith", "(I)Z"⟩ prog_10_method_5_code 2 (some .boolean) : Cond) ∈ uT := uni_mem (tt3 (List.mem_of_getElem? (i := 237) rfl)) rfl
theorem tw_782 : (Cond.methodLink "LineGuardLaw" 72 ⟨"LineGuard", "take", "()I"⟩ : Cond) ∈ uT := uni_mem (tt3 (List.mem_of_getElem? (i := 238) (by decide +kernel))) rfl
theorem tw_783 : (Cond.instanceMethod ⟨"LineGuard", "take", "()I"⟩ : Cond) ∈ uT := uni_mem (tt3 (List.mem_of_getElem? (i := 239) (by decide +kernel))) rfl
theorem tw_784 : (Cond.selects "LineGuard" ⟨"LineGuard", "take", "()I"⟩ ⟨"LineGuard", "take", "()I"⟩ : Cond) ∈ uT := uni_mem (tt4 (List.mem_of_getElem? (i := 0) (by decide +kernel))) rfl
theorem tw_785 : (Cond.code ⟨"LineGuard", "take", "()I"⟩ prog_1_method_15_code 5 (some .int) : Cond) ∈ uT := uni_mem (tt4 (List.mem_of_getElem? (i := 1) rfl)) rfl
theorem tw_786 : (Cond.methodLink "LineGuard" 174 ⟨"LineGuard", "isProving", "(LLineGuard$Rule;)Z"⟩ : Cond) ∈ uT := uni_mem (tt4 (List.mem_of_getElem? (i := 2) (by decide +kernel))) rfl
theorem tw_788 : (Cond.instanceMethod ⟨"LineGuard", "isProving", "(LLineGuard$Rule;)Z"⟩ : Cond) ∈ uT := uni_mem (tt4 (List.mem_of_getElem? (i := 4) (by decide +kernel))) rfl
theorem tw_789 : (Cond.code ⟨"LineGuard", "isProving", "(LLineGuard$Rule;)Z"⟩ prog_1_method_26_code 2 (some .boolean) : Cond) ∈ uT := uni_mem (tt4 (List.mem_of_getElem? (i := 5) rfl)) rfl
theorem tw_790 : (Cond.methodLink "LineGuard" 220 ⟨"LineGuard$Row", "hasAt", "(ILLineGuard$Row;I)Z"⟩ : Cond) ∈ uT := uni_mem (tt4 (List.mem_of_getElem? (i := 6) (by decide +kernel))) rfl
theorem tw_791 : (Cond.methodLink "LineGuard" 178 ⟨"LineGuard$Rule", "openSecured", "(LLineGuard$Session;LLineGuard$Row;)Z"⟩ : Cond) ∈ uT := uni_mem (tt4 (List.mem_of_getElem? (i := 7) (by decide +kernel))) rfl
theorem tn_792 : (Cond.declares ⟨"LineGuard$Rule", "openSecured", "(LLineGuard$Session;LLineGuard$Row;)Z"⟩ : Cond) ∈ lw_tbl := tt4 (List.mem_of_getElem? (i := 8) (by decide +kernel))
theorem tw_793 : (Cond.sameMethod "LineGuard$Rule" "LineGuard$Rule" "openSecured" "(LLineGuard$Session;LLineGuard$Row;)Z" : Cond) ∈ uT := uni_mem (tt4 (List.mem_of_getElem? (i := 9) (by decide +kernel))) rfl
theorem tw_794 : (Cond.selects "LineGuard$NewerRule" ⟨"LineGuard$Rule", "openSecured", "(LLineGuard$Session;LLineGuard$Row;)Z"⟩ ⟨"LineGuard$NewerRule", "openSecured", "(LLineGuard$Session;LLineGuard$Row;)Z"⟩ : Cond) ∈ uT := uni_mem (tt4 (List.mem_of_getElem? (i := 10) (by decide +kernel))) rfl
theorem tw_795 : (Cond.instanceMethod ⟨"LineGuard$NewerRule", "openSecured", "(LLineGuard$Session;LLineGuard$Row;)Z"⟩ : Cond) ∈ uT := uni_mem (tt4 (List.mem_of_getElem? (i := 11) (by decide +kernel))) rfl
theorem tw_796 : (Cond.code ⟨"LineGuard$NewerRule", "openSecured", "(LLineGuard$Session;LLineGuard$Row;)Z"⟩ prog_6_method_7_code 3 (some .boolean) : Cond) ∈ uT := uni_mem (tt4 (List.mem_of_getElem? (i := 12) rfl)) rfl
theorem tw_797 : (Cond.methodLink "LineGuard$NewerRule" 108 ⟨"LineGuard$NewerRule", "splitCommand", "(LLineGuard$Row;)Z"⟩ : Cond) ∈ uT := uni_mem (tt4 (List.mem_of_getElem? (i := 13) (by decide +kernel))) rfl
theorem tw_798 : (Cond.sameMethod "LineGuard$NewerRule" "LineGuard$Rule" "splitCommand" "(LLineGuard$Row;)Z" : Cond) ∈ uT := uni_mem (tt4 (List.mem_of_getElem? (i := 14) (by decide +kernel))) rfl
theorem tn_799 : (Cond.declares ⟨"LineGuard$Rule", "splitCommand", "(LLineGuard$Row;)Z"⟩ : Cond) ∈ lw_tbl := tt4 (List.mem_of_getElem? (i := 15) (by decide +kernel))
theorem tw_800 : (Cond.selects "LineGuard$NewerRule" ⟨"LineGuard$NewerRule", "splitCommand", "(LLineGuard$Row;)Z"⟩ ⟨"LineGuard$Rule", "splitCommand", "(LLineGuard$Row;)Z"⟩ : Cond) ∈ uT := uni_mem (tt4 (List.mem_of_getElem? (i := 16) (by decide +kernel))) rfl
theorem tw_801 : (Cond.instanceMethod ⟨"LineGuard$Rule", "splitCommand", "(LLineGuard$Row;)Z"⟩ : Cond) ∈ uT := uni_mem (tt4 (List.mem_of_getElem? (i := 17) (by decide +kernel))) rfl
theorem tw_802 : (Cond.code ⟨"LineGuard$Rule", "splitCommand", "(LLineGuard$Row;)Z"⟩ prog_9_method_16_code 2 (some .boolean) : Cond) ∈ uT := uni_mem (tt4 (List.mem_of_getElem? (i := 18) rfl)) rfl
theorem tw_803 : (Cond.methodLink "LineGuard$Rule" 70 ⟨"LineGuard$Row", "copyPart", "(LLineGuard$Row;II)V"⟩ : Cond) ∈ uT := uni_mem (tt4 (List.mem_of_getElem? (i := 19) (by decide +kernel))) rfl
theorem tw_804 : (Cond.methodLink "LineGuard$NewerRule" 112 ⟨"LineGuard$Row", "endsWithCode", "(LLineGuard$Row;)Z"⟩ : Cond) ∈ uT := uni_mem (tt4 (List.mem_of_getElem? (i := 20) (by decide +kernel))) rfl
theorem tw_805 : (Cond.instanceMethod ⟨"LineGuard$Row", "endsWithCode", "(LLineGuard$Row;)Z"⟩ : Cond) ∈ uT := uni_mem (tt4 (List.mem_of_getElem? (i := 21) (by decide +kernel))) rfl
theorem tw_806 : (Cond.selects "LineGuard$Row" ⟨"LineGuard$Row", "endsWithCode", "(LLineGuard$Row;)Z"⟩ ⟨"LineGuard$Row", "endsWithCode", "(LLineGuard$Row;)Z"⟩ : Cond) ∈ uT := uni_mem (tt4 (List.mem_of_getElem? (i := 22) (by decide +kernel))) rfl
theorem tw_807 : (Cond.code ⟨"LineGuard$Row", "endsWithCode", "(LLineGuard$Row;)Z"⟩ prog_8_method_17_code 2 (some .boolean) : Cond) ∈ uT := uni_mem (tt4 (List.mem_of_getElem? (i := 23) rfl)) rfl
theorem tw_808 : (Cond.methodLink "LineGuard$NewerRule" 115 ⟨"LineGuard$NewerRule", "show", "(LLineGuard$Session;I)Z"⟩ : Cond) ∈ uT := uni_mem (tt4 (List.mem_of_getElem? (i := 24) (by decide +kernel))) rfl
theorem tw_810 : (Cond.instanceMethod ⟨"LineGuard$NewerRule", "show", "(LLineGuard$Session;I)Z"⟩ : Cond) ∈ uT := uni_mem (tt4 (List.mem_of_getElem? (i := 26) (by decide +kernel))) rfl
theorem tw_811 : (Cond.code ⟨"LineGuard$NewerRule", "show", "(LLineGuard$Session;I)Z"⟩ prog_6_method_14_code 3 (some .boolean) : Cond) ∈ uT := uni_mem (tt4 (List.mem_of_getElem? (i := 27) rfl)) rfl
theorem tw_812 : (Cond.methodLink "LineGuard$NewerRule" 143 ⟨"LineGuard$Aes", "chainBack", "(LLineGuard$Row;II)V"⟩ : Cond) ∈ uT := uni_mem (tt4 (List.mem_of_getElem? (i := 28) (by decide +kernel))) rfl
theorem tw_813 : (Cond.sameMethod "LineGuard$Aes" "LineGuard$BlockCipher" "chainBack" "(LLineGuard$Row;II)V" : Cond) ∈ uT := uni_mem (tt4 (List.mem_of_getElem? (i := 29) (by decide +kernel))) rfl
theorem tn_814 : (Cond.declares ⟨"LineGuard$BlockCipher", "chainBack", "(LLineGuard$Row;II)V"⟩ : Cond) ∈ lw_tbl := tt4 (List.mem_of_getElem? (i := 30) (by decide +kernel))
theorem tw_815 : (Cond.selects "LineGuard$Aes" ⟨"LineGuard$Aes", "chainBack", "(LLineGuard$Row;II)V"⟩ ⟨"LineGuard$BlockCipher", "chainBack", "(LLineGuard$Row;II)V"⟩ : Cond) ∈ uT := uni_mem (tt4 (List.mem_of_getElem? (i := 31) (by decide +kernel))) rfl
theorem tw_816 : (Cond.instanceMethod ⟨"LineGuard$BlockCipher", "chainBack", "(LLineGuard$Row;II)V"⟩ : Cond) ∈ uT := uni_mem (tt4 (List.mem_of_getElem? (i := 32) (by decide +kernel))) rfl
theorem tw_817 : (Cond.code ⟨"LineGuard$BlockCipher", "chainBack", "(LLineGuard$Row;II)V"⟩ prog_3_method_6_code 7 none : Cond) ∈ uT := uni_mem (tt4 (List.mem_of_getElem? (i := 33) rfl)) rfl
theorem tw_818 : (Cond.methodLink "LineGuard$BlockCipher" 29 ⟨"LineGuard$BlockCipher", "back", "()V"⟩ : Cond) ∈ uT := uni_mem (tt4 (List.mem_of_getElem? (i := 34) (by decide +kernel))) rfl
theorem tn_819 : (Cond.declares ⟨"LineGuard$BlockCipher", "back", "()V"⟩ : Cond) ∈ lw_tbl := tt4 (List.mem_of_getElem? (i := 35) (by decide +kernel))
theorem tw_820 : (Cond.sameMethod "LineGuard$BlockCipher" "LineGuard$BlockCipher" "back" "()V" : Cond) ∈ uT := uni_mem (tt4 (List.mem_of_getElem? (i := 36) (by decide +kernel))) rfl
theorem tw_821 : (Cond.selects "LineGuard$Aes" ⟨"LineGuard$BlockCipher", "back", "()V"⟩ ⟨"LineGuard$Aes", "back", "()V"⟩ : Cond) ∈ uT := uni_mem (tt4 (List.mem_of_getElem? (i := 37) (by decide +kernel))) rfl
theorem tw_822 : (Cond.instanceMethod ⟨"LineGuard$Aes", "back", "()V"⟩ : Cond) ∈ uT := uni_mem (tt4 (List.mem_of_getElem? (i := 38) (by decide +kernel))) rfl
theorem tw_823 : (Cond.code ⟨"LineGuard$Aes", "back", "()V"⟩ prog_2_method_4_code 3 none : Cond) ∈ uT := uni_mem (tt4 (List.mem_of_getElem? (i := 39) rfl)) rfl
theorem tw_824 : (Cond.methodLink "LineGuard$Aes" 59 ⟨"LineGuard$Aes", "beforeMix", "(I)I"⟩ : Cond) ∈ uT := uni_mem (tt4 (List.mem_of_getElem? (i := 40) (by decide +kernel))) rfl
theorem tw_825 : (Cond.static ⟨"LineGuard$Aes", "beforeMix", "(I)I"⟩ : Cond) ∈ uT := uni_mem (tt4 (List.mem_of_getElem? (i := 41) (by decide +kernel))) rfl
theorem tw_826 : (Cond.code ⟨"LineGuard$Aes", "beforeMix", "(I)I"⟩ prog_2_method_11_code 2 (some .int) : Cond) ∈ uT := uni_mem (tt4 (List.mem_of_getElem? (i := 42) rfl)) rfl
theorem tw_827 : (Cond.constant "LineGuard$Aes" 67 (1061109567) : Cond) ∈ uT := uni_mem (tt4 (List.mem_of_getElem? (i := 43) (by decide +kernel))) rfl
theorem tw_828 : (Cond.selects "LineGuard$Des" ⟨"LineGuard$BlockCipher", "back", "()V"⟩ ⟨"LineGuard$Des", "back", "()V"⟩ : Cond) ∈ uT := uni_mem (tt4 (List.mem_of_getElem? (i := 44) (by decide +kernel))) rfl
theorem tw_829 : (Cond.instanceMethod ⟨"LineGuard$Des", "back", "()V"⟩ : Cond) ∈ uT := uni_mem (tt4 (List.mem_of_getElem? (i := 45) (by decide +kernel))) rfl
theorem tw_830 : (Cond.code ⟨"LineGuard$Des", "back", "()V"⟩ prog_4_method_5_code 3 none : Cond) ∈ uT := uni_mem (tt4 (List.mem_of_getElem? (i := 46) rfl)) rfl
theorem tw_831 : (Cond.methodLink "LineGuard$NewerRule" 171 ⟨"LineGuard$Row", "unpad", "()Z"⟩ : Cond) ∈ uT := uni_mem (tt4 (List.mem_of_getElem? (i := 47) (by decide +kernel))) rfl
theorem tw_832 : (Cond.instanceMethod ⟨"LineGuard$Row", "unpad", "()Z"⟩ : Cond) ∈ uT := uni_mem (tt4 (List.mem_of_getElem? (i := 48) (by decide +kernel))) rfl
theorem tw_833 : (Cond.selects "LineGuard$Row" ⟨"LineGuard$Row", "unpad", "()Z"⟩ ⟨"LineGuard$Row", "unpad", "()Z"⟩ : Cond) ∈ uT := uni_mem (tt4 (List.mem_of_getElem? (i := 49) (by decide +kernel))) rfl
theorem tw_834 : (Cond.code ⟨"LineGuard$Row", "unpad", "()Z"⟩ prog_8_method_15_code 2 (some .boolean) : Cond) ∈ uT := uni_mem (tt4 (List.mem_of_getElem? (i := 50) rfl)) rfl
theorem tw_835 : (Cond.methodLink "LineGuard$NewerRule" 118 ⟨"LineGuard$NewerRule", "joinCommand", "(LLineGuard$Row;LLineGuard$Row;)Z"⟩ : Cond) ∈ uT := uni_mem (tt4 (List.mem_of_getElem? (i := 51) (by decide +kernel))) rfl
theorem tw_836 : (Cond.sameMethod "LineGuard$NewerRule" "LineGuard$Rule" "joinCommand" "(LLineGuard$Row;LLineGuard$Row;)Z" : Cond) ∈ uT := uni_mem (tt4 (List.mem_of_getElem? (i := 52) (by decide +kernel))) rfl
theorem tn_837 : (Cond.declares ⟨"LineGuard$Rule", "joinCommand", "(LLineGuard$Row;LLineGuard$Row;)Z"⟩ : Cond) ∈ lw_tbl := tt4 (List.mem_of_getElem? (i := 53) (by decide +kernel))
theorem tw_838 : (Cond.selects "LineGuard$NewerRule" ⟨"LineGuard$NewerRule", "joinCommand", "(LLineGuard$Row;LLineGuard$Row;)Z"⟩ ⟨"LineGuard$Rule", "joinCommand", "(LLineGuard$Row;LLineGuard$Row;)Z"⟩ : Cond) ∈ uT := uni_mem (tt4 (List.mem_of_getElem? (i := 54) (by decide +kernel))) rfl
theorem tw_839 : (Cond.instanceMethod ⟨"LineGuard$Rule", "joinCommand", "(LLineGuard$Row;LLineGuard$Row;)Z"⟩ : Cond) ∈ uT := uni_mem (tt4 (List.mem_of_getElem? (i := 55) (by decide +kernel))) rfl
theorem tw_840 : (Cond.code ⟨"LineGuard$Rule", "joinCommand", "(LLineGuard$Row;LLineGuard$Row;)Z"⟩ prog_9_method_17_code 3 (some .boolean) : Cond) ∈ uT := uni_mem (tt4 (List.mem_of_getElem? (i := 56) rfl)) rfl
theorem tw_841 : (Cond.selects "LineGuard$OlderRule" ⟨"LineGuard$Rule", "openSecured", "(LLineGuard$Session;LLineGuard$Row;)Z"⟩ ⟨"LineGuard$OlderRule", "openSecured", "(LLineGuard$Session;LLineGuard$Row;)Z"⟩ : Cond) ∈ uT := uni_mem (tt4 (List.mem_of_getElem? (i := 57) (by decide +kernel))) rfl
theorem tw_842 : (Cond.instanceMethod ⟨"LineGuard$OlderRule", "openSecured", "(LLineGuard$Session;LLineGuard$Row;)Z"⟩ : Cond) ∈ uT := uni_mem (tt4 (List.mem_of_getElem? (i := 58) (by decide +kernel))) rfl
theorem tw_843 : (Cond.code ⟨"LineGuard$OlderRule", "openSecured", "(LLineGuard$Session;LLineGuard$Row;)Z"⟩ prog_7_method_7_code 3 (some .boolean) : Cond) ∈ uT := uni_mem (tt4 (List.mem_of_getElem? (i := 59) rfl)) rfl
theorem tw_844 : (Cond.methodLink "LineGuard$OlderRule" 126 ⟨"LineGuard$OlderRule", "splitCommand", "(LLineGuard$Row;)Z"⟩ : Cond) ∈ uT := uni_mem (tt4 (List.mem_of_getElem? (i := 60) (by decide +kernel))) rfl
theorem tw_845 : (Cond.sameMethod "LineGuard$OlderRule" "LineGuard$Rule" "splitCommand" "(LLineGuard$Row;)Z" : Cond) ∈ uT := uni_mem (tt4 (List.mem_of_getElem? (i := 61) (by decide +kernel))) rfl
theorem tw_846 : (Cond.selects "LineGuard$OlderRule" ⟨"LineGuard$OlderRule", "splitCommand", "(LLineGuard$Row;)Z"⟩ ⟨"LineGuard$Rule", "splitCommand", "(LLineGuard$Row;)Z"⟩ : Cond) ∈ uT := uni_mem (tt4 (List.mem_of_getElem? (i := 62) (by decide +kernel))) rfl
theorem tw_847 : (Cond.methodLink "LineGuard$OlderRule" 130 ⟨"LineGuard$OlderRule", "show", "(LLineGuard$Session;)Z"⟩ : Cond) ∈ uT := uni_mem (tt4 (List.mem_of_getElem? (i := 63) (by decide +kernel))) rfl
theorem tw_849 : (Cond.instanceMethod ⟨"LineGuard$OlderRule", "show", "(LLineGuard$Session;)Z"⟩ : Cond) ∈ uT := uni_mem (tt4 (List.mem_of_getElem? (i := 65) (by decide +kernel))) rfl
theorem tw_850 : (Cond.code ⟨"LineGuard$OlderRule", "show", "(LLineGuard$Session;)Z"⟩ prog_7_method_13_code 2 (some .boolean) : Cond) ∈ uT := uni_mem (tt4 (List.mem_of_getElem? (i := 66) rfl)) rfl
theorem tw_851 : (Cond.methodLink "LineGuard$OlderRule" 180 ⟨"LineGuard$OlderRule", "isBlocks", "(I)Z"⟩ : Cond) ∈ uT := uni_mem (tt4 (List.mem_of_getElem? (i := 67) (by decide +kernel))) rfl
theorem tw_852 : (Cond.sameMethod "LineGuard$OlderRule" "LineGuard$Rule" "isBlocks" "(I)Z" : Cond) ∈ uT := uni_mem (tt4 (List.mem_of_getElem? (i := 68) (by decide +kernel))) rfl
theorem tw_853 : (Cond.selects "LineGuard$OlderRule" ⟨"LineGuard$OlderRule", "isBlocks", "(I)Z"⟩ ⟨"LineGuard$Rule", "isBlocks", "(I)Z"⟩ : Cond) ∈ uT := uni_mem (tt4 (List.mem_of_getElem? (i := 69) (by decide +kernel))) rfl
theorem tw_854 : (Cond.methodLink "LineGuard$OlderRule" 157 ⟨"LineGuard$Des", "chainBack", "(LLineGuard$Row;II)V"⟩ : Cond) ∈ uT := uni_mem (tt4 (List.mem_of_getElem? (i := 70) (by decide +kernel))) rfl
theorem tw_855 : (Cond.sameMethod "LineGuard$Des" "LineGuard$BlockCipher" "chainBack" "(LLineGuard$Row;II)V" : Cond) ∈ uT := uni_mem (tt4 (List.mem_of_getElem? (i := 71) (by decide +kernel))) rfl
theorem tw_856 : (Cond.selects "LineGuard$Des" ⟨"LineGuard$Des", "chainBack", "(LLineGuard$Row;II)V"⟩ ⟨"LineGuard$BlockCipher", "chainBack", "(LLineGuard$Row;II)V"⟩ : Cond) ∈ uT := uni_mem (tt4 (List.mem_of_getElem? (i := 72) (by decide +kernel))) rfl
theorem tw_857 : (Cond.methodLink "LineGuard$OlderRule" 183 ⟨"LineGuard$Row", "unpad", "()Z"⟩ : Cond) ∈ uT := uni_mem (tt4 (List.mem_of_getElem? (i := 73) (by decide +kernel))) rfl
theorem tw_858 : (Cond.methodLink "LineGuard$OlderRule" 134 ⟨"LineGuard$OlderRule", "joinCommand", "(LLineGuard$Row;LLineGuard$Row;)Z"⟩ : Cond) ∈ uT := uni_mem (tt4 (List.mem_of_getElem? (i := 74) (by decide +kernel))) rfl
theorem tw_859 : (Cond.sameMethod "LineGuard$OlderRule" "LineGuard$Rule" "joinCommand" "(LLineGuard$Row;LLineGuard$Row;)Z" : Cond) ∈ uT := uni_mem (tt4 (List.mem_of_getElem? (i := 75) (by decide +kernel))) rfl
theorem tw_860 : (Cond.selects "LineGuard$OlderRule" ⟨"LineGuard$OlderRule", "joinCommand", "(LLineGuard$Row;LLineGuard$Row;)Z"⟩ ⟨"LineGuard$Rule", "joinCommand", "(LLineGuard$Row;LLineGuard$Row;)Z"⟩ : Cond) ∈ uT := uni_mem (tt4 (List.mem_of_getElem? (i := 76) (by decide +kernel))) rfl
theorem tw_861 : (Cond.methodLink "LineGuard$OlderRule" 138 ⟨"LineGuard$Row", "endsWithCode", "(LLineGuard$Row;)Z"⟩ : Cond) ∈ uT := uni_mem (tt4 (List.mem_of_getElem? (i := 77) (by decide +kernel))) rfl
theorem tw_862 : (Cond.constant "LineGuard" 182 (36864) : Cond) ∈ uT := uni_mem (tt4 (List.mem_of_getElem? (i := 78) (by decide +kernel))) rfl
theorem tw_863 : (Cond.methodLink "LineGuardLaw" 76 ⟨"LineGuard", "answer", "(I)I"⟩ : Cond) ∈ uT := uni_mem (tt4 (List.mem_of_getElem? (i := 79) (by decide +kernel))) rfl
theorem tw_864 : (Cond.instanceMethod ⟨"LineGuard", "answer", "(I)I"⟩ : Cond) ∈ uT := uni_mem (tt4 (List.mem_of_getElem? (i := 80) (by decide +kernel))) rfl
theorem tw_865 : (Cond.selects "LineGuard" ⟨"LineGuard", "answer", "(I)I"⟩ ⟨"LineGuard", "answer", "(I)I"⟩ : Cond) ∈ uT := uni_mem (tt4 (List.mem_of_getElem? (i := 81) (by decide +kernel))) rfl
theorem tw_866 : (Cond.code ⟨"LineGuard", "answer", "(I)I"⟩ prog_1_method_16_code 3 (some .int) : Cond) ∈ uT := uni_mem (tt4 (List.mem_of_getElem? (i := 82) rfl)) rfl
theorem tw_867 : (Cond.methodLink "LineGuard" 183 ⟨"LineGuard$Session", "isAnswerable", "()Z"⟩ : Cond) ∈ uT := uni_mem (tt4 (List.mem_of_getElem? (i := 83) (by decide +kernel))) rfl
theorem tw_868 : (Cond.instanceMethod ⟨"LineGuard$Session", "isAnswerable", "()Z"⟩ : Cond) ∈ uT := uni_mem (tt4 (List.mem_of_getElem? (i := 84) (by decide +kernel))) rfl
theorem tw_869 : (Cond.selects "LineGuard$Session" ⟨"LineGuard$Session", "isAnswerable", "()Z"⟩ ⟨"LineGuard$Session", "isAnswerable", "()Z"⟩ : Cond) ∈ uT := uni_mem (tt4 (List.mem_of_getElem? (i := 85) (by decide +kernel))) rfl
theorem tw_870 : (Cond.code ⟨"LineGuard$Session", "isAnswerable", "()Z"⟩ prog_10_method_6_code 1 (some .boolean) : Cond) ∈ uT := uni_mem (tt4 (List.mem_of_getElem? (i := 86) rfl)) rfl
theorem tw_871 : (Cond.methodLink "LineGuard$Session" 71 ⟨"LineGuard$Session", "isOpenWith", "(I)Z"⟩ : Cond) ∈ uT := uni_mem (tt4 (List.mem_of_getElem? (i := 87) (by decide +kernel))) rfl
theorem tw_872 : (Cond.methodLink "LineGuard" 187 ⟨"LineGuard", "isSw", "(I)Z"⟩ : Cond) ∈ uT := uni_mem (tt4 (List.mem_of_getElem? (i := 88) (by decide +kernel))) rfl
theorem tw_873 : (Cond.static ⟨"LineGuard", "isSw", "(I)Z"⟩ : Cond) ∈ uT := uni_mem (tt4 (List.mem_of_getElem? (i := 89) (by decide +kernel))) rfl
theorem tw_874 : (Cond.code ⟨"LineGuard", "isSw", "(I)Z"⟩ prog_1_method_25_code 1 (some .boolean) : Cond) ∈ uT := uni_mem (tt4 (List.mem_of_getElem? (i := 90) rfl)) rfl
theorem tw_875 : (Cond.constant "LineGuard" 219 (65535) : Cond) ∈ uT := uni_mem (tt4 (List.mem_of_getElem? (i := 91) (by decide +kernel))) rfl
theorem tw_876 : (Cond.methodLink "LineGuard" 190 ⟨"LineGuard$Rule", "secureAnswer", "(LLineGuard$Session;LLineGuard$Row;ILLineGuard$Row;)V"⟩ : Cond) ∈ uT := uni_mem (tt4 (List.mem_of_getElem? (i := 92) (by decide +kernel))) rfl
theorem tn_877 : (Cond.declares ⟨"LineGuard$Rule", "secureAnswer", "(LLineGuard$Session;LLineGuard$Row;ILLineGuard$Row;)V"⟩ : Cond) ∈ lw_tbl := tt4 (List.mem_of_getElem? (i := 93) (by decide +kernel))
theorem tw_878 : (Cond.sameMethod "LineGuard$Rule" "LineGuard$Rule" "secureAnswer" "(LLineGuard$Session;LLineGuard$Row;ILLineGuard$Row;)V" : Cond) ∈ uT := uni_mem (tt4 (List.mem_of_getElem? (i := 94) (by decide +kernel))) rfl
theorem tw_879 : (Cond.selects "LineGuard$NewerRule" ⟨"LineGuard$Rule", "secureAnswer", "(LLineGuard$Session;LLineGuard$Row;ILLineGuard$Row;)V"⟩ ⟨"LineGuard$NewerRule", "secureAnswer", "(LLineGuard$Session;LLineGuard$Row;ILLineGuard$Row;)V"⟩ : Cond) ∈ uT := uni_mem (tt4 (List.mem_of_getElem? (i := 95) (by decide +kernel))) rfl
theorem tw_880 : (Cond.instanceMethod ⟨"LineGuard$NewerRule", "secureAnswer", "(LLineGuard$Session;LLineGuard$Row;ILLineGuard$Row;)V"⟩ : Cond) ∈ uT := uni_mem (tt4 (List.mem_of_getElem? (i := 96) (by decide +kernel))) rfl
theorem tw_881 : (Cond.code ⟨"LineGuard$NewerRule", "secureAnswer", "(LLineGuard$Session;LLineGuard$Row;ILLineGuard$Row;)V"⟩ prog_6_method_8_code 5 none : Cond) ∈ uT := uni_mem (tt4 (List.mem_of_getElem? (i := 97) rfl)) rfl
theorem tw_882 : (Cond.methodLink "LineGuard$NewerRule" 122 ⟨"LineGuard$NewerRule", "codeAnswer", "(LLineGuard$Session;I)V"⟩ : Cond) ∈ uT := uni_mem (tt4 (List.mem_of_getElem? (i := 98) (by decide +kernel))) rfl
theorem tw_884 : (Cond.instanceMethod ⟨"LineGuard$NewerRule", "codeAnswer", "(LLineGuard$Session;I)V"⟩ : Cond) ∈ uT := uni_mem (tt4 (List.mem_of_getElem? (i := 100) (by decide +kernel))) rfl
theorem tw_885 : (Cond.code ⟨"LineGuard$NewerRule", "codeAnswer", "(LLineGuard$Session;I)V"⟩ prog_6_method_12_code 3 none : Cond) ∈ uT := uni_mem (tt4 (List.mem_of_getElem? (i := 101) rfl)) rfl
theorem tw_886 : (Cond.methodLink "LineGuard$NewerRule" 125 ⟨"LineGuard$NewerRule", "putAnswer", "(LLineGuard$Row;)V"⟩ : Cond) ∈ uT := uni_mem (tt4 (List.mem_of_getElem? (i := 102) (by decide +kernel))) rfl
theorem tw_887 : (Cond.sameMethod "LineGuard$NewerRule" "LineGuard$Rule" "putAnswer" "(LLineGuard$Row;)V" : Cond) ∈ uT := uni_mem (tt4 (List.mem_of_getElem? (i := 103) (by decide +kernel))) rfl
theorem tn_888 : (Cond.declares ⟨"LineGuard$Rule", "putAnswer", "(LLineGuard$Row;)V"⟩ : Cond) ∈ lw_tbl := tt4 (List.mem_of_getElem? (i := 104) (by decide +kernel))
theorem tw_889 : (Cond.selects "LineGuard$NewerRule" ⟨"LineGuard$NewerRule", "putAnswer", "(LLineGuard$Row;)V"⟩ ⟨"LineGuard$Rule", "putAnswer", "(LLineGuard$Row;)V"⟩ : Cond) ∈ uT := uni_mem (tt4 (List.mem_of_getElem? (i := 105) (by decide +kernel))) rfl
theorem tw_890 : (Cond.instanceMethod ⟨"LineGuard$Rule", "putAnswer", "(LLineGuard$Row;)V"⟩ : Cond) ∈ uT := uni_mem (tt4 (List.mem_of_getElem? (i := 106) (by decide +kernel))) rfl
theorem tw_891 : (Cond.code ⟨"LineGuard$Rule", "putAnswer", "(LLineGuard$Row;)V"⟩ prog_9_method_18_code 2 none : Cond) ∈ uT := uni_mem (tt4 (List.mem_of_getElem? (i := 107) rfl)) rfl
theorem tw_892 : (Cond.methodLink "LineGuard$Rule" 73 ⟨"LineGuard$Row", "copy", "(LLineGuard$Row;)V"⟩ : Cond) ∈ uT := uni_mem (tt4 (List.mem_of_getElem? (i := 108) (by decide +kernel))) rfl
theorem tw_893 : (Cond.selects "LineGuard$OlderRule" ⟨"LineGuard$Rule", "secureAnswer", "(LLineGuard$Session;LLineGuard$Row;ILLineGuard$Row;)V"⟩ ⟨"LineGuard$OlderRule", "secureAnswer", "(LLineGuard$Session;LLineGuard$Row;ILLineGuard$Row;)V"⟩ : Cond) ∈ uT := uni_mem (tt4 (List.mem_of_getElem? (i := 109) (by decide +kernel))) rfl
theorem tw_894 : (Cond.instanceMethod ⟨"LineGuard$OlderRule", "secureAnswer", "(LLineGuard$Session;LLineGuard$Row;ILLineGuard$Row;)V"⟩ : Cond) ∈ uT := uni_mem (tt4 (List.mem_of_getElem? (i := 110) (by decide +kernel))) rfl
theorem tw_895 : (Cond.code ⟨"LineGuard$OlderRule", "secureAnswer", "(LLineGuard$Session;LLineGuard$Row;ILLineGuard$Row;)V"⟩ prog_7_method_8_code 5 none : Cond) ∈ uT := uni_mem (tt4 (List.mem_of_getElem? (i := 111) rfl)) rfl
theorem tw_896 : (Cond.methodLink "LineGuard$OlderRule" 141 ⟨"LineGuard$OlderRule", "codeAnswer", "(LLineGuard$Session;I)V"⟩ : Cond) ∈ uT := uni_mem (tt4 (List.mem_of_getElem? (i := 112) (by decide +kernel))) rfl
theorem tw_898 : (Cond.instanceMethod ⟨"LineGuard$OlderRule", "codeAnswer", "(LLineGuard$Session;I)V"⟩ : Cond) ∈ uT := uni_mem (tt4 (List.mem_of_getElem? (i := 114) (by decide +kernel))) rfl
theorem tw_899 : (Cond.code ⟨"LineGuard$OlderRule", "codeAnswer", "(LLineGuard$Session;I)V"⟩ prog_7_method_14_code 3 none : Cond) ∈ uT := uni_mem (tt4 (List.mem_of_getElem? (i := 115) rfl)) rfl
theorem tw_900 : (Cond.methodLink "LineGuard$OlderRule" 187 ⟨"LineGuard$Row", "at", "(I)I"⟩ : Cond) ∈ uT := uni_mem (tt4 (List.mem_of_getElem? (i := 116) (by decide +kernel))) rfl
theorem tw_901 : (Cond.methodLink "LineGuard$OlderRule" 191 ⟨"LineGuard$Row", "add", "(I)V"⟩ : Cond) ∈ uT := uni_mem (tt4 (List.mem_of_getElem? (i := 117) (by decide +kernel))) rfl
theorem tw_902 : (Cond.methodLink "LineGuard$OlderRule" 151 ⟨"LineGuard$OlderRule", "putAnswer", "(LLineGuard$Row;)V"⟩ : Cond) ∈ uT := uni_mem (tt4 (List.mem_of_getElem? (i := 118) (by decide +kernel))) rfl
theorem tw_903 : (Cond.sameMethod "LineGuard$OlderRule" "LineGuard$Rule" "putAnswer" "(LLineGuard$Row;)V" : Cond) ∈ uT := uni_mem (tt4 (List.mem_of_getElem? (i := 119) (by decide +kernel))) rfl
theorem tw_904 : (Cond.selects "LineGuard$OlderRule" ⟨"LineGuard$OlderRule", "putAnswer", "(LLineGuard$Row;)V"⟩ ⟨"LineGuard$Rule", "putAnswer", "(LLineGuard$Row;)V"⟩ : Cond) ∈ uT := uni_mem (tt4 (List.mem_of_getElem? (i := 120) (by decide +kernel))) rfl
theorem tw_905 : (Cond.methodLink "LineGuardLaw" 80 ⟨"LineGuard", "accept", "(I)I"⟩ : Cond) ∈ uT := uni_mem (tt4 (List.mem_of_getElem? (i := 121) (by decide +kernel))) rfl
theorem tw_906 : (Cond.instanceMethod ⟨"LineGuard", "accept", "(I)I"⟩ : Cond) ∈ uT := uni_mem (tt4 (List.mem_of_getElem? (i := 122) (by decide +kernel))) rfl
theorem tw_907 : (Cond.selects "LineGuard" ⟨"LineGuard", "accept", "(I)I"⟩ ⟨"LineGuard", "accept", "(I)I"⟩ : Cond) ∈ uT := uni_mem (tt4 (List.mem_of_getElem? (i := 123) (by decide +kernel))) rfl
theorem tw_908 : (Cond.code ⟨"LineGuard", "accept", "(I)I"⟩ prog_1_method_17_code 3 (some .int) : Cond) ∈ uT := uni_mem (tt4 (List.mem_of_getElem? (i := 124) rfl)) rfl
theorem tw_909 : (Cond.methodLink "LineGuard" 194 ⟨"LineGuard$Rule", "openAnswer", "(LLineGuard$Session;LLineGuard$Row;ILLineGuard$Row;)Z"⟩ : Cond) ∈ uT := uni_mem (tt4 (List.mem_of_getElem? (i := 125) (by decide +kernel))) rfl
theorem tn_910 : (Cond.declares ⟨"LineGuard$Rule", "openAnswer", "(LLineGuard$Session;LLineGuard$Row;ILLineGuard$Row;)Z"⟩ : Cond) ∈ lw_tbl := tt4 (List.mem_of_getElem? (i := 126) (by decide +kernel))
theorem tw_911 : (Cond.sameMethod "LineGuard$Rule" "LineGuard$Rule" "openAnswer" "(LLineGuard$Session;LLineGuard$Row;ILLineGuard$Row;)Z" : Cond) ∈ uT := uni_mem (tt4 (List.mem_of_getElem? (i := 127) (by decide +kernel))) rfl
theorem tw_912 : (Cond.selects "LineGuard$NewerRule" ⟨"LineGuard$Rule", "openAnswer", "(LLineGuard$Session;LLineGuard$Row;ILLineGuard$Row;)Z"⟩ ⟨"LineGuard$NewerRule", "openAnswer", "(LLineGuard$Session;LLineGuard$Row;ILLineGuard$Row;)Z"⟩ : Cond) ∈ uT := uni_mem (tt4 (List.mem_of_getElem? (i := 128) (by decide +kernel))) rfl
theorem tw_913 : (Cond.instanceMethod ⟨"LineGuard$NewerRule", "openAnswer", "(LLineGuard$Session;LLineGuard$Row;ILLineGuard$Row;)Z"⟩ : Cond) ∈ uT := uni_mem (tt4 (List.mem_of_getElem? (i := 129) (by decide +kernel))) rfl
theorem tw_914 : (Cond.code ⟨"LineGuard$NewerRule", "openAnswer", "(LLineGuard$Session;LLineGuard$Row;ILLineGuard$Row;)Z"⟩ prog_6_method_9_code 5 (some .boolean) : Cond) ∈ uT := uni_mem (tt4 (List.mem_of_getElem? (i := 130) rfl)) rfl
theorem tw_915 : (Cond.methodLink "LineGuard$NewerRule" 128 ⟨"LineGuard$NewerRule", "splitAnswer", "(LLineGuard$Row;)Z"⟩ : Cond) ∈ uT := uni_mem (tt4 (List.mem_of_getElem? (i := 131) (by decide +kernel))) rfl
theorem tw_916 : (Cond.sameMethod "LineGuard$NewerRule" "LineGuard$Rule" "splitAnswer" "(LLineGuard$Row;)Z" : Cond) ∈ uT := uni_mem (tt4 (List.mem_of_getElem? (i := 132) (by decide +kernel))) rfl
theorem tn_917 : (Cond.declares ⟨"LineGuard$Rule", "splitAnswer", "(LLineGuard$Row;)Z"⟩ : Cond) ∈ lw_tbl := tt4 (List.mem_of_getElem? (i := 133) (by decide +kernel))
theorem tw_918 : (Cond.selects "LineGuard$NewerRule" ⟨"LineGuard$NewerRule", "splitAnswer", "(LLineGuard$Row;)Z"⟩ ⟨"LineGuard$Rule", "splitAnswer", "(LLineGuard$Row;)Z"⟩ : Cond) ∈ uT := uni_mem (tt4 (List.mem_of_getElem? (i := 134) (by decide +kernel))) rfl
theorem tw_919 : (Cond.instanceMethod ⟨"LineGuard$Rule", "splitAnswer", "(LLineGuard$Row;)Z"⟩ : Cond) ∈ uT := uni_mem (tt4 (List.mem_of_getElem? (i := 135) (by decide +kernel))) rfl
theorem tw_920 : (Cond.code ⟨"LineGuard$Rule", "splitAnswer", "(LLineGuard$Row;)Z"⟩ prog_9_method_19_code 2 (some .boolean) : Cond) ∈ uT := uni_mem (tt4 (List.mem_of_getElem? (i := 136) rfl)) rfl
theorem tw_921 : (Cond.selects "LineGuard$OlderRule" ⟨"LineGuard$Rule", "openAnswer", "(LLineGuard$Session;LLineGuard$Row;ILLineGuard$Row;)Z"⟩ ⟨"LineGuard$OlderRule", "openAnswer", "(LLineGuard$Session;LLineGuard$Row;ILLineGuard$Row;)Z"⟩ : Cond) ∈ uT := uni_mem (tt4 (List.mem_of_getElem? (i := 137) (by decide +kernel))) rfl
theorem tw_922 : (Cond.instanceMethod ⟨"LineGuard$OlderRule", "openAnswer", "(LLineGuard$Session;LLineGuard$Row;ILLineGuard$Row;)Z"⟩ : Cond) ∈ uT := uni_mem (tt4 (List.mem_of_getElem? (i := 138) (by decide +kernel))) rfl
theorem tw_923 : (Cond.code ⟨"LineGuard$OlderRule", "openAnswer", "(LLineGuard$Session;LLineGuard$Row;ILLineGuard$Row;)Z"⟩ prog_7_method_9_code 5 (some .boolean) : Cond) ∈ uT := uni_mem (tt4 (List.mem_of_getElem? (i := 139) rfl)) rfl
theorem tw_924 : (Cond.methodLink "LineGuard$OlderRule" 154 ⟨"LineGuard$OlderRule", "splitAnswer", "(LLineGuard$Row;)Z"⟩ : Cond) ∈ uT := uni_mem (tt4 (List.mem_of_getElem? (i := 140) (by decide +kernel))) rfl
theorem tw_925 : (Cond.sameMethod "LineGuard$OlderRule" "LineGuard$Rule" "splitAnswer" "(LLineGuard$Row;)Z" : Cond) ∈ uT := uni_mem (tt4 (List.mem_of_getElem? (i := 141) (by decide +kernel))) rfl
theorem tw_926 : (Cond.selects "LineGuard$OlderRule" ⟨"LineGuard$OlderRule", "splitAnswer", "(LLineGuard$Row;)Z"⟩ ⟨"LineGuard$Rule", "splitAnswer", "(LLineGuard$Row;)Z"⟩ : Cond) ∈ uT := uni_mem (tt4 (List.mem_of_getElem? (i := 142) (by decide +kernel))) rfl
theorem tw_927 : (Cond.methodLink "LineGuardLaw" 84 ⟨"LineGuard", "seal", "(IZ)I"⟩ : Cond) ∈ uT := uni_mem (tt4 (List.mem_of_getElem? (i := 143) (by decide +kernel))) rfl
theorem tw_928 : (Cond.instanceMethod ⟨"LineGuard", "seal", "(IZ)I"⟩ : Cond) ∈ uT := uni_mem (tt4 (List.mem_of_getElem? (i := 144) (by decide +kernel))) rfl
theorem tw_929 : (Cond.selects "LineGuard" ⟨"LineGuard", "seal", "(IZ)I"⟩ ⟨"LineGuard", "seal", "(IZ)I"⟩ : Cond) ∈ uT := uni_mem (tt4 (List.mem_of_getElem? (i := 145) (by decide +kernel))) rfl
theorem tw_930 : (Cond.code ⟨"LineGuard", "seal", "(IZ)I"⟩ prog_1_method_18_code 7 (some .int) : Cond) ∈ uT := uni_mem (tt4 (List.mem_of_getElem? (i := 146) rfl)) rfl
theorem tw_931 : (Cond.methodLink "LineGuard" 198 ⟨"LineGuard", "sessionOf", "(I)LLineGuard$Session;"⟩ : Cond) ∈ uT := uni_mem (tt4 (List.mem_of_getElem? (i := 147) (by decide +kernel))) rfl
theorem tw_933 : (Cond.instanceMethod ⟨"LineGuard", "sessionOf", "(I)LLineGuard$Session;"⟩ : Cond) ∈ uT := uni_mem (tt4 (List.mem_of_getElem? (i := 149) (by decide +kernel))) rfl
theorem tw_934 : (Cond.code ⟨"LineGuard", "sessionOf", "(I)LLineGuard$Session;"⟩ prog_1_method_22_code 2 (Option.some (.object "LineGuard$Session")) : Cond) ∈ uT := uni_mem (tt4 (List.mem_of_getElem? (i := 150) rfl)) rfl
theorem tw_935 : (Cond.methodLink "LineGuard" 202 ⟨"LineGuard$Rule", "isBlocks", "(I)Z"⟩ : Cond) ∈ uT := uni_mem (tt4 (List.mem_of_getElem? (i := 151) (by decide +kernel))) rfl
theorem tw_936 : (Cond.methodLink "LineGuard" 208 ⟨"LineGuard$Rule", "sealWith", "(LLineGuard$Row;LLineGuard$Row;Z)V"⟩ : Cond) ∈ uT := uni_mem (tt4 (List.mem_of_getElem? (i := 152) (by decide +kernel))) rfl
theorem tn_937 : (Cond.declares ⟨"LineGuard$Rule", "sealWith", "(LLineGuard$Row;LLineGuard$Row;Z)V"⟩ : Cond) ∈ lw_tbl := tt4 (List.mem_of_getElem? (i := 153) (by decide +kernel))
theorem tw_938 : (Cond.sameMethod "LineGuard$Rule" "LineGuard$Rule" "sealWith" "(LLineGuard$Row;LLineGuard$Row;Z)V" : Cond) ∈ uT := uni_mem (tt4 (List.mem_of_getElem? (i := 154) (by decide +kernel))) rfl
theorem tw_939 : (Cond.selects "LineGuard$NewerRule" ⟨"LineGuard$Rule", "sealWith", "(LLineGuard$Row;LLineGuard$Row;Z)V"⟩ ⟨"LineGuard$NewerRule", "sealWith", "(LLineGuard$Row;LLineGuard$Row;Z)V"⟩ : Cond) ∈ uT := uni_mem (tt4 (List.mem_of_getElem? (i := 155) (by decide +kernel))) rfl
theorem tw_940 : (Cond.instanceMethod ⟨"LineGuard$NewerRule", "sealWith", "(LLineGuard$Row;LLineGuard$Row;Z)V"⟩ : Cond) ∈ uT := uni_mem (tt4 (List.mem_of_getElem? (i := 156) (by decide +kernel))) rfl
theorem tw_941 : (Cond.code ⟨"LineGuard$NewerRule", "sealWith", "(LLineGuard$Row;LLineGuard$Row;Z)V"⟩ prog_6_method_10_code 4 none : Cond) ∈ uT := uni_mem (tt4 (List.mem_of_getElem? (i := 157) rfl)) rfl
theorem tw_942 : (Cond.selects "LineGuard$OlderRule" ⟨"LineGuard$Rule", "sealWith", "(LLineGuard$Row;LLineGuard$Row;Z)V"⟩ ⟨"LineGuard$OlderRule", "sealWith", "(LLineGuard$Row;LLineGuard$Row;Z)V"⟩ : Cond) ∈ uT := uni_mem (tt4 (List.mem_of_getElem? (i := 158) (by decide +kernel))) rfl
theorem tw_943 : (Cond.instanceMethod ⟨"LineGuard$OlderRule", "sealWith", "(LLineGuard$Row;LLineGuard$Row;Z)V"⟩ : Cond) ∈ uT := uni_mem (tt4 (List.mem_of_getElem? (i := 159) (by decide +kernel))) rfl
theorem tw_944 : (Cond.code ⟨"LineGuard$OlderRule", "sealWith", "(LLineGuard$Row;LLineGuard$Row;Z)V"⟩ prog_7_method_10_code 5 none : Cond) ∈ uT := uni_mem (tt4 (List.mem_of_getElem? (i := 160) rfl)) rfl
theorem tw_945 : (Cond.methodLink "LineGuardLaw" 89 ⟨"LineGuard", "secret", "(III)I"⟩ : Cond) ∈ uT := uni_mem (tt4 (List.mem_of_getElem? (i := 161) (by decide +kernel))) rfl
theorem tw_946 : (Cond.instanceMethod ⟨"LineGuard", "secret", "(III)I"⟩ : Cond) ∈ uT := uni_mem (tt4 (List.mem_of_getElem? (i := 162) (by decide +kernel))) rfl
theorem tw_947 : (Cond.selects "LineGuard" ⟨"LineGuard", "secret", "(III)I"⟩ ⟨"LineGuard", "secret", "(III)I"⟩ : Cond) ∈ uT := uni_mem (tt4 (List.mem_of_getElem? (i := 163) (by decide +kernel))) rfl
theorem tw_948 : (Cond.code ⟨"LineGuard", "secret", "(III)I"⟩ prog_1_method_19_code 6 (some .int) : Cond) ∈ uT := uni_mem (tt4 (List.mem_of_getElem? (i := 164) rfl)) rfl
theorem tw_949 : (Cond.methodLink "LineGuard" 212 ⟨"LineGuard$Session", "secretRow", "(I)LLineGuard$Row;"⟩ : Cond) ∈ uT := uni_mem (tt4 (List.mem_of_getElem? (i := 165) (by decide +kernel))) rfl
theorem tw_950 : (Cond.instanceMethod ⟨"LineGuard$Session", "secretRow", "(I)LLineGuard$Row;"⟩ : Cond) ∈ uT := uni_mem (tt4 (List.mem_of_getElem? (i := 166) (by decide +kernel))) rfl
theorem tw_951 : (Cond.selects "LineGuard$Session" ⟨"LineGuard$Session", "secretRow", "(I)LLineGuard$Row;"⟩ ⟨"LineGuard$Session", "secretRow", "(I)LLineGuard$Row;"⟩ : Cond) ∈ uT := uni_mem (tt4 (List.mem_of_getElem? (i := 167) (by decide +kernel))) rfl
theorem tw_952 : (Cond.code ⟨"LineGuard$Session", "secretRow", "(I)LLineGuard$Row;"⟩ prog_10_method_7_code 2 (Option.some (.object "LineGuard$Row")) : Cond) ∈ uT := uni_mem (tt4 (List.mem_of_getElem? (i := 168) rfl)) rfl
theorem tw_953 : (Cond.methodLink "LineGuardLaw" 94 ⟨"LineGuard", "about", "(II)I"⟩ : Cond) ∈ uT := uni_mem (tt4 (List.mem_of_getElem? (i := 169) (by decide +kernel))) rfl
theorem tw_954 : (Cond.instanceMethod ⟨"LineGuard", "about", "(II)I"⟩ : Cond) ∈ uT := uni_mem (tt4 (List.mem_of_getElem? (i := 170) (by decide +kernel))) rfl
theorem tw_955 : (Cond.selects "LineGuard" ⟨"LineGuard", "about", "(II)I"⟩ ⟨"LineGuard", "about", "(II)I"⟩ : Cond) ∈ uT := uni_mem (tt4 (List.mem_of_getElem? (i := 171) (by decide +kernel))) rfl
theorem tw_956 : (Cond.code ⟨"LineGuard", "about", "(II)I"⟩ prog_1_method_20_code 5 (some .int) : Cond) ∈ uT := uni_mem (tt4 (List.mem_of_getElem? (i := 172) rfl)) rfl
theorem tw_957 : (Cond.classLink "LineGuardLaw" 10 "LineGuardModel" : Cond) ∈ uT := uni_mem (tt4 (List.mem_of_getElem? (i := 173) (by decide +kernel))) rfl
theorem tw_958 : (Cond.instantiable "LineGuardModel" 57 : Cond) ∈ uT := uni_mem (tt4 (List.mem_of_getElem? (i := 174) (by decide +kernel))) rfl
theorem tw_959 : (Cond.methodLink "LineGuardLaw" 12 ⟨"LineGuardModel", "<init>", "()V"⟩ : Cond) ∈ uT := uni_mem (tt4 (List.mem_of_getElem? (i := 175) (by decide +kernel))) rfl
theorem tw_960 : (Cond.instanceMethod ⟨"LineGuardModel", "<init>", "()V"⟩ : Cond) ∈ uT := uni_mem (tt4 (List.mem_of_getElem? (i := 176) (by decide +kernel))) rfl
theorem tw_961 : (Cond.code ⟨"LineGuardModel", "<init>", "()V"⟩ prog_12_method_20_code 1 none : Cond) ∈ uT := uni_mem (tt4 (List.mem_of_getElem? (i := 177) rfl)) rfl
theorem tw_962 : (Cond.methodLink "LineGuardModel" 127 ⟨"java/lang/Object", "<init>", "()V"⟩ : Cond) ∈ uT := uni_mem (tt4 (List.mem_of_getElem? (i := 178) (by decide +kernel))) rfl
theorem tw_963 : (Cond.constant "LineGuardModel" 132 (1116352408) : Cond) ∈ uT := uni_mem (tt4 (List.mem_of_getElem? (i := 179) (by decide +kernel))) rfl
theorem tw_964 : (Cond.constant "LineGuardModel" 133 (1899447441) : Cond) ∈ uT := uni_mem (tt4 (List.mem_of_getElem? (i := 180) (by decide +kernel))) rfl
theorem tw_965 : (Cond.constant "LineGuardModel" 134 (-1245643825) : Cond) ∈ uT := uni_mem (tt4 (List.mem_of_getElem? (i := 181) (by decide +kernel))) rfl
theorem tw_966 : (Cond.constant "LineGuardModel" 135 (-373957723) : Cond) ∈ uT := uni_mem (tt4 (List.mem_of_getElem? (i := 182) (by decide +kernel))) rfl
theorem tw_967 : (Cond.constant "LineGuardModel" 136 (961987163) : Cond) ∈ uT := uni_mem (tt4 (List.mem_of_getElem? (i := 183) (by decide +kernel))) rfl
theorem tw_968 : (Cond.constant "LineGuardModel" 137 (1508970993) : Cond) ∈ uT := uni_mem (tt4 (List.mem_of_getElem? (i := 184) (by decide +kernel))) rfl
theorem tw_969 : (Cond.constant "LineGuardModel" 138 (-1841331548) : Cond) ∈ uT := uni_mem (tt4 (List.mem_of_getElem? (i := 185) (by decide +kernel))) rfl
theorem tw_970 : (Cond.constant "LineGuardModel" 139 (-1424204075) : Cond) ∈ uT := uni_mem (tt4 (List.mem_of_getElem? (i := 186) (by decide +kernel))) rfl
theorem tw_971 : (Cond.constant "LineGuardModel" 140 (-670586216) : Cond) ∈ uT := uni_mem (tt4 (List.mem_of_getElem? (i := 187) (by decide +kernel))) rfl
theorem tw_972 : (Cond.constant "LineGuardModel" 141 (310598401) : Cond) ∈ uT := uni_mem (tt4 (List.mem_of_getElem? (i := 188) (by decide +kernel))) rfl
theorem tw_973 : (Cond.constant "LineGuardModel" 142 (607225278) : Cond) ∈ uT := uni_mem (tt4 (List.mem_of_getElem? (i := 189) (by decide +kernel))) rfl
theorem tw_974 : (Cond.constant "LineGuardModel" 143 (1426881987) : Cond) ∈ uT := uni_mem (tt4 (List.mem_of_getElem? (i := 190) (by decide +kernel))) rfl
theorem tw_975 : (Cond.constant "LineGuardModel" 144 (1925078388) : Cond) ∈ uT := uni_mem (tt4 (List.mem_of_getElem? (i := 191) (by decide +kernel))) rfl
theorem tw_976 : (Cond.constant "LineGuardModel" 145 (-2132889090) : Cond) ∈ uT := uni_mem (tt4 (List.mem_of_getElem? (i := 192) (by decide +kernel))) rfl
theorem tw_977 : (Cond.constant "LineGuardModel" 146 (-1680079193) : Cond) ∈ uT := uni_mem (tt4 (List.mem_of_getElem? (i := 193) (by decide +kernel))) rfl
theorem tw_978 : (Cond.constant "LineGuardModel" 147 (-1046744716) : Cond) ∈ uT := uni_mem (tt4 (List.mem_of_getElem? (i := 194) (by decide +kernel))) rfl
theorem tw_979 : (Cond.constant "LineGuardModel" 148 (-459576895) : Cond) ∈ uT := uni_mem (tt4 (List.mem_of_getElem? (i := 195) (by decide +kernel))) rfl
theorem tw_980 : (Cond.constant "LineGuardModel" 149 (-272742522) : Cond) ∈ uT := uni_mem (tt4 (List.mem_of_getElem? (i := 196) (by decide +kernel))) rfl
theorem tw_981 : (Cond.constant "LineGuardModel" 150 (264347078) : Cond) ∈ uT := uni_mem (tt4 (List.mem_of_getElem? (i := 197) (by decide +kernel))) rfl
theorem tw_982 : (Cond.constant "LineGuardModel" 151 (604807628) : Cond) ∈ uT := uni_mem (tt4 (List.mem_of_getElem? (i := 198) (by decide +kernel))) rfl
theorem tw_983 : (Cond.constant "LineGuardModel" 152 (770255983) : Cond) ∈ uT := uni_mem (tt4 (List.mem_of_getElem? (i := 199) (by decide +kernel))) rfl
theorem tw_984 : (Cond.constant "LineGuardModel" 153 (1249150122) : Cond) ∈ uT := uni_mem (tt4 (List.mem_of_getElem? (i := 200) (by decide +kernel))) rfl
theorem tw_985 : (Cond.constant "LineGuardModel" 154 (1555081692) : Cond) ∈ uT := uni_mem (tt4 (List.mem_of_getElem? (i := 201) (by decide +kernel))) rfl
theorem tw_986 : (Cond.constant "LineGuardModel" 155 (1996064986) : Cond) ∈ uT := uni_mem (tt4 (List.mem_of_getElem? (i := 202) (by decide +kernel))) rfl
theorem tw_987 : (Cond.constant "LineGuardModel" 156 (-1740746414) : Cond) ∈ uT := uni_mem (tt4 (List.mem_of_getElem? (i := 203) (by decide +kernel))) rfl
theorem tw_988 : (Cond.constant "LineGuardModel" 157 (-1473132947) : Cond) ∈ uT := uni_mem (tt4 (List.mem_of_getElem? (i := 204) (by decide +kernel))) rfl
theorem tw_989 : (Cond.constant "LineGuardModel" 158 (-1341970488) : Cond) ∈ uT := uni_mem (tt4 (List.mem_of_getElem? (i := 205) (by decide +kernel))) rfl
theorem tw_990 : (Cond.constant "LineGuardModel" 159 (-1084653625) : Cond) ∈ uT := uni_mem (tt4 (List.mem_of_getElem? (i := 206) (by decide +kernel))) rfl
theorem tw_991 : (Cond.constant "LineGuardModel" 160 (-958395405) : Cond) ∈ uT := uni_mem (tt4 (List.mem_of_getElem? (i := 207) (by decide +kernel))) rfl
theorem tw_992 : (Cond.constant "LineGuardModel" 161 (-710438585) : Cond) ∈ uT := uni_mem (tt4 (List.mem_of_getElem? (i := 208) (by decide +kernel))) rfl
theorem tw_993 : (Cond.constant "LineGuardModel" 162 (113926993) : Cond) ∈ uT := uni_mem (tt4 (List.mem_of_getElem? (i := 209) (by decide +kernel))) rfl
theorem tw_994 : (Cond.constant "LineGuardModel" 163 (338241895) : Cond) ∈ uT := uni_mem (tt4 (List.mem_of_getElem? (i := 210) (by decide +kernel))) rfl
theorem tw_995 : (Cond.constant "LineGuardModel" 164 (666307205) : Cond) ∈ uT := uni_mem (tt4 (List.mem_of_getElem? (i := 211) (by decide +kernel))) rfl
theorem tw_996 : (Cond.constant "LineGuardModel" 165 (773529912) : Cond) ∈ uT := uni_mem (tt4 (List.mem_of_getElem? (i := 212) (by decide +kernel))) rfl
theorem tw_997 : (Cond.constant "LineGuardModel" 166 (1294757372) : Cond) ∈ uT := uni_mem (tt4 (List.mem_of_getElem? (i := 213) (by decide +kernel))) rfl
theorem tw_998 : (Cond.constant "LineGuardModel" 167 (1396182291) : Cond) ∈ uT := uni_mem (tt4 (List.mem_of_getElem? (i := 214) (by decide +kernel))) rfl
theorem tw_999 : (Cond.constant "LineGuardModel" 168 (1695183700) : Cond) ∈ uT := uni_mem (tt4 (List.mem_of_getElem? (i := 215) (by decide +kernel))) rfl
theorem tw_1000 : (Cond.constant "LineGuardModel" 169 (1986661051) : Cond) ∈ uT := uni_mem (tt4 (List.mem_of_getElem? (i := 216) (by decide +kernel))) rfl
theorem tw_1001 : (Cond.constant "LineGuardModel" 170 (-2117940946) : Cond) ∈ uT := uni_mem (tt4 (List.mem_of_getElem? (i := 217) (by decide +kernel))) rfl
theorem tw_1002 : (Cond.constant "LineGuardModel" 171 (-1838011259) : Cond) ∈ uT := uni_mem (tt4 (List.mem_of_getElem? (i := 218) (by decide +kernel))) rfl
theorem tw_1003 : (Cond.constant "LineGuardModel" 172 (-1564481375) : Cond) ∈ uT := uni_mem (tt4 (List.mem_of_getElem? (i := 219) (by decide +kernel))) rfl
theorem tw_1004 : (Cond.constant "LineGuardModel" 173 (-1474664885) : Cond) ∈ uT := uni_mem (tt4 (List.mem_of_getElem? (i := 220) (by decide +kernel))) rfl
theorem tw_1005 : (Cond.constant "LineGuardModel" 174 (-1035236496) : Cond) ∈ uT := uni_mem (tt4 (List.mem_of_getElem? (i := 221) (by decide +kernel))) rfl
theorem tw_1006 : (Cond.constant "LineGuardModel" 175 (-949202525) : Cond) ∈ uT := uni_mem (tt4 (List.mem_of_getElem? (i := 222) (by decide +kernel))) rfl
theorem tw_1007 : (Cond.constant "LineGuardModel" 176 (-778901479) : Cond) ∈ uT := uni_mem (tt4 (List.mem_of_getElem? (i := 223) (by decide +kernel))) rfl
theorem tw_1008 : (Cond.constant "LineGuardModel" 177 (-694614492) : Cond) ∈ uT := uni_mem (tt4 (List.mem_of_getElem? (i := 224) (by decide +kernel))) rfl
theorem tw_1009 : (Cond.constant "LineGuardModel" 178 (-200395387) : Cond) ∈ uT := uni_mem (tt4 (List.mem_of_getElem? (i := 225) (by decide +kernel))) rfl
theorem tw_1010 : (Cond.constant "LineGuardModel" 179 (275423344) : Cond) ∈ uT := uni_mem (tt4 (List.mem_of_getElem? (i := 226) (by decide +kernel))) rfl
theorem tw_1011 : (Cond.constant "LineGuardModel" 180 (430227734) : Cond) ∈ uT := uni_mem (tt4 (List.mem_of_getElem? (i := 227) (by decide +kernel))) rfl
theorem tw_1012 : (Cond.constant "LineGuardModel" 181 (506948616) : Cond) ∈ uT := uni_mem (tt4 (List.mem_of_getElem? (i := 228) (by decide +kernel))) rfl
theorem tw_1013 : (Cond.constant "LineGuardModel" 182 (659060556) : Cond) ∈ uT := uni_mem (tt4 (List.mem_of_getElem? (i := 229) (by decide +kernel))) rfl
theorem tw_1014 : (Cond.constant "LineGuardModel" 183 (883997877) : Cond) ∈ uT := uni_mem (tt4 (List.mem_of_getElem? (i := 230) (by decide +kernel))) rfl
theorem tw_1015 : (Cond.constant "LineGuardModel" 184 (958139571) : Cond) ∈ uT := uni_mem (tt4 (List.mem_of_getElem? (i := 231) (by decide +kernel))) rfl
