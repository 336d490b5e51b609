theorem hdX10_take : yX10_take.cls ≠ "java/lang/invoke/MethodHandle" ∧ yX10_take.cls ≠ "java/lang/invoke/VarHandle" ∧ (parseMethodDescriptor yX10_take.desc).map (fun d => d.parameters.length) = some 0 := ⟨by decide +kernel, by decide +kernel, by decide +kernel⟩
theorem dX10_take_0 : decode cX10_take 0 = .ok (.aload_n 0, 1) := by decide +kernel
theorem dX10_take_1 : decode cX10_take 1 = .ok (.getfield 307, 3) := by decide +kernel
theorem dX10_take_4 : decode cX10_take 4 = .ok (.istore_n 1, 1) := by decide +kernel
theorem dX10_take_5 : decode cX10_take 5 = .ok (.aload_n 0, 1) := by decide +kernel
theorem dX10_take_6 : decode cX10_take 6 = .ok (.getfield 240, 3) := by decide +kernel
theorem dX10_take_9 : decode cX10_take 9 = .ok (.iconst 1, 1) := by decide +kernel
theorem dX10_take_10 : decode cX10_take 10 = .ok (.iaload, 1) := by decide +kernel
theorem dX10_take_11 : decode cX10_take 11 = .ok (.iconst 1, 1) := by decide +kernel
theorem dX10_take_12 : decode cX10_take 12 = .ok (.if_icmp .ne 7, 3) := by decide +kernel
theorem dX10_take_15 : decode cX10_take 15 = .ok (.iconst 1, 1) := by decide +kernel
theorem dX10_take_16 : decode cX10_take 16 = .ok (.goto 4, 3) := by decide +kernel
theorem dX10_take_19 : decode cX10_take 19 = .ok (.iconst 0, 1) := by decide +kernel
theorem dX10_take_20 : decode cX10_take 20 = .ok (.istore_n 2, 1) := by decide +kernel
theorem dX10_take_21 : decode cX10_take 21 = .ok (.iload_n 1, 1) := by decide +kernel
theorem dX10_take_22 : decode cX10_take 22 = .ok (.ifCond .eq 28, 3) := by decide +kernel
theorem dX10_take_25 : decode cX10_take 25 = .ok (.iload_n 2, 1) := by decide +kernel
theorem dX10_take_26 : decode cX10_take 26 = .ok (.ifCond .ne 26, 3) := by decide +kernel
theorem dX10_take_29 : decode cX10_take 29 = .ok (.aload_n 0, 1) := by decide +kernel
theorem dX10_take_30 : decode cX10_take 30 = .ok (.getfield 240, 3) := by decide +kernel
theorem dX10_take_33 : decode cX10_take 33 = .ok (.iconst 1, 1) := by decide +kernel
theorem dX10_take_34 : decode cX10_take 34 = .ok (.iaload, 1) := by decide +kernel
theorem dX10_take_35 : decode cX10_take 35 = .ok (.iconst 2, 1) := by decide +kernel
theorem dX10_take_36 : decode cX10_take 36 = .ok (.if_icmp .ne 14, 3) := by decide +kernel
theorem dX10_take_39 : decode cX10_take 39 = .ok (.aload_n 0, 1) := by decide +kernel
theorem dX10_take_40 : decode cX10_take 40 = .ok (.getfield 243, 3) := by decide +kernel
theorem dX10_take_43 : decode cX10_take 43 = .ok (.iconst 1, 1) := by decide +kernel
theorem dX10_take_44 : decode cX10_take 44 = .ok (.iaload, 1) := by decide +kernel
theorem dX10_take_45 : decode cX10_take 45 = .ok (.iconst 1, 1) := by decide +kernel
theorem dX10_take_46 : decode cX10_take 46 = .ok (.iand, 1) := by decide +kernel
theorem dX10_take_47 : decode cX10_take 47 = .ok (.ifCond .ne 5, 3) := by decide +kernel
theorem dX10_take_50 : decode cX10_take 50 = .ok (.iconst (-1), 1) := by decide +kernel
theorem dX10_take_51 : decode cX10_take 51 = .ok (.ireturn, 1) := by decide +kernel
theorem dX10_take_52 : decode cX10_take 52 = .ok (.aload_n 0, 1) := by decide +kernel
theorem dX10_take_53 : decode cX10_take 53 = .ok (.iconst 0, 1) := by decide +kernel
theorem dX10_take_54 : decode cX10_take 54 = .ok (.putfield 307, 3) := by decide +kernel
theorem dX10_take_57 : decode cX10_take 57 = .ok (.iload_n 2, 1) := by decide +kernel
theorem dX10_take_58 : decode cX10_take 58 = .ok (.ifCond .eq 55, 3) := by decide +kernel
theorem dX10_take_61 : decode cX10_take 61 = .ok (.aload_n 0, 1) := by decide +kernel
theorem dX10_take_62 : decode cX10_take 62 = .ok (.iload_n 1, 1) := by decide +kernel
theorem dX10_take_63 : decode cX10_take 63 = .ok (.invokevirtual 391, 3) := by decide +kernel
theorem dX10_take_66 : decode cX10_take 66 = .ok (.ifCond .ne 14, 3) := by decide +kernel
theorem dX10_take_69 : decode cX10_take 69 = .ok (.aload_n 0, 1) := by decide +kernel
theorem dX10_take_70 : decode cX10_take 70 = .ok (.getfield 240, 3) := by decide +kernel
theorem dX10_take_73 : decode cX10_take 73 = .ok (.iconst 1, 1) := by decide +kernel
theorem dX10_take_74 : decode cX10_take 74 = .ok (.iconst 0, 1) := by decide +kernel
theorem dX10_take_75 : decode cX10_take 75 = .ok (.iastore, 1) := by decide +kernel
theorem dX10_take_76 : decode cX10_take 76 = .ok (.sipush 25344, 3) := by decide +kernel
theorem dX10_take_79 : decode cX10_take 79 = .ok (.ireturn, 1) := by decide +kernel
theorem dX10_take_80 : decode cX10_take 80 = .ok (.aload_n 0, 1) := by decide +kernel
theorem dX10_take_81 : decode cX10_take 81 = .ok (.iconst 1, 1) := by decide +kernel
theorem dX10_take_82 : decode cX10_take 82 = .ok (.aload_n 0, 1) := by decide +kernel
theorem dX10_take_83 : decode cX10_take 83 = .ok (.getfield 225, 3) := by decide +kernel
theorem dX10_take_86 : decode cX10_take 86 = .ok (.iconst 2, 1) := by decide +kernel
theorem dX10_take_87 : decode cX10_take 87 = .ok (.baload, 1) := by decide +kernel
theorem dX10_take_88 : decode cX10_take 88 = .ok (.sipush 255, 3) := by decide +kernel
theorem dX10_take_91 : decode cX10_take 91 = .ok (.iand, 1) := by decide +kernel
theorem dX10_take_92 : decode cX10_take 92 = .ok (.invokevirtual 364, 3) := by decide +kernel
theorem dX10_take_95 : decode cX10_take 95 = .ok (.aload_n 0, 1) := by decide +kernel
theorem dX10_take_96 : decode cX10_take 96 = .ok (.aload_n 0, 1) := by decide +kernel
theorem dX10_take_97 : decode cX10_take 97 = .ok (.getfield 325, 3) := by decide +kernel
theorem dX10_take_100 : decode cX10_take 100 = .ok (.iconst 1, 1) := by decide +kernel
theorem dX10_take_101 : decode cX10_take 101 = .ok (.iadd, 1) := by decide +kernel
theorem dX10_take_102 : decode cX10_take 102 = .ok (.ldc_w 324, 3) := by decide +kernel
theorem dX10_take_105 : decode cX10_take 105 = .ok (.iand, 1) := by decide +kernel
theorem dX10_take_106 : decode cX10_take 106 = .ok (.putfield 325, 3) := by decide +kernel
theorem dX10_take_109 : decode cX10_take 109 = .ok (.ldc_w 394, 3) := by decide +kernel
theorem dX10_take_112 : decode cX10_take 112 = .ok (.ireturn, 1) := by decide +kernel
theorem dX10_take_113 : decode cX10_take 113 = .ok (.aload_n 0, 1) := by decide +kernel
theorem dX10_take_114 : decode cX10_take 114 = .ok (.iload_n 1, 1) := by decide +kernel
theorem dX10_take_115 : decode cX10_take 115 = .ok (.invokevirtual 395, 3) := by decide +kernel
theorem dX10_take_118 : decode cX10_take 118 = .ok (.istore_n 3, 1) := by decide +kernel
theorem dX10_take_119 : decode cX10_take 119 = .ok (.iload_n 3, 1) := by decide +kernel
theorem dX10_take_120 : decode cX10_take 120 = .ok (.iconst (-1), 1) := by decide +kernel
theorem dX10_take_121 : decode cX10_take 121 = .ok (.if_icmp .ne 14, 3) := by decide +kernel
theorem dX10_take_124 : decode cX10_take 124 = .ok (.aload_n 0, 1) := by decide +kernel
theorem dX10_take_125 : decode cX10_take 125 = .ok (.getfield 240, 3) := by decide +kernel
theorem dX10_take_128 : decode cX10_take 128 = .ok (.iconst 1, 1) := by decide +kernel
theorem dX10_take_129 : decode cX10_take 129 = .ok (.iconst 0, 1) := by decide +kernel
theorem dX10_take_130 : decode cX10_take 130 = .ok (.iastore, 1) := by decide +kernel
theorem dX10_take_131 : decode cX10_take 131 = .ok (.sipush 27010, 3) := by decide +kernel
theorem dX10_take_134 : decode cX10_take 134 = .ok (.ireturn, 1) := by decide +kernel
theorem dX10_take_135 : decode cX10_take 135 = .ok (.aload_n 0, 1) := by decide +kernel
theorem dX10_take_136 : decode cX10_take 136 = .ok (.iload_n 3, 1) := by decide +kernel
theorem dX10_take_137 : decode cX10_take 137 = .ok (.putfield 304, 3) := by decide +kernel
theorem dX10_take_140 : decode cX10_take 140 = .ok (.aload_n 0, 1) := by decide +kernel
theorem dX10_take_141 : decode cX10_take 141 = .ok (.iconst 1, 1) := by decide +kernel
theorem dX10_take_142 : decode cX10_take 142 = .ok (.aload_n 0, 1) := by decide +kernel
theorem dX10_take_143 : decode cX10_take 143 = .ok (.getfield 222, 3) := by decide +kernel
theorem dX10_take_146 : decode cX10_take 146 = .ok (.iload_n 3, 1) := by decide +kernel
theorem dX10_take_147 : decode cX10_take 147 = .ok (.invokevirtual 377, 3) := by decide +kernel
theorem dX10_take_150 : decode cX10_take 150 = .ok (.ldc_w 394, 3) := by decide +kernel
theorem dX10_take_153 : decode cX10_take 153 = .ok (.ireturn, 1) := by decide +kernel
set_option maxHeartbeats 4000000 in
set_option maxRecDepth 100000 in
theorem ct_X10_take_no (ll : Launch) (D : va_G) (ta : Nat → ClassId) {G : (Nat → Prop) → State → Heap → Prop} (hGok : GOK G) (h0 : Nat) (a : Nat → Nat) (ar : Nat) (mn : Nat) (tp : Nat) (osz : Nat) (lsz : Nat) (ns : Nat) (ct : Nat) (se : Nat → Nat) (lv : Nat → Nat) (hlz : lsz ≤ 300) (hse : se 1 ≤ 2) (hlv : lv 1 < 256) (hno : lsz = 0 ∨ (se 1 ≠ 1 ∧ ¬ (se 1 = 2 ∧ lv 1 &&& 1 ≠ 0))) (sz : Nat) : CT ll yX10_take cX10_take 4 (some .int) ({ frames := 7, cells := 0, slots := 0, locals := 178 } : Room) D ta G [.ref h0] [(h0, oM a ar mn tp osz lsz ns ct), (a 39, aK ta 2 se), (a 40, aK ta 2 lv)] sz (S := Int32) (fun u => some (.int u)) (fun u => ((u : Int32) = -1)) (fun u => [(h0, oM a ar mn tp osz lsz ns ct), (a 39, aK ta 2 se), (a 40, aK ta 2 lv)]) 0 0 := by
  refine CT.of_i (r := fun u => u) rfl (by decide) (Nat.le_of_ble_eq_true rfl) ?_
  intro pp ee ss mm below meth kc A Q hx hb hml hown hin hts hK hA hsz hG hret H locs hP hD hS ls hl
  have hl : lv_has ls 4 [(0, .ref h0)] := hl
  refine lv_aload_n (pc := 0) hx hb dX10_take_0 rfl (lv_at hl 0 rfl) ?_
  refine va_get (pc := 1) (D := D) (ci := 8) (v := .int (nI lsz)) (C := RX10) (T := TX10) (N := 57) hx hb hts iu10 hown hK hP 0 rfl rfl 32 (by decide) (hts _ tw_1077) (fun _ h9 => h9) rfl dX10_take_1 ?_
  refine lv_istore_n (pc := 4) (lv' := [(1, .int (nI lsz)), (0, .ref h0)]) hx hb dX10_take_4 rfl hl (by decide) rfl (fun ls hl => ?_)
  have hlm1 : lv 1 &&& 1 ≤ 1 := Nat.and_le_right
  refine lv_aload_n (pc := 5) hx hb dX10_take_5 rfl (lv_at hl 1 rfl) ?_
  refine va_get (pc := 6) (D := D) (ci := 8) (v := .ref (a 39)) (C := RX10) (T := TX10) (N := 57) hx hb hts iu10 hown hK hP 0 rfl rfl 39 (by decide) (hts _ tw_1084) (fun _ h9 => h9) rfl dX10_take_6 ?_
  refine lv_iconst (pc := 9) (v := nI 1) hx hb dX10_take_9 (by decide +kernel) ?_
  refine q_iald (pc := 10) hx hb hK hP 1 0 rfl rfl (k := 1) (v := nI (se 1)) rfl (by omega) (by omega) rfl dX10_take_10 ?_
  refine lv_iconst (pc := 11) (v := nI 1) hx hb dX10_take_11 (by decide +kernel) ?_
  refine lv_icmp_ne (pc := 12) (tgt := 19) hx hb dX10_take_12 (by decide) (fun c_1 => ?_) (fun c_1 => ?_)
  · skip
    rw [nI_eq (by omega) (by omega)] at c_1
    refine lv_iconst (pc := 19) (v := nI 0) hx hb dX10_take_19 (by decide +kernel) ?_
    refine lv_istore_n (pc := 20) (lv' := [(2, .int (nI 0)), (1, .int (nI lsz)), (0, .ref h0)]) hx hb dX10_take_20 rfl hl (by decide) rfl (fun ls hl => ?_)
    refine lv_iload_n (pc := 21) hx hb dX10_take_21 rfl (lv_at hl 1 rfl) ?_
    refine lv_if_eq (pc := 22) (tgt := 50) hx hb dX10_take_22 (by decide) (fun c_2 => ?_) (fun c_2 => ?_)
    · skip
      rw [q_eq0 (by omega)] at c_2
      refine lv_iconst (pc := 50) (v := (-1)) hx hb dX10_take_50 (by decide +kernel) ?_
      refine q_top (y := (-1)) (by first | rfl | decide +kernel | (simp; done)) ?_
      have hq_3 : (((-1) : Int32) = -1) := by
        first | rfl | trivial | (refine ⟨?_, ?_⟩ <;> rfl) | (simp; done) | omega
      exact hret (-1) _ _ _ _ dX10_take_51 hq_3 (hP.sub [0, 1, 2] rfl) (hD.sub [0, 1, 2] (by decide) rfl) hS
    · skip
      rw [q_eq0 (by omega)] at c_2
      refine lv_iload_n (pc := 25) hx hb dX10_take_25 rfl (lv_at hl 0 rfl) ?_
      refine lv_if_ne (pc := 26) (tgt := 52) hx hb dX10_take_26 (by decide) (fun c_4 => absurd (by decide) c_4) (fun _ => ?_)
      refine lv_aload_n (pc := 29) hx hb dX10_take_29 rfl (lv_at hl 2 rfl) ?_
      refine va_get (pc := 30) (D := D) (ci := 8) (v := .ref (a 39)) (C := RX10) (T := TX10) (N := 57) hx hb hts iu10 hown hK hP 0 rfl rfl 39 (by decide) (hts _ tw_1084) (fun _ h9 => h9) rfl dX10_take_30 ?_
      refine lv_iconst (pc := 33) (v := nI 1) hx hb dX10_take_33 (by decide +kernel) ?_
      refine q_iald (pc := 34) hx hb hK hP 1 0 rfl rfl (k := 1) (v := nI (se 1)) rfl (by omega) (by omega) rfl dX10_take_34 ?_
      refine lv_iconst (pc := 35) (v := nI 2) hx hb dX10_take_35 (by decide +kernel) ?_
      refine lv_icmp_ne (pc := 36) (tgt := 50) hx hb dX10_take_36 (by decide) (fun c_5 => ?_) (fun c_5 => ?_)
      · skip
        rw [nI_eq (by omega) (by omega)] at c_5
        refine lv_iconst (pc := 50) (v := (-1)) hx hb dX10_take_50 (by decide +kernel) ?_
        refine q_top (y := (-1)) (by first | rfl | decide +kernel | (simp; done)) ?_
        have hq_6 : (((-1) : Int32) = -1) := by
          first | rfl | trivial | (refine ⟨?_, ?_⟩ <;> rfl) | (simp; done) | omega
        exact hret (-1) _ _ _ _ dX10_take_51 hq_6 (hP.sub [0, 1, 2] rfl) (hD.sub [0, 1, 2] (by decide) rfl) hS
      · skip
        rw [nI_eq (by omega) (by omega)] at c_5
        refine lv_aload_n (pc := 39) hx hb dX10_take_39 rfl (lv_at hl 2 rfl) ?_
        refine va_get (pc := 40) (D := D) (ci := 8) (v := .ref (a 40)) (C := RX10) (T := TX10) (N := 57) hx hb hts iu10 hown hK hP 0 rfl rfl 40 (by decide) (hts _ tw_1085) (fun _ h9 => h9) rfl dX10_take_40 ?_
        refine lv_iconst (pc := 43) (v := nI 1) hx hb dX10_take_43 (by decide +kernel) ?_
        refine q_iald (pc := 44) hx hb hK hP 2 0 rfl rfl (k := 1) (v := nI (lv 1)) rfl (by omega) (by omega) rfl dX10_take_44 ?_
        refine lv_iconst (pc := 45) (v := nI 1) hx hb dX10_take_45 (by decide +kernel) ?_
        refine lv_iand (pc := 46) hx hb dX10_take_46 ?_
        refine q_top (y := nI (lv 1 &&& 1)) (nI_and (by omega) (by omega)) ?_
        refine lv_if_ne (pc := 47) (tgt := 52) hx hb dX10_take_47 (by decide) (fun c_7 => ?_) (fun c_7 => ?_)
        · skip
          rw [q_eq0 (by omega)] at c_7
          exfalso; omega
        · skip
          rw [q_eq0 (by omega)] at c_7
          refine lv_iconst (pc := 50) (v := (-1)) hx hb dX10_take_50 (by decide +kernel) ?_
          refine q_top (y := (-1)) (by first | rfl | decide +kernel | (simp; done)) ?_
          have hq_8 : (((-1) : Int32) = -1) := by
            first | rfl | trivial | (refine ⟨?_, ?_⟩ <;> rfl) | (simp; done) | omega
          exact hret (-1) _ _ _ _ dX10_take_51 hq_8 (hP.sub [0, 1, 2] rfl) (hD.sub [0, 1, 2] (by decide) rfl) hS
  · skip
    rw [nI_eq (by omega) (by omega)] at c_1
    refine lv_iconst (pc := 15) (v := nI 1) hx hb dX10_take_15 (by decide +kernel) ?_
    refine lv_goto (pc := 16) (tgt := 20) hx hb dX10_take_16 (by decide) ?_
    refine lv_istore_n (pc := 20) (lv' := [(2, .int (nI 1)), (1, .int (nI lsz)), (0, .ref h0)]) hx hb dX10_take_20 rfl hl (by decide) rfl (fun ls hl => ?_)
    refine lv_iload_n (pc := 21) hx hb dX10_take_21 rfl (lv_at hl 1 rfl) ?_
    refine lv_if_eq (pc := 22) (tgt := 50) hx hb dX10_take_22 (by decide) (fun c_9 => ?_) (fun c_9 => ?_)
    · skip
      rw [q_eq0 (by omega)] at c_9
      refine lv_iconst (pc := 50) (v := (-1)) hx hb dX10_take_50 (by decide +kernel) ?_
      refine q_top (y := (-1)) (by first | rfl | decide +kernel | (simp; done)) ?_
      have hq_10 : (((-1) : Int32) = -1) := by
        first | rfl | trivial | (refine ⟨?_, ?_⟩ <;> rfl) | (simp; done) | omega
      exact hret (-1) _ _ _ _ dX10_take_51 hq_10 (hP.sub [0, 1, 2] rfl) (hD.sub [0, 1, 2] (by decide) rfl) hS
    · skip
      rw [q_eq0 (by omega)] at c_9
      refine lv_iload_n (pc := 25) hx hb dX10_take_25 rfl (lv_at hl 0 rfl) ?_
      refine lv_if_ne (pc := 26) (tgt := 52) hx hb dX10_take_26 (by decide) (fun _ => ?_) (fun c_11 => absurd c_11 (by decide))
      exfalso; omega
set_option maxHeartbeats 4000000 in
set_option maxRecDepth 100000 in
theorem ct_X10_take_p2 (ll : Launch) (D : va_G) (ta : Nat → ClassId) {G : (Nat → Prop) → State → Heap → Prop} (hGok : GOK G) (h0 : Nat) (a : Nat → Nat) (ar : Nat) (mn : Nat) (tp : Nat) (osz : Nat) (lsz : Nat) (ns : Nat) (ct : Nat) (bi : Nat → Bool) (tu : Nat → Bool) (cd : Nat → Bool) (sk : Nat → Bool) (hf : Nat → Bool) (wd : Nat → Bool) (gm : Nat → BitVec 8) (mac : Nat → BitVec 8) (gbl : Nat → BitVec 8) (gco : Nat → BitVec 8) (gch : Nat → BitVec 8) (gke : Nat → BitVec 8) (gli : Nat → BitVec 8) (gth : Nat → BitVec 8) (gbc : Nat → BitVec 8) (ru : Nat → Nat) (le : Nat → Nat) (se : Nat → Nat) (lv : Nat → Nat) (cn : Nat → Nat) (ha : Nat → Bool) (hlz : 0 < lsz ∧ lsz ≤ 300) (hse : se 1 = 1) (hru : ru 1 = 2) (hct : ct ≤ 16777215) (sz : Nat) : CT ll yX10_take cX10_take 4 (some .int) ({ frames := 7, cells := 0, slots := 0, locals := 178 } : Room) D ta G [.ref h0] [(h0, oM a ar mn tp osz lsz ns ct), (a 0, aK ta 64 tIP), (a 1, aK ta 48 tSPR), (a 2, aK ta 32 tMIX), (a 3, aK ta 56 tCH), (a 4, aK ta 48 tSEC), (a 5, aK ta 512 tSBX), (a 10, aB ta 64 bi), (a 11, aB ta 64 tu), (a 12, aB ta 56 cd), (a 13, aB ta 768 sk), (a 14, aB ta 32 hf), (a 15, aB ta 48 wd), (a 22, aS ta 700 gm), (a 24, aS ta 16 mac), (a 53, aS ta 16 gbl), (a 55, aS ta 16 gco), (a 45, aS ta 32 gch), (a 41, aS ta 256 gke), (a 36, aK ta 2 ru), (a 37, aK ta 2 le), (a 31, aS ta 300 gli), (a 43, aS ta 16 gth), (a 39, aK ta 2 se), (a 40, aK ta 2 lv), (a 47, aK ta 2 cn), (a 48, aT ta 2 ha), (a 46, aS ta 16 gbc)] sz (S := Int32 × Bool × (Nat → Bool) × (Nat → Bool) × (Nat → Bool) × (Nat → Bool) × (Nat → Bool) × (Nat → Bool) × (Nat → BitVec 8) × (Nat → BitVec 8) × (Nat → BitVec 8) × (Nat → BitVec 8) × (Nat → BitVec 8) × Nat × (Nat → BitVec 8) × (Nat → Nat) × (Nat → Nat) × (Nat → Nat) × (Nat → Bool) × Nat) (fun u => some (.int u.1)) (fun u => (u.2.1 = true → provB (qL gli lsz) (seg gth 8 8) false = true ∧ open2 (seg gke 128 16) (seg gke 160 16) 0 0 [] (qL gli lsz) = some (joinC (qL gli lsz) (seg gli 4 8), seg u.2.2.2.2.2.2.2.2.2.2.2.1 0 8)) ∧ (u.2.1 = false → provB (qL gli lsz) (seg gth 8 8) false = false ∨ open2 (seg gke 128 16) (seg gke 160 16) 0 0 [] (qL gli lsz) = none) ∧ (u.2.1 = true → u.2.2.2.2.2.2.2.2.2.2.2.2.2.2.2.1 = qU se 1 2 ∧ u.2.2.2.2.2.2.2.2.2.2.2.2.2.2.2.2.1 = qU lv 1 (gli 2).toNat ∧ u.2.2.2.2.2.2.2.2.2.2.2.2.2.2.2.2.2.1 = qU cn 1 0 ∧ u.2.2.2.2.2.2.2.2.2.2.2.2.2.2.2.2.2.2.1 = qU ha 1 false ∧ seg u.2.2.2.2.2.2.2.2.2.2.2.2.2.2.1 8 8 = seg u.2.2.2.2.2.2.2.2.2.2.2.1 0 8 ∧ u.2.2.2.2.2.2.2.2.2.2.2.2.2.2.2.2.2.2.2 = (ct + 1) % 16777216 ∧ seg u.2.2.2.2.2.2.2.2.2.2.2.2.1 16 16 = seg u.2.2.2.2.2.2.2.2.2.2.2.1 0 16) ∧ (u.2.1 = false → u.2.2.2.2.2.2.2.2.2.2.2.2.2.2.2.1 = qU se 1 0 ∧ u.2.2.2.2.2.2.2.2.2.2.2.2.2.2.2.2.1 = lv ∧ u.2.2.2.2.2.2.2.2.2.2.2.2.2.2.2.2.2.1 = cn ∧ u.2.2.2.2.2.2.2.2.2.2.2.2.2.2.2.2.2.2.1 = ha ∧ u.2.2.2.2.2.2.2.2.2.2.2.2.2.2.1 = gbc ∧ u.2.2.2.2.2.2.2.2.2.2.2.2.2.2.2.2.2.2.2 = ct) ∧ (∀ j, j < 8 → u.2.2.2.2.2.2.2.2.2.2.2.2.2.2.1 j = gbc j) ∧ (∀ j, j < 16 → u.2.2.2.2.2.2.2.2.2.2.2.2.1 j = gch j) ∧ ((u.1 : Int32) = if u.2.1 then nI 36864 else nI 25344)) (fun u => [(h0, oM a ar u.2.2.2.2.2.2.2.2.2.2.2.2.2.1 tp osz 0 ns u.2.2.2.2.2.2.2.2.2.2.2.2.2.2.2.2.2.2.2), (a 0, aK ta 64 tIP), (a 1, aK ta 48 tSPR), (a 2, aK ta 32 tMIX), (a 3, aK ta 56 tCH), (a 4, aK ta 48 tSEC), (a 5, aK ta 512 tSBX), (a 10, aB ta 64 u.2.2.1), (a 11, aB ta 64 u.2.2.2.1), (a 12, aB ta 56 u.2.2.2.2.1), (a 13, aB ta 768 u.2.2.2.2.2.1), (a 14, aB ta 32 u.2.2.2.2.2.2.1), (a 15, aB ta 48 u.2.2.2.2.2.2.2.1), (a 22, aS ta 700 u.2.2.2.2.2.2.2.2.1), (a 24, aS ta 16 u.2.2.2.2.2.2.2.2.2.1), (a 53, aS ta 16 u.2.2.2.2.2.2.2.2.2.2.1), (a 55, aS ta 16 u.2.2.2.2.2.2.2.2.2.2.2.1), (a 45, aS ta 32 u.2.2.2.2.2.2.2.2.2.2.2.2.1), (a 41, aS ta 256 gke), (a 36, aK ta 2 ru), (a 37, aK ta 2 le), (a 31, aS ta 300 gli), (a 43, aS ta 16 gth), (a 39, aK ta 2 u.2.2.2.2.2.2.2.2.2.2.2.2.2.2.2.1), (a 40, aK ta 2 u.2.2.2.2.2.2.2.2.2.2.2.2.2.2.2.2.1), (a 47, aK ta 2 u.2.2.2.2.2.2.2.2.2.2.2.2.2.2.2.2.2.1), (a 48, aT ta 2 u.2.2.2.2.2.2.2.2.2.2.2.2.2.2.2.2.2.2.1), (a 46, aS ta 16 u.2.2.2.2.2.2.2.2.2.2.2.2.2.2.1)]) 0 0 := by
  refine CT.of_i (r := fun u => u.1) rfl (by decide) (Nat.le_of_ble_eq_true rfl) ?_
  intro pp ee ss mm below meth kc A Q hx hb hml hown hin hts hK hA hsz hG hret H locs hP hD hS ls hl
  have hl : lv_has ls 4 [(0, .ref h0)] := hl
  refine lv_aload_n (pc := 0) hx hb dX10_take_0 rfl (lv_at hl 0 rfl) ?_
  refine va_get (pc := 1) (D := D) (ci := 8) (v := .int (nI lsz)) (C := RX10) (T := TX10) (N := 57) hx hb hts iu10 hown hK hP 0 rfl rfl 32 (by decide) (hts _ tw_1077) (fun _ h9 => h9) rfl dX10_take_1 ?_
  refine lv_istore_n (pc := 4) (lv' := [(1, .int (nI lsz)), (0, .ref h0)]) hx hb dX10_take_4 rfl hl (by decide) rfl (fun ls hl => ?_)
  refine lv_aload_n (pc := 5) hx hb dX10_take_5 rfl (lv_at hl 1 rfl) ?_
  refine va_get (pc := 6) (D := D) (ci := 8) (v := .ref (a 39)) (C := RX10) (T := TX10) (N := 57) hx hb hts iu10 hown hK hP 0 rfl rfl 39 (by decide) (hts _ tw_1084) (fun _ h9 => h9) rfl dX10_take_6 ?_
  refine lv_iconst (pc := 9) (v := nI 1) hx hb dX10_take_9 (by decide +kernel) ?_
  refine q_iald (pc := 10) hx hb hK hP 23 0 rfl rfl (k := 1) (v := nI (se 1)) rfl (by omega) (by omega) rfl dX10_take_10 ?_
  refine lv_iconst (pc := 11) (v := nI 1) hx hb dX10_take_11 (by decide +kernel) ?_
  refine lv_icmp_ne (pc := 12) (tgt := 19) hx hb dX10_take_12 (by decide) (fun c_1 => ?_) (fun c_1 => ?_)
  · skip
    rw [nI_eq (by omega) (by omega)] at c_1
    exfalso; omega
  · skip
    rw [nI_eq (by omega) (by omega)] at c_1
    refine lv_iconst (pc := 15) (v := nI 1) hx hb dX10_take_15 (by decide +kernel) ?_
    refine lv_goto (pc := 16) (tgt := 20) hx hb dX10_take_16 (by decide) ?_
    refine lv_istore_n (pc := 20) (lv' := [(2, .int (nI 1)), (1, .int (nI lsz)), (0, .ref h0)]) hx hb dX10_take_20 rfl hl (by decide) rfl (fun ls hl => ?_)
    refine lv_iload_n (pc := 21) hx hb dX10_take_21 rfl (lv_at hl 1 rfl) ?_
    refine lv_if_eq (pc := 22) (tgt := 50) hx hb dX10_take_22 (by decide) (fun c_2 => ?_) (fun c_2 => ?_)
    · skip
      rw [q_eq0 (by omega)] at c_2
      exfalso; omega
    · skip
      rw [q_eq0 (by omega)] at c_2
      refine lv_iload_n (pc := 25) hx hb dX10_take_25 rfl (lv_at hl 0 rfl) ?_
      refine lv_if_ne (pc := 26) (tgt := 52) hx hb dX10_take_26 (by decide) (fun _ => ?_) (fun c_3 => absurd c_3 (by decide))
      refine lv_aload_n (pc := 52) hx hb dX10_take_52 rfl (lv_at hl 2 rfl) ?_
      refine lv_iconst (pc := 53) (v := nI 0) hx hb dX10_take_53 (by decide +kernel) ?_
      refine va_put (pc := 54) (D := D) (ci := 8) (v := .int (nI 0)) (ty := .int) (C := RX10) (T := TX10) (N := 57) hx hb hts iu10 tyX10 tyX10_ok nmX10 hown hK hP hD hS 0 rfl rfl 32 (by decide) (hts _ tw_1077) (fun _ h9 => h9) rfl (by decide +kernel) rfl rfl (Nat.le_of_ble_eq_true rfl) dX10_take_54 (fun H locs hP hD hS => ?_)
      have hP : va_P D vwCl [(h0, oM a ar mn tp osz 0 ns ct), (a 0, aK ta 64 tIP), (a 1, aK ta 48 tSPR), (a 2, aK ta 32 tMIX), (a 3, aK ta 56 tCH), (a 4, aK ta 48 tSEC), (a 5, aK ta 512 tSBX), (a 10, aB ta 64 bi), (a 11, aB ta 64 tu), (a 12, aB ta 56 cd), (a 13, aB ta 768 sk), (a 14, aB ta 32 hf), (a 15, aB ta 48 wd), (a 22, aS ta 700 gm), (a 24, aS ta 16 mac), (a 53, aS ta 16 gbl), (a 55, aS ta 16 gco), (a 45, aS ta 32 gch), (a 41, aS ta 256 gke), (a 36, aK ta 2 ru), (a 37, aK ta 2 le), (a 31, aS ta 300 gli), (a 43, aS ta 16 gth), (a 39, aK ta 2 se), (a 40, aK ta 2 lv), (a 47, aK ta 2 cn), (a 48, aT ta 2 ha), (a 46, aS ta 16 gbc)] H := hP
      have hD : va_D A [(h0, oM a ar mn tp osz 0 ns ct), (a 0, aK ta 64 tIP), (a 1, aK ta 48 tSPR), (a 2, aK ta 32 tMIX), (a 3, aK ta 56 tCH), (a 4, aK ta 48 tSEC), (a 5, aK ta 512 tSBX), (a 10, aB ta 64 bi), (a 11, aB ta 64 tu), (a 12, aB ta 56 cd), (a 13, aB ta 768 sk), (a 14, aB ta 32 hf), (a 15, aB ta 48 wd), (a 22, aS ta 700 gm), (a 24, aS ta 16 mac), (a 53, aS ta 16 gbl), (a 55, aS ta 16 gco), (a 45, aS ta 32 gch), (a 41, aS ta 256 gke), (a 36, aK ta 2 ru), (a 37, aK ta 2 le), (a 31, aS ta 300 gli), (a 43, aS ta 16 gth), (a 39, aK ta 2 se), (a 40, aK ta 2 lv), (a 47, aK ta 2 cn), (a 48, aT ta 2 ha), (a 46, aS ta 16 gbc)] := hD
      refine lv_iload_n (pc := 57) hx hb dX10_take_57 rfl (lv_at hl 0 rfl) ?_
      refine lv_if_eq (pc := 58) (tgt := 113) hx hb dX10_take_58 (by decide) (fun c_4 => absurd c_4 (by decide)) (fun _ => ?_)
      refine lv_aload_n (pc := 61) hx hb dX10_take_61 rfl (lv_at hl 2 rfl) ?_
      refine lv_iload_n (pc := 62) hx hb dX10_take_62 rfl (lv_at hl 1 rfl) ?_
      refine cs_V (pc := 63) (idx := 391) (n := 1) (wr := [(a 39, aK ta 2 se), (a 40, aK ta 2 lv), (a 47, aK ta 2 cn), (a 48, aT ta 2 ha), (a 46, aS ta 16 gbc)]) (As := [.int (nI lsz)]) (rest := []) (ci := 8) hx hb hml hown hts hGok hK hA hG hl.1 hP hD hS (ct_X10_proven_2 ll D ta hGok h0 a ar mn tp osz 0 ns ct bi tu cd sk hf wd gm mac gbl gco gch gke gli gth ru le lsz (by first | assumption | omega | rfl | decide) (by first | assumption | omega | rfl | decide) H.size) tw_1408 tw_1405 tw_1407 tw_57 tw_75 hdX10_proven rfl ⟨rfl, rfl, Nat.le_of_ble_eq_true rfl, Nat.le_of_ble_eq_true rfl, Nat.le_of_ble_eq_true rfl, Nat.le_of_ble_eq_true rfl⟩ rfl rfl (q0 := 0) rfl [0, 1, 2, 3, 4, 5, 6, 7, 8, 9, 10, 11, 12, 13, 14, 15, 16, 17, 18, 19, 20, 21, 22] [23, 24, 25, 26, 27] rfl rfl (by decide) rfl (Nat.le_of_ble_eq_true rfl) dX10_take_63 (fun u H locs hq hP hD hS => ?_)
      obtain ⟨z_63, bi1_63, tu1_63, cd1_63, sk1_63, hf1_63, wd1_63, gm1_63, mac1_63, gbl1_63, gco1_63, gch1_63, mn1_63⟩ := u
      have hq : (z_63 = true → provB (qL gli lsz) (seg gth 8 8) false = true ∧ open2 (seg gke 128 16) (seg gke 160 16) 0 0 [] (qL gli lsz) = some (joinC (qL gli lsz) (seg gli 4 8), seg gco1_63 0 8)) ∧ (z_63 = false → provB (qL gli lsz) (seg gth 8 8) false = false ∨ open2 (seg gke 128 16) (seg gke 160 16) 0 0 [] (qL gli lsz) = none) ∧ (z_63 = true → seg gch1_63 16 16 = seg gco1_63 0 16) ∧ (∀ jz, jz < 16 → gch1_63 jz = gch jz) := hq
      obtain ⟨hz_63, hz0_63, hc_63, hfc_63⟩ := hq
      refine W.eq (g2 := F0 mm 66 ls [.int (qb z_63)]) rfl ?_
      have hP : va_P D vwCl [(a 39, aK ta 2 se), (a 40, aK ta 2 lv), (a 47, aK ta 2 cn), (a 48, aT ta 2 ha), (a 46, aS ta 16 gbc), (h0, oM a ar mn1_63 tp osz 0 ns ct), (a 0, aK ta 64 tIP), (a 1, aK ta 48 tSPR), (a 2, aK ta 32 tMIX), (a 3, aK ta 56 tCH), (a 4, aK ta 48 tSEC), (a 5, aK ta 512 tSBX), (a 10, aB ta 64 bi1_63), (a 11, aB ta 64 tu1_63), (a 12, aB ta 56 cd1_63), (a 13, aB ta 768 sk1_63), (a 14, aB ta 32 hf1_63), (a 15, aB ta 48 wd1_63), (a 22, aS ta 700 gm1_63), (a 24, aS ta 16 mac1_63), (a 53, aS ta 16 gbl1_63), (a 55, aS ta 16 gco1_63), (a 45, aS ta 32 gch1_63), (a 41, aS ta 256 gke), (a 36, aK ta 2 ru), (a 37, aK ta 2 le), (a 31, aS ta 300 gli), (a 43, aS ta 16 gth)] H := hP
      have hD : va_D A [(a 39, aK ta 2 se), (a 40, aK ta 2 lv), (a 47, aK ta 2 cn), (a 48, aT ta 2 ha), (a 46, aS ta 16 gbc), (h0, oM a ar mn1_63 tp osz 0 ns ct), (a 0, aK ta 64 tIP), (a 1, aK ta 48 tSPR), (a 2, aK ta 32 tMIX), (a 3, aK ta 56 tCH), (a 4, aK ta 48 tSEC), (a 5, aK ta 512 tSBX), (a 10, aB ta 64 bi1_63), (a 11, aB ta 64 tu1_63), (a 12, aB ta 56 cd1_63), (a 13, aB ta 768 sk1_63), (a 14, aB ta 32 hf1_63), (a 15, aB ta 48 wd1_63), (a 22, aS ta 700 gm1_63), (a 24, aS ta 16 mac1_63), (a 53, aS ta 16 gbl1_63), (a 55, aS ta 16 gco1_63), (a 45, aS ta 32 gch1_63), (a 41, aS ta 256 gke), (a 36, aK ta 2 ru), (a 37, aK ta 2 le), (a 31, aS ta 300 gli), (a 43, aS ta 16 gth)] := hD
      refine lv_if_ne (pc := 66) (tgt := 80) hx hb dX10_take_66 (by decide) (fun c_5 => ?_) (fun c_5 => ?_)
      · skip
        rw [q_beq] at c_5
        try rw [Bool.not_eq_false] at c_5
        have hzz := c_5
        refine lv_aload_n (pc := 80) hx hb dX10_take_80 rfl (lv_at hl 2 rfl) ?_
        refine lv_iconst (pc := 81) (v := nI 1) hx hb dX10_take_81 (by decide +kernel) ?_
        refine lv_aload_n (pc := 82) hx hb dX10_take_82 rfl (lv_at hl 2 rfl) ?_
        refine va_get (pc := 83) (D := D) (ci := 8) (v := .ref (a 31)) (C := RX10) (T := TX10) (N := 57) hx hb hts iu10 hown hK hP 5 rfl rfl 31 (by decide) (hts _ tw_1076) (fun _ h9 => h9) rfl dX10_take_83 ?_
        refine lv_iconst (pc := 86) (v := nI 2) hx hb dX10_take_86 (by decide +kernel) ?_
        refine q_bald (pc := 87) hx hb hK hP 26 2 rfl rfl (k := 2) (v := qs (gli 2)) rfl (by omega) (by omega) rfl dX10_take_87 ?_
        refine lv_sipush (pc := 88) (v := nI 255) hx hb dX10_take_88 (by decide +kernel) ?_
        refine lv_iand (pc := 91) hx hb dX10_take_91 ?_
        refine q_top (y := qz (gli 2)) ((q_m255 _).trans (congrArg qz (qlo_qs _))) ?_
        refine q_top (y := nI ((gli 2).toNat)) (qz_nat _) ?_
        refine cs_V (pc := 92) (idx := 364) (n := 2) (wr := [(a 0, aK ta 64 tIP), (a 1, aK ta 48 tSPR), (a 2, aK ta 32 tMIX), (a 3, aK ta 56 tCH), (a 4, aK ta 48 tSEC), (a 5, aK ta 512 tSBX), (a 10, aB ta 64 bi1_63), (a 11, aB ta 64 tu1_63), (a 12, aB ta 56 cd1_63), (a 13, aB ta 768 sk1_63), (a 14, aB ta 32 hf1_63), (a 15, aB ta 48 wd1_63), (a 22, aS ta 700 gm1_63), (a 24, aS ta 16 mac1_63), (a 53, aS ta 16 gbl1_63), (a 45, aS ta 32 gch1_63), (a 41, aS ta 256 gke), (a 36, aK ta 2 ru), (a 37, aK ta 2 le), (a 31, aS ta 300 gli), (a 43, aS ta 16 gth)]) (As := [.int (nI 1), .int (nI ((gli 2).toNat))]) (rest := []) (ci := 8) hx hb hml hown hts hGok hK hA hG hl.1 hP hD hS (ct_X10_opens ll D ta hGok h0 a ar mn1_63 tp osz 0 ns ct se lv cn ha gbc gco1_63 1 ((gli 2).toNat) (by first | assumption | omega | rfl | decide) H.size) tw_1376 tw_1373 tw_1375 tw_51 tw_75 hdX10_opens rfl ⟨rfl, rfl, Nat.le_of_ble_eq_true rfl, Nat.le_of_ble_eq_true rfl, Nat.le_of_ble_eq_true rfl, Nat.le_of_ble_eq_true rfl⟩ rfl rfl (q0 := 5) rfl [5, 0, 1, 2, 3, 4, 21] [6, 7, 8, 9, 10, 11, 12, 13, 14, 15, 16, 17, 18, 19, 20, 22, 23, 24, 25, 26, 27] rfl rfl (by decide) rfl (Nat.le_of_ble_eq_true rfl) dX10_take_92 (fun u H locs hq hP hD hS => ?_)
        obtain ⟨se1_92, lv1_92, cn1_92, ha1_92, gbc1_92⟩ := u
        have hq : (se1_92 = qU se 1 2) ∧ (lv1_92 = qU lv 1 ((gli 2).toNat)) ∧ (cn1_92 = qU cn 1 0) ∧ (ha1_92 = qU ha 1 false) ∧ (seg gbc1_92 (8 * 1) 8 = seg gco1_63 0 8) ∧ (∀ jz, (jz < 8 * 1 ∨ 8 * 1 + 8 ≤ jz) → gbc1_92 jz = gbc jz) := hq
        obtain ⟨hse_92, hlv_92, hcn_92, hha_92, hs_92, hfb_92⟩ := hq
        refine W.eq (g2 := F0 mm 95 ls []) rfl ?_
        have hP : va_P D vwCl [(a 0, aK ta 64 tIP), (a 1, aK ta 48 tSPR), (a 2, aK ta 32 tMIX), (a 3, aK ta 56 tCH), (a 4, aK ta 48 tSEC), (a 5, aK ta 512 tSBX), (a 10, aB ta 64 bi1_63), (a 11, aB ta 64 tu1_63), (a 12, aB ta 56 cd1_63), (a 13, aB ta 768 sk1_63), (a 14, aB ta 32 hf1_63), (a 15, aB ta 48 wd1_63), (a 22, aS ta 700 gm1_63), (a 24, aS ta 16 mac1_63), (a 53, aS ta 16 gbl1_63), (a 45, aS ta 32 gch1_63), (a 41, aS ta 256 gke), (a 36, aK ta 2 ru), (a 37, aK ta 2 le), (a 31, aS ta 300 gli), (a 43, aS ta 16 gth), (h0, oM a ar mn1_63 tp osz 0 ns ct), (a 39, aK ta 2 se1_92), (a 40, aK ta 2 lv1_92), (a 47, aK ta 2 cn1_92), (a 48, aT ta 2 ha1_92), (a 46, aS ta 16 gbc1_92), (a 55, aS ta 16 gco1_63)] H := hP
        have hD : va_D A [(a 0, aK ta 64 tIP), (a 1, aK ta 48 tSPR), (a 2, aK ta 32 tMIX), (a 3, aK ta 56 tCH), (a 4, aK ta 48 tSEC), (a 5, aK ta 512 tSBX), (a 10, aB ta 64 bi1_63), (a 11, aB ta 64 tu1_63), (a 12, aB ta 56 cd1_63), (a 13, aB ta 768 sk1_63), (a 14, aB ta 32 hf1_63), (a 15, aB ta 48 wd1_63), (a 22, aS ta 700 gm1_63), (a 24, aS ta 16 mac1_63), (a 53, aS ta 16 gbl1_63), (a 45, aS ta 32 gch1_63), (a 41, aS ta 256 gke), (a 36, aK ta 2 ru), (a 37, aK ta 2 le), (a 31, aS ta 300 gli), (a 43, aS ta 16 gth), (h0, oM a ar mn1_63 tp osz 0 ns ct), (a 39, aK ta 2 se1_92), (a 40, aK ta 2 lv1_92), (a 47, aK ta 2 cn1_92), (a 48, aT ta 2 ha1_92), (a 46, aS ta 16 gbc1_92), (a 55, aS ta 16 gco1_63)] := hD
        refine lv_aload_n (pc := 95) hx hb dX10_take_95 rfl (lv_at hl 2 rfl) ?_
        refine lv_aload_n (pc := 96) hx hb dX10_take_96 rfl (lv_at hl 2 rfl) ?_
        refine va_get (pc := 97) (D := D) (ci := 8) (v := .int (nI ct)) (C := RX10) (T := TX10) (N := 57) hx hb hts iu10 hown hK hP 21 rfl rfl 35 (by decide) (hts _ tw_1080) (fun _ h9 => h9) rfl dX10_take_97 ?_
        refine lv_iconst (pc := 100) (v := nI 1) hx hb dX10_take_100 (by decide +kernel) ?_
        refine lv_iadd (pc := 101) hx hb dX10_take_101 ?_
        refine q_top (y := nI (ct + 1)) (nI_add ct 1) ?_
        refine lv_ldcw (pc := 102) (v := (nI 16777215)) hx hb hown (q_at (hts _ tw_1274) (by decide +kernel)) dX10_take_102 ?_
        refine lv_iand (pc := 105) hx hb dX10_take_105 ?_
        refine q_top (y := nI ((ct + 1) % 16777216)) (q_andN (k := 24) (p := 16777216) (by decide) (by omega)) ?_
        refine va_put (pc := 106) (D := D) (ci := 8) (v := .int (nI ((ct + 1) % 16777216))) (ty := .int) (C := RX10) (T := TX10) (N := 57) hx hb hts iu10 tyX10 tyX10_ok nmX10 hown hK hP hD hS 21 rfl rfl 35 (by decide) (hts _ tw_1080) (fun _ h9 => h9) rfl (by decide +kernel) rfl rfl (Nat.le_of_ble_eq_true rfl) dX10_take_106 (fun H locs hP hD hS => ?_)
        have hP : va_P D vwCl [(a 0, aK ta 64 tIP), (a 1, aK ta 48 tSPR), (a 2, aK ta 32 tMIX), (a 3, aK ta 56 tCH), (a 4, aK ta 48 tSEC), (a 5, aK ta 512 tSBX), (a 10, aB ta 64 bi1_63), (a 11, aB ta 64 tu1_63), (a 12, aB ta 56 cd1_63), (a 13, aB ta 768 sk1_63), (a 14, aB ta 32 hf1_63), (a 15, aB ta 48 wd1_63), (a 22, aS ta 700 gm1_63), (a 24, aS ta 16 mac1_63), (a 53, aS ta 16 gbl1_63), (a 45, aS ta 32 gch1_63), (a 41, aS ta 256 gke), (a 36, aK ta 2 ru), (a 37, aK ta 2 le), (a 31, aS ta 300 gli), (a 43, aS ta 16 gth), (h0, oM a ar mn1_63 tp osz 0 ns ((ct + 1) % 16777216)), (a 39, aK ta 2 se1_92), (a 40, aK ta 2 lv1_92), (a 47, aK ta 2 cn1_92), (a 48, aT ta 2 ha1_92), (a 46, aS ta 16 gbc1_92), (a 55, aS ta 16 gco1_63)] H := hP
        have hD : va_D A [(a 0, aK ta 64 tIP), (a 1, aK ta 48 tSPR), (a 2, aK ta 32 tMIX), (a 3, aK ta 56 tCH), (a 4, aK ta 48 tSEC), (a 5, aK ta 512 tSBX), (a 10, aB ta 64 bi1_63), (a 11, aB ta 64 tu1_63), (a 12, aB ta 56 cd1_63), (a 13, aB ta 768 sk1_63), (a 14, aB ta 32 hf1_63), (a 15, aB ta 48 wd1_63), (a 22, aS ta 700 gm1_63), (a 24, aS ta 16 mac1_63), (a 53, aS ta 16 gbl1_63), (a 45, aS ta 32 gch1_63), (a 41, aS ta 256 gke), (a 36, aK ta 2 ru), (a 37, aK ta 2 le), (a 31, aS ta 300 gli), (a 43, aS ta 16 gth), (h0, oM a ar mn1_63 tp osz 0 ns ((ct + 1) % 16777216)), (a 39, aK ta 2 se1_92), (a 40, aK ta 2 lv1_92), (a 47, aK ta 2 cn1_92), (a 48, aT ta 2 ha1_92), (a 46, aS ta 16 gbc1_92), (a 55, aS ta 16 gco1_63)] := hD
        refine lv_ldcw (pc := 109) (v := (nI 36864)) hx hb hown (q_at (hts _ tw_1413) (by decide +kernel)) dX10_take_109 ?_
        refine q_top (y := (nI 36864)) (by first | rfl | decide +kernel | (simp; done)) ?_
        have hq_6 : (true = true → provB (qL gli lsz) (seg gth 8 8) false = true ∧ open2 (seg gke 128 16) (seg gke 160 16) 0 0 [] (qL gli lsz) = some (joinC (qL gli lsz) (seg gli 4 8), seg gco1_63 0 8)) ∧ (true = false → provB (qL gli lsz) (seg gth 8 8) false = false ∨ open2 (seg gke 128 16) (seg gke 160 16) 0 0 [] (qL gli lsz) = none) ∧ (true = true → se1_92 = qU se 1 2 ∧ lv1_92 = qU lv 1 (gli 2).toNat ∧ cn1_92 = qU cn 1 0 ∧ ha1_92 = qU ha 1 false ∧ seg gbc1_92 8 8 = seg gco1_63 0 8 ∧ ((ct + 1) % 16777216) = (ct + 1) % 16777216 ∧ seg gch1_63 16 16 = seg gco1_63 0 16) ∧ (true = false → se1_92 = qU se 1 0 ∧ lv1_92 = lv ∧ cn1_92 = cn ∧ ha1_92 = ha ∧ gbc1_92 = gbc ∧ ((ct + 1) % 16777216) = ct) ∧ (∀ j, j < 8 → gbc1_92 j = gbc j) ∧ (∀ j, j < 16 → gch1_63 j = gch j) ∧ (((nI 36864) : Int32) = if true then nI 36864 else nI 25344) := by
          refine ⟨fun _ => hz_63 hzz, fun q => (by cases q), fun _ => ⟨hse_92, hlv_92, hcn_92, hha_92, hs_92, rfl, hc_63 hzz⟩, fun q => (by cases q), fun j hj => hfb_92 j (by omega), hfc_63, rfl⟩
        exact hret (⟨(nI 36864), (true), (bi1_63), (tu1_63), (cd1_63), (sk1_63), (hf1_63), (wd1_63), (gm1_63), (mac1_63), (gbl1_63), (gco1_63), (gch1_63), (mn1_63), (gbc1_92), (se1_92), (lv1_92), (cn1_92), (ha1_92), ((ct + 1) % 16777216)⟩ : Int32 × Bool × (Nat → Bool) × (Nat → Bool) × (Nat → Bool) × (Nat → Bool) × (Nat → Bool) × (Nat → Bool) × (Nat → BitVec 8) × (Nat → BitVec 8) × (Nat → BitVec 8) × (Nat → BitVec 8) × (Nat → BitVec 8) × Nat × (Nat → BitVec 8) × (Nat → Nat) × (Nat → Nat) × (Nat → Nat) × (Nat → Bool) × Nat) _ _ _ _ dX10_take_112 hq_6 (hP.sub [21, 0, 1, 2, 3, 4, 5, 6, 7, 8, 9, 10, 11, 12, 13, 14, 27, 15, 16, 17, 18, 19, 20, 22, 23, 24, 25, 26] rfl) (hD.sub [21, 0, 1, 2, 3, 4, 5, 6, 7, 8, 9, 10, 11, 12, 13, 14, 27, 15, 16, 17, 18, 19, 20, 22, 23, 24, 25, 26] (by decide) rfl) hS
      · skip
        rw [q_beq] at c_5
        try rw [Bool.not_eq_false] at c_5
        have hzz := c_5
        refine lv_aload_n (pc := 69) hx hb dX10_take_69 rfl (lv_at hl 2 rfl) ?_
        refine va_get (pc := 70) (D := D) (ci := 8) (v := .ref (a 39)) (C := RX10) (T := TX10) (N := 57) hx hb hts iu10 hown hK hP 5 rfl rfl 39 (by decide) (hts _ tw_1084) (fun _ h9 => h9) rfl dX10_take_70 ?_
        refine lv_iconst (pc := 73) (v := nI 1) hx hb dX10_take_73 (by decide +kernel) ?_
        refine lv_iconst (pc := 74) (v := nI 0) hx hb dX10_take_74 (by decide +kernel) ?_
        refine q_iastK (pc := 75) hx hb hK hP hD hS 0 0 rfl rfl (k := 1) rfl (by omega) (by omega) (b := 0) rfl dX10_take_75 (fun H locs hP hD hS => ?_)
        have hP : va_P D vwCl [(a 39, aK ta 2 (qU se 1 0)), (a 40, aK ta 2 lv), (a 47, aK ta 2 cn), (a 48, aT ta 2 ha), (a 46, aS ta 16 gbc), (h0, oM a ar mn1_63 tp osz 0 ns ct), (a 0, aK ta 64 tIP), (a 1, aK ta 48 tSPR), (a 2, aK ta 32 tMIX), (a 3, aK ta 56 tCH), (a 4, aK ta 48 tSEC), (a 5, aK ta 512 tSBX), (a 10, aB ta 64 bi1_63), (a 11, aB ta 64 tu1_63), (a 12, aB ta 56 cd1_63), (a 13, aB ta 768 sk1_63), (a 14, aB ta 32 hf1_63), (a 15, aB ta 48 wd1_63), (a 22, aS ta 700 gm1_63), (a 24, aS ta 16 mac1_63), (a 53, aS ta 16 gbl1_63), (a 55, aS ta 16 gco1_63), (a 45, aS ta 32 gch1_63), (a 41, aS ta 256 gke), (a 36, aK ta 2 ru), (a 37, aK ta 2 le), (a 31, aS ta 300 gli), (a 43, aS ta 16 gth)] H := hP
        have hD : va_D A [(a 39, aK ta 2 (qU se 1 0)), (a 40, aK ta 2 lv), (a 47, aK ta 2 cn), (a 48, aT ta 2 ha), (a 46, aS ta 16 gbc), (h0, oM a ar mn1_63 tp osz 0 ns ct), (a 0, aK ta 64 tIP), (a 1, aK ta 48 tSPR), (a 2, aK ta 32 tMIX), (a 3, aK ta 56 tCH), (a 4, aK ta 48 tSEC), (a 5, aK ta 512 tSBX), (a 10, aB ta 64 bi1_63), (a 11, aB ta 64 tu1_63), (a 12, aB ta 56 cd1_63), (a 13, aB ta 768 sk1_63), (a 14, aB ta 32 hf1_63), (a 15, aB ta 48 wd1_63), (a 22, aS ta 700 gm1_63), (a 24, aS ta 16 mac1_63), (a 53, aS ta 16 gbl1_63), (a 55, aS ta 16 gco1_63), (a 45, aS ta 32 gch1_63), (a 41, aS ta 256 gke), (a 36, aK ta 2 ru), (a 37, aK ta 2 le), (a 31, aS ta 300 gli), (a 43, aS ta 16 gth)] := hD
        refine lv_sipush (pc := 76) (v := nI 25344) hx hb dX10_take_76 (by decide +kernel) ?_
        refine q_top (y := (nI 25344)) (by first | rfl | decide +kernel | (simp; done)) ?_
        have hq_7 : (false = true → provB (qL gli lsz) (seg gth 8 8) false = true ∧ open2 (seg gke 128 16) (seg gke 160 16) 0 0 [] (qL gli lsz) = some (joinC (qL gli lsz) (seg gli 4 8), seg gco1_63 0 8)) ∧ (false = false → provB (qL gli lsz) (seg gth 8 8) false = false ∨ open2 (seg gke 128 16) (seg gke 160 16) 0 0 [] (qL gli lsz) = none) ∧ (false = true → (qU se 1 0) = qU se 1 2 ∧ lv = qU lv 1 (gli 2).toNat ∧ cn = qU cn 1 0 ∧ ha = qU ha 1 false ∧ seg gbc 8 8 = seg gco1_63 0 8 ∧ ct = (ct + 1) % 16777216 ∧ seg gch1_63 16 16 = seg gco1_63 0 16) ∧ (false = false → (qU se 1 0) = qU se 1 0 ∧ lv = lv ∧ cn = cn ∧ ha = ha ∧ gbc = gbc ∧ ct = ct) ∧ (∀ j, j < 8 → gbc j = gbc j) ∧ (∀ j, j < 16 → gch1_63 j = gch j) ∧ (((nI 25344) : Int32) = if false then nI 36864 else nI 25344) := by
          refine ⟨fun q => (by cases q), fun _ => hz0_63 hzz, fun q => (by cases q), fun _ => ⟨rfl, rfl, rfl, rfl, rfl, rfl⟩, fun _ _ => rfl, hfc_63, rfl⟩
        exact hret (⟨(nI 25344), (false), (bi1_63), (tu1_63), (cd1_63), (sk1_63), (hf1_63), (wd1_63), (gm1_63), (mac1_63), (gbl1_63), (gco1_63), (gch1_63), (mn1_63), (gbc), (qU se 1 0), (lv), (cn), (ha), (ct)⟩ : Int32 × Bool × (Nat → Bool) × (Nat → Bool) × (Nat → Bool) × (Nat → Bool) × (Nat → Bool) × (Nat → Bool) × (Nat → BitVec 8) × (Nat → BitVec 8) × (Nat → BitVec 8) × (Nat → BitVec 8) × (Nat → BitVec 8) × Nat × (Nat → BitVec 8) × (Nat → Nat) × (Nat → Nat) × (Nat → Nat) × (Nat → Bool) × Nat) _ _ _ _ dX10_take_79 hq_7 (hP.sub [5, 6, 7, 8, 9, 10, 11, 12, 13, 14, 15, 16, 17, 18, 19, 20, 21, 22, 23, 24, 25, 26, 27, 0, 1, 2, 3, 4] rfl) (hD.sub [5, 6, 7, 8, 9, 10, 11, 12, 13, 14, 15, 16, 17, 18, 19, 20, 21, 22, 23, 24, 25, 26, 27, 0, 1, 2, 3, 4] (by decide) rfl) hS
set_option maxHeartbeats 4000000 in
set_option maxRecDepth 100000 in
theorem ct_X10_take_2 (ll : Launch) (D : va_G) (ta : Nat → ClassId) {G : (Nat → Prop) → State → Heap → Prop} (hGok : GOK G) (h0 : Nat) (a : Nat → Nat) (ar : Nat) (mn : Nat) (tp : Nat) (osz : Nat) (lsz : Nat) (ns : Nat) (ct : Nat) (bi : Nat → Bool) (tu : Nat → Bool) (cd : Nat → Bool) (sk : Nat → Bool) (hf : Nat → Bool) (wd : Nat → Bool) (gm : Nat → BitVec 8) (mac : Nat → BitVec 8) (gbl : Nat → BitVec 8) (gco : Nat → BitVec 8) (gch : Nat → BitVec 8) (gke : Nat → BitVec 8) (gli : Nat → BitVec 8) (gcm : Nat → BitVec 8) (gwk : Nat → BitVec 8) (gah : Nat → BitVec 8) (gou : Nat → BitVec 8) (ru : Nat → Nat) (le : Nat → Nat) (se : Nat → Nat) (lv : Nat → Nat) (cn : Nat → Nat) (ha : Nat → Bool) (cs : Nat → Nat) (hlz : 0 < lsz ∧ lsz ≤ 300) (hse : se 1 = 2) (hru : ru 1 = 2) (hlv : lv 1 < 256) (hl1 : lv 1 &&& 1 ≠ 0) (hcn : cn 1 + 1 < 2147483648) (sz : Nat) : CT ll yX10_take cX10_take 4 (some .int) ({ frames := 7, cells := 0, slots := 0, locals := 178 } : Room) D ta G [.ref h0] [(h0, oM a ar mn tp osz lsz ns ct), (a 0, aK ta 64 tIP), (a 1, aK ta 48 tSPR), (a 2, aK ta 32 tMIX), (a 3, aK ta 56 tCH), (a 4, aK ta 48 tSEC), (a 5, aK ta 512 tSBX), (a 10, aB ta 64 bi), (a 11, aB ta 64 tu), (a 12, aB ta 56 cd), (a 13, aB ta 768 sk), (a 14, aB ta 32 hf), (a 15, aB ta 48 wd), (a 22, aS ta 700 gm), (a 24, aS ta 16 mac), (a 53, aS ta 16 gbl), (a 55, aS ta 16 gco), (a 45, aS ta 32 gch), (a 41, aS ta 256 gke), (a 36, aK ta 2 ru), (a 37, aK ta 2 le), (a 31, aS ta 300 gli), (a 39, aK ta 2 se), (a 40, aK ta 2 lv), (a 47, aK ta 2 cn), (a 48, aT ta 2 ha), (a 50, aK ta 2 cs), (a 49, aS ta 408 gcm), (a 54, aS ta 300 gwk), (a 56, aS ta 16 gah), (a 29, aS ta 416 gou)] sz (S := Int32 × Bool × (Nat → Bool) × (Nat → Bool) × (Nat → Bool) × (Nat → Bool) × (Nat → Bool) × (Nat → Bool) × (Nat → BitVec 8) × (Nat → BitVec 8) × (Nat → BitVec 8) × (Nat → BitVec 8) × (Nat → BitVec 8) × Nat × (Nat → BitVec 8) × (Nat → BitVec 8) × (Nat → BitVec 8) × (Nat → BitVec 8) × (Nat → Nat) × (Nat → Nat) × (Nat → Bool) × (Nat → Nat) × Nat) (fun u => some (.int u.1)) (fun u => (open2 (seg gke 128 16) (seg gke 160 16) (cn 1 + 1) (lv 1) (seg gch 16 8) (qL gli lsz) = if u.2.1 then some (qL u.2.2.2.2.2.2.2.2.2.2.2.2.2.2.2.2.2.1 u.2.2.2.2.2.2.2.2.2.2.2.2.2.2.2.2.2.2.2.2.2.2, seg u.2.2.2.2.2.2.2.2.2.2.2.1 0 8) else none) ∧ (u.2.1 = true → u.2.2.2.2.2.2.2.2.2.2.2.2.2.2.2.2.2.2.1 = se ∧ u.2.2.2.2.2.2.2.2.2.2.2.2.2.2.2.2.2.2.2.1 = qU cn 1 (cn 1 + 1) ∧ u.2.2.2.2.2.2.2.2.2.2.2.2.2.2.2.2.2.2.2.2.1 = qU ha 1 true ∧ u.2.2.2.2.2.2.2.2.2.2.2.2.2.2.2.2.2.2.2.2.2.1 = qU cs 1 u.2.2.2.2.2.2.2.2.2.2.2.2.2.2.2.2.2.2.2.2.2.2 ∧ seg u.2.2.2.2.2.2.2.2.2.2.2.2.2.2.1 204 u.2.2.2.2.2.2.2.2.2.2.2.2.2.2.2.2.2.2.2.2.2.2 = qL u.2.2.2.2.2.2.2.2.2.2.2.2.2.2.2.2.2.1 u.2.2.2.2.2.2.2.2.2.2.2.2.2.2.2.2.2.2.2.2.2.2 ∧ seg u.2.2.2.2.2.2.2.2.2.2.2.2.1 16 16 = seg u.2.2.2.2.2.2.2.2.2.2.2.1 0 16 ∧ 4 ≤ u.2.2.2.2.2.2.2.2.2.2.2.2.2.2.2.2.2.2.2.2.2.2 ∧ u.2.2.2.2.2.2.2.2.2.2.2.2.2.2.2.2.2.2.2.2.2.2 ≤ 204) ∧ (u.2.1 = false → u.2.2.2.2.2.2.2.2.2.2.2.2.2.2.2.2.2.2.1 = qU se 1 0 ∧ u.2.2.2.2.2.2.2.2.2.2.2.2.2.2.2.2.2.2.2.2.1 = ha ∧ u.2.2.2.2.2.2.2.2.2.2.2.2.2.2.2.2.2.2.2.2.2.1 = cs ∧ u.2.2.2.2.2.2.2.2.2.2.2.2.2.2.1 = gcm ∧ u.2.2.2.2.2.2.2.2.2.2.2.2.2.2.2.2.2.1 = gou ∧ u.2.2.2.2.2.2.2.2.2.2.2.2.2.2.2.2.2.2.2.2.2.2 = osz) ∧ (∀ j, j < 16 → u.2.2.2.2.2.2.2.2.2.2.2.2.1 j = gch j) ∧ (∀ j, j < 204 → u.2.2.2.2.2.2.2.2.2.2.2.2.2.2.1 j = gcm j) ∧ (u.2.2.2.2.2.2.2.2.2.2.2.2.2.2.2.2.2.2.2.1 0 = cn 0) ∧ ((u.1 : Int32) = if u.2.1 then nI 36864 else nI 27010)) (fun u => [(h0, oM a ar u.2.2.2.2.2.2.2.2.2.2.2.2.2.1 tp u.2.2.2.2.2.2.2.2.2.2.2.2.2.2.2.2.2.2.2.2.2.2 0 ns ct), (a 0, aK ta 64 tIP), (a 1, aK ta 48 tSPR), (a 2, aK ta 32 tMIX), (a 3, aK ta 56 tCH), (a 4, aK ta 48 tSEC), (a 5, aK ta 512 tSBX), (a 10, aB ta 64 u.2.2.1), (a 11, aB ta 64 u.2.2.2.1), (a 12, aB ta 56 u.2.2.2.2.1), (a 13, aB ta 768 u.2.2.2.2.2.1), (a 14, aB ta 32 u.2.2.2.2.2.2.1), (a 15, aB ta 48 u.2.2.2.2.2.2.2.1), (a 22, aS ta 700 u.2.2.2.2.2.2.2.2.1), (a 24, aS ta 16 u.2.2.2.2.2.2.2.2.2.1), (a 53, aS ta 16 u.2.2.2.2.2.2.2.2.2.2.1), (a 55, aS ta 16 u.2.2.2.2.2.2.2.2.2.2.2.1), (a 45, aS ta 32 u.2.2.2.2.2.2.2.2.2.2.2.2.1), (a 41, aS ta 256 gke), (a 36, aK ta 2 ru), (a 37, aK ta 2 le), (a 31, aS ta 300 gli), (a 39, aK ta 2 u.2.2.2.2.2.2.2.2.2.2.2.2.2.2.2.2.2.2.1), (a 40, aK ta 2 lv), (a 47, aK ta 2 u.2.2.2.2.2.2.2.2.2.2.2.2.2.2.2.2.2.2.2.1), (a 48, aT ta 2 u.2.2.2.2.2.2.2.2.2.2.2.2.2.2.2.2.2.2.2.2.1), (a 50, aK ta 2 u.2.2.2.2.2.2.2.2.2.2.2.2.2.2.2.2.2.2.2.2.2.1), (a 49, aS ta 408 u.2.2.2.2.2.2.2.2.2.2.2.2.2.2.1), (a 54, aS ta 300 u.2.2.2.2.2.2.2.2.2.2.2.2.2.2.2.1), (a 56, aS ta 16 u.2.2.2.2.2.2.2.2.2.2.2.2.2.2.2.2.1), (a 29, aS ta 416 u.2.2.2.2.2.2.2.2.2.2.2.2.2.2.2.2.2.1)]) 0 0 := by
  refine CT.of_i (r := fun u => u.1) rfl (by decide) (Nat.le_of_ble_eq_true rfl) ?_
  intro pp ee ss mm below meth kc A Q hx hb hml hown hin hts hK hA hsz hG hret H locs hP hD hS ls hl
  have hl : lv_has ls 4 [(0, .ref h0)] := hl
  refine lv_aload_n (pc := 0) hx hb dX10_take_0 rfl (lv_at hl 0 rfl) ?_
  refine va_get (pc := 1) (D := D) (ci := 8) (v := .int (nI lsz)) (C := RX10) (T := TX10) (N := 57) hx hb hts iu10 hown hK hP 0 rfl rfl 32 (by decide) (hts _ tw_1077) (fun _ h9 => h9) rfl dX10_take_1 ?_
  refine lv_istore_n (pc := 4) (lv' := [(1, .int (nI lsz)), (0, .ref h0)]) hx hb dX10_take_4 rfl hl (by decide) rfl (fun ls hl => ?_)
  have hlm1 : lv 1 &&& 1 ≤ 1 := Nat.and_le_right
  refine lv_aload_n (pc := 5) hx hb dX10_take_5 rfl (lv_at hl 1 rfl) ?_
  refine va_get (pc := 6) (D := D) (ci := 8) (v := .ref (a 39)) (C := RX10) (T := TX10) (N := 57) hx hb hts iu10 hown hK hP 0 rfl rfl 39 (by decide) (hts _ tw_1084) (fun _ h9 => h9) rfl dX10_take_6 ?_
  refine lv_iconst (pc := 9) (v := nI 1) hx hb dX10_take_9 (by decide +kernel) ?_
  refine q_iald (pc := 10) hx hb hK hP 22 0 rfl rfl (k := 1) (v := nI (se 1)) rfl (by omega) (by omega) rfl dX10_take_10 ?_
  refine lv_iconst (pc := 11) (v := nI 1) hx hb dX10_take_11 (by decide +kernel) ?_
  refine lv_icmp_ne (pc := 12) (tgt := 19) hx hb dX10_take_12 (by decide) (fun c_1 => ?_) (fun c_1 => ?_)
  · skip
    rw [nI_eq (by omega) (by omega)] at c_1
    refine lv_iconst (pc := 19) (v := nI 0) hx hb dX10_take_19 (by decide +kernel) ?_
    refine lv_istore_n (pc := 20) (lv' := [(2, .int (nI 0)), (1, .int (nI lsz)), (0, .ref h0)]) hx hb dX10_take_20 rfl hl (by decide) rfl (fun ls hl => ?_)
    refine lv_iload_n (pc := 21) hx hb dX10_take_21 rfl (lv_at hl 1 rfl) ?_
    refine lv_if_eq (pc := 22) (tgt := 50) hx hb dX10_take_22 (by decide) (fun c_2 => ?_) (fun c_2 => ?_)
    · skip
      rw [q_eq0 (by omega)] at c_2
      exfalso; omega
    · skip
      rw [q_eq0 (by omega)] at c_2
      refine lv_iload_n (pc := 25) hx hb dX10_take_25 rfl (lv_at hl 0 rfl) ?_
      refine lv_if_ne (pc := 26) (tgt := 52) hx hb dX10_take_26 (by decide) (fun c_3 => absurd (by decide) c_3) (fun _ => ?_)
      refine lv_aload_n (pc := 29) hx hb dX10_take_29 rfl (lv_at hl 2 rfl) ?_
      refine va_get (pc := 30) (D := D) (ci := 8) (v := .ref (a 39)) (C := RX10) (T := TX10) (N := 57) hx hb hts iu10 hown hK hP 0 rfl rfl 39 (by decide) (hts _ tw_1084) (fun _ h9 => h9) rfl dX10_take_30 ?_
      refine lv_iconst (pc := 33) (v := nI 1) hx hb dX10_take_33 (by decide +kernel) ?_
      refine q_iald (pc := 34) hx hb hK hP 22 0 rfl rfl (k := 1) (v := nI (se 1)) rfl (by omega) (by omega) rfl dX10_take_34 ?_
      refine lv_iconst (pc := 35) (v := nI 2) hx hb dX10_take_35 (by decide +kernel) ?_
      refine lv_icmp_ne (pc := 36) (tgt := 50) hx hb dX10_take_36 (by decide) (fun c_4 => ?_) (fun c_4 => ?_)
      · skip
        rw [nI_eq (by omega) (by omega)] at c_4
        exfalso; omega
      · skip
        rw [nI_eq (by omega) (by omega)] at c_4
        refine lv_aload_n (pc := 39) hx hb dX10_take_39 rfl (lv_at hl 2 rfl) ?_
        refine va_get (pc := 40) (D := D) (ci := 8) (v := .ref (a 40)) (C := RX10) (T := TX10) (N := 57) hx hb hts iu10 hown hK hP 0 rfl rfl 40 (by decide) (hts _ tw_1085) (fun _ h9 => h9) rfl dX10_take_40 ?_
        refine lv_iconst (pc := 43) (v := nI 1) hx hb dX10_take_43 (by decide +kernel) ?_
        refine q_iald (pc := 44) hx hb hK hP 23 0 rfl rfl (k := 1) (v := nI (lv 1)) rfl (by omega) (by omega) rfl dX10_take_44 ?_
        refine lv_iconst (pc := 45) (v := nI 1) hx hb dX10_take_45 (by decide +kernel) ?_
        refine lv_iand (pc := 46) hx hb dX10_take_46 ?_
        refine q_top (y := nI (lv 1 &&& 1)) (nI_and (by omega) (by omega)) ?_
        refine lv_if_ne (pc := 47) (tgt := 52) hx hb dX10_take_47 (by decide) (fun c_5 => ?_) (fun c_5 => ?_)
        · skip
          rw [q_eq0 (by omega)] at c_5
          refine lv_aload_n (pc := 52) hx hb dX10_take_52 rfl (lv_at hl 2 rfl) ?_
          refine lv_iconst (pc := 53) (v := nI 0) hx hb dX10_take_53 (by decide +kernel) ?_
          refine va_put (pc := 54) (D := D) (ci := 8) (v := .int (nI 0)) (ty := .int) (C := RX10) (T := TX10) (N := 57) hx hb hts iu10 tyX10 tyX10_ok nmX10 hown hK hP hD hS 0 rfl rfl 32 (by decide) (hts _ tw_1077) (fun _ h9 => h9) rfl (by decide +kernel) rfl rfl (Nat.le_of_ble_eq_true rfl) dX10_take_54 (fun H locs hP hD hS => ?_)
          have hP : va_P D vwCl [(h0, oM a ar mn tp osz 0 ns ct), (a 0, aK ta 64 tIP), (a 1, aK ta 48 tSPR), (a 2, aK ta 32 tMIX), (a 3, aK ta 56 tCH), (a 4, aK ta 48 tSEC), (a 5, aK ta 512 tSBX), (a 10, aB ta 64 bi), (a 11, aB ta 64 tu), (a 12, aB ta 56 cd), (a 13, aB ta 768 sk), (a 14, aB ta 32 hf), (a 15, aB ta 48 wd), (a 22, aS ta 700 gm), (a 24, aS ta 16 mac), (a 53, aS ta 16 gbl), (a 55, aS ta 16 gco), (a 45, aS ta 32 gch), (a 41, aS ta 256 gke), (a 36, aK ta 2 ru), (a 37, aK ta 2 le), (a 31, aS ta 300 gli), (a 39, aK ta 2 se), (a 40, aK ta 2 lv), (a 47, aK ta 2 cn), (a 48, aT ta 2 ha), (a 50, aK ta 2 cs), (a 49, aS ta 408 gcm), (a 54, aS ta 300 gwk), (a 56, aS ta 16 gah), (a 29, aS ta 416 gou)] H := hP
          have hD : va_D A [(h0, oM a ar mn tp osz 0 ns ct), (a 0, aK ta 64 tIP), (a 1, aK ta 48 tSPR), (a 2, aK ta 32 tMIX), (a 3, aK ta 56 tCH), (a 4, aK ta 48 tSEC), (a 5, aK ta 512 tSBX), (a 10, aB ta 64 bi), (a 11, aB ta 64 tu), (a 12, aB ta 56 cd), (a 13, aB ta 768 sk), (a 14, aB ta 32 hf), (a 15, aB ta 48 wd), (a 22, aS ta 700 gm), (a 24, aS ta 16 mac), (a 53, aS ta 16 gbl), (a 55, aS ta 16 gco), (a 45, aS ta 32 gch), (a 41, aS ta 256 gke), (a 36, aK ta 2 ru), (a 37, aK ta 2 le), (a 31, aS ta 300 gli), (a 39, aK ta 2 se), (a 40, aK ta 2 lv), (a 47, aK ta 2 cn), (a 48, aT ta 2 ha), (a 50, aK ta 2 cs), (a 49, aS ta 408 gcm), (a 54, aS ta 300 gwk), (a 56, aS ta 16 gah), (a 29, aS ta 416 gou)] := hD
          refine lv_iload_n (pc := 57) hx hb dX10_take_57 rfl (lv_at hl 0 rfl) ?_
          refine lv_if_eq (pc := 58) (tgt := 113) hx hb dX10_take_58 (by decide) (fun _ => ?_) (fun c_6 => absurd (by decide) c_6)
          refine lv_aload_n (pc := 113) hx hb dX10_take_113 rfl (lv_at hl 2 rfl) ?_
          refine lv_iload_n (pc := 114) hx hb dX10_take_114 rfl (lv_at hl 1 rfl) ?_
          refine cs_V (pc := 115) (idx := 395) (n := 1) (wr := [(a 39, aK ta 2 se), (a 48, aT ta 2 ha), (a 50, aK ta 2 cs), (a 49, aS ta 408 gcm)]) (As := [.int (nI lsz)]) (rest := []) (ci := 8) hx hb hml hown hts hGok hK hA hG hl.1 hP hD hS (ct_X10_opened_2 ll D ta hGok h0 a ar mn tp osz 0 ns ct bi tu cd sk hf wd gm mac gbl gco gch gke gli gwk gah gou ru le lv cn lsz (by first | assumption | omega | rfl | decide) (by first | assumption | omega | rfl | decide) (by first | assumption | omega | rfl | decide) (by first | assumption | omega | rfl | decide) H.size) tw_1417 tw_1414 tw_1416 tw_59 tw_75 hdX10_opened rfl ⟨rfl, rfl, Nat.le_of_ble_eq_true rfl, Nat.le_of_ble_eq_true rfl, Nat.le_of_ble_eq_true rfl, Nat.le_of_ble_eq_true rfl⟩ rfl rfl (q0 := 0) rfl [0, 1, 2, 3, 4, 5, 6, 7, 8, 9, 10, 11, 12, 13, 14, 15, 16, 17, 18, 19, 20, 21, 23, 24, 28, 29, 30] [22, 25, 26, 27] rfl rfl (by decide) rfl (Nat.le_of_ble_eq_true rfl) dX10_take_115 (fun u H locs hq hP hD hS => ?_)
          obtain ⟨r_115, z_115, bi1_115, tu1_115, cd1_115, sk1_115, hf1_115, wd1_115, gm1_115, mac1_115, gbl1_115, gco1_115, gch1_115, gwk1_115, gah1_115, gou1_115, cn1_115, mn1_115, n1_115⟩ := u
          have hq : (open2 (seg gke 128 16) (seg gke 160 16) (cn 1 + 1) (lv 1) (seg gch 16 8) (qL gli lsz) = if z_115 then some (qL gou1_115 n1_115, seg gco1_115 0 8) else none) ∧ ((r_115 : Int32) = if z_115 then nI n1_115 else -1) ∧ (z_115 = true → cn1_115 = qU cn 1 (cn 1 + 1) ∧ seg gch1_115 16 16 = seg gco1_115 0 16 ∧ 4 ≤ n1_115 ∧ n1_115 ≤ 204) ∧ (z_115 = false → gou1_115 = gou) ∧ (∀ jz, jz < 16 → gch1_115 jz = gch jz) ∧ (cn1_115 0 = cn 0) := hq
          obtain ⟨hz_115, hr_115, hy_115, hx9_115, hfc_115, hcn0_115⟩ := hq
          refine W.eq (g2 := F0 mm 118 ls [.int r_115]) rfl ?_
          have hP : va_P D vwCl [(a 39, aK ta 2 se), (a 48, aT ta 2 ha), (a 50, aK ta 2 cs), (a 49, aS ta 408 gcm), (h0, oM a ar mn1_115 tp osz 0 ns ct), (a 0, aK ta 64 tIP), (a 1, aK ta 48 tSPR), (a 2, aK ta 32 tMIX), (a 3, aK ta 56 tCH), (a 4, aK ta 48 tSEC), (a 5, aK ta 512 tSBX), (a 10, aB ta 64 bi1_115), (a 11, aB ta 64 tu1_115), (a 12, aB ta 56 cd1_115), (a 13, aB ta 768 sk1_115), (a 14, aB ta 32 hf1_115), (a 15, aB ta 48 wd1_115), (a 22, aS ta 700 gm1_115), (a 24, aS ta 16 mac1_115), (a 53, aS ta 16 gbl1_115), (a 55, aS ta 16 gco1_115), (a 45, aS ta 32 gch1_115), (a 41, aS ta 256 gke), (a 36, aK ta 2 ru), (a 37, aK ta 2 le), (a 31, aS ta 300 gli), (a 40, aK ta 2 lv), (a 47, aK ta 2 cn1_115), (a 54, aS ta 300 gwk1_115), (a 56, aS ta 16 gah1_115), (a 29, aS ta 416 gou1_115)] H := hP
          have hD : va_D A [(a 39, aK ta 2 se), (a 48, aT ta 2 ha), (a 50, aK ta 2 cs), (a 49, aS ta 408 gcm), (h0, oM a ar mn1_115 tp osz 0 ns ct), (a 0, aK ta 64 tIP), (a 1, aK ta 48 tSPR), (a 2, aK ta 32 tMIX), (a 3, aK ta 56 tCH), (a 4, aK ta 48 tSEC), (a 5, aK ta 512 tSBX), (a 10, aB ta 64 bi1_115), (a 11, aB ta 64 tu1_115), (a 12, aB ta 56 cd1_115), (a 13, aB ta 768 sk1_115), (a 14, aB ta 32 hf1_115), (a 15, aB ta 48 wd1_115), (a 22, aS ta 700 gm1_115), (a 24, aS ta 16 mac1_115), (a 53, aS ta 16 gbl1_115), (a 55, aS ta 16 gco1_115), (a 45, aS ta 32 gch1_115), (a 41, aS ta 256 gke), (a 36, aK ta 2 ru), (a 37, aK ta 2 le), (a 31, aS ta 300 gli), (a 40, aK ta 2 lv), (a 47, aK ta 2 cn1_115), (a 54, aS ta 300 gwk1_115), (a 56, aS ta 16 gah1_115), (a 29, aS ta 416 gou1_115)] := hD
          by_cases hzz : z_115 = true
          · skip
            have hr8 : r_115 = nI n1_115 := by rw [hr_115, hzz]; rfl
            subst hr8
            have hy8 := hy_115 hzz
            refine lv_istore_n (pc := 118) (lv' := [(3, .int (nI n1_115)), (2, .int (nI 0)), (1, .int (nI lsz)), (0, .ref h0)]) hx hb dX10_take_118 rfl hl (by decide) rfl (fun ls hl => ?_)
            refine lv_iload_n (pc := 119) hx hb dX10_take_119 rfl (lv_at hl 0 rfl) ?_
            refine lv_iconst (pc := 120) (v := (-1)) hx hb dX10_take_120 (by decide +kernel) ?_
            refine lv_icmp_ne (pc := 121) (tgt := 135) hx hb dX10_take_121 (by decide) (fun c_7 => ?_) (fun c_7 => ?_)
            · skip
              refine lv_aload_n (pc := 135) hx hb dX10_take_135 rfl (lv_at hl 3 rfl) ?_
              refine lv_iload_n (pc := 136) hx hb dX10_take_136 rfl (lv_at hl 0 rfl) ?_
              refine va_put (pc := 137) (D := D) (ci := 8) (v := .int (nI n1_115)) (ty := .int) (C := RX10) (T := TX10) (N := 57) hx hb hts iu10 tyX10 tyX10_ok nmX10 hown hK hP hD hS 4 rfl rfl 30 (by decide) (hts _ tw_1075) (fun _ h9 => h9) rfl (by decide +kernel) rfl rfl (Nat.le_of_ble_eq_true rfl) dX10_take_137 (fun H locs hP hD hS => ?_)
              have hP : va_P D vwCl [(a 39, aK ta 2 se), (a 48, aT ta 2 ha), (a 50, aK ta 2 cs), (a 49, aS ta 408 gcm), (h0, oM a ar mn1_115 tp n1_115 0 ns ct), (a 0, aK ta 64 tIP), (a 1, aK ta 48 tSPR), (a 2, aK ta 32 tMIX), (a 3, aK ta 56 tCH), (a 4, aK ta 48 tSEC), (a 5, aK ta 512 tSBX), (a 10, aB ta 64 bi1_115), (a 11, aB ta 64 tu1_115), (a 12, aB ta 56 cd1_115), (a 13, aB ta 768 sk1_115), (a 14, aB ta 32 hf1_115), (a 15, aB ta 48 wd1_115), (a 22, aS ta 700 gm1_115), (a 24, aS ta 16 mac1_115), (a 53, aS ta 16 gbl1_115), (a 55, aS ta 16 gco1_115), (a 45, aS ta 32 gch1_115), (a 41, aS ta 256 gke), (a 36, aK ta 2 ru), (a 37, aK ta 2 le), (a 31, aS ta 300 gli), (a 40, aK ta 2 lv), (a 47, aK ta 2 cn1_115), (a 54, aS ta 300 gwk1_115), (a 56, aS ta 16 gah1_115), (a 29, aS ta 416 gou1_115)] H := hP
              have hD : va_D A [(a 39, aK ta 2 se), (a 48, aT ta 2 ha), (a 50, aK ta 2 cs), (a 49, aS ta 408 gcm), (h0, oM a ar mn1_115 tp n1_115 0 ns ct), (a 0, aK ta 64 tIP), (a 1, aK ta 48 tSPR), (a 2, aK ta 32 tMIX), (a 3, aK ta 56 tCH), (a 4, aK ta 48 tSEC), (a 5, aK ta 512 tSBX), (a 10, aB ta 64 bi1_115), (a 11, aB ta 64 tu1_115), (a 12, aB ta 56 cd1_115), (a 13, aB ta 768 sk1_115), (a 14, aB ta 32 hf1_115), (a 15, aB ta 48 wd1_115), (a 22, aS ta 700 gm1_115), (a 24, aS ta 16 mac1_115), (a 53, aS ta 16 gbl1_115), (a 55, aS ta 16 gco1_115), (a 45, aS ta 32 gch1_115), (a 41, aS ta 256 gke), (a 36, aK ta 2 ru), (a 37, aK ta 2 le), (a 31, aS ta 300 gli), (a 40, aK ta 2 lv), (a 47, aK ta 2 cn1_115), (a 54, aS ta 300 gwk1_115), (a 56, aS ta 16 gah1_115), (a 29, aS ta 416 gou1_115)] := hD
              refine lv_aload_n (pc := 140) hx hb dX10_take_140 rfl (lv_at hl 3 rfl) ?_
              refine lv_iconst (pc := 141) (v := nI 1) hx hb dX10_take_141 (by decide +kernel) ?_
              refine lv_aload_n (pc := 142) hx hb dX10_take_142 rfl (lv_at hl 3 rfl) ?_
              refine va_get (pc := 143) (D := D) (ci := 8) (v := .ref (a 29)) (C := RX10) (T := TX10) (N := 57) hx hb hts iu10 hown hK hP 4 rfl rfl 29 (by decide) (hts _ tw_1074) (fun _ h9 => h9) rfl dX10_take_143 ?_
              refine lv_iload_n (pc := 146) hx hb dX10_take_146 rfl (lv_at hl 0 rfl) ?_
              refine cs_V (pc := 147) (idx := 377) (n := 3) (wr := [(a 39, aK ta 2 se), (a 0, aK ta 64 tIP), (a 1, aK ta 48 tSPR), (a 2, aK ta 32 tMIX), (a 3, aK ta 56 tCH), (a 4, aK ta 48 tSEC), (a 5, aK ta 512 tSBX), (a 10, aB ta 64 bi1_115), (a 11, aB ta 64 tu1_115), (a 12, aB ta 56 cd1_115), (a 13, aB ta 768 sk1_115), (a 14, aB ta 32 hf1_115), (a 15, aB ta 48 wd1_115), (a 22, aS ta 700 gm1_115), (a 24, aS ta 16 mac1_115), (a 53, aS ta 16 gbl1_115), (a 55, aS ta 16 gco1_115), (a 45, aS ta 32 gch1_115), (a 41, aS ta 256 gke), (a 36, aK ta 2 ru), (a 37, aK ta 2 le), (a 31, aS ta 300 gli), (a 40, aK ta 2 lv), (a 47, aK ta 2 cn1_115), (a 54, aS ta 300 gwk1_115), (a 56, aS ta 16 gah1_115)]) (As := [.int (nI 1), .ref (a 29), .int (nI n1_115)]) (rest := []) (ci := 8) hx hb hml hown hts hGok hK hA hG hl.1 hP hD hS (ct_X10_keepCommand ll D ta hGok h0 a ar mn1_115 tp n1_115 0 ns ct ha cs gcm 1 (a 29) 416 gou1_115 n1_115 (by first | assumption | omega | rfl | decide) (by first | assumption | omega | rfl | decide) H.size) tw_1384 tw_1381 tw_1383 tw_52 tw_75 hdX10_keepCommand rfl ⟨rfl, rfl, Nat.le_of_ble_eq_true rfl, Nat.le_of_ble_eq_true rfl, Nat.le_of_ble_eq_true rfl, Nat.le_of_ble_eq_true rfl⟩ rfl rfl (q0 := 4) rfl [4, 1, 2, 3, 30] [0, 5, 6, 7, 8, 9, 10, 11, 12, 13, 14, 15, 16, 17, 18, 19, 20, 21, 22, 23, 24, 25, 26, 27, 28, 29] rfl rfl (by decide) rfl (Nat.le_of_ble_eq_true rfl) dX10_take_147 (fun u H locs hq hP hD hS => ?_)
              obtain ⟨ha1_147, cs1_147, gcm1_147⟩ := u
              have hq : (ha1_147 = qU ha 1 true) ∧ (cs1_147 = qU cs 1 n1_115) ∧ (seg gcm1_147 (204 * 1) n1_115 = qL gou1_115 n1_115) ∧ (∀ jz, (jz < 204 * 1 ∨ 204 * 1 + 204 ≤ jz) → gcm1_147 jz = gcm jz) := hq
              obtain ⟨hha_147, hcs_147, hs_147, hfr_147⟩ := hq
              refine W.eq (g2 := F0 mm 150 ls []) rfl ?_
              have hP : va_P D vwCl [(a 39, aK ta 2 se), (a 0, aK ta 64 tIP), (a 1, aK ta 48 tSPR), (a 2, aK ta 32 tMIX), (a 3, aK ta 56 tCH), (a 4, aK ta 48 tSEC), (a 5, aK ta 512 tSBX), (a 10, aB ta 64 bi1_115), (a 11, aB ta 64 tu1_115), (a 12, aB ta 56 cd1_115), (a 13, aB ta 768 sk1_115), (a 14, aB ta 32 hf1_115), (a 15, aB ta 48 wd1_115), (a 22, aS ta 700 gm1_115), (a 24, aS ta 16 mac1_115), (a 53, aS ta 16 gbl1_115), (a 55, aS ta 16 gco1_115), (a 45, aS ta 32 gch1_115), (a 41, aS ta 256 gke), (a 36, aK ta 2 ru), (a 37, aK ta 2 le), (a 31, aS ta 300 gli), (a 40, aK ta 2 lv), (a 47, aK ta 2 cn1_115), (a 54, aS ta 300 gwk1_115), (a 56, aS ta 16 gah1_115), (h0, oM a ar mn1_115 tp n1_115 0 ns ct), (a 48, aT ta 2 ha1_147), (a 50, aK ta 2 cs1_147), (a 49, aS ta 408 gcm1_147), (a 29, aS ta 416 gou1_115)] H := hP
              have hD : va_D A [(a 39, aK ta 2 se), (a 0, aK ta 64 tIP), (a 1, aK ta 48 tSPR), (a 2, aK ta 32 tMIX), (a 3, aK ta 56 tCH), (a 4, aK ta 48 tSEC), (a 5, aK ta 512 tSBX), (a 10, aB ta 64 bi1_115), (a 11, aB ta 64 tu1_115), (a 12, aB ta 56 cd1_115), (a 13, aB ta 768 sk1_115), (a 14, aB ta 32 hf1_115), (a 15, aB ta 48 wd1_115), (a 22, aS ta 700 gm1_115), (a 24, aS ta 16 mac1_115), (a 53, aS ta 16 gbl1_115), (a 55, aS ta 16 gco1_115), (a 45, aS ta 32 gch1_115), (a 41, aS ta 256 gke), (a 36, aK ta 2 ru), (a 37, aK ta 2 le), (a 31, aS ta 300 gli), (a 40, aK ta 2 lv), (a 47, aK ta 2 cn1_115), (a 54, aS ta 300 gwk1_115), (a 56, aS ta 16 gah1_115), (h0, oM a ar mn1_115 tp n1_115 0 ns ct), (a 48, aT ta 2 ha1_147), (a 50, aK ta 2 cs1_147), (a 49, aS ta 408 gcm1_147), (a 29, aS ta 416 gou1_115)] := hD
              refine lv_ldcw (pc := 150) (v := (nI 36864)) hx hb hown (q_at (hts _ tw_1413) (by decide +kernel)) dX10_take_150 ?_
              refine q_top (y := (nI 36864)) (by first | rfl | decide +kernel | (simp; done)) ?_
              have hq_8 : (open2 (seg gke 128 16) (seg gke 160 16) (cn 1 + 1) (lv 1) (seg gch 16 8) (qL gli lsz) = if true then some (qL gou1_115 n1_115, seg gco1_115 0 8) else none) ∧ (true = true → se = se ∧ cn1_115 = qU cn 1 (cn 1 + 1) ∧ ha1_147 = qU ha 1 true ∧ cs1_147 = qU cs 1 n1_115 ∧ seg gcm1_147 204 n1_115 = qL gou1_115 n1_115 ∧ seg gch1_115 16 16 = seg gco1_115 0 16 ∧ 4 ≤ n1_115 ∧ n1_115 ≤ 204) ∧ (true = false → se = qU se 1 0 ∧ ha1_147 = ha ∧ cs1_147 = cs ∧ gcm1_147 = gcm ∧ gou1_115 = gou ∧ n1_115 = osz) ∧ (∀ j, j < 16 → gch1_115 j = gch j) ∧ (∀ j, j < 204 → gcm1_147 j = gcm j) ∧ (cn1_115 0 = cn 0) ∧ (((nI 36864) : Int32) = if true then nI 36864 else nI 27010) := by
                rw [hzz] at hz_115
                refine ⟨hz_115, fun _ => ⟨rfl, hy8.1, hha_147, hcs_147, hs_147, hy8.2.1, hy8.2.2.1, hy8.2.2.2⟩, fun q => (by cases q), hfc_115, fun j hj => hfr_147 j (by omega), hcn0_115, rfl⟩
              exact hret (⟨(nI 36864), (true), (bi1_115), (tu1_115), (cd1_115), (sk1_115), (hf1_115), (wd1_115), (gm1_115), (mac1_115), (gbl1_115), (gco1_115), (gch1_115), (mn1_115), (gcm1_147), (gwk1_115), (gah1_115), (gou1_115), (se), (cn1_115), (ha1_147), (cs1_147), (n1_115)⟩ : Int32 × Bool × (Nat → Bool) × (Nat → Bool) × (Nat → Bool) × (Nat → Bool) × (Nat → Bool) × (Nat → Bool) × (Nat → BitVec 8) × (Nat → BitVec 8) × (Nat → BitVec 8) × (Nat → BitVec 8) × (Nat → BitVec 8) × Nat × (Nat → BitVec 8) × (Nat → BitVec 8) × (Nat → BitVec 8) × (Nat → BitVec 8) × (Nat → Nat) × (Nat → Nat) × (Nat → Bool) × (Nat → Nat) × Nat) _ _ _ _ dX10_take_153 hq_8 (hP.sub [26, 1, 2, 3, 4, 5, 6, 7, 8, 9, 10, 11, 12, 13, 14, 15, 16, 17, 18, 19, 20, 21, 0, 22, 23, 27, 28, 29, 24, 25, 30] rfl) (hD.sub [26, 1, 2, 3, 4, 5, 6, 7, 8, 9, 10, 11, 12, 13, 14, 15, 16, 17, 18, 19, 20, 21, 0, 22, 23, 27, 28, 29, 24, 25, 30] (by decide) rfl) hS
            · skip
              exact absurd c_7 (nI_nm1 (by omega))
          · skip
            have hzf : z_115 = false := by simpa using hzz
            have hr8 : r_115 = -1 := by rw [hr_115, hzf]; rfl
            subst hr8
            refine lv_istore_n (pc := 118) (lv' := [(3, .int (-1)), (2, .int (nI 0)), (1, .int (nI lsz)), (0, .ref h0)]) hx hb dX10_take_118 rfl hl (by decide) rfl (fun ls hl => ?_)
            refine lv_iload_n (pc := 119) hx hb dX10_take_119 rfl (lv_at hl 0 rfl) ?_
            refine lv_iconst (pc := 120) (v := (-1)) hx hb dX10_take_120 (by decide +kernel) ?_
            refine lv_icmp_ne (pc := 121) (tgt := 135) hx hb dX10_take_121 (by decide) (fun c_9 => ?_) (fun c_9 => ?_)
            · skip
              exact absurd rfl c_9
            · skip
              refine lv_aload_n (pc := 124) hx hb dX10_take_124 rfl (lv_at hl 3 rfl) ?_
              refine va_get (pc := 125) (D := D) (ci := 8) (v := .ref (a 39)) (C := RX10) (T := TX10) (N := 57) hx hb hts iu10 hown hK hP 4 rfl rfl 39 (by decide) (hts _ tw_1084) (fun _ h9 => h9) rfl dX10_take_125 ?_
              refine lv_iconst (pc := 128) (v := nI 1) hx hb dX10_take_128 (by decide +kernel) ?_
              refine lv_iconst (pc := 129) (v := nI 0) hx hb dX10_take_129 (by decide +kernel) ?_
              refine q_iastK (pc := 130) hx hb hK hP hD hS 0 0 rfl rfl (k := 1) rfl (by omega) (by omega) (b := 0) rfl dX10_take_130 (fun H locs hP hD hS => ?_)
              have hP : va_P D vwCl [(a 39, aK ta 2 (qU se 1 0)), (a 48, aT ta 2 ha), (a 50, aK ta 2 cs), (a 49, aS ta 408 gcm), (h0, oM a ar mn1_115 tp osz 0 ns ct), (a 0, aK ta 64 tIP), (a 1, aK ta 48 tSPR), (a 2, aK ta 32 tMIX), (a 3, aK ta 56 tCH), (a 4, aK ta 48 tSEC), (a 5, aK ta 512 tSBX), (a 10, aB ta 64 bi1_115), (a 11, aB ta 64 tu1_115), (a 12, aB ta 56 cd1_115), (a 13, aB ta 768 sk1_115), (a 14, aB ta 32 hf1_115), (a 15, aB ta 48 wd1_115), (a 22, aS ta 700 gm1_115), (a 24, aS ta 16 mac1_115), (a 53, aS ta 16 gbl1_115), (a 55, aS ta 16 gco1_115), (a 45, aS ta 32 gch1_115), (a 41, aS ta 256 gke), (a 36, aK ta 2 ru), (a 37, aK ta 2 le), (a 31, aS ta 300 gli), (a 40, aK ta 2 lv), (a 47, aK ta 2 cn1_115), (a 54, aS ta 300 gwk1_115), (a 56, aS ta 16 gah1_115), (a 29, aS ta 416 gou1_115)] H := hP
              have hD : va_D A [(a 39, aK ta 2 (qU se 1 0)), (a 48, aT ta 2 ha), (a 50, aK ta 2 cs), (a 49, aS ta 408 gcm), (h0, oM a ar mn1_115 tp osz 0 ns ct), (a 0, aK ta 64 tIP), (a 1, aK ta 48 tSPR), (a 2, aK ta 32 tMIX), (a 3, aK ta 56 tCH), (a 4, aK ta 48 tSEC), (a 5, aK ta 512 tSBX), (a 10, aB ta 64 bi1_115), (a 11, aB ta 64 tu1_115), (a 12, aB ta 56 cd1_115), (a 13, aB ta 768 sk1_115), (a 14, aB ta 32 hf1_115), (a 15, aB ta 48 wd1_115), (a 22, aS ta 700 gm1_115), (a 24, aS ta 16 mac1_115), (a 53, aS ta 16 gbl1_115), (a 55, aS ta 16 gco1_115), (a 45, aS ta 32 gch1_115), (a 41, aS ta 256 gke), (a 36, aK ta 2 ru), (a 37, aK ta 2 le), (a 31, aS ta 300 gli), (a 40, aK ta 2 lv), (a 47, aK ta 2 cn1_115), (a 54, aS ta 300 gwk1_115), (a 56, aS ta 16 gah1_115), (a 29, aS ta 416 gou1_115)] := hD
              refine lv_sipush (pc := 131) (v := nI 27010) hx hb dX10_take_131 (by decide +kernel) ?_
              refine q_top (y := (nI 27010)) (by first | rfl | decide +kernel | (simp; done)) ?_
              have hq_10 : (open2 (seg gke 128 16) (seg gke 160 16) (cn 1 + 1) (lv 1) (seg gch 16 8) (qL gli lsz) = if false then some (qL gou1_115 osz, seg gco1_115 0 8) else none) ∧ (false = true → (qU se 1 0) = se ∧ cn1_115 = qU cn 1 (cn 1 + 1) ∧ ha = qU ha 1 true ∧ cs = qU cs 1 osz ∧ seg gcm 204 osz = qL gou1_115 osz ∧ seg gch1_115 16 16 = seg gco1_115 0 16 ∧ 4 ≤ osz ∧ osz ≤ 204) ∧ (false = false → (qU se 1 0) = qU se 1 0 ∧ ha = ha ∧ cs = cs ∧ gcm = gcm ∧ gou1_115 = gou ∧ osz = osz) ∧ (∀ j, j < 16 → gch1_115 j = gch j) ∧ (∀ j, j < 204 → gcm j = gcm j) ∧ (cn1_115 0 = cn 0) ∧ (((nI 27010) : Int32) = if false then nI 36864 else nI 27010) := by
                rw [hzf] at hz_115
                refine ⟨hz_115, fun q => (by cases q), fun _ => ⟨rfl, rfl, rfl, rfl, hx9_115 hzf, rfl⟩, hfc_115, fun _ _ => rfl, hcn0_115, rfl⟩
              exact hret (⟨(nI 27010), (false), (bi1_115), (tu1_115), (cd1_115), (sk1_115), (hf1_115), (wd1_115), (gm1_115), (mac1_115), (gbl1_115), (gco1_115), (gch1_115), (mn1_115), (gcm), (gwk1_115), (gah1_115), (gou1_115), (qU se 1 0), (cn1_115), (ha), (cs), (osz)⟩ : Int32 × Bool × (Nat → Bool) × (Nat → Bool) × (Nat → Bool) × (Nat → Bool) × (Nat → Bool) × (Nat → Bool) × (Nat → BitVec 8) × (Nat → BitVec 8) × (Nat → BitVec 8) × (Nat → BitVec 8) × (Nat → BitVec 8) × Nat × (Nat → BitVec 8) × (Nat → BitVec 8) × (Nat → BitVec 8) × (Nat → BitVec 8) × (Nat → Nat) × (Nat → Nat) × (Nat → Bool) × (Nat → Nat) × Nat) _ _ _ _ dX10_take_134 hq_10 (hP.sub [4, 5, 6, 7, 8, 9, 10, 11, 12, 13, 14, 15, 16, 17, 18, 19, 20, 21, 22, 23, 24, 25, 0, 26, 27, 1, 2, 3, 28, 29, 30] rfl) (hD.sub [4, 5, 6, 7, 8, 9, 10, 11, 12, 13, 14, 15, 16, 17, 18, 19, 20, 21, 22, 23, 24, 25, 0, 26, 27, 1, 2, 3, 28, 29, 30] (by decide) rfl) hS
        · skip
          rw [q_eq0 (by omega)] at c_5
          exfalso; omega
  · skip
    rw [nI_eq (by omega) (by omega)] at c_1
    exfalso; omega
set_option maxHeartbeats 4000000 in
set_option maxRecDepth 100000 in
theorem ct_X10_take_p3 (ll : Launch) (D : va_G) (ta : Nat → ClassId) {G : (Nat → Prop) → State → Heap → Prop} (hGok : GOK G) (h0 : Nat) (a : Nat → Nat) (ar : Nat) (mn : Nat) (tp : Nat) (osz : Nat) (lsz : Nat) (ns : Nat) (ct : Nat) (rk : Nat → BitVec 8) (ce : Nat → BitVec 8) (gm : Nat → BitVec 8) (mac : Nat → BitVec 8) (k1 : Nat → BitVec 8) (gbl : Nat → BitVec 8) (gco : Nat → BitVec 8) (gch : Nat → BitVec 8) (gke : Nat → BitVec 8) (gli : Nat → BitVec 8) (gth : Nat → BitVec 8) (gbc : Nat → BitVec 8) (ru : Nat → Nat) (le : Nat → Nat) (se : Nat → Nat) (lv : Nat → Nat) (cn : Nat → Nat) (ha : Nat → Bool) (hlz : 0 < lsz ∧ lsz ≤ 300) (hse : se 1 = 1) (hru : ru 1 = 3) (hct : ct ≤ 16777215) (hle : le 1 = 16 ∨ le 1 = 24 ∨ le 1 = 32) (sz : Nat) : CT ll yX10_take cX10_take 4 (some .int) ({ frames := 7, cells := 0, slots := 0, locals := 178 } : Room) D ta G [.ref h0] [(h0, oM a ar mn tp osz lsz ns ct), (a 8, aZ ta 256 BOX), (a 9, aZ ta 256 UBOX), (a 16, aS ta 240 rk), (a 18, aS ta 16 ce), (a 22, aS ta 700 gm), (a 24, aS ta 16 mac), (a 25, aS ta 16 k1), (a 53, aS ta 16 gbl), (a 55, aS ta 16 gco), (a 45, aS ta 32 gch), (a 41, aS ta 256 gke), (a 36, aK ta 2 ru), (a 37, aK ta 2 le), (a 31, aS ta 300 gli), (a 43, aS ta 16 gth), (a 39, aK ta 2 se), (a 40, aK ta 2 lv), (a 47, aK ta 2 cn), (a 48, aT ta 2 ha), (a 46, aS ta 16 gbc)] sz (S := Int32 × Bool × (Nat → BitVec 8) × (Nat → BitVec 8) × (Nat → BitVec 8) × (Nat → BitVec 8) × (Nat → BitVec 8) × (Nat → BitVec 8) × (Nat → BitVec 8) × (Nat → BitVec 8) × Nat × Nat × (Nat → BitVec 8) × (Nat → Nat) × (Nat → Nat) × (Nat → Nat) × (Nat → Bool) × Nat) (fun u => some (.int u.1)) (fun u => (u.2.1 = true → provB (qL gli lsz) (seg gth 8 8) true = true ∧ open3 (seg gke 128 (le 1)) (seg gke 160 (le 1)) 0 0 (zeroL 16) (qL gli lsz) = some (joinC (qL gli lsz) (seg gli 4 8), seg u.2.2.2.2.2.2.2.2.1 0 16)) ∧ (u.2.1 = false → provB (qL gli lsz) (seg gth 8 8) true = false ∨ open3 (seg gke 128 (le 1)) (seg gke 160 (le 1)) 0 0 (zeroL 16) (qL gli lsz) = none) ∧ (u.2.1 = true → u.2.2.2.2.2.2.2.2.2.2.2.2.2.1 = qU se 1 2 ∧ u.2.2.2.2.2.2.2.2.2.2.2.2.2.2.1 = qU lv 1 (gli 2).toNat ∧ u.2.2.2.2.2.2.2.2.2.2.2.2.2.2.2.1 = qU cn 1 0 ∧ u.2.2.2.2.2.2.2.2.2.2.2.2.2.2.2.2.1 = qU ha 1 false ∧ seg u.2.2.2.2.2.2.2.2.2.2.2.2.1 8 8 = seg u.2.2.2.2.2.2.2.2.1 0 8 ∧ u.2.2.2.2.2.2.2.2.2.2.2.2.2.2.2.2.2 = (ct + 1) % 16777216 ∧ seg u.2.2.2.2.2.2.2.2.2.1 16 16 = seg u.2.2.2.2.2.2.2.2.1 0 16) ∧ (u.2.1 = false → u.2.2.2.2.2.2.2.2.2.2.2.2.2.1 = qU se 1 0 ∧ u.2.2.2.2.2.2.2.2.2.2.2.2.2.2.1 = lv ∧ u.2.2.2.2.2.2.2.2.2.2.2.2.2.2.2.1 = cn ∧ u.2.2.2.2.2.2.2.2.2.2.2.2.2.2.2.2.1 = ha ∧ u.2.2.2.2.2.2.2.2.2.2.2.2.1 = gbc ∧ u.2.2.2.2.2.2.2.2.2.2.2.2.2.2.2.2.2 = ct) ∧ (∀ j, j < 8 → u.2.2.2.2.2.2.2.2.2.2.2.2.1 j = gbc j) ∧ (∀ j, j < 16 → u.2.2.2.2.2.2.2.2.2.1 j = gch j) ∧ ((u.1 : Int32) = if u.2.1 then nI 36864 else nI 25344)) (fun u => [(h0, oM a u.2.2.2.2.2.2.2.2.2.2.2.1 u.2.2.2.2.2.2.2.2.2.2.1 tp osz 0 ns u.2.2.2.2.2.2.2.2.2.2.2.2.2.2.2.2.2), (a 8, aZ ta 256 BOX), (a 9, aZ ta 256 UBOX), (a 16, aS ta 240 u.2.2.1), (a 18, aS ta 16 u.2.2.2.1), (a 22, aS ta 700 u.2.2.2.2.1), (a 24, aS ta 16 u.2.2.2.2.2.1), (a 25, aS ta 16 u.2.2.2.2.2.2.1), (a 53, aS ta 16 u.2.2.2.2.2.2.2.1), (a 55, aS ta 16 u.2.2.2.2.2.2.2.2.1), (a 45, aS ta 32 u.2.2.2.2.2.2.2.2.2.1), (a 41, aS ta 256 gke), (a 36, aK ta 2 ru), (a 37, aK ta 2 le), (a 31, aS ta 300 gli), (a 43, aS ta 16 gth), (a 39, aK ta 2 u.2.2.2.2.2.2.2.2.2.2.2.2.2.1), (a 40, aK ta 2 u.2.2.2.2.2.2.2.2.2.2.2.2.2.2.1), (a 47, aK ta 2 u.2.2.2.2.2.2.2.2.2.2.2.2.2.2.2.1), (a 48, aT ta 2 u.2.2.2.2.2.2.2.2.2.2.2.2.2.2.2.2.1), (a 46, aS ta 16 u.2.2.2.2.2.2.2.2.2.2.2.2.1)]) 0 0 := by
  refine CT.of_i (r := fun u => u.1) rfl (by decide) (Nat.le_of_ble_eq_true rfl) ?_
  intro pp ee ss mm below meth kc A Q hx hb hml hown hin hts hK hA hsz hG hret H locs hP hD hS ls hl
  have hl : lv_has ls 4 [(0, .ref h0)] := hl
  refine lv_aload_n (pc := 0) hx hb dX10_take_0 rfl (lv_at hl 0 rfl) ?_
  refine va_get (pc := 1) (D := D) (ci := 8) (v := .int (nI lsz)) (C := RX10) (T := TX10) (N := 57) hx hb hts iu10 hown hK hP 0 rfl rfl 32 (by decide) (hts _ tw_1077) (fun _ h9 => h9) rfl dX10_take_1 ?_
  refine lv_istore_n (pc := 4) (lv' := [(1, .int (nI lsz)), (0, .ref h0)]) hx hb dX10_take_4 rfl hl (by decide) rfl (fun ls hl => ?_)
  refine lv_aload_n (pc := 5) hx hb dX10_take_5 rfl (lv_at hl 1 rfl) ?_
  refine va_get (pc := 6) (D := D) (ci := 8) (v := .ref (a 39)) (C := RX10) (T := TX10) (N := 57) hx hb hts iu10 hown hK hP 0 rfl rfl 39 (by decide) (hts _ tw_1084) (fun _ h9 => h9) rfl dX10_take_6 ?_
  refine lv_iconst (pc := 9) (v := nI 1) hx hb dX10_take_9 (by decide +kernel) ?_
  refine q_iald (pc := 10) hx hb hK hP 16 0 rfl rfl (k := 1) (v := nI (se 1)) rfl (by omega) (by omega) rfl dX10_take_10 ?_
  refine lv_iconst (pc := 11) (v := nI 1) hx hb dX10_take_11 (by decide +kernel) ?_
  refine lv_icmp_ne (pc := 12) (tgt := 19) hx hb dX10_take_12 (by decide) (fun c_1 => ?_) (fun c_1 => ?_)
  · skip
    rw [nI_eq (by omega) (by omega)] at c_1
    exfalso; omega
  · skip
    rw [nI_eq (by omega) (by omega)] at c_1
    refine lv_iconst (pc := 15) (v := nI 1) hx hb dX10_take_15 (by decide +kernel) ?_
    refine lv_goto (pc := 16) (tgt := 20) hx hb dX10_take_16 (by decide) ?_
    refine lv_istore_n (pc := 20) (lv' := [(2, .int (nI 1)), (1, .int (nI lsz)), (0, .ref h0)]) hx hb dX10_take_20 rfl hl (by decide) rfl (fun ls hl => ?_)
    refine lv_iload_n (pc := 21) hx hb dX10_take_21 rfl (lv_at hl 1 rfl) ?_
    refine lv_if_eq (pc := 22) (tgt := 50) hx hb dX10_take_22 (by decide) (fun c_2 => ?_) (fun c_2 => ?_)
    · skip
      rw [q_eq0 (by omega)] at c_2
      exfalso; omega
    · skip
      rw [q_eq0 (by omega)] at c_2
      refine lv_iload_n (pc := 25) hx hb dX10_take_25 rfl (lv_at hl 0 rfl) ?_
      refine lv_if_ne (pc := 26) (tgt := 52) hx hb dX10_take_26 (by decide) (fun _ => ?_) (fun c_3 => absurd c_3 (by decide))
      refine lv_aload_n (pc := 52) hx hb dX10_take_52 rfl (lv_at hl 2 rfl) ?_
      refine lv_iconst (pc := 53) (v := nI 0) hx hb dX10_take_53 (by decide +kernel) ?_
      refine va_put (pc := 54) (D := D) (ci := 8) (v := .int (nI 0)) (ty := .int) (C := RX10) (T := TX10) (N := 57) hx hb hts iu10 tyX10 tyX10_ok nmX10 hown hK hP hD hS 0 rfl rfl 32 (by decide) (hts _ tw_1077) (fun _ h9 => h9) rfl (by decide +kernel) rfl rfl (Nat.le_of_ble_eq_true rfl) dX10_take_54 (fun H locs hP hD hS => ?_)
      have hP : va_P D vwCl [(h0, oM a ar mn tp osz 0 ns ct), (a 8, aZ ta 256 BOX), (a 9, aZ ta 256 UBOX), (a 16, aS ta 240 rk), (a 18, aS ta 16 ce), (a 22, aS ta 700 gm), (a 24, aS ta 16 mac), (a 25, aS ta 16 k1), (a 53, aS ta 16 gbl), (a 55, aS ta 16 gco), (a 45, aS ta 32 gch), (a 41, aS ta 256 gke), (a 36, aK ta 2 ru), (a 37, aK ta 2 le), (a 31, aS ta 300 gli), (a 43, aS ta 16 gth), (a 39, aK ta 2 se), (a 40, aK ta 2 lv), (a 47, aK ta 2 cn), (a 48, aT ta 2 ha), (a 46, aS ta 16 gbc)] H := hP
      have hD : va_D A [(h0, oM a ar mn tp osz 0 ns ct), (a 8, aZ ta 256 BOX), (a 9, aZ ta 256 UBOX), (a 16, aS ta 240 rk), (a 18, aS ta 16 ce), (a 22, aS ta 700 gm), (a 24, aS ta 16 mac), (a 25, aS ta 16 k1), (a 53, aS ta 16 gbl), (a 55, aS ta 16 gco), (a 45, aS ta 32 gch), (a 41, aS ta 256 gke), (a 36, aK ta 2 ru), (a 37, aK ta 2 le), (a 31, aS ta 300 gli), (a 43, aS ta 16 gth), (a 39, aK ta 2 se), (a 40, aK ta 2 lv), (a 47, aK ta 2 cn), (a 48, aT ta 2 ha), (a 46, aS ta 16 gbc)] := hD
      refine lv_iload_n (pc := 57) hx hb dX10_take_57 rfl (lv_at hl 0 rfl) ?_
      refine lv_if_eq (pc := 58) (tgt := 113) hx hb dX10_take_58 (by decide) (fun c_4 => absurd c_4 (by decide)) (fun _ => ?_)
      refine lv_aload_n (pc := 61) hx hb dX10_take_61 rfl (lv_at hl 2 rfl) ?_
      refine lv_iload_n (pc := 62) hx hb dX10_take_62 rfl (lv_at hl 1 rfl) ?_
      refine cs_V (pc := 63) (idx := 391) (n := 1) (wr := [(a 39, aK ta 2 se), (a 40, aK ta 2 lv), (a 47, aK ta 2 cn), (a 48, aT ta 2 ha), (a 46, aS ta 16 gbc)]) (As := [.int (nI lsz)]) (rest := []) (ci := 8) hx hb hml hown hts hGok hK hA hG hl.1 hP hD hS (ct_X10_proven_3 ll D ta hGok h0 a ar mn tp osz 0 ns ct rk ce gm mac k1 gbl gco gch gke gli gth ru le lsz (by first | assumption | omega | rfl | decide) (by first | assumption | omega | rfl | decide) (by first | assumption | omega | rfl | decide) H.size) tw_1408 tw_1405 tw_1407 tw_57 tw_75 hdX10_proven rfl ⟨rfl, rfl, Nat.le_of_ble_eq_true rfl, Nat.le_of_ble_eq_true rfl, Nat.le_of_ble_eq_true rfl, Nat.le_of_ble_eq_true rfl⟩ rfl rfl (q0 := 0) rfl [0, 1, 2, 3, 4, 5, 6, 7, 8, 9, 10, 11, 12, 13, 14, 15] [16, 17, 18, 19, 20] rfl rfl (by decide) rfl (Nat.le_of_ble_eq_true rfl) dX10_take_63 (fun u H locs hq hP hD hS => ?_)
      obtain ⟨z_63, rk1_63, ce1_63, gm1_63, mac1_63, k11_63, gbl1_63, gco1_63, gch1_63, mn1_63, ar1_63⟩ := u
      have hq : (z_63 = true → provB (qL gli lsz) (seg gth 8 8) true = true ∧ open3 (seg gke 128 (le 1)) (seg gke 160 (le 1)) 0 0 (zeroL 16) (qL gli lsz) = some (joinC (qL gli lsz) (seg gli 4 8), seg gco1_63 0 16)) ∧ (z_63 = false → provB (qL gli lsz) (seg gth 8 8) true = false ∨ open3 (seg gke 128 (le 1)) (seg gke 160 (le 1)) 0 0 (zeroL 16) (qL gli lsz) = none) ∧ (z_63 = true → seg gch1_63 16 16 = seg gco1_63 0 16) ∧ (∀ jz, jz < 16 → gch1_63 jz = gch jz) := hq
      obtain ⟨hz_63, hz0_63, hc_63, hfc_63⟩ := hq
      refine W.eq (g2 := F0 mm 66 ls [.int (qb z_63)]) rfl ?_
      have hP : va_P D vwCl [(a 39, aK ta 2 se), (a 40, aK ta 2 lv), (a 47, aK ta 2 cn), (a 48, aT ta 2 ha), (a 46, aS ta 16 gbc), (h0, oM a ar1_63 mn1_63 tp osz 0 ns ct), (a 8, aZ ta 256 BOX), (a 9, aZ ta 256 UBOX), (a 16, aS ta 240 rk1_63), (a 18, aS ta 16 ce1_63), (a 22, aS ta 700 gm1_63), (a 24, aS ta 16 mac1_63), (a 25, aS ta 16 k11_63), (a 53, aS ta 16 gbl1_63), (a 55, aS ta 16 gco1_63), (a 45, aS ta 32 gch1_63), (a 41, aS ta 256 gke), (a 36, aK ta 2 ru), (a 37, aK ta 2 le), (a 31, aS ta 300 gli), (a 43, aS ta 16 gth)] H := hP
      have hD : va_D A [(a 39, aK ta 2 se), (a 40, aK ta 2 lv), (a 47, aK ta 2 cn), (a 48, aT ta 2 ha), (a 46, aS ta 16 gbc), (h0, oM a ar1_63 mn1_63 tp osz 0 ns ct), (a 8, aZ ta 256 BOX), (a 9, aZ ta 256 UBOX), (a 16, aS ta 240 rk1_63), (a 18, aS ta 16 ce1_63), (a 22, aS ta 700 gm1_63), (a 24, aS ta 16 mac1_63), (a 25, aS ta 16 k11_63), (a 53, aS ta 16 gbl1_63), (a 55, aS ta 16 gco1_63), (a 45, aS ta 32 gch1_63), (a 41, aS ta 256 gke), (a 36, aK ta 2 ru), (a 37, aK ta 2 le), (a 31, aS ta 300 gli), (a 43, aS ta 16 gth)] := hD
      refine lv_if_ne (pc := 66) (tgt := 80) hx hb dX10_take_66 (by decide) (fun c_5 => ?_) (fun c_5 => ?_)
      · skip
        rw [q_beq] at c_5
        try rw [Bool.not_eq_false] at c_5
        have hzz := c_5
        refine lv_aload_n (pc := 80) hx hb dX10_take_80 rfl (lv_at hl 2 rfl) ?_
        refine lv_iconst (pc := 81) (v := nI 1) hx hb dX10_take_81 (by decide +kernel) ?_
        refine lv_aload_n (pc := 82) hx hb dX10_take_82 rfl (lv_at hl 2 rfl) ?_
        refine va_get (pc := 83) (D := D) (ci := 8) (v := .ref (a 31)) (C := RX10) (T := TX10) (N := 57) hx hb hts iu10 hown hK hP 5 rfl rfl 31 (by decide) (hts _ tw_1076) (fun _ h9 => h9) rfl dX10_take_83 ?_
        refine lv_iconst (pc := 86) (v := nI 2) hx hb dX10_take_86 (by decide +kernel) ?_
        refine q_bald (pc := 87) hx hb hK hP 19 2 rfl rfl (k := 2) (v := qs (gli 2)) rfl (by omega) (by omega) rfl dX10_take_87 ?_
        refine lv_sipush (pc := 88) (v := nI 255) hx hb dX10_take_88 (by decide +kernel) ?_
        refine lv_iand (pc := 91) hx hb dX10_take_91 ?_
        refine q_top (y := qz (gli 2)) ((q_m255 _).trans (congrArg qz (qlo_qs _))) ?_
        refine q_top (y := nI ((gli 2).toNat)) (qz_nat _) ?_
        refine cs_V (pc := 92) (idx := 364) (n := 2) (wr := [(a 8, aZ ta 256 BOX), (a 9, aZ ta 256 UBOX), (a 16, aS ta 240 rk1_63), (a 18, aS ta 16 ce1_63), (a 22, aS ta 700 gm1_63), (a 24, aS ta 16 mac1_63), (a 25, aS ta 16 k11_63), (a 53, aS ta 16 gbl1_63), (a 45, aS ta 32 gch1_63), (a 41, aS ta 256 gke), (a 36, aK ta 2 ru), (a 37, aK ta 2 le), (a 31, aS ta 300 gli), (a 43, aS ta 16 gth)]) (As := [.int (nI 1), .int (nI ((gli 2).toNat))]) (rest := []) (ci := 8) hx hb hml hown hts hGok hK hA hG hl.1 hP hD hS (ct_X10_opens ll D ta hGok h0 a ar1_63 mn1_63 tp osz 0 ns ct se lv cn ha gbc gco1_63 1 ((gli 2).toNat) (by first | assumption | omega | rfl | decide) H.size) tw_1376 tw_1373 tw_1375 tw_51 tw_75 hdX10_opens rfl ⟨rfl, rfl, Nat.le_of_ble_eq_true rfl, Nat.le_of_ble_eq_true rfl, Nat.le_of_ble_eq_true rfl, Nat.le_of_ble_eq_true rfl⟩ rfl rfl (q0 := 5) rfl [5, 0, 1, 2, 3, 4, 14] [6, 7, 8, 9, 10, 11, 12, 13, 15, 16, 17, 18, 19, 20] rfl rfl (by decide) rfl (Nat.le_of_ble_eq_true rfl) dX10_take_92 (fun u H locs hq hP hD hS => ?_)
        obtain ⟨se1_92, lv1_92, cn1_92, ha1_92, gbc1_92⟩ := u
        have hq : (se1_92 = qU se 1 2) ∧ (lv1_92 = qU lv 1 ((gli 2).toNat)) ∧ (cn1_92 = qU cn 1 0) ∧ (ha1_92 = qU ha 1 false) ∧ (seg gbc1_92 (8 * 1) 8 = seg gco1_63 0 8) ∧ (∀ jz, (jz < 8 * 1 ∨ 8 * 1 + 8 ≤ jz) → gbc1_92 jz = gbc jz) := hq
        obtain ⟨hse_92, hlv_92, hcn_92, hha_92, hs_92, hfb_92⟩ := hq
        refine W.eq (g2 := F0 mm 95 ls []) rfl ?_
        have hP : va_P D vwCl [(a 8, aZ ta 256 BOX), (a 9, aZ ta 256 UBOX), (a 16, aS ta 240 rk1_63), (a 18, aS ta 16 ce1_63), (a 22, aS ta 700 gm1_63), (a 24, aS ta 16 mac1_63), (a 25, aS ta 16 k11_63), (a 53, aS ta 16 gbl1_63), (a 45, aS ta 32 gch1_63), (a 41, aS ta 256 gke), (a 36, aK ta 2 ru), (a 37, aK ta 2 le), (a 31, aS ta 300 gli), (a 43, aS ta 16 gth), (h0, oM a ar1_63 mn1_63 tp osz 0 ns ct), (a 39, aK ta 2 se1_92), (a 40, aK ta 2 lv1_92), (a 47, aK ta 2 cn1_92), (a 48, aT ta 2 ha1_92), (a 46, aS ta 16 gbc1_92), (a 55, aS ta 16 gco1_63)] H := hP
        have hD : va_D A [(a 8, aZ ta 256 BOX), (a 9, aZ ta 256 UBOX), (a 16, aS ta 240 rk1_63), (a 18, aS ta 16 ce1_63), (a 22, aS ta 700 gm1_63), (a 24, aS ta 16 mac1_63), (a 25, aS ta 16 k11_63), (a 53, aS ta 16 gbl1_63), (a 45, aS ta 32 gch1_63), (a 41, aS ta 256 gke), (a 36, aK ta 2 ru), (a 37, aK ta 2 le), (a 31, aS ta 300 gli), (a 43, aS ta 16 gth), (h0, oM a ar1_63 mn1_63 tp osz 0 ns ct), (a 39, aK ta 2 se1_92), (a 40, aK ta 2 lv1_92), (a 47, aK ta 2 cn1_92), (a 48, aT ta 2 ha1_92), (a 46, aS ta 16 gbc1_92), (a 55, aS ta 16 gco1_63)] := hD
        refine lv_aload_n (pc := 95) hx hb dX10_take_95 rfl (lv_at hl 2 rfl) ?_
        refine lv_aload_n (pc := 96) hx hb dX10_take_96 rfl (lv_at hl 2 rfl) ?_
        refine va_get (pc := 97) (D := D) (ci := 8) (v := .int (nI ct)) (C := RX10) (T := TX10) (N := 57) hx hb hts iu10 hown hK hP 14 rfl rfl 35 (by decide) (hts _ tw_1080) (fun _ h9 => h9) rfl dX10_take_97 ?_
        refine lv_iconst (pc := 100) (v := nI 1) hx hb dX10_take_100 (by decide +kernel) ?_
        refine lv_iadd (pc := 101) hx hb dX10_take_101 ?_
        refine q_top (y := nI (ct + 1)) (nI_add ct 1) ?_
        refine lv_ldcw (pc := 102) (v := (nI 16777215)) hx hb hown (q_at (hts _ tw_1274) (by decide +kernel)) dX10_take_102 ?_
        refine lv_iand (pc := 105) hx hb dX10_take_105 ?_
        refine q_top (y := nI ((ct + 1) % 16777216)) (q_andN (k := 24) (p := 16777216) (by decide) (by omega)) ?_
        refine va_put (pc := 106) (D := D) (ci := 8) (v := .int (nI ((ct + 1) % 16777216))) (ty := .int) (C := RX10) (T := TX10) (N := 57) hx hb hts iu10 tyX10 tyX10_ok nmX10 hown hK hP hD hS 14 rfl rfl 35 (by decide) (hts _ tw_1080) (fun _ h9 => h9) rfl (by decide +kernel) rfl rfl (Nat.le_of_ble_eq_true rfl) dX10_take_106 (fun H locs hP hD hS => ?_)
        have hP : va_P D vwCl [(a 8, aZ ta 256 BOX), (a 9, aZ ta 256 UBOX), (a 16, aS ta 240 rk1_63), (a 18, aS ta 16 ce1_63), (a 22, aS ta 700 gm1_63), (a 24, aS ta 16 mac1_63), (a 25, aS ta 16 k11_63), (a 53, aS ta 16 gbl1_63), (a 45, aS ta 32 gch1_63), (a 41, aS ta 256 gke), (a 36, aK ta 2 ru), (a 37, aK ta 2 le), (a 31, aS ta 300 gli), (a 43, aS ta 16 gth), (h0, oM a ar1_63 mn1_63 tp osz 0 ns ((ct + 1) % 16777216)), (a 39, aK ta 2 se1_92), (a 40, aK ta 2 lv1_92), (a 47, aK ta 2 cn1_92), (a 48, aT ta 2 ha1_92), (a 46, aS ta 16 gbc1_92), (a 55, aS ta 16 gco1_63)] H := hP
        have hD : va_D A [(a 8, aZ ta 256 BOX), (a 9, aZ ta 256 UBOX), (a 16, aS ta 240 rk1_63), (a 18, aS ta 16 ce1_63), (a 22, aS ta 700 gm1_63), (a 24, aS ta 16 mac1_63), (a 25, aS ta 16 k11_63), (a 53, aS ta 16 gbl1_63), (a 45, aS ta 32 gch1_63), (a 41, aS ta 256 gke), (a 36, aK ta 2 ru), (a 37, aK ta 2 le), (a 31, aS ta 300 gli), (a 43, aS ta 16 gth), (h0, oM a ar1_63 mn1_63 tp osz 0 ns ((ct + 1) % 16777216)), (a 39, aK ta 2 se1_92), (a 40, aK ta 2 lv1_92), (a 47, aK ta 2 cn1_92), (a 48, aT ta 2 ha1_92), (a 46, aS ta 16 gbc1_92), (a 55, aS ta 16 gco1_63)] := hD
        refine lv_ldcw (pc := 109) (v := (nI 36864)) hx hb hown (q_at (hts _ tw_1413) (by decide +kernel)) dX10_take_109 ?_
        refine q_top (y := (nI 36864)) (by first | rfl | decide +kernel | (simp; done)) ?_
        have hq_6 : (true = true → provB (qL gli lsz) (seg gth 8 8) true = true ∧ open3 (seg gke 128 (le 1)) (seg gke 160 (le 1)) 0 0 (zeroL 16) (qL gli lsz) = some (joinC (qL gli lsz) (seg gli 4 8), seg gco1_63 0 16)) ∧ (true = false → provB (qL gli lsz) (seg gth 8 8) true = false ∨ open3 (seg gke 128 (le 1)) (seg gke 160 (le 1)) 0 0 (zeroL 16) (qL gli lsz) = none) ∧ (true = true → se1_92 = qU se 1 2 ∧ lv1_92 = qU lv 1 (gli 2).toNat ∧ cn1_92 = qU cn 1 0 ∧ ha1_92 = qU ha 1 false ∧ seg gbc1_92 8 8 = seg gco1_63 0 8 ∧ ((ct + 1) % 16777216) = (ct + 1) % 16777216 ∧ seg gch1_63 16 16 = seg gco1_63 0 16) ∧ (true = false → se1_92 = qU se 1 0 ∧ lv1_92 = lv ∧ cn1_92 = cn ∧ ha1_92 = ha ∧ gbc1_92 = gbc ∧ ((ct + 1) % 16777216) = ct) ∧ (∀ j, j < 8 → gbc1_92 j = gbc j) ∧ (∀ j, j < 16 → gch1_63 j = gch j) ∧ (((nI 36864) : Int32) = if true then nI 36864 else nI 25344) := by
          refine ⟨fun _ => hz_63 hzz, fun q => (by cases q), fun _ => ⟨hse_92, hlv_92, hcn_92, hha_92, hs_92, rfl, hc_63 hzz⟩, fun q => (by cases q), fun j hj => hfb_92 j (by omega), hfc_63, rfl⟩
        exact hret (⟨(nI 36864), (true), (rk1_63), (ce1_63), (gm1_63), (mac1_63), (k11_63), (gbl1_63), (gco1_63), (gch1_63), (mn1_63), (ar1_63), (gbc1_92), (se1_92), (lv1_92), (cn1_92), (ha1_92), ((ct + 1) % 16777216)⟩ : Int32 × Bool × (Nat → BitVec 8) × (Nat → BitVec 8) × (Nat → BitVec 8) × (Nat → BitVec 8) × (Nat → BitVec 8) × (Nat → BitVec 8) × (Nat → BitVec 8) × (Nat → BitVec 8) × Nat × Nat × (Nat → BitVec 8) × (Nat → Nat) × (Nat → Nat) × (Nat → Nat) × (Nat → Bool) × Nat) _ _ _ _ dX10_take_112 hq_6 (hP.sub [14, 0, 1, 2, 3, 4, 5, 6, 7, 20, 8, 9, 10, 11, 12, 13, 15, 16, 17, 18, 19] rfl) (hD.sub [14, 0, 1, 2, 3, 4, 5, 6, 7, 20, 8, 9, 10, 11, 12, 13, 15, 16, 17, 18, 19] (by decide) rfl) hS
      · skip
        rw [q_beq] at c_5
        try rw [Bool.not_eq_false] at c_5
        have hzz := c_5
        refine lv_aload_n (pc := 69) hx hb dX10_take_69 rfl (lv_at hl 2 rfl) ?_
        refine va_get (pc := 70) (D := D) (ci := 8) (v := .ref (a 39)) (C := RX10) (T := TX10) (N := 57) hx hb hts iu10 hown hK hP 5 rfl rfl 39 (by decide) (hts _ tw_1084) (fun _ h9 => h9) rfl dX10_take_70 ?_
        refine lv_iconst (pc := 73) (v := nI 1) hx hb dX10_take_73 (by decide +kernel) ?_
        refine lv_iconst (pc := 74) (v := nI 0) hx hb dX10_take_74 (by decide +kernel) ?_
        refine q_iastK (pc := 75) hx hb hK hP hD hS 0 0 rfl rfl (k := 1) rfl (by omega) (by omega) (b := 0) rfl dX10_take_75 (fun H locs hP hD hS => ?_)
        have hP : va_P D vwCl [(a 39, aK ta 2 (qU se 1 0)), (a 40, aK ta 2 lv), (a 47, aK ta 2 cn), (a 48, aT ta 2 ha), (a 46, aS ta 16 gbc), (h0, oM a ar1_63 mn1_63 tp osz 0 ns ct), (a 8, aZ ta 256 BOX), (a 9, aZ ta 256 UBOX), (a 16, aS ta 240 rk1_63), (a 18, aS ta 16 ce1_63), (a 22, aS ta 700 gm1_63), (a 24, aS ta 16 mac1_63), (a 25, aS ta 16 k11_63), (a 53, aS ta 16 gbl1_63), (a 55, aS ta 16 gco1_63), (a 45, aS ta 32 gch1_63), (a 41, aS ta 256 gke), (a 36, aK ta 2 ru), (a 37, aK ta 2 le), (a 31, aS ta 300 gli), (a 43, aS ta 16 gth)] H := hP
        have hD : va_D A [(a 39, aK ta 2 (qU se 1 0)), (a 40, aK ta 2 lv), (a 47, aK ta 2 cn), (a 48, aT ta 2 ha), (a 46, aS ta 16 gbc), (h0, oM a ar1_63 mn1_63 tp osz 0 ns ct), (a 8, aZ ta 256 BOX), (a 9, aZ ta 256 UBOX), (a 16, aS ta 240 rk1_63), (a 18, aS ta 16 ce1_63), (a 22, aS ta 700 gm1_63), (a 24, aS ta 16 mac1_63), (a 25, aS ta 16 k11_63), (a 53, aS ta 16 gbl1_63), (a 55, aS ta 16 gco1_63), (a 45, aS ta 32 gch1_63), (a 41, aS ta 256 gke), (a 36, aK ta 2 ru), (a 37, aK ta 2 le), (a 31, aS ta 300 gli), (a 43, aS ta 16 gth)] := hD
        refine lv_sipush (pc := 76) (v := nI 25344) hx hb dX10_take_76 (by decide +kernel) ?_
        refine q_top (y := (nI 25344)) (by first | rfl | decide +kernel | (simp; done)) ?_
        have hq_7 : (false = true → provB (qL gli lsz) (seg gth 8 8) true = true ∧ open3 (seg gke 128 (le 1)) (seg gke 160 (le 1)) 0 0 (zeroL 16) (qL gli lsz) = some (joinC (qL gli lsz) (seg gli 4 8), seg gco1_63 0 16)) ∧ (false = false → provB (qL gli lsz) (seg gth 8 8) true = false ∨ open3 (seg gke 128 (le 1)) (seg gke 160 (le 1)) 0 0 (zeroL 16) (qL gli lsz) = none) ∧ (false = true → (qU se 1 0) = qU se 1 2 ∧ lv = qU lv 1 (gli 2).toNat ∧ cn = qU cn 1 0 ∧ ha = qU ha 1 false ∧ seg gbc 8 8 = seg gco1_63 0 8 ∧ ct = (ct + 1) % 16777216 ∧ seg gch1_63 16 16 = seg gco1_63 0 16) ∧ (false = false → (qU se 1 0) = qU se 1 0 ∧ lv = lv ∧ cn = cn ∧ ha = ha ∧ gbc = gbc ∧ ct = ct) ∧ (∀ j, j < 8 → gbc j = gbc j) ∧ (∀ j, j < 16 → gch1_63 j = gch j) ∧ (((nI 25344) : Int32) = if false then nI 36864 else nI 25344) := by
          refine ⟨fun q => (by cases q), fun _ => hz0_63 hzz, fun q => (by cases q), fun _ => ⟨rfl, rfl, rfl, rfl, rfl, rfl⟩, fun _ _ => rfl, hfc_63, rfl⟩
        exact hret (⟨(nI 25344), (false), (rk1_63), (ce1_63), (gm1_63), (mac1_63), (k11_63), (gbl1_63), (gco1_63), (gch1_63), (mn1_63), (ar1_63), (gbc), (qU se 1 0), (lv), (cn), (ha), (ct)⟩ : Int32 × Bool × (Nat → BitVec 8) × (Nat → BitVec 8) × (Nat → BitVec 8) × (Nat → BitVec 8) × (Nat → BitVec 8) × (Nat → BitVec 8) × (Nat → BitVec 8) × (Nat → BitVec 8) × Nat × Nat × (Nat → BitVec 8) × (Nat → Nat) × (Nat → Nat) × (Nat → Nat) × (Nat → Bool) × Nat) _ _ _ _ dX10_take_79 hq_7 (hP.sub [5, 6, 7, 8, 9, 10, 11, 12, 13, 14, 15, 16, 17, 18, 19, 20, 0, 1, 2, 3, 4] rfl) (hD.sub [5, 6, 7, 8, 9, 10, 11, 12, 13, 14, 15, 16, 17, 18, 19, 20, 0, 1, 2, 3, 4] (by decide) rfl) hS
set_option maxHeartbeats 4000000 in
set_option maxRecDepth 100000 in
theorem ct_X10_take_3 (ll : Launch) (D : va_G) (ta : Nat → ClassId) {G : (Nat → Prop) → State → Heap → Prop} (hGok : GOK G) (h0 : Nat) (a : Nat → Nat) (ar : Nat) (mn : Nat) (tp : Nat) (osz : Nat) (lsz : Nat) (ns : Nat) (ct : Nat) (rk : Nat → BitVec 8) (ce : Nat → BitVec 8) (gm : Nat → BitVec 8) (mac : Nat → BitVec 8) (k1 : Nat → BitVec 8) (gbl : Nat → BitVec 8) (gco : Nat → BitVec 8) (gch : Nat → BitVec 8) (gke : Nat → BitVec 8) (gli : Nat → BitVec 8) (gcm : Nat → BitVec 8) (gwk : Nat → BitVec 8) (gah : Nat → BitVec 8) (gou : Nat → BitVec 8) (ru : Nat → Nat) (le : Nat → Nat) (se : Nat → Nat) (lv : Nat → Nat) (cn : Nat → Nat) (ha : Nat → Bool) (cs : Nat → Nat) (hlz : 0 < lsz ∧ lsz ≤ 300) (hse : se 1 = 2) (hru : ru 1 = 3) (hlv : lv 1 < 256) (hl1 : lv 1 &&& 1 ≠ 0) (hcn : cn 1 + 1 < 2147483648) (hle : le 1 = 16 ∨ le 1 = 24 ∨ le 1 = 32) (sz : Nat) : CT ll yX10_take cX10_take 4 (some .int) ({ frames := 7, cells := 0, slots := 0, locals := 178 } : Room) D ta G [.ref h0] [(h0, oM a ar mn tp osz lsz ns ct), (a 8, aZ ta 256 BOX), (a 9, aZ ta 256 UBOX), (a 16, aS ta 240 rk), (a 18, aS ta 16 ce), (a 22, aS ta 700 gm), (a 24, aS ta 16 mac), (a 25, aS ta 16 k1), (a 53, aS ta 16 gbl), (a 55, aS ta 16 gco), (a 45, aS ta 32 gch), (a 41, aS ta 256 gke), (a 36, aK ta 2 ru), (a 37, aK ta 2 le), (a 31, aS ta 300 gli), (a 39, aK ta 2 se), (a 40, aK ta 2 lv), (a 47, aK ta 2 cn), (a 48, aT ta 2 ha), (a 50, aK ta 2 cs), (a 49, aS ta 408 gcm), (a 54, aS ta 300 gwk), (a 56, aS ta 16 gah), (a 29, aS ta 416 gou)] sz (S := Int32 × Bool × (Nat → BitVec 8) × (Nat → BitVec 8) × (Nat → BitVec 8) × (Nat → BitVec 8) × (Nat → BitVec 8) × (Nat → BitVec 8) × (Nat → BitVec 8) × (Nat → BitVec 8) × Nat × Nat × (Nat → BitVec 8) × (Nat → BitVec 8) × (Nat → BitVec 8) × (Nat → BitVec 8) × (Nat → Nat) × (Nat → Nat) × (Nat → Bool) × (Nat → Nat) × Nat) (fun u => some (.int u.1)) (fun u => (open3 (seg gke 128 (le 1)) (seg gke 160 (le 1)) (cn 1 + 1) (lv 1) (seg gch 16 16) (qL gli lsz) = if u.2.1 then some (qL u.2.2.2.2.2.2.2.2.2.2.2.2.2.2.2.1 u.2.2.2.2.2.2.2.2.2.2.2.2.2.2.2.2.2.2.2.2, seg u.2.2.2.2.2.2.2.2.1 0 16) else none) ∧ (u.2.1 = true → u.2.2.2.2.2.2.2.2.2.2.2.2.2.2.2.2.1 = se ∧ u.2.2.2.2.2.2.2.2.2.2.2.2.2.2.2.2.2.1 = qU cn 1 (cn 1 + 1) ∧ u.2.2.2.2.2.2.2.2.2.2.2.2.2.2.2.2.2.2.1 = qU ha 1 true ∧ u.2.2.2.2.2.2.2.2.2.2.2.2.2.2.2.2.2.2.2.1 = qU cs 1 u.2.2.2.2.2.2.2.2.2.2.2.2.2.2.2.2.2.2.2.2 ∧ seg u.2.2.2.2.2.2.2.2.2.2.2.2.1 204 u.2.2.2.2.2.2.2.2.2.2.2.2.2.2.2.2.2.2.2.2 = qL u.2.2.2.2.2.2.2.2.2.2.2.2.2.2.2.1 u.2.2.2.2.2.2.2.2.2.2.2.2.2.2.2.2.2.2.2.2 ∧ seg u.2.2.2.2.2.2.2.2.2.1 16 16 = seg u.2.2.2.2.2.2.2.2.1 0 16 ∧ 4 ≤ u.2.2.2.2.2.2.2.2.2.2.2.2.2.2.2.2.2.2.2.2 ∧ u.2.2.2.2.2.2.2.2.2.2.2.2.2.2.2.2.2.2.2.2 ≤ 204) ∧ (u.2.1 = false → u.2.2.2.2.2.2.2.2.2.2.2.2.2.2.2.2.1 = qU se 1 0 ∧ u.2.2.2.2.2.2.2.2.2.2.2.2.2.2.2.2.2.2.1 = ha ∧ u.2.2.2.2.2.2.2.2.2.2.2.2.2.2.2.2.2.2.2.1 = cs ∧ u.2.2.2.2.2.2.2.2.2.2.2.2.1 = gcm ∧ u.2.2.2.2.2.2.2.2.2.2.2.2.2.2.2.1 = gou ∧ u.2.2.2.2.2.2.2.2.2.2.2.2.2.2.2.2.2.2.2.2 = osz) ∧ (∀ j, j < 16 → u.2.2.2.2.2.2.2.2.2.1 j = gch j) ∧ (∀ j, j < 204 → u.2.2.2.2.2.2.2.2.2.2.2.2.1 j = gcm j) ∧ (u.2.2.2.2.2.2.2.2.2.2.2.2.2.2.2.2.2.1 0 = cn 0) ∧ ((u.1 : Int32) = if u.2.1 then nI 36864 else nI 27010)) (fun u => [(h0, oM a u.2.2.2.2.2.2.2.2.2.2.2.1 u.2.2.2.2.2.2.2.2.2.2.1 tp u.2.2.2.2.2.2.2.2.2.2.2.2.2.2.2.2.2.2.2.2 0 ns ct), (a 8, aZ ta 256 BOX), (a 9, aZ ta 256 UBOX), (a 16, aS ta 240 u.2.2.1), (a 18, aS ta 16 u.2.2.2.1), (a 22, aS ta 700 u.2.2.2.2.1), (a 24, aS ta 16 u.2.2.2.2.2.1), (a 25, aS ta 16 u.2.2.2.2.2.2.1), (a 53, aS ta 16 u.2.2.2.2.2.2.2.1), (a 55, aS ta 16 u.2.2.2.2.2.2.2.2.1), (a 45, aS ta 32 u.2.2.2.2.2.2.2.2.2.1), (a 41, aS ta 256 gke), (a 36, aK ta 2 ru), (a 37, aK ta 2 le), (a 31, aS ta 300 gli), (a 39, aK ta 2 u.2.2.2.2.2.2.2.2.2.2.2.2.2.2.2.2.1), (a 40, aK ta 2 lv), (a 47, aK ta 2 u.2.2.2.2.2.2.2.2.2.2.2.2.2.2.2.2.2.1), (a 48, aT ta 2 u.2.2.2.2.2.2.2.2.2.2.2.2.2.2.2.2.2.2.1), (a 50, aK ta 2 u.2.2.2.2.2.2.2.2.2.2.2.2.2.2.2.2.2.2.2.1), (a 49, aS ta 408 u.2.2.2.2.2.2.2.2.2.2.2.2.1), (a 54, aS ta 300 u.2.2.2.2.2.2.2.2.2.2.2.2.2.1), (a 56, aS ta 16 u.2.2.2.2.2.2.2.2.2.2.2.2.2.2.1), (a 29, aS ta 416 u.2.2.2.2.2.2.2.2.2.2.2.2.2.2.2.1)]) 0 0 := by
  refine CT.of_i (r := fun u => u.1) rfl (by decide) (Nat.le_of_ble_eq_true rfl) ?_
  intro pp ee ss mm below meth kc A Q hx hb hml hown hin hts hK hA hsz hG hret H locs hP hD hS ls hl
  have hl : lv_has ls 4 [(0, .ref h0)] := hl
  refine lv_aload_n (pc := 0) hx hb dX10_take_0 rfl (lv_at hl 0 rfl) ?_
  refine va_get (pc := 1) (D := D) (ci := 8) (v := .int (nI lsz)) (C := RX10) (T := TX10) (N := 57) hx hb hts iu10 hown hK hP 0 rfl rfl 32 (by decide) (hts _ tw_1077) (fun _ h9 => h9) rfl dX10_take_1 ?_
  refine lv_istore_n (pc := 4) (lv' := [(1, .int (nI lsz)), (0, .ref h0)]) hx hb dX10_take_4 rfl hl (by decide) rfl (fun ls hl => ?_)
  have hlm1 : lv 1 &&& 1 ≤ 1 := Nat.and_le_right
  refine lv_aload_n (pc := 5) hx hb dX10_take_5 rfl (lv_at hl 1 rfl) ?_
  refine va_get (pc := 6) (D := D) (ci := 8) (v := .ref (a 39)) (C := RX10) (T := TX10) (N := 57) hx hb hts iu10 hown hK hP 0 rfl rfl 39 (by decide) (hts _ tw_1084) (fun _ h9 => h9) rfl dX10_take_6 ?_
  refine lv_iconst (pc := 9) (v := nI 1) hx hb dX10_take_9 (by decide +kernel) ?_
  refine q_iald (pc := 10) hx hb hK hP 15 0 rfl rfl (k := 1) (v := nI (se 1)) rfl (by omega) (by omega) rfl dX10_take_10 ?_
  refine lv_iconst (pc := 11) (v := nI 1) hx hb dX10_take_11 (by decide +kernel) ?_
  refine lv_icmp_ne (pc := 12) (tgt := 19) hx hb dX10_take_12 (by decide) (fun c_1 => ?_) (fun c_1 => ?_)
  · skip
    rw [nI_eq (by omega) (by omega)] at c_1
    refine lv_iconst (pc := 19) (v := nI 0) hx hb dX10_take_19 (by decide +kernel) ?_
    refine lv_istore_n (pc := 20) (lv' := [(2, .int (nI 0)), (1, .int (nI lsz)), (0, .ref h0)]) hx hb dX10_take_20 rfl hl (by decide) rfl (fun ls hl => ?_)
    refine lv_iload_n (pc := 21) hx hb dX10_take_21 rfl (lv_at hl 1 rfl) ?_
    refine lv_if_eq (pc := 22) (tgt := 50) hx hb dX10_take_22 (by decide) (fun c_2 => ?_) (fun c_2 => ?_)
    · skip
      rw [q_eq0 (by omega)] at c_2
      exfalso; omega
    · skip
      rw [q_eq0 (by omega)] at c_2
      refine lv_iload_n (pc := 25) hx hb dX10_take_25 rfl (lv_at hl 0 rfl) ?_
      refine lv_if_ne (pc := 26) (tgt := 52) hx hb dX10_take_26 (by decide) (fun c_3 => absurd (by decide) c_3) (fun _ => ?_)
      refine lv_aload_n (pc := 29) hx hb dX10_take_29 rfl (lv_at hl 2 rfl) ?_
      refine va_get (pc := 30) (D := D) (ci := 8) (v := .ref (a 39)) (C := RX10) (T := TX10) (N := 57) hx hb hts iu10 hown hK hP 0 rfl rfl 39 (by decide) (hts _ tw_1084) (fun _ h9 => h9) rfl dX10_take_30 ?_
      refine lv_iconst (pc := 33) (v := nI 1) hx hb dX10_take_33 (by decide +kernel) ?_
      refine q_iald (pc := 34) hx hb hK hP 15 0 rfl rfl (k := 1) (v := nI (se 1)) rfl (by omega) (by omega) rfl dX10_take_34 ?_
      refine lv_iconst (pc := 35) (v := nI 2) hx hb dX10_take_35 (by decide +kernel) ?_
      refine lv_icmp_ne (pc := 36) (tgt := 50) hx hb dX10_take_36 (by decide) (fun c_4 => ?_) (fun c_4 => ?_)
      · skip
        rw [nI_eq (by omega) (by omega)] at c_4
        exfalso; omega
      · skip
        rw [nI_eq (by omega) (by omega)] at c_4
        refine lv_aload_n (pc := 39) hx hb dX10_take_39 rfl (lv_at hl 2 rfl) ?_
        refine va_get (pc := 40) (D := D) (ci := 8) (v := .ref (a 40)) (C := RX10) (T := TX10) (N := 57) hx hb hts iu10 hown hK hP 0 rfl rfl 40 (by decide) (hts _ tw_1085) (fun _ h9 => h9) rfl dX10_take_40 ?_
        refine lv_iconst (pc := 43) (v := nI 1) hx hb dX10_take_43 (by decide +kernel) ?_
        refine q_iald (pc := 44) hx hb hK hP 16 0 rfl rfl (k := 1) (v := nI (lv 1)) rfl (by omega) (by omega) rfl dX10_take_44 ?_
        refine lv_iconst (pc := 45) (v := nI 1) hx hb dX10_take_45 (by decide +kernel) ?_
        refine lv_iand (pc := 46) hx hb dX10_take_46 ?_
        refine q_top (y := nI (lv 1 &&& 1)) (nI_and (by omega) (by omega)) ?_
        refine lv_if_ne (pc := 47) (tgt := 52) hx hb dX10_take_47 (by decide) (fun c_5 => ?_) (fun c_5 => ?_)
        · skip
          rw [q_eq0 (by omega)] at c_5
          refine lv_aload_n (pc := 52) hx hb dX10_take_52 rfl (lv_at hl 2 rfl) ?_
          refine lv_iconst (pc := 53) (v := nI 0) hx hb dX10_take_53 (by decide +kernel) ?_
          refine va_put (pc := 54) (D := D) (ci := 8) (v := .int (nI 0)) (ty := .int) (C := RX10) (T := TX10) (N := 57) hx hb hts iu10 tyX10 tyX10_ok nmX10 hown hK hP hD hS 0 rfl rfl 32 (by decide) (hts _ tw_1077) (fun _ h9 => h9) rfl (by decide +kernel) rfl rfl (Nat.le_of_ble_eq_true rfl) dX10_take_54 (fun H locs hP hD hS => ?_)
          have hP : va_P D vwCl [(h0, oM a ar mn tp osz 0 ns ct), (a 8, aZ ta 256 BOX), (a 9, aZ ta 256 UBOX), (a 16, aS ta 240 rk), (a 18, aS ta 16 ce), (a 22, aS ta 700 gm), (a 24, aS ta 16 mac), (a 25, aS ta 16 k1), (a 53, aS ta 16 gbl), (a 55, aS ta 16 gco), (a 45, aS ta 32 gch), (a 41, aS ta 256 gke), (a 36, aK ta 2 ru), (a 37, aK ta 2 le), (a 31, aS ta 300 gli), (a 39, aK ta 2 se), (a 40, aK ta 2 lv), (a 47, aK ta 2 cn), (a 48, aT ta 2 ha), (a 50, aK ta 2 cs), (a 49, aS ta 408 gcm), (a 54, aS ta 300 gwk), (a 56, aS ta 16 gah), (a 29, aS ta 416 gou)] H := hP
          have hD : va_D A [(h0, oM a ar mn tp osz 0 ns ct), (a 8, aZ ta 256 BOX), (a 9, aZ ta 256 UBOX), (a 16, aS ta 240 rk), (a 18, aS ta 16 ce), (a 22, aS ta 700 gm), (a 24, aS ta 16 mac), (a 25, aS ta 16 k1), (a 53, aS ta 16 gbl), (a 55, aS ta 16 gco), (a 45, aS ta 32 gch), (a 41, aS ta 256 gke), (a 36, aK ta 2 ru), (a 37, aK ta 2 le), (a 31, aS ta 300 gli), (a 39, aK ta 2 se), (a 40, aK ta 2 lv), (a 47, aK ta 2 cn), (a 48, aT ta 2 ha), (a 50, aK ta 2 cs), (a 49, aS ta 408 gcm), (a 54, aS ta 300 gwk), (a 56, aS ta 16 gah), (a 29, aS ta 416 gou)] := hD
          refine lv_iload_n (pc := 57) hx hb dX10_take_57 rfl (lv_at hl 0 rfl) ?_
          refine lv_if_eq (pc := 58) (tgt := 113) hx hb dX10_take_58 (by decide) (fun _ => ?_) (fun c_6 => absurd (by decide) c_6)
          refine lv_aload_n (pc := 113) hx hb dX10_take_113 rfl (lv_at hl 2 rfl) ?_
          refine lv_iload_n (pc := 114) hx hb dX10_take_114 rfl (lv_at hl 1 rfl) ?_
          refine cs_V (pc := 115) (idx := 395) (n := 1) (wr := [(a 39, aK ta 2 se), (a 48, aT ta 2 ha), (a 50, aK ta 2 cs), (a 49, aS ta 408 gcm)]) (As := [.int (nI lsz)]) (rest := []) (ci := 8) hx hb hml hown hts hGok hK hA hG hl.1 hP hD hS (ct_X10_opened_3 ll D ta hGok h0 a ar mn tp osz 0 ns ct rk ce gm mac k1 gbl gco gch gke gli gwk gah gou ru le lv cn lsz (by first | assumption | omega | rfl | decide) (by first | assumption | omega | rfl | decide) (by first | assumption | omega | rfl | decide) (by first | assumption | omega | rfl | decide) (by first | assumption | omega | rfl | decide) H.size) tw_1417 tw_1414 tw_1416 tw_59 tw_75 hdX10_opened rfl ⟨rfl, rfl, Nat.le_of_ble_eq_true rfl, Nat.le_of_ble_eq_true rfl, Nat.le_of_ble_eq_true rfl, Nat.le_of_ble_eq_true rfl⟩ rfl rfl (q0 := 0) rfl [0, 1, 2, 3, 4, 5, 6, 7, 8, 9, 10, 11, 12, 13, 14, 16, 17, 21, 22, 23] [15, 18, 19, 20] rfl rfl (by decide) rfl (Nat.le_of_ble_eq_true rfl) dX10_take_115 (fun u H locs hq hP hD hS => ?_)
          obtain ⟨r_115, z_115, rk1_115, ce1_115, gm1_115, mac1_115, k11_115, gbl1_115, gco1_115, gch1_115, gwk1_115, gah1_115, gou1_115, cn1_115, mn1_115, n1_115, ar1_115⟩ := u
          have hq : (open3 (seg gke 128 (le 1)) (seg gke 160 (le 1)) (cn 1 + 1) (lv 1) (seg gch 16 16) (qL gli lsz) = if z_115 then some (qL gou1_115 n1_115, seg gco1_115 0 16) else none) ∧ ((r_115 : Int32) = if z_115 then nI n1_115 else -1) ∧ (z_115 = true → cn1_115 = qU cn 1 (cn 1 + 1) ∧ seg gch1_115 16 16 = seg gco1_115 0 16 ∧ 4 ≤ n1_115 ∧ n1_115 ≤ 204) ∧ (z_115 = false → gou1_115 = gou) ∧ (∀ jz, jz < 16 → gch1_115 jz = gch jz) ∧ (cn1_115 0 = cn 0) := hq
          obtain ⟨hz_115, hr_115, hy_115, hx9_115, hfc_115, hcn0_115⟩ := hq
          refine W.eq (g2 := F0 mm 118 ls [.int r_115]) rfl ?_
          have hP : va_P D vwCl [(a 39, aK ta 2 se), (a 48, aT ta 2 ha), (a 50, aK ta 2 cs), (a 49, aS ta 408 gcm), (h0, oM a ar1_115 mn1_115 tp osz 0 ns ct), (a 8, aZ ta 256 BOX), (a 9, aZ ta 256 UBOX), (a 16, aS ta 240 rk1_115), (a 18, aS ta 16 ce1_115), (a 22, aS ta 700 gm1_115), (a 24, aS ta 16 mac1_115), (a 25, aS ta 16 k11_115), (a 53, aS ta 16 gbl1_115), (a 55, aS ta 16 gco1_115), (a 45, aS ta 32 gch1_115), (a 41, aS ta 256 gke), (a 36, aK ta 2 ru), (a 37, aK ta 2 le), (a 31, aS ta 300 gli), (a 40, aK ta 2 lv), (a 47, aK ta 2 cn1_115), (a 54, aS ta 300 gwk1_115), (a 56, aS ta 16 gah1_115), (a 29, aS ta 416 gou1_115)] H := hP
          have hD : va_D A [(a 39, aK ta 2 se), (a 48, aT ta 2 ha), (a 50, aK ta 2 cs), (a 49, aS ta 408 gcm), (h0, oM a ar1_115 mn1_115 tp osz 0 ns ct), (a 8, aZ ta 256 BOX), (a 9, aZ ta 256 UBOX), (a 16, aS ta 240 rk1_115), (a 18, aS ta 16 ce1_115), (a 22, aS ta 700 gm1_115), (a 24, aS ta 16 mac1_115), (a 25, aS ta 16 k11_115), (a 53, aS ta 16 gbl1_115), (a 55, aS ta 16 gco1_115), (a 45, aS ta 32 gch1_115), (a 41, aS ta 256 gke), (a 36, aK ta 2 ru), (a 37, aK ta 2 le), (a 31, aS ta 300 gli), (a 40, aK ta 2 lv), (a 47, aK ta 2 cn1_115), (a 54, aS ta 300 gwk1_115), (a 56, aS ta 16 gah1_115), (a 29, aS ta 416 gou1_115)] := hD
          by_cases hzz : z_115 = true
          · skip
            have hr8 : r_115 = nI n1_115 := by rw [hr_115, hzz]; rfl
            subst hr8
            have hy8 := hy_115 hzz
            refine lv_istore_n (pc := 118) (lv' := [(3, .int (nI n1_115)), (2, .int (nI 0)), (1, .int (nI lsz)), (0, .ref h0)]) hx hb dX10_take_118 rfl hl (by decide) rfl (fun ls hl => ?_)
            refine lv_iload_n (pc := 119) hx hb dX10_take_119 rfl (lv_at hl 0 rfl) ?_
            refine lv_iconst (pc := 120) (v := (-1)) hx hb dX10_take_120 (by decide +kernel) ?_
            refine lv_icmp_ne (pc := 121) (tgt := 135) hx hb dX10_take_121 (by decide) (fun c_7 => ?_) (fun c_7 => ?_)
            · skip
              refine lv_aload_n (pc := 135) hx hb dX10_take_135 rfl (lv_at hl 3 rfl) ?_
              refine lv_iload_n (pc := 136) hx hb dX10_take_136 rfl (lv_at hl 0 rfl) ?_
              refine va_put (pc := 137) (D := D) (ci := 8) (v := .int (nI n1_115)) (ty := .int) (C := RX10) (T := TX10) (N := 57) hx hb hts iu10 tyX10 tyX10_ok nmX10 hown hK hP hD hS 4 rfl rfl 30 (by decide) (hts _ tw_1075) (fun _ h9 => h9) rfl (by decide +kernel) rfl rfl (Nat.le_of_ble_eq_true rfl) dX10_take_137 (fun H locs hP hD hS => ?_)
              have hP : va_P D vwCl [(a 39, aK ta 2 se), (a 48, aT ta 2 ha), (a 50, aK ta 2 cs), (a 49, aS ta 408 gcm), (h0, oM a ar1_115 mn1_115 tp n1_115 0 ns ct), (a 8, aZ ta 256 BOX), (a 9, aZ ta 256 UBOX), (a 16, aS ta 240 rk1_115), (a 18, aS ta 16 ce1_115), (a 22, aS ta 700 gm1_115), (a 24, aS ta 16 mac1_115), (a 25, aS ta 16 k11_115), (a 53, aS ta 16 gbl1_115), (a 55, aS ta 16 gco1_115), (a 45, aS ta 32 gch1_115), (a 41, aS ta 256 gke), (a 36, aK ta 2 ru), (a 37, aK ta 2 le), (a 31, aS ta 300 gli), (a 40, aK ta 2 lv), (a 47, aK ta 2 cn1_115), (a 54, aS ta 300 gwk1_115), (a 56, aS ta 16 gah1_115), (a 29, aS ta 416 gou1_115)] H := hP
              have hD : va_D A [(a 39, aK ta 2 se), (a 48, aT ta 2 ha), (a 50, aK ta 2 cs), (a 49, aS ta 408 gcm), (h0, oM a ar1_115 mn1_115 tp n1_115 0 ns ct), (a 8, aZ ta 256 BOX), (a 9, aZ ta 256 UBOX), (a 16, aS ta 240 rk1_115), (a 18, aS ta 16 ce1_115), (a 22, aS ta 700 gm1_115), (a 24, aS ta 16 mac1_115), (a 25, aS ta 16 k11_115), (a 53, aS ta 16 gbl1_115), (a 55, aS ta 16 gco1_115), (a 45, aS ta 32 gch1_115), (a 41, aS ta 256 gke), (a 36, aK ta 2 ru), (a 37, aK ta 2 le), (a 31, aS ta 300 gli), (a 40, aK ta 2 lv), (a 47, aK ta 2 cn1_115), (a 54, aS ta 300 gwk1_115), (a 56, aS ta 16 gah1_115), (a 29, aS ta 416 gou1_115)] := hD
              refine lv_aload_n (pc := 140) hx hb dX10_take_140 rfl (lv_at hl 3 rfl) ?_
              refine lv_iconst (pc := 141) (v := nI 1) hx hb dX10_take_141 (by decide +kernel) ?_
              refine lv_aload_n (pc := 142) hx hb dX10_take_142 rfl (lv_at hl 3 rfl) ?_
              refine va_get (pc := 143) (D := D) (ci := 8) (v := .ref (a 29)) (C := RX10) (T := TX10) (N := 57) hx hb hts iu10 hown hK hP 4 rfl rfl 29 (by decide) (hts _ tw_1074) (fun _ h9 => h9) rfl dX10_take_143 ?_
              refine lv_iload_n (pc := 146) hx hb dX10_take_146 rfl (lv_at hl 0 rfl) ?_
              refine cs_V (pc := 147) (idx := 377) (n := 3) (wr := [(a 39, aK ta 2 se), (a 8, aZ ta 256 BOX), (a 9, aZ ta 256 UBOX), (a 16, aS ta 240 rk1_115), (a 18, aS ta 16 ce1_115), (a 22, aS ta 700 gm1_115), (a 24, aS ta 16 mac1_115), (a 25, aS ta 16 k11_115), (a 53, aS ta 16 gbl1_115), (a 55, aS ta 16 gco1_115), (a 45, aS ta 32 gch1_115), (a 41, aS ta 256 gke), (a 36, aK ta 2 ru), (a 37, aK ta 2 le), (a 31, aS ta 300 gli), (a 40, aK ta 2 lv), (a 47, aK ta 2 cn1_115), (a 54, aS ta 300 gwk1_115), (a 56, aS ta 16 gah1_115)]) (As := [.int (nI 1), .ref (a 29), .int (nI n1_115)]) (rest := []) (ci := 8) hx hb hml hown hts hGok hK hA hG hl.1 hP hD hS (ct_X10_keepCommand ll D ta hGok h0 a ar1_115 mn1_115 tp n1_115 0 ns ct ha cs gcm 1 (a 29) 416 gou1_115 n1_115 (by first | assumption | omega | rfl | decide) (by first | assumption | omega | rfl | decide) H.size) tw_1384 tw_1381 tw_1383 tw_52 tw_75 hdX10_keepCommand rfl ⟨rfl, rfl, Nat.le_of_ble_eq_true rfl, Nat.le_of_ble_eq_true rfl, Nat.le_of_ble_eq_true rfl, Nat.le_of_ble_eq_true rfl⟩ rfl rfl (q0 := 4) rfl [4, 1, 2, 3, 23] [0, 5, 6, 7, 8, 9, 10, 11, 12, 13, 14, 15, 16, 17, 18, 19, 20, 21, 22] rfl rfl (by decide) rfl (Nat.le_of_ble_eq_true rfl) dX10_take_147 (fun u H locs hq hP hD hS => ?_)
              obtain ⟨ha1_147, cs1_147, gcm1_147⟩ := u
              have hq : (ha1_147 = qU ha 1 true) ∧ (cs1_147 = qU cs 1 n1_115) ∧ (seg gcm1_147 (204 * 1) n1_115 = qL gou1_115 n1_115) ∧ (∀ jz, (jz < 204 * 1 ∨ 204 * 1 + 204 ≤ jz) → gcm1_147 jz = gcm jz) := hq
              obtain ⟨hha_147, hcs_147, hs_147, hfr_147⟩ := hq
              refine W.eq (g2 := F0 mm 150 ls []) rfl ?_
              have hP : va_P D vwCl [(a 39, aK ta 2 se), (a 8, aZ ta 256 BOX), (a 9, aZ ta 256 UBOX), (a 16, aS ta 240 rk1_115), (a 18, aS ta 16 ce1_115), (a 22, aS ta 700 gm1_115), (a 24, aS ta 16 mac1_115), (a 25, aS ta 16 k11_115), (a 53, aS ta 16 gbl1_115), (a 55, aS ta 16 gco1_115), (a 45, aS ta 32 gch1_115), (a 41, aS ta 256 gke), (a 36, aK ta 2 ru), (a 37, aK ta 2 le), (a 31, aS ta 300 gli), (a 40, aK ta 2 lv), (a 47, aK ta 2 cn1_115), (a 54, aS ta 300 gwk1_115), (a 56, aS ta 16 gah1_115), (h0, oM a ar1_115 mn1_115 tp n1_115 0 ns ct), (a 48, aT ta 2 ha1_147), (a 50, aK ta 2 cs1_147), (a 49, aS ta 408 gcm1_147), (a 29, aS ta 416 gou1_115)] H := hP
              have hD : va_D A [(a 39, aK ta 2 se), (a 8, aZ ta 256 BOX), (a 9, aZ ta 256 UBOX), (a 16, aS ta 240 rk1_115), (a 18, aS ta 16 ce1_115), (a 22, aS ta 700 gm1_115), (a 24, aS ta 16 mac1_115), (a 25, aS ta 16 k11_115), (a 53, aS ta 16 gbl1_115), (a 55, aS ta 16 gco1_115), (a 45, aS ta 32 gch1_115), (a 41, aS ta 256 gke), (a 36, aK ta 2 ru), (a 37, aK ta 2 le), (a 31, aS ta 300 gli), (a 40, aK ta 2 lv), (a 47, aK ta 2 cn1_115), (a 54, aS ta 300 gwk1_115), (a 56, aS ta 16 gah1_115), (h0, oM a ar1_115 mn1_115 tp n1_115 0 ns ct), (a 48, aT ta 2 ha1_147), (a 50, aK ta 2 cs1_147), (a 49, aS ta 408 gcm1_147), (a 29, aS ta 416 gou1_115)] := hD
              refine lv_ldcw (pc := 150) (v := (nI 36864)) hx hb hown (q_at (hts _ tw_1413) (by decide +kernel)) dX10_take_150 ?_
              refine q_top (y := (nI 36864)) (by first | rfl | decide +kernel | (simp; done)) ?_
              have hq_8 : (open3 (seg gke 128 (le 1)) (seg gke 160 (le 1)) (cn 1 + 1) (lv 1) (seg gch 16 16) (qL gli lsz) = if true then some (qL gou1_115 n1_115, seg gco1_115 0 16) else none) ∧ (true = true → se = se ∧ cn1_115 = qU cn 1 (cn 1 + 1) ∧ ha1_147 = qU ha 1 true ∧ cs1_147 = qU cs 1 n1_115 ∧ seg gcm1_147 204 n1_115 = qL gou1_115 n1_115 ∧ seg gch1_115 16 16 = seg gco1_115 0 16 ∧ 4 ≤ n1_115 ∧ n1_115 ≤ 204) ∧ (true = false → se = qU se 1 0 ∧ ha1_147 = ha ∧ cs1_147 = cs ∧ gcm1_147 = gcm ∧ gou1_115 = gou ∧ n1_115 = osz) ∧ (∀ j, j < 16 → gch1_115 j = gch j) ∧ (∀ j, j < 204 → gcm1_147 j = gcm j) ∧ (cn1_115 0 = cn 0) ∧ (((nI 36864) : Int32) = if true then nI 36864 else nI 27010) := by
                rw [hzz] at hz_115
                refine ⟨hz_115, fun _ => ⟨rfl, hy8.1, hha_147, hcs_147, hs_147, hy8.2.1, hy8.2.2.1, hy8.2.2.2⟩, fun q => (by cases q), hfc_115, fun j hj => hfr_147 j (by omega), hcn0_115, rfl⟩
              exact hret (⟨(nI 36864), (true), (rk1_115), (ce1_115), (gm1_115), (mac1_115), (k11_115), (gbl1_115), (gco1_115), (gch1_115), (mn1_115), (ar1_115), (gcm1_147), (gwk1_115), (gah1_115), (gou1_115), (se), (cn1_115), (ha1_147), (cs1_147), (n1_115)⟩ : Int32 × Bool × (Nat → BitVec 8) × (Nat → BitVec 8) × (Nat → BitVec 8) × (Nat → BitVec 8) × (Nat → BitVec 8) × (Nat → BitVec 8) × (Nat → BitVec 8) × (Nat → BitVec 8) × Nat × Nat × (Nat → BitVec 8) × (Nat → BitVec 8) × (Nat → BitVec 8) × (Nat → BitVec 8) × (Nat → Nat) × (Nat → Nat) × (Nat → Bool) × (Nat → Nat) × Nat) _ _ _ _ dX10_take_153 hq_8 (hP.sub [19, 1, 2, 3, 4, 5, 6, 7, 8, 9, 10, 11, 12, 13, 14, 0, 15, 16, 20, 21, 22, 17, 18, 23] rfl) (hD.sub [19, 1, 2, 3, 4, 5, 6, 7, 8, 9, 10, 11, 12, 13, 14, 0, 15, 16, 20, 21, 22, 17, 18, 23] (by decide) rfl) hS
            · skip
              exact absurd c_7 (nI_nm1 (by omega))
          · skip
            have hzf : z_115 = false := by simpa using hzz
            have hr8 : r_115 = -1 := by rw [hr_115, hzf]; rfl
            subst hr8
            refine lv_istore_n (pc := 118) (lv' := [(3, .int (-1)), (2, .int (nI 0)), (1, .int (nI lsz)), (0, .ref h0)]) hx hb dX10_take_118 rfl hl (by decide) rfl (fun ls hl => ?_)
            refine lv_iload_n (pc := 119) hx hb dX10_take_119 rfl (lv_at hl 0 rfl) ?_
            refine lv_iconst (pc := 120) (v := (-1)) hx hb dX10_take_120 (by decide +kernel) ?_
            refine lv_icmp_ne (pc := 121) (tgt := 135) hx hb dX10_take_121 (by decide) (fun c_9 => ?_) (fun c_9 => ?_)
            · skip
              exact absurd rfl c_9
            · skip
              refine lv_aload_n (pc := 124) hx hb dX10_take_124 rfl (lv_at hl 3 rfl) ?_
              refine va_get (pc := 125) (D := D) (ci := 8) (v := .ref (a 39)) (C := RX10) (T := TX10) (N := 57) hx hb hts iu10 hown hK hP 4 rfl rfl 39 (by decide) (hts _ tw_1084) (fun _ h9 => h9) rfl dX10_take_125 ?_
              refine lv_iconst (pc := 128) (v := nI 1) hx hb dX10_take_128 (by decide +kernel) ?_
              refine lv_iconst (pc := 129) (v := nI 0) hx hb dX10_take_129 (by decide +kernel) ?_
              refine q_iastK (pc := 130) hx hb hK hP hD hS 0 0 rfl rfl (k := 1) rfl (by omega) (by omega) (b := 0) rfl dX10_take_130 (fun H locs hP hD hS => ?_)
              have hP : va_P D vwCl [(a 39, aK ta 2 (qU se 1 0)), (a 48, aT ta 2 ha), (a 50, aK ta 2 cs), (a 49, aS ta 408 gcm), (h0, oM a ar1_115 mn1_115 tp osz 0 ns ct), (a 8, aZ ta 256 BOX), (a 9, aZ ta 256 UBOX), (a 16, aS ta 240 rk1_115), (a 18, aS ta 16 ce1_115), (a 22, aS ta 700 gm1_115), (a 24, aS ta 16 mac1_115), (a 25, aS ta 16 k11_115), (a 53, aS ta 16 gbl1_115), (a 55, aS ta 16 gco1_115), (a 45, aS ta 32 gch1_115), (a 41, aS ta 256 gke), (a 36, aK ta 2 ru), (a 37, aK ta 2 le), (a 31, aS ta 300 gli), (a 40, aK ta 2 lv), (a 47, aK ta 2 cn1_115), (a 54, aS ta 300 gwk1_115), (a 56, aS ta 16 gah1_115), (a 29, aS ta 416 gou1_115)] H := hP
              have hD : va_D A [(a 39, aK ta 2 (qU se 1 0)), (a 48, aT ta 2 ha), (a 50, aK ta 2 cs), (a 49, aS ta 408 gcm), (h0, oM a ar1_115 mn1_115 tp osz 0 ns ct), (a 8, aZ ta 256 BOX), (a 9, aZ ta 256 UBOX), (a 16, aS ta 240 rk1_115), (a 18, aS ta 16 ce1_115), (a 22, aS ta 700 gm1_115), (a 24, aS ta 16 mac1_115), (a 25, aS ta 16 k11_115), (a 53, aS ta 16 gbl1_115), (a 55, aS ta 16 gco1_115), (a 45, aS ta 32 gch1_115), (a 41, aS ta 256 gke), (a 36, aK ta 2 ru), (a 37, aK ta 2 le), (a 31, aS ta 300 gli), (a 40, aK ta 2 lv), (a 47, aK ta 2 cn1_115), (a 54, aS ta 300 gwk1_115), (a 56, aS ta 16 gah1_115), (a 29, aS ta 416 gou1_115)] := hD
              refine lv_sipush (pc := 131) (v := nI 27010) hx hb dX10_take_131 (by decide +kernel) ?_
              refine q_top (y := (nI 27010)) (by first | rfl | decide +kernel | (simp; done)) ?_
              have hq_10 : (open3 (seg gke 128 (le 1)) (seg gke 160 (le 1)) (cn 1 + 1) (lv 1) (seg gch 16 16) (qL gli lsz) = if false then some (qL gou1_115 osz, seg gco1_115 0 16) else none) ∧ (false = true → (qU se 1 0) = se ∧ cn1_115 = qU cn 1 (cn 1 + 1) ∧ ha = qU ha 1 true ∧ cs = qU cs 1 osz ∧ seg gcm 204 osz = qL gou1_115 osz ∧ seg gch1_115 16 16 = seg gco1_115 0 16 ∧ 4 ≤ osz ∧ osz ≤ 204) ∧ (false = false → (qU se 1 0) = qU se 1 0 ∧ ha = ha ∧ cs = cs ∧ gcm = gcm ∧ gou1_115 = gou ∧ osz = osz) ∧ (∀ j, j < 16 → gch1_115 j = gch j) ∧ (∀ j, j < 204 → gcm j = gcm j) ∧ (cn1_115 0 = cn 0) ∧ (((nI 27010) : Int32) = if false then nI 36864 else nI 27010) := by
                rw [hzf] at hz_115
                refine ⟨hz_115, fun q => (by cases q), fun _ => ⟨rfl, rfl, rfl, rfl, hx9_115 hzf, rfl⟩, hfc_115, fun _ _ => rfl, hcn0_115, rfl⟩
              exact hret (⟨(nI 27010), (false), (rk1_115), (ce1_115), (gm1_115), (mac1_115), (k11_115), (gbl1_115), (gco1_115), (gch1_115), (mn1_115), (ar1_115), (gcm), (gwk1_115), (gah1_115), (gou1_115), (qU se 1 0), (cn1_115), (ha), (cs), (osz)⟩ : Int32 × Bool × (Nat → BitVec 8) × (Nat → BitVec 8) × (Nat → BitVec 8) × (Nat → BitVec 8) × (Nat → BitVec 8) × (Nat → BitVec 8) × (Nat → BitVec 8) × (Nat → BitVec 8) × Nat × Nat × (Nat → BitVec 8) × (Nat → BitVec 8) × (Nat → BitVec 8) × (Nat → BitVec 8) × (Nat → Nat) × (Nat → Nat) × (Nat → Bool) × (Nat → Nat) × Nat) _ _ _ _ dX10_take_134 hq_10 (hP.sub [4, 5, 6, 7, 8, 9, 10, 11, 12, 13, 14, 15, 16, 17, 18, 0, 19, 20, 1, 2, 3, 21, 22, 23] rfl) (hD.sub [4, 5, 6, 7, 8, 9, 10, 11, 12, 13, 14, 15, 16, 17, 18, 0, 19, 20, 1, 2, 3, 21, 22, 23] (by decide) rfl) hS
        · skip
          rw [q_eq0 (by omega)] at c_5
          exfalso; omega
  · skip
    rw [nI_eq (by omega) (by omega)] at c_1
    exfalso; omega
theorem hdX10_answerMac : yX10_answerMac.cls ≠ "java/lang/invoke/MethodHandle" ∧ yX10_answerMac.cls ≠ "java/lang/invoke/VarHandle" ∧ (parseMethodDescriptor yX10_answerMac.desc).map (fun d => d.parameters.length) = some 4 := ⟨by decide +kernel, by decide +kernel, by decide +kernel⟩
theorem dX10_answerMac_0 : decode cX10_answerMac 0 = .ok (.aload_n 0, 1) := by decide +kernel
theorem dX10_answerMac_1 : decode cX10_answerMac 1 = .ok (.invokevirtual 114, 3) := by decide +kernel
theorem dX10_answerMac_4 : decode cX10_answerMac 4 = .ok (.sipush 204, 3) := by decide +kernel
theorem dX10_answerMac_7 : decode cX10_answerMac 7 = .ok (.iload_n 1, 1) := by decide +kernel
theorem dX10_answerMac_8 : decode cX10_answerMac 8 = .ok (.imul, 1) := by decide +kernel
theorem dX10_answerMac_9 : decode cX10_answerMac 9 = .ok (.istore 5, 2) := by decide +kernel
theorem dX10_answerMac_11 : decode cX10_answerMac 11 = .ok (.aload_n 0, 1) := by decide +kernel
theorem dX10_answerMac_12 : decode cX10_answerMac 12 = .ok (.getfield 274, 3) := by decide +kernel
theorem dX10_answerMac_15 : decode cX10_answerMac 15 = .ok (.iload_n 1, 1) := by decide +kernel
theorem dX10_answerMac_16 : decode cX10_answerMac 16 = .ok (.iaload, 1) := by decide +kernel
theorem dX10_answerMac_17 : decode cX10_answerMac 17 = .ok (.iconst 4, 1) := by decide +kernel
theorem dX10_answerMac_18 : decode cX10_answerMac 18 = .ok (.isub, 1) := by decide +kernel
theorem dX10_answerMac_19 : decode cX10_answerMac 19 = .ok (.istore 6, 2) := by decide +kernel
theorem dX10_answerMac_21 : decode cX10_answerMac 21 = .ok (.aload_n 0, 1) := by decide +kernel
theorem dX10_answerMac_22 : decode cX10_answerMac 22 = .ok (.getfield 231, 3) := by decide +kernel
theorem dX10_answerMac_25 : decode cX10_answerMac 25 = .ok (.iload_n 1, 1) := by decide +kernel
theorem dX10_answerMac_26 : decode cX10_answerMac 26 = .ok (.iaload, 1) := by decide +kernel
theorem dX10_answerMac_27 : decode cX10_answerMac 27 = .ok (.iconst 2, 1) := by decide +kernel
theorem dX10_answerMac_28 : decode cX10_answerMac 28 = .ok (.if_icmp .ne 59, 3) := by decide +kernel
theorem dX10_answerMac_31 : decode cX10_answerMac 31 = .ok (.aload_n 0, 1) := by decide +kernel
theorem dX10_answerMac_32 : decode cX10_answerMac 32 = .ok (.aload_n 0, 1) := by decide +kernel
theorem dX10_answerMac_33 : decode cX10_answerMac 33 = .ok (.getfield 271, 3) := by decide +kernel
theorem dX10_answerMac_36 : decode cX10_answerMac 36 = .ok (.iload 5, 2) := by decide +kernel
theorem dX10_answerMac_38 : decode cX10_answerMac 38 = .ok (.baload, 1) := by decide +kernel
theorem dX10_answerMac_39 : decode cX10_answerMac 39 = .ok (.sipush 248, 3) := by decide +kernel
theorem dX10_answerMac_42 : decode cX10_answerMac 42 = .ok (.iand, 1) := by decide +kernel
theorem dX10_answerMac_43 : decode cX10_answerMac 43 = .ok (.invokevirtual 87, 3) := by decide +kernel
theorem dX10_answerMac_46 : decode cX10_answerMac 46 = .ok (.aload_n 0, 1) := by decide +kernel
theorem dX10_answerMac_47 : decode cX10_answerMac 47 = .ok (.aload_n 0, 1) := by decide +kernel
theorem dX10_answerMac_48 : decode cX10_answerMac 48 = .ok (.getfield 271, 3) := by decide +kernel
theorem dX10_answerMac_51 : decode cX10_answerMac 51 = .ok (.iload 5, 2) := by decide +kernel
theorem dX10_answerMac_53 : decode cX10_answerMac 53 = .ok (.iconst 1, 1) := by decide +kernel
theorem dX10_answerMac_54 : decode cX10_answerMac 54 = .ok (.iadd, 1) := by decide +kernel
theorem dX10_answerMac_55 : decode cX10_answerMac 55 = .ok (.iconst 3, 1) := by decide +kernel
theorem dX10_answerMac_56 : decode cX10_answerMac 56 = .ok (.invokevirtual 121, 3) := by decide +kernel
theorem dX10_answerMac_59 : decode cX10_answerMac 59 = .ok (.aload_n 0, 1) := by decide +kernel
theorem dX10_answerMac_60 : decode cX10_answerMac 60 = .ok (.iload 6, 2) := by decide +kernel
theorem dX10_answerMac_62 : decode cX10_answerMac 62 = .ok (.invokevirtual 353, 3) := by decide +kernel
theorem dX10_answerMac_65 : decode cX10_answerMac 65 = .ok (.aload_n 0, 1) := by decide +kernel
theorem dX10_answerMac_66 : decode cX10_answerMac 66 = .ok (.aload_n 0, 1) := by decide +kernel
theorem dX10_answerMac_67 : decode cX10_answerMac 67 = .ok (.getfield 271, 3) := by decide +kernel
theorem dX10_answerMac_70 : decode cX10_answerMac 70 = .ok (.iload 5, 2) := by decide +kernel
theorem dX10_answerMac_72 : decode cX10_answerMac 72 = .ok (.iconst 4, 1) := by decide +kernel
theorem dX10_answerMac_73 : decode cX10_answerMac 73 = .ok (.iadd, 1) := by decide +kernel
theorem dX10_answerMac_74 : decode cX10_answerMac 74 = .ok (.iload 6, 2) := by decide +kernel
theorem dX10_answerMac_76 : decode cX10_answerMac 76 = .ok (.invokevirtual 121, 3) := by decide +kernel
theorem dX10_answerMac_79 : decode cX10_answerMac 79 = .ok (.aload_n 0, 1) := by decide +kernel
theorem dX10_answerMac_80 : decode cX10_answerMac 80 = .ok (.iload_n 3, 1) := by decide +kernel
theorem dX10_answerMac_81 : decode cX10_answerMac 81 = .ok (.invokevirtual 353, 3) := by decide +kernel
theorem dX10_answerMac_84 : decode cX10_answerMac 84 = .ok (.goto 17, 3) := by decide +kernel
theorem dX10_answerMac_87 : decode cX10_answerMac 87 = .ok (.aload_n 0, 1) := by decide +kernel
theorem dX10_answerMac_88 : decode cX10_answerMac 88 = .ok (.aload_n 0, 1) := by decide +kernel
theorem dX10_answerMac_89 : decode cX10_answerMac 89 = .ok (.getfield 258, 3) := by decide +kernel
theorem dX10_answerMac_92 : decode cX10_answerMac 92 = .ok (.bipush 16, 2) := by decide +kernel
theorem dX10_answerMac_94 : decode cX10_answerMac 94 = .ok (.iload_n 1, 1) := by decide +kernel
theorem dX10_answerMac_95 : decode cX10_answerMac 95 = .ok (.imul, 1) := by decide +kernel
theorem dX10_answerMac_96 : decode cX10_answerMac 96 = .ok (.bipush 16, 2) := by decide +kernel
theorem dX10_answerMac_98 : decode cX10_answerMac 98 = .ok (.invokevirtual 121, 3) := by decide +kernel
theorem dX10_answerMac_101 : decode cX10_answerMac 101 = .ok (.aload_n 0, 1) := by decide +kernel
theorem dX10_answerMac_102 : decode cX10_answerMac 102 = .ok (.aload_n 2, 1) := by decide +kernel
theorem dX10_answerMac_103 : decode cX10_answerMac 103 = .ok (.iconst 0, 1) := by decide +kernel
theorem dX10_answerMac_104 : decode cX10_answerMac 104 = .ok (.iload_n 3, 1) := by decide +kernel
theorem dX10_answerMac_105 : decode cX10_answerMac 105 = .ok (.invokevirtual 121, 3) := by decide +kernel
theorem dX10_answerMac_108 : decode cX10_answerMac 108 = .ok (.aload_n 0, 1) := by decide +kernel
theorem dX10_answerMac_109 : decode cX10_answerMac 109 = .ok (.iload 4, 2) := by decide +kernel
theorem dX10_answerMac_111 : decode cX10_answerMac 111 = .ok (.bipush 8, 2) := by decide +kernel
theorem dX10_answerMac_113 : decode cX10_answerMac 113 = .ok (.ishr, 1) := by decide +kernel
theorem dX10_answerMac_114 : decode cX10_answerMac 114 = .ok (.sipush 255, 3) := by decide +kernel
theorem dX10_answerMac_117 : decode cX10_answerMac 117 = .ok (.iand, 1) := by decide +kernel
theorem dX10_answerMac_118 : decode cX10_answerMac 118 = .ok (.invokevirtual 87, 3) := by decide +kernel
theorem dX10_answerMac_121 : decode cX10_answerMac 121 = .ok (.aload_n 0, 1) := by decide +kernel
theorem dX10_answerMac_122 : decode cX10_answerMac 122 = .ok (.iload 4, 2) := by decide +kernel
theorem dX10_answerMac_124 : decode cX10_answerMac 124 = .ok (.sipush 255, 3) := by decide +kernel
theorem dX10_answerMac_127 : decode cX10_answerMac 127 = .ok (.iand, 1) := by decide +kernel
theorem dX10_answerMac_128 : decode cX10_answerMac 128 = .ok (.invokevirtual 87, 3) := by decide +kernel
theorem dX10_answerMac_131 : decode cX10_answerMac 131 = .ok (.aload_n 0, 1) := by decide +kernel
theorem dX10_answerMac_132 : decode cX10_answerMac 132 = .ok (.getfield 231, 3) := by decide +kernel
theorem dX10_answerMac_135 : decode cX10_answerMac 135 = .ok (.iload_n 1, 1) := by decide +kernel
theorem dX10_answerMac_136 : decode cX10_answerMac 136 = .ok (.iaload, 1) := by decide +kernel
theorem dX10_answerMac_137 : decode cX10_answerMac 137 = .ok (.iconst 2, 1) := by decide +kernel
theorem dX10_answerMac_138 : decode cX10_answerMac 138 = .ok (.if_icmp .ne 30, 3) := by decide +kernel
theorem dX10_answerMac_141 : decode cX10_answerMac 141 = .ok (.aload_n 0, 1) := by decide +kernel
theorem dX10_answerMac_142 : decode cX10_answerMac 142 = .ok (.aload_n 0, 1) := by decide +kernel
theorem dX10_answerMac_143 : decode cX10_answerMac 143 = .ok (.getfield 246, 3) := by decide +kernel
theorem dX10_answerMac_146 : decode cX10_answerMac 146 = .ok (.sipush 128, 3) := by decide +kernel
theorem dX10_answerMac_149 : decode cX10_answerMac 149 = .ok (.iload_n 1, 1) := by decide +kernel
theorem dX10_answerMac_150 : decode cX10_answerMac 150 = .ok (.imul, 1) := by decide +kernel
theorem dX10_answerMac_151 : decode cX10_answerMac 151 = .ok (.bipush 64, 2) := by decide +kernel
theorem dX10_answerMac_153 : decode cX10_answerMac 153 = .ok (.iadd, 1) := by decide +kernel
theorem dX10_answerMac_154 : decode cX10_answerMac 154 = .ok (.aload_n 0, 1) := by decide +kernel
theorem dX10_answerMac_155 : decode cX10_answerMac 155 = .ok (.getfield 261, 3) := by decide +kernel
theorem dX10_answerMac_158 : decode cX10_answerMac 158 = .ok (.bipush 8, 2) := by decide +kernel
theorem dX10_answerMac_160 : decode cX10_answerMac 160 = .ok (.iload_n 1, 1) := by decide +kernel
theorem dX10_answerMac_161 : decode cX10_answerMac 161 = .ok (.imul, 1) := by decide +kernel
theorem dX10_answerMac_162 : decode cX10_answerMac 162 = .ok (.invokevirtual 332, 3) := by decide +kernel
theorem dX10_answerMac_165 : decode cX10_answerMac 165 = .ok (.goto 25, 3) := by decide +kernel
theorem dX10_answerMac_168 : decode cX10_answerMac 168 = .ok (.aload_n 0, 1) := by decide +kernel
theorem dX10_answerMac_169 : decode cX10_answerMac 169 = .ok (.aload_n 0, 1) := by decide +kernel
theorem dX10_answerMac_170 : decode cX10_answerMac 170 = .ok (.getfield 246, 3) := by decide +kernel
theorem dX10_answerMac_173 : decode cX10_answerMac 173 = .ok (.sipush 128, 3) := by decide +kernel
theorem dX10_answerMac_176 : decode cX10_answerMac 176 = .ok (.iload_n 1, 1) := by decide +kernel
theorem dX10_answerMac_177 : decode cX10_answerMac 177 = .ok (.imul, 1) := by decide +kernel
theorem dX10_answerMac_178 : decode cX10_answerMac 178 = .ok (.bipush 64, 2) := by decide +kernel
theorem dX10_answerMac_180 : decode cX10_answerMac 180 = .ok (.iadd, 1) := by decide +kernel
theorem dX10_answerMac_181 : decode cX10_answerMac 181 = .ok (.aload_n 0, 1) := by decide +kernel
theorem dX10_answerMac_182 : decode cX10_answerMac 182 = .ok (.getfield 234, 3) := by decide +kernel
theorem dX10_answerMac_185 : decode cX10_answerMac 185 = .ok (.iload_n 1, 1) := by decide +kernel
theorem dX10_answerMac_186 : decode cX10_answerMac 186 = .ok (.iaload, 1) := by decide +kernel
theorem dX10_answerMac_187 : decode cX10_answerMac 187 = .ok (.invokevirtual 124, 3) := by decide +kernel
theorem dX10_answerMac_190 : decode cX10_answerMac 190 = .ok (.iconst 0, 1) := by decide +kernel
theorem dX10_answerMac_191 : decode cX10_answerMac 191 = .ok (.istore 7, 2) := by decide +kernel
theorem dX10_answerMac_193 : decode cX10_answerMac 193 = .ok (.iload 7, 2) := by decide +kernel
theorem dX10_answerMac_195 : decode cX10_answerMac 195 = .ok (.bipush 8, 2) := by decide +kernel
theorem dX10_answerMac_197 : decode cX10_answerMac 197 = .ok (.if_icmp .ge 23, 3) := by decide +kernel
theorem dX10_answerMac_200 : decode cX10_answerMac 200 = .ok (.aload_n 0, 1) := by decide +kernel
theorem dX10_answerMac_201 : decode cX10_answerMac 201 = .ok (.getfield 289, 3) := by decide +kernel
theorem dX10_answerMac_204 : decode cX10_answerMac 204 = .ok (.iload 7, 2) := by decide +kernel
theorem dX10_answerMac_206 : decode cX10_answerMac 206 = .ok (.aload_n 0, 1) := by decide +kernel
theorem dX10_answerMac_207 : decode cX10_answerMac 207 = .ok (.getfield 94, 3) := by decide +kernel
theorem dX10_answerMac_210 : decode cX10_answerMac 210 = .ok (.iload 7, 2) := by decide +kernel
theorem dX10_answerMac_212 : decode cX10_answerMac 212 = .ok (.baload, 1) := by decide +kernel
theorem dX10_answerMac_213 : decode cX10_answerMac 213 = .ok (.bastore, 1) := by decide +kernel
theorem dX10_answerMac_214 : decode cX10_answerMac 214 = .ok (.iinc 7 1, 3) := by decide +kernel
theorem dX10_answerMac_217 : decode cX10_answerMac 217 = .ok (.goto (-24), 3) := by decide +kernel
theorem dX10_answerMac_220 : decode cX10_answerMac 220 = .ok (.return_, 1) := by decide +kernel
set_option maxHeartbeats 4000000 in
set_option maxRecDepth 100000 in
theorem ct_X10_answerMac_2 (ll : Launch) (D : va_G) (ta : Nat → ClassId) {G : (Nat → Prop) → State → Heap → Prop} (hGok : GOK G) (h0 : Nat) (a : Nat → Nat) (ar : Nat) (mn : Nat) (tp : Nat) (osz : Nat) (lsz : Nat) (ns : Nat) (ct : Nat) (bi : Nat → Bool) (tu : Nat → Bool) (cd : Nat → Bool) (sk : Nat → Bool) (hf : Nat → Bool) (wd : Nat → Bool) (gm : Nat → BitVec 8) (mac : Nat → BitVec 8) (gco : Nat → BitVec 8) (gke : Nat → BitVec 8) (gcm : Nat → BitVec 8) (gbc : Nat → BitVec 8) (ru : Nat → Nat) (cs : Nat → Nat) (sd : Nat) (hd2 : Nat) (capd : Nat) (gd : Nat → BitVec 8) (n8 : Nat) (sw9 : Nat) (hsd : sd ≤ 1) (hru : ru sd = 2) (hcs : 4 ≤ cs sd ∧ cs sd ≤ 204) (hn8 : n8 ≤ 300 ∧ n8 ≤ capd ∧ capd < 2147483648) (hsw : sw9 < 65536) (sz : Nat) : CT ll yX10_answerMac cX10_answerMac 8 none ({ frames := 5, cells := 0, slots := 0, locals := 124 } : Room) D ta G [.ref h0, .int (nI sd), .ref hd2, .int (nI n8), .int (nI sw9)] [(h0, oM a ar mn tp osz lsz ns ct), (a 0, aK ta 64 tIP), (a 1, aK ta 48 tSPR), (a 2, aK ta 32 tMIX), (a 3, aK ta 56 tCH), (a 4, aK ta 48 tSEC), (a 5, aK ta 512 tSBX), (a 10, aB ta 64 bi), (a 11, aB ta 64 tu), (a 12, aB ta 56 cd), (a 13, aB ta 768 sk), (a 14, aB ta 32 hf), (a 15, aB ta 48 wd), (a 22, aS ta 700 gm), (a 24, aS ta 16 mac), (a 55, aS ta 16 gco), (a 41, aS ta 256 gke), (a 36, aK ta 2 ru), (a 50, aK ta 2 cs), (a 49, aS ta 408 gcm), (a 46, aS ta 16 gbc), (hd2, aS ta capd gd)] sz (S := (Nat → Bool) × (Nat → Bool) × (Nat → Bool) × (Nat → Bool) × (Nat → Bool) × (Nat → Bool) × (Nat → BitVec 8) × (Nat → BitVec 8) × (Nat → BitVec 8) × Nat) (fun _ => none) (fun u => (seg u.2.2.2.2.2.2.2.2.1 0 8 = ansCode2 (seg gke (128 * sd + 64) 16) (seg gbc (8 * sd) 8) (seg gcm (204 * sd) (cs sd)) (qL gd n8) sw9)) (fun u => [(h0, oM a ar u.2.2.2.2.2.2.2.2.2 tp osz lsz ns ct), (a 0, aK ta 64 tIP), (a 1, aK ta 48 tSPR), (a 2, aK ta 32 tMIX), (a 3, aK ta 56 tCH), (a 4, aK ta 48 tSEC), (a 5, aK ta 512 tSBX), (a 10, aB ta 64 u.1), (a 11, aB ta 64 u.2.1), (a 12, aB ta 56 u.2.2.1), (a 13, aB ta 768 u.2.2.2.1), (a 14, aB ta 32 u.2.2.2.2.1), (a 15, aB ta 48 u.2.2.2.2.2.1), (a 22, aS ta 700 u.2.2.2.2.2.2.1), (a 24, aS ta 16 u.2.2.2.2.2.2.2.1), (a 55, aS ta 16 u.2.2.2.2.2.2.2.2.1), (a 41, aS ta 256 gke), (a 36, aK ta 2 ru), (a 50, aK ta 2 cs), (a 49, aS ta 408 gcm), (a 46, aS ta 16 gbc), (hd2, aS ta capd gd)]) 0 0 := by
  refine CT.of_v rfl (by decide) (Nat.le_of_ble_eq_true rfl) ?_
  intro pp ee ss mm below meth kc A Q hx hb hml hown hin hts hK hA hsz hG hret H locs hP hD hS ls hl
  have hl : lv_has ls 8 [(0, .ref h0), (1, .int (nI sd)), (2, .ref hd2), (3, .int (nI n8)), (4, .int (nI sw9))] := hl
  refine lv_aload_n (pc := 0) hx hb dX10_answerMac_0 rfl (lv_at hl 0 rfl) ?_
  refine cs_V (pc := 1) (idx := 114) (n := 0) (wr := [(a 0, aK ta 64 tIP), (a 1, aK ta 48 tSPR), (a 2, aK ta 32 tMIX), (a 3, aK ta 56 tCH), (a 4, aK ta 48 tSEC), (a 5, aK ta 512 tSBX), (a 10, aB ta 64 bi), (a 11, aB ta 64 tu), (a 12, aB ta 56 cd), (a 13, aB ta 768 sk), (a 14, aB ta 32 hf), (a 15, aB ta 48 wd), (a 22, aS ta 700 gm), (a 24, aS ta 16 mac), (a 55, aS ta 16 gco), (a 41, aS ta 256 gke), (a 36, aK ta 2 ru), (a 50, aK ta 2 cs), (a 49, aS ta 408 gcm), (a 46, aS ta 16 gbc), (hd2, aS ta capd gd)]) (As := []) (rest := []) (ci := 8) hx hb hml hown hts hGok hK hA hG hl.1 hP hD hS (ct_X10_fresh ll D ta hGok h0 a ar mn tp osz lsz ns ct  H.size) tw_1302 tw_1299 tw_1301 tw_35 tw_75 hdX10_fresh rfl ⟨rfl, rfl, Nat.le_of_ble_eq_true rfl, Nat.le_of_ble_eq_true rfl, Nat.le_of_ble_eq_true rfl, Nat.le_of_ble_eq_true rfl⟩ rfl rfl (q0 := 0) rfl [0] [1, 2, 3, 4, 5, 6, 7, 8, 9, 10, 11, 12, 13, 14, 15, 16, 17, 18, 19, 20, 21] rfl rfl (by decide) rfl (Nat.le_of_ble_eq_true rfl) dX10_answerMac_1 (fun u H locs hq hP hD hS => ?_)
  refine W.eq (g2 := F0 mm 4 ls []) rfl ?_
  have hP : va_P D vwCl [(a 0, aK ta 64 tIP), (a 1, aK ta 48 tSPR), (a 2, aK ta 32 tMIX), (a 3, aK ta 56 tCH), (a 4, aK ta 48 tSEC), (a 5, aK ta 512 tSBX), (a 10, aB ta 64 bi), (a 11, aB ta 64 tu), (a 12, aB ta 56 cd), (a 13, aB ta 768 sk), (a 14, aB ta 32 hf), (a 15, aB ta 48 wd), (a 22, aS ta 700 gm), (a 24, aS ta 16 mac), (a 55, aS ta 16 gco), (a 41, aS ta 256 gke), (a 36, aK ta 2 ru), (a 50, aK ta 2 cs), (a 49, aS ta 408 gcm), (a 46, aS ta 16 gbc), (hd2, aS ta capd gd), (h0, oM a ar 0 tp osz lsz ns ct)] H := hP
  have hD : va_D A [(a 0, aK ta 64 tIP), (a 1, aK ta 48 tSPR), (a 2, aK ta 32 tMIX), (a 3, aK ta 56 tCH), (a 4, aK ta 48 tSEC), (a 5, aK ta 512 tSBX), (a 10, aB ta 64 bi), (a 11, aB ta 64 tu), (a 12, aB ta 56 cd), (a 13, aB ta 768 sk), (a 14, aB ta 32 hf), (a 15, aB ta 48 wd), (a 22, aS ta 700 gm), (a 24, aS ta 16 mac), (a 55, aS ta 16 gco), (a 41, aS ta 256 gke), (a 36, aK ta 2 ru), (a 50, aK ta 2 cs), (a 49, aS ta 408 gcm), (a 46, aS ta 16 gbc), (hd2, aS ta capd gd), (h0, oM a ar 0 tp osz lsz ns ct)] := hD
  refine lv_sipush (pc := 4) (v := nI 204) hx hb dX10_answerMac_4 (by decide +kernel) ?_
  refine lv_iload_n (pc := 7) hx hb dX10_answerMac_7 rfl (lv_at hl 1 rfl) ?_
  refine lv_imul (pc := 8) hx hb dX10_answerMac_8 ?_
  refine q_top (y := nI (204 * sd)) (pk_mul 204 sd) ?_
  refine lv_istore (pc := 9) (lv' := [(5, .int (nI (204 * sd))), (0, .ref h0), (1, .int (nI sd)), (2, .ref hd2), (3, .int (nI n8)), (4, .int (nI sw9))]) hx hb dX10_answerMac_9 hl (by decide) rfl (fun ls hl => ?_)
  refine lv_aload_n (pc := 11) hx hb dX10_answerMac_11 rfl (lv_at hl 1 rfl) ?_
  refine va_get (pc := 12) (D := D) (ci := 8) (v := .ref (a 50)) (C := RX10) (T := TX10) (N := 57) hx hb hts iu10 hown hK hP 21 rfl rfl 50 (by decide) (hts _ tw_1095) (fun _ h9 => h9) rfl dX10_answerMac_12 ?_
  refine lv_iload_n (pc := 15) hx hb dX10_answerMac_15 rfl (lv_at hl 2 rfl) ?_
  refine q_iald (pc := 16) hx hb hK hP 17 0 rfl rfl (k := sd) (v := nI (cs sd)) rfl (by omega) (by omega) rfl dX10_answerMac_16 ?_
  refine lv_iconst (pc := 17) (v := nI 4) hx hb dX10_answerMac_17 (by decide +kernel) ?_
  refine lv_isub (pc := 18) hx hb dX10_answerMac_18 ?_
  refine q_top (y := nI (cs sd - 4)) (pk_sub (a := cs sd) (b := 4) (by omega)) ?_
  refine lv_istore (pc := 19) (lv' := [(6, .int (nI (cs sd - 4))), (5, .int (nI (204 * sd))), (0, .ref h0), (1, .int (nI sd)), (2, .ref hd2), (3, .int (nI n8)), (4, .int (nI sw9))]) hx hb dX10_answerMac_19 hl (by decide) rfl (fun ls hl => ?_)
  refine lv_aload_n (pc := 21) hx hb dX10_answerMac_21 rfl (lv_at hl 2 rfl) ?_
  refine va_get (pc := 22) (D := D) (ci := 8) (v := .ref (a 36)) (C := RX10) (T := TX10) (N := 57) hx hb hts iu10 hown hK hP 21 rfl rfl 36 (by decide) (hts _ tw_1081) (fun _ h9 => h9) rfl dX10_answerMac_22 ?_
  refine lv_iload_n (pc := 25) hx hb dX10_answerMac_25 rfl (lv_at hl 3 rfl) ?_
  refine q_iald (pc := 26) hx hb hK hP 16 0 rfl rfl (k := sd) (v := nI (ru sd)) rfl (by omega) (by omega) rfl dX10_answerMac_26 ?_
  refine lv_iconst (pc := 27) (v := nI 2) hx hb dX10_answerMac_27 (by decide +kernel) ?_
  refine lv_icmp_ne (pc := 28) (tgt := 87) hx hb dX10_answerMac_28 (by decide) (fun c_1 => ?_) (fun c_1 => ?_)
  · skip
    rw [nI_eq (by omega) (by omega)] at c_1
    exfalso; omega
  · skip
    rw [nI_eq (by omega) (by omega)] at c_1
    refine lv_aload_n (pc := 31) hx hb dX10_answerMac_31 rfl (lv_at hl 2 rfl) ?_
    refine lv_aload_n (pc := 32) hx hb dX10_answerMac_32 rfl (lv_at hl 2 rfl) ?_
    refine va_get (pc := 33) (D := D) (ci := 8) (v := .ref (a 49)) (C := RX10) (T := TX10) (N := 57) hx hb hts iu10 hown hK hP 21 rfl rfl 49 (by decide) (hts _ tw_1094) (fun _ h9 => h9) rfl dX10_answerMac_33 ?_
    refine lv_iload (pc := 36) hx hb dX10_answerMac_36 (lv_at hl 1 rfl) ?_
    refine q_bald (pc := 38) hx hb hK hP 18 2 rfl rfl (k := 204 * sd) (v := qs (gcm (204 * sd))) rfl (by omega) (by omega) rfl dX10_answerMac_38 ?_
    refine lv_sipush (pc := 39) (v := nI 248) hx hb dX10_answerMac_39 (by decide +kernel) ?_
    refine lv_iand (pc := 42) hx hb dX10_answerMac_42 ?_
    refine cs_V (pc := 43) (idx := 87) (n := 1) (wr := [(a 0, aK ta 64 tIP), (a 1, aK ta 48 tSPR), (a 2, aK ta 32 tMIX), (a 3, aK ta 56 tCH), (a 4, aK ta 48 tSEC), (a 5, aK ta 512 tSBX), (a 10, aB ta 64 bi), (a 11, aB ta 64 tu), (a 12, aB ta 56 cd), (a 13, aB ta 768 sk), (a 14, aB ta 32 hf), (a 15, aB ta 48 wd), (a 24, aS ta 16 mac), (a 55, aS ta 16 gco), (a 41, aS ta 256 gke), (a 36, aK ta 2 ru), (a 50, aK ta 2 cs), (a 49, aS ta 408 gcm), (a 46, aS ta 16 gbc), (hd2, aS ta capd gd)]) (As := [.int ((qs (gcm (204 * sd))) &&& (nI 248))]) (rest := []) (ci := 8) hx hb hml hown hts hGok hK hA hG hl.1 hP hD hS (ct_X10_add ll D ta hGok h0 a ar 0 tp osz lsz ns ct gm ((qs (gcm (204 * sd))) &&& (nI 248)) (by first | assumption | omega | rfl | decide) H.size) tw_1310 tw_1307 tw_1309 tw_37 tw_75 hdX10_add rfl ⟨rfl, rfl, Nat.le_of_ble_eq_true rfl, Nat.le_of_ble_eq_true rfl, Nat.le_of_ble_eq_true rfl, Nat.le_of_ble_eq_true rfl⟩ rfl rfl (q0 := 21) rfl [21, 12] [0, 1, 2, 3, 4, 5, 6, 7, 8, 9, 10, 11, 13, 14, 15, 16, 17, 18, 19, 20] rfl rfl (by decide) rfl (Nat.le_of_ble_eq_true rfl) dX10_answerMac_43 (fun u H locs hq hP hD hS => ?_)
    generalize u = gm1_43 at hq hP hD ⊢
    have hq : (qL gm1_43 (0 + 1) = qL gm 0 ++ [qlo ((qs (gcm (204 * sd))) &&& (nI 248))]) := hq
    have hL_43 := hq
    refine W.eq (g2 := F0 mm 46 ls []) rfl ?_
    have hP : va_P D vwCl [(a 0, aK ta 64 tIP), (a 1, aK ta 48 tSPR), (a 2, aK ta 32 tMIX), (a 3, aK ta 56 tCH), (a 4, aK ta 48 tSEC), (a 5, aK ta 512 tSBX), (a 10, aB ta 64 bi), (a 11, aB ta 64 tu), (a 12, aB ta 56 cd), (a 13, aB ta 768 sk), (a 14, aB ta 32 hf), (a 15, aB ta 48 wd), (a 24, aS ta 16 mac), (a 55, aS ta 16 gco), (a 41, aS ta 256 gke), (a 36, aK ta 2 ru), (a 50, aK ta 2 cs), (a 49, aS ta 408 gcm), (a 46, aS ta 16 gbc), (hd2, aS ta capd gd), (h0, oM a ar (0 + 1) tp osz lsz ns ct), (a 22, aS ta 700 gm1_43)] H := hP
    have hD : va_D A [(a 0, aK ta 64 tIP), (a 1, aK ta 48 tSPR), (a 2, aK ta 32 tMIX), (a 3, aK ta 56 tCH), (a 4, aK ta 48 tSEC), (a 5, aK ta 512 tSBX), (a 10, aB ta 64 bi), (a 11, aB ta 64 tu), (a 12, aB ta 56 cd), (a 13, aB ta 768 sk), (a 14, aB ta 32 hf), (a 15, aB ta 48 wd), (a 24, aS ta 16 mac), (a 55, aS ta 16 gco), (a 41, aS ta 256 gke), (a 36, aK ta 2 ru), (a 50, aK ta 2 cs), (a 49, aS ta 408 gcm), (a 46, aS ta 16 gbc), (hd2, aS ta capd gd), (h0, oM a ar (0 + 1) tp osz lsz ns ct), (a 22, aS ta 700 gm1_43)] := hD
    refine lv_aload_n (pc := 46) hx hb dX10_answerMac_46 rfl (lv_at hl 2 rfl) ?_
    refine lv_aload_n (pc := 47) hx hb dX10_answerMac_47 rfl (lv_at hl 2 rfl) ?_
    refine va_get (pc := 48) (D := D) (ci := 8) (v := .ref (a 49)) (C := RX10) (T := TX10) (N := 57) hx hb hts iu10 hown hK hP 20 rfl rfl 49 (by decide) (hts _ tw_1094) (fun _ h9 => h9) rfl dX10_answerMac_48 ?_
    refine lv_iload (pc := 51) hx hb dX10_answerMac_51 (lv_at hl 1 rfl) ?_
    refine lv_iconst (pc := 53) (v := nI 1) hx hb dX10_answerMac_53 (by decide +kernel) ?_
    refine lv_iadd (pc := 54) hx hb dX10_answerMac_54 ?_
    refine q_top (y := nI (204 * sd + 1)) (nI_add (204 * sd) 1) ?_
    refine lv_iconst (pc := 55) (v := nI 3) hx hb dX10_answerMac_55 (by decide +kernel) ?_
    refine cs_V (pc := 56) (idx := 121) (n := 3) (wr := [(a 0, aK ta 64 tIP), (a 1, aK ta 48 tSPR), (a 2, aK ta 32 tMIX), (a 3, aK ta 56 tCH), (a 4, aK ta 48 tSEC), (a 5, aK ta 512 tSBX), (a 10, aB ta 64 bi), (a 11, aB ta 64 tu), (a 12, aB ta 56 cd), (a 13, aB ta 768 sk), (a 14, aB ta 32 hf), (a 15, aB ta 48 wd), (a 24, aS ta 16 mac), (a 55, aS ta 16 gco), (a 41, aS ta 256 gke), (a 36, aK ta 2 ru), (a 50, aK ta 2 cs), (a 46, aS ta 16 gbc), (hd2, aS ta capd gd)]) (As := [.ref (a 49), .int (nI (204 * sd + 1)), .int (nI 3)]) (rest := []) (ci := 8) hx hb hml hown hts hGok hK hA hG hl.1 hP hD hS (ct_X10_addAll ll D ta hGok h0 a ar (0 + 1) tp osz lsz ns ct gm1_43 (a 49) (204 * sd + 1) 408 gcm 3 (by first | assumption | omega | rfl | decide) (by first | assumption | omega | rfl | decide) (by first | assumption | omega | rfl | decide) H.size) tw_1306 tw_1303 tw_1305 tw_36 tw_75 hdX10_addAll rfl ⟨rfl, rfl, Nat.le_of_ble_eq_true rfl, Nat.le_of_ble_eq_true rfl, Nat.le_of_ble_eq_true rfl, Nat.le_of_ble_eq_true rfl⟩ rfl rfl (q0 := 20) rfl [20, 21, 17] [0, 1, 2, 3, 4, 5, 6, 7, 8, 9, 10, 11, 12, 13, 14, 15, 16, 18, 19] rfl rfl (by decide) rfl (Nat.le_of_ble_eq_true rfl) dX10_answerMac_56 (fun u H locs hq hP hD hS => ?_)
    generalize u = gm1_56 at hq hP hD ⊢
    have hq : (qL gm1_56 ((0 + 1) + 3) = qL gm1_43 (0 + 1) ++ seg gcm (204 * sd + 1) 3) := hq
    have hL_56 := hq
    refine W.eq (g2 := F0 mm 59 ls []) rfl ?_
    have hP : va_P D vwCl [(a 0, aK ta 64 tIP), (a 1, aK ta 48 tSPR), (a 2, aK ta 32 tMIX), (a 3, aK ta 56 tCH), (a 4, aK ta 48 tSEC), (a 5, aK ta 512 tSBX), (a 10, aB ta 64 bi), (a 11, aB ta 64 tu), (a 12, aB ta 56 cd), (a 13, aB ta 768 sk), (a 14, aB ta 32 hf), (a 15, aB ta 48 wd), (a 24, aS ta 16 mac), (a 55, aS ta 16 gco), (a 41, aS ta 256 gke), (a 36, aK ta 2 ru), (a 50, aK ta 2 cs), (a 46, aS ta 16 gbc), (hd2, aS ta capd gd), (h0, oM a ar ((0 + 1) + 3) tp osz lsz ns ct), (a 22, aS ta 700 gm1_56), (a 49, aS ta 408 gcm)] H := hP
    have hD : va_D A [(a 0, aK ta 64 tIP), (a 1, aK ta 48 tSPR), (a 2, aK ta 32 tMIX), (a 3, aK ta 56 tCH), (a 4, aK ta 48 tSEC), (a 5, aK ta 512 tSBX), (a 10, aB ta 64 bi), (a 11, aB ta 64 tu), (a 12, aB ta 56 cd), (a 13, aB ta 768 sk), (a 14, aB ta 32 hf), (a 15, aB ta 48 wd), (a 24, aS ta 16 mac), (a 55, aS ta 16 gco), (a 41, aS ta 256 gke), (a 36, aK ta 2 ru), (a 50, aK ta 2 cs), (a 46, aS ta 16 gbc), (hd2, aS ta capd gd), (h0, oM a ar ((0 + 1) + 3) tp osz lsz ns ct), (a 22, aS ta 700 gm1_56), (a 49, aS ta 408 gcm)] := hD
    refine lv_aload_n (pc := 59) hx hb dX10_answerMac_59 rfl (lv_at hl 2 rfl) ?_
    refine lv_iload (pc := 60) hx hb dX10_answerMac_60 (lv_at hl 0 rfl) ?_
    refine cs_V (pc := 62) (idx := 353) (n := 1) (wr := [(a 0, aK ta 64 tIP), (a 1, aK ta 48 tSPR), (a 2, aK ta 32 tMIX), (a 3, aK ta 56 tCH), (a 4, aK ta 48 tSEC), (a 5, aK ta 512 tSBX), (a 10, aB ta 64 bi), (a 11, aB ta 64 tu), (a 12, aB ta 56 cd), (a 13, aB ta 768 sk), (a 14, aB ta 32 hf), (a 15, aB ta 48 wd), (a 24, aS ta 16 mac), (a 55, aS ta 16 gco), (a 41, aS ta 256 gke), (a 36, aK ta 2 ru), (a 50, aK ta 2 cs), (a 46, aS ta 16 gbc), (hd2, aS ta capd gd), (a 49, aS ta 408 gcm)]) (As := [.int (nI (cs sd - 4))]) (rest := []) (ci := 8) hx hb hml hown hts hGok hK hA hG hl.1 hP hD hS (ct_X10_addLength ll D ta hGok h0 a ar ((0 + 1) + 3) tp osz lsz ns ct gm1_56 (cs sd - 4) (by first | assumption | omega | rfl | decide) (by first | assumption | omega | rfl | decide) H.size) tw_1372 tw_1369 tw_1371 tw_50 tw_75 hdX10_addLength rfl ⟨rfl, rfl, Nat.le_of_ble_eq_true rfl, Nat.le_of_ble_eq_true rfl, Nat.le_of_ble_eq_true rfl, Nat.le_of_ble_eq_true rfl⟩ rfl rfl (q0 := 19) rfl [19, 20] [0, 1, 2, 3, 4, 5, 6, 7, 8, 9, 10, 11, 12, 13, 14, 15, 16, 17, 18, 21] rfl rfl (by decide) rfl (Nat.le_of_ble_eq_true rfl) dX10_answerMac_62 (fun u H locs hq hP hD hS => ?_)
    generalize u = gm1_62 at hq hP hD ⊢
    have hq : (qL gm1_62 (((0 + 1) + 3) + 1) = qL gm1_56 ((0 + 1) + 3) ++ [BitVec.ofNat 8 (cs sd - 4)]) := hq
    have hL_62 := hq
    refine W.eq (g2 := F0 mm 65 ls []) rfl ?_
    have hP : va_P D vwCl [(a 0, aK ta 64 tIP), (a 1, aK ta 48 tSPR), (a 2, aK ta 32 tMIX), (a 3, aK ta 56 tCH), (a 4, aK ta 48 tSEC), (a 5, aK ta 512 tSBX), (a 10, aB ta 64 bi), (a 11, aB ta 64 tu), (a 12, aB ta 56 cd), (a 13, aB ta 768 sk), (a 14, aB ta 32 hf), (a 15, aB ta 48 wd), (a 24, aS ta 16 mac), (a 55, aS ta 16 gco), (a 41, aS ta 256 gke), (a 36, aK ta 2 ru), (a 50, aK ta 2 cs), (a 46, aS ta 16 gbc), (hd2, aS ta capd gd), (a 49, aS ta 408 gcm), (h0, oM a ar (((0 + 1) + 3) + 1) tp osz lsz ns ct), (a 22, aS ta 700 gm1_62)] H := hP
    have hD : va_D A [(a 0, aK ta 64 tIP), (a 1, aK ta 48 tSPR), (a 2, aK ta 32 tMIX), (a 3, aK ta 56 tCH), (a 4, aK ta 48 tSEC), (a 5, aK ta 512 tSBX), (a 10, aB ta 64 bi), (a 11, aB ta 64 tu), (a 12, aB ta 56 cd), (a 13, aB ta 768 sk), (a 14, aB ta 32 hf), (a 15, aB ta 48 wd), (a 24, aS ta 16 mac), (a 55, aS ta 16 gco), (a 41, aS ta 256 gke), (a 36, aK ta 2 ru), (a 50, aK ta 2 cs), (a 46, aS ta 16 gbc), (hd2, aS ta capd gd), (a 49, aS ta 408 gcm), (h0, oM a ar (((0 + 1) + 3) + 1) tp osz lsz ns ct), (a 22, aS ta 700 gm1_62)] := hD
    refine lv_aload_n (pc := 65) hx hb dX10_answerMac_65 rfl (lv_at hl 2 rfl) ?_
    refine lv_aload_n (pc := 66) hx hb dX10_answerMac_66 rfl (lv_at hl 2 rfl) ?_
    refine va_get (pc := 67) (D := D) (ci := 8) (v := .ref (a 49)) (C := RX10) (T := TX10) (N := 57) hx hb hts iu10 hown hK hP 20 rfl rfl 49 (by decide) (hts _ tw_1094) (fun _ h9 => h9) rfl dX10_answerMac_67 ?_
    refine lv_iload (pc := 70) hx hb dX10_answerMac_70 (lv_at hl 1 rfl) ?_
    refine lv_iconst (pc := 72) (v := nI 4) hx hb dX10_answerMac_72 (by decide +kernel) ?_
    refine lv_iadd (pc := 73) hx hb dX10_answerMac_73 ?_
    refine q_top (y := nI (204 * sd + 4)) (nI_add (204 * sd) 4) ?_
    refine lv_iload (pc := 74) hx hb dX10_answerMac_74 (lv_at hl 0 rfl) ?_
    refine cs_V (pc := 76) (idx := 121) (n := 3) (wr := [(a 0, aK ta 64 tIP), (a 1, aK ta 48 tSPR), (a 2, aK ta 32 tMIX), (a 3, aK ta 56 tCH), (a 4, aK ta 48 tSEC), (a 5, aK ta 512 tSBX), (a 10, aB ta 64 bi), (a 11, aB ta 64 tu), (a 12, aB ta 56 cd), (a 13, aB ta 768 sk), (a 14, aB ta 32 hf), (a 15, aB ta 48 wd), (a 24, aS ta 16 mac), (a 55, aS ta 16 gco), (a 41, aS ta 256 gke), (a 36, aK ta 2 ru), (a 50, aK ta 2 cs), (a 46, aS ta 16 gbc), (hd2, aS ta capd gd)]) (As := [.ref (a 49), .int (nI (204 * sd + 4)), .int (nI (cs sd - 4))]) (rest := []) (ci := 8) hx hb hml hown hts hGok hK hA hG hl.1 hP hD hS (ct_X10_addAll ll D ta hGok h0 a ar (((0 + 1) + 3) + 1) tp osz lsz ns ct gm1_62 (a 49) (204 * sd + 4) 408 gcm (cs sd - 4) (by first | assumption | omega | rfl | decide) (by first | assumption | omega | rfl | decide) (by first | assumption | omega | rfl | decide) H.size) tw_1306 tw_1303 tw_1305 tw_36 tw_75 hdX10_addAll rfl ⟨rfl, rfl, Nat.le_of_ble_eq_true rfl, Nat.le_of_ble_eq_true rfl, Nat.le_of_ble_eq_true rfl, Nat.le_of_ble_eq_true rfl⟩ rfl rfl (q0 := 20) rfl [20, 21, 19] [0, 1, 2, 3, 4, 5, 6, 7, 8, 9, 10, 11, 12, 13, 14, 15, 16, 17, 18] rfl rfl (by decide) rfl (Nat.le_of_ble_eq_true rfl) dX10_answerMac_76 (fun u H locs hq hP hD hS => ?_)
    generalize u = gm1_76 at hq hP hD ⊢
    have hq : (qL gm1_76 ((((0 + 1) + 3) + 1) + (cs sd - 4)) = qL gm1_62 (((0 + 1) + 3) + 1) ++ seg gcm (204 * sd + 4) (cs sd - 4)) := hq
    have hL_76 := hq
    refine W.eq (g2 := F0 mm 79 ls []) rfl ?_
    have hP : va_P D vwCl [(a 0, aK ta 64 tIP), (a 1, aK ta 48 tSPR), (a 2, aK ta 32 tMIX), (a 3, aK ta 56 tCH), (a 4, aK ta 48 tSEC), (a 5, aK ta 512 tSBX), (a 10, aB ta 64 bi), (a 11, aB ta 64 tu), (a 12, aB ta 56 cd), (a 13, aB ta 768 sk), (a 14, aB ta 32 hf), (a 15, aB ta 48 wd), (a 24, aS ta 16 mac), (a 55, aS ta 16 gco), (a 41, aS ta 256 gke), (a 36, aK ta 2 ru), (a 50, aK ta 2 cs), (a 46, aS ta 16 gbc), (hd2, aS ta capd gd), (h0, oM a ar ((((0 + 1) + 3) + 1) + (cs sd - 4)) tp osz lsz ns ct), (a 22, aS ta 700 gm1_76), (a 49, aS ta 408 gcm)] H := hP
    have hD : va_D A [(a 0, aK ta 64 tIP), (a 1, aK ta 48 tSPR), (a 2, aK ta 32 tMIX), (a 3, aK ta 56 tCH), (a 4, aK ta 48 tSEC), (a 5, aK ta 512 tSBX), (a 10, aB ta 64 bi), (a 11, aB ta 64 tu), (a 12, aB ta 56 cd), (a 13, aB ta 768 sk), (a 14, aB ta 32 hf), (a 15, aB ta 48 wd), (a 24, aS ta 16 mac), (a 55, aS ta 16 gco), (a 41, aS ta 256 gke), (a 36, aK ta 2 ru), (a 50, aK ta 2 cs), (a 46, aS ta 16 gbc), (hd2, aS ta capd gd), (h0, oM a ar ((((0 + 1) + 3) + 1) + (cs sd - 4)) tp osz lsz ns ct), (a 22, aS ta 700 gm1_76), (a 49, aS ta 408 gcm)] := hD
    refine lv_aload_n (pc := 79) hx hb dX10_answerMac_79 rfl (lv_at hl 2 rfl) ?_
    refine lv_iload_n (pc := 80) hx hb dX10_answerMac_80 rfl (lv_at hl 5 rfl) ?_
    refine cs_V (pc := 81) (idx := 353) (n := 1) (wr := [(a 0, aK ta 64 tIP), (a 1, aK ta 48 tSPR), (a 2, aK ta 32 tMIX), (a 3, aK ta 56 tCH), (a 4, aK ta 48 tSEC), (a 5, aK ta 512 tSBX), (a 10, aB ta 64 bi), (a 11, aB ta 64 tu), (a 12, aB ta 56 cd), (a 13, aB ta 768 sk), (a 14, aB ta 32 hf), (a 15, aB ta 48 wd), (a 24, aS ta 16 mac), (a 55, aS ta 16 gco), (a 41, aS ta 256 gke), (a 36, aK ta 2 ru), (a 50, aK ta 2 cs), (a 46, aS ta 16 gbc), (hd2, aS ta capd gd), (a 49, aS ta 408 gcm)]) (As := [.int (nI n8)]) (rest := []) (ci := 8) hx hb hml hown hts hGok hK hA hG hl.1 hP hD hS (ct_X10_addLength ll D ta hGok h0 a ar ((((0 + 1) + 3) + 1) + (cs sd - 4)) tp osz lsz ns ct gm1_76 n8 (by first | assumption | omega | rfl | decide) (by first | assumption | omega | rfl | decide) H.size) tw_1372 tw_1369 tw_1371 tw_50 tw_75 hdX10_addLength rfl ⟨rfl, rfl, Nat.le_of_ble_eq_true rfl, Nat.le_of_ble_eq_true rfl, Nat.le_of_ble_eq_true rfl, Nat.le_of_ble_eq_true rfl⟩ rfl rfl (q0 := 19) rfl [19, 20] [0, 1, 2, 3, 4, 5, 6, 7, 8, 9, 10, 11, 12, 13, 14, 15, 16, 17, 18, 21] rfl rfl (by decide) rfl (Nat.le_of_ble_eq_true rfl) dX10_answerMac_81 (fun u H locs hq hP hD hS => ?_)
    generalize u = gm1_81 at hq hP hD ⊢
    have hq : (qL gm1_81 (((((0 + 1) + 3) + 1) + (cs sd - 4)) + 1) = qL gm1_76 ((((0 + 1) + 3) + 1) + (cs sd - 4)) ++ [BitVec.ofNat 8 n8]) := hq
    have hL_81 := hq
    refine W.eq (g2 := F0 mm 84 ls []) rfl ?_
    have hP : va_P D vwCl [(a 0, aK ta 64 tIP), (a 1, aK ta 48 tSPR), (a 2, aK ta 32 tMIX), (a 3, aK ta 56 tCH), (a 4, aK ta 48 tSEC), (a 5, aK ta 512 tSBX), (a 10, aB ta 64 bi), (a 11, aB ta 64 tu), (a 12, aB ta 56 cd), (a 13, aB ta 768 sk), (a 14, aB ta 32 hf), (a 15, aB ta 48 wd), (a 24, aS ta 16 mac), (a 55, aS ta 16 gco), (a 41, aS ta 256 gke), (a 36, aK ta 2 ru), (a 50, aK ta 2 cs), (a 46, aS ta 16 gbc), (hd2, aS ta capd gd), (a 49, aS ta 408 gcm), (h0, oM a ar (((((0 + 1) + 3) + 1) + (cs sd - 4)) + 1) tp osz lsz ns ct), (a 22, aS ta 700 gm1_81)] H := hP
    have hD : va_D A [(a 0, aK ta 64 tIP), (a 1, aK ta 48 tSPR), (a 2, aK ta 32 tMIX), (a 3, aK ta 56 tCH), (a 4, aK ta 48 tSEC), (a 5, aK ta 512 tSBX), (a 10, aB ta 64 bi), (a 11, aB ta 64 tu), (a 12, aB ta 56 cd), (a 13, aB ta 768 sk), (a 14, aB ta 32 hf), (a 15, aB ta 48 wd), (a 24, aS ta 16 mac), (a 55, aS ta 16 gco), (a 41, aS ta 256 gke), (a 36, aK ta 2 ru), (a 50, aK ta 2 cs), (a 46, aS ta 16 gbc), (hd2, aS ta capd gd), (a 49, aS ta 408 gcm), (h0, oM a ar (((((0 + 1) + 3) + 1) + (cs sd - 4)) + 1) tp osz lsz ns ct), (a 22, aS ta 700 gm1_81)] := hD
    refine lv_goto (pc := 84) (tgt := 101) hx hb dX10_answerMac_84 (by decide) ?_
    refine lv_aload_n (pc := 101) hx hb dX10_answerMac_101 rfl (lv_at hl 2 rfl) ?_
    refine lv_aload_n (pc := 102) hx hb dX10_answerMac_102 rfl (lv_at hl 4 rfl) ?_
    refine lv_iconst (pc := 103) (v := nI 0) hx hb dX10_answerMac_103 (by decide +kernel) ?_
    refine lv_iload_n (pc := 104) hx hb dX10_answerMac_104 rfl (lv_at hl 5 rfl) ?_
    refine cs_V (pc := 105) (idx := 121) (n := 3) (wr := [(a 0, aK ta 64 tIP), (a 1, aK ta 48 tSPR), (a 2, aK ta 32 tMIX), (a 3, aK ta 56 tCH), (a 4, aK ta 48 tSEC), (a 5, aK ta 512 tSBX), (a 10, aB ta 64 bi), (a 11, aB ta 64 tu), (a 12, aB ta 56 cd), (a 13, aB ta 768 sk), (a 14, aB ta 32 hf), (a 15, aB ta 48 wd), (a 24, aS ta 16 mac), (a 55, aS ta 16 gco), (a 41, aS ta 256 gke), (a 36, aK ta 2 ru), (a 50, aK ta 2 cs), (a 46, aS ta 16 gbc), (a 49, aS ta 408 gcm)]) (As := [.ref hd2, .int (nI 0), .int (nI n8)]) (rest := []) (ci := 8) hx hb hml hown hts hGok hK hA hG hl.1 hP hD hS (ct_X10_addAll ll D ta hGok h0 a ar (((((0 + 1) + 3) + 1) + (cs sd - 4)) + 1) tp osz lsz ns ct gm1_81 hd2 0 capd gd n8 (by first | assumption | omega | rfl | decide) (by first | assumption | omega | rfl | decide) (by first | assumption | omega | rfl | decide) H.size) tw_1306 tw_1303 tw_1305 tw_36 tw_75 hdX10_addAll rfl ⟨rfl, rfl, Nat.le_of_ble_eq_true rfl, Nat.le_of_ble_eq_true rfl, Nat.le_of_ble_eq_true rfl, Nat.le_of_ble_eq_true rfl⟩ rfl rfl (q0 := 20) rfl [20, 21, 18] [0, 1, 2, 3, 4, 5, 6, 7, 8, 9, 10, 11, 12, 13, 14, 15, 16, 17, 19] rfl rfl (by decide) rfl (Nat.le_of_ble_eq_true rfl) dX10_answerMac_105 (fun u H locs hq hP hD hS => ?_)
    generalize u = gm1_105 at hq hP hD ⊢
    have hq : (qL gm1_105 ((((((0 + 1) + 3) + 1) + (cs sd - 4)) + 1) + n8) = qL gm1_81 (((((0 + 1) + 3) + 1) + (cs sd - 4)) + 1) ++ seg gd 0 n8) := hq
    have hL_105 := hq
    refine W.eq (g2 := F0 mm 108 ls []) rfl ?_
    have hP : va_P D vwCl [(a 0, aK ta 64 tIP), (a 1, aK ta 48 tSPR), (a 2, aK ta 32 tMIX), (a 3, aK ta 56 tCH), (a 4, aK ta 48 tSEC), (a 5, aK ta 512 tSBX), (a 10, aB ta 64 bi), (a 11, aB ta 64 tu), (a 12, aB ta 56 cd), (a 13, aB ta 768 sk), (a 14, aB ta 32 hf), (a 15, aB ta 48 wd), (a 24, aS ta 16 mac), (a 55, aS ta 16 gco), (a 41, aS ta 256 gke), (a 36, aK ta 2 ru), (a 50, aK ta 2 cs), (a 46, aS ta 16 gbc), (a 49, aS ta 408 gcm), (h0, oM a ar ((((((0 + 1) + 3) + 1) + (cs sd - 4)) + 1) + n8) tp osz lsz ns ct), (a 22, aS ta 700 gm1_105), (hd2, aS ta capd gd)] H := hP
    have hD : va_D A [(a 0, aK ta 64 tIP), (a 1, aK ta 48 tSPR), (a 2, aK ta 32 tMIX), (a 3, aK ta 56 tCH), (a 4, aK ta 48 tSEC), (a 5, aK ta 512 tSBX), (a 10, aB ta 64 bi), (a 11, aB ta 64 tu), (a 12, aB ta 56 cd), (a 13, aB ta 768 sk), (a 14, aB ta 32 hf), (a 15, aB ta 48 wd), (a 24, aS ta 16 mac), (a 55, aS ta 16 gco), (a 41, aS ta 256 gke), (a 36, aK ta 2 ru), (a 50, aK ta 2 cs), (a 46, aS ta 16 gbc), (a 49, aS ta 408 gcm), (h0, oM a ar ((((((0 + 1) + 3) + 1) + (cs sd - 4)) + 1) + n8) tp osz lsz ns ct), (a 22, aS ta 700 gm1_105), (hd2, aS ta capd gd)] := hD
    refine lv_aload_n (pc := 108) hx hb dX10_answerMac_108 rfl (lv_at hl 2 rfl) ?_
    refine lv_iload (pc := 109) hx hb dX10_answerMac_109 (lv_at hl 6 rfl) ?_
    refine lv_bipush (pc := 111) (v := nI 8) hx hb dX10_answerMac_111 (by decide +kernel) ?_
    refine lv_ishr (pc := 113) hx hb dX10_answerMac_113 ?_
    refine q_top (y := nI (sw9 / 256)) (q_shr (p := 256) (by decide) (by omega)) ?_
    refine lv_sipush (pc := 114) (v := nI 255) hx hb dX10_answerMac_114 (by decide +kernel) ?_
    refine lv_iand (pc := 117) hx hb dX10_answerMac_117 ?_
    refine q_top (y := nI ((sw9 / 256) % 256)) (q_andN (k := 8) (p := 256) (by decide) (by omega)) ?_
    refine cs_V (pc := 118) (idx := 87) (n := 1) (wr := [(a 0, aK ta 64 tIP), (a 1, aK ta 48 tSPR), (a 2, aK ta 32 tMIX), (a 3, aK ta 56 tCH), (a 4, aK ta 48 tSEC), (a 5, aK ta 512 tSBX), (a 10, aB ta 64 bi), (a 11, aB ta 64 tu), (a 12, aB ta 56 cd), (a 13, aB ta 768 sk), (a 14, aB ta 32 hf), (a 15, aB ta 48 wd), (a 24, aS ta 16 mac), (a 55, aS ta 16 gco), (a 41, aS ta 256 gke), (a 36, aK ta 2 ru), (a 50, aK ta 2 cs), (a 46, aS ta 16 gbc), (a 49, aS ta 408 gcm), (hd2, aS ta capd gd)]) (As := [.int (nI ((sw9 / 256) % 256))]) (rest := []) (ci := 8) hx hb hml hown hts hGok hK hA hG hl.1 hP hD hS (ct_X10_add ll D ta hGok h0 a ar ((((((0 + 1) + 3) + 1) + (cs sd - 4)) + 1) + n8) tp osz lsz ns ct gm1_105 (nI ((sw9 / 256) % 256)) (by first | assumption | omega | rfl | decide) H.size) tw_1310 tw_1307 tw_1309 tw_37 tw_75 hdX10_add rfl ⟨rfl, rfl, Nat.le_of_ble_eq_true rfl, Nat.le_of_ble_eq_true rfl, Nat.le_of_ble_eq_true rfl, Nat.le_of_ble_eq_true rfl⟩ rfl rfl (q0 := 19) rfl [19, 20] [0, 1, 2, 3, 4, 5, 6, 7, 8, 9, 10, 11, 12, 13, 14, 15, 16, 17, 18, 21] rfl rfl (by decide) rfl (Nat.le_of_ble_eq_true rfl) dX10_answerMac_118 (fun u H locs hq hP hD hS => ?_)
    generalize u = gm1_118 at hq hP hD ⊢
    have hq : (qL gm1_118 (((((((0 + 1) + 3) + 1) + (cs sd - 4)) + 1) + n8) + 1) = qL gm1_105 ((((((0 + 1) + 3) + 1) + (cs sd - 4)) + 1) + n8) ++ [qlo (nI ((sw9 / 256) % 256))]) := hq
    have hL_118 := hq
    refine W.eq (g2 := F0 mm 121 ls []) rfl ?_
    have hP : va_P D vwCl [(a 0, aK ta 64 tIP), (a 1, aK ta 48 tSPR), (a 2, aK ta 32 tMIX), (a 3, aK ta 56 tCH), (a 4, aK ta 48 tSEC), (a 5, aK ta 512 tSBX), (a 10, aB ta 64 bi), (a 11, aB ta 64 tu), (a 12, aB ta 56 cd), (a 13, aB ta 768 sk), (a 14, aB ta 32 hf), (a 15, aB ta 48 wd), (a 24, aS ta 16 mac), (a 55, aS ta 16 gco), (a 41, aS ta 256 gke), (a 36, aK ta 2 ru), (a 50, aK ta 2 cs), (a 46, aS ta 16 gbc), (a 49, aS ta 408 gcm), (hd2, aS ta capd gd), (h0, oM a ar (((((((0 + 1) + 3) + 1) + (cs sd - 4)) + 1) + n8) + 1) tp osz lsz ns ct), (a 22, aS ta 700 gm1_118)] H := hP
    have hD : va_D A [(a 0, aK ta 64 tIP), (a 1, aK ta 48 tSPR), (a 2, aK ta 32 tMIX), (a 3, aK ta 56 tCH), (a 4, aK ta 48 tSEC), (a 5, aK ta 512 tSBX), (a 10, aB ta 64 bi), (a 11, aB ta 64 tu), (a 12, aB ta 56 cd), (a 13, aB ta 768 sk), (a 14, aB ta 32 hf), (a 15, aB ta 48 wd), (a 24, aS ta 16 mac), (a 55, aS ta 16 gco), (a 41, aS ta 256 gke), (a 36, aK ta 2 ru), (a 50, aK ta 2 cs), (a 46, aS ta 16 gbc), (a 49, aS ta 408 gcm), (hd2, aS ta capd gd), (h0, oM a ar (((((((0 + 1) + 3) + 1) + (cs sd - 4)) + 1) + n8) + 1) tp osz lsz ns ct), (a 22, aS ta 700 gm1_118)] := hD
    refine lv_aload_n (pc := 121) hx hb dX10_answerMac_121 rfl (lv_at hl 2 rfl) ?_
    refine lv_iload (pc := 122) hx hb dX10_answerMac_122 (lv_at hl 6 rfl) ?_
    refine lv_sipush (pc := 124) (v := nI 255) hx hb dX10_answerMac_124 (by decide +kernel) ?_
    refine lv_iand (pc := 127) hx hb dX10_answerMac_127 ?_
    refine q_top (y := nI (sw9 % 256)) (q_andN (k := 8) (p := 256) (by decide) (by omega)) ?_
    refine cs_V (pc := 128) (idx := 87) (n := 1) (wr := [(a 0, aK ta 64 tIP), (a 1, aK ta 48 tSPR), (a 2, aK ta 32 tMIX), (a 3, aK ta 56 tCH), (a 4, aK ta 48 tSEC), (a 5, aK ta 512 tSBX), (a 10, aB ta 64 bi), (a 11, aB ta 64 tu), (a 12, aB ta 56 cd), (a 13, aB ta 768 sk), (a 14, aB ta 32 hf), (a 15, aB ta 48 wd), (a 24, aS ta 16 mac), (a 55, aS ta 16 gco), (a 41, aS ta 256 gke), (a 36, aK ta 2 ru), (a 50, aK ta 2 cs), (a 46, aS ta 16 gbc), (a 49, aS ta 408 gcm), (hd2, aS ta capd gd)]) (As := [.int (nI (sw9 % 256))]) (rest := []) (ci := 8) hx hb hml hown hts hGok hK hA hG hl.1 hP hD hS (ct_X10_add ll D ta hGok h0 a ar (((((((0 + 1) + 3) + 1) + (cs sd - 4)) + 1) + n8) + 1) tp osz lsz ns ct gm1_118 (nI (sw9 % 256)) (by first | assumption | omega | rfl | decide) H.size) tw_1310 tw_1307 tw_1309 tw_37 tw_75 hdX10_add rfl ⟨rfl, rfl, Nat.le_of_ble_eq_true rfl, Nat.le_of_ble_eq_true rfl, Nat.le_of_ble_eq_true rfl, Nat.le_of_ble_eq_true rfl⟩ rfl rfl (q0 := 20) rfl [20, 21] [0, 1, 2, 3, 4, 5, 6, 7, 8, 9, 10, 11, 12, 13, 14, 15, 16, 17, 18, 19] rfl rfl (by decide) rfl (Nat.le_of_ble_eq_true rfl) dX10_answerMac_128 (fun u H locs hq hP hD hS => ?_)
    generalize u = gm1_128 at hq hP hD ⊢
    have hq : (qL gm1_128 ((((((((0 + 1) + 3) + 1) + (cs sd - 4)) + 1) + n8) + 1) + 1) = qL gm1_118 (((((((0 + 1) + 3) + 1) + (cs sd - 4)) + 1) + n8) + 1) ++ [qlo (nI (sw9 % 256))]) := hq
    have hL_128 := hq
    refine W.eq (g2 := F0 mm 131 ls []) rfl ?_
    have hP : va_P D vwCl [(a 0, aK ta 64 tIP), (a 1, aK ta 48 tSPR), (a 2, aK ta 32 tMIX), (a 3, aK ta 56 tCH), (a 4, aK ta 48 tSEC), (a 5, aK ta 512 tSBX), (a 10, aB ta 64 bi), (a 11, aB ta 64 tu), (a 12, aB ta 56 cd), (a 13, aB ta 768 sk), (a 14, aB ta 32 hf), (a 15, aB ta 48 wd), (a 24, aS ta 16 mac), (a 55, aS ta 16 gco), (a 41, aS ta 256 gke), (a 36, aK ta 2 ru), (a 50, aK ta 2 cs), (a 46, aS ta 16 gbc), (a 49, aS ta 408 gcm), (hd2, aS ta capd gd), (h0, oM a ar ((((((((0 + 1) + 3) + 1) + (cs sd - 4)) + 1) + n8) + 1) + 1) tp osz lsz ns ct), (a 22, aS ta 700 gm1_128)] H := hP
    have hD : va_D A [(a 0, aK ta 64 tIP), (a 1, aK ta 48 tSPR), (a 2, aK ta 32 tMIX), (a 3, aK ta 56 tCH), (a 4, aK ta 48 tSEC), (a 5, aK ta 512 tSBX), (a 10, aB ta 64 bi), (a 11, aB ta 64 tu), (a 12, aB ta 56 cd), (a 13, aB ta 768 sk), (a 14, aB ta 32 hf), (a 15, aB ta 48 wd), (a 24, aS ta 16 mac), (a 55, aS ta 16 gco), (a 41, aS ta 256 gke), (a 36, aK ta 2 ru), (a 50, aK ta 2 cs), (a 46, aS ta 16 gbc), (a 49, aS ta 408 gcm), (hd2, aS ta capd gd), (h0, oM a ar ((((((((0 + 1) + 3) + 1) + (cs sd - 4)) + 1) + n8) + 1) + 1) tp osz lsz ns ct), (a 22, aS ta 700 gm1_128)] := hD
    refine lv_aload_n (pc := 131) hx hb dX10_answerMac_131 rfl (lv_at hl 2 rfl) ?_
    refine va_get (pc := 132) (D := D) (ci := 8) (v := .ref (a 36)) (C := RX10) (T := TX10) (N := 57) hx hb hts iu10 hown hK hP 20 rfl rfl 36 (by decide) (hts _ tw_1081) (fun _ h9 => h9) rfl dX10_answerMac_132 ?_
    refine lv_iload_n (pc := 135) hx hb dX10_answerMac_135 rfl (lv_at hl 3 rfl) ?_
    refine q_iald (pc := 136) hx hb hK hP 15 0 rfl rfl (k := sd) (v := nI (ru sd)) rfl (by omega) (by omega) rfl dX10_answerMac_136 ?_
    refine lv_iconst (pc := 137) (v := nI 2) hx hb dX10_answerMac_137 (by decide +kernel) ?_
    refine lv_icmp_ne (pc := 138) (tgt := 168) hx hb dX10_answerMac_138 (by decide) (fun c_2 => ?_) (fun c_2 => ?_)
    · skip
      rw [nI_eq (by omega) (by omega)] at c_2
      exfalso; omega
    · skip
      rw [nI_eq (by omega) (by omega)] at c_2
      refine lv_aload_n (pc := 141) hx hb dX10_answerMac_141 rfl (lv_at hl 2 rfl) ?_
      refine lv_aload_n (pc := 142) hx hb dX10_answerMac_142 rfl (lv_at hl 2 rfl) ?_
      refine va_get (pc := 143) (D := D) (ci := 8) (v := .ref (a 41)) (C := RX10) (T := TX10) (N := 57) hx hb hts iu10 hown hK hP 20 rfl rfl 41 (by decide) (hts _ tw_1086) (fun _ h9 => h9) rfl dX10_answerMac_143 ?_
      refine lv_sipush (pc := 146) (v := nI 128) hx hb dX10_answerMac_146 (by decide +kernel) ?_
      refine lv_iload_n (pc := 149) hx hb dX10_answerMac_149 rfl (lv_at hl 3 rfl) ?_
      refine lv_imul (pc := 150) hx hb dX10_answerMac_150 ?_
      refine q_top (y := nI (128 * sd)) (pk_mul 128 sd) ?_
      refine lv_bipush (pc := 151) (v := nI 64) hx hb dX10_answerMac_151 (by decide +kernel) ?_
      refine lv_iadd (pc := 153) hx hb dX10_answerMac_153 ?_
      refine q_top (y := nI (128 * sd + 64)) (nI_add (128 * sd) 64) ?_
      refine lv_aload_n (pc := 154) hx hb dX10_answerMac_154 rfl (lv_at hl 2 rfl) ?_
      refine va_get (pc := 155) (D := D) (ci := 8) (v := .ref (a 46)) (C := RX10) (T := TX10) (N := 57) hx hb hts iu10 hown hK hP 20 rfl rfl 46 (by decide) (hts _ tw_1091) (fun _ h9 => h9) rfl dX10_answerMac_155 ?_
      refine lv_bipush (pc := 158) (v := nI 8) hx hb dX10_answerMac_158 (by decide +kernel) ?_
      refine lv_iload_n (pc := 160) hx hb dX10_answerMac_160 rfl (lv_at hl 3 rfl) ?_
      refine lv_imul (pc := 161) hx hb dX10_answerMac_161 ?_
      refine q_top (y := nI (8 * sd)) (pk_mul 8 sd) ?_
      refine cs_V (pc := 162) (idx := 332) (n := 4) (wr := [(a 55, aS ta 16 gco), (a 36, aK ta 2 ru), (a 50, aK ta 2 cs), (a 49, aS ta 408 gcm), (hd2, aS ta capd gd)]) (As := [.ref (a 41), .int (nI (128 * sd + 64)), .ref (a 46), .int (nI (8 * sd))]) (rest := []) (ci := 8) hx hb hml hown hts hGok hK hA hG hl.1 hP hD hS (ct_X10_retail ll D ta hGok h0 a ar ((((((((0 + 1) + 3) + 1) + (cs sd - 4)) + 1) + n8) + 1) + 1) tp osz lsz ns ct gm1_128 mac (a 41) (128 * sd + 64) 256 gke (a 46) (8 * sd) 16 gbc bi tu cd sk hf wd (by first | assumption | omega | rfl | decide) (by first | assumption | omega | rfl | decide) (by first | assumption | omega | rfl | decide) (by first | assumption | omega | rfl | decide) (by first | assumption | omega | rfl | decide) H.size) tw_1314 tw_1311 tw_1313 tw_38 tw_75 hdX10_retail rfl ⟨rfl, rfl, Nat.le_of_ble_eq_true rfl, Nat.le_of_ble_eq_true rfl, Nat.le_of_ble_eq_true rfl, Nat.le_of_ble_eq_true rfl⟩ rfl rfl (q0 := 20) rfl [20, 21, 12, 0, 1, 2, 3, 4, 5, 6, 7, 8, 9, 10, 11, 14, 17] [13, 15, 16, 18, 19] rfl rfl (by decide) rfl (Nat.le_of_ble_eq_true rfl) dX10_answerMac_162 (fun u H locs hq hP hD hS => ?_)
      obtain ⟨gm1_162, mn1_162, mac1_162, bi1_162, tu1_162, cd1_162, sk1_162, hf1_162, wd1_162⟩ := u
      have hq : (seg mac1_162 0 8 = retailL (seg gke (128 * sd + 64) 16) (seg gbc (8 * sd) 8) (qL gm1_128 ((((((((0 + 1) + 3) + 1) + (cs sd - 4)) + 1) + n8) + 1) + 1))) := hq
      have hL_162 := hq
      refine W.eq (g2 := F0 mm 165 ls []) rfl ?_
      have hP : va_P D vwCl [(a 55, aS ta 16 gco), (a 36, aK ta 2 ru), (a 50, aK ta 2 cs), (a 49, aS ta 408 gcm), (hd2, aS ta capd gd), (h0, oM a ar mn1_162 tp osz lsz ns ct), (a 22, aS ta 700 gm1_162), (a 24, aS ta 16 mac1_162), (a 0, aK ta 64 tIP), (a 1, aK ta 48 tSPR), (a 2, aK ta 32 tMIX), (a 3, aK ta 56 tCH), (a 4, aK ta 48 tSEC), (a 5, aK ta 512 tSBX), (a 10, aB ta 64 bi1_162), (a 11, aB ta 64 tu1_162), (a 12, aB ta 56 cd1_162), (a 13, aB ta 768 sk1_162), (a 14, aB ta 32 hf1_162), (a 15, aB ta 48 wd1_162), (a 41, aS ta 256 gke), (a 46, aS ta 16 gbc)] H := hP
      have hD : va_D A [(a 55, aS ta 16 gco), (a 36, aK ta 2 ru), (a 50, aK ta 2 cs), (a 49, aS ta 408 gcm), (hd2, aS ta capd gd), (h0, oM a ar mn1_162 tp osz lsz ns ct), (a 22, aS ta 700 gm1_162), (a 24, aS ta 16 mac1_162), (a 0, aK ta 64 tIP), (a 1, aK ta 48 tSPR), (a 2, aK ta 32 tMIX), (a 3, aK ta 56 tCH), (a 4, aK ta 48 tSEC), (a 5, aK ta 512 tSBX), (a 10, aB ta 64 bi1_162), (a 11, aB ta 64 tu1_162), (a 12, aB ta 56 cd1_162), (a 13, aB ta 768 sk1_162), (a 14, aB ta 32 hf1_162), (a 15, aB ta 48 wd1_162), (a 41, aS ta 256 gke), (a 46, aS ta 16 gbc)] := hD
      refine lv_goto (pc := 165) (tgt := 190) hx hb dX10_answerMac_165 (by decide) ?_
      refine lv_iconst (pc := 190) (v := nI 0) hx hb dX10_answerMac_190 (by decide +kernel) ?_
      refine lv_istore (pc := 191) (lv' := [(7, .int (nI 0)), (6, .int (nI (cs sd - 4))), (5, .int (nI (204 * sd))), (0, .ref h0), (1, .int (nI sd)), (2, .ref hd2), (3, .int (nI n8)), (4, .int (nI sw9))]) hx hb dX10_answerMac_191 hl (by decide) rfl (fun ls hl => ?_)
      have LP193 : ∀ (nn193 : Nat) (k : Nat) (g' : Nat → BitVec 8), (k ≤ 8) → (qSeg g' gco 0 k mac1_162) → (8 - k < nn193) → ∀ (H : Heap) (locs : List Loc), va_P D vwCl [(a 55, aS ta 16 g'), (a 36, aK ta 2 ru), (a 50, aK ta 2 cs), (a 49, aS ta 408 gcm), (hd2, aS ta capd gd), (h0, oM a ar mn1_162 tp osz lsz ns ct), (a 22, aS ta 700 gm1_162), (a 24, aS ta 16 mac1_162), (a 0, aK ta 64 tIP), (a 1, aK ta 48 tSPR), (a 2, aK ta 32 tMIX), (a 3, aK ta 56 tCH), (a 4, aK ta 48 tSEC), (a 5, aK ta 512 tSBX), (a 10, aB ta 64 bi1_162), (a 11, aB ta 64 tu1_162), (a 12, aB ta 56 cd1_162), (a 13, aB ta 768 sk1_162), (a 14, aB ta 32 hf1_162), (a 15, aB ta 48 wd1_162), (a 41, aS ta 256 gke), (a 46, aS ta 16 gbc)] H → va_D A [(a 55, aS ta 16 g'), (a 36, aK ta 2 ru), (a 50, aK ta 2 cs), (a 49, aS ta 408 gcm), (hd2, aS ta capd gd), (h0, oM a ar mn1_162 tp osz lsz ns ct), (a 22, aS ta 700 gm1_162), (a 24, aS ta 16 mac1_162), (a 0, aK ta 64 tIP), (a 1, aK ta 48 tSPR), (a 2, aK ta 32 tMIX), (a 3, aK ta 56 tCH), (a 4, aK ta 48 tSEC), (a 5, aK ta 512 tSBX), (a 10, aB ta 64 bi1_162), (a 11, aB ta 64 tu1_162), (a 12, aB ta 56 cd1_162), (a 13, aB ta 768 sk1_162), (a 14, aB ta 32 hf1_162), (a 15, aB ta 48 wd1_162), (a 41, aS ta 256 gke), (a 46, aS ta 16 gbc)] → va_S A ss.heap H locs → ∀ ls : Array Slot, lv_has ls 8 [(7, .int (nI k)), (6, .int (nI (cs sd - 4))), (5, .int (nI (204 * sd))), (0, .ref h0), (1, .int (nI sd)), (2, .ref hd2), (3, .int (nI n8)), (4, .int (nI sw9))] → W pp ll ee ({ frames := 5, cells := 0, slots := 0, locals := 124 } : Room) ss mm (([.ref h0, .int (nI sd), .ref hd2, .int (nI n8), .int (nI sw9)] : List Value).toArray) below meth kc H locs 0 0 Q (F0 mm 193 ls []) := by
        intro nn193
        induction nn193 with
        | zero => intro k g' hkk hs hmu; exact absurd hmu (Nat.not_lt_zero _)
        | succ nn193 ih193 =>
          intro k g' hkk hs hmu193 H locs hP hD hS ls hl
          refine lv_iload (pc := 193) hx hb dX10_answerMac_193 (lv_at hl 0 rfl) ?_
          refine lv_bipush (pc := 195) (v := nI 8) hx hb dX10_answerMac_195 (by decide +kernel) ?_
          refine lv_icmp_ge (pc := 197) (tgt := 220) hx hb dX10_answerMac_197 (by decide) (fun c_3 => ?_) (fun c_3 => ?_)
          · skip
            rw [nI_leI (by omega) (by omega)] at c_3
            have hq_4 : (seg g' 0 8 = ansCode2 (seg gke (128 * sd + 64) 16) (seg gbc (8 * sd) 8) (seg gcm (204 * sd) (cs sd)) (qL gd n8) sw9) := by
              obtain ⟨e1, e2, e3⟩ := ansC_seg (g := gcm) (o := 204 * sd) (m := cs sd) (by omega)
              have hT : qL gm1_128 (0 + 1 + 3 + 1 + (cs sd - 4) + 1 + n8 + 1 + 1) = ansText2 (seg gcm (204 * sd) (cs sd)) (qL gd n8) sw9 := by
                rw [hL_128, hL_118, hL_105, hL_81, hL_76, hL_62, hL_56, hL_43, qL_0, List.nil_append, qlo_nI, qlo_nI, qlo_m8S, ansText2, e1, e2, e3, ← sw_2 hsw, seg_0, seg_len, qL_len]
                simp only [List.append_assoc]
              rw [seg_copy0 hs (by omega), ansCode2, ← hT, seg_take (by decide), ← hL_162, seg_0]
            exact hret (⟨(bi1_162), (tu1_162), (cd1_162), (sk1_162), (hf1_162), (wd1_162), (gm1_162), (mac1_162), (g'), (mn1_162)⟩ : (Nat → Bool) × (Nat → Bool) × (Nat → Bool) × (Nat → Bool) × (Nat → Bool) × (Nat → Bool) × (Nat → BitVec 8) × (Nat → BitVec 8) × (Nat → BitVec 8) × Nat) _ _ _ _ dX10_answerMac_220 hq_4 (hP.sub [5, 8, 9, 10, 11, 12, 13, 14, 15, 16, 17, 18, 19, 6, 7, 0, 20, 1, 2, 3, 21, 4] rfl) (hD.sub [5, 8, 9, 10, 11, 12, 13, 14, 15, 16, 17, 18, 19, 6, 7, 0, 20, 1, 2, 3, 21, 4] (by decide) rfl) hS
          · skip
            rw [nI_leI (by omega) (by omega)] at c_3
            refine lv_aload_n (pc := 200) hx hb dX10_answerMac_200 rfl (lv_at hl 3 rfl) ?_
            refine va_get (pc := 201) (D := D) (ci := 8) (v := .ref (a 55)) (C := RX10) (T := TX10) (N := 57) hx hb hts iu10 hown hK hP 5 rfl rfl 55 (by decide) (hts _ tw_1100) (fun _ h9 => h9) rfl dX10_answerMac_201 ?_
            refine lv_iload (pc := 204) hx hb dX10_answerMac_204 (lv_at hl 0 rfl) ?_
            refine lv_aload_n (pc := 206) hx hb dX10_answerMac_206 rfl (lv_at hl 3 rfl) ?_
            refine va_get (pc := 207) (D := D) (ci := 8) (v := .ref (a 24)) (C := RX10) (T := TX10) (N := 57) hx hb hts iu10 hown hK hP 5 rfl rfl 24 (by decide) (hts _ tw_1069) (fun _ h9 => h9) rfl dX10_answerMac_207 ?_
            refine lv_iload (pc := 210) hx hb dX10_answerMac_210 (lv_at hl 0 rfl) ?_
            refine q_bald (pc := 212) hx hb hK hP 7 2 rfl rfl (k := k) (v := qs (mac1_162 k)) rfl (by omega) (by omega) rfl dX10_answerMac_212 ?_
            refine q_bastS (pc := 213) hx hb hK hP hD hS 0 2 rfl rfl (k := k) rfl (by omega) (by omega) (b := mac1_162 k) (qlo_qs _) dX10_answerMac_213 (fun H locs hP hD hS => ?_)
            have hP : va_P D vwCl [(a 55, aS ta 16 (qU g' k (mac1_162 k))), (a 36, aK ta 2 ru), (a 50, aK ta 2 cs), (a 49, aS ta 408 gcm), (hd2, aS ta capd gd), (h0, oM a ar mn1_162 tp osz lsz ns ct), (a 22, aS ta 700 gm1_162), (a 24, aS ta 16 mac1_162), (a 0, aK ta 64 tIP), (a 1, aK ta 48 tSPR), (a 2, aK ta 32 tMIX), (a 3, aK ta 56 tCH), (a 4, aK ta 48 tSEC), (a 5, aK ta 512 tSBX), (a 10, aB ta 64 bi1_162), (a 11, aB ta 64 tu1_162), (a 12, aB ta 56 cd1_162), (a 13, aB ta 768 sk1_162), (a 14, aB ta 32 hf1_162), (a 15, aB ta 48 wd1_162), (a 41, aS ta 256 gke), (a 46, aS ta 16 gbc)] H := hP
            have hD : va_D A [(a 55, aS ta 16 (qU g' k (mac1_162 k))), (a 36, aK ta 2 ru), (a 50, aK ta 2 cs), (a 49, aS ta 408 gcm), (hd2, aS ta capd gd), (h0, oM a ar mn1_162 tp osz lsz ns ct), (a 22, aS ta 700 gm1_162), (a 24, aS ta 16 mac1_162), (a 0, aK ta 64 tIP), (a 1, aK ta 48 tSPR), (a 2, aK ta 32 tMIX), (a 3, aK ta 56 tCH), (a 4, aK ta 48 tSEC), (a 5, aK ta 512 tSBX), (a 10, aB ta 64 bi1_162), (a 11, aB ta 64 tu1_162), (a 12, aB ta 56 cd1_162), (a 13, aB ta 768 sk1_162), (a 14, aB ta 32 hf1_162), (a 15, aB ta 48 wd1_162), (a 41, aS ta 256 gke), (a 46, aS ta 16 gbc)] := hD
            refine lv_iinc (pc := 214) (v := nI (k + 1)) (lv' := [(7, .int (nI (k + 1))), (6, .int (nI (cs sd - 4))), (5, .int (nI (204 * sd))), (0, .ref h0), (1, .int (nI sd)), (2, .ref hd2), (3, .int (nI n8)), (4, .int (nI sw9))]) hx hb dX10_answerMac_214 hl (k := 0) rfl (by first | exact nI_add k 1 | rfl) (by decide) rfl (fun ls hl => ?_)
            refine lv_goto (pc := 217) (tgt := 193) hx hb dX10_answerMac_217 (by decide) ?_
            exact ih193 (k + 1) (qU g' k (mac1_162 k)) (by omega) (qSeg_s hs (by omega) (by first | rfl | (simp; done))) (by omega) _ _ (hP.sub [0, 1, 2, 3, 4, 5, 6, 7, 8, 9, 10, 11, 12, 13, 14, 15, 16, 17, 18, 19, 20, 21] rfl) (hD.sub [0, 1, 2, 3, 4, 5, 6, 7, 8, 9, 10, 11, 12, 13, 14, 15, 16, 17, 18, 19, 20, 21] (by decide) rfl) hS ls (lv_sub hl [0, 1, 2, 3, 4, 5, 6, 7] rfl)
      exact LP193 _ 0 gco (by omega) (qSeg_0) (Nat.lt_succ_self _) _ _ (hP.sub [0, 1, 2, 3, 4, 5, 6, 7, 8, 9, 10, 11, 12, 13, 14, 15, 16, 17, 18, 19, 20, 21] rfl) (hD.sub [0, 1, 2, 3, 4, 5, 6, 7, 8, 9, 10, 11, 12, 13, 14, 15, 16, 17, 18, 19, 20, 21] (by decide) rfl) hS ls (lv_sub hl [0, 1, 2, 3, 4, 5, 6, 7] rfl)
set_option maxHeartbeats 4000000 in
set_option maxRecDepth 100000 in
theorem ct_X10_answerMac_3 (ll : Launch) (D : va_G) (ta : Nat → ClassId) {G : (Nat → Prop) → State → Heap → Prop} (hGok : GOK G) (h0 : Nat) (a : Nat → Nat) (ar : Nat) (mn : Nat) (tp : Nat) (osz : Nat) (lsz : Nat) (ns : Nat) (ct : Nat) (rk : Nat → BitVec 8) (ce : Nat → BitVec 8) (gm : Nat → BitVec 8) (mac : Nat → BitVec 8) (k1 : Nat → BitVec 8) (gco : Nat → BitVec 8) (gke : Nat → BitVec 8) (gch : Nat → BitVec 8) (ru : Nat → Nat) (le : Nat → Nat) (cs : Nat → Nat) (sd : Nat) (hd2 : Nat) (capd : Nat) (gd : Nat → BitVec 8) (n8 : Nat) (sw9 : Nat) (hsd : sd ≤ 1) (hru : ru sd = 3) (hcs : 4 ≤ cs sd ∧ cs sd ≤ 204) (hn8 : n8 ≤ 300 ∧ n8 ≤ capd ∧ capd < 2147483648) (hsw : sw9 < 65536) (hle : le sd = 16 ∨ le sd = 24 ∨ le sd = 32) (sz : Nat) : CT ll yX10_answerMac cX10_answerMac 8 none ({ frames := 5, cells := 0, slots := 0, locals := 124 } : Room) D ta G [.ref h0, .int (nI sd), .ref hd2, .int (nI n8), .int (nI sw9)] [(h0, oM a ar mn tp osz lsz ns ct), (a 8, aZ ta 256 BOX), (a 9, aZ ta 256 UBOX), (a 16, aS ta 240 rk), (a 18, aS ta 16 ce), (a 22, aS ta 700 gm), (a 24, aS ta 16 mac), (a 25, aS ta 16 k1), (a 55, aS ta 16 gco), (a 41, aS ta 256 gke), (a 36, aK ta 2 ru), (a 50, aK ta 2 cs), (a 37, aK ta 2 le), (a 45, aS ta 32 gch), (hd2, aS ta capd gd)] sz (S := (Nat → BitVec 8) × (Nat → BitVec 8) × (Nat → BitVec 8) × (Nat → BitVec 8) × (Nat → BitVec 8) × (Nat → BitVec 8) × Nat × Nat) (fun _ => none) (fun u => (seg u.2.2.2.2.2.1 0 8 = (ansCode3 (seg gke (128 * sd + 64) (le sd)) (seg gch (16 * sd) 16) (qL gd n8) sw9).take 8)) (fun u => [(h0, oM a u.2.2.2.2.2.2.2 u.2.2.2.2.2.2.1 tp osz lsz ns ct), (a 8, aZ ta 256 BOX), (a 9, aZ ta 256 UBOX), (a 16, aS ta 240 u.1), (a 18, aS ta 16 u.2.1), (a 22, aS ta 700 u.2.2.1), (a 24, aS ta 16 u.2.2.2.1), (a 25, aS ta 16 u.2.2.2.2.1), (a 55, aS ta 16 u.2.2.2.2.2.1), (a 41, aS ta 256 gke), (a 36, aK ta 2 ru), (a 50, aK ta 2 cs), (a 37, aK ta 2 le), (a 45, aS ta 32 gch), (hd2, aS ta capd gd)]) 0 0 := by
  refine CT.of_v rfl (by decide) (Nat.le_of_ble_eq_true rfl) ?_
  intro pp ee ss mm below meth kc A Q hx hb hml hown hin hts hK hA hsz hG hret H locs hP hD hS ls hl
  have hl : lv_has ls 8 [(0, .ref h0), (1, .int (nI sd)), (2, .ref hd2), (3, .int (nI n8)), (4, .int (nI sw9))] := hl
  refine lv_aload_n (pc := 0) hx hb dX10_answerMac_0 rfl (lv_at hl 0 rfl) ?_
  refine cs_V (pc := 1) (idx := 114) (n := 0) (wr := [(a 8, aZ ta 256 BOX), (a 9, aZ ta 256 UBOX), (a 16, aS ta 240 rk), (a 18, aS ta 16 ce), (a 22, aS ta 700 gm), (a 24, aS ta 16 mac), (a 25, aS ta 16 k1), (a 55, aS ta 16 gco), (a 41, aS ta 256 gke), (a 36, aK ta 2 ru), (a 50, aK ta 2 cs), (a 37, aK ta 2 le), (a 45, aS ta 32 gch), (hd2, aS ta capd gd)]) (As := []) (rest := []) (ci := 8) hx hb hml hown hts hGok hK hA hG hl.1 hP hD hS (ct_X10_fresh ll D ta hGok h0 a ar mn tp osz lsz ns ct  H.size) tw_1302 tw_1299 tw_1301 tw_35 tw_75 hdX10_fresh rfl ⟨rfl, rfl, Nat.le_of_ble_eq_true rfl, Nat.le_of_ble_eq_true rfl, Nat.le_of_ble_eq_true rfl, Nat.le_of_ble_eq_true rfl⟩ rfl rfl (q0 := 0) rfl [0] [1, 2, 3, 4, 5, 6, 7, 8, 9, 10, 11, 12, 13, 14] rfl rfl (by decide) rfl (Nat.le_of_ble_eq_true rfl) dX10_answerMac_1 (fun u H locs hq hP hD hS => ?_)
  refine W.eq (g2 := F0 mm 4 ls []) rfl ?_
  have hP : va_P D vwCl [(a 8, aZ ta 256 BOX), (a 9, aZ ta 256 UBOX), (a 16, aS ta 240 rk), (a 18, aS ta 16 ce), (a 22, aS ta 700 gm), (a 24, aS ta 16 mac), (a 25, aS ta 16 k1), (a 55, aS ta 16 gco), (a 41, aS ta 256 gke), (a 36, aK ta 2 ru), (a 50, aK ta 2 cs), (a 37, aK ta 2 le), (a 45, aS ta 32 gch), (hd2, aS ta capd gd), (h0, oM a ar 0 tp osz lsz ns ct)] H := hP
  have hD : va_D A [(a 8, aZ ta 256 BOX), (a 9, aZ ta 256 UBOX), (a 16, aS ta 240 rk), (a 18, aS ta 16 ce), (a 22, aS ta 700 gm), (a 24, aS ta 16 mac), (a 25, aS ta 16 k1), (a 55, aS ta 16 gco), (a 41, aS ta 256 gke), (a 36, aK ta 2 ru), (a 50, aK ta 2 cs), (a 37, aK ta 2 le), (a 45, aS ta 32 gch), (hd2, aS ta capd gd), (h0, oM a ar 0 tp osz lsz ns ct)] := hD
  refine lv_sipush (pc := 4) (v := nI 204) hx hb dX10_answerMac_4 (by decide +kernel) ?_
  refine lv_iload_n (pc := 7) hx hb dX10_answerMac_7 rfl (lv_at hl 1 rfl) ?_
  refine lv_imul (pc := 8) hx hb dX10_answerMac_8 ?_
  refine q_top (y := nI (204 * sd)) (pk_mul 204 sd) ?_
  refine lv_istore (pc := 9) (lv' := [(5, .int (nI (204 * sd))), (0, .ref h0), (1, .int (nI sd)), (2, .ref hd2), (3, .int (nI n8)), (4, .int (nI sw9))]) hx hb dX10_answerMac_9 hl (by decide) rfl (fun ls hl => ?_)
  refine lv_aload_n (pc := 11) hx hb dX10_answerMac_11 rfl (lv_at hl 1 rfl) ?_
  refine va_get (pc := 12) (D := D) (ci := 8) (v := .ref (a 50)) (C := RX10) (T := TX10) (N := 57) hx hb hts iu10 hown hK hP 14 rfl rfl 50 (by decide) (hts _ tw_1095) (fun _ h9 => h9) rfl dX10_answerMac_12 ?_
  refine lv_iload_n (pc := 15) hx hb dX10_answerMac_15 rfl (lv_at hl 2 rfl) ?_
  refine q_iald (pc := 16) hx hb hK hP 10 0 rfl rfl (k := sd) (v := nI (cs sd)) rfl (by omega) (by omega) rfl dX10_answerMac_16 ?_
  refine lv_iconst (pc := 17) (v := nI 4) hx hb dX10_answerMac_17 (by decide +kernel) ?_
  refine lv_isub (pc := 18) hx hb dX10_answerMac_18 ?_
  refine q_top (y := nI (cs sd - 4)) (pk_sub (a := cs sd) (b := 4) (by omega)) ?_
  refine lv_istore (pc := 19) (lv' := [(6, .int (nI (cs sd - 4))), (5, .int (nI (204 * sd))), (0, .ref h0), (1, .int (nI sd)), (2, .ref hd2), (3, .int (nI n8)), (4, .int (nI sw9))]) hx hb dX10_answerMac_19 hl (by decide) rfl (fun ls hl => ?_)
  refine lv_aload_n (pc := 21) hx hb dX10_answerMac_21 rfl (lv_at hl 2 rfl) ?_
  refine va_get (pc := 22) (D := D) (ci := 8) (v := .ref (a 36)) (C := RX10) (T := TX10) (N := 57) hx hb hts iu10 hown hK hP 14 rfl rfl 36 (by decide) (hts _ tw_1081) (fun _ h9 => h9) rfl dX10_answerMac_22 ?_
  refine lv_iload_n (pc := 25) hx hb dX10_answerMac_25 rfl (lv_at hl 3 rfl) ?_
  refine q_iald (pc := 26) hx hb hK hP 9 0 rfl rfl (k := sd) (v := nI (ru sd)) rfl (by omega) (by omega) rfl dX10_answerMac_26 ?_
  refine lv_iconst (pc := 27) (v := nI 2) hx hb dX10_answerMac_27 (by decide +kernel) ?_
  refine lv_icmp_ne (pc := 28) (tgt := 87) hx hb dX10_answerMac_28 (by decide) (fun c_1 => ?_) (fun c_1 => ?_)
  · skip
    rw [nI_eq (by omega) (by omega)] at c_1
    refine lv_aload_n (pc := 87) hx hb dX10_answerMac_87 rfl (lv_at hl 2 rfl) ?_
    refine lv_aload_n (pc := 88) hx hb dX10_answerMac_88 rfl (lv_at hl 2 rfl) ?_
    refine va_get (pc := 89) (D := D) (ci := 8) (v := .ref (a 45)) (C := RX10) (T := TX10) (N := 57) hx hb hts iu10 hown hK hP 14 rfl rfl 45 (by decide) (hts _ tw_1090) (fun _ h9 => h9) rfl dX10_answerMac_89 ?_
    refine lv_bipush (pc := 92) (v := nI 16) hx hb dX10_answerMac_92 (by decide +kernel) ?_
    refine lv_iload_n (pc := 94) hx hb dX10_answerMac_94 rfl (lv_at hl 3 rfl) ?_
    refine lv_imul (pc := 95) hx hb dX10_answerMac_95 ?_
    refine q_top (y := nI (16 * sd)) (pk_mul 16 sd) ?_
    refine lv_bipush (pc := 96) (v := nI 16) hx hb dX10_answerMac_96 (by decide +kernel) ?_
    refine cs_V (pc := 98) (idx := 121) (n := 3) (wr := [(a 8, aZ ta 256 BOX), (a 9, aZ ta 256 UBOX), (a 16, aS ta 240 rk), (a 18, aS ta 16 ce), (a 24, aS ta 16 mac), (a 25, aS ta 16 k1), (a 55, aS ta 16 gco), (a 41, aS ta 256 gke), (a 36, aK ta 2 ru), (a 50, aK ta 2 cs), (a 37, aK ta 2 le), (hd2, aS ta capd gd)]) (As := [.ref (a 45), .int (nI (16 * sd)), .int (nI 16)]) (rest := []) (ci := 8) hx hb hml hown hts hGok hK hA hG hl.1 hP hD hS (ct_X10_addAll ll D ta hGok h0 a ar 0 tp osz lsz ns ct gm (a 45) (16 * sd) 32 gch 16 (by first | assumption | omega | rfl | decide) (by first | assumption | omega | rfl | decide) (by first | assumption | omega | rfl | decide) H.size) tw_1306 tw_1303 tw_1305 tw_36 tw_75 hdX10_addAll rfl ⟨rfl, rfl, Nat.le_of_ble_eq_true rfl, Nat.le_of_ble_eq_true rfl, Nat.le_of_ble_eq_true rfl, Nat.le_of_ble_eq_true rfl⟩ rfl rfl (q0 := 14) rfl [14, 4, 12] [0, 1, 2, 3, 5, 6, 7, 8, 9, 10, 11, 13] rfl rfl (by decide) rfl (Nat.le_of_ble_eq_true rfl) dX10_answerMac_98 (fun u H locs hq hP hD hS => ?_)
    generalize u = gm1_98 at hq hP hD ⊢
    have hq : (qL gm1_98 (0 + 16) = qL gm 0 ++ seg gch (16 * sd) 16) := hq
    have hL_98 := hq
    refine W.eq (g2 := F0 mm 101 ls []) rfl ?_
    have hP : va_P D vwCl [(a 8, aZ ta 256 BOX), (a 9, aZ ta 256 UBOX), (a 16, aS ta 240 rk), (a 18, aS ta 16 ce), (a 24, aS ta 16 mac), (a 25, aS ta 16 k1), (a 55, aS ta 16 gco), (a 41, aS ta 256 gke), (a 36, aK ta 2 ru), (a 50, aK ta 2 cs), (a 37, aK ta 2 le), (hd2, aS ta capd gd), (h0, oM a ar (0 + 16) tp osz lsz ns ct), (a 22, aS ta 700 gm1_98), (a 45, aS ta 32 gch)] H := hP
    have hD : va_D A [(a 8, aZ ta 256 BOX), (a 9, aZ ta 256 UBOX), (a 16, aS ta 240 rk), (a 18, aS ta 16 ce), (a 24, aS ta 16 mac), (a 25, aS ta 16 k1), (a 55, aS ta 16 gco), (a 41, aS ta 256 gke), (a 36, aK ta 2 ru), (a 50, aK ta 2 cs), (a 37, aK ta 2 le), (hd2, aS ta capd gd), (h0, oM a ar (0 + 16) tp osz lsz ns ct), (a 22, aS ta 700 gm1_98), (a 45, aS ta 32 gch)] := hD
    refine lv_aload_n (pc := 101) hx hb dX10_answerMac_101 rfl (lv_at hl 2 rfl) ?_
    refine lv_aload_n (pc := 102) hx hb dX10_answerMac_102 rfl (lv_at hl 4 rfl) ?_
    refine lv_iconst (pc := 103) (v := nI 0) hx hb dX10_answerMac_103 (by decide +kernel) ?_
    refine lv_iload_n (pc := 104) hx hb dX10_answerMac_104 rfl (lv_at hl 5 rfl) ?_
    refine cs_V (pc := 105) (idx := 121) (n := 3) (wr := [(a 8, aZ ta 256 BOX), (a 9, aZ ta 256 UBOX), (a 16, aS ta 240 rk), (a 18, aS ta 16 ce), (a 24, aS ta 16 mac), (a 25, aS ta 16 k1), (a 55, aS ta 16 gco), (a 41, aS ta 256 gke), (a 36, aK ta 2 ru), (a 50, aK ta 2 cs), (a 37, aK ta 2 le), (a 45, aS ta 32 gch)]) (As := [.ref hd2, .int (nI 0), .int (nI n8)]) (rest := []) (ci := 8) hx hb hml hown hts hGok hK hA hG hl.1 hP hD hS (ct_X10_addAll ll D ta hGok h0 a ar (0 + 16) tp osz lsz ns ct gm1_98 hd2 0 capd gd n8 (by first | assumption | omega | rfl | decide) (by first | assumption | omega | rfl | decide) (by first | assumption | omega | rfl | decide) H.size) tw_1306 tw_1303 tw_1305 tw_36 tw_75 hdX10_addAll rfl ⟨rfl, rfl, Nat.le_of_ble_eq_true rfl, Nat.le_of_ble_eq_true rfl, Nat.le_of_ble_eq_true rfl, Nat.le_of_ble_eq_true rfl⟩ rfl rfl (q0 := 12) rfl [12, 13, 11] [0, 1, 2, 3, 4, 5, 6, 7, 8, 9, 10, 14] rfl rfl (by decide) rfl (Nat.le_of_ble_eq_true rfl) dX10_answerMac_105 (fun u H locs hq hP hD hS => ?_)
    generalize u = gm1_105 at hq hP hD ⊢
    have hq : (qL gm1_105 ((0 + 16) + n8) = qL gm1_98 (0 + 16) ++ seg gd 0 n8) := hq
    have hL_105 := hq
    refine W.eq (g2 := F0 mm 108 ls []) rfl ?_
    have hP : va_P D vwCl [(a 8, aZ ta 256 BOX), (a 9, aZ ta 256 UBOX), (a 16, aS ta 240 rk), (a 18, aS ta 16 ce), (a 24, aS ta 16 mac), (a 25, aS ta 16 k1), (a 55, aS ta 16 gco), (a 41, aS ta 256 gke), (a 36, aK ta 2 ru), (a 50, aK ta 2 cs), (a 37, aK ta 2 le), (a 45, aS ta 32 gch), (h0, oM a ar ((0 + 16) + n8) tp osz lsz ns ct), (a 22, aS ta 700 gm1_105), (hd2, aS ta capd gd)] H := hP
    have hD : va_D A [(a 8, aZ ta 256 BOX), (a 9, aZ ta 256 UBOX), (a 16, aS ta 240 rk), (a 18, aS ta 16 ce), (a 24, aS ta 16 mac), (a 25, aS ta 16 k1), (a 55, aS ta 16 gco), (a 41, aS ta 256 gke), (a 36, aK ta 2 ru), (a 50, aK ta 2 cs), (a 37, aK ta 2 le), (a 45, aS ta 32 gch), (h0, oM a ar ((0 + 16) + n8) tp osz lsz ns ct), (a 22, aS ta 700 gm1_105), (hd2, aS ta capd gd)] := hD
    refine lv_aload_n (pc := 108) hx hb dX10_answerMac_108 rfl (lv_at hl 2 rfl) ?_
    refine lv_iload (pc := 109) hx hb dX10_answerMac_109 (lv_at hl 6 rfl) ?_
    refine lv_bipush (pc := 111) (v := nI 8) hx hb dX10_answerMac_111 (by decide +kernel) ?_
    refine lv_ishr (pc := 113) hx hb dX10_answerMac_113 ?_
    refine q_top (y := nI (sw9 / 256)) (q_shr (p := 256) (by decide) (by omega)) ?_
    refine lv_sipush (pc := 114) (v := nI 255) hx hb dX10_answerMac_114 (by decide +kernel) ?_
    refine lv_iand (pc := 117) hx hb dX10_answerMac_117 ?_
    refine q_top (y := nI ((sw9 / 256) % 256)) (q_andN (k := 8) (p := 256) (by decide) (by omega)) ?_
    refine cs_V (pc := 118) (idx := 87) (n := 1) (wr := [(a 8, aZ ta 256 BOX), (a 9, aZ ta 256 UBOX), (a 16, aS ta 240 rk), (a 18, aS ta 16 ce), (a 24, aS ta 16 mac), (a 25, aS ta 16 k1), (a 55, aS ta 16 gco), (a 41, aS ta 256 gke), (a 36, aK ta 2 ru), (a 50, aK ta 2 cs), (a 37, aK ta 2 le), (a 45, aS ta 32 gch), (hd2, aS ta capd gd)]) (As := [.int (nI ((sw9 / 256) % 256))]) (rest := []) (ci := 8) hx hb hml hown hts hGok hK hA hG hl.1 hP hD hS (ct_X10_add ll D ta hGok h0 a ar ((0 + 16) + n8) tp osz lsz ns ct gm1_105 (nI ((sw9 / 256) % 256)) (by first | assumption | omega | rfl | decide) H.size) tw_1310 tw_1307 tw_1309 tw_37 tw_75 hdX10_add rfl ⟨rfl, rfl, Nat.le_of_ble_eq_true rfl, Nat.le_of_ble_eq_true rfl, Nat.le_of_ble_eq_true rfl, Nat.le_of_ble_eq_true rfl⟩ rfl rfl (q0 := 12) rfl [12, 13] [0, 1, 2, 3, 4, 5, 6, 7, 8, 9, 10, 11, 14] rfl rfl (by decide) rfl (Nat.le_of_ble_eq_true rfl) dX10_answerMac_118 (fun u H locs hq hP hD hS => ?_)
    generalize u = gm1_118 at hq hP hD ⊢
    have hq : (qL gm1_118 (((0 + 16) + n8) + 1) = qL gm1_105 ((0 + 16) + n8) ++ [qlo (nI ((sw9 / 256) % 256))]) := hq
    have hL_118 := hq
    refine W.eq (g2 := F0 mm 121 ls []) rfl ?_
    have hP : va_P D vwCl [(a 8, aZ ta 256 BOX), (a 9, aZ ta 256 UBOX), (a 16, aS ta 240 rk), (a 18, aS ta 16 ce), (a 24, aS ta 16 mac), (a 25, aS ta 16 k1), (a 55, aS ta 16 gco), (a 41, aS ta 256 gke), (a 36, aK ta 2 ru), (a 50, aK ta 2 cs), (a 37, aK ta 2 le), (a 45, aS ta 32 gch), (hd2, aS ta capd gd), (h0, oM a ar (((0 + 16) + n8) + 1) tp osz lsz ns ct), (a 22, aS ta 700 gm1_118)] H := hP
    have hD : va_D A [(a 8, aZ ta 256 BOX), (a 9, aZ ta 256 UBOX), (a 16, aS ta 240 rk), (a 18, aS ta 16 ce), (a 24, aS ta 16 mac), (a 25, aS ta 16 k1), (a 55, aS ta 16 gco), (a 41, aS ta 256 gke), (a 36, aK ta 2 ru), (a 50, aK ta 2 cs), (a 37, aK ta 2 le), (a 45, aS ta 32 gch), (hd2, aS ta capd gd), (h0, oM a ar (((0 + 16) + n8) + 1) tp osz lsz ns ct), (a 22, aS ta 700 gm1_118)] := hD
    refine lv_aload_n (pc := 121) hx hb dX10_answerMac_121 rfl (lv_at hl 2 rfl) ?_
    refine lv_iload (pc := 122) hx hb dX10_answerMac_122 (lv_at hl 6 rfl) ?_
    refine lv_sipush (pc := 124) (v := nI 255) hx hb dX10_answerMac_124 (by decide +kernel) ?_
    refine lv_iand (pc := 127) hx hb dX10_answerMac_127 ?_
    refine q_top (y := nI (sw9 % 256)) (q_andN (k := 8) (p := 256) (by decide) (by omega)) ?_
    refine cs_V (pc := 128) (idx := 87) (n := 1) (wr := [(a 8, aZ ta 256 BOX), (a 9, aZ ta 256 UBOX), (a 16, aS ta 240 rk), (a 18, aS ta 16 ce), (a 24, aS ta 16 mac), (a 25, aS ta 16 k1), (a 55, aS ta 16 gco), (a 41, aS ta 256 gke), (a 36, aK ta 2 ru), (a 50, aK ta 2 cs), (a 37, aK ta 2 le), (a 45, aS ta 32 gch), (hd2, aS ta capd gd)]) (As := [.int (nI (sw9 % 256))]) (rest := []) (ci := 8) hx hb hml hown hts hGok hK hA hG hl.1 hP hD hS (ct_X10_add ll D ta hGok h0 a ar (((0 + 16) + n8) + 1) tp osz lsz ns ct gm1_118 (nI (sw9 % 256)) (by first | assumption | omega | rfl | decide) H.size) tw_1310 tw_1307 tw_1309 tw_37 tw_75 hdX10_add rfl ⟨rfl, rfl, Nat.le_of_ble_eq_true rfl, Nat.le_of_ble_eq_true rfl, Nat.le_of_ble_eq_true rfl, Nat.le_of_ble_eq_true rfl⟩ rfl rfl (q0 := 13) rfl [13, 14] [0, 1, 2, 3, 4, 5, 6, 7, 8, 9, 10, 11, 12] rfl rfl (by decide) rfl (Nat.le_of_ble_eq_true rfl) dX10_answerMac_128 (fun u H locs hq hP hD hS => ?_)
    generalize u = gm1_128 at hq hP hD ⊢
    have hq : (qL gm1_128 ((((0 + 16) + n8) + 1) + 1) = qL gm1_118 (((0 + 16) + n8) + 1) ++ [qlo (nI (sw9 % 256))]) := hq
    have hL_128 := hq
    refine W.eq (g2 := F0 mm 131 ls []) rfl ?_
    have hP : va_P D vwCl [(a 8, aZ ta 256 BOX), (a 9, aZ ta 256 UBOX), (a 16, aS ta 240 rk), (a 18, aS ta 16 ce), (a 24, aS ta 16 mac), (a 25, aS ta 16 k1), (a 55, aS ta 16 gco), (a 41, aS ta 256 gke), (a 36, aK ta 2 ru), (a 50, aK ta 2 cs), (a 37, aK ta 2 le), (a 45, aS ta 32 gch), (hd2, aS ta capd gd), (h0, oM a ar ((((0 + 16) + n8) + 1) + 1) tp osz lsz ns ct), (a 22, aS ta 700 gm1_128)] H := hP
    have hD : va_D A [(a 8, aZ ta 256 BOX), (a 9, aZ ta 256 UBOX), (a 16, aS ta 240 rk), (a 18, aS ta 16 ce), (a 24, aS ta 16 mac), (a 25, aS ta 16 k1), (a 55, aS ta 16 gco), (a 41, aS ta 256 gke), (a 36, aK ta 2 ru), (a 50, aK ta 2 cs), (a 37, aK ta 2 le), (a 45, aS ta 32 gch), (hd2, aS ta capd gd), (h0, oM a ar ((((0 + 16) + n8) + 1) + 1) tp osz lsz ns ct), (a 22, aS ta 700 gm1_128)] := hD
    refine lv_aload_n (pc := 131) hx hb dX10_answerMac_131 rfl (lv_at hl 2 rfl) ?_
    refine va_get (pc := 132) (D := D) (ci := 8) (v := .ref (a 36)) (C := RX10) (T := TX10) (N := 57) hx hb hts iu10 hown hK hP 13 rfl rfl 36 (by decide) (hts _ tw_1081) (fun _ h9 => h9) rfl dX10_answerMac_132 ?_
    refine lv_iload_n (pc := 135) hx hb dX10_answerMac_135 rfl (lv_at hl 3 rfl) ?_
    refine q_iald (pc := 136) hx hb hK hP 8 0 rfl rfl (k := sd) (v := nI (ru sd)) rfl (by omega) (by omega) rfl dX10_answerMac_136 ?_
    refine lv_iconst (pc := 137) (v := nI 2) hx hb dX10_answerMac_137 (by decide +kernel) ?_
    refine lv_icmp_ne (pc := 138) (tgt := 168) hx hb dX10_answerMac_138 (by decide) (fun c_2 => ?_) (fun c_2 => ?_)
    · skip
      rw [nI_eq (by omega) (by omega)] at c_2
      refine lv_aload_n (pc := 168) hx hb dX10_answerMac_168 rfl (lv_at hl 2 rfl) ?_
      refine lv_aload_n (pc := 169) hx hb dX10_answerMac_169 rfl (lv_at hl 2 rfl) ?_
      refine va_get (pc := 170) (D := D) (ci := 8) (v := .ref (a 41)) (C := RX10) (T := TX10) (N := 57) hx hb hts iu10 hown hK hP 13 rfl rfl 41 (by decide) (hts _ tw_1086) (fun _ h9 => h9) rfl dX10_answerMac_170 ?_
      refine lv_sipush (pc := 173) (v := nI 128) hx hb dX10_answerMac_173 (by decide +kernel) ?_
      refine lv_iload_n (pc := 176) hx hb dX10_answerMac_176 rfl (lv_at hl 3 rfl) ?_
      refine lv_imul (pc := 177) hx hb dX10_answerMac_177 ?_
      refine q_top (y := nI (128 * sd)) (pk_mul 128 sd) ?_
      refine lv_bipush (pc := 178) (v := nI 64) hx hb dX10_answerMac_178 (by decide +kernel) ?_
      refine lv_iadd (pc := 180) hx hb dX10_answerMac_180 ?_
      refine q_top (y := nI (128 * sd + 64)) (nI_add (128 * sd) 64) ?_
      refine lv_aload_n (pc := 181) hx hb dX10_answerMac_181 rfl (lv_at hl 2 rfl) ?_
      refine va_get (pc := 182) (D := D) (ci := 8) (v := .ref (a 37)) (C := RX10) (T := TX10) (N := 57) hx hb hts iu10 hown hK hP 13 rfl rfl 37 (by decide) (hts _ tw_1082) (fun _ h9 => h9) rfl dX10_answerMac_182 ?_
      refine lv_iload_n (pc := 185) hx hb dX10_answerMac_185 rfl (lv_at hl 3 rfl) ?_
      refine q_iald (pc := 186) hx hb hK hP 10 0 rfl rfl (k := sd) (v := nI (le sd)) rfl (by omega) (by omega) rfl dX10_answerMac_186 ?_
      refine cs_V (pc := 187) (idx := 124) (n := 3) (wr := [(a 55, aS ta 16 gco), (a 36, aK ta 2 ru), (a 50, aK ta 2 cs), (a 37, aK ta 2 le), (a 45, aS ta 32 gch), (hd2, aS ta capd gd)]) (As := [.ref (a 41), .int (nI (128 * sd + 64)), .int (nI (le sd))]) (rest := []) (ci := 8) hx hb hml hown hts hGok hK hA hG hl.1 hP hD hS (ct_X10_cmac ll D ta hGok h0 a ar ((((0 + 16) + n8) + 1) + 1) tp osz lsz ns ct gm1_128 mac k1 rk ce (a 41) (128 * sd + 64) 256 gke (le sd) (by first | assumption | omega | rfl | decide) (by first | assumption | omega | rfl | decide) (by first | assumption | omega | rfl | decide) (by first | assumption | omega | rfl | decide) H.size) tw_1334 tw_1331 tw_1333 tw_43 tw_75 hdX10_cmac rfl ⟨rfl, rfl, Nat.le_of_ble_eq_true rfl, Nat.le_of_ble_eq_true rfl, Nat.le_of_ble_eq_true rfl, Nat.le_of_ble_eq_true rfl⟩ rfl rfl (q0 := 13) rfl [13, 0, 1, 2, 3, 14, 4, 5, 7] [6, 8, 9, 10, 11, 12] rfl rfl (by decide) rfl (Nat.le_of_ble_eq_true rfl) dX10_answerMac_187 (fun u H locs hq hP hD hS => ?_)
      obtain ⟨mn1_187, gm1_187, mac1_187, k11_187, rk1_187, ce1_187⟩ := u
      have hq : (seg mac1_187 0 16 = cmacL (seg gke (128 * sd + 64) (le sd)) (qL gm1_128 ((((0 + 16) + n8) + 1) + 1))) := hq
      have hL_187 := hq
      refine W.eq (g2 := F0 mm 190 ls []) rfl ?_
      have hP : va_P D vwCl [(a 55, aS ta 16 gco), (a 36, aK ta 2 ru), (a 50, aK ta 2 cs), (a 37, aK ta 2 le), (a 45, aS ta 32 gch), (hd2, aS ta capd gd), (h0, oM a ((le sd) / 4 + 6) mn1_187 tp osz lsz ns ct), (a 8, aZ ta 256 BOX), (a 9, aZ ta 256 UBOX), (a 16, aS ta 240 rk1_187), (a 18, aS ta 16 ce1_187), (a 22, aS ta 700 gm1_187), (a 24, aS ta 16 mac1_187), (a 25, aS ta 16 k11_187), (a 41, aS ta 256 gke)] H := hP
      have hD : va_D A [(a 55, aS ta 16 gco), (a 36, aK ta 2 ru), (a 50, aK ta 2 cs), (a 37, aK ta 2 le), (a 45, aS ta 32 gch), (hd2, aS ta capd gd), (h0, oM a ((le sd) / 4 + 6) mn1_187 tp osz lsz ns ct), (a 8, aZ ta 256 BOX), (a 9, aZ ta 256 UBOX), (a 16, aS ta 240 rk1_187), (a 18, aS ta 16 ce1_187), (a 22, aS ta 700 gm1_187), (a 24, aS ta 16 mac1_187), (a 25, aS ta 16 k11_187), (a 41, aS ta 256 gke)] := hD
      refine lv_iconst (pc := 190) (v := nI 0) hx hb dX10_answerMac_190 (by decide +kernel) ?_
      refine lv_istore (pc := 191) (lv' := [(7, .int (nI 0)), (6, .int (nI (cs sd - 4))), (5, .int (nI (204 * sd))), (0, .ref h0), (1, .int (nI sd)), (2, .ref hd2), (3, .int (nI n8)), (4, .int (nI sw9))]) hx hb dX10_answerMac_191 hl (by decide) rfl (fun ls hl => ?_)
      have LP193 : ∀ (nn193 : Nat) (k : Nat) (g' : Nat → BitVec 8), (k ≤ 8) → (qSeg g' gco 0 k mac1_187) → (8 - k < nn193) → ∀ (H : Heap) (locs : List Loc), va_P D vwCl [(a 55, aS ta 16 g'), (a 36, aK ta 2 ru), (a 50, aK ta 2 cs), (a 37, aK ta 2 le), (a 45, aS ta 32 gch), (hd2, aS ta capd gd), (h0, oM a ((le sd) / 4 + 6) mn1_187 tp osz lsz ns ct), (a 8, aZ ta 256 BOX), (a 9, aZ ta 256 UBOX), (a 16, aS ta 240 rk1_187), (a 18, aS ta 16 ce1_187), (a 22, aS ta 700 gm1_187), (a 24, aS ta 16 mac1_187), (a 25, aS ta 16 k11_187), (a 41, aS ta 256 gke)] H → va_D A [(a 55, aS ta 16 g'), (a 36, aK ta 2 ru), (a 50, aK ta 2 cs), (a 37, aK ta 2 le), (a 45, aS ta 32 gch), (hd2, aS ta capd gd), (h0, oM a ((le sd) / 4 + 6) mn1_187 tp osz lsz ns ct), (a 8, aZ ta 256 BOX), (a 9, aZ ta 256 UBOX), (a 16, aS ta 240 rk1_187), (a 18, aS ta 16 ce1_187), (a 22, aS ta 700 gm1_187), (a 24, aS ta 16 mac1_187), (a 25, aS ta 16 k11_187), (a 41, aS ta 256 gke)] → va_S A ss.heap H locs → ∀ ls : Array Slot, lv_has ls 8 [(7, .int (nI k)), (6, .int (nI (cs sd - 4))), (5, .int (nI (204 * sd))), (0, .ref h0), (1, .int (nI sd)), (2, .ref hd2), (3, .int (nI n8)), (4, .int (nI sw9))] → W pp ll ee ({ frames := 5, cells := 0, slots := 0, locals := 124 } : Room) ss mm (([.ref h0, .int (nI sd), .ref hd2, .int (nI n8), .int (nI sw9)] : List Value).toArray) below meth kc H locs 0 0 Q (F0 mm 193 ls []) := by
        intro nn193
        induction nn193 with
        | zero => intro k g' hkk hs hmu; exact absurd hmu (Nat.not_lt_zero _)
        | succ nn193 ih193 =>
          intro k g' hkk hs hmu193 H locs hP hD hS ls hl
          refine lv_iload (pc := 193) hx hb dX10_answerMac_193 (lv_at hl 0 rfl) ?_
          refine lv_bipush (pc := 195) (v := nI 8) hx hb dX10_answerMac_195 (by decide +kernel) ?_
          refine lv_icmp_ge (pc := 197) (tgt := 220) hx hb dX10_answerMac_197 (by decide) (fun c_3 => ?_) (fun c_3 => ?_)
          · skip
            rw [nI_leI (by omega) (by omega)] at c_3
            have hq_4 : (seg g' 0 8 = (ansCode3 (seg gke (128 * sd + 64) (le sd)) (seg gch (16 * sd) 16) (qL gd n8) sw9).take 8) := by
              have hT : qL gm1_128 (0 + 16 + n8 + 1 + 1) = seg gch (16 * sd) 16 ++ qL gd n8 ++ qNum (nI sw9).toInt64 2 := by
                rw [hL_128, hL_118, hL_105, hL_98, qL_0, List.nil_append, qlo_nI, qlo_nI, ← sw_2 hsw, seg_0]
                simp only [List.append_assoc]
              rw [seg_copy0 hs (by omega), ansCode3, ← hT, ← hL_187, seg_take (by decide), seg_0]
            exact hret (⟨(rk1_187), (ce1_187), (gm1_187), (mac1_187), (k11_187), (g'), (mn1_187), ((le sd) / 4 + 6)⟩ : (Nat → BitVec 8) × (Nat → BitVec 8) × (Nat → BitVec 8) × (Nat → BitVec 8) × (Nat → BitVec 8) × (Nat → BitVec 8) × Nat × Nat) _ _ _ _ dX10_answerMac_220 hq_4 (hP.sub [6, 7, 8, 9, 10, 11, 12, 13, 0, 14, 1, 2, 3, 4, 5] rfl) (hD.sub [6, 7, 8, 9, 10, 11, 12, 13, 0, 14, 1, 2, 3, 4, 5] (by decide) rfl) hS
          · skip
            rw [nI_leI (by omega) (by omega)] at c_3
            refine lv_aload_n (pc := 200) hx hb dX10_answerMac_200 rfl (lv_at hl 3 rfl) ?_
            refine va_get (pc := 201) (D := D) (ci := 8) (v := .ref (a 55)) (C := RX10) (T := TX10) (N := 57) hx hb hts iu10 hown hK hP 6 rfl rfl 55 (by decide) (hts _ tw_1100) (fun _ h9 => h9) rfl dX10_answerMac_201 ?_
            refine lv_iload (pc := 204) hx hb dX10_answerMac_204 (lv_at hl 0 rfl) ?_
            refine lv_aload_n (pc := 206) hx hb dX10_answerMac_206 rfl (lv_at hl 3 rfl) ?_
            refine va_get (pc := 207) (D := D) (ci := 8) (v := .ref (a 24)) (C := RX10) (T := TX10) (N := 57) hx hb hts iu10 hown hK hP 6 rfl rfl 24 (by decide) (hts _ tw_1069) (fun _ h9 => h9) rfl dX10_answerMac_207 ?_
            refine lv_iload (pc := 210) hx hb dX10_answerMac_210 (lv_at hl 0 rfl) ?_
            refine q_bald (pc := 212) hx hb hK hP 12 2 rfl rfl (k := k) (v := qs (mac1_187 k)) rfl (by omega) (by omega) rfl dX10_answerMac_212 ?_
            refine q_bastS (pc := 213) hx hb hK hP hD hS 0 2 rfl rfl (k := k) rfl (by omega) (by omega) (b := mac1_187 k) (qlo_qs _) dX10_answerMac_213 (fun H locs hP hD hS => ?_)
            have hP : va_P D vwCl [(a 55, aS ta 16 (qU g' k (mac1_187 k))), (a 36, aK ta 2 ru), (a 50, aK ta 2 cs), (a 37, aK ta 2 le), (a 45, aS ta 32 gch), (hd2, aS ta capd gd), (h0, oM a ((le sd) / 4 + 6) mn1_187 tp osz lsz ns ct), (a 8, aZ ta 256 BOX), (a 9, aZ ta 256 UBOX), (a 16, aS ta 240 rk1_187), (a 18, aS ta 16 ce1_187), (a 22, aS ta 700 gm1_187), (a 24, aS ta 16 mac1_187), (a 25, aS ta 16 k11_187), (a 41, aS ta 256 gke)] H := hP
            have hD : va_D A [(a 55, aS ta 16 (qU g' k (mac1_187 k))), (a 36, aK ta 2 ru), (a 50, aK ta 2 cs), (a 37, aK ta 2 le), (a 45, aS ta 32 gch), (hd2, aS ta capd gd), (h0, oM a ((le sd) / 4 + 6) mn1_187 tp osz lsz ns ct), (a 8, aZ ta 256 BOX), (a 9, aZ ta 256 UBOX), (a 16, aS ta 240 rk1_187), (a 18, aS ta 16 ce1_187), (a 22, aS ta 700 gm1_187), (a 24, aS ta 16 mac1_187), (a 25, aS ta 16 k11_187), (a 41, aS ta 256 gke)] := hD
            refine lv_iinc (pc := 214) (v := nI (k + 1)) (lv' := [(7, .int (nI (k + 1))), (6, .int (nI (cs sd - 4))), (5, .int (nI (204 * sd))), (0, .ref h0), (1, .int (nI sd)), (2, .ref hd2), (3, .int (nI n8)), (4, .int (nI sw9))]) hx hb dX10_answerMac_214 hl (k := 0) rfl (by first | exact nI_add k 1 | rfl) (by decide) rfl (fun ls hl => ?_)
            refine lv_goto (pc := 217) (tgt := 193) hx hb dX10_answerMac_217 (by decide) ?_
            exact ih193 (k + 1) (qU g' k (mac1_187 k)) (by omega) (qSeg_s hs (by omega) (by first | rfl | (simp; done))) (by omega) _ _ (hP.sub [0, 1, 2, 3, 4, 5, 6, 7, 8, 9, 10, 11, 12, 13, 14] rfl) (hD.sub [0, 1, 2, 3, 4, 5, 6, 7, 8, 9, 10, 11, 12, 13, 14] (by decide) rfl) hS ls (lv_sub hl [0, 1, 2, 3, 4, 5, 6, 7] rfl)
      exact LP193 _ 0 gco (by omega) (qSeg_0) (Nat.lt_succ_self _) _ _ (hP.sub [0, 1, 2, 3, 4, 5, 6, 7, 8, 9, 10, 11, 12, 13, 14] rfl) (hD.sub [0, 1, 2, 3, 4, 5, 6, 7, 8, 9, 10, 11, 12, 13, 14] (by decide) rfl) hS ls (lv_sub hl [0, 1, 2, 3, 4, 5, 6, 7] rfl)
    · skip
      rw [nI_eq (by omega) (by omega)] at c_2
      exfalso; omega
  · skip
    rw [nI_eq (by omega) (by omega)] at c_1
    exfalso; omega
theorem hdX10_answers : yX10_answers.cls ≠ "java/lang/invoke/MethodHandle" ∧ yX10_answers.cls ≠ "java/lang/invoke/VarHandle" ∧ (parseMethodDescriptor yX10_answers.desc).map (fun d => d.parameters.length) = some 1 := ⟨by decide +kernel, by decide +kernel, by decide +kernel⟩
theorem dX10_answers_0 : decode cX10_answers 0 = .ok (.aload_n 0, 1) := by decide +kernel
theorem dX10_answers_1 : decode cX10_answers 1 = .ok (.getfield 240, 3) := by decide +kernel
theorem dX10_answers_4 : decode cX10_answers 4 = .ok (.iload_n 1, 1) := by decide +kernel
theorem dX10_answers_5 : decode cX10_answers 5 = .ok (.iaload, 1) := by decide +kernel
theorem dX10_answers_6 : decode cX10_answers 6 = .ok (.iconst 2, 1) := by decide +kernel
theorem dX10_answers_7 : decode cX10_answers 7 = .ok (.if_icmp .ne 28, 3) := by decide +kernel
theorem dX10_answers_10 : decode cX10_answers 10 = .ok (.aload_n 0, 1) := by decide +kernel
theorem dX10_answers_11 : decode cX10_answers 11 = .ok (.getfield 243, 3) := by decide +kernel
theorem dX10_answers_14 : decode cX10_answers 14 = .ok (.iload_n 1, 1) := by decide +kernel
theorem dX10_answers_15 : decode cX10_answers 15 = .ok (.iaload, 1) := by decide +kernel
theorem dX10_answers_16 : decode cX10_answers 16 = .ok (.bipush 16, 2) := by decide +kernel
theorem dX10_answers_18 : decode cX10_answers 18 = .ok (.iand, 1) := by decide +kernel
theorem dX10_answers_19 : decode cX10_answers 19 = .ok (.ifCond .le 16, 3) := by decide +kernel
theorem dX10_answers_22 : decode cX10_answers 22 = .ok (.aload_n 0, 1) := by decide +kernel
theorem dX10_answers_23 : decode cX10_answers 23 = .ok (.getfield 267, 3) := by decide +kernel
theorem dX10_answers_26 : decode cX10_answers 26 = .ok (.iload_n 1, 1) := by decide +kernel
theorem dX10_answers_27 : decode cX10_answers 27 = .ok (.baload, 1) := by decide +kernel
theorem dX10_answers_28 : decode cX10_answers 28 = .ok (.ifCond .eq 7, 3) := by decide +kernel
theorem dX10_answers_31 : decode cX10_answers 31 = .ok (.iconst 1, 1) := by decide +kernel
theorem dX10_answers_32 : decode cX10_answers 32 = .ok (.goto 4, 3) := by decide +kernel
theorem dX10_answers_35 : decode cX10_answers 35 = .ok (.iconst 0, 1) := by decide +kernel
theorem dX10_answers_36 : decode cX10_answers 36 = .ok (.ireturn, 1) := by decide +kernel
set_option maxHeartbeats 4000000 in
set_option maxRecDepth 100000 in
theorem ct_X10_answers (ll : Launch) (D : va_G) (ta : Nat → ClassId) {G : (Nat → Prop) → State → Heap → Prop} (hGok : GOK G) (h0 : Nat) (a : Nat → Nat) (ar : Nat) (mn : Nat) (tp : Nat) (osz : Nat) (lsz : Nat) (ns : Nat) (ct : Nat) (se : Nat → Nat) (lv : Nat → Nat) (ha : Nat → Bool) (sd : Nat) (hsd : sd ≤ 1) (hse : se sd ≤ 2) (hlv : lv sd < 256) (sz : Nat) : CT ll yX10_answers cX10_answers 2 (some .boolean) ({ frames := 0, cells := 0, slots := 0, locals := 0 } : Room) D ta G [.ref h0, .int (nI sd)] [(h0, oM a ar mn tp osz lsz ns ct), (a 39, aK ta 2 se), (a 40, aK ta 2 lv), (a 48, aT ta 2 ha)] sz (S := Bool) (fun u => some (.int (qb u))) (fun u => (u = decide (se sd = 2 ∧ lv sd &&& 16 ≠ 0 ∧ ha sd = true))) (fun u => [(h0, oM a ar mn tp osz lsz ns ct), (a 39, aK ta 2 se), (a 40, aK ta 2 lv), (a 48, aT ta 2 ha)]) 0 0 := by
  refine CT.of_z (r := fun u => u) rfl (by decide) (Nat.le_of_ble_eq_true rfl) ?_
  intro pp ee ss mm below meth kc A Q hx hb hml hown hin hts hK hA hsz hG hret H locs hP hD hS ls hl
  have hl : lv_has ls 2 [(0, .ref h0), (1, .int (nI sd))] := hl
  refine lv_aload_n (pc := 0) hx hb dX10_answers_0 rfl (lv_at hl 0 rfl) ?_
  have hlm : lv sd &&& 16 ≤ 16 := Nat.and_le_right
  refine va_get (pc := 1) (D := D) (ci := 8) (v := .ref (a 39)) (C := RX10) (T := TX10) (N := 57) hx hb hts iu10 hown hK hP 0 rfl rfl 39 (by decide) (hts _ tw_1084) (fun _ h9 => h9) rfl dX10_answers_1 ?_
  refine lv_iload_n (pc := 4) hx hb dX10_answers_4 rfl (lv_at hl 1 rfl) ?_
  refine q_iald (pc := 5) hx hb hK hP 1 0 rfl rfl (k := sd) (v := nI (se sd)) rfl (by omega) (by omega) rfl dX10_answers_5 ?_
  refine lv_iconst (pc := 6) (v := nI 2) hx hb dX10_answers_6 (by decide +kernel) ?_
  refine lv_icmp_ne (pc := 7) (tgt := 35) hx hb dX10_answers_7 (by decide) (fun c_1 => ?_) (fun c_1 => ?_)
  · skip
    rw [nI_eq (by omega) (by omega)] at c_1
    refine lv_iconst (pc := 35) (v := nI 0) hx hb dX10_answers_35 (by decide +kernel) ?_
    refine q_top (y := qb false) (by first | rfl | decide +kernel | (simp; done)) ?_
    have hq_2 : (false = decide (se sd = 2 ∧ lv sd &&& 16 ≠ 0 ∧ ha sd = true)) := by
      symm
      first | (refine decide_eq_true ⟨by omega, by omega, by assumption⟩; done) | (refine decide_eq_false (fun q => ?_); obtain ⟨q1, q2, q3⟩ := q; first | omega | simp_all)
    exact hret (false) _ _ _ _ dX10_answers_36 hq_2 (hP.sub [0, 1, 2, 3] rfl) (hD.sub [0, 1, 2, 3] (by decide) rfl) hS
  · skip
    rw [nI_eq (by omega) (by omega)] at c_1
    refine lv_aload_n (pc := 10) hx hb dX10_answers_10 rfl (lv_at hl 0 rfl) ?_
    refine va_get (pc := 11) (D := D) (ci := 8) (v := .ref (a 40)) (C := RX10) (T := TX10) (N := 57) hx hb hts iu10 hown hK hP 0 rfl rfl 40 (by decide) (hts _ tw_1085) (fun _ h9 => h9) rfl dX10_answers_11 ?_
    refine lv_iload_n (pc := 14) hx hb dX10_answers_14 rfl (lv_at hl 1 rfl) ?_
    refine q_iald (pc := 15) hx hb hK hP 2 0 rfl rfl (k := sd) (v := nI (lv sd)) rfl (by omega) (by omega) rfl dX10_answers_15 ?_
    refine lv_bipush (pc := 16) (v := nI 16) hx hb dX10_answers_16 (by decide +kernel) ?_
    refine lv_iand (pc := 18) hx hb dX10_answers_18 ?_
    refine q_top (y := nI (lv sd &&& 16)) (nI_and (by omega) (by omega)) ?_
    refine lv_if_le (pc := 19) (tgt := 35) hx hb dX10_answers_19 (by decide) (fun c_3 => ?_) (fun c_3 => ?_)
    · skip
      rw [q_le0 (by omega)] at c_3
      refine lv_iconst (pc := 35) (v := nI 0) hx hb dX10_answers_35 (by decide +kernel) ?_
      refine q_top (y := qb false) (by first | rfl | decide +kernel | (simp; done)) ?_
      have hq_4 : (false = decide (se sd = 2 ∧ lv sd &&& 16 ≠ 0 ∧ ha sd = true)) := by
        symm
        first | (refine decide_eq_true ⟨by omega, by omega, by assumption⟩; done) | (refine decide_eq_false (fun q => ?_); obtain ⟨q1, q2, q3⟩ := q; first | omega | simp_all)
      exact hret (false) _ _ _ _ dX10_answers_36 hq_4 (hP.sub [0, 1, 2, 3] rfl) (hD.sub [0, 1, 2, 3] (by decide) rfl) hS
    · skip
      rw [q_le0 (by omega)] at c_3
      refine lv_aload_n (pc := 22) hx hb dX10_answers_22 rfl (lv_at hl 0 rfl) ?_
      refine va_get (pc := 23) (D := D) (ci := 8) (v := .ref (a 48)) (C := RX10) (T := TX10) (N := 57) hx hb hts iu10 hown hK hP 0 rfl rfl 48 (by decide) (hts _ tw_1093) (fun _ h9 => h9) rfl dX10_answers_23 ?_
      refine lv_iload_n (pc := 26) hx hb dX10_answers_26 rfl (lv_at hl 1 rfl) ?_
      refine q_zald (pc := 27) hx hb hK hP 3 3 rfl rfl (k := sd) (v := qb (ha sd)) rfl (by omega) (by omega) rfl dX10_answers_27 ?_
      refine lv_if_eq (pc := 28) (tgt := 35) hx hb dX10_answers_28 (by decide) (fun c_5 => ?_) (fun c_5 => ?_)
      · skip
        rw [q_beq] at c_5
        try rw [Bool.not_eq_false] at c_5
        refine lv_iconst (pc := 35) (v := nI 0) hx hb dX10_answers_35 (by decide +kernel) ?_
        refine q_top (y := qb false) (by first | rfl | decide +kernel | (simp; done)) ?_
        have hq_6 : (false = decide (se sd = 2 ∧ lv sd &&& 16 ≠ 0 ∧ ha sd = true)) := by
          symm
          first | (refine decide_eq_true ⟨by omega, by omega, by assumption⟩; done) | (refine decide_eq_false (fun q => ?_); obtain ⟨q1, q2, q3⟩ := q; first | omega | simp_all)
        exact hret (false) _ _ _ _ dX10_answers_36 hq_6 (hP.sub [0, 1, 2, 3] rfl) (hD.sub [0, 1, 2, 3] (by decide) rfl) hS
      · skip
        rw [q_beq] at c_5
        try rw [Bool.not_eq_false] at c_5
        refine lv_iconst (pc := 31) (v := nI 1) hx hb dX10_answers_31 (by decide +kernel) ?_
        refine lv_goto (pc := 32) (tgt := 36) hx hb dX10_answers_32 (by decide) ?_
        refine q_top (y := qb true) (by first | rfl | decide +kernel | (simp; done)) ?_
        have hq_7 : (true = decide (se sd = 2 ∧ lv sd &&& 16 ≠ 0 ∧ ha sd = true)) := by
          symm
          first | (refine decide_eq_true ⟨by omega, by omega, by assumption⟩; done) | (refine decide_eq_false (fun q => ?_); obtain ⟨q1, q2, q3⟩ := q; first | omega | simp_all)
        exact hret (true) _ _ _ _ dX10_answers_36 hq_7 (hP.sub [0, 1, 2, 3] rfl) (hD.sub [0, 1, 2, 3] (by decide) rfl) hS
theorem hdX10_answer : yX10_answer.cls ≠ "java/lang/invoke/MethodHandle" ∧ yX10_answer.cls ≠ "java/lang/invoke/VarHandle" ∧ (parseMethodDescriptor yX10_answer.desc).map (fun d => d.parameters.length) = some 1 := ⟨by decide +kernel, by decide +kernel, by decide +kernel⟩
theorem dX10_answer_0 : decode cX10_answer 0 = .ok (.aload_n 0, 1) := by decide +kernel
theorem dX10_answer_1 : decode cX10_answer 1 = .ok (.invokevirtual 310, 3) := by decide +kernel
theorem dX10_answer_4 : decode cX10_answer 4 = .ok (.istore_n 2, 1) := by decide +kernel
theorem dX10_answer_5 : decode cX10_answer 5 = .ok (.aload_n 0, 1) := by decide +kernel
theorem dX10_answer_6 : decode cX10_answer 6 = .ok (.iconst 1, 1) := by decide +kernel
theorem dX10_answer_7 : decode cX10_answer 7 = .ok (.invokevirtual 398, 3) := by decide +kernel
theorem dX10_answer_10 : decode cX10_answer 10 = .ok (.ifCond .eq 21, 3) := by decide +kernel
theorem dX10_answer_13 : decode cX10_answer 13 = .ok (.iload_n 2, 1) := by decide +kernel
theorem dX10_answer_14 : decode cX10_answer 14 = .ok (.sipush 200, 3) := by decide +kernel
theorem dX10_answer_17 : decode cX10_answer 17 = .ok (.if_icmp .gt 14, 3) := by decide +kernel
theorem dX10_answer_20 : decode cX10_answer 20 = .ok (.iload_n 1, 1) := by decide +kernel
theorem dX10_answer_21 : decode cX10_answer 21 = .ok (.ifCond .lt 10, 3) := by decide +kernel
theorem dX10_answer_24 : decode cX10_answer 24 = .ok (.iload_n 1, 1) := by decide +kernel
theorem dX10_answer_25 : decode cX10_answer 25 = .ok (.ldc_w 401, 3) := by decide +kernel
theorem dX10_answer_28 : decode cX10_answer 28 = .ok (.if_icmp .le 5, 3) := by decide +kernel
theorem dX10_answer_31 : decode cX10_answer 31 = .ok (.iconst (-1), 1) := by decide +kernel
theorem dX10_answer_32 : decode cX10_answer 32 = .ok (.ireturn, 1) := by decide +kernel
theorem dX10_answer_33 : decode cX10_answer 33 = .ok (.iconst 0, 1) := by decide +kernel
theorem dX10_answer_34 : decode cX10_answer 34 = .ok (.istore_n 3, 1) := by decide +kernel
theorem dX10_answer_35 : decode cX10_answer 35 = .ok (.iload_n 3, 1) := by decide +kernel
theorem dX10_answer_36 : decode cX10_answer 36 = .ok (.iload_n 2, 1) := by decide +kernel
theorem dX10_answer_37 : decode cX10_answer 37 = .ok (.if_icmp .ge 21, 3) := by decide +kernel
theorem dX10_answer_40 : decode cX10_answer 40 = .ok (.aload_n 0, 1) := by decide +kernel
theorem dX10_answer_41 : decode cX10_answer 41 = .ok (.getfield 286, 3) := by decide +kernel
theorem dX10_answer_44 : decode cX10_answer 44 = .ok (.iload_n 3, 1) := by decide +kernel
theorem dX10_answer_45 : decode cX10_answer 45 = .ok (.aload_n 0, 1) := by decide +kernel
theorem dX10_answer_46 : decode cX10_answer 46 = .ok (.getfield 219, 3) := by decide +kernel
theorem dX10_answer_49 : decode cX10_answer 49 = .ok (.iload_n 3, 1) := by decide +kernel
theorem dX10_answer_50 : decode cX10_answer 50 = .ok (.baload, 1) := by decide +kernel
theorem dX10_answer_51 : decode cX10_answer 51 = .ok (.bastore, 1) := by decide +kernel
theorem dX10_answer_52 : decode cX10_answer 52 = .ok (.iinc 3 1, 3) := by decide +kernel
theorem dX10_answer_55 : decode cX10_answer 55 = .ok (.goto (-20), 3) := by decide +kernel
theorem dX10_answer_58 : decode cX10_answer 58 = .ok (.aload_n 0, 1) := by decide +kernel
theorem dX10_answer_59 : decode cX10_answer 59 = .ok (.getfield 231, 3) := by decide +kernel
theorem dX10_answer_62 : decode cX10_answer 62 = .ok (.iconst 1, 1) := by decide +kernel
theorem dX10_answer_63 : decode cX10_answer 63 = .ok (.iaload, 1) := by decide +kernel
theorem dX10_answer_64 : decode cX10_answer 64 = .ok (.iconst 3, 1) := by decide +kernel
theorem dX10_answer_65 : decode cX10_answer 65 = .ok (.if_icmp .ne 27, 3) := by decide +kernel
theorem dX10_answer_68 : decode cX10_answer 68 = .ok (.aload_n 0, 1) := by decide +kernel
theorem dX10_answer_69 : decode cX10_answer 69 = .ok (.getfield 243, 3) := by decide +kernel
theorem dX10_answer_72 : decode cX10_answer 72 = .ok (.iconst 1, 1) := by decide +kernel
theorem dX10_answer_73 : decode cX10_answer 73 = .ok (.iaload, 1) := by decide +kernel
theorem dX10_answer_74 : decode cX10_answer 74 = .ok (.bipush 32, 2) := by decide +kernel
theorem dX10_answer_76 : decode cX10_answer 76 = .ok (.iand, 1) := by decide +kernel
theorem dX10_answer_77 : decode cX10_answer 77 = .ok (.ifCond .le 15, 3) := by decide +kernel
theorem dX10_answer_80 : decode cX10_answer 80 = .ok (.iload_n 2, 1) := by decide +kernel
theorem dX10_answer_81 : decode cX10_answer 81 = .ok (.ifCond .le 11, 3) := by decide +kernel
theorem dX10_answer_84 : decode cX10_answer 84 = .ok (.aload_n 0, 1) := by decide +kernel
theorem dX10_answer_85 : decode cX10_answer 85 = .ok (.iconst 1, 1) := by decide +kernel
theorem dX10_answer_86 : decode cX10_answer 86 = .ok (.iload_n 2, 1) := by decide +kernel
theorem dX10_answer_87 : decode cX10_answer 87 = .ok (.iconst 1, 1) := by decide +kernel
theorem dX10_answer_88 : decode cX10_answer 88 = .ok (.invokevirtual 381, 3) := by decide +kernel
theorem dX10_answer_91 : decode cX10_answer 91 = .ok (.istore_n 2, 1) := by decide +kernel
theorem dX10_answer_92 : decode cX10_answer 92 = .ok (.aload_n 0, 1) := by decide +kernel
theorem dX10_answer_93 : decode cX10_answer 93 = .ok (.iconst 1, 1) := by decide +kernel
theorem dX10_answer_94 : decode cX10_answer 94 = .ok (.aload_n 0, 1) := by decide +kernel
theorem dX10_answer_95 : decode cX10_answer 95 = .ok (.getfield 286, 3) := by decide +kernel
theorem dX10_answer_98 : decode cX10_answer 98 = .ok (.iload_n 2, 1) := by decide +kernel
theorem dX10_answer_99 : decode cX10_answer 99 = .ok (.iload_n 1, 1) := by decide +kernel
theorem dX10_answer_100 : decode cX10_answer 100 = .ok (.invokevirtual 402, 3) := by decide +kernel
theorem dX10_answer_103 : decode cX10_answer 103 = .ok (.aload_n 0, 1) := by decide +kernel
theorem dX10_answer_104 : decode cX10_answer 104 = .ok (.getfield 231, 3) := by decide +kernel
theorem dX10_answer_107 : decode cX10_answer 107 = .ok (.iconst 1, 1) := by decide +kernel
theorem dX10_answer_108 : decode cX10_answer 108 = .ok (.iaload, 1) := by decide +kernel
theorem dX10_answer_109 : decode cX10_answer 109 = .ok (.iconst 2, 1) := by decide +kernel
theorem dX10_answer_110 : decode cX10_answer 110 = .ok (.if_icmp .ne 32, 3) := by decide +kernel
theorem dX10_answer_113 : decode cX10_answer 113 = .ok (.iconst 0, 1) := by decide +kernel
theorem dX10_answer_114 : decode cX10_answer 114 = .ok (.istore_n 3, 1) := by decide +kernel
theorem dX10_answer_115 : decode cX10_answer 115 = .ok (.iload_n 3, 1) := by decide +kernel
theorem dX10_answer_116 : decode cX10_answer 116 = .ok (.bipush 8, 2) := by decide +kernel
theorem dX10_answer_118 : decode cX10_answer 118 = .ok (.if_icmp .ge 24, 3) := by decide +kernel
theorem dX10_answer_121 : decode cX10_answer 121 = .ok (.aload_n 0, 1) := by decide +kernel
theorem dX10_answer_122 : decode cX10_answer 122 = .ok (.getfield 261, 3) := by decide +kernel
theorem dX10_answer_125 : decode cX10_answer 125 = .ok (.bipush 8, 2) := by decide +kernel
theorem dX10_answer_127 : decode cX10_answer 127 = .ok (.iload_n 3, 1) := by decide +kernel
theorem dX10_answer_128 : decode cX10_answer 128 = .ok (.iadd, 1) := by decide +kernel
theorem dX10_answer_129 : decode cX10_answer 129 = .ok (.aload_n 0, 1) := by decide +kernel
theorem dX10_answer_130 : decode cX10_answer 130 = .ok (.getfield 289, 3) := by decide +kernel
theorem dX10_answer_133 : decode cX10_answer 133 = .ok (.iload_n 3, 1) := by decide +kernel
theorem dX10_answer_134 : decode cX10_answer 134 = .ok (.baload, 1) := by decide +kernel
theorem dX10_answer_135 : decode cX10_answer 135 = .ok (.bastore, 1) := by decide +kernel
theorem dX10_answer_136 : decode cX10_answer 136 = .ok (.iinc 3 1, 3) := by decide +kernel
theorem dX10_answer_139 : decode cX10_answer 139 = .ok (.goto (-24), 3) := by decide +kernel
theorem dX10_answer_142 : decode cX10_answer 142 = .ok (.iconst 0, 1) := by decide +kernel
theorem dX10_answer_143 : decode cX10_answer 143 = .ok (.istore_n 3, 1) := by decide +kernel
theorem dX10_answer_144 : decode cX10_answer 144 = .ok (.iload_n 3, 1) := by decide +kernel
theorem dX10_answer_145 : decode cX10_answer 145 = .ok (.iload_n 2, 1) := by decide +kernel
theorem dX10_answer_146 : decode cX10_answer 146 = .ok (.if_icmp .ge 21, 3) := by decide +kernel
theorem dX10_answer_149 : decode cX10_answer 149 = .ok (.aload_n 0, 1) := by decide +kernel
theorem dX10_answer_150 : decode cX10_answer 150 = .ok (.getfield 225, 3) := by decide +kernel
theorem dX10_answer_153 : decode cX10_answer 153 = .ok (.iload_n 3, 1) := by decide +kernel
theorem dX10_answer_154 : decode cX10_answer 154 = .ok (.aload_n 0, 1) := by decide +kernel
theorem dX10_answer_155 : decode cX10_answer 155 = .ok (.getfield 286, 3) := by decide +kernel
theorem dX10_answer_158 : decode cX10_answer 158 = .ok (.iload_n 3, 1) := by decide +kernel
theorem dX10_answer_159 : decode cX10_answer 159 = .ok (.baload, 1) := by decide +kernel
theorem dX10_answer_160 : decode cX10_answer 160 = .ok (.bastore, 1) := by decide +kernel
theorem dX10_answer_161 : decode cX10_answer 161 = .ok (.iinc 3 1, 3) := by decide +kernel
theorem dX10_answer_164 : decode cX10_answer 164 = .ok (.goto (-20), 3) := by decide +kernel
theorem dX10_answer_167 : decode cX10_answer 167 = .ok (.iconst 0, 1) := by decide +kernel
theorem dX10_answer_168 : decode cX10_answer 168 = .ok (.istore_n 3, 1) := by decide +kernel
theorem dX10_answer_169 : decode cX10_answer 169 = .ok (.iload_n 3, 1) := by decide +kernel
theorem dX10_answer_170 : decode cX10_answer 170 = .ok (.bipush 8, 2) := by decide +kernel
theorem dX10_answer_172 : decode cX10_answer 172 = .ok (.if_icmp .ge 23, 3) := by decide +kernel
theorem dX10_answer_175 : decode cX10_answer 175 = .ok (.aload_n 0, 1) := by decide +kernel
theorem dX10_answer_176 : decode cX10_answer 176 = .ok (.getfield 225, 3) := by decide +kernel
theorem dX10_answer_179 : decode cX10_answer 179 = .ok (.iload_n 2, 1) := by decide +kernel
theorem dX10_answer_180 : decode cX10_answer 180 = .ok (.iload_n 3, 1) := by decide +kernel
theorem dX10_answer_181 : decode cX10_answer 181 = .ok (.iadd, 1) := by decide +kernel
theorem dX10_answer_182 : decode cX10_answer 182 = .ok (.aload_n 0, 1) := by decide +kernel
theorem dX10_answer_183 : decode cX10_answer 183 = .ok (.getfield 289, 3) := by decide +kernel
theorem dX10_answer_186 : decode cX10_answer 186 = .ok (.iload_n 3, 1) := by decide +kernel
theorem dX10_answer_187 : decode cX10_answer 187 = .ok (.baload, 1) := by decide +kernel
theorem dX10_answer_188 : decode cX10_answer 188 = .ok (.bastore, 1) := by decide +kernel
theorem dX10_answer_189 : decode cX10_answer 189 = .ok (.iinc 3 1, 3) := by decide +kernel
theorem dX10_answer_192 : decode cX10_answer 192 = .ok (.goto (-23), 3) := by decide +kernel
theorem dX10_answer_195 : decode cX10_answer 195 = .ok (.aload_n 0, 1) := by decide +kernel
theorem dX10_answer_196 : decode cX10_answer 196 = .ok (.iload_n 2, 1) := by decide +kernel
theorem dX10_answer_197 : decode cX10_answer 197 = .ok (.bipush 8, 2) := by decide +kernel
theorem dX10_answer_199 : decode cX10_answer 199 = .ok (.iadd, 1) := by decide +kernel
theorem dX10_answer_200 : decode cX10_answer 200 = .ok (.putfield 307, 3) := by decide +kernel
theorem dX10_answer_203 : decode cX10_answer 203 = .ok (.aload_n 0, 1) := by decide +kernel
theorem dX10_answer_204 : decode cX10_answer 204 = .ok (.getfield 307, 3) := by decide +kernel
theorem dX10_answer_207 : decode cX10_answer 207 = .ok (.ireturn, 1) := by decide +kernel
set_option maxHeartbeats 4000000 in
set_option maxRecDepth 100000 in
theorem ct_X10_answer_no (ll : Launch) (D : va_G) (ta : Nat → ClassId) {G : (Nat → Prop) → State → Heap → Prop} (hGok : GOK G) (h0 : Nat) (a : Nat → Nat) (ar : Nat) (mn : Nat) (tp : Nat) (osz : Nat) (lsz : Nat) (ns : Nat) (ct : Nat) (se : Nat → Nat) (lv : Nat → Nat) (ha : Nat → Bool) (i : Int32) (htp : tp ≤ 400) (hse : se 1 ≤ 2) (hlv : lv 1 < 256) (hno : ¬ ((se 1 = 2 ∧ lv 1 &&& 16 ≠ 0 ∧ ha 1 = true) ∧ swB i = true ∧ tp ≤ 200)) (sz : Nat) : CT ll yX10_answer cX10_answer 4 (some .int) ({ frames := 6, cells := 0, slots := 0, locals := 151 } : Room) D ta G [.ref h0, .int i] [(h0, oM a ar mn tp osz lsz ns ct), (a 39, aK ta 2 se), (a 40, aK ta 2 lv), (a 48, aT ta 2 ha)] sz (S := Int32) (fun u => some (.int u)) (fun u => ((u : Int32) = -1)) (fun u => [(h0, oM a ar mn 0 osz lsz ns ct), (a 39, aK ta 2 se), (a 40, aK ta 2 lv), (a 48, aT ta 2 ha)]) 0 0 := by
  refine CT.of_i (r := fun u => u) rfl (by decide) (Nat.le_of_ble_eq_true rfl) ?_
  intro pp ee ss mm below meth kc A Q hx hb hml hown hin hts hK hA hsz hG hret H locs hP hD hS ls hl
  have hl : lv_has ls 4 [(0, .ref h0), (1, .int i)] := hl
  refine lv_aload_n (pc := 0) hx hb dX10_answer_0 rfl (lv_at hl 0 rfl) ?_
  refine cs_V (pc := 1) (idx := 310) (n := 0) (wr := [(a 39, aK ta 2 se), (a 40, aK ta 2 lv), (a 48, aT ta 2 ha)]) (As := []) (rest := []) (ci := 8) hx hb hml hown hts hGok hK hA hG hl.1 hP hD hS (ct_X10_use ll D ta hGok h0 a ar mn tp osz lsz ns ct  H.size) tw_1254 tw_1251 tw_1253 tw_28 tw_75 hdX10_use rfl ⟨rfl, rfl, Nat.le_of_ble_eq_true rfl, Nat.le_of_ble_eq_true rfl, Nat.le_of_ble_eq_true rfl, Nat.le_of_ble_eq_true rfl⟩ rfl rfl (q0 := 0) rfl [0] [1, 2, 3] rfl rfl (by decide) rfl (Nat.le_of_ble_eq_true rfl) dX10_answer_1 (fun u H locs hq hP hD hS => ?_)
  refine W.eq (g2 := F0 mm 4 ls [.int (nI tp)]) rfl ?_
  have hP : va_P D vwCl [(a 39, aK ta 2 se), (a 40, aK ta 2 lv), (a 48, aT ta 2 ha), (h0, oM a ar mn 0 osz lsz ns ct)] H := hP
  have hD : va_D A [(a 39, aK ta 2 se), (a 40, aK ta 2 lv), (a 48, aT ta 2 ha), (h0, oM a ar mn 0 osz lsz ns ct)] := hD
  refine lv_istore_n (pc := 4) (lv' := [(2, .int (nI tp)), (0, .ref h0), (1, .int i)]) hx hb dX10_answer_4 rfl hl (by decide) rfl (fun ls hl => ?_)
  refine lv_aload_n (pc := 5) hx hb dX10_answer_5 rfl (lv_at hl 1 rfl) ?_
  refine lv_iconst (pc := 6) (v := nI 1) hx hb dX10_answer_6 (by decide +kernel) ?_
  refine cs_V (pc := 7) (idx := 398) (n := 1) (wr := []) (As := [.int (nI 1)]) (rest := []) (ci := 8) hx hb hml hown hts hGok hK hA hG hl.1 hP hD hS (ct_X10_answers ll D ta hGok h0 a ar mn 0 osz lsz ns ct se lv ha 1 (by first | assumption | omega | rfl | decide) (by first | assumption | omega | rfl | decide) (by first | assumption | omega | rfl | decide) H.size) tw_1429 tw_1426 tw_1428 tw_61 tw_75 hdX10_answers rfl ⟨rfl, rfl, Nat.le_of_ble_eq_true rfl, Nat.le_of_ble_eq_true rfl, Nat.le_of_ble_eq_true rfl, Nat.le_of_ble_eq_true rfl⟩ rfl rfl (q0 := 3) rfl [3, 0, 1, 2] [] rfl rfl (by decide) rfl (Nat.le_of_ble_eq_true rfl) dX10_answer_7 (fun u H locs hq hP hD hS => ?_)
  generalize u = z_7 at hq hP hD ⊢
  have hq : (z_7 = decide (se 1 = 2 ∧ lv 1 &&& 16 ≠ 0 ∧ ha 1 = true)) := hq
  have hz_7 := hq
  refine W.eq (g2 := F0 mm 10 ls [.int (qb z_7)]) rfl ?_
  have hP : va_P D vwCl [(h0, oM a ar mn 0 osz lsz ns ct), (a 39, aK ta 2 se), (a 40, aK ta 2 lv), (a 48, aT ta 2 ha)] H := hP
  have hD : va_D A [(h0, oM a ar mn 0 osz lsz ns ct), (a 39, aK ta 2 se), (a 40, aK ta 2 lv), (a 48, aT ta 2 ha)] := hD
  refine lv_if_eq (pc := 10) (tgt := 31) hx hb dX10_answer_10 (by decide) (fun c_1 => ?_) (fun c_1 => ?_)
  · skip
    rw [q_beq] at c_1
    try rw [Bool.not_eq_false] at c_1
    have hzb := c_1
    refine lv_iconst (pc := 31) (v := (-1)) hx hb dX10_answer_31 (by decide +kernel) ?_
    refine q_top (y := (-1)) (by first | rfl | decide +kernel | (simp; done)) ?_
    have hq_2 : (((-1) : Int32) = -1) := by
      first | rfl | trivial | (refine ⟨?_, ?_⟩ <;> rfl) | (simp; done) | omega
    exact hret (-1) _ _ _ _ dX10_answer_32 hq_2 (hP.sub [0, 1, 2, 3] rfl) (hD.sub [0, 1, 2, 3] (by decide) rfl) hS
  · skip
    rw [q_beq] at c_1
    try rw [Bool.not_eq_false] at c_1
    have hzb := c_1
    refine lv_iload_n (pc := 13) hx hb dX10_answer_13 rfl (lv_at hl 0 rfl) ?_
    refine lv_sipush (pc := 14) (v := nI 200) hx hb dX10_answer_14 (by decide +kernel) ?_
    refine lv_icmp_gt (pc := 17) (tgt := 31) hx hb dX10_answer_17 (by decide) (fun c_3 => ?_) (fun c_3 => ?_)
    · skip
      rw [nI_ltI (by omega) (by omega)] at c_3
      refine lv_iconst (pc := 31) (v := (-1)) hx hb dX10_answer_31 (by decide +kernel) ?_
      refine q_top (y := (-1)) (by first | rfl | decide +kernel | (simp; done)) ?_
      have hq_4 : (((-1) : Int32) = -1) := by
        first | rfl | trivial | (refine ⟨?_, ?_⟩ <;> rfl) | (simp; done) | omega
      exact hret (-1) _ _ _ _ dX10_answer_32 hq_4 (hP.sub [0, 1, 2, 3] rfl) (hD.sub [0, 1, 2, 3] (by decide) rfl) hS
    · skip
      rw [nI_ltI (by omega) (by omega)] at c_3
      refine lv_iload_n (pc := 20) hx hb dX10_answer_20 rfl (lv_at hl 2 rfl) ?_
      refine lv_if_lt (pc := 21) (tgt := 31) hx hb dX10_answer_21 (by decide) (fun c_5 => ?_) (fun c_5 => ?_)
      · skip
        have hc0 := c_5
        refine lv_iconst (pc := 31) (v := (-1)) hx hb dX10_answer_31 (by decide +kernel) ?_
        refine q_top (y := (-1)) (by first | rfl | decide +kernel | (simp; done)) ?_
        have hq_6 : (((-1) : Int32) = -1) := by
          first | rfl | trivial | (refine ⟨?_, ?_⟩ <;> rfl) | (simp; done) | omega
        exact hret (-1) _ _ _ _ dX10_answer_32 hq_6 (hP.sub [0, 1, 2, 3] rfl) (hD.sub [0, 1, 2, 3] (by decide) rfl) hS
      · skip
        have hc0 := c_5
        refine lv_iload_n (pc := 24) hx hb dX10_answer_24 rfl (lv_at hl 2 rfl) ?_
        refine lv_ldcw (pc := 25) (v := (nI 65535)) hx hb hown (q_at (hts _ tw_1430) (by decide +kernel)) dX10_answer_25 ?_
        refine lv_icmp_le (pc := 28) (tgt := 33) hx hb dX10_answer_28 (by decide) (fun c_7 => ?_) (fun c_7 => ?_)
        · skip
          have hc1 := c_7
          exact absurd ⟨of_decide_eq_true (hz_7.symm.trans hzb), sw_ok hc0 (Int32.not_lt.mpr hc1), by omega⟩ hno
        · skip
          refine lv_iconst (pc := 31) (v := (-1)) hx hb dX10_answer_31 (by decide +kernel) ?_
          refine q_top (y := (-1)) (by first | rfl | decide +kernel | (simp; done)) ?_
          have hq_8 : (((-1) : Int32) = -1) := by
            first | rfl | trivial | (refine ⟨?_, ?_⟩ <;> rfl) | (simp; done) | omega
          exact hret (-1) _ _ _ _ dX10_answer_32 hq_8 (hP.sub [0, 1, 2, 3] rfl) (hD.sub [0, 1, 2, 3] (by decide) rfl) hS
theorem hdX10_accept : yX10_accept.cls ≠ "java/lang/invoke/MethodHandle" ∧ yX10_accept.cls ≠ "java/lang/invoke/VarHandle" ∧ (parseMethodDescriptor yX10_accept.desc).map (fun d => d.parameters.length) = some 1 := ⟨by decide +kernel, by decide +kernel, by decide +kernel⟩
theorem dX10_accept_0 : decode cX10_accept 0 = .ok (.aload_n 0, 1) := by decide +kernel
theorem dX10_accept_1 : decode cX10_accept 1 = .ok (.iconst 0, 1) := by decide +kernel
theorem dX10_accept_2 : decode cX10_accept 2 = .ok (.invokevirtual 398, 3) := by decide +kernel
theorem dX10_accept_5 : decode cX10_accept 5 = .ok (.ifCond .eq 14, 3) := by decide +kernel
theorem dX10_accept_8 : decode cX10_accept 8 = .ok (.iload_n 1, 1) := by decide +kernel
theorem dX10_accept_9 : decode cX10_accept 9 = .ok (.ifCond .lt 10, 3) := by decide +kernel
theorem dX10_accept_12 : decode cX10_accept 12 = .ok (.iload_n 1, 1) := by decide +kernel
theorem dX10_accept_13 : decode cX10_accept 13 = .ok (.ldc_w 401, 3) := by decide +kernel
theorem dX10_accept_16 : decode cX10_accept 16 = .ok (.if_icmp .le 5, 3) := by decide +kernel
theorem dX10_accept_19 : decode cX10_accept 19 = .ok (.iconst (-1), 1) := by decide +kernel
theorem dX10_accept_20 : decode cX10_accept 20 = .ok (.ireturn, 1) := by decide +kernel
theorem dX10_accept_21 : decode cX10_accept 21 = .ok (.aload_n 0, 1) := by decide +kernel
theorem dX10_accept_22 : decode cX10_accept 22 = .ok (.getfield 307, 3) := by decide +kernel
theorem dX10_accept_25 : decode cX10_accept 25 = .ok (.bipush 8, 2) := by decide +kernel
theorem dX10_accept_27 : decode cX10_accept 27 = .ok (.isub, 1) := by decide +kernel
theorem dX10_accept_28 : decode cX10_accept 28 = .ok (.istore_n 2, 1) := by decide +kernel
theorem dX10_accept_29 : decode cX10_accept 29 = .ok (.aload_n 0, 1) := by decide +kernel
theorem dX10_accept_30 : decode cX10_accept 30 = .ok (.iconst 0, 1) := by decide +kernel
theorem dX10_accept_31 : decode cX10_accept 31 = .ok (.putfield 307, 3) := by decide +kernel
theorem dX10_accept_34 : decode cX10_accept 34 = .ok (.iload_n 2, 1) := by decide +kernel
theorem dX10_accept_35 : decode cX10_accept 35 = .ok (.ifCond .ge 5, 3) := by decide +kernel
theorem dX10_accept_38 : decode cX10_accept 38 = .ok (.iconst 0, 1) := by decide +kernel
theorem dX10_accept_39 : decode cX10_accept 39 = .ok (.ireturn, 1) := by decide +kernel
theorem dX10_accept_40 : decode cX10_accept 40 = .ok (.aload_n 0, 1) := by decide +kernel
theorem dX10_accept_41 : decode cX10_accept 41 = .ok (.getfield 231, 3) := by decide +kernel
theorem dX10_accept_44 : decode cX10_accept 44 = .ok (.iconst 0, 1) := by decide +kernel
theorem dX10_accept_45 : decode cX10_accept 45 = .ok (.iaload, 1) := by decide +kernel
theorem dX10_accept_46 : decode cX10_accept 46 = .ok (.iconst 3, 1) := by decide +kernel
theorem dX10_accept_47 : decode cX10_accept 47 = .ok (.if_icmp .ne 23, 3) := by decide +kernel
theorem dX10_accept_50 : decode cX10_accept 50 = .ok (.aload_n 0, 1) := by decide +kernel
theorem dX10_accept_51 : decode cX10_accept 51 = .ok (.getfield 243, 3) := by decide +kernel
theorem dX10_accept_54 : decode cX10_accept 54 = .ok (.iconst 0, 1) := by decide +kernel
theorem dX10_accept_55 : decode cX10_accept 55 = .ok (.iaload, 1) := by decide +kernel
theorem dX10_accept_56 : decode cX10_accept 56 = .ok (.bipush 32, 2) := by decide +kernel
theorem dX10_accept_58 : decode cX10_accept 58 = .ok (.iand, 1) := by decide +kernel
theorem dX10_accept_59 : decode cX10_accept 59 = .ok (.ifCond .le 11, 3) := by decide +kernel
theorem dX10_accept_62 : decode cX10_accept 62 = .ok (.iload_n 2, 1) := by decide +kernel
theorem dX10_accept_63 : decode cX10_accept 63 = .ok (.ifCond .le 7, 3) := by decide +kernel
theorem dX10_accept_66 : decode cX10_accept 66 = .ok (.iconst 1, 1) := by decide +kernel
theorem dX10_accept_67 : decode cX10_accept 67 = .ok (.goto 4, 3) := by decide +kernel
theorem dX10_accept_70 : decode cX10_accept 70 = .ok (.iconst 0, 1) := by decide +kernel
theorem dX10_accept_71 : decode cX10_accept 71 = .ok (.istore_n 3, 1) := by decide +kernel
theorem dX10_accept_72 : decode cX10_accept 72 = .ok (.aload_n 0, 1) := by decide +kernel
theorem dX10_accept_73 : decode cX10_accept 73 = .ok (.iconst 0, 1) := by decide +kernel
theorem dX10_accept_74 : decode cX10_accept 74 = .ok (.aload_n 0, 1) := by decide +kernel
theorem dX10_accept_75 : decode cX10_accept 75 = .ok (.getfield 225, 3) := by decide +kernel
theorem dX10_accept_78 : decode cX10_accept 78 = .ok (.iload_n 2, 1) := by decide +kernel
theorem dX10_accept_79 : decode cX10_accept 79 = .ok (.iload_n 1, 1) := by decide +kernel
theorem dX10_accept_80 : decode cX10_accept 80 = .ok (.invokevirtual 402, 3) := by decide +kernel
theorem dX10_accept_83 : decode cX10_accept 83 = .ok (.aload_n 0, 1) := by decide +kernel
theorem dX10_accept_84 : decode cX10_accept 84 = .ok (.iload_n 2, 1) := by decide +kernel
theorem dX10_accept_85 : decode cX10_accept 85 = .ok (.invokevirtual 385, 3) := by decide +kernel
theorem dX10_accept_88 : decode cX10_accept 88 = .ok (.ifCond .ne 5, 3) := by decide +kernel
theorem dX10_accept_91 : decode cX10_accept 91 = .ok (.iconst 0, 1) := by decide +kernel
theorem dX10_accept_92 : decode cX10_accept 92 = .ok (.ireturn, 1) := by decide +kernel
theorem dX10_accept_93 : decode cX10_accept 93 = .ok (.iconst 0, 1) := by decide +kernel
theorem dX10_accept_94 : decode cX10_accept 94 = .ok (.istore 4, 2) := by decide +kernel
theorem dX10_accept_96 : decode cX10_accept 96 = .ok (.iload 4, 2) := by decide +kernel
theorem dX10_accept_98 : decode cX10_accept 98 = .ok (.iload_n 2, 1) := by decide +kernel
theorem dX10_accept_99 : decode cX10_accept 99 = .ok (.if_icmp .ge 23, 3) := by decide +kernel
theorem dX10_accept_102 : decode cX10_accept 102 = .ok (.aload_n 0, 1) := by decide +kernel
theorem dX10_accept_103 : decode cX10_accept 103 = .ok (.getfield 286, 3) := by decide +kernel
theorem dX10_accept_106 : decode cX10_accept 106 = .ok (.iload 4, 2) := by decide +kernel
theorem dX10_accept_108 : decode cX10_accept 108 = .ok (.aload_n 0, 1) := by decide +kernel
theorem dX10_accept_109 : decode cX10_accept 109 = .ok (.getfield 225, 3) := by decide +kernel
theorem dX10_accept_112 : decode cX10_accept 112 = .ok (.iload 4, 2) := by decide +kernel
theorem dX10_accept_114 : decode cX10_accept 114 = .ok (.baload, 1) := by decide +kernel
theorem dX10_accept_115 : decode cX10_accept 115 = .ok (.bastore, 1) := by decide +kernel
theorem dX10_accept_116 : decode cX10_accept 116 = .ok (.iinc 4 1, 3) := by decide +kernel
theorem dX10_accept_119 : decode cX10_accept 119 = .ok (.goto (-23), 3) := by decide +kernel
theorem dX10_accept_122 : decode cX10_accept 122 = .ok (.iload_n 2, 1) := by decide +kernel
theorem dX10_accept_123 : decode cX10_accept 123 = .ok (.istore 4, 2) := by decide +kernel
theorem dX10_accept_125 : decode cX10_accept 125 = .ok (.iload_n 3, 1) := by decide +kernel
theorem dX10_accept_126 : decode cX10_accept 126 = .ok (.ifCond .eq 12, 3) := by decide +kernel
theorem dX10_accept_129 : decode cX10_accept 129 = .ok (.aload_n 0, 1) := by decide +kernel
theorem dX10_accept_130 : decode cX10_accept 130 = .ok (.iconst 0, 1) := by decide +kernel
theorem dX10_accept_131 : decode cX10_accept 131 = .ok (.iload_n 2, 1) := by decide +kernel
theorem dX10_accept_132 : decode cX10_accept 132 = .ok (.iconst 1, 1) := by decide +kernel
theorem dX10_accept_133 : decode cX10_accept 133 = .ok (.invokevirtual 388, 3) := by decide +kernel
theorem dX10_accept_136 : decode cX10_accept 136 = .ok (.istore 4, 2) := by decide +kernel
theorem dX10_accept_138 : decode cX10_accept 138 = .ok (.iload 4, 2) := by decide +kernel
theorem dX10_accept_140 : decode cX10_accept 140 = .ok (.iconst (-1), 1) := by decide +kernel
theorem dX10_accept_141 : decode cX10_accept 141 = .ok (.if_icmp .ne 5, 3) := by decide +kernel
theorem dX10_accept_144 : decode cX10_accept 144 = .ok (.iconst 0, 1) := by decide +kernel
theorem dX10_accept_145 : decode cX10_accept 145 = .ok (.ireturn, 1) := by decide +kernel
theorem dX10_accept_146 : decode cX10_accept 146 = .ok (.aload_n 0, 1) := by decide +kernel
theorem dX10_accept_147 : decode cX10_accept 147 = .ok (.getfield 231, 3) := by decide +kernel
theorem dX10_accept_150 : decode cX10_accept 150 = .ok (.iconst 0, 1) := by decide +kernel
theorem dX10_accept_151 : decode cX10_accept 151 = .ok (.iaload, 1) := by decide +kernel
theorem dX10_accept_152 : decode cX10_accept 152 = .ok (.iconst 2, 1) := by decide +kernel
theorem dX10_accept_153 : decode cX10_accept 153 = .ok (.if_icmp .ne 33, 3) := by decide +kernel
theorem dX10_accept_156 : decode cX10_accept 156 = .ok (.iconst 0, 1) := by decide +kernel
theorem dX10_accept_157 : decode cX10_accept 157 = .ok (.istore 5, 2) := by decide +kernel
theorem dX10_accept_159 : decode cX10_accept 159 = .ok (.iload 5, 2) := by decide +kernel
theorem dX10_accept_161 : decode cX10_accept 161 = .ok (.bipush 8, 2) := by decide +kernel
theorem dX10_accept_163 : decode cX10_accept 163 = .ok (.if_icmp .ge 23, 3) := by decide +kernel
theorem dX10_accept_166 : decode cX10_accept 166 = .ok (.aload_n 0, 1) := by decide +kernel
theorem dX10_accept_167 : decode cX10_accept 167 = .ok (.getfield 261, 3) := by decide +kernel
theorem dX10_accept_170 : decode cX10_accept 170 = .ok (.iload 5, 2) := by decide +kernel
theorem dX10_accept_172 : decode cX10_accept 172 = .ok (.aload_n 0, 1) := by decide +kernel
theorem dX10_accept_173 : decode cX10_accept 173 = .ok (.getfield 289, 3) := by decide +kernel
theorem dX10_accept_176 : decode cX10_accept 176 = .ok (.iload 5, 2) := by decide +kernel
theorem dX10_accept_178 : decode cX10_accept 178 = .ok (.baload, 1) := by decide +kernel
theorem dX10_accept_179 : decode cX10_accept 179 = .ok (.bastore, 1) := by decide +kernel
theorem dX10_accept_180 : decode cX10_accept 180 = .ok (.iinc 5 1, 3) := by decide +kernel
theorem dX10_accept_183 : decode cX10_accept 183 = .ok (.goto (-24), 3) := by decide +kernel
theorem dX10_accept_186 : decode cX10_accept 186 = .ok (.iconst 0, 1) := by decide +kernel
theorem dX10_accept_187 : decode cX10_accept 187 = .ok (.istore 5, 2) := by decide +kernel
theorem dX10_accept_189 : decode cX10_accept 189 = .ok (.iload 5, 2) := by decide +kernel
theorem dX10_accept_191 : decode cX10_accept 191 = .ok (.iload 4, 2) := by decide +kernel
theorem dX10_accept_193 : decode cX10_accept 193 = .ok (.if_icmp .ge 37, 3) := by decide +kernel
theorem dX10_accept_196 : decode cX10_accept 196 = .ok (.aload_n 0, 1) := by decide +kernel
theorem dX10_accept_197 : decode cX10_accept 197 = .ok (.getfield 222, 3) := by decide +kernel
theorem dX10_accept_200 : decode cX10_accept 200 = .ok (.iload 5, 2) := by decide +kernel
theorem dX10_accept_202 : decode cX10_accept 202 = .ok (.iload_n 3, 1) := by decide +kernel
theorem dX10_accept_203 : decode cX10_accept 203 = .ok (.ifCond .eq 13, 3) := by decide +kernel
theorem dX10_accept_206 : decode cX10_accept 206 = .ok (.aload_n 0, 1) := by decide +kernel
theorem dX10_accept_207 : decode cX10_accept 207 = .ok (.getfield 286, 3) := by decide +kernel
theorem dX10_accept_210 : decode cX10_accept 210 = .ok (.iload 5, 2) := by decide +kernel
theorem dX10_accept_212 : decode cX10_accept 212 = .ok (.baload, 1) := by decide +kernel
theorem dX10_accept_213 : decode cX10_accept 213 = .ok (.goto 10, 3) := by decide +kernel
theorem dX10_accept_216 : decode cX10_accept 216 = .ok (.aload_n 0, 1) := by decide +kernel
theorem dX10_accept_217 : decode cX10_accept 217 = .ok (.getfield 225, 3) := by decide +kernel
theorem dX10_accept_220 : decode cX10_accept 220 = .ok (.iload 5, 2) := by decide +kernel
theorem dX10_accept_222 : decode cX10_accept 222 = .ok (.baload, 1) := by decide +kernel
theorem dX10_accept_223 : decode cX10_accept 223 = .ok (.bastore, 1) := by decide +kernel
theorem dX10_accept_224 : decode cX10_accept 224 = .ok (.iinc 5 1, 3) := by decide +kernel
theorem dX10_accept_227 : decode cX10_accept 227 = .ok (.goto (-38), 3) := by decide +kernel
theorem dX10_accept_230 : decode cX10_accept 230 = .ok (.aload_n 0, 1) := by decide +kernel
theorem dX10_accept_231 : decode cX10_accept 231 = .ok (.iload 4, 2) := by decide +kernel
theorem dX10_accept_233 : decode cX10_accept 233 = .ok (.putfield 304, 3) := by decide +kernel
theorem dX10_accept_236 : decode cX10_accept 236 = .ok (.iconst 1, 1) := by decide +kernel
theorem dX10_accept_237 : decode cX10_accept 237 = .ok (.ireturn, 1) := by decide +kernel
set_option maxHeartbeats 4000000 in
set_option maxRecDepth 100000 in
theorem ct_X10_accept_no (ll : Launch) (D : va_G) (ta : Nat → ClassId) {G : (Nat → Prop) → State → Heap → Prop} (hGok : GOK G) (h0 : Nat) (a : Nat → Nat) (ar : Nat) (mn : Nat) (tp : Nat) (osz : Nat) (lsz : Nat) (ns : Nat) (ct : Nat) (se : Nat → Nat) (lv : Nat → Nat) (ha : Nat → Bool) (i : Int32) (hse : se 0 ≤ 2) (hlv : lv 0 < 256) (hno : ¬ ((se 0 = 2 ∧ lv 0 &&& 16 ≠ 0 ∧ ha 0 = true) ∧ swB i = true)) (sz : Nat) : CT ll yX10_accept cX10_accept 6 (some .int) ({ frames := 6, cells := 0, slots := 0, locals := 151 } : Room) D ta G [.ref h0, .int i] [(h0, oM a ar mn tp osz lsz ns ct), (a 39, aK ta 2 se), (a 40, aK ta 2 lv), (a 48, aT ta 2 ha)] sz (S := Int32) (fun u => some (.int u)) (fun u => ((u : Int32) = -1)) (fun u => [(h0, oM a ar mn tp osz lsz ns ct), (a 39, aK ta 2 se), (a 40, aK ta 2 lv), (a 48, aT ta 2 ha)]) 0 0 := by
  refine CT.of_i (r := fun u => u) rfl (by decide) (Nat.le_of_ble_eq_true rfl) ?_
  intro pp ee ss mm below meth kc A Q hx hb hml hown hin hts hK hA hsz hG hret H locs hP hD hS ls hl
  have hl : lv_has ls 6 [(0, .ref h0), (1, .int i)] := hl
  refine lv_aload_n (pc := 0) hx hb dX10_accept_0 rfl (lv_at hl 0 rfl) ?_
  refine lv_iconst (pc := 1) (v := nI 0) hx hb dX10_accept_1 (by decide +kernel) ?_
  refine cs_V (pc := 2) (idx := 398) (n := 1) (wr := []) (As := [.int (nI 0)]) (rest := []) (ci := 8) hx hb hml hown hts hGok hK hA hG hl.1 hP hD hS (ct_X10_answers ll D ta hGok h0 a ar mn tp osz lsz ns ct se lv ha 0 (by first | assumption | omega | rfl | decide) (by first | assumption | omega | rfl | decide) (by first | assumption | omega | rfl | decide) H.size) tw_1429 tw_1426 tw_1428 tw_61 tw_75 hdX10_answers rfl ⟨rfl, rfl, Nat.le_of_ble_eq_true rfl, Nat.le_of_ble_eq_true rfl, Nat.le_of_ble_eq_true rfl, Nat.le_of_ble_eq_true rfl⟩ rfl rfl (q0 := 0) rfl [0, 1, 2, 3] [] rfl rfl (by decide) rfl (Nat.le_of_ble_eq_true rfl) dX10_accept_2 (fun u H locs hq hP hD hS => ?_)
  generalize u = z_2 at hq hP hD ⊢
  have hq : (z_2 = decide (se 0 = 2 ∧ lv 0 &&& 16 ≠ 0 ∧ ha 0 = true)) := hq
  have hz_2 := hq
  refine W.eq (g2 := F0 mm 5 ls [.int (qb z_2)]) rfl ?_
  have hP : va_P D vwCl [(h0, oM a ar mn tp osz lsz ns ct), (a 39, aK ta 2 se), (a 40, aK ta 2 lv), (a 48, aT ta 2 ha)] H := hP
  have hD : va_D A [(h0, oM a ar mn tp osz lsz ns ct), (a 39, aK ta 2 se), (a 40, aK ta 2 lv), (a 48, aT ta 2 ha)] := hD
  refine lv_if_eq (pc := 5) (tgt := 19) hx hb dX10_accept_5 (by decide) (fun c_1 => ?_) (fun c_1 => ?_)
  · skip
    rw [q_beq] at c_1
    try rw [Bool.not_eq_false] at c_1
    have hzb := c_1
    refine lv_iconst (pc := 19) (v := (-1)) hx hb dX10_accept_19 (by decide +kernel) ?_
    refine q_top (y := (-1)) (by first | rfl | decide +kernel | (simp; done)) ?_
    have hq_2 : (((-1) : Int32) = -1) := by
      first | rfl | trivial | (refine ⟨?_, ?_⟩ <;> rfl) | (simp; done) | omega
    exact hret (-1) _ _ _ _ dX10_accept_20 hq_2 (hP.sub [0, 1, 2, 3] rfl) (hD.sub [0, 1, 2, 3] (by decide) rfl) hS
  · skip
    rw [q_beq] at c_1
    try rw [Bool.not_eq_false] at c_1
    have hzb := c_1
    refine lv_iload_n (pc := 8) hx hb dX10_accept_8 rfl (lv_at hl 1 rfl) ?_
    refine lv_if_lt (pc := 9) (tgt := 19) hx hb dX10_accept_9 (by decide) (fun c_3 => ?_) (fun c_3 => ?_)
    · skip
      have hc0 := c_3
      refine lv_iconst (pc := 19) (v := (-1)) hx hb dX10_accept_19 (by decide +kernel) ?_
      refine q_top (y := (-1)) (by first | rfl | decide +kernel | (simp; done)) ?_
      have hq_4 : (((-1) : Int32) = -1) := by
        first | rfl | trivial | (refine ⟨?_, ?_⟩ <;> rfl) | (simp; done) | omega
      exact hret (-1) _ _ _ _ dX10_accept_20 hq_4 (hP.sub [0, 1, 2, 3] rfl) (hD.sub [0, 1, 2, 3] (by decide) rfl) hS
    · skip
      have hc0 := c_3
      refine lv_iload_n (pc := 12) hx hb dX10_accept_12 rfl (lv_at hl 1 rfl) ?_
      refine lv_ldcw (pc := 13) (v := (nI 65535)) hx hb hown (q_at (hts _ tw_1430) (by decide +kernel)) dX10_accept_13 ?_
      refine lv_icmp_le (pc := 16) (tgt := 21) hx hb dX10_accept_16 (by decide) (fun c_5 => ?_) (fun c_5 => ?_)
      · skip
        have hc1 := c_5
        exact absurd ⟨of_decide_eq_true (hz_2.symm.trans hzb), sw_ok hc0 (Int32.not_lt.mpr hc1)⟩ hno
      · skip
        refine lv_iconst (pc := 19) (v := (-1)) hx hb dX10_accept_19 (by decide +kernel) ?_
        refine q_top (y := (-1)) (by first | rfl | decide +kernel | (simp; done)) ?_
        have hq_6 : (((-1) : Int32) = -1) := by
          first | rfl | trivial | (refine ⟨?_, ?_⟩ <;> rfl) | (simp; done) | omega
        exact hret (-1) _ _ _ _ dX10_accept_20 hq_6 (hP.sub [0, 1, 2, 3] rfl) (hD.sub [0, 1, 2, 3] (by decide) rfl) hS
set_option maxHeartbeats 4000000 in
set_option maxRecDepth 100000 in
theorem ct_X10_answer_2 (ll : Launch) (D : va_G) (ta : Nat → ClassId) {G : (Nat → Prop) → State → Heap → Prop} (hGok : GOK G) (h0 : Nat) (a : Nat → Nat) (ar : Nat) (mn : Nat) (tp : Nat) (osz : Nat) (lsz : Nat) (ns : Nat) (ct : Nat) (bi : Nat → Bool) (tu : Nat → Bool) (cd : Nat → Bool) (sk : Nat → Bool) (hf : Nat → Bool) (wd : Nat → Bool) (gm : Nat → BitVec 8) (mac : Nat → BitVec 8) (gco : Nat → BitVec 8) (gke : Nat → BitVec 8) (gli : Nat → BitVec 8) (gwk : Nat → BitVec 8) (gcm : Nat → BitVec 8) (gbc : Nat → BitVec 8) (ru : Nat → Nat) (cs : Nat → Nat) (se : Nat → Nat) (lv : Nat → Nat) (ha : Nat → Bool) (gtp : Nat → BitVec 8) (sw9 : Nat) (hse : se 1 = 2) (hlv : lv 1 < 256) (hl16 : lv 1 &&& 16 ≠ 0) (hha : ha 1 = true) (hru : ru 1 = 2) (hsw : sw9 < 65536) (hcs : 4 ≤ cs 1 ∧ cs 1 ≤ 204) (htp : tp ≤ 200) (sz : Nat) : CT ll yX10_answer cX10_answer 4 (some .int) ({ frames := 6, cells := 0, slots := 0, locals := 151 } : Room) D ta G [.ref h0, .int (nI sw9)] [(h0, oM a ar mn tp osz lsz ns ct), (a 0, aK ta 64 tIP), (a 1, aK ta 48 tSPR), (a 2, aK ta 32 tMIX), (a 3, aK ta 56 tCH), (a 4, aK ta 48 tSEC), (a 5, aK ta 512 tSBX), (a 10, aB ta 64 bi), (a 11, aB ta 64 tu), (a 12, aB ta 56 cd), (a 13, aB ta 768 sk), (a 14, aB ta 32 hf), (a 15, aB ta 48 wd), (a 22, aS ta 700 gm), (a 24, aS ta 16 mac), (a 55, aS ta 16 gco), (a 41, aS ta 256 gke), (a 36, aK ta 2 ru), (a 50, aK ta 2 cs), (a 31, aS ta 300 gli), (a 54, aS ta 300 gwk), (a 39, aK ta 2 se), (a 40, aK ta 2 lv), (a 48, aT ta 2 ha), (a 49, aS ta 408 gcm), (a 46, aS ta 16 gbc), (a 27, aS ta 400 gtp)] sz (S := (Nat → Bool) × (Nat → Bool) × (Nat → Bool) × (Nat → Bool) × (Nat → Bool) × (Nat → Bool) × (Nat → BitVec 8) × (Nat → BitVec 8) × (Nat → BitVec 8) × (Nat → BitVec 8) × (Nat → BitVec 8) × Nat × (Nat → BitVec 8) × Nat) (fun u => some (.int (nI u.2.2.2.2.2.2.2.2.2.2.2.2.2))) (fun u => (seg u.2.2.2.2.2.2.2.2.1 0 8 = ansCode2 (seg gke 192 16) (seg gbc 8 8) (seg gcm 204 (cs 1)) (qL gtp tp) sw9) ∧ (seg u.2.2.2.2.2.2.2.2.2.2.1 8 8 = seg u.2.2.2.2.2.2.2.2.1 0 8) ∧ (∀ j, j < 8 → u.2.2.2.2.2.2.2.2.2.2.1 j = gbc j) ∧ (qL u.2.2.2.2.2.2.2.2.2.2.2.2.1 u.2.2.2.2.2.2.2.2.2.2.2.2.2 = (qL gtp tp) ++ seg u.2.2.2.2.2.2.2.2.1 0 8) ∧ (u.2.2.2.2.2.2.2.2.2.2.2.2.2 = (qL gtp tp).length + 8 ∧ u.2.2.2.2.2.2.2.2.2.2.2.2.2 ≤ 216)) (fun u => [(h0, oM a ar u.2.2.2.2.2.2.2.2.2.2.2.1 0 osz u.2.2.2.2.2.2.2.2.2.2.2.2.2 ns ct), (a 0, aK ta 64 tIP), (a 1, aK ta 48 tSPR), (a 2, aK ta 32 tMIX), (a 3, aK ta 56 tCH), (a 4, aK ta 48 tSEC), (a 5, aK ta 512 tSBX), (a 10, aB ta 64 u.1), (a 11, aB ta 64 u.2.1), (a 12, aB ta 56 u.2.2.1), (a 13, aB ta 768 u.2.2.2.1), (a 14, aB ta 32 u.2.2.2.2.1), (a 15, aB ta 48 u.2.2.2.2.2.1), (a 22, aS ta 700 u.2.2.2.2.2.2.1), (a 24, aS ta 16 u.2.2.2.2.2.2.2.1), (a 55, aS ta 16 u.2.2.2.2.2.2.2.2.1), (a 41, aS ta 256 gke), (a 36, aK ta 2 ru), (a 50, aK ta 2 cs), (a 31, aS ta 300 u.2.2.2.2.2.2.2.2.2.2.2.2.1), (a 54, aS ta 300 u.2.2.2.2.2.2.2.2.2.1), (a 39, aK ta 2 se), (a 40, aK ta 2 lv), (a 48, aT ta 2 ha), (a 49, aS ta 408 gcm), (a 46, aS ta 16 u.2.2.2.2.2.2.2.2.2.2.1), (a 27, aS ta 400 gtp)]) 0 0 := by
  refine CT.of_i (r := fun u => nI u.2.2.2.2.2.2.2.2.2.2.2.2.2) rfl (by decide) (Nat.le_of_ble_eq_true rfl) ?_
  intro pp ee ss mm below meth kc A Q hx hb hml hown hin hts hK hA hsz hG hret H locs hP hD hS ls hl
  have hl : lv_has ls 4 [(0, .ref h0), (1, .int (nI sw9))] := hl
  refine lv_aload_n (pc := 0) hx hb dX10_answer_0 rfl (lv_at hl 0 rfl) ?_
  refine cs_V (pc := 1) (idx := 310) (n := 0) (wr := [(a 0, aK ta 64 tIP), (a 1, aK ta 48 tSPR), (a 2, aK ta 32 tMIX), (a 3, aK ta 56 tCH), (a 4, aK ta 48 tSEC), (a 5, aK ta 512 tSBX), (a 10, aB ta 64 bi), (a 11, aB ta 64 tu), (a 12, aB ta 56 cd), (a 13, aB ta 768 sk), (a 14, aB ta 32 hf), (a 15, aB ta 48 wd), (a 22, aS ta 700 gm), (a 24, aS ta 16 mac), (a 55, aS ta 16 gco), (a 41, aS ta 256 gke), (a 36, aK ta 2 ru), (a 50, aK ta 2 cs), (a 31, aS ta 300 gli), (a 54, aS ta 300 gwk), (a 39, aK ta 2 se), (a 40, aK ta 2 lv), (a 48, aT ta 2 ha), (a 49, aS ta 408 gcm), (a 46, aS ta 16 gbc), (a 27, aS ta 400 gtp)]) (As := []) (rest := []) (ci := 8) hx hb hml hown hts hGok hK hA hG hl.1 hP hD hS (ct_X10_use ll D ta hGok h0 a ar mn tp osz lsz ns ct  H.size) tw_1254 tw_1251 tw_1253 tw_28 tw_75 hdX10_use rfl ⟨rfl, rfl, Nat.le_of_ble_eq_true rfl, Nat.le_of_ble_eq_true rfl, Nat.le_of_ble_eq_true rfl, Nat.le_of_ble_eq_true rfl⟩ rfl rfl (q0 := 0) rfl [0] [1, 2, 3, 4, 5, 6, 7, 8, 9, 10, 11, 12, 13, 14, 15, 16, 17, 18, 19, 20, 21, 22, 23, 24, 25, 26] rfl rfl (by decide) rfl (Nat.le_of_ble_eq_true rfl) dX10_answer_1 (fun u H locs hq hP hD hS => ?_)
  refine W.eq (g2 := F0 mm 4 ls [.int (nI tp)]) rfl ?_
  have hP : va_P D vwCl [(a 0, aK ta 64 tIP), (a 1, aK ta 48 tSPR), (a 2, aK ta 32 tMIX), (a 3, aK ta 56 tCH), (a 4, aK ta 48 tSEC), (a 5, aK ta 512 tSBX), (a 10, aB ta 64 bi), (a 11, aB ta 64 tu), (a 12, aB ta 56 cd), (a 13, aB ta 768 sk), (a 14, aB ta 32 hf), (a 15, aB ta 48 wd), (a 22, aS ta 700 gm), (a 24, aS ta 16 mac), (a 55, aS ta 16 gco), (a 41, aS ta 256 gke), (a 36, aK ta 2 ru), (a 50, aK ta 2 cs), (a 31, aS ta 300 gli), (a 54, aS ta 300 gwk), (a 39, aK ta 2 se), (a 40, aK ta 2 lv), (a 48, aT ta 2 ha), (a 49, aS ta 408 gcm), (a 46, aS ta 16 gbc), (a 27, aS ta 400 gtp), (h0, oM a ar mn 0 osz lsz ns ct)] H := hP
  have hD : va_D A [(a 0, aK ta 64 tIP), (a 1, aK ta 48 tSPR), (a 2, aK ta 32 tMIX), (a 3, aK ta 56 tCH), (a 4, aK ta 48 tSEC), (a 5, aK ta 512 tSBX), (a 10, aB ta 64 bi), (a 11, aB ta 64 tu), (a 12, aB ta 56 cd), (a 13, aB ta 768 sk), (a 14, aB ta 32 hf), (a 15, aB ta 48 wd), (a 22, aS ta 700 gm), (a 24, aS ta 16 mac), (a 55, aS ta 16 gco), (a 41, aS ta 256 gke), (a 36, aK ta 2 ru), (a 50, aK ta 2 cs), (a 31, aS ta 300 gli), (a 54, aS ta 300 gwk), (a 39, aK ta 2 se), (a 40, aK ta 2 lv), (a 48, aT ta 2 ha), (a 49, aS ta 408 gcm), (a 46, aS ta 16 gbc), (a 27, aS ta 400 gtp), (h0, oM a ar mn 0 osz lsz ns ct)] := hD
  refine lv_istore_n (pc := 4) (lv' := [(2, .int (nI tp)), (0, .ref h0), (1, .int (nI sw9))]) hx hb dX10_answer_4 rfl hl (by decide) rfl (fun ls hl => ?_)
  refine lv_aload_n (pc := 5) hx hb dX10_answer_5 rfl (lv_at hl 1 rfl) ?_
  refine lv_iconst (pc := 6) (v := nI 1) hx hb dX10_answer_6 (by decide +kernel) ?_
  refine cs_V (pc := 7) (idx := 398) (n := 1) (wr := [(a 0, aK ta 64 tIP), (a 1, aK ta 48 tSPR), (a 2, aK ta 32 tMIX), (a 3, aK ta 56 tCH), (a 4, aK ta 48 tSEC), (a 5, aK ta 512 tSBX), (a 10, aB ta 64 bi), (a 11, aB ta 64 tu), (a 12, aB ta 56 cd), (a 13, aB ta 768 sk), (a 14, aB ta 32 hf), (a 15, aB ta 48 wd), (a 22, aS ta 700 gm), (a 24, aS ta 16 mac), (a 55, aS ta 16 gco), (a 41, aS ta 256 gke), (a 36, aK ta 2 ru), (a 50, aK ta 2 cs), (a 31, aS ta 300 gli), (a 54, aS ta 300 gwk), (a 49, aS ta 408 gcm), (a 46, aS ta 16 gbc), (a 27, aS ta 400 gtp)]) (As := [.int (nI 1)]) (rest := []) (ci := 8) hx hb hml hown hts hGok hK hA hG hl.1 hP hD hS (ct_X10_answers ll D ta hGok h0 a ar mn 0 osz lsz ns ct se lv ha 1 (by first | assumption | omega | rfl | decide) (by first | assumption | omega | rfl | decide) (by first | assumption | omega | rfl | decide) H.size) tw_1429 tw_1426 tw_1428 tw_61 tw_75 hdX10_answers rfl ⟨rfl, rfl, Nat.le_of_ble_eq_true rfl, Nat.le_of_ble_eq_true rfl, Nat.le_of_ble_eq_true rfl, Nat.le_of_ble_eq_true rfl⟩ rfl rfl (q0 := 26) rfl [26, 20, 21, 22] [0, 1, 2, 3, 4, 5, 6, 7, 8, 9, 10, 11, 12, 13, 14, 15, 16, 17, 18, 19, 23, 24, 25] rfl rfl (by decide) rfl (Nat.le_of_ble_eq_true rfl) dX10_answer_7 (fun u H locs hq hP hD hS => ?_)
  generalize u = z_7 at hq hP hD ⊢
  have hq : (z_7 = decide (se 1 = 2 ∧ lv 1 &&& 16 ≠ 0 ∧ ha 1 = true)) := hq
  have hz_7 := hq
  refine W.eq (g2 := F0 mm 10 ls [.int (qb z_7)]) rfl ?_
  have hP : va_P D vwCl [(a 0, aK ta 64 tIP), (a 1, aK ta 48 tSPR), (a 2, aK ta 32 tMIX), (a 3, aK ta 56 tCH), (a 4, aK ta 48 tSEC), (a 5, aK ta 512 tSBX), (a 10, aB ta 64 bi), (a 11, aB ta 64 tu), (a 12, aB ta 56 cd), (a 13, aB ta 768 sk), (a 14, aB ta 32 hf), (a 15, aB ta 48 wd), (a 22, aS ta 700 gm), (a 24, aS ta 16 mac), (a 55, aS ta 16 gco), (a 41, aS ta 256 gke), (a 36, aK ta 2 ru), (a 50, aK ta 2 cs), (a 31, aS ta 300 gli), (a 54, aS ta 300 gwk), (a 49, aS ta 408 gcm), (a 46, aS ta 16 gbc), (a 27, aS ta 400 gtp), (h0, oM a ar mn 0 osz lsz ns ct), (a 39, aK ta 2 se), (a 40, aK ta 2 lv), (a 48, aT ta 2 ha)] H := hP
  have hD : va_D A [(a 0, aK ta 64 tIP), (a 1, aK ta 48 tSPR), (a 2, aK ta 32 tMIX), (a 3, aK ta 56 tCH), (a 4, aK ta 48 tSEC), (a 5, aK ta 512 tSBX), (a 10, aB ta 64 bi), (a 11, aB ta 64 tu), (a 12, aB ta 56 cd), (a 13, aB ta 768 sk), (a 14, aB ta 32 hf), (a 15, aB ta 48 wd), (a 22, aS ta 700 gm), (a 24, aS ta 16 mac), (a 55, aS ta 16 gco), (a 41, aS ta 256 gke), (a 36, aK ta 2 ru), (a 50, aK ta 2 cs), (a 31, aS ta 300 gli), (a 54, aS ta 300 gwk), (a 49, aS ta 408 gcm), (a 46, aS ta 16 gbc), (a 27, aS ta 400 gtp), (h0, oM a ar mn 0 osz lsz ns ct), (a 39, aK ta 2 se), (a 40, aK ta 2 lv), (a 48, aT ta 2 ha)] := hD
  refine lv_if_eq (pc := 10) (tgt := 31) hx hb dX10_answer_10 (by decide) (fun c_1 => ?_) (fun c_1 => ?_)
  · skip
    rw [q_beq] at c_1
    try rw [Bool.not_eq_false] at c_1
    rw [hz_7, decide_eq_true (⟨hse, hl16, hha⟩ : (se 1 = 2 ∧ lv 1 &&& 16 ≠ 0 ∧ ha 1 = true))] at c_1; cases c_1
  · skip
    rw [q_beq] at c_1
    try rw [Bool.not_eq_false] at c_1
    refine lv_iload_n (pc := 13) hx hb dX10_answer_13 rfl (lv_at hl 0 rfl) ?_
    refine lv_sipush (pc := 14) (v := nI 200) hx hb dX10_answer_14 (by decide +kernel) ?_
    refine lv_icmp_gt (pc := 17) (tgt := 31) hx hb dX10_answer_17 (by decide) (fun c_2 => ?_) (fun c_2 => ?_)
    · skip
      rw [nI_ltI (by omega) (by omega)] at c_2
      exfalso; omega
    · skip
      rw [nI_ltI (by omega) (by omega)] at c_2
      refine lv_iload_n (pc := 20) hx hb dX10_answer_20 rfl (lv_at hl 2 rfl) ?_
      refine lv_if_lt (pc := 21) (tgt := 31) hx hb dX10_answer_21 (by decide) (fun c_3 => ?_) (fun _ => ?_)
      · skip
        rw [q_lt0 (by omega)] at c_3
        exact c_3.elim
      refine lv_iload_n (pc := 24) hx hb dX10_answer_24 rfl (lv_at hl 2 rfl) ?_
      refine lv_ldcw (pc := 25) (v := (nI 65535)) hx hb hown (q_at (hts _ tw_1430) (by decide +kernel)) dX10_answer_25 ?_
      refine lv_icmp_le (pc := 28) (tgt := 33) hx hb dX10_answer_28 (by decide) (fun c_4 => ?_) (fun c_4 => ?_)
      · skip
        rw [nI_leI (by omega) (by omega)] at c_4
        refine lv_iconst (pc := 33) (v := nI 0) hx hb dX10_answer_33 (by decide +kernel) ?_
        refine lv_istore_n (pc := 34) (lv' := [(3, .int (nI 0)), (2, .int (nI tp)), (0, .ref h0), (1, .int (nI sw9))]) hx hb dX10_answer_34 rfl hl (by decide) rfl (fun ls hl => ?_)
        have LP35 : ∀ (nn35 : Nat) (k1x : Nat) (k' : Nat → BitVec 8), (k1x ≤ tp) → (qSeg k' gwk 0 k1x gtp) → (tp - k1x < nn35) → ∀ (H : Heap) (locs : List Loc), va_P D vwCl [(a 0, aK ta 64 tIP), (a 1, aK ta 48 tSPR), (a 2, aK ta 32 tMIX), (a 3, aK ta 56 tCH), (a 4, aK ta 48 tSEC), (a 5, aK ta 512 tSBX), (a 10, aB ta 64 bi), (a 11, aB ta 64 tu), (a 12, aB ta 56 cd), (a 13, aB ta 768 sk), (a 14, aB ta 32 hf), (a 15, aB ta 48 wd), (a 22, aS ta 700 gm), (a 24, aS ta 16 mac), (a 55, aS ta 16 gco), (a 41, aS ta 256 gke), (a 36, aK ta 2 ru), (a 50, aK ta 2 cs), (a 31, aS ta 300 gli), (a 54, aS ta 300 k'), (a 49, aS ta 408 gcm), (a 46, aS ta 16 gbc), (a 27, aS ta 400 gtp), (h0, oM a ar mn 0 osz lsz ns ct), (a 39, aK ta 2 se), (a 40, aK ta 2 lv), (a 48, aT ta 2 ha)] H → va_D A [(a 0, aK ta 64 tIP), (a 1, aK ta 48 tSPR), (a 2, aK ta 32 tMIX), (a 3, aK ta 56 tCH), (a 4, aK ta 48 tSEC), (a 5, aK ta 512 tSBX), (a 10, aB ta 64 bi), (a 11, aB ta 64 tu), (a 12, aB ta 56 cd), (a 13, aB ta 768 sk), (a 14, aB ta 32 hf), (a 15, aB ta 48 wd), (a 22, aS ta 700 gm), (a 24, aS ta 16 mac), (a 55, aS ta 16 gco), (a 41, aS ta 256 gke), (a 36, aK ta 2 ru), (a 50, aK ta 2 cs), (a 31, aS ta 300 gli), (a 54, aS ta 300 k'), (a 49, aS ta 408 gcm), (a 46, aS ta 16 gbc), (a 27, aS ta 400 gtp), (h0, oM a ar mn 0 osz lsz ns ct), (a 39, aK ta 2 se), (a 40, aK ta 2 lv), (a 48, aT ta 2 ha)] → va_S A ss.heap H locs → ∀ ls : Array Slot, lv_has ls 4 [(3, .int (nI k1x)), (2, .int (nI tp)), (0, .ref h0), (1, .int (nI sw9))] → W pp ll ee ({ frames := 6, cells := 0, slots := 0, locals := 151 } : Room) ss mm (([.ref h0, .int (nI sw9)] : List Value).toArray) below meth kc H locs 0 0 Q (F0 mm 35 ls []) := by
          intro nn35
          induction nn35 with
          | zero => intro k1x k' hkk1 hs1 hmu; exact absurd hmu (Nat.not_lt_zero _)
          | succ nn35 ih35 =>
            intro k1x k' hkk1 hs1 hmu35 H locs hP hD hS ls hl
            refine lv_iload_n (pc := 35) hx hb dX10_answer_35 rfl (lv_at hl 0 rfl) ?_
            refine lv_iload_n (pc := 36) hx hb dX10_answer_36 rfl (lv_at hl 1 rfl) ?_
            refine lv_icmp_ge (pc := 37) (tgt := 58) hx hb dX10_answer_37 (by decide) (fun c_5 => ?_) (fun c_5 => ?_)
            · skip
              rw [nI_leI (by omega) (by omega)] at c_5
              have hwk : qL k' tp = qL gtp tp := by rw [← seg_0, seg_copy0 hs1 (by omega)]
              have hlm2 : lv 1 &&& 32 ≤ 32 := Nat.and_le_right
              have JN92 : ∀ (m9 : Nat) (w9 : Nat → BitVec 8), ((qL gtp tp) = qL w9 m9) → (m9 ≤ 208) → ∀ (H : Heap) (locs : List Loc), va_P D vwCl [(a 0, aK ta 64 tIP), (a 1, aK ta 48 tSPR), (a 2, aK ta 32 tMIX), (a 3, aK ta 56 tCH), (a 4, aK ta 48 tSEC), (a 5, aK ta 512 tSBX), (a 10, aB ta 64 bi), (a 11, aB ta 64 tu), (a 12, aB ta 56 cd), (a 13, aB ta 768 sk), (a 14, aB ta 32 hf), (a 15, aB ta 48 wd), (a 22, aS ta 700 gm), (a 24, aS ta 16 mac), (a 55, aS ta 16 gco), (a 41, aS ta 256 gke), (a 36, aK ta 2 ru), (a 50, aK ta 2 cs), (a 31, aS ta 300 gli), (a 54, aS ta 300 w9), (a 49, aS ta 408 gcm), (a 46, aS ta 16 gbc), (a 27, aS ta 400 gtp), (h0, oM a ar mn 0 osz lsz ns ct), (a 39, aK ta 2 se), (a 40, aK ta 2 lv), (a 48, aT ta 2 ha)] H → va_D A [(a 0, aK ta 64 tIP), (a 1, aK ta 48 tSPR), (a 2, aK ta 32 tMIX), (a 3, aK ta 56 tCH), (a 4, aK ta 48 tSEC), (a 5, aK ta 512 tSBX), (a 10, aB ta 64 bi), (a 11, aB ta 64 tu), (a 12, aB ta 56 cd), (a 13, aB ta 768 sk), (a 14, aB ta 32 hf), (a 15, aB ta 48 wd), (a 22, aS ta 700 gm), (a 24, aS ta 16 mac), (a 55, aS ta 16 gco), (a 41, aS ta 256 gke), (a 36, aK ta 2 ru), (a 50, aK ta 2 cs), (a 31, aS ta 300 gli), (a 54, aS ta 300 w9), (a 49, aS ta 408 gcm), (a 46, aS ta 16 gbc), (a 27, aS ta 400 gtp), (h0, oM a ar mn 0 osz lsz ns ct), (a 39, aK ta 2 se), (a 40, aK ta 2 lv), (a 48, aT ta 2 ha)] → va_S A ss.heap H locs → ∀ ls : Array Slot, lv_has ls 4 [(3, .int (nI k1x)), (2, .int (nI m9)), (0, .ref h0), (1, .int (nI sw9))] → W pp ll ee ({ frames := 6, cells := 0, slots := 0, locals := 151 } : Room) ss mm (([.ref h0, .int (nI sw9)] : List Value).toArray) below meth kc H locs 0 0 Q (F0 mm 92 ls []) := by
                intro m9 w9 hD9 hm9 H locs hP hD hS ls hl
                refine lv_aload_n (pc := 92) hx hb dX10_answer_92 rfl (lv_at hl 2 rfl) ?_
                refine lv_iconst (pc := 93) (v := nI 1) hx hb dX10_answer_93 (by decide +kernel) ?_
                refine lv_aload_n (pc := 94) hx hb dX10_answer_94 rfl (lv_at hl 2 rfl) ?_
                refine va_get (pc := 95) (D := D) (ci := 8) (v := .ref (a 54)) (C := RX10) (T := TX10) (N := 57) hx hb hts iu10 hown hK hP 23 rfl rfl 54 (by decide) (hts _ tw_1099) (fun _ h9 => h9) rfl dX10_answer_95 ?_
                refine lv_iload_n (pc := 98) hx hb dX10_answer_98 rfl (lv_at hl 1 rfl) ?_
                refine lv_iload_n (pc := 99) hx hb dX10_answer_99 rfl (lv_at hl 3 rfl) ?_
                refine cs_V (pc := 100) (idx := 402) (n := 4) (wr := [(a 31, aS ta 300 gli), (a 27, aS ta 400 gtp), (a 39, aK ta 2 se), (a 40, aK ta 2 lv), (a 48, aT ta 2 ha)]) (As := [.int (nI 1), .ref (a 54), .int (nI m9), .int (nI sw9)]) (rest := []) (ci := 8) hx hb hml hown hts hGok hK hA hG hl.1 hP hD hS (ct_X10_answerMac_2 ll D ta hGok h0 a ar mn 0 osz lsz ns ct bi tu cd sk hf wd gm mac gco gke gcm gbc ru cs 1 (a 54) 300 w9 m9 sw9 (by first | assumption | omega | rfl | decide) (by first | assumption | omega | rfl | decide) (by first | assumption | omega | rfl | decide) (by first | assumption | omega | rfl | decide) (by first | assumption | omega | rfl | decide) H.size) tw_1434 tw_1431 tw_1433 tw_62 tw_75 hdX10_answerMac rfl ⟨rfl, rfl, Nat.le_of_ble_eq_true rfl, Nat.le_of_ble_eq_true rfl, Nat.le_of_ble_eq_true rfl, Nat.le_of_ble_eq_true rfl⟩ rfl rfl (q0 := 23) rfl [23, 0, 1, 2, 3, 4, 5, 6, 7, 8, 9, 10, 11, 12, 13, 14, 15, 16, 17, 20, 21, 19] [18, 22, 24, 25, 26] rfl rfl (by decide) rfl (Nat.le_of_ble_eq_true rfl) dX10_answer_100 (fun u H locs hq hP hD hS => ?_)
                obtain ⟨bi1_100, tu1_100, cd1_100, sk1_100, hf1_100, wd1_100, gm1_100, mac1_100, gco1_100, mn1_100⟩ := u
                have hq : (seg gco1_100 0 8 = ansCode2 (seg gke (128 * 1 + 64) 16) (seg gbc (8 * 1) 8) (seg gcm (204 * 1) (cs 1)) (qL w9 m9) sw9) := hq
                have hs_100 := hq
                refine W.eq (g2 := F0 mm 103 ls []) rfl ?_
                have hP : va_P D vwCl [(a 31, aS ta 300 gli), (a 27, aS ta 400 gtp), (a 39, aK ta 2 se), (a 40, aK ta 2 lv), (a 48, aT ta 2 ha), (h0, oM a ar mn1_100 0 osz lsz ns ct), (a 0, aK ta 64 tIP), (a 1, aK ta 48 tSPR), (a 2, aK ta 32 tMIX), (a 3, aK ta 56 tCH), (a 4, aK ta 48 tSEC), (a 5, aK ta 512 tSBX), (a 10, aB ta 64 bi1_100), (a 11, aB ta 64 tu1_100), (a 12, aB ta 56 cd1_100), (a 13, aB ta 768 sk1_100), (a 14, aB ta 32 hf1_100), (a 15, aB ta 48 wd1_100), (a 22, aS ta 700 gm1_100), (a 24, aS ta 16 mac1_100), (a 55, aS ta 16 gco1_100), (a 41, aS ta 256 gke), (a 36, aK ta 2 ru), (a 50, aK ta 2 cs), (a 49, aS ta 408 gcm), (a 46, aS ta 16 gbc), (a 54, aS ta 300 w9)] H := hP
                have hD : va_D A [(a 31, aS ta 300 gli), (a 27, aS ta 400 gtp), (a 39, aK ta 2 se), (a 40, aK ta 2 lv), (a 48, aT ta 2 ha), (h0, oM a ar mn1_100 0 osz lsz ns ct), (a 0, aK ta 64 tIP), (a 1, aK ta 48 tSPR), (a 2, aK ta 32 tMIX), (a 3, aK ta 56 tCH), (a 4, aK ta 48 tSEC), (a 5, aK ta 512 tSBX), (a 10, aB ta 64 bi1_100), (a 11, aB ta 64 tu1_100), (a 12, aB ta 56 cd1_100), (a 13, aB ta 768 sk1_100), (a 14, aB ta 32 hf1_100), (a 15, aB ta 48 wd1_100), (a 22, aS ta 700 gm1_100), (a 24, aS ta 16 mac1_100), (a 55, aS ta 16 gco1_100), (a 41, aS ta 256 gke), (a 36, aK ta 2 ru), (a 50, aK ta 2 cs), (a 49, aS ta 408 gcm), (a 46, aS ta 16 gbc), (a 54, aS ta 300 w9)] := hD
                refine lv_aload_n (pc := 103) hx hb dX10_answer_103 rfl (lv_at hl 2 rfl) ?_
                refine va_get (pc := 104) (D := D) (ci := 8) (v := .ref (a 36)) (C := RX10) (T := TX10) (N := 57) hx hb hts iu10 hown hK hP 5 rfl rfl 36 (by decide) (hts _ tw_1081) (fun _ h9 => h9) rfl dX10_answer_104 ?_
                refine lv_iconst (pc := 107) (v := nI 1) hx hb dX10_answer_107 (by decide +kernel) ?_
                refine q_iald (pc := 108) hx hb hK hP 22 0 rfl rfl (k := 1) (v := nI (ru 1)) rfl (by omega) (by omega) rfl dX10_answer_108 ?_
                refine lv_iconst (pc := 109) (v := nI 2) hx hb dX10_answer_109 (by decide +kernel) ?_
                refine lv_icmp_ne (pc := 110) (tgt := 142) hx hb dX10_answer_110 (by decide) (fun c_6 => ?_) (fun c_6 => ?_)
                · skip
                  rw [nI_eq (by omega) (by omega)] at c_6
                  exfalso; omega
                · skip
                  rw [nI_eq (by omega) (by omega)] at c_6
                  refine lv_iconst (pc := 113) (v := nI 0) hx hb dX10_answer_113 (by decide +kernel) ?_
                  refine lv_istore_n (pc := 114) (lv' := [(3, .int (nI 0)), (2, .int (nI m9)), (0, .ref h0), (1, .int (nI sw9))]) hx hb dX10_answer_114 rfl hl (by decide) rfl (fun ls hl => ?_)
                  have LP115 : ∀ (nn115 : Nat) (k5x : Nat) (e' : Nat → BitVec 8), (k5x ≤ 8) → (qSeg e' gbc 8 k5x gco1_100) → (8 - k5x < nn115) → ∀ (H : Heap) (locs : List Loc), va_P D vwCl [(a 31, aS ta 300 gli), (a 27, aS ta 400 gtp), (a 39, aK ta 2 se), (a 40, aK ta 2 lv), (a 48, aT ta 2 ha), (h0, oM a ar mn1_100 0 osz lsz ns ct), (a 0, aK ta 64 tIP), (a 1, aK ta 48 tSPR), (a 2, aK ta 32 tMIX), (a 3, aK ta 56 tCH), (a 4, aK ta 48 tSEC), (a 5, aK ta 512 tSBX), (a 10, aB ta 64 bi1_100), (a 11, aB ta 64 tu1_100), (a 12, aB ta 56 cd1_100), (a 13, aB ta 768 sk1_100), (a 14, aB ta 32 hf1_100), (a 15, aB ta 48 wd1_100), (a 22, aS ta 700 gm1_100), (a 24, aS ta 16 mac1_100), (a 55, aS ta 16 gco1_100), (a 41, aS ta 256 gke), (a 36, aK ta 2 ru), (a 50, aK ta 2 cs), (a 49, aS ta 408 gcm), (a 46, aS ta 16 e'), (a 54, aS ta 300 w9)] H → va_D A [(a 31, aS ta 300 gli), (a 27, aS ta 400 gtp), (a 39, aK ta 2 se), (a 40, aK ta 2 lv), (a 48, aT ta 2 ha), (h0, oM a ar mn1_100 0 osz lsz ns ct), (a 0, aK ta 64 tIP), (a 1, aK ta 48 tSPR), (a 2, aK ta 32 tMIX), (a 3, aK ta 56 tCH), (a 4, aK ta 48 tSEC), (a 5, aK ta 512 tSBX), (a 10, aB ta 64 bi1_100), (a 11, aB ta 64 tu1_100), (a 12, aB ta 56 cd1_100), (a 13, aB ta 768 sk1_100), (a 14, aB ta 32 hf1_100), (a 15, aB ta 48 wd1_100), (a 22, aS ta 700 gm1_100), (a 24, aS ta 16 mac1_100), (a 55, aS ta 16 gco1_100), (a 41, aS ta 256 gke), (a 36, aK ta 2 ru), (a 50, aK ta 2 cs), (a 49, aS ta 408 gcm), (a 46, aS ta 16 e'), (a 54, aS ta 300 w9)] → va_S A ss.heap H locs → ∀ ls : Array Slot, lv_has ls 4 [(3, .int (nI k5x)), (2, .int (nI m9)), (0, .ref h0), (1, .int (nI sw9))] → W pp ll ee ({ frames := 6, cells := 0, slots := 0, locals := 151 } : Room) ss mm (([.ref h0, .int (nI sw9)] : List Value).toArray) below meth kc H locs 0 0 Q (F0 mm 115 ls []) := by
                    intro nn115
                    induction nn115 with
                    | zero => intro k5x e' hkk5 hs5 hmu; exact absurd hmu (Nat.not_lt_zero _)
                    | succ nn115 ih115 =>
                      intro k5x e' hkk5 hs5 hmu115 H locs hP hD hS ls hl
                      refine lv_iload_n (pc := 115) hx hb dX10_answer_115 rfl (lv_at hl 0 rfl) ?_
                      refine lv_bipush (pc := 116) (v := nI 8) hx hb dX10_answer_116 (by decide +kernel) ?_
                      refine lv_icmp_ge (pc := 118) (tgt := 142) hx hb dX10_answer_118 (by decide) (fun c_7 => ?_) (fun c_7 => ?_)
                      · skip
                        rw [nI_leI (by omega) (by omega)] at c_7
                        refine lv_iconst (pc := 142) (v := nI 0) hx hb dX10_answer_142 (by decide +kernel) ?_
                        refine lv_istore_n (pc := 143) (lv' := [(3, .int (nI 0)), (2, .int (nI m9)), (0, .ref h0), (1, .int (nI sw9))]) hx hb dX10_answer_143 rfl hl (by decide) rfl (fun ls hl => ?_)
                        have LP144 : ∀ (nn144 : Nat) (k3x : Nat) (q' : Nat → BitVec 8), (k3x ≤ m9) → (qSeg q' gli 0 k3x w9) → (m9 - k3x < nn144) → ∀ (H : Heap) (locs : List Loc), va_P D vwCl [(a 31, aS ta 300 q'), (a 27, aS ta 400 gtp), (a 39, aK ta 2 se), (a 40, aK ta 2 lv), (a 48, aT ta 2 ha), (h0, oM a ar mn1_100 0 osz lsz ns ct), (a 0, aK ta 64 tIP), (a 1, aK ta 48 tSPR), (a 2, aK ta 32 tMIX), (a 3, aK ta 56 tCH), (a 4, aK ta 48 tSEC), (a 5, aK ta 512 tSBX), (a 10, aB ta 64 bi1_100), (a 11, aB ta 64 tu1_100), (a 12, aB ta 56 cd1_100), (a 13, aB ta 768 sk1_100), (a 14, aB ta 32 hf1_100), (a 15, aB ta 48 wd1_100), (a 22, aS ta 700 gm1_100), (a 24, aS ta 16 mac1_100), (a 55, aS ta 16 gco1_100), (a 41, aS ta 256 gke), (a 36, aK ta 2 ru), (a 50, aK ta 2 cs), (a 49, aS ta 408 gcm), (a 46, aS ta 16 e'), (a 54, aS ta 300 w9)] H → va_D A [(a 31, aS ta 300 q'), (a 27, aS ta 400 gtp), (a 39, aK ta 2 se), (a 40, aK ta 2 lv), (a 48, aT ta 2 ha), (h0, oM a ar mn1_100 0 osz lsz ns ct), (a 0, aK ta 64 tIP), (a 1, aK ta 48 tSPR), (a 2, aK ta 32 tMIX), (a 3, aK ta 56 tCH), (a 4, aK ta 48 tSEC), (a 5, aK ta 512 tSBX), (a 10, aB ta 64 bi1_100), (a 11, aB ta 64 tu1_100), (a 12, aB ta 56 cd1_100), (a 13, aB ta 768 sk1_100), (a 14, aB ta 32 hf1_100), (a 15, aB ta 48 wd1_100), (a 22, aS ta 700 gm1_100), (a 24, aS ta 16 mac1_100), (a 55, aS ta 16 gco1_100), (a 41, aS ta 256 gke), (a 36, aK ta 2 ru), (a 50, aK ta 2 cs), (a 49, aS ta 408 gcm), (a 46, aS ta 16 e'), (a 54, aS ta 300 w9)] → va_S A ss.heap H locs → ∀ ls : Array Slot, lv_has ls 4 [(3, .int (nI k3x)), (2, .int (nI m9)), (0, .ref h0), (1, .int (nI sw9))] → W pp ll ee ({ frames := 6, cells := 0, slots := 0, locals := 151 } : Room) ss mm (([.ref h0, .int (nI sw9)] : List Value).toArray) below meth kc H locs 0 0 Q (F0 mm 144 ls []) := by
                          intro nn144
                          induction nn144 with
                          | zero => intro k3x q' hk3 hs3 hmu; exact absurd hmu (Nat.not_lt_zero _)
                          | succ nn144 ih144 =>
                            intro k3x q' hk3 hs3 hmu144 H locs hP hD hS ls hl
                            refine lv_iload_n (pc := 144) hx hb dX10_answer_144 rfl (lv_at hl 0 rfl) ?_
                            refine lv_iload_n (pc := 145) hx hb dX10_answer_145 rfl (lv_at hl 1 rfl) ?_
                            refine lv_icmp_ge (pc := 146) (tgt := 167) hx hb dX10_answer_146 (by decide) (fun c_8 => ?_) (fun c_8 => ?_)
                            · skip
                              rw [nI_leI (by omega) (by omega)] at c_8
                              refine lv_iconst (pc := 167) (v := nI 0) hx hb dX10_answer_167 (by decide +kernel) ?_
                              refine lv_istore_n (pc := 168) (lv' := [(3, .int (nI 0)), (2, .int (nI m9)), (0, .ref h0), (1, .int (nI sw9))]) hx hb dX10_answer_168 rfl hl (by decide) rfl (fun ls hl => ?_)
                              have LP169 : ∀ (nn169 : Nat) (k4x : Nat) (r' : Nat → BitVec 8), (k4x ≤ 8) → (qSeg r' q' m9 k4x gco1_100) → (8 - k4x < nn169) → ∀ (H : Heap) (locs : List Loc), va_P D vwCl [(a 31, aS ta 300 r'), (a 27, aS ta 400 gtp), (a 39, aK ta 2 se), (a 40, aK ta 2 lv), (a 48, aT ta 2 ha), (h0, oM a ar mn1_100 0 osz lsz ns ct), (a 0, aK ta 64 tIP), (a 1, aK ta 48 tSPR), (a 2, aK ta 32 tMIX), (a 3, aK ta 56 tCH), (a 4, aK ta 48 tSEC), (a 5, aK ta 512 tSBX), (a 10, aB ta 64 bi1_100), (a 11, aB ta 64 tu1_100), (a 12, aB ta 56 cd1_100), (a 13, aB ta 768 sk1_100), (a 14, aB ta 32 hf1_100), (a 15, aB ta 48 wd1_100), (a 22, aS ta 700 gm1_100), (a 24, aS ta 16 mac1_100), (a 55, aS ta 16 gco1_100), (a 41, aS ta 256 gke), (a 36, aK ta 2 ru), (a 50, aK ta 2 cs), (a 49, aS ta 408 gcm), (a 46, aS ta 16 e'), (a 54, aS ta 300 w9)] H → va_D A [(a 31, aS ta 300 r'), (a 27, aS ta 400 gtp), (a 39, aK ta 2 se), (a 40, aK ta 2 lv), (a 48, aT ta 2 ha), (h0, oM a ar mn1_100 0 osz lsz ns ct), (a 0, aK ta 64 tIP), (a 1, aK ta 48 tSPR), (a 2, aK ta 32 tMIX), (a 3, aK ta 56 tCH), (a 4, aK ta 48 tSEC), (a 5, aK ta 512 tSBX), (a 10, aB ta 64 bi1_100), (a 11, aB ta 64 tu1_100), (a 12, aB ta 56 cd1_100), (a 13, aB ta 768 sk1_100), (a 14, aB ta 32 hf1_100), (a 15, aB ta 48 wd1_100), (a 22, aS ta 700 gm1_100), (a 24, aS ta 16 mac1_100), (a 55, aS ta 16 gco1_100), (a 41, aS ta 256 gke), (a 36, aK ta 2 ru), (a 50, aK ta 2 cs), (a 49, aS ta 408 gcm), (a 46, aS ta 16 e'), (a 54, aS ta 300 w9)] → va_S A ss.heap H locs → ∀ ls : Array Slot, lv_has ls 4 [(3, .int (nI k4x)), (2, .int (nI m9)), (0, .ref h0), (1, .int (nI sw9))] → W pp ll ee ({ frames := 6, cells := 0, slots := 0, locals := 151 } : Room) ss mm (([.ref h0, .int (nI sw9)] : List Value).toArray) below meth kc H locs 0 0 Q (F0 mm 169 ls []) := by
                                intro nn169
                                induction nn169 with
                                | zero => intro k4x r' hk4 hs4 hmu; exact absurd hmu (Nat.not_lt_zero _)
                                | succ nn169 ih169 =>
                                  intro k4x r' hk4 hs4 hmu169 H locs hP hD hS ls hl
                                  refine lv_iload_n (pc := 169) hx hb dX10_answer_169 rfl (lv_at hl 0 rfl) ?_
                                  refine lv_bipush (pc := 170) (v := nI 8) hx hb dX10_answer_170 (by decide +kernel) ?_
                                  refine lv_icmp_ge (pc := 172) (tgt := 195) hx hb dX10_answer_172 (by decide) (fun c_9 => ?_) (fun c_9 => ?_)
                                  · skip
                                    rw [nI_leI (by omega) (by omega)] at c_9
                                    refine lv_aload_n (pc := 195) hx hb dX10_answer_195 rfl (lv_at hl 2 rfl) ?_
                                    refine lv_iload_n (pc := 196) hx hb dX10_answer_196 rfl (lv_at hl 1 rfl) ?_
                                    refine lv_bipush (pc := 197) (v := nI 8) hx hb dX10_answer_197 (by decide +kernel) ?_
                                    refine lv_iadd (pc := 199) hx hb dX10_answer_199 ?_
                                    refine q_top (y := nI (m9 + 8)) (nI_add m9 8) ?_
                                    refine va_put (pc := 200) (D := D) (ci := 8) (v := .int (nI (m9 + 8))) (ty := .int) (C := RX10) (T := TX10) (N := 57) hx hb hts iu10 tyX10 tyX10_ok nmX10 hown hK hP hD hS 5 rfl rfl 32 (by decide) (hts _ tw_1077) (fun _ h9 => h9) rfl (by decide +kernel) rfl rfl (Nat.le_of_ble_eq_true rfl) dX10_answer_200 (fun H locs hP hD hS => ?_)
                                    have hP : va_P D vwCl [(a 31, aS ta 300 r'), (a 27, aS ta 400 gtp), (a 39, aK ta 2 se), (a 40, aK ta 2 lv), (a 48, aT ta 2 ha), (h0, oM a ar mn1_100 0 osz (m9 + 8) ns ct), (a 0, aK ta 64 tIP), (a 1, aK ta 48 tSPR), (a 2, aK ta 32 tMIX), (a 3, aK ta 56 tCH), (a 4, aK ta 48 tSEC), (a 5, aK ta 512 tSBX), (a 10, aB ta 64 bi1_100), (a 11, aB ta 64 tu1_100), (a 12, aB ta 56 cd1_100), (a 13, aB ta 768 sk1_100), (a 14, aB ta 32 hf1_100), (a 15, aB ta 48 wd1_100), (a 22, aS ta 700 gm1_100), (a 24, aS ta 16 mac1_100), (a 55, aS ta 16 gco1_100), (a 41, aS ta 256 gke), (a 36, aK ta 2 ru), (a 50, aK ta 2 cs), (a 49, aS ta 408 gcm), (a 46, aS ta 16 e'), (a 54, aS ta 300 w9)] H := hP
                                    have hD : va_D A [(a 31, aS ta 300 r'), (a 27, aS ta 400 gtp), (a 39, aK ta 2 se), (a 40, aK ta 2 lv), (a 48, aT ta 2 ha), (h0, oM a ar mn1_100 0 osz (m9 + 8) ns ct), (a 0, aK ta 64 tIP), (a 1, aK ta 48 tSPR), (a 2, aK ta 32 tMIX), (a 3, aK ta 56 tCH), (a 4, aK ta 48 tSEC), (a 5, aK ta 512 tSBX), (a 10, aB ta 64 bi1_100), (a 11, aB ta 64 tu1_100), (a 12, aB ta 56 cd1_100), (a 13, aB ta 768 sk1_100), (a 14, aB ta 32 hf1_100), (a 15, aB ta 48 wd1_100), (a 22, aS ta 700 gm1_100), (a 24, aS ta 16 mac1_100), (a 55, aS ta 16 gco1_100), (a 41, aS ta 256 gke), (a 36, aK ta 2 ru), (a 50, aK ta 2 cs), (a 49, aS ta 408 gcm), (a 46, aS ta 16 e'), (a 54, aS ta 300 w9)] := hD
                                    refine lv_aload_n (pc := 203) hx hb dX10_answer_203 rfl (lv_at hl 2 rfl) ?_
                                    refine va_get (pc := 204) (D := D) (ci := 8) (v := .int (nI (m9 + 8))) (C := RX10) (T := TX10) (N := 57) hx hb hts iu10 hown hK hP 5 rfl rfl 32 (by decide) (hts _ tw_1077) (fun _ h9 => h9) rfl dX10_answer_204 ?_
                                    have hq_10 : (seg gco1_100 0 8 = ansCode2 (seg gke 192 16) (seg gbc 8 8) (seg gcm 204 (cs 1)) (qL gtp tp) sw9) ∧ (seg e' 8 8 = seg gco1_100 0 8) ∧ (∀ j, j < 8 → e' j = gbc j) ∧ (qL r' (m9 + 8) = (qL gtp tp) ++ seg gco1_100 0 8) ∧ ((m9 + 8) = (qL gtp tp).length + 8 ∧ (m9 + 8) ≤ 216) := by
                                      have hall : qL r' (m9 + 8) = (qL gtp tp) ++ seg gco1_100 0 8 := by
                                        rw [← seg_0, seg_app, Nat.zero_add, seg_copy0 hs4 (by omega), seg_keep (g' := r') (g := q') (o := 0) (n := m9) (fun j hj => hs4.2 _ (by omega)), seg_copy0 hs3 (by omega), hD9, seg_0]
                                      refine ⟨hs_100.trans (by rw [hD9]), by rw [seg_copy0 hs5 (by omega), seg_0], fun j hj => hs5.2 j (by omega), hall, by rw [hD9, qL_len], by omega⟩
                                    exact hret (⟨(bi1_100), (tu1_100), (cd1_100), (sk1_100), (hf1_100), (wd1_100), (gm1_100), (mac1_100), (gco1_100), (w9), (e'), (mn1_100), (r'), (m9 + 8)⟩ : (Nat → Bool) × (Nat → Bool) × (Nat → Bool) × (Nat → Bool) × (Nat → Bool) × (Nat → Bool) × (Nat → BitVec 8) × (Nat → BitVec 8) × (Nat → BitVec 8) × (Nat → BitVec 8) × (Nat → BitVec 8) × Nat × (Nat → BitVec 8) × Nat) _ _ _ _ dX10_answer_207 hq_10 (hP.sub [5, 6, 7, 8, 9, 10, 11, 12, 13, 14, 15, 16, 17, 18, 19, 20, 21, 22, 23, 0, 26, 2, 3, 4, 24, 25, 1] rfl) (hD.sub [5, 6, 7, 8, 9, 10, 11, 12, 13, 14, 15, 16, 17, 18, 19, 20, 21, 22, 23, 0, 26, 2, 3, 4, 24, 25, 1] (by decide) rfl) hS
                                  · skip
                                    rw [nI_leI (by omega) (by omega)] at c_9
                                    refine lv_aload_n (pc := 175) hx hb dX10_answer_175 rfl (lv_at hl 2 rfl) ?_
                                    refine va_get (pc := 176) (D := D) (ci := 8) (v := .ref (a 31)) (C := RX10) (T := TX10) (N := 57) hx hb hts iu10 hown hK hP 5 rfl rfl 31 (by decide) (hts _ tw_1076) (fun _ h9 => h9) rfl dX10_answer_176 ?_
                                    refine lv_iload_n (pc := 179) hx hb dX10_answer_179 rfl (lv_at hl 1 rfl) ?_
                                    refine lv_iload_n (pc := 180) hx hb dX10_answer_180 rfl (lv_at hl 0 rfl) ?_
                                    refine lv_iadd (pc := 181) hx hb dX10_answer_181 ?_
                                    refine q_top (y := nI (m9 + k4x)) (nI_add m9 k4x) ?_
                                    refine lv_aload_n (pc := 182) hx hb dX10_answer_182 rfl (lv_at hl 2 rfl) ?_
                                    refine va_get (pc := 183) (D := D) (ci := 8) (v := .ref (a 55)) (C := RX10) (T := TX10) (N := 57) hx hb hts iu10 hown hK hP 5 rfl rfl 55 (by decide) (hts _ tw_1100) (fun _ h9 => h9) rfl dX10_answer_183 ?_
                                    refine lv_iload_n (pc := 186) hx hb dX10_answer_186 rfl (lv_at hl 0 rfl) ?_
                                    refine q_bald (pc := 187) hx hb hK hP 20 2 rfl rfl (k := k4x) (v := qs (gco1_100 k4x)) rfl (by omega) (by omega) rfl dX10_answer_187 ?_
                                    refine q_bastS (pc := 188) hx hb hK hP hD hS 0 2 rfl rfl (k := m9 + k4x) rfl (by omega) (by omega) (b := gco1_100 k4x) (qlo_qs _) dX10_answer_188 (fun H locs hP hD hS => ?_)
                                    have hP : va_P D vwCl [(a 31, aS ta 300 (qU r' (m9 + k4x) (gco1_100 k4x))), (a 27, aS ta 400 gtp), (a 39, aK ta 2 se), (a 40, aK ta 2 lv), (a 48, aT ta 2 ha), (h0, oM a ar mn1_100 0 osz lsz ns ct), (a 0, aK ta 64 tIP), (a 1, aK ta 48 tSPR), (a 2, aK ta 32 tMIX), (a 3, aK ta 56 tCH), (a 4, aK ta 48 tSEC), (a 5, aK ta 512 tSBX), (a 10, aB ta 64 bi1_100), (a 11, aB ta 64 tu1_100), (a 12, aB ta 56 cd1_100), (a 13, aB ta 768 sk1_100), (a 14, aB ta 32 hf1_100), (a 15, aB ta 48 wd1_100), (a 22, aS ta 700 gm1_100), (a 24, aS ta 16 mac1_100), (a 55, aS ta 16 gco1_100), (a 41, aS ta 256 gke), (a 36, aK ta 2 ru), (a 50, aK ta 2 cs), (a 49, aS ta 408 gcm), (a 46, aS ta 16 e'), (a 54, aS ta 300 w9)] H := hP
                                    have hD : va_D A [(a 31, aS ta 300 (qU r' (m9 + k4x) (gco1_100 k4x))), (a 27, aS ta 400 gtp), (a 39, aK ta 2 se), (a 40, aK ta 2 lv), (a 48, aT ta 2 ha), (h0, oM a ar mn1_100 0 osz lsz ns ct), (a 0, aK ta 64 tIP), (a 1, aK ta 48 tSPR), (a 2, aK ta 32 tMIX), (a 3, aK ta 56 tCH), (a 4, aK ta 48 tSEC), (a 5, aK ta 512 tSBX), (a 10, aB ta 64 bi1_100), (a 11, aB ta 64 tu1_100), (a 12, aB ta 56 cd1_100), (a 13, aB ta 768 sk1_100), (a 14, aB ta 32 hf1_100), (a 15, aB ta 48 wd1_100), (a 22, aS ta 700 gm1_100), (a 24, aS ta 16 mac1_100), (a 55, aS ta 16 gco1_100), (a 41, aS ta 256 gke), (a 36, aK ta 2 ru), (a 50, aK ta 2 cs), (a 49, aS ta 408 gcm), (a 46, aS ta 16 e'), (a 54, aS ta 300 w9)] := hD
                                    refine lv_iinc (pc := 189) (v := nI (k4x + 1)) (lv' := [(3, .int (nI (k4x + 1))), (2, .int (nI m9)), (0, .ref h0), (1, .int (nI sw9))]) hx hb dX10_answer_189 hl (k := 0) rfl (by first | exact nI_add k4x 1 | rfl) (by decide) rfl (fun ls hl => ?_)
                                    refine lv_goto (pc := 192) (tgt := 169) hx hb dX10_answer_192 (by decide) ?_
                                    exact ih169 (k4x + 1) (qU r' (m9 + k4x) (gco1_100 k4x)) (by omega) (qSeg_s hs4 (by omega) rfl) (by omega) _ _ (hP.sub [0, 1, 2, 3, 4, 5, 6, 7, 8, 9, 10, 11, 12, 13, 14, 15, 16, 17, 18, 19, 20, 21, 22, 23, 24, 25, 26] rfl) (hD.sub [0, 1, 2, 3, 4, 5, 6, 7, 8, 9, 10, 11, 12, 13, 14, 15, 16, 17, 18, 19, 20, 21, 22, 23, 24, 25, 26] (by decide) rfl) hS ls (lv_sub hl [0, 1, 2, 3] rfl)
                              exact LP169 _ 0 q' (by omega) (qSeg_0) (Nat.lt_succ_self _) _ _ (hP.sub [0, 1, 2, 3, 4, 5, 6, 7, 8, 9, 10, 11, 12, 13, 14, 15, 16, 17, 18, 19, 20, 21, 22, 23, 24, 25, 26] rfl) (hD.sub [0, 1, 2, 3, 4, 5, 6, 7, 8, 9, 10, 11, 12, 13, 14, 15, 16, 17, 18, 19, 20, 21, 22, 23, 24, 25, 26] (by decide) rfl) hS ls (lv_sub hl [0, 1, 2, 3] rfl)
                            · skip
                              rw [nI_leI (by omega) (by omega)] at c_8
                              refine lv_aload_n (pc := 149) hx hb dX10_answer_149 rfl (lv_at hl 2 rfl) ?_
                              refine va_get (pc := 150) (D := D) (ci := 8) (v := .ref (a 31)) (C := RX10) (T := TX10) (N := 57) hx hb hts iu10 hown hK hP 5 rfl rfl 31 (by decide) (hts _ tw_1076) (fun _ h9 => h9) rfl dX10_answer_150 ?_
                              refine lv_iload_n (pc := 153) hx hb dX10_answer_153 rfl (lv_at hl 0 rfl) ?_
                              refine lv_aload_n (pc := 154) hx hb dX10_answer_154 rfl (lv_at hl 2 rfl) ?_
                              refine va_get (pc := 155) (D := D) (ci := 8) (v := .ref (a 54)) (C := RX10) (T := TX10) (N := 57) hx hb hts iu10 hown hK hP 5 rfl rfl 54 (by decide) (hts _ tw_1099) (fun _ h9 => h9) rfl dX10_answer_155 ?_
                              refine lv_iload_n (pc := 158) hx hb dX10_answer_158 rfl (lv_at hl 0 rfl) ?_
                              refine q_bald (pc := 159) hx hb hK hP 26 2 rfl rfl (k := k3x) (v := qs (w9 k3x)) rfl (by omega) (by omega) rfl dX10_answer_159 ?_
                              refine q_bastS (pc := 160) hx hb hK hP hD hS 0 2 rfl rfl (k := k3x) rfl (by omega) (by omega) (b := w9 k3x) (qlo_qs _) dX10_answer_160 (fun H locs hP hD hS => ?_)
                              have hP : va_P D vwCl [(a 31, aS ta 300 (qU q' k3x (w9 k3x))), (a 27, aS ta 400 gtp), (a 39, aK ta 2 se), (a 40, aK ta 2 lv), (a 48, aT ta 2 ha), (h0, oM a ar mn1_100 0 osz lsz ns ct), (a 0, aK ta 64 tIP), (a 1, aK ta 48 tSPR), (a 2, aK ta 32 tMIX), (a 3, aK ta 56 tCH), (a 4, aK ta 48 tSEC), (a 5, aK ta 512 tSBX), (a 10, aB ta 64 bi1_100), (a 11, aB ta 64 tu1_100), (a 12, aB ta 56 cd1_100), (a 13, aB ta 768 sk1_100), (a 14, aB ta 32 hf1_100), (a 15, aB ta 48 wd1_100), (a 22, aS ta 700 gm1_100), (a 24, aS ta 16 mac1_100), (a 55, aS ta 16 gco1_100), (a 41, aS ta 256 gke), (a 36, aK ta 2 ru), (a 50, aK ta 2 cs), (a 49, aS ta 408 gcm), (a 46, aS ta 16 e'), (a 54, aS ta 300 w9)] H := hP
                              have hD : va_D A [(a 31, aS ta 300 (qU q' k3x (w9 k3x))), (a 27, aS ta 400 gtp), (a 39, aK ta 2 se), (a 40, aK ta 2 lv), (a 48, aT ta 2 ha), (h0, oM a ar mn1_100 0 osz lsz ns ct), (a 0, aK ta 64 tIP), (a 1, aK ta 48 tSPR), (a 2, aK ta 32 tMIX), (a 3, aK ta 56 tCH), (a 4, aK ta 48 tSEC), (a 5, aK ta 512 tSBX), (a 10, aB ta 64 bi1_100), (a 11, aB ta 64 tu1_100), (a 12, aB ta 56 cd1_100), (a 13, aB ta 768 sk1_100), (a 14, aB ta 32 hf1_100), (a 15, aB ta 48 wd1_100), (a 22, aS ta 700 gm1_100), (a 24, aS ta 16 mac1_100), (a 55, aS ta 16 gco1_100), (a 41, aS ta 256 gke), (a 36, aK ta 2 ru), (a 50, aK ta 2 cs), (a 49, aS ta 408 gcm), (a 46, aS ta 16 e'), (a 54, aS ta 300 w9)] := hD
                              refine lv_iinc (pc := 161) (v := nI (k3x + 1)) (lv' := [(3, .int (nI (k3x + 1))), (2, .int (nI m9)), (0, .ref h0), (1, .int (nI sw9))]) hx hb dX10_answer_161 hl (k := 0) rfl (by first | exact nI_add k3x 1 | rfl) (by decide) rfl (fun ls hl => ?_)
                              refine lv_goto (pc := 164) (tgt := 144) hx hb dX10_answer_164 (by decide) ?_
                              exact ih144 (k3x + 1) (qU q' k3x (w9 k3x)) (by omega) (qSeg_s hs3 (by omega) rfl) (by omega) _ _ (hP.sub [0, 1, 2, 3, 4, 5, 6, 7, 8, 9, 10, 11, 12, 13, 14, 15, 16, 17, 18, 19, 20, 21, 22, 23, 24, 25, 26] rfl) (hD.sub [0, 1, 2, 3, 4, 5, 6, 7, 8, 9, 10, 11, 12, 13, 14, 15, 16, 17, 18, 19, 20, 21, 22, 23, 24, 25, 26] (by decide) rfl) hS ls (lv_sub hl [0, 1, 2, 3] rfl)
                        exact LP144 _ 0 gli (by omega) (qSeg_0) (Nat.lt_succ_self _) _ _ (hP.sub [0, 1, 2, 3, 4, 5, 6, 7, 8, 9, 10, 11, 12, 13, 14, 15, 16, 17, 18, 19, 20, 21, 22, 23, 24, 25, 26] rfl) (hD.sub [0, 1, 2, 3, 4, 5, 6, 7, 8, 9, 10, 11, 12, 13, 14, 15, 16, 17, 18, 19, 20, 21, 22, 23, 24, 25, 26] (by decide) rfl) hS ls (lv_sub hl [0, 1, 2, 3] rfl)
                      · skip
                        rw [nI_leI (by omega) (by omega)] at c_7
                        refine lv_aload_n (pc := 121) hx hb dX10_answer_121 rfl (lv_at hl 2 rfl) ?_
                        refine va_get (pc := 122) (D := D) (ci := 8) (v := .ref (a 46)) (C := RX10) (T := TX10) (N := 57) hx hb hts iu10 hown hK hP 5 rfl rfl 46 (by decide) (hts _ tw_1091) (fun _ h9 => h9) rfl dX10_answer_122 ?_
                        refine lv_bipush (pc := 125) (v := nI 8) hx hb dX10_answer_125 (by decide +kernel) ?_
                        refine lv_iload_n (pc := 127) hx hb dX10_answer_127 rfl (lv_at hl 0 rfl) ?_
                        refine lv_iadd (pc := 128) hx hb dX10_answer_128 ?_
                        refine q_top (y := nI (8 + k5x)) (nI_add 8 k5x) ?_
                        refine lv_aload_n (pc := 129) hx hb dX10_answer_129 rfl (lv_at hl 2 rfl) ?_
                        refine va_get (pc := 130) (D := D) (ci := 8) (v := .ref (a 55)) (C := RX10) (T := TX10) (N := 57) hx hb hts iu10 hown hK hP 5 rfl rfl 55 (by decide) (hts _ tw_1100) (fun _ h9 => h9) rfl dX10_answer_130 ?_
                        refine lv_iload_n (pc := 133) hx hb dX10_answer_133 rfl (lv_at hl 0 rfl) ?_
                        refine q_bald (pc := 134) hx hb hK hP 20 2 rfl rfl (k := k5x) (v := qs (gco1_100 k5x)) rfl (by omega) (by omega) rfl dX10_answer_134 ?_
                        refine q_bastS (pc := 135) hx hb hK hP hD hS 25 2 rfl rfl (k := 8 + k5x) rfl (by omega) (by omega) (b := gco1_100 k5x) (qlo_qs _) dX10_answer_135 (fun H locs hP hD hS => ?_)
                        have hP : va_P D vwCl [(a 31, aS ta 300 gli), (a 27, aS ta 400 gtp), (a 39, aK ta 2 se), (a 40, aK ta 2 lv), (a 48, aT ta 2 ha), (h0, oM a ar mn1_100 0 osz lsz ns ct), (a 0, aK ta 64 tIP), (a 1, aK ta 48 tSPR), (a 2, aK ta 32 tMIX), (a 3, aK ta 56 tCH), (a 4, aK ta 48 tSEC), (a 5, aK ta 512 tSBX), (a 10, aB ta 64 bi1_100), (a 11, aB ta 64 tu1_100), (a 12, aB ta 56 cd1_100), (a 13, aB ta 768 sk1_100), (a 14, aB ta 32 hf1_100), (a 15, aB ta 48 wd1_100), (a 22, aS ta 700 gm1_100), (a 24, aS ta 16 mac1_100), (a 55, aS ta 16 gco1_100), (a 41, aS ta 256 gke), (a 36, aK ta 2 ru), (a 50, aK ta 2 cs), (a 49, aS ta 408 gcm), (a 46, aS ta 16 (qU e' (8 + k5x) (gco1_100 k5x))), (a 54, aS ta 300 w9)] H := hP
                        have hD : va_D A [(a 31, aS ta 300 gli), (a 27, aS ta 400 gtp), (a 39, aK ta 2 se), (a 40, aK ta 2 lv), (a 48, aT ta 2 ha), (h0, oM a ar mn1_100 0 osz lsz ns ct), (a 0, aK ta 64 tIP), (a 1, aK ta 48 tSPR), (a 2, aK ta 32 tMIX), (a 3, aK ta 56 tCH), (a 4, aK ta 48 tSEC), (a 5, aK ta 512 tSBX), (a 10, aB ta 64 bi1_100), (a 11, aB ta 64 tu1_100), (a 12, aB ta 56 cd1_100), (a 13, aB ta 768 sk1_100), (a 14, aB ta 32 hf1_100), (a 15, aB ta 48 wd1_100), (a 22, aS ta 700 gm1_100), (a 24, aS ta 16 mac1_100), (a 55, aS ta 16 gco1_100), (a 41, aS ta 256 gke), (a 36, aK ta 2 ru), (a 50, aK ta 2 cs), (a 49, aS ta 408 gcm), (a 46, aS ta 16 (qU e' (8 + k5x) (gco1_100 k5x))), (a 54, aS ta 300 w9)] := hD
                        refine lv_iinc (pc := 136) (v := nI (k5x + 1)) (lv' := [(3, .int (nI (k5x + 1))), (2, .int (nI m9)), (0, .ref h0), (1, .int (nI sw9))]) hx hb dX10_answer_136 hl (k := 0) rfl (by first | exact nI_add k5x 1 | rfl) (by decide) rfl (fun ls hl => ?_)
                        refine lv_goto (pc := 139) (tgt := 115) hx hb dX10_answer_139 (by decide) ?_
                        exact ih115 (k5x + 1) (qU e' (8 + k5x) (gco1_100 k5x)) (by omega) (qSeg_s hs5 (by omega) (by first | rfl | (simp; done))) (by omega) _ _ (hP.sub [0, 1, 2, 3, 4, 5, 6, 7, 8, 9, 10, 11, 12, 13, 14, 15, 16, 17, 18, 19, 20, 21, 22, 23, 24, 25, 26] rfl) (hD.sub [0, 1, 2, 3, 4, 5, 6, 7, 8, 9, 10, 11, 12, 13, 14, 15, 16, 17, 18, 19, 20, 21, 22, 23, 24, 25, 26] (by decide) rfl) hS ls (lv_sub hl [0, 1, 2, 3] rfl)
                  exact LP115 _ 0 gbc (by omega) (qSeg_0) (Nat.lt_succ_self _) _ _ (hP.sub [0, 1, 2, 3, 4, 5, 6, 7, 8, 9, 10, 11, 12, 13, 14, 15, 16, 17, 18, 19, 20, 21, 22, 23, 24, 25, 26] rfl) (hD.sub [0, 1, 2, 3, 4, 5, 6, 7, 8, 9, 10, 11, 12, 13, 14, 15, 16, 17, 18, 19, 20, 21, 22, 23, 24, 25, 26] (by decide) rfl) hS ls (lv_sub hl [0, 1, 2, 3] rfl)
              refine lv_aload_n (pc := 58) hx hb dX10_answer_58 rfl (lv_at hl 2 rfl) ?_
              refine va_get (pc := 59) (D := D) (ci := 8) (v := .ref (a 36)) (C := RX10) (T := TX10) (N := 57) hx hb hts iu10 hown hK hP 23 rfl rfl 36 (by decide) (hts _ tw_1081) (fun _ h9 => h9) rfl dX10_answer_59 ?_
              refine lv_iconst (pc := 62) (v := nI 1) hx hb dX10_answer_62 (by decide +kernel) ?_
              refine q_iald (pc := 63) hx hb hK hP 16 0 rfl rfl (k := 1) (v := nI (ru 1)) rfl (by omega) (by omega) rfl dX10_answer_63 ?_
              refine lv_iconst (pc := 64) (v := nI 3) hx hb dX10_answer_64 (by decide +kernel) ?_
              refine lv_icmp_ne (pc := 65) (tgt := 92) hx hb dX10_answer_65 (by decide) (fun c_11 => ?_) (fun c_11 => ?_)
              · skip
                rw [nI_eq (by omega) (by omega)] at c_11
                exact JN92 tp k' (hwk.symm) (by omega) _ _ (hP.sub [0, 1, 2, 3, 4, 5, 6, 7, 8, 9, 10, 11, 12, 13, 14, 15, 16, 17, 18, 19, 20, 21, 22, 23, 24, 25, 26] rfl) (hD.sub [0, 1, 2, 3, 4, 5, 6, 7, 8, 9, 10, 11, 12, 13, 14, 15, 16, 17, 18, 19, 20, 21, 22, 23, 24, 25, 26] (by decide) rfl) hS ls (lv_sub hl [0, 1, 2, 3] rfl)
              · skip
                rw [nI_eq (by omega) (by omega)] at c_11
                exfalso; omega
            · skip
              rw [nI_leI (by omega) (by omega)] at c_5
              refine lv_aload_n (pc := 40) hx hb dX10_answer_40 rfl (lv_at hl 2 rfl) ?_
              refine va_get (pc := 41) (D := D) (ci := 8) (v := .ref (a 54)) (C := RX10) (T := TX10) (N := 57) hx hb hts iu10 hown hK hP 23 rfl rfl 54 (by decide) (hts _ tw_1099) (fun _ h9 => h9) rfl dX10_answer_41 ?_
              refine lv_iload_n (pc := 44) hx hb dX10_answer_44 rfl (lv_at hl 0 rfl) ?_
              refine lv_aload_n (pc := 45) hx hb dX10_answer_45 rfl (lv_at hl 2 rfl) ?_
              refine va_get (pc := 46) (D := D) (ci := 8) (v := .ref (a 27)) (C := RX10) (T := TX10) (N := 57) hx hb hts iu10 hown hK hP 23 rfl rfl 27 (by decide) (hts _ tw_1072) (fun _ h9 => h9) rfl dX10_answer_46 ?_
              refine lv_iload_n (pc := 49) hx hb dX10_answer_49 rfl (lv_at hl 0 rfl) ?_
              refine q_bald (pc := 50) hx hb hK hP 22 2 rfl rfl (k := k1x) (v := qs (gtp k1x)) rfl (by omega) (by omega) rfl dX10_answer_50 ?_
              refine q_bastS (pc := 51) hx hb hK hP hD hS 19 2 rfl rfl (k := k1x) rfl (by omega) (by omega) (b := gtp k1x) (qlo_qs _) dX10_answer_51 (fun H locs hP hD hS => ?_)
              have hP : va_P D vwCl [(a 0, aK ta 64 tIP), (a 1, aK ta 48 tSPR), (a 2, aK ta 32 tMIX), (a 3, aK ta 56 tCH), (a 4, aK ta 48 tSEC), (a 5, aK ta 512 tSBX), (a 10, aB ta 64 bi), (a 11, aB ta 64 tu), (a 12, aB ta 56 cd), (a 13, aB ta 768 sk), (a 14, aB ta 32 hf), (a 15, aB ta 48 wd), (a 22, aS ta 700 gm), (a 24, aS ta 16 mac), (a 55, aS ta 16 gco), (a 41, aS ta 256 gke), (a 36, aK ta 2 ru), (a 50, aK ta 2 cs), (a 31, aS ta 300 gli), (a 54, aS ta 300 (qU k' k1x (gtp k1x))), (a 49, aS ta 408 gcm), (a 46, aS ta 16 gbc), (a 27, aS ta 400 gtp), (h0, oM a ar mn 0 osz lsz ns ct), (a 39, aK ta 2 se), (a 40, aK ta 2 lv), (a 48, aT ta 2 ha)] H := hP
              have hD : va_D A [(a 0, aK ta 64 tIP), (a 1, aK ta 48 tSPR), (a 2, aK ta 32 tMIX), (a 3, aK ta 56 tCH), (a 4, aK ta 48 tSEC), (a 5, aK ta 512 tSBX), (a 10, aB ta 64 bi), (a 11, aB ta 64 tu), (a 12, aB ta 56 cd), (a 13, aB ta 768 sk), (a 14, aB ta 32 hf), (a 15, aB ta 48 wd), (a 22, aS ta 700 gm), (a 24, aS ta 16 mac), (a 55, aS ta 16 gco), (a 41, aS ta 256 gke), (a 36, aK ta 2 ru), (a 50, aK ta 2 cs), (a 31, aS ta 300 gli), (a 54, aS ta 300 (qU k' k1x (gtp k1x))), (a 49, aS ta 408 gcm), (a 46, aS ta 16 gbc), (a 27, aS ta 400 gtp), (h0, oM a ar mn 0 osz lsz ns ct), (a 39, aK ta 2 se), (a 40, aK ta 2 lv), (a 48, aT ta 2 ha)] := hD
              refine lv_iinc (pc := 52) (v := nI (k1x + 1)) (lv' := [(3, .int (nI (k1x + 1))), (2, .int (nI tp)), (0, .ref h0), (1, .int (nI sw9))]) hx hb dX10_answer_52 hl (k := 0) rfl (by first | exact nI_add k1x 1 | rfl) (by decide) rfl (fun ls hl => ?_)
              refine lv_goto (pc := 55) (tgt := 35) hx hb dX10_answer_55 (by decide) ?_
              exact ih35 (k1x + 1) (qU k' k1x (gtp k1x)) (by omega) (qSeg_s hs1 (by omega) (by first | rfl | (simp; done))) (by omega) _ _ (hP.sub [0, 1, 2, 3, 4, 5, 6, 7, 8, 9, 10, 11, 12, 13, 14, 15, 16, 17, 18, 19, 20, 21, 22, 23, 24, 25, 26] rfl) (hD.sub [0, 1, 2, 3, 4, 5, 6, 7, 8, 9, 10, 11, 12, 13, 14, 15, 16, 17, 18, 19, 20, 21, 22, 23, 24, 25, 26] (by decide) rfl) hS ls (lv_sub hl [0, 1, 2, 3] rfl)
        exact LP35 _ 0 gwk (by omega) (qSeg_0) (Nat.lt_succ_self _) _ _ (hP.sub [0, 1, 2, 3, 4, 5, 6, 7, 8, 9, 10, 11, 12, 13, 14, 15, 16, 17, 18, 19, 20, 21, 22, 23, 24, 25, 26] rfl) (hD.sub [0, 1, 2, 3, 4, 5, 6, 7, 8, 9, 10, 11, 12, 13, 14, 15, 16, 17, 18, 19, 20, 21, 22, 23, 24, 25, 26] (by decide) rfl) hS ls (lv_sub hl [0, 1, 2, 3] rfl)
      · skip
        rw [nI_leI (by omega) (by omega)] at c_4
        exfalso; omega
set_option maxHeartbeats 4000000 in
set_option maxRecDepth 100000 in
theorem ct_X10_accept_2 (ll : Launch) (D : va_G) (ta : Nat → ClassId) {G : (Nat → Prop) → State → Heap → Prop} (hGok : GOK G) (h0 : Nat) (a : Nat → Nat) (ar : Nat) (mn : Nat) (tp : Nat) (osz : Nat) (lsz : Nat) (ns : Nat) (ct : Nat) (bi : Nat → Bool) (tu : Nat → Bool) (cd : Nat → Bool) (sk : Nat → Bool) (hf : Nat → Bool) (wd : Nat → Bool) (gm : Nat → BitVec 8) (mac : Nat → BitVec 8) (gco : Nat → BitVec 8) (gke : Nat → BitVec 8) (gli : Nat → BitVec 8) (gwk : Nat → BitVec 8) (gcm : Nat → BitVec 8) (gbc : Nat → BitVec 8) (ru : Nat → Nat) (cs : Nat → Nat) (se : Nat → Nat) (lv : Nat → Nat) (ha : Nat → Bool) (gah : Nat → BitVec 8) (gou : Nat → BitVec 8) (sw9 : Nat) (hse : se 0 = 2) (hlv : lv 0 < 256) (hl16 : lv 0 &&& 16 ≠ 0) (hha : ha 0 = true) (hru : ru 0 = 2) (hsw : sw9 < 65536) (hcs : 4 ≤ cs 0 ∧ cs 0 ≤ 204) (hlz : lsz ≤ 300) (sz : Nat) : CT ll yX10_accept cX10_accept 6 (some .int) ({ frames := 6, cells := 0, slots := 0, locals := 151 } : Room) D ta G [.ref h0, .int (nI sw9)] [(h0, oM a ar mn tp osz lsz ns ct), (a 0, aK ta 64 tIP), (a 1, aK ta 48 tSPR), (a 2, aK ta 32 tMIX), (a 3, aK ta 56 tCH), (a 4, aK ta 48 tSEC), (a 5, aK ta 512 tSBX), (a 10, aB ta 64 bi), (a 11, aB ta 64 tu), (a 12, aB ta 56 cd), (a 13, aB ta 768 sk), (a 14, aB ta 32 hf), (a 15, aB ta 48 wd), (a 22, aS ta 700 gm), (a 24, aS ta 16 mac), (a 55, aS ta 16 gco), (a 41, aS ta 256 gke), (a 36, aK ta 2 ru), (a 50, aK ta 2 cs), (a 31, aS ta 300 gli), (a 54, aS ta 300 gwk), (a 39, aK ta 2 se), (a 40, aK ta 2 lv), (a 48, aT ta 2 ha), (a 49, aS ta 408 gcm), (a 46, aS ta 16 gbc), (a 56, aS ta 16 gah), (a 29, aS ta 416 gou)] sz (S := Bool × (Nat → Bool) × (Nat → Bool) × (Nat → Bool) × (Nat → Bool) × (Nat → Bool) × (Nat → Bool) × (Nat → BitVec 8) × (Nat → BitVec 8) × (Nat → BitVec 8) × (Nat → BitVec 8) × (Nat → BitVec 8) × Nat × (Nat → BitVec 8) × (Nat → BitVec 8) × Nat) (fun u => some (.int (qb u.1))) (fun u => (openA2 (seg gke 64 16) (seg gbc 0 8) (seg gcm 0 (cs 0)) (qL gli lsz) sw9 = if u.1 then some (qL u.2.2.2.2.2.2.2.2.2.2.2.2.2.2.1 u.2.2.2.2.2.2.2.2.2.2.2.2.2.2.2, seg u.2.2.2.2.2.2.2.2.2.2.2.1 0 8) else none) ∧ (u.1 = false → u.2.2.2.2.2.2.2.2.2.2.2.2.2.2.1 = gou ∧ u.2.2.2.2.2.2.2.2.2.2.2.2.2.2.2 = osz ∧ u.2.2.2.2.2.2.2.2.2.2.2.1 = gbc) ∧ (u.1 = true → u.2.2.2.2.2.2.2.2.2.2.2.2.2.2.2 ≤ 292) ∧ (∀ j, 8 ≤ j → u.2.2.2.2.2.2.2.2.2.2.2.1 j = gbc j)) (fun u => [(h0, oM a ar u.2.2.2.2.2.2.2.2.2.2.2.2.1 tp u.2.2.2.2.2.2.2.2.2.2.2.2.2.2.2 0 ns ct), (a 0, aK ta 64 tIP), (a 1, aK ta 48 tSPR), (a 2, aK ta 32 tMIX), (a 3, aK ta 56 tCH), (a 4, aK ta 48 tSEC), (a 5, aK ta 512 tSBX), (a 10, aB ta 64 u.2.1), (a 11, aB ta 64 u.2.2.1), (a 12, aB ta 56 u.2.2.2.1), (a 13, aB ta 768 u.2.2.2.2.1), (a 14, aB ta 32 u.2.2.2.2.2.1), (a 15, aB ta 48 u.2.2.2.2.2.2.1), (a 22, aS ta 700 u.2.2.2.2.2.2.2.1), (a 24, aS ta 16 u.2.2.2.2.2.2.2.2.1), (a 55, aS ta 16 u.2.2.2.2.2.2.2.2.2.1), (a 41, aS ta 256 gke), (a 36, aK ta 2 ru), (a 50, aK ta 2 cs), (a 31, aS ta 300 gli), (a 54, aS ta 300 u.2.2.2.2.2.2.2.2.2.2.1), (a 39, aK ta 2 se), (a 40, aK ta 2 lv), (a 48, aT ta 2 ha), (a 49, aS ta 408 gcm), (a 46, aS ta 16 u.2.2.2.2.2.2.2.2.2.2.2.1), (a 56, aS ta 16 u.2.2.2.2.2.2.2.2.2.2.2.2.2.1), (a 29, aS ta 416 u.2.2.2.2.2.2.2.2.2.2.2.2.2.2.1)]) 0 0 := by
  refine CT.of_i (r := fun u => qb u.1) rfl (by decide) (Nat.le_of_ble_eq_true rfl) ?_
  intro pp ee ss mm below meth kc A Q hx hb hml hown hin hts hK hA hsz hG hret H locs hP hD hS ls hl
  have hl : lv_has ls 6 [(0, .ref h0), (1, .int (nI sw9))] := hl
  refine lv_aload_n (pc := 0) hx hb dX10_accept_0 rfl (lv_at hl 0 rfl) ?_
  refine lv_iconst (pc := 1) (v := nI 0) hx hb dX10_accept_1 (by decide +kernel) ?_
  refine cs_V (pc := 2) (idx := 398) (n := 1) (wr := [(a 0, aK ta 64 tIP), (a 1, aK ta 48 tSPR), (a 2, aK ta 32 tMIX), (a 3, aK ta 56 tCH), (a 4, aK ta 48 tSEC), (a 5, aK ta 512 tSBX), (a 10, aB ta 64 bi), (a 11, aB ta 64 tu), (a 12, aB ta 56 cd), (a 13, aB ta 768 sk), (a 14, aB ta 32 hf), (a 15, aB ta 48 wd), (a 22, aS ta 700 gm), (a 24, aS ta 16 mac), (a 55, aS ta 16 gco), (a 41, aS ta 256 gke), (a 36, aK ta 2 ru), (a 50, aK ta 2 cs), (a 31, aS ta 300 gli), (a 54, aS ta 300 gwk), (a 49, aS ta 408 gcm), (a 46, aS ta 16 gbc), (a 56, aS ta 16 gah), (a 29, aS ta 416 gou)]) (As := [.int (nI 0)]) (rest := []) (ci := 8) hx hb hml hown hts hGok hK hA hG hl.1 hP hD hS (ct_X10_answers ll D ta hGok h0 a ar mn tp osz lsz ns ct se lv ha 0 (by first | assumption | omega | rfl | decide) (by first | assumption | omega | rfl | decide) (by first | assumption | omega | rfl | decide) H.size) tw_1429 tw_1426 tw_1428 tw_61 tw_75 hdX10_answers rfl ⟨rfl, rfl, Nat.le_of_ble_eq_true rfl, Nat.le_of_ble_eq_true rfl, Nat.le_of_ble_eq_true rfl, Nat.le_of_ble_eq_true rfl⟩ rfl rfl (q0 := 0) rfl [0, 21, 22, 23] [1, 2, 3, 4, 5, 6, 7, 8, 9, 10, 11, 12, 13, 14, 15, 16, 17, 18, 19, 20, 24, 25, 26, 27] rfl rfl (by decide) rfl (Nat.le_of_ble_eq_true rfl) dX10_accept_2 (fun u H locs hq hP hD hS => ?_)
  generalize u = z_2 at hq hP hD ⊢
  have hq : (z_2 = decide (se 0 = 2 ∧ lv 0 &&& 16 ≠ 0 ∧ ha 0 = true)) := hq
  have hz_2 := hq
  refine W.eq (g2 := F0 mm 5 ls [.int (qb z_2)]) rfl ?_
  have hP : va_P D vwCl [(a 0, aK ta 64 tIP), (a 1, aK ta 48 tSPR), (a 2, aK ta 32 tMIX), (a 3, aK ta 56 tCH), (a 4, aK ta 48 tSEC), (a 5, aK ta 512 tSBX), (a 10, aB ta 64 bi), (a 11, aB ta 64 tu), (a 12, aB ta 56 cd), (a 13, aB ta 768 sk), (a 14, aB ta 32 hf), (a 15, aB ta 48 wd), (a 22, aS ta 700 gm), (a 24, aS ta 16 mac), (a 55, aS ta 16 gco), (a 41, aS ta 256 gke), (a 36, aK ta 2 ru), (a 50, aK ta 2 cs), (a 31, aS ta 300 gli), (a 54, aS ta 300 gwk), (a 49, aS ta 408 gcm), (a 46, aS ta 16 gbc), (a 56, aS ta 16 gah), (a 29, aS ta 416 gou), (h0, oM a ar mn tp osz lsz ns ct), (a 39, aK ta 2 se), (a 40, aK ta 2 lv), (a 48, aT ta 2 ha)] H := hP
  have hD : va_D A [(a 0, aK ta 64 tIP), (a 1, aK ta 48 tSPR), (a 2, aK ta 32 tMIX), (a 3, aK ta 56 tCH), (a 4, aK ta 48 tSEC), (a 5, aK ta 512 tSBX), (a 10, aB ta 64 bi), (a 11, aB ta 64 tu), (a 12, aB ta 56 cd), (a 13, aB ta 768 sk), (a 14, aB ta 32 hf), (a 15, aB ta 48 wd), (a 22, aS ta 700 gm), (a 24, aS ta 16 mac), (a 55, aS ta 16 gco), (a 41, aS ta 256 gke), (a 36, aK ta 2 ru), (a 50, aK ta 2 cs), (a 31, aS ta 300 gli), (a 54, aS ta 300 gwk), (a 49, aS ta 408 gcm), (a 46, aS ta 16 gbc), (a 56, aS ta 16 gah), (a 29, aS ta 416 gou), (h0, oM a ar mn tp osz lsz ns ct), (a 39, aK ta 2 se), (a 40, aK ta 2 lv), (a 48, aT ta 2 ha)] := hD
  refine lv_if_eq (pc := 5) (tgt := 19) hx hb dX10_accept_5 (by decide) (fun c_1 => ?_) (fun c_1 => ?_)
  · skip
    rw [q_beq] at c_1
    try rw [Bool.not_eq_false] at c_1
    rw [hz_2, decide_eq_true (⟨hse, hl16, hha⟩ : (se 0 = 2 ∧ lv 0 &&& 16 ≠ 0 ∧ ha 0 = true))] at c_1; cases c_1
  · skip
    rw [q_beq] at c_1
    try rw [Bool.not_eq_false] at c_1
    refine lv_iload_n (pc := 8) hx hb dX10_accept_8 rfl (lv_at hl 1 rfl) ?_
    refine lv_if_lt (pc := 9) (tgt := 19) hx hb dX10_accept_9 (by decide) (fun c_2 => ?_) (fun _ => ?_)
    · skip
      rw [q_lt0 (by omega)] at c_2
      exact c_2.elim
    refine lv_iload_n (pc := 12) hx hb dX10_accept_12 rfl (lv_at hl 1 rfl) ?_
    refine lv_ldcw (pc := 13) (v := (nI 65535)) hx hb hown (q_at (hts _ tw_1430) (by decide +kernel)) dX10_accept_13 ?_
    refine lv_icmp_le (pc := 16) (tgt := 21) hx hb dX10_accept_16 (by decide) (fun c_3 => ?_) (fun c_3 => ?_)
    · skip
      rw [nI_leI (by omega) (by omega)] at c_3
      refine lv_aload_n (pc := 21) hx hb dX10_accept_21 rfl (lv_at hl 0 rfl) ?_
      refine va_get (pc := 22) (D := D) (ci := 8) (v := .int (nI lsz)) (C := RX10) (T := TX10) (N := 57) hx hb hts iu10 hown hK hP 24 rfl rfl 32 (by decide) (hts _ tw_1077) (fun _ h9 => h9) rfl dX10_accept_22 ?_
      by_cases h8 : 8 ≤ lsz
      · skip
        refine lv_bipush (pc := 25) (v := nI 8) hx hb dX10_accept_25 (by decide +kernel) ?_
        refine lv_isub (pc := 27) hx hb dX10_accept_27 ?_
        refine q_top (y := nI (lsz - 8)) (pk_sub (a := lsz) (b := 8) (by omega)) ?_
        refine lv_istore_n (pc := 28) (lv' := [(2, .int (nI (lsz - 8))), (0, .ref h0), (1, .int (nI sw9))]) hx hb dX10_accept_28 rfl hl (by decide) rfl (fun ls hl => ?_)
        refine lv_aload_n (pc := 29) hx hb dX10_accept_29 rfl (lv_at hl 1 rfl) ?_
        refine lv_iconst (pc := 30) (v := nI 0) hx hb dX10_accept_30 (by decide +kernel) ?_
        refine va_put (pc := 31) (D := D) (ci := 8) (v := .int (nI 0)) (ty := .int) (C := RX10) (T := TX10) (N := 57) hx hb hts iu10 tyX10 tyX10_ok nmX10 hown hK hP hD hS 24 rfl rfl 32 (by decide) (hts _ tw_1077) (fun _ h9 => h9) rfl (by decide +kernel) rfl rfl (Nat.le_of_ble_eq_true rfl) dX10_accept_31 (fun H locs hP hD hS => ?_)
        have hP : va_P D vwCl [(a 0, aK ta 64 tIP), (a 1, aK ta 48 tSPR), (a 2, aK ta 32 tMIX), (a 3, aK ta 56 tCH), (a 4, aK ta 48 tSEC), (a 5, aK ta 512 tSBX), (a 10, aB ta 64 bi), (a 11, aB ta 64 tu), (a 12, aB ta 56 cd), (a 13, aB ta 768 sk), (a 14, aB ta 32 hf), (a 15, aB ta 48 wd), (a 22, aS ta 700 gm), (a 24, aS ta 16 mac), (a 55, aS ta 16 gco), (a 41, aS ta 256 gke), (a 36, aK ta 2 ru), (a 50, aK ta 2 cs), (a 31, aS ta 300 gli), (a 54, aS ta 300 gwk), (a 49, aS ta 408 gcm), (a 46, aS ta 16 gbc), (a 56, aS ta 16 gah), (a 29, aS ta 416 gou), (h0, oM a ar mn tp osz 0 ns ct), (a 39, aK ta 2 se), (a 40, aK ta 2 lv), (a 48, aT ta 2 ha)] H := hP
        have hD : va_D A [(a 0, aK ta 64 tIP), (a 1, aK ta 48 tSPR), (a 2, aK ta 32 tMIX), (a 3, aK ta 56 tCH), (a 4, aK ta 48 tSEC), (a 5, aK ta 512 tSBX), (a 10, aB ta 64 bi), (a 11, aB ta 64 tu), (a 12, aB ta 56 cd), (a 13, aB ta 768 sk), (a 14, aB ta 32 hf), (a 15, aB ta 48 wd), (a 22, aS ta 700 gm), (a 24, aS ta 16 mac), (a 55, aS ta 16 gco), (a 41, aS ta 256 gke), (a 36, aK ta 2 ru), (a 50, aK ta 2 cs), (a 31, aS ta 300 gli), (a 54, aS ta 300 gwk), (a 49, aS ta 408 gcm), (a 46, aS ta 16 gbc), (a 56, aS ta 16 gah), (a 29, aS ta 416 gou), (h0, oM a ar mn tp osz 0 ns ct), (a 39, aK ta 2 se), (a 40, aK ta 2 lv), (a 48, aT ta 2 ha)] := hD
        refine lv_iload_n (pc := 34) hx hb dX10_accept_34 rfl (lv_at hl 0 rfl) ?_
        refine lv_if_ge (pc := 35) (tgt := 40) hx hb dX10_accept_35 (by decide) (fun _ => ?_) (fun c_4 => ?_)
        rotate_left
        · skip
          rw [q_ge0 (by omega)] at c_4
          exact absurd trivial c_4
        have hlm2 : lv 0 &&& 32 ≤ 32 := Nat.and_le_right
        have hmid : ((qL gli lsz).take ((qL gli lsz).length - 8)) = qL gli (lsz - 8) := by rw [qL_len, qL_take (by omega)]
        have JN71 : ∀ (hd9 : Nat), (hd9 = 0) → ∀ (H : Heap) (locs : List Loc), va_P D vwCl [(a 0, aK ta 64 tIP), (a 1, aK ta 48 tSPR), (a 2, aK ta 32 tMIX), (a 3, aK ta 56 tCH), (a 4, aK ta 48 tSEC), (a 5, aK ta 512 tSBX), (a 10, aB ta 64 bi), (a 11, aB ta 64 tu), (a 12, aB ta 56 cd), (a 13, aB ta 768 sk), (a 14, aB ta 32 hf), (a 15, aB ta 48 wd), (a 22, aS ta 700 gm), (a 24, aS ta 16 mac), (a 55, aS ta 16 gco), (a 41, aS ta 256 gke), (a 36, aK ta 2 ru), (a 50, aK ta 2 cs), (a 31, aS ta 300 gli), (a 54, aS ta 300 gwk), (a 49, aS ta 408 gcm), (a 46, aS ta 16 gbc), (a 56, aS ta 16 gah), (a 29, aS ta 416 gou), (h0, oM a ar mn tp osz 0 ns ct), (a 39, aK ta 2 se), (a 40, aK ta 2 lv), (a 48, aT ta 2 ha)] H → va_D A [(a 0, aK ta 64 tIP), (a 1, aK ta 48 tSPR), (a 2, aK ta 32 tMIX), (a 3, aK ta 56 tCH), (a 4, aK ta 48 tSEC), (a 5, aK ta 512 tSBX), (a 10, aB ta 64 bi), (a 11, aB ta 64 tu), (a 12, aB ta 56 cd), (a 13, aB ta 768 sk), (a 14, aB ta 32 hf), (a 15, aB ta 48 wd), (a 22, aS ta 700 gm), (a 24, aS ta 16 mac), (a 55, aS ta 16 gco), (a 41, aS ta 256 gke), (a 36, aK ta 2 ru), (a 50, aK ta 2 cs), (a 31, aS ta 300 gli), (a 54, aS ta 300 gwk), (a 49, aS ta 408 gcm), (a 46, aS ta 16 gbc), (a 56, aS ta 16 gah), (a 29, aS ta 416 gou), (h0, oM a ar mn tp osz 0 ns ct), (a 39, aK ta 2 se), (a 40, aK ta 2 lv), (a 48, aT ta 2 ha)] → va_S A ss.heap H locs → ∀ ls : Array Slot, lv_has ls 6 [(2, .int (nI (lsz - 8))), (0, .ref h0), (1, .int (nI sw9))] → W pp ll ee ({ frames := 6, cells := 0, slots := 0, locals := 151 } : Room) ss mm (([.ref h0, .int (nI sw9)] : List Value).toArray) below meth kc H locs 0 0 Q (F0 mm 71 ls [.int (nI hd9)]) := by
          intro hd9 hhd H locs hP hD hS ls hl
          refine lv_istore_n (pc := 71) (lv' := [(3, .int (nI hd9)), (2, .int (nI (lsz - 8))), (0, .ref h0), (1, .int (nI sw9))]) hx hb dX10_accept_71 rfl hl (by decide) rfl (fun ls hl => ?_)
          refine lv_aload_n (pc := 72) hx hb dX10_accept_72 rfl (lv_at hl 2 rfl) ?_
          refine lv_iconst (pc := 73) (v := nI 0) hx hb dX10_accept_73 (by decide +kernel) ?_
          refine lv_aload_n (pc := 74) hx hb dX10_accept_74 rfl (lv_at hl 2 rfl) ?_
          refine va_get (pc := 75) (D := D) (ci := 8) (v := .ref (a 31)) (C := RX10) (T := TX10) (N := 57) hx hb hts iu10 hown hK hP 24 rfl rfl 31 (by decide) (hts _ tw_1076) (fun _ h9 => h9) rfl dX10_accept_75 ?_
          refine lv_iload_n (pc := 78) hx hb dX10_accept_78 rfl (lv_at hl 1 rfl) ?_
          refine lv_iload_n (pc := 79) hx hb dX10_accept_79 rfl (lv_at hl 3 rfl) ?_
          refine cs_V (pc := 80) (idx := 402) (n := 4) (wr := [(a 54, aS ta 300 gwk), (a 56, aS ta 16 gah), (a 29, aS ta 416 gou), (a 39, aK ta 2 se), (a 40, aK ta 2 lv), (a 48, aT ta 2 ha)]) (As := [.int (nI 0), .ref (a 31), .int (nI (lsz - 8)), .int (nI sw9)]) (rest := []) (ci := 8) hx hb hml hown hts hGok hK hA hG hl.1 hP hD hS (ct_X10_answerMac_2 ll D ta hGok h0 a ar mn tp osz 0 ns ct bi tu cd sk hf wd gm mac gco gke gcm gbc ru cs 0 (a 31) 300 gli (lsz - 8) sw9 (by first | assumption | omega | rfl | decide) (by first | assumption | omega | rfl | decide) (by first | assumption | omega | rfl | decide) (by first | assumption | omega | rfl | decide) (by first | assumption | omega | rfl | decide) H.size) tw_1434 tw_1431 tw_1433 tw_62 tw_75 hdX10_answerMac rfl ⟨rfl, rfl, Nat.le_of_ble_eq_true rfl, Nat.le_of_ble_eq_true rfl, Nat.le_of_ble_eq_true rfl, Nat.le_of_ble_eq_true rfl⟩ rfl rfl (q0 := 24) rfl [24, 0, 1, 2, 3, 4, 5, 6, 7, 8, 9, 10, 11, 12, 13, 14, 15, 16, 17, 20, 21, 18] [19, 22, 23, 25, 26, 27] rfl rfl (by decide) rfl (Nat.le_of_ble_eq_true rfl) dX10_accept_80 (fun u H locs hq hP hD hS => ?_)
          obtain ⟨bi1_80, tu1_80, cd1_80, sk1_80, hf1_80, wd1_80, gm1_80, mac1_80, gco1_80, mn1_80⟩ := u
          have hq : (seg gco1_80 0 8 = ansCode2 (seg gke (128 * 0 + 64) 16) (seg gbc (8 * 0) 8) (seg gcm (204 * 0) (cs 0)) (qL gli (lsz - 8)) sw9) := hq
          have hs_80 := hq
          refine W.eq (g2 := F0 mm 83 ls []) rfl ?_
          have hP : va_P D vwCl [(a 54, aS ta 300 gwk), (a 56, aS ta 16 gah), (a 29, aS ta 416 gou), (a 39, aK ta 2 se), (a 40, aK ta 2 lv), (a 48, aT ta 2 ha), (h0, oM a ar mn1_80 tp osz 0 ns ct), (a 0, aK ta 64 tIP), (a 1, aK ta 48 tSPR), (a 2, aK ta 32 tMIX), (a 3, aK ta 56 tCH), (a 4, aK ta 48 tSEC), (a 5, aK ta 512 tSBX), (a 10, aB ta 64 bi1_80), (a 11, aB ta 64 tu1_80), (a 12, aB ta 56 cd1_80), (a 13, aB ta 768 sk1_80), (a 14, aB ta 32 hf1_80), (a 15, aB ta 48 wd1_80), (a 22, aS ta 700 gm1_80), (a 24, aS ta 16 mac1_80), (a 55, aS ta 16 gco1_80), (a 41, aS ta 256 gke), (a 36, aK ta 2 ru), (a 50, aK ta 2 cs), (a 49, aS ta 408 gcm), (a 46, aS ta 16 gbc), (a 31, aS ta 300 gli)] H := hP
          have hD : va_D A [(a 54, aS ta 300 gwk), (a 56, aS ta 16 gah), (a 29, aS ta 416 gou), (a 39, aK ta 2 se), (a 40, aK ta 2 lv), (a 48, aT ta 2 ha), (h0, oM a ar mn1_80 tp osz 0 ns ct), (a 0, aK ta 64 tIP), (a 1, aK ta 48 tSPR), (a 2, aK ta 32 tMIX), (a 3, aK ta 56 tCH), (a 4, aK ta 48 tSEC), (a 5, aK ta 512 tSBX), (a 10, aB ta 64 bi1_80), (a 11, aB ta 64 tu1_80), (a 12, aB ta 56 cd1_80), (a 13, aB ta 768 sk1_80), (a 14, aB ta 32 hf1_80), (a 15, aB ta 48 wd1_80), (a 22, aS ta 700 gm1_80), (a 24, aS ta 16 mac1_80), (a 55, aS ta 16 gco1_80), (a 41, aS ta 256 gke), (a 36, aK ta 2 ru), (a 50, aK ta 2 cs), (a 49, aS ta 408 gcm), (a 46, aS ta 16 gbc), (a 31, aS ta 300 gli)] := hD
          refine lv_aload_n (pc := 83) hx hb dX10_accept_83 rfl (lv_at hl 2 rfl) ?_
          refine lv_iload_n (pc := 84) hx hb dX10_accept_84 rfl (lv_at hl 1 rfl) ?_
          refine cs_V (pc := 85) (idx := 385) (n := 1) (wr := [(a 54, aS ta 300 gwk), (a 56, aS ta 16 gah), (a 29, aS ta 416 gou), (a 39, aK ta 2 se), (a 40, aK ta 2 lv), (a 48, aT ta 2 ha), (a 0, aK ta 64 tIP), (a 1, aK ta 48 tSPR), (a 2, aK ta 32 tMIX), (a 3, aK ta 56 tCH), (a 4, aK ta 48 tSEC), (a 5, aK ta 512 tSBX), (a 10, aB ta 64 bi1_80), (a 11, aB ta 64 tu1_80), (a 12, aB ta 56 cd1_80), (a 13, aB ta 768 sk1_80), (a 14, aB ta 32 hf1_80), (a 15, aB ta 48 wd1_80), (a 22, aS ta 700 gm1_80), (a 24, aS ta 16 mac1_80), (a 41, aS ta 256 gke), (a 36, aK ta 2 ru), (a 50, aK ta 2 cs), (a 49, aS ta 408 gcm), (a 46, aS ta 16 gbc)]) (As := [.int (nI (lsz - 8))]) (rest := []) (ci := 8) hx hb hml hown hts hGok hK hA hG hl.1 hP hD hS (ct_X10_isCode ll D ta hGok h0 a ar mn1_80 tp osz 0 ns ct gli gco1_80 (lsz - 8) (by first | assumption | omega | rfl | decide) H.size) tw_1412 tw_1409 tw_1411 tw_58 tw_75 hdX10_isCode rfl ⟨rfl, rfl, Nat.le_of_ble_eq_true rfl, Nat.le_of_ble_eq_true rfl, Nat.le_of_ble_eq_true rfl, Nat.le_of_ble_eq_true rfl⟩ rfl rfl (q0 := 6) rfl [6, 27, 21] [0, 1, 2, 3, 4, 5, 7, 8, 9, 10, 11, 12, 13, 14, 15, 16, 17, 18, 19, 20, 22, 23, 24, 25, 26] rfl rfl (by decide) rfl (Nat.le_of_ble_eq_true rfl) dX10_accept_85 (fun u H locs hq hP hD hS => ?_)
          generalize u = z_85 at hq hP hD ⊢
          have hq : (z_85 = decide (seg gli (lsz - 8) 8 = seg gco1_80 0 8)) := hq
          have hz_85 := hq
          refine W.eq (g2 := F0 mm 88 ls [.int (qb z_85)]) rfl ?_
          have hP : va_P D vwCl [(a 54, aS ta 300 gwk), (a 56, aS ta 16 gah), (a 29, aS ta 416 gou), (a 39, aK ta 2 se), (a 40, aK ta 2 lv), (a 48, aT ta 2 ha), (a 0, aK ta 64 tIP), (a 1, aK ta 48 tSPR), (a 2, aK ta 32 tMIX), (a 3, aK ta 56 tCH), (a 4, aK ta 48 tSEC), (a 5, aK ta 512 tSBX), (a 10, aB ta 64 bi1_80), (a 11, aB ta 64 tu1_80), (a 12, aB ta 56 cd1_80), (a 13, aB ta 768 sk1_80), (a 14, aB ta 32 hf1_80), (a 15, aB ta 48 wd1_80), (a 22, aS ta 700 gm1_80), (a 24, aS ta 16 mac1_80), (a 41, aS ta 256 gke), (a 36, aK ta 2 ru), (a 50, aK ta 2 cs), (a 49, aS ta 408 gcm), (a 46, aS ta 16 gbc), (h0, oM a ar mn1_80 tp osz 0 ns ct), (a 31, aS ta 300 gli), (a 55, aS ta 16 gco1_80)] H := hP
          have hD : va_D A [(a 54, aS ta 300 gwk), (a 56, aS ta 16 gah), (a 29, aS ta 416 gou), (a 39, aK ta 2 se), (a 40, aK ta 2 lv), (a 48, aT ta 2 ha), (a 0, aK ta 64 tIP), (a 1, aK ta 48 tSPR), (a 2, aK ta 32 tMIX), (a 3, aK ta 56 tCH), (a 4, aK ta 48 tSEC), (a 5, aK ta 512 tSBX), (a 10, aB ta 64 bi1_80), (a 11, aB ta 64 tu1_80), (a 12, aB ta 56 cd1_80), (a 13, aB ta 768 sk1_80), (a 14, aB ta 32 hf1_80), (a 15, aB ta 48 wd1_80), (a 22, aS ta 700 gm1_80), (a 24, aS ta 16 mac1_80), (a 41, aS ta 256 gke), (a 36, aK ta 2 ru), (a 50, aK ta 2 cs), (a 49, aS ta 408 gcm), (a 46, aS ta 16 gbc), (h0, oM a ar mn1_80 tp osz 0 ns ct), (a 31, aS ta 300 gli), (a 55, aS ta 16 gco1_80)] := hD
          refine lv_if_ne (pc := 88) (tgt := 93) hx hb dX10_accept_88 (by decide) (fun c_5 => ?_) (fun c_5 => ?_)
          · skip
            rw [q_beq] at c_5
            try rw [Bool.not_eq_false] at c_5
            have hze := c_5
            refine lv_iconst (pc := 93) (v := nI 0) hx hb dX10_accept_93 (by decide +kernel) ?_
            refine lv_istore (pc := 94) (lv' := [(4, .int (nI 0)), (3, .int (nI hd9)), (2, .int (nI (lsz - 8))), (0, .ref h0), (1, .int (nI sw9))]) hx hb dX10_accept_94 hl (by decide) rfl (fun ls hl => ?_)
            have LP96 : ∀ (nn96 : Nat) (k1x : Nat) (k' : Nat → BitVec 8), (k1x ≤ lsz - 8) → (qSeg k' gwk 0 k1x gli) → (lsz - 8 - k1x < nn96) → ∀ (H : Heap) (locs : List Loc), va_P D vwCl [(a 54, aS ta 300 k'), (a 56, aS ta 16 gah), (a 29, aS ta 416 gou), (a 39, aK ta 2 se), (a 40, aK ta 2 lv), (a 48, aT ta 2 ha), (a 0, aK ta 64 tIP), (a 1, aK ta 48 tSPR), (a 2, aK ta 32 tMIX), (a 3, aK ta 56 tCH), (a 4, aK ta 48 tSEC), (a 5, aK ta 512 tSBX), (a 10, aB ta 64 bi1_80), (a 11, aB ta 64 tu1_80), (a 12, aB ta 56 cd1_80), (a 13, aB ta 768 sk1_80), (a 14, aB ta 32 hf1_80), (a 15, aB ta 48 wd1_80), (a 22, aS ta 700 gm1_80), (a 24, aS ta 16 mac1_80), (a 41, aS ta 256 gke), (a 36, aK ta 2 ru), (a 50, aK ta 2 cs), (a 49, aS ta 408 gcm), (a 46, aS ta 16 gbc), (h0, oM a ar mn1_80 tp osz 0 ns ct), (a 31, aS ta 300 gli), (a 55, aS ta 16 gco1_80)] H → va_D A [(a 54, aS ta 300 k'), (a 56, aS ta 16 gah), (a 29, aS ta 416 gou), (a 39, aK ta 2 se), (a 40, aK ta 2 lv), (a 48, aT ta 2 ha), (a 0, aK ta 64 tIP), (a 1, aK ta 48 tSPR), (a 2, aK ta 32 tMIX), (a 3, aK ta 56 tCH), (a 4, aK ta 48 tSEC), (a 5, aK ta 512 tSBX), (a 10, aB ta 64 bi1_80), (a 11, aB ta 64 tu1_80), (a 12, aB ta 56 cd1_80), (a 13, aB ta 768 sk1_80), (a 14, aB ta 32 hf1_80), (a 15, aB ta 48 wd1_80), (a 22, aS ta 700 gm1_80), (a 24, aS ta 16 mac1_80), (a 41, aS ta 256 gke), (a 36, aK ta 2 ru), (a 50, aK ta 2 cs), (a 49, aS ta 408 gcm), (a 46, aS ta 16 gbc), (h0, oM a ar mn1_80 tp osz 0 ns ct), (a 31, aS ta 300 gli), (a 55, aS ta 16 gco1_80)] → va_S A ss.heap H locs → ∀ ls : Array Slot, lv_has ls 6 [(4, .int (nI k1x)), (3, .int (nI hd9)), (2, .int (nI (lsz - 8))), (0, .ref h0), (1, .int (nI sw9))] → W pp ll ee ({ frames := 6, cells := 0, slots := 0, locals := 151 } : Room) ss mm (([.ref h0, .int (nI sw9)] : List Value).toArray) below meth kc H locs 0 0 Q (F0 mm 96 ls []) := by
              intro nn96
              induction nn96 with
              | zero => intro k1x k' hkk1 hs1 hmu; exact absurd hmu (Nat.not_lt_zero _)
              | succ nn96 ih96 =>
                intro k1x k' hkk1 hs1 hmu96 H locs hP hD hS ls hl
                refine lv_iload (pc := 96) hx hb dX10_accept_96 (lv_at hl 0 rfl) ?_
                refine lv_iload_n (pc := 98) hx hb dX10_accept_98 rfl (lv_at hl 2 rfl) ?_
                refine lv_icmp_ge (pc := 99) (tgt := 122) hx hb dX10_accept_99 (by decide) (fun c_6 => ?_) (fun c_6 => ?_)
                · skip
                  rw [nI_leI (by omega) (by omega)] at c_6
                  refine lv_iload_n (pc := 122) hx hb dX10_accept_122 rfl (lv_at hl 2 rfl) ?_
                  refine lv_istore (pc := 123) (lv' := [(4, .int (nI (lsz - 8))), (3, .int (nI hd9)), (2, .int (nI (lsz - 8))), (0, .ref h0), (1, .int (nI sw9))]) hx hb dX10_accept_123 hl (by decide) rfl (fun ls hl => ?_)
                  have hwk : qL k' (lsz - 8) = qL gli (lsz - 8) := by rw [← seg_0, seg_copy0 hs1 (by omega)]
                  have JN138 : ∀ (x9 : Int32) (y9 : Bool) (m9 : Nat) (w9 : Nat → BitVec 8) (a9 : Nat → BitVec 8), (x9 = if y9 then nI m9 else -1) → ((some ((qL gli lsz).take ((qL gli lsz).length - 8)) : Option Bytes) = if y9 then some (qL w9 m9) else none) → (m9 ≤ 292) → (hd9 = 0 → ∀ j, j < m9 → gli j = w9 j) → ∀ (H : Heap) (locs : List Loc), va_P D vwCl [(a 54, aS ta 300 w9), (a 56, aS ta 16 a9), (a 29, aS ta 416 gou), (a 39, aK ta 2 se), (a 40, aK ta 2 lv), (a 48, aT ta 2 ha), (a 0, aK ta 64 tIP), (a 1, aK ta 48 tSPR), (a 2, aK ta 32 tMIX), (a 3, aK ta 56 tCH), (a 4, aK ta 48 tSEC), (a 5, aK ta 512 tSBX), (a 10, aB ta 64 bi1_80), (a 11, aB ta 64 tu1_80), (a 12, aB ta 56 cd1_80), (a 13, aB ta 768 sk1_80), (a 14, aB ta 32 hf1_80), (a 15, aB ta 48 wd1_80), (a 22, aS ta 700 gm1_80), (a 24, aS ta 16 mac1_80), (a 41, aS ta 256 gke), (a 36, aK ta 2 ru), (a 50, aK ta 2 cs), (a 49, aS ta 408 gcm), (a 46, aS ta 16 gbc), (h0, oM a ar mn1_80 tp osz 0 ns ct), (a 31, aS ta 300 gli), (a 55, aS ta 16 gco1_80)] H → va_D A [(a 54, aS ta 300 w9), (a 56, aS ta 16 a9), (a 29, aS ta 416 gou), (a 39, aK ta 2 se), (a 40, aK ta 2 lv), (a 48, aT ta 2 ha), (a 0, aK ta 64 tIP), (a 1, aK ta 48 tSPR), (a 2, aK ta 32 tMIX), (a 3, aK ta 56 tCH), (a 4, aK ta 48 tSEC), (a 5, aK ta 512 tSBX), (a 10, aB ta 64 bi1_80), (a 11, aB ta 64 tu1_80), (a 12, aB ta 56 cd1_80), (a 13, aB ta 768 sk1_80), (a 14, aB ta 32 hf1_80), (a 15, aB ta 48 wd1_80), (a 22, aS ta 700 gm1_80), (a 24, aS ta 16 mac1_80), (a 41, aS ta 256 gke), (a 36, aK ta 2 ru), (a 50, aK ta 2 cs), (a 49, aS ta 408 gcm), (a 46, aS ta 16 gbc), (h0, oM a ar mn1_80 tp osz 0 ns ct), (a 31, aS ta 300 gli), (a 55, aS ta 16 gco1_80)] → va_S A ss.heap H locs → ∀ ls : Array Slot, lv_has ls 6 [(4, .int x9), (3, .int (nI hd9)), (2, .int (nI (lsz - 8))), (0, .ref h0), (1, .int (nI sw9))] → W pp ll ee ({ frames := 6, cells := 0, slots := 0, locals := 151 } : Room) ss mm (([.ref h0, .int (nI sw9)] : List Value).toArray) below meth kc H locs 0 0 Q (F0 mm 138 ls []) := by
                    intro x9 y9 m9 w9 a9 hx9e hD9 hm9 hlw H locs hP hD hS ls hl
                    refine lv_iload (pc := 138) hx hb dX10_accept_138 (lv_at hl 0 rfl) ?_
                    by_cases hy9 : y9 = true
                    · skip
                      subst hy9
                      have hx8 : x9 = nI m9 := hx9e
                      subst hx8
                      have hD8 : (some ((qL gli lsz).take ((qL gli lsz).length - 8)) : Option Bytes) = some (qL w9 m9) := hD9
                      refine lv_iconst (pc := 140) (v := (-1)) hx hb dX10_accept_140 (by decide +kernel) ?_
                      refine lv_icmp_ne (pc := 141) (tgt := 146) hx hb dX10_accept_141 (by decide) (fun c_7 => ?_) (fun c_7 => ?_)
                      · skip
                        refine lv_aload_n (pc := 146) hx hb dX10_accept_146 rfl (lv_at hl 3 rfl) ?_
                        refine va_get (pc := 147) (D := D) (ci := 8) (v := .ref (a 36)) (C := RX10) (T := TX10) (N := 57) hx hb hts iu10 hown hK hP 25 rfl rfl 36 (by decide) (hts _ tw_1081) (fun _ h9 => h9) rfl dX10_accept_147 ?_
                        refine lv_iconst (pc := 150) (v := nI 0) hx hb dX10_accept_150 (by decide +kernel) ?_
                        refine q_iald (pc := 151) hx hb hK hP 21 0 rfl rfl (k := 0) (v := nI (ru 0)) rfl (by omega) (by omega) rfl dX10_accept_151 ?_
                        refine lv_iconst (pc := 152) (v := nI 2) hx hb dX10_accept_152 (by decide +kernel) ?_
                        refine lv_icmp_ne (pc := 153) (tgt := 186) hx hb dX10_accept_153 (by decide) (fun c_8 => ?_) (fun c_8 => ?_)
                        · skip
                          rw [nI_eq (by omega) (by omega)] at c_8
                          exfalso; omega
                        · skip
                          rw [nI_eq (by omega) (by omega)] at c_8
                          refine lv_iconst (pc := 156) (v := nI 0) hx hb dX10_accept_156 (by decide +kernel) ?_
                          refine lv_istore (pc := 157) (lv' := [(5, .int (nI 0)), (4, .int (nI m9)), (3, .int (nI hd9)), (2, .int (nI (lsz - 8))), (0, .ref h0), (1, .int (nI sw9))]) hx hb dX10_accept_157 hl (by decide) rfl (fun ls hl => ?_)
                          have LP159 : ∀ (nn159 : Nat) (k5x : Nat) (e' : Nat → BitVec 8), (k5x ≤ 8) → (qSeg e' gbc 0 k5x gco1_80) → (8 - k5x < nn159) → ∀ (H : Heap) (locs : List Loc), va_P D vwCl [(a 54, aS ta 300 w9), (a 56, aS ta 16 a9), (a 29, aS ta 416 gou), (a 39, aK ta 2 se), (a 40, aK ta 2 lv), (a 48, aT ta 2 ha), (a 0, aK ta 64 tIP), (a 1, aK ta 48 tSPR), (a 2, aK ta 32 tMIX), (a 3, aK ta 56 tCH), (a 4, aK ta 48 tSEC), (a 5, aK ta 512 tSBX), (a 10, aB ta 64 bi1_80), (a 11, aB ta 64 tu1_80), (a 12, aB ta 56 cd1_80), (a 13, aB ta 768 sk1_80), (a 14, aB ta 32 hf1_80), (a 15, aB ta 48 wd1_80), (a 22, aS ta 700 gm1_80), (a 24, aS ta 16 mac1_80), (a 41, aS ta 256 gke), (a 36, aK ta 2 ru), (a 50, aK ta 2 cs), (a 49, aS ta 408 gcm), (a 46, aS ta 16 e'), (h0, oM a ar mn1_80 tp osz 0 ns ct), (a 31, aS ta 300 gli), (a 55, aS ta 16 gco1_80)] H → va_D A [(a 54, aS ta 300 w9), (a 56, aS ta 16 a9), (a 29, aS ta 416 gou), (a 39, aK ta 2 se), (a 40, aK ta 2 lv), (a 48, aT ta 2 ha), (a 0, aK ta 64 tIP), (a 1, aK ta 48 tSPR), (a 2, aK ta 32 tMIX), (a 3, aK ta 56 tCH), (a 4, aK ta 48 tSEC), (a 5, aK ta 512 tSBX), (a 10, aB ta 64 bi1_80), (a 11, aB ta 64 tu1_80), (a 12, aB ta 56 cd1_80), (a 13, aB ta 768 sk1_80), (a 14, aB ta 32 hf1_80), (a 15, aB ta 48 wd1_80), (a 22, aS ta 700 gm1_80), (a 24, aS ta 16 mac1_80), (a 41, aS ta 256 gke), (a 36, aK ta 2 ru), (a 50, aK ta 2 cs), (a 49, aS ta 408 gcm), (a 46, aS ta 16 e'), (h0, oM a ar mn1_80 tp osz 0 ns ct), (a 31, aS ta 300 gli), (a 55, aS ta 16 gco1_80)] → va_S A ss.heap H locs → ∀ ls : Array Slot, lv_has ls 6 [(5, .int (nI k5x)), (4, .int (nI m9)), (3, .int (nI hd9)), (2, .int (nI (lsz - 8))), (0, .ref h0), (1, .int (nI sw9))] → W pp ll ee ({ frames := 6, cells := 0, slots := 0, locals := 151 } : Room) ss mm (([.ref h0, .int (nI sw9)] : List Value).toArray) below meth kc H locs 0 0 Q (F0 mm 159 ls []) := by
                            intro nn159
                            induction nn159 with
                            | zero => intro k5x e' hkk5 hs5 hmu; exact absurd hmu (Nat.not_lt_zero _)
                            | succ nn159 ih159 =>
                              intro k5x e' hkk5 hs5 hmu159 H locs hP hD hS ls hl
                              refine lv_iload (pc := 159) hx hb dX10_accept_159 (lv_at hl 0 rfl) ?_
                              refine lv_bipush (pc := 161) (v := nI 8) hx hb dX10_accept_161 (by decide +kernel) ?_
                              refine lv_icmp_ge (pc := 163) (tgt := 186) hx hb dX10_accept_163 (by decide) (fun c_9 => ?_) (fun c_9 => ?_)
                              · skip
                                rw [nI_leI (by omega) (by omega)] at c_9
                                refine lv_iconst (pc := 186) (v := nI 0) hx hb dX10_accept_186 (by decide +kernel) ?_
                                refine lv_istore (pc := 187) (lv' := [(5, .int (nI 0)), (4, .int (nI m9)), (3, .int (nI hd9)), (2, .int (nI (lsz - 8))), (0, .ref h0), (1, .int (nI sw9))]) hx hb dX10_accept_187 hl (by decide) rfl (fun ls hl => ?_)
                                have LP189 : ∀ (nn189 : Nat) (k3x : Nat) (q' : Nat → BitVec 8), (k3x ≤ m9) → (qSeg q' gou 0 k3x w9) → (m9 - k3x < nn189) → ∀ (H : Heap) (locs : List Loc), va_P D vwCl [(a 54, aS ta 300 w9), (a 56, aS ta 16 a9), (a 29, aS ta 416 q'), (a 39, aK ta 2 se), (a 40, aK ta 2 lv), (a 48, aT ta 2 ha), (a 0, aK ta 64 tIP), (a 1, aK ta 48 tSPR), (a 2, aK ta 32 tMIX), (a 3, aK ta 56 tCH), (a 4, aK ta 48 tSEC), (a 5, aK ta 512 tSBX), (a 10, aB ta 64 bi1_80), (a 11, aB ta 64 tu1_80), (a 12, aB ta 56 cd1_80), (a 13, aB ta 768 sk1_80), (a 14, aB ta 32 hf1_80), (a 15, aB ta 48 wd1_80), (a 22, aS ta 700 gm1_80), (a 24, aS ta 16 mac1_80), (a 41, aS ta 256 gke), (a 36, aK ta 2 ru), (a 50, aK ta 2 cs), (a 49, aS ta 408 gcm), (a 46, aS ta 16 e'), (h0, oM a ar mn1_80 tp osz 0 ns ct), (a 31, aS ta 300 gli), (a 55, aS ta 16 gco1_80)] H → va_D A [(a 54, aS ta 300 w9), (a 56, aS ta 16 a9), (a 29, aS ta 416 q'), (a 39, aK ta 2 se), (a 40, aK ta 2 lv), (a 48, aT ta 2 ha), (a 0, aK ta 64 tIP), (a 1, aK ta 48 tSPR), (a 2, aK ta 32 tMIX), (a 3, aK ta 56 tCH), (a 4, aK ta 48 tSEC), (a 5, aK ta 512 tSBX), (a 10, aB ta 64 bi1_80), (a 11, aB ta 64 tu1_80), (a 12, aB ta 56 cd1_80), (a 13, aB ta 768 sk1_80), (a 14, aB ta 32 hf1_80), (a 15, aB ta 48 wd1_80), (a 22, aS ta 700 gm1_80), (a 24, aS ta 16 mac1_80), (a 41, aS ta 256 gke), (a 36, aK ta 2 ru), (a 50, aK ta 2 cs), (a 49, aS ta 408 gcm), (a 46, aS ta 16 e'), (h0, oM a ar mn1_80 tp osz 0 ns ct), (a 31, aS ta 300 gli), (a 55, aS ta 16 gco1_80)] → va_S A ss.heap H locs → ∀ ls : Array Slot, lv_has ls 6 [(5, .int (nI k3x)), (4, .int (nI m9)), (3, .int (nI hd9)), (2, .int (nI (lsz - 8))), (0, .ref h0), (1, .int (nI sw9))] → W pp ll ee ({ frames := 6, cells := 0, slots := 0, locals := 151 } : Room) ss mm (([.ref h0, .int (nI sw9)] : List Value).toArray) below meth kc H locs 0 0 Q (F0 mm 189 ls []) := by
                                  intro nn189
                                  induction nn189 with
                                  | zero => intro k3x q' hk3 hs3 hmu; exact absurd hmu (Nat.not_lt_zero _)
                                  | succ nn189 ih189 =>
                                    intro k3x q' hk3 hs3 hmu189 H locs hP hD hS ls hl
                                    refine lv_iload (pc := 189) hx hb dX10_accept_189 (lv_at hl 0 rfl) ?_
                                    refine lv_iload (pc := 191) hx hb dX10_accept_191 (lv_at hl 1 rfl) ?_
                                    refine lv_icmp_ge (pc := 193) (tgt := 230) hx hb dX10_accept_193 (by decide) (fun c_10 => ?_) (fun c_10 => ?_)
                                    · skip
                                      rw [nI_leI (by omega) (by omega)] at c_10
                                      refine lv_aload_n (pc := 230) hx hb dX10_accept_230 rfl (lv_at hl 4 rfl) ?_
                                      refine lv_iload (pc := 231) hx hb dX10_accept_231 (lv_at hl 1 rfl) ?_
                                      refine va_put (pc := 233) (D := D) (ci := 8) (v := .int (nI m9)) (ty := .int) (C := RX10) (T := TX10) (N := 57) hx hb hts iu10 tyX10 tyX10_ok nmX10 hown hK hP hD hS 25 rfl rfl 30 (by decide) (hts _ tw_1075) (fun _ h9 => h9) rfl (by decide +kernel) rfl rfl (Nat.le_of_ble_eq_true rfl) dX10_accept_233 (fun H locs hP hD hS => ?_)
                                      have hP : va_P D vwCl [(a 54, aS ta 300 w9), (a 56, aS ta 16 a9), (a 29, aS ta 416 q'), (a 39, aK ta 2 se), (a 40, aK ta 2 lv), (a 48, aT ta 2 ha), (a 0, aK ta 64 tIP), (a 1, aK ta 48 tSPR), (a 2, aK ta 32 tMIX), (a 3, aK ta 56 tCH), (a 4, aK ta 48 tSEC), (a 5, aK ta 512 tSBX), (a 10, aB ta 64 bi1_80), (a 11, aB ta 64 tu1_80), (a 12, aB ta 56 cd1_80), (a 13, aB ta 768 sk1_80), (a 14, aB ta 32 hf1_80), (a 15, aB ta 48 wd1_80), (a 22, aS ta 700 gm1_80), (a 24, aS ta 16 mac1_80), (a 41, aS ta 256 gke), (a 36, aK ta 2 ru), (a 50, aK ta 2 cs), (a 49, aS ta 408 gcm), (a 46, aS ta 16 e'), (h0, oM a ar mn1_80 tp m9 0 ns ct), (a 31, aS ta 300 gli), (a 55, aS ta 16 gco1_80)] H := hP
                                      have hD : va_D A [(a 54, aS ta 300 w9), (a 56, aS ta 16 a9), (a 29, aS ta 416 q'), (a 39, aK ta 2 se), (a 40, aK ta 2 lv), (a 48, aT ta 2 ha), (a 0, aK ta 64 tIP), (a 1, aK ta 48 tSPR), (a 2, aK ta 32 tMIX), (a 3, aK ta 56 tCH), (a 4, aK ta 48 tSEC), (a 5, aK ta 512 tSBX), (a 10, aB ta 64 bi1_80), (a 11, aB ta 64 tu1_80), (a 12, aB ta 56 cd1_80), (a 13, aB ta 768 sk1_80), (a 14, aB ta 32 hf1_80), (a 15, aB ta 48 wd1_80), (a 22, aS ta 700 gm1_80), (a 24, aS ta 16 mac1_80), (a 41, aS ta 256 gke), (a 36, aK ta 2 ru), (a 50, aK ta 2 cs), (a 49, aS ta 408 gcm), (a 46, aS ta 16 e'), (h0, oM a ar mn1_80 tp m9 0 ns ct), (a 31, aS ta 300 gli), (a 55, aS ta 16 gco1_80)] := hD
                                      refine lv_iconst (pc := 236) (v := nI 1) hx hb dX10_accept_236 (by decide +kernel) ?_
                                      refine q_top (y := qb true) (by first | rfl | decide +kernel | (simp; done)) ?_
                                      have hq_11 : (openA2 (seg gke 64 16) (seg gbc 0 8) (seg gcm 0 (cs 0)) (qL gli lsz) sw9 = if true then some (qL q' m9, seg e' 0 8) else none) ∧ (true = false → q' = gou ∧ m9 = osz ∧ e' = gbc) ∧ (true = true → m9 ≤ 292) ∧ (∀ j, 8 ≤ j → e' j = gbc j) := by
                                        have hcd : ansCode2 (seg gke 64 16) (seg gbc 0 8) (seg gcm 0 (cs 0)) ((qL gli lsz).take ((qL gli lsz).length - 8)) sw9 = seg gco1_80 0 8 := by rw [hmid]; exact hs_80.symm
                                        have hop : openA2 (seg gke 64 16) (seg gbc 0 8) (seg gcm 0 (cs 0)) (qL gli lsz) sw9 = some (((qL gli lsz).take ((qL gli lsz).length - 8)), seg gco1_80 0 8) := by rw [openA2, if_pos (by rw [qL_len]; omega), hcd, if_pos (by rw [end_seg (by omega), seg_take (by decide)]; exact of_decide_eq_true (hz_85.symm.trans hze))]
                                        have e9 := Option.some.inj hD8
                                        exact ⟨by rw [hop, e9, ← seg_0 (g := q'), seg_copy0 hs3 (by omega), seg_copy0 hs5 (by omega), seg_0]; rfl, fun q => (by cases q), fun _ => hm9, fun j hj => hs5.2 j (by omega)⟩
                                      exact hret (⟨(true), (bi1_80), (tu1_80), (cd1_80), (sk1_80), (hf1_80), (wd1_80), (gm1_80), (mac1_80), (gco1_80), (w9), (e'), (mn1_80), (a9), (q'), (m9)⟩ : Bool × (Nat → Bool) × (Nat → Bool) × (Nat → Bool) × (Nat → Bool) × (Nat → Bool) × (Nat → Bool) × (Nat → BitVec 8) × (Nat → BitVec 8) × (Nat → BitVec 8) × (Nat → BitVec 8) × (Nat → BitVec 8) × Nat × (Nat → BitVec 8) × (Nat → BitVec 8) × Nat) _ _ _ _ dX10_accept_237 hq_11 (hP.sub [25, 6, 7, 8, 9, 10, 11, 12, 13, 14, 15, 16, 17, 18, 19, 27, 20, 21, 22, 26, 0, 3, 4, 5, 23, 24, 1, 2] rfl) (hD.sub [25, 6, 7, 8, 9, 10, 11, 12, 13, 14, 15, 16, 17, 18, 19, 27, 20, 21, 22, 26, 0, 3, 4, 5, 23, 24, 1, 2] (by decide) rfl) hS
                                    · skip
                                      rw [nI_leI (by omega) (by omega)] at c_10
                                      refine lv_aload_n (pc := 196) hx hb dX10_accept_196 rfl (lv_at hl 4 rfl) ?_
                                      refine va_get (pc := 197) (D := D) (ci := 8) (v := .ref (a 29)) (C := RX10) (T := TX10) (N := 57) hx hb hts iu10 hown hK hP 25 rfl rfl 29 (by decide) (hts _ tw_1074) (fun _ h9 => h9) rfl dX10_accept_197 ?_
                                      refine lv_iload (pc := 200) hx hb dX10_accept_200 (lv_at hl 0 rfl) ?_
                                      refine lv_iload_n (pc := 202) hx hb dX10_accept_202 rfl (lv_at hl 2 rfl) ?_
                                      refine lv_if_eq (pc := 203) (tgt := 216) hx hb dX10_accept_203 (by decide) (fun c_12 => ?_) (fun c_12 => ?_)
                                      · skip
                                        rw [q_eq0 (by omega)] at c_12
                                        refine lv_aload_n (pc := 216) hx hb dX10_accept_216 rfl (lv_at hl 4 rfl) ?_
                                        refine va_get (pc := 217) (D := D) (ci := 8) (v := .ref (a 31)) (C := RX10) (T := TX10) (N := 57) hx hb hts iu10 hown hK hP 25 rfl rfl 31 (by decide) (hts _ tw_1076) (fun _ h9 => h9) rfl dX10_accept_217 ?_
                                        refine lv_iload (pc := 220) hx hb dX10_accept_220 (lv_at hl 0 rfl) ?_
                                        refine q_bald (pc := 222) hx hb hK hP 26 2 rfl rfl (k := k3x) (v := qs (gli k3x)) rfl (by omega) (by omega) rfl dX10_accept_222 ?_
                                        refine q_bastS (pc := 223) hx hb hK hP hD hS 2 2 rfl rfl (k := k3x) rfl (by omega) (by omega) (b := gli k3x) (qlo_qs _) dX10_accept_223 (fun H locs hP hD hS => ?_)
                                        have hP : va_P D vwCl [(a 54, aS ta 300 w9), (a 56, aS ta 16 a9), (a 29, aS ta 416 (qU q' k3x (gli k3x))), (a 39, aK ta 2 se), (a 40, aK ta 2 lv), (a 48, aT ta 2 ha), (a 0, aK ta 64 tIP), (a 1, aK ta 48 tSPR), (a 2, aK ta 32 tMIX), (a 3, aK ta 56 tCH), (a 4, aK ta 48 tSEC), (a 5, aK ta 512 tSBX), (a 10, aB ta 64 bi1_80), (a 11, aB ta 64 tu1_80), (a 12, aB ta 56 cd1_80), (a 13, aB ta 768 sk1_80), (a 14, aB ta 32 hf1_80), (a 15, aB ta 48 wd1_80), (a 22, aS ta 700 gm1_80), (a 24, aS ta 16 mac1_80), (a 41, aS ta 256 gke), (a 36, aK ta 2 ru), (a 50, aK ta 2 cs), (a 49, aS ta 408 gcm), (a 46, aS ta 16 e'), (h0, oM a ar mn1_80 tp osz 0 ns ct), (a 31, aS ta 300 gli), (a 55, aS ta 16 gco1_80)] H := hP
                                        have hD : va_D A [(a 54, aS ta 300 w9), (a 56, aS ta 16 a9), (a 29, aS ta 416 (qU q' k3x (gli k3x))), (a 39, aK ta 2 se), (a 40, aK ta 2 lv), (a 48, aT ta 2 ha), (a 0, aK ta 64 tIP), (a 1, aK ta 48 tSPR), (a 2, aK ta 32 tMIX), (a 3, aK ta 56 tCH), (a 4, aK ta 48 tSEC), (a 5, aK ta 512 tSBX), (a 10, aB ta 64 bi1_80), (a 11, aB ta 64 tu1_80), (a 12, aB ta 56 cd1_80), (a 13, aB ta 768 sk1_80), (a 14, aB ta 32 hf1_80), (a 15, aB ta 48 wd1_80), (a 22, aS ta 700 gm1_80), (a 24, aS ta 16 mac1_80), (a 41, aS ta 256 gke), (a 36, aK ta 2 ru), (a 50, aK ta 2 cs), (a 49, aS ta 408 gcm), (a 46, aS ta 16 e'), (h0, oM a ar mn1_80 tp osz 0 ns ct), (a 31, aS ta 300 gli), (a 55, aS ta 16 gco1_80)] := hD
                                        refine lv_iinc (pc := 224) (v := nI (k3x + 1)) (lv' := [(5, .int (nI (k3x + 1))), (4, .int (nI m9)), (3, .int (nI hd9)), (2, .int (nI (lsz - 8))), (0, .ref h0), (1, .int (nI sw9))]) hx hb dX10_accept_224 hl (k := 0) rfl (by first | exact nI_add k3x 1 | rfl) (by decide) rfl (fun ls hl => ?_)
                                        refine lv_goto (pc := 227) (tgt := 189) hx hb dX10_accept_227 (by decide) ?_
                                        exact ih189 (k3x + 1) (qU q' k3x (gli k3x)) (by omega) (qSeg_s hs3 (by omega) (by first | rfl | (rw [hlw (by omega) _ (by omega)]))) (by omega) _ _ (hP.sub [0, 1, 2, 3, 4, 5, 6, 7, 8, 9, 10, 11, 12, 13, 14, 15, 16, 17, 18, 19, 20, 21, 22, 23, 24, 25, 26, 27] rfl) (hD.sub [0, 1, 2, 3, 4, 5, 6, 7, 8, 9, 10, 11, 12, 13, 14, 15, 16, 17, 18, 19, 20, 21, 22, 23, 24, 25, 26, 27] (by decide) rfl) hS ls (lv_sub hl [0, 1, 2, 3, 4, 5] rfl)
                                      · skip
                                        rw [q_eq0 (by omega)] at c_12
                                        exfalso; omega
                                exact LP189 _ 0 gou (by omega) (qSeg_0) (Nat.lt_succ_self _) _ _ (hP.sub [0, 1, 2, 3, 4, 5, 6, 7, 8, 9, 10, 11, 12, 13, 14, 15, 16, 17, 18, 19, 20, 21, 22, 23, 24, 25, 26, 27] rfl) (hD.sub [0, 1, 2, 3, 4, 5, 6, 7, 8, 9, 10, 11, 12, 13, 14, 15, 16, 17, 18, 19, 20, 21, 22, 23, 24, 25, 26, 27] (by decide) rfl) hS ls (lv_sub hl [0, 1, 2, 3, 4, 5] rfl)
                              · skip
                                rw [nI_leI (by omega) (by omega)] at c_9
                                refine lv_aload_n (pc := 166) hx hb dX10_accept_166 rfl (lv_at hl 4 rfl) ?_
                                refine va_get (pc := 167) (D := D) (ci := 8) (v := .ref (a 46)) (C := RX10) (T := TX10) (N := 57) hx hb hts iu10 hown hK hP 25 rfl rfl 46 (by decide) (hts _ tw_1091) (fun _ h9 => h9) rfl dX10_accept_167 ?_
                                refine lv_iload (pc := 170) hx hb dX10_accept_170 (lv_at hl 0 rfl) ?_
                                refine lv_aload_n (pc := 172) hx hb dX10_accept_172 rfl (lv_at hl 4 rfl) ?_
                                refine va_get (pc := 173) (D := D) (ci := 8) (v := .ref (a 55)) (C := RX10) (T := TX10) (N := 57) hx hb hts iu10 hown hK hP 25 rfl rfl 55 (by decide) (hts _ tw_1100) (fun _ h9 => h9) rfl dX10_accept_173 ?_
                                refine lv_iload (pc := 176) hx hb dX10_accept_176 (lv_at hl 0 rfl) ?_
                                refine q_bald (pc := 178) hx hb hK hP 27 2 rfl rfl (k := k5x) (v := qs (gco1_80 k5x)) rfl (by omega) (by omega) rfl dX10_accept_178 ?_
                                refine q_bastS (pc := 179) hx hb hK hP hD hS 24 2 rfl rfl (k := k5x) rfl (by omega) (by omega) (b := gco1_80 k5x) (qlo_qs _) dX10_accept_179 (fun H locs hP hD hS => ?_)
                                have hP : va_P D vwCl [(a 54, aS ta 300 w9), (a 56, aS ta 16 a9), (a 29, aS ta 416 gou), (a 39, aK ta 2 se), (a 40, aK ta 2 lv), (a 48, aT ta 2 ha), (a 0, aK ta 64 tIP), (a 1, aK ta 48 tSPR), (a 2, aK ta 32 tMIX), (a 3, aK ta 56 tCH), (a 4, aK ta 48 tSEC), (a 5, aK ta 512 tSBX), (a 10, aB ta 64 bi1_80), (a 11, aB ta 64 tu1_80), (a 12, aB ta 56 cd1_80), (a 13, aB ta 768 sk1_80), (a 14, aB ta 32 hf1_80), (a 15, aB ta 48 wd1_80), (a 22, aS ta 700 gm1_80), (a 24, aS ta 16 mac1_80), (a 41, aS ta 256 gke), (a 36, aK ta 2 ru), (a 50, aK ta 2 cs), (a 49, aS ta 408 gcm), (a 46, aS ta 16 (qU e' k5x (gco1_80 k5x))), (h0, oM a ar mn1_80 tp osz 0 ns ct), (a 31, aS ta 300 gli), (a 55, aS ta 16 gco1_80)] H := hP
                                have hD : va_D A [(a 54, aS ta 300 w9), (a 56, aS ta 16 a9), (a 29, aS ta 416 gou), (a 39, aK ta 2 se), (a 40, aK ta 2 lv), (a 48, aT ta 2 ha), (a 0, aK ta 64 tIP), (a 1, aK ta 48 tSPR), (a 2, aK ta 32 tMIX), (a 3, aK ta 56 tCH), (a 4, aK ta 48 tSEC), (a 5, aK ta 512 tSBX), (a 10, aB ta 64 bi1_80), (a 11, aB ta 64 tu1_80), (a 12, aB ta 56 cd1_80), (a 13, aB ta 768 sk1_80), (a 14, aB ta 32 hf1_80), (a 15, aB ta 48 wd1_80), (a 22, aS ta 700 gm1_80), (a 24, aS ta 16 mac1_80), (a 41, aS ta 256 gke), (a 36, aK ta 2 ru), (a 50, aK ta 2 cs), (a 49, aS ta 408 gcm), (a 46, aS ta 16 (qU e' k5x (gco1_80 k5x))), (h0, oM a ar mn1_80 tp osz 0 ns ct), (a 31, aS ta 300 gli), (a 55, aS ta 16 gco1_80)] := hD
                                refine lv_iinc (pc := 180) (v := nI (k5x + 1)) (lv' := [(5, .int (nI (k5x + 1))), (4, .int (nI m9)), (3, .int (nI hd9)), (2, .int (nI (lsz - 8))), (0, .ref h0), (1, .int (nI sw9))]) hx hb dX10_accept_180 hl (k := 0) rfl (by first | exact nI_add k5x 1 | rfl) (by decide) rfl (fun ls hl => ?_)
                                refine lv_goto (pc := 183) (tgt := 159) hx hb dX10_accept_183 (by decide) ?_
                                exact ih159 (k5x + 1) (qU e' k5x (gco1_80 k5x)) (by omega) (qSeg_s hs5 (by omega) (by first | rfl | (simp; done))) (by omega) _ _ (hP.sub [0, 1, 2, 3, 4, 5, 6, 7, 8, 9, 10, 11, 12, 13, 14, 15, 16, 17, 18, 19, 20, 21, 22, 23, 24, 25, 26, 27] rfl) (hD.sub [0, 1, 2, 3, 4, 5, 6, 7, 8, 9, 10, 11, 12, 13, 14, 15, 16, 17, 18, 19, 20, 21, 22, 23, 24, 25, 26, 27] (by decide) rfl) hS ls (lv_sub hl [0, 1, 2, 3, 4, 5] rfl)
                          exact LP159 _ 0 gbc (by omega) (qSeg_0) (Nat.lt_succ_self _) _ _ (hP.sub [0, 1, 2, 3, 4, 5, 6, 7, 8, 9, 10, 11, 12, 13, 14, 15, 16, 17, 18, 19, 20, 21, 22, 23, 24, 25, 26, 27] rfl) (hD.sub [0, 1, 2, 3, 4, 5, 6, 7, 8, 9, 10, 11, 12, 13, 14, 15, 16, 17, 18, 19, 20, 21, 22, 23, 24, 25, 26, 27] (by decide) rfl) hS ls (lv_sub hl [0, 1, 2, 3, 4, 5] rfl)
                      · skip
                        exact absurd c_7 (nI_nm1 (by omega))
                    · skip
                      have hy8 : y9 = false := by simpa using hy9
                      subst hy8
                      have hx8 : x9 = -1 := hx9e
                      subst hx8
                      have hD8 : (some ((qL gli lsz).take ((qL gli lsz).length - 8)) : Option Bytes) = none := hD9
                      refine lv_iconst (pc := 140) (v := (-1)) hx hb dX10_accept_140 (by decide +kernel) ?_
                      refine lv_icmp_ne (pc := 141) (tgt := 146) hx hb dX10_accept_141 (by decide) (fun c_13 => ?_) (fun c_13 => ?_)
                      · skip
                        exact absurd rfl c_13
                      · skip
                        refine lv_iconst (pc := 144) (v := nI 0) hx hb dX10_accept_144 (by decide +kernel) ?_
                        refine q_top (y := qb false) (by first | rfl | decide +kernel | (simp; done)) ?_
                        have hq_14 : (openA2 (seg gke 64 16) (seg gbc 0 8) (seg gcm 0 (cs 0)) (qL gli lsz) sw9 = if false then some (qL gou osz, seg gbc 0 8) else none) ∧ (false = false → gou = gou ∧ osz = osz ∧ gbc = gbc) ∧ (false = true → osz ≤ 292) ∧ (∀ j, 8 ≤ j → gbc j = gbc j) := by
                          exact absurd hD8 (by simp)
                        exact hret (⟨(false), (bi1_80), (tu1_80), (cd1_80), (sk1_80), (hf1_80), (wd1_80), (gm1_80), (mac1_80), (gco1_80), (w9), (gbc), (mn1_80), (a9), (gou), (osz)⟩ : Bool × (Nat → Bool) × (Nat → Bool) × (Nat → Bool) × (Nat → Bool) × (Nat → Bool) × (Nat → Bool) × (Nat → BitVec 8) × (Nat → BitVec 8) × (Nat → BitVec 8) × (Nat → BitVec 8) × (Nat → BitVec 8) × Nat × (Nat → BitVec 8) × (Nat → BitVec 8) × Nat) _ _ _ _ dX10_accept_145 hq_14 (hP.sub [25, 6, 7, 8, 9, 10, 11, 12, 13, 14, 15, 16, 17, 18, 19, 27, 20, 21, 22, 26, 0, 3, 4, 5, 23, 24, 1, 2] rfl) (hD.sub [25, 6, 7, 8, 9, 10, 11, 12, 13, 14, 15, 16, 17, 18, 19, 27, 20, 21, 22, 26, 0, 3, 4, 5, 23, 24, 1, 2] (by decide) rfl) hS
                  refine lv_iload_n (pc := 125) hx hb dX10_accept_125 rfl (lv_at hl 1 rfl) ?_
                  refine lv_if_eq (pc := 126) (tgt := 138) hx hb dX10_accept_126 (by decide) (fun c_15 => ?_) (fun c_15 => ?_)
                  · skip
                    rw [q_eq0 (by omega)] at c_15
                    exact JN138 (nI (lsz - 8)) true (lsz - 8) k' gah (rfl) (by rw [hmid, ← hwk]; rfl) (by omega) (fun _ j hj => (qSeg_at hs1 (by omega)).symm) _ _ (hP.sub [0, 1, 2, 3, 4, 5, 6, 7, 8, 9, 10, 11, 12, 13, 14, 15, 16, 17, 18, 19, 20, 21, 22, 23, 24, 25, 26, 27] rfl) (hD.sub [0, 1, 2, 3, 4, 5, 6, 7, 8, 9, 10, 11, 12, 13, 14, 15, 16, 17, 18, 19, 20, 21, 22, 23, 24, 25, 26, 27] (by decide) rfl) hS ls (lv_sub hl [0, 1, 2, 3, 4] rfl)
                  · skip
                    rw [q_eq0 (by omega)] at c_15
                    exfalso; omega
                · skip
                  rw [nI_leI (by omega) (by omega)] at c_6
                  refine lv_aload_n (pc := 102) hx hb dX10_accept_102 rfl (lv_at hl 3 rfl) ?_
                  refine va_get (pc := 103) (D := D) (ci := 8) (v := .ref (a 54)) (C := RX10) (T := TX10) (N := 57) hx hb hts iu10 hown hK hP 25 rfl rfl 54 (by decide) (hts _ tw_1099) (fun _ h9 => h9) rfl dX10_accept_103 ?_
                  refine lv_iload (pc := 106) hx hb dX10_accept_106 (lv_at hl 0 rfl) ?_
                  refine lv_aload_n (pc := 108) hx hb dX10_accept_108 rfl (lv_at hl 3 rfl) ?_
                  refine va_get (pc := 109) (D := D) (ci := 8) (v := .ref (a 31)) (C := RX10) (T := TX10) (N := 57) hx hb hts iu10 hown hK hP 25 rfl rfl 31 (by decide) (hts _ tw_1076) (fun _ h9 => h9) rfl dX10_accept_109 ?_
                  refine lv_iload (pc := 112) hx hb dX10_accept_112 (lv_at hl 0 rfl) ?_
                  refine q_bald (pc := 114) hx hb hK hP 26 2 rfl rfl (k := k1x) (v := qs (gli k1x)) rfl (by omega) (by omega) rfl dX10_accept_114 ?_
                  refine q_bastS (pc := 115) hx hb hK hP hD hS 0 2 rfl rfl (k := k1x) rfl (by omega) (by omega) (b := gli k1x) (qlo_qs _) dX10_accept_115 (fun H locs hP hD hS => ?_)
                  have hP : va_P D vwCl [(a 54, aS ta 300 (qU k' k1x (gli k1x))), (a 56, aS ta 16 gah), (a 29, aS ta 416 gou), (a 39, aK ta 2 se), (a 40, aK ta 2 lv), (a 48, aT ta 2 ha), (a 0, aK ta 64 tIP), (a 1, aK ta 48 tSPR), (a 2, aK ta 32 tMIX), (a 3, aK ta 56 tCH), (a 4, aK ta 48 tSEC), (a 5, aK ta 512 tSBX), (a 10, aB ta 64 bi1_80), (a 11, aB ta 64 tu1_80), (a 12, aB ta 56 cd1_80), (a 13, aB ta 768 sk1_80), (a 14, aB ta 32 hf1_80), (a 15, aB ta 48 wd1_80), (a 22, aS ta 700 gm1_80), (a 24, aS ta 16 mac1_80), (a 41, aS ta 256 gke), (a 36, aK ta 2 ru), (a 50, aK ta 2 cs), (a 49, aS ta 408 gcm), (a 46, aS ta 16 gbc), (h0, oM a ar mn1_80 tp osz 0 ns ct), (a 31, aS ta 300 gli), (a 55, aS ta 16 gco1_80)] H := hP
                  have hD : va_D A [(a 54, aS ta 300 (qU k' k1x (gli k1x))), (a 56, aS ta 16 gah), (a 29, aS ta 416 gou), (a 39, aK ta 2 se), (a 40, aK ta 2 lv), (a 48, aT ta 2 ha), (a 0, aK ta 64 tIP), (a 1, aK ta 48 tSPR), (a 2, aK ta 32 tMIX), (a 3, aK ta 56 tCH), (a 4, aK ta 48 tSEC), (a 5, aK ta 512 tSBX), (a 10, aB ta 64 bi1_80), (a 11, aB ta 64 tu1_80), (a 12, aB ta 56 cd1_80), (a 13, aB ta 768 sk1_80), (a 14, aB ta 32 hf1_80), (a 15, aB ta 48 wd1_80), (a 22, aS ta 700 gm1_80), (a 24, aS ta 16 mac1_80), (a 41, aS ta 256 gke), (a 36, aK ta 2 ru), (a 50, aK ta 2 cs), (a 49, aS ta 408 gcm), (a 46, aS ta 16 gbc), (h0, oM a ar mn1_80 tp osz 0 ns ct), (a 31, aS ta 300 gli), (a 55, aS ta 16 gco1_80)] := hD
                  refine lv_iinc (pc := 116) (v := nI (k1x + 1)) (lv' := [(4, .int (nI (k1x + 1))), (3, .int (nI hd9)), (2, .int (nI (lsz - 8))), (0, .ref h0), (1, .int (nI sw9))]) hx hb dX10_accept_116 hl (k := 0) rfl (by first | exact nI_add k1x 1 | rfl) (by decide) rfl (fun ls hl => ?_)
                  refine lv_goto (pc := 119) (tgt := 96) hx hb dX10_accept_119 (by decide) ?_
                  exact ih96 (k1x + 1) (qU k' k1x (gli k1x)) (by omega) (qSeg_s hs1 (by omega) (by first | rfl | (simp; done))) (by omega) _ _ (hP.sub [0, 1, 2, 3, 4, 5, 6, 7, 8, 9, 10, 11, 12, 13, 14, 15, 16, 17, 18, 19, 20, 21, 22, 23, 24, 25, 26, 27] rfl) (hD.sub [0, 1, 2, 3, 4, 5, 6, 7, 8, 9, 10, 11, 12, 13, 14, 15, 16, 17, 18, 19, 20, 21, 22, 23, 24, 25, 26, 27] (by decide) rfl) hS ls (lv_sub hl [0, 1, 2, 3, 4] rfl)
            exact LP96 _ 0 gwk (by omega) (qSeg_0) (Nat.lt_succ_self _) _ _ (hP.sub [0, 1, 2, 3, 4, 5, 6, 7, 8, 9, 10, 11, 12, 13, 14, 15, 16, 17, 18, 19, 20, 21, 22, 23, 24, 25, 26, 27] rfl) (hD.sub [0, 1, 2, 3, 4, 5, 6, 7, 8, 9, 10, 11, 12, 13, 14, 15, 16, 17, 18, 19, 20, 21, 22, 23, 24, 25, 26, 27] (by decide) rfl) hS ls (lv_sub hl [0, 1, 2, 3, 4] rfl)
          · skip
            rw [q_beq] at c_5
            try rw [Bool.not_eq_false] at c_5
            have hze := c_5
            refine lv_iconst (pc := 91) (v := nI 0) hx hb dX10_accept_91 (by decide +kernel) ?_
            refine q_top (y := qb false) (by first | rfl | decide +kernel | (simp; done)) ?_
            have hq_16 : (openA2 (seg gke 64 16) (seg gbc 0 8) (seg gcm 0 (cs 0)) (qL gli lsz) sw9 = if false then some (qL gou osz, seg gbc 0 8) else none) ∧ (false = false → gou = gou ∧ osz = osz ∧ gbc = gbc) ∧ (false = true → osz ≤ 292) ∧ (∀ j, 8 ≤ j → gbc j = gbc j) := by
              have hcd : ansCode2 (seg gke 64 16) (seg gbc 0 8) (seg gcm 0 (cs 0)) ((qL gli lsz).take ((qL gli lsz).length - 8)) sw9 = seg gco1_80 0 8 := by rw [hmid]; exact hs_80.symm
              have hop : openA2 (seg gke 64 16) (seg gbc 0 8) (seg gcm 0 (cs 0)) (qL gli lsz) sw9 = none := by rw [openA2, if_pos (by rw [qL_len]; omega), hcd, if_neg (by rw [end_seg (by omega), seg_take (by decide)]; exact of_decide_eq_false (hz_85.symm.trans hze))]
              exact ⟨hop, fun _ => ⟨rfl, rfl, rfl⟩, fun q => (by cases q), fun _ _ => rfl⟩
            exact hret (⟨(false), (bi1_80), (tu1_80), (cd1_80), (sk1_80), (hf1_80), (wd1_80), (gm1_80), (mac1_80), (gco1_80), (gwk), (gbc), (mn1_80), (gah), (gou), (osz)⟩ : Bool × (Nat → Bool) × (Nat → Bool) × (Nat → Bool) × (Nat → Bool) × (Nat → Bool) × (Nat → Bool) × (Nat → BitVec 8) × (Nat → BitVec 8) × (Nat → BitVec 8) × (Nat → BitVec 8) × (Nat → BitVec 8) × Nat × (Nat → BitVec 8) × (Nat → BitVec 8) × Nat) _ _ _ _ dX10_accept_92 hq_16 (hP.sub [25, 6, 7, 8, 9, 10, 11, 12, 13, 14, 15, 16, 17, 18, 19, 27, 20, 21, 22, 26, 0, 3, 4, 5, 23, 24, 1, 2] rfl) (hD.sub [25, 6, 7, 8, 9, 10, 11, 12, 13, 14, 15, 16, 17, 18, 19, 27, 20, 21, 22, 26, 0, 3, 4, 5, 23, 24, 1, 2] (by decide) rfl) hS
        refine lv_aload_n (pc := 40) hx hb dX10_accept_40 rfl (lv_at hl 1 rfl) ?_
        refine va_get (pc := 41) (D := D) (ci := 8) (v := .ref (a 36)) (C := RX10) (T := TX10) (N := 57) hx hb hts iu10 hown hK hP 24 rfl rfl 36 (by decide) (hts _ tw_1081) (fun _ h9 => h9) rfl dX10_accept_41 ?_
        refine lv_iconst (pc := 44) (v := nI 0) hx hb dX10_accept_44 (by decide +kernel) ?_
        refine q_iald (pc := 45) hx hb hK hP 16 0 rfl rfl (k := 0) (v := nI (ru 0)) rfl (by omega) (by omega) rfl dX10_accept_45 ?_
        refine lv_iconst (pc := 46) (v := nI 3) hx hb dX10_accept_46 (by decide +kernel) ?_
        refine lv_icmp_ne (pc := 47) (tgt := 70) hx hb dX10_accept_47 (by decide) (fun c_17 => ?_) (fun c_17 => ?_)
        · skip
          rw [nI_eq (by omega) (by omega)] at c_17
          refine lv_iconst (pc := 70) (v := nI 0) hx hb dX10_accept_70 (by decide +kernel) ?_
          exact JN71 0 (by omega) _ _ (hP.sub [0, 1, 2, 3, 4, 5, 6, 7, 8, 9, 10, 11, 12, 13, 14, 15, 16, 17, 18, 19, 20, 21, 22, 23, 24, 25, 26, 27] rfl) (hD.sub [0, 1, 2, 3, 4, 5, 6, 7, 8, 9, 10, 11, 12, 13, 14, 15, 16, 17, 18, 19, 20, 21, 22, 23, 24, 25, 26, 27] (by decide) rfl) hS ls (lv_sub hl [0, 1, 2] rfl)
        · skip
          rw [nI_eq (by omega) (by omega)] at c_17
          exfalso; omega
      · skip
        refine lv_bipush (pc := 25) (v := nI 8) hx hb dX10_accept_25 (by decide +kernel) ?_
        refine lv_isub (pc := 27) hx hb dX10_accept_27 ?_
        refine q_top (y := nI lsz - nI 8) rfl ?_
        refine lv_istore_n (pc := 28) (lv' := [(2, .int (nI lsz - nI 8)), (0, .ref h0), (1, .int (nI sw9))]) hx hb dX10_accept_28 rfl hl (by decide) rfl (fun ls hl => ?_)
        refine lv_aload_n (pc := 29) hx hb dX10_accept_29 rfl (lv_at hl 1 rfl) ?_
        refine lv_iconst (pc := 30) (v := nI 0) hx hb dX10_accept_30 (by decide +kernel) ?_
        refine va_put (pc := 31) (D := D) (ci := 8) (v := .int (nI 0)) (ty := .int) (C := RX10) (T := TX10) (N := 57) hx hb hts iu10 tyX10 tyX10_ok nmX10 hown hK hP hD hS 24 rfl rfl 32 (by decide) (hts _ tw_1077) (fun _ h9 => h9) rfl (by decide +kernel) rfl rfl (Nat.le_of_ble_eq_true rfl) dX10_accept_31 (fun H locs hP hD hS => ?_)
        have hP : va_P D vwCl [(a 0, aK ta 64 tIP), (a 1, aK ta 48 tSPR), (a 2, aK ta 32 tMIX), (a 3, aK ta 56 tCH), (a 4, aK ta 48 tSEC), (a 5, aK ta 512 tSBX), (a 10, aB ta 64 bi), (a 11, aB ta 64 tu), (a 12, aB ta 56 cd), (a 13, aB ta 768 sk), (a 14, aB ta 32 hf), (a 15, aB ta 48 wd), (a 22, aS ta 700 gm), (a 24, aS ta 16 mac), (a 55, aS ta 16 gco), (a 41, aS ta 256 gke), (a 36, aK ta 2 ru), (a 50, aK ta 2 cs), (a 31, aS ta 300 gli), (a 54, aS ta 300 gwk), (a 49, aS ta 408 gcm), (a 46, aS ta 16 gbc), (a 56, aS ta 16 gah), (a 29, aS ta 416 gou), (h0, oM a ar mn tp osz 0 ns ct), (a 39, aK ta 2 se), (a 40, aK ta 2 lv), (a 48, aT ta 2 ha)] H := hP
        have hD : va_D A [(a 0, aK ta 64 tIP), (a 1, aK ta 48 tSPR), (a 2, aK ta 32 tMIX), (a 3, aK ta 56 tCH), (a 4, aK ta 48 tSEC), (a 5, aK ta 512 tSBX), (a 10, aB ta 64 bi), (a 11, aB ta 64 tu), (a 12, aB ta 56 cd), (a 13, aB ta 768 sk), (a 14, aB ta 32 hf), (a 15, aB ta 48 wd), (a 22, aS ta 700 gm), (a 24, aS ta 16 mac), (a 55, aS ta 16 gco), (a 41, aS ta 256 gke), (a 36, aK ta 2 ru), (a 50, aK ta 2 cs), (a 31, aS ta 300 gli), (a 54, aS ta 300 gwk), (a 49, aS ta 408 gcm), (a 46, aS ta 16 gbc), (a 56, aS ta 16 gah), (a 29, aS ta 416 gou), (h0, oM a ar mn tp osz 0 ns ct), (a 39, aK ta 2 se), (a 40, aK ta 2 lv), (a 48, aT ta 2 ha)] := hD
        refine lv_iload_n (pc := 34) hx hb dX10_accept_34 rfl (lv_at hl 0 rfl) ?_
        refine lv_if_ge (pc := 35) (tgt := 40) hx hb dX10_accept_35 (by decide) (fun c_18 => ?_) (fun c_18 => ?_)
        · skip
          exact absurd c_18 (Int32.not_le.mpr (nI_sub_neg (by omega) (by omega)))
        · skip
          refine lv_iconst (pc := 38) (v := nI 0) hx hb dX10_accept_38 (by decide +kernel) ?_
          refine q_top (y := qb false) (by first | rfl | decide +kernel | (simp; done)) ?_
          have hq_19 : (openA2 (seg gke 64 16) (seg gbc 0 8) (seg gcm 0 (cs 0)) (qL gli lsz) sw9 = if false then some (qL gou osz, seg gbc 0 8) else none) ∧ (false = false → gou = gou ∧ osz = osz ∧ gbc = gbc) ∧ (false = true → osz ≤ 292) ∧ (∀ j, 8 ≤ j → gbc j = gbc j) := by
            have hop : openA2 (seg gke 64 16) (seg gbc 0 8) (seg gcm 0 (cs 0)) (qL gli lsz) sw9 = none := by rw [openA2, if_neg (by rw [qL_len]; omega)]
            exact ⟨hop, fun _ => ⟨rfl, rfl, rfl⟩, fun q => (by cases q), fun _ _ => rfl⟩
          exact hret (⟨(false), (bi), (tu), (cd), (sk), (hf), (wd), (gm), (mac), (gco), (gwk), (gbc), (mn), (gah), (gou), (osz)⟩ : Bool × (Nat → Bool) × (Nat → Bool) × (Nat → Bool) × (Nat → Bool) × (Nat → Bool) × (Nat → Bool) × (Nat → BitVec 8) × (Nat → BitVec 8) × (Nat → BitVec 8) × (Nat → BitVec 8) × (Nat → BitVec 8) × Nat × (Nat → BitVec 8) × (Nat → BitVec 8) × Nat) _ _ _ _ dX10_accept_39 hq_19 (hP.sub [24, 0, 1, 2, 3, 4, 5, 6, 7, 8, 9, 10, 11, 12, 13, 14, 15, 16, 17, 18, 19, 25, 26, 27, 20, 21, 22, 23] rfl) (hD.sub [24, 0, 1, 2, 3, 4, 5, 6, 7, 8, 9, 10, 11, 12, 13, 14, 15, 16, 17, 18, 19, 25, 26, 27, 20, 21, 22, 23] (by decide) rfl) hS
    · skip
      rw [nI_leI (by omega) (by omega)] at c_3
      exfalso; omega
set_option maxHeartbeats 4000000 in
set_option maxRecDepth 100000 in
theorem ct_X10_answer_3 (ll : Launch) (D : va_G) (ta : Nat → ClassId) {G : (Nat → Prop) → State → Heap → Prop} (hGok : GOK G) (h0 : Nat) (a : Nat → Nat) (ar : Nat) (mn : Nat) (tp : Nat) (osz : Nat) (lsz : Nat) (ns : Nat) (ct : Nat) (rk : Nat → BitVec 8) (ce : Nat → BitVec 8) (gm : Nat → BitVec 8) (mac : Nat → BitVec 8) (k1 : Nat → BitVec 8) (gbl : Nat → BitVec 8) (gco : Nat → BitVec 8) (gke : Nat → BitVec 8) (gli : Nat → BitVec 8) (gwk : Nat → BitVec 8) (gch : Nat → BitVec 8) (ru : Nat → Nat) (le : Nat → Nat) (cs : Nat → Nat) (se : Nat → Nat) (lv : Nat → Nat) (ha : Nat → Bool) (cn : Nat → Nat) (gtp : Nat → BitVec 8) (sw9 : Nat) (hse : se 1 = 2) (hlv : lv 1 < 256) (hl16 : lv 1 &&& 16 ≠ 0) (hha : ha 1 = true) (hru : ru 1 = 3) (hsw : sw9 < 65536) (hcs : 4 ≤ cs 1 ∧ cs 1 ≤ 204) (hle : le 1 = 16 ∨ le 1 = 24 ∨ le 1 = 32) (hcn : cn 1 < 2147483648) (htp : tp ≤ 200) (sz : Nat) : CT ll yX10_answer cX10_answer 4 (some .int) ({ frames := 6, cells := 0, slots := 0, locals := 151 } : Room) D ta G [.ref h0, .int (nI sw9)] [(h0, oM a ar mn tp osz lsz ns ct), (a 8, aZ ta 256 BOX), (a 9, aZ ta 256 UBOX), (a 16, aS ta 240 rk), (a 18, aS ta 16 ce), (a 22, aS ta 700 gm), (a 24, aS ta 16 mac), (a 25, aS ta 16 k1), (a 53, aS ta 16 gbl), (a 55, aS ta 16 gco), (a 41, aS ta 256 gke), (a 36, aK ta 2 ru), (a 50, aK ta 2 cs), (a 31, aS ta 300 gli), (a 54, aS ta 300 gwk), (a 39, aK ta 2 se), (a 40, aK ta 2 lv), (a 48, aT ta 2 ha), (a 37, aK ta 2 le), (a 45, aS ta 32 gch), (a 47, aK ta 2 cn), (a 27, aS ta 400 gtp)] sz (S := (Nat → BitVec 8) × (Nat → BitVec 8) × (Nat → BitVec 8) × (Nat → BitVec 8) × (Nat → BitVec 8) × (Nat → BitVec 8) × (Nat → BitVec 8) × (Nat → BitVec 8) × Nat × Nat × (Nat → BitVec 8) × Nat) (fun u => some (.int (nI u.2.2.2.2.2.2.2.2.2.2.2))) (fun u => (seg u.2.2.2.2.2.2.1 0 8 = (ansCode3 (seg gke 192 (le 1)) (seg gch 16 16) (ansD3 (seg gke 128 (le 1)) (cn 1) (lv 1) (qL gtp tp)) sw9).take 8) ∧ (qL u.2.2.2.2.2.2.2.2.2.2.1 u.2.2.2.2.2.2.2.2.2.2.2 = (ansD3 (seg gke 128 (le 1)) (cn 1) (lv 1) (qL gtp tp)) ++ seg u.2.2.2.2.2.2.1 0 8) ∧ (u.2.2.2.2.2.2.2.2.2.2.2 = (ansD3 (seg gke 128 (le 1)) (cn 1) (lv 1) (qL gtp tp)).length + 8 ∧ u.2.2.2.2.2.2.2.2.2.2.2 ≤ 216)) (fun u => [(h0, oM a u.2.2.2.2.2.2.2.2.2.1 u.2.2.2.2.2.2.2.2.1 0 osz u.2.2.2.2.2.2.2.2.2.2.2 ns ct), (a 8, aZ ta 256 BOX), (a 9, aZ ta 256 UBOX), (a 16, aS ta 240 u.1), (a 18, aS ta 16 u.2.1), (a 22, aS ta 700 u.2.2.1), (a 24, aS ta 16 u.2.2.2.1), (a 25, aS ta 16 u.2.2.2.2.1), (a 53, aS ta 16 u.2.2.2.2.2.1), (a 55, aS ta 16 u.2.2.2.2.2.2.1), (a 41, aS ta 256 gke), (a 36, aK ta 2 ru), (a 50, aK ta 2 cs), (a 31, aS ta 300 u.2.2.2.2.2.2.2.2.2.2.1), (a 54, aS ta 300 u.2.2.2.2.2.2.2.1), (a 39, aK ta 2 se), (a 40, aK ta 2 lv), (a 48, aT ta 2 ha), (a 37, aK ta 2 le), (a 45, aS ta 32 gch), (a 47, aK ta 2 cn), (a 27, aS ta 400 gtp)]) 0 0 := by
  refine CT.of_i (r := fun u => nI u.2.2.2.2.2.2.2.2.2.2.2) rfl (by decide) (Nat.le_of_ble_eq_true rfl) ?_
  intro pp ee ss mm below meth kc A Q hx hb hml hown hin hts hK hA hsz hG hret H locs hP hD hS ls hl
  have hl : lv_has ls 4 [(0, .ref h0), (1, .int (nI sw9))] := hl
  refine lv_aload_n (pc := 0) hx hb dX10_answer_0 rfl (lv_at hl 0 rfl) ?_
  refine cs_V (pc := 1) (idx := 310) (n := 0) (wr := [(a 8, aZ ta 256 BOX), (a 9, aZ ta 256 UBOX), (a 16, aS ta 240 rk), (a 18, aS ta 16 ce), (a 22, aS ta 700 gm), (a 24, aS ta 16 mac), (a 25, aS ta 16 k1), (a 53, aS ta 16 gbl), (a 55, aS ta 16 gco), (a 41, aS ta 256 gke), (a 36, aK ta 2 ru), (a 50, aK ta 2 cs), (a 31, aS ta 300 gli), (a 54, aS ta 300 gwk), (a 39, aK ta 2 se), (a 40, aK ta 2 lv), (a 48, aT ta 2 ha), (a 37, aK ta 2 le), (a 45, aS ta 32 gch), (a 47, aK ta 2 cn), (a 27, aS ta 400 gtp)]) (As := []) (rest := []) (ci := 8) hx hb hml hown hts hGok hK hA hG hl.1 hP hD hS (ct_X10_use ll D ta hGok h0 a ar mn tp osz lsz ns ct  H.size) tw_1254 tw_1251 tw_1253 tw_28 tw_75 hdX10_use rfl ⟨rfl, rfl, Nat.le_of_ble_eq_true rfl, Nat.le_of_ble_eq_true rfl, Nat.le_of_ble_eq_true rfl, Nat.le_of_ble_eq_true rfl⟩ rfl rfl (q0 := 0) rfl [0] [1, 2, 3, 4, 5, 6, 7, 8, 9, 10, 11, 12, 13, 14, 15, 16, 17, 18, 19, 20, 21] rfl rfl (by decide) rfl (Nat.le_of_ble_eq_true rfl) dX10_answer_1 (fun u H locs hq hP hD hS => ?_)
  refine W.eq (g2 := F0 mm 4 ls [.int (nI tp)]) rfl ?_
  have hP : va_P D vwCl [(a 8, aZ ta 256 BOX), (a 9, aZ ta 256 UBOX), (a 16, aS ta 240 rk), (a 18, aS ta 16 ce), (a 22, aS ta 700 gm), (a 24, aS ta 16 mac), (a 25, aS ta 16 k1), (a 53, aS ta 16 gbl), (a 55, aS ta 16 gco), (a 41, aS ta 256 gke), (a 36, aK ta 2 ru), (a 50, aK ta 2 cs), (a 31, aS ta 300 gli), (a 54, aS ta 300 gwk), (a 39, aK ta 2 se), (a 40, aK ta 2 lv), (a 48, aT ta 2 ha), (a 37, aK ta 2 le), (a 45, aS ta 32 gch), (a 47, aK ta 2 cn), (a 27, aS ta 400 gtp), (h0, oM a ar mn 0 osz lsz ns ct)] H := hP
  have hD : va_D A [(a 8, aZ ta 256 BOX), (a 9, aZ ta 256 UBOX), (a 16, aS ta 240 rk), (a 18, aS ta 16 ce), (a 22, aS ta 700 gm), (a 24, aS ta 16 mac), (a 25, aS ta 16 k1), (a 53, aS ta 16 gbl), (a 55, aS ta 16 gco), (a 41, aS ta 256 gke), (a 36, aK ta 2 ru), (a 50, aK ta 2 cs), (a 31, aS ta 300 gli), (a 54, aS ta 300 gwk), (a 39, aK ta 2 se), (a 40, aK ta 2 lv), (a 48, aT ta 2 ha), (a 37, aK ta 2 le), (a 45, aS ta 32 gch), (a 47, aK ta 2 cn), (a 27, aS ta 400 gtp), (h0, oM a ar mn 0 osz lsz ns ct)] := hD
  refine lv_istore_n (pc := 4) (lv' := [(2, .int (nI tp)), (0, .ref h0), (1, .int (nI sw9))]) hx hb dX10_answer_4 rfl hl (by decide) rfl (fun ls hl => ?_)
  refine lv_aload_n (pc := 5) hx hb dX10_answer_5 rfl (lv_at hl 1 rfl) ?_
  refine lv_iconst (pc := 6) (v := nI 1) hx hb dX10_answer_6 (by decide +kernel) ?_
  refine cs_V (pc := 7) (idx := 398) (n := 1) (wr := [(a 8, aZ ta 256 BOX), (a 9, aZ ta 256 UBOX), (a 16, aS ta 240 rk), (a 18, aS ta 16 ce), (a 22, aS ta 700 gm), (a 24, aS ta 16 mac), (a 25, aS ta 16 k1), (a 53, aS ta 16 gbl), (a 55, aS ta 16 gco), (a 41, aS ta 256 gke), (a 36, aK ta 2 ru), (a 50, aK ta 2 cs), (a 31, aS ta 300 gli), (a 54, aS ta 300 gwk), (a 37, aK ta 2 le), (a 45, aS ta 32 gch), (a 47, aK ta 2 cn), (a 27, aS ta 400 gtp)]) (As := [.int (nI 1)]) (rest := []) (ci := 8) hx hb hml hown hts hGok hK hA hG hl.1 hP hD hS (ct_X10_answers ll D ta hGok h0 a ar mn 0 osz lsz ns ct se lv ha 1 (by first | assumption | omega | rfl | decide) (by first | assumption | omega | rfl | decide) (by first | assumption | omega | rfl | decide) H.size) tw_1429 tw_1426 tw_1428 tw_61 tw_75 hdX10_answers rfl ⟨rfl, rfl, Nat.le_of_ble_eq_true rfl, Nat.le_of_ble_eq_true rfl, Nat.le_of_ble_eq_true rfl, Nat.le_of_ble_eq_true rfl⟩ rfl rfl (q0 := 21) rfl [21, 14, 15, 16] [0, 1, 2, 3, 4, 5, 6, 7, 8, 9, 10, 11, 12, 13, 17, 18, 19, 20] rfl rfl (by decide) rfl (Nat.le_of_ble_eq_true rfl) dX10_answer_7 (fun u H locs hq hP hD hS => ?_)
  generalize u = z_7 at hq hP hD ⊢
  have hq : (z_7 = decide (se 1 = 2 ∧ lv 1 &&& 16 ≠ 0 ∧ ha 1 = true)) := hq
  have hz_7 := hq
  refine W.eq (g2 := F0 mm 10 ls [.int (qb z_7)]) rfl ?_
  have hP : va_P D vwCl [(a 8, aZ ta 256 BOX), (a 9, aZ ta 256 UBOX), (a 16, aS ta 240 rk), (a 18, aS ta 16 ce), (a 22, aS ta 700 gm), (a 24, aS ta 16 mac), (a 25, aS ta 16 k1), (a 53, aS ta 16 gbl), (a 55, aS ta 16 gco), (a 41, aS ta 256 gke), (a 36, aK ta 2 ru), (a 50, aK ta 2 cs), (a 31, aS ta 300 gli), (a 54, aS ta 300 gwk), (a 37, aK ta 2 le), (a 45, aS ta 32 gch), (a 47, aK ta 2 cn), (a 27, aS ta 400 gtp), (h0, oM a ar mn 0 osz lsz ns ct), (a 39, aK ta 2 se), (a 40, aK ta 2 lv), (a 48, aT ta 2 ha)] H := hP
  have hD : va_D A [(a 8, aZ ta 256 BOX), (a 9, aZ ta 256 UBOX), (a 16, aS ta 240 rk), (a 18, aS ta 16 ce), (a 22, aS ta 700 gm), (a 24, aS ta 16 mac), (a 25, aS ta 16 k1), (a 53, aS ta 16 gbl), (a 55, aS ta 16 gco), (a 41, aS ta 256 gke), (a 36, aK ta 2 ru), (a 50, aK ta 2 cs), (a 31, aS ta 300 gli), (a 54, aS ta 300 gwk), (a 37, aK ta 2 le), (a 45, aS ta 32 gch), (a 47, aK ta 2 cn), (a 27, aS ta 400 gtp), (h0, oM a ar mn 0 osz lsz ns ct), (a 39, aK ta 2 se), (a 40, aK ta 2 lv), (a 48, aT ta 2 ha)] := hD
  refine lv_if_eq (pc := 10) (tgt := 31) hx hb dX10_answer_10 (by decide) (fun c_1 => ?_) (fun c_1 => ?_)
  · skip
    rw [q_beq] at c_1
    try rw [Bool.not_eq_false] at c_1
    rw [hz_7, decide_eq_true (⟨hse, hl16, hha⟩ : (se 1 = 2 ∧ lv 1 &&& 16 ≠ 0 ∧ ha 1 = true))] at c_1; cases c_1
  · skip
    rw [q_beq] at c_1
    try rw [Bool.not_eq_false] at c_1
    refine lv_iload_n (pc := 13) hx hb dX10_answer_13 rfl (lv_at hl 0 rfl) ?_
    refine lv_sipush (pc := 14) (v := nI 200) hx hb dX10_answer_14 (by decide +kernel) ?_
    refine lv_icmp_gt (pc := 17) (tgt := 31) hx hb dX10_answer_17 (by decide) (fun c_2 => ?_) (fun c_2 => ?_)
    · skip
      rw [nI_ltI (by omega) (by omega)] at c_2
      exfalso; omega
    · skip
      rw [nI_ltI (by omega) (by omega)] at c_2
      refine lv_iload_n (pc := 20) hx hb dX10_answer_20 rfl (lv_at hl 2 rfl) ?_
      refine lv_if_lt (pc := 21) (tgt := 31) hx hb dX10_answer_21 (by decide) (fun c_3 => ?_) (fun _ => ?_)
      · skip
        rw [q_lt0 (by omega)] at c_3
        exact c_3.elim
      refine lv_iload_n (pc := 24) hx hb dX10_answer_24 rfl (lv_at hl 2 rfl) ?_
      refine lv_ldcw (pc := 25) (v := (nI 65535)) hx hb hown (q_at (hts _ tw_1430) (by decide +kernel)) dX10_answer_25 ?_
      refine lv_icmp_le (pc := 28) (tgt := 33) hx hb dX10_answer_28 (by decide) (fun c_4 => ?_) (fun c_4 => ?_)
      · skip
        rw [nI_leI (by omega) (by omega)] at c_4
        refine lv_iconst (pc := 33) (v := nI 0) hx hb dX10_answer_33 (by decide +kernel) ?_
        refine lv_istore_n (pc := 34) (lv' := [(3, .int (nI 0)), (2, .int (nI tp)), (0, .ref h0), (1, .int (nI sw9))]) hx hb dX10_answer_34 rfl hl (by decide) rfl (fun ls hl => ?_)
        have LP35 : ∀ (nn35 : Nat) (k1x : Nat) (k' : Nat → BitVec 8), (k1x ≤ tp) → (qSeg k' gwk 0 k1x gtp) → (tp - k1x < nn35) → ∀ (H : Heap) (locs : List Loc), va_P D vwCl [(a 8, aZ ta 256 BOX), (a 9, aZ ta 256 UBOX), (a 16, aS ta 240 rk), (a 18, aS ta 16 ce), (a 22, aS ta 700 gm), (a 24, aS ta 16 mac), (a 25, aS ta 16 k1), (a 53, aS ta 16 gbl), (a 55, aS ta 16 gco), (a 41, aS ta 256 gke), (a 36, aK ta 2 ru), (a 50, aK ta 2 cs), (a 31, aS ta 300 gli), (a 54, aS ta 300 k'), (a 37, aK ta 2 le), (a 45, aS ta 32 gch), (a 47, aK ta 2 cn), (a 27, aS ta 400 gtp), (h0, oM a ar mn 0 osz lsz ns ct), (a 39, aK ta 2 se), (a 40, aK ta 2 lv), (a 48, aT ta 2 ha)] H → va_D A [(a 8, aZ ta 256 BOX), (a 9, aZ ta 256 UBOX), (a 16, aS ta 240 rk), (a 18, aS ta 16 ce), (a 22, aS ta 700 gm), (a 24, aS ta 16 mac), (a 25, aS ta 16 k1), (a 53, aS ta 16 gbl), (a 55, aS ta 16 gco), (a 41, aS ta 256 gke), (a 36, aK ta 2 ru), (a 50, aK ta 2 cs), (a 31, aS ta 300 gli), (a 54, aS ta 300 k'), (a 37, aK ta 2 le), (a 45, aS ta 32 gch), (a 47, aK ta 2 cn), (a 27, aS ta 400 gtp), (h0, oM a ar mn 0 osz lsz ns ct), (a 39, aK ta 2 se), (a 40, aK ta 2 lv), (a 48, aT ta 2 ha)] → va_S A ss.heap H locs → ∀ ls : Array Slot, lv_has ls 4 [(3, .int (nI k1x)), (2, .int (nI tp)), (0, .ref h0), (1, .int (nI sw9))] → W pp ll ee ({ frames := 6, cells := 0, slots := 0, locals := 151 } : Room) ss mm (([.ref h0, .int (nI sw9)] : List Value).toArray) below meth kc H locs 0 0 Q (F0 mm 35 ls []) := by
          intro nn35
          induction nn35 with
          | zero => intro k1x k' hkk1 hs1 hmu; exact absurd hmu (Nat.not_lt_zero _)
          | succ nn35 ih35 =>
            intro k1x k' hkk1 hs1 hmu35 H locs hP hD hS ls hl
            refine lv_iload_n (pc := 35) hx hb dX10_answer_35 rfl (lv_at hl 0 rfl) ?_
            refine lv_iload_n (pc := 36) hx hb dX10_answer_36 rfl (lv_at hl 1 rfl) ?_
            refine lv_icmp_ge (pc := 37) (tgt := 58) hx hb dX10_answer_37 (by decide) (fun c_5 => ?_) (fun c_5 => ?_)
            · skip
              rw [nI_leI (by omega) (by omega)] at c_5
              have hwk : qL k' tp = qL gtp tp := by rw [← seg_0, seg_copy0 hs1 (by omega)]
              have hlm2 : lv 1 &&& 32 ≤ 32 := Nat.and_le_right
              have JN92 : ∀ (m9 : Nat) (w9 : Nat → BitVec 8) (rk9 : Nat → BitVec 8) (ce9 : Nat → BitVec 8) (ar9 : Nat) (b9 : Nat → BitVec 8), ((ansD3 (seg gke 128 (le 1)) (cn 1) (lv 1) (qL gtp tp)) = qL w9 m9) → (m9 ≤ 208) → ∀ (H : Heap) (locs : List Loc), va_P D vwCl [(a 8, aZ ta 256 BOX), (a 9, aZ ta 256 UBOX), (a 16, aS ta 240 rk9), (a 18, aS ta 16 ce9), (a 22, aS ta 700 gm), (a 24, aS ta 16 mac), (a 25, aS ta 16 k1), (a 53, aS ta 16 b9), (a 55, aS ta 16 gco), (a 41, aS ta 256 gke), (a 36, aK ta 2 ru), (a 50, aK ta 2 cs), (a 31, aS ta 300 gli), (a 54, aS ta 300 w9), (a 37, aK ta 2 le), (a 45, aS ta 32 gch), (a 47, aK ta 2 cn), (a 27, aS ta 400 gtp), (h0, oM a ar9 mn 0 osz lsz ns ct), (a 39, aK ta 2 se), (a 40, aK ta 2 lv), (a 48, aT ta 2 ha)] H → va_D A [(a 8, aZ ta 256 BOX), (a 9, aZ ta 256 UBOX), (a 16, aS ta 240 rk9), (a 18, aS ta 16 ce9), (a 22, aS ta 700 gm), (a 24, aS ta 16 mac), (a 25, aS ta 16 k1), (a 53, aS ta 16 b9), (a 55, aS ta 16 gco), (a 41, aS ta 256 gke), (a 36, aK ta 2 ru), (a 50, aK ta 2 cs), (a 31, aS ta 300 gli), (a 54, aS ta 300 w9), (a 37, aK ta 2 le), (a 45, aS ta 32 gch), (a 47, aK ta 2 cn), (a 27, aS ta 400 gtp), (h0, oM a ar9 mn 0 osz lsz ns ct), (a 39, aK ta 2 se), (a 40, aK ta 2 lv), (a 48, aT ta 2 ha)] → va_S A ss.heap H locs → ∀ ls : Array Slot, lv_has ls 4 [(3, .int (nI k1x)), (2, .int (nI m9)), (0, .ref h0), (1, .int (nI sw9))] → W pp ll ee ({ frames := 6, cells := 0, slots := 0, locals := 151 } : Room) ss mm (([.ref h0, .int (nI sw9)] : List Value).toArray) below meth kc H locs 0 0 Q (F0 mm 92 ls []) := by
                intro m9 w9 rk9 ce9 ar9 b9 hD9 hm9 H locs hP hD hS ls hl
                refine lv_aload_n (pc := 92) hx hb dX10_answer_92 rfl (lv_at hl 2 rfl) ?_
                refine lv_iconst (pc := 93) (v := nI 1) hx hb dX10_answer_93 (by decide +kernel) ?_
                refine lv_aload_n (pc := 94) hx hb dX10_answer_94 rfl (lv_at hl 2 rfl) ?_
                refine va_get (pc := 95) (D := D) (ci := 8) (v := .ref (a 54)) (C := RX10) (T := TX10) (N := 57) hx hb hts iu10 hown hK hP 18 rfl rfl 54 (by decide) (hts _ tw_1099) (fun _ h9 => h9) rfl dX10_answer_95 ?_
                refine lv_iload_n (pc := 98) hx hb dX10_answer_98 rfl (lv_at hl 1 rfl) ?_
                refine lv_iload_n (pc := 99) hx hb dX10_answer_99 rfl (lv_at hl 3 rfl) ?_
                refine cs_V (pc := 100) (idx := 402) (n := 4) (wr := [(a 53, aS ta 16 b9), (a 31, aS ta 300 gli), (a 47, aK ta 2 cn), (a 27, aS ta 400 gtp), (a 39, aK ta 2 se), (a 40, aK ta 2 lv), (a 48, aT ta 2 ha)]) (As := [.int (nI 1), .ref (a 54), .int (nI m9), .int (nI sw9)]) (rest := []) (ci := 8) hx hb hml hown hts hGok hK hA hG hl.1 hP hD hS (ct_X10_answerMac_3 ll D ta hGok h0 a ar9 mn 0 osz lsz ns ct rk9 ce9 gm mac k1 gco gke gch ru le cs 1 (a 54) 300 w9 m9 sw9 (by first | assumption | omega | rfl | decide) (by first | assumption | omega | rfl | decide) (by first | assumption | omega | rfl | decide) (by first | assumption | omega | rfl | decide) (by first | assumption | omega | rfl | decide) (by first | assumption | omega | rfl | decide) H.size) tw_1434 tw_1431 tw_1433 tw_62 tw_75 hdX10_answerMac rfl ⟨rfl, rfl, Nat.le_of_ble_eq_true rfl, Nat.le_of_ble_eq_true rfl, Nat.le_of_ble_eq_true rfl, Nat.le_of_ble_eq_true rfl⟩ rfl rfl (q0 := 18) rfl [18, 0, 1, 2, 3, 4, 5, 6, 8, 9, 10, 11, 14, 15, 13] [7, 12, 16, 17, 19, 20, 21] rfl rfl (by decide) rfl (Nat.le_of_ble_eq_true rfl) dX10_answer_100 (fun u H locs hq hP hD hS => ?_)
                obtain ⟨rk1_100, ce1_100, gm1_100, mac1_100, k11_100, gco1_100, mn1_100, ar1_100⟩ := u
                have hq : (seg gco1_100 0 8 = (ansCode3 (seg gke (128 * 1 + 64) (le 1)) (seg gch (16 * 1) 16) (qL w9 m9) sw9).take 8) := hq
                have hs_100 := hq
                refine W.eq (g2 := F0 mm 103 ls []) rfl ?_
                have hP : va_P D vwCl [(a 53, aS ta 16 b9), (a 31, aS ta 300 gli), (a 47, aK ta 2 cn), (a 27, aS ta 400 gtp), (a 39, aK ta 2 se), (a 40, aK ta 2 lv), (a 48, aT ta 2 ha), (h0, oM a ar1_100 mn1_100 0 osz lsz ns ct), (a 8, aZ ta 256 BOX), (a 9, aZ ta 256 UBOX), (a 16, aS ta 240 rk1_100), (a 18, aS ta 16 ce1_100), (a 22, aS ta 700 gm1_100), (a 24, aS ta 16 mac1_100), (a 25, aS ta 16 k11_100), (a 55, aS ta 16 gco1_100), (a 41, aS ta 256 gke), (a 36, aK ta 2 ru), (a 50, aK ta 2 cs), (a 37, aK ta 2 le), (a 45, aS ta 32 gch), (a 54, aS ta 300 w9)] H := hP
                have hD : va_D A [(a 53, aS ta 16 b9), (a 31, aS ta 300 gli), (a 47, aK ta 2 cn), (a 27, aS ta 400 gtp), (a 39, aK ta 2 se), (a 40, aK ta 2 lv), (a 48, aT ta 2 ha), (h0, oM a ar1_100 mn1_100 0 osz lsz ns ct), (a 8, aZ ta 256 BOX), (a 9, aZ ta 256 UBOX), (a 16, aS ta 240 rk1_100), (a 18, aS ta 16 ce1_100), (a 22, aS ta 700 gm1_100), (a 24, aS ta 16 mac1_100), (a 25, aS ta 16 k11_100), (a 55, aS ta 16 gco1_100), (a 41, aS ta 256 gke), (a 36, aK ta 2 ru), (a 50, aK ta 2 cs), (a 37, aK ta 2 le), (a 45, aS ta 32 gch), (a 54, aS ta 300 w9)] := hD
                refine lv_aload_n (pc := 103) hx hb dX10_answer_103 rfl (lv_at hl 2 rfl) ?_
                refine va_get (pc := 104) (D := D) (ci := 8) (v := .ref (a 36)) (C := RX10) (T := TX10) (N := 57) hx hb hts iu10 hown hK hP 7 rfl rfl 36 (by decide) (hts _ tw_1081) (fun _ h9 => h9) rfl dX10_answer_104 ?_
                refine lv_iconst (pc := 107) (v := nI 1) hx hb dX10_answer_107 (by decide +kernel) ?_
                refine q_iald (pc := 108) hx hb hK hP 17 0 rfl rfl (k := 1) (v := nI (ru 1)) rfl (by omega) (by omega) rfl dX10_answer_108 ?_
                refine lv_iconst (pc := 109) (v := nI 2) hx hb dX10_answer_109 (by decide +kernel) ?_
                refine lv_icmp_ne (pc := 110) (tgt := 142) hx hb dX10_answer_110 (by decide) (fun c_6 => ?_) (fun c_6 => ?_)
                · skip
                  rw [nI_eq (by omega) (by omega)] at c_6
                  refine lv_iconst (pc := 142) (v := nI 0) hx hb dX10_answer_142 (by decide +kernel) ?_
                  refine lv_istore_n (pc := 143) (lv' := [(3, .int (nI 0)), (2, .int (nI m9)), (0, .ref h0), (1, .int (nI sw9))]) hx hb dX10_answer_143 rfl hl (by decide) rfl (fun ls hl => ?_)
                  have LP144 : ∀ (nn144 : Nat) (k3x : Nat) (q' : Nat → BitVec 8), (k3x ≤ m9) → (qSeg q' gli 0 k3x w9) → (m9 - k3x < nn144) → ∀ (H : Heap) (locs : List Loc), va_P D vwCl [(a 53, aS ta 16 b9), (a 31, aS ta 300 q'), (a 47, aK ta 2 cn), (a 27, aS ta 400 gtp), (a 39, aK ta 2 se), (a 40, aK ta 2 lv), (a 48, aT ta 2 ha), (h0, oM a ar1_100 mn1_100 0 osz lsz ns ct), (a 8, aZ ta 256 BOX), (a 9, aZ ta 256 UBOX), (a 16, aS ta 240 rk1_100), (a 18, aS ta 16 ce1_100), (a 22, aS ta 700 gm1_100), (a 24, aS ta 16 mac1_100), (a 25, aS ta 16 k11_100), (a 55, aS ta 16 gco1_100), (a 41, aS ta 256 gke), (a 36, aK ta 2 ru), (a 50, aK ta 2 cs), (a 37, aK ta 2 le), (a 45, aS ta 32 gch), (a 54, aS ta 300 w9)] H → va_D A [(a 53, aS ta 16 b9), (a 31, aS ta 300 q'), (a 47, aK ta 2 cn), (a 27, aS ta 400 gtp), (a 39, aK ta 2 se), (a 40, aK ta 2 lv), (a 48, aT ta 2 ha), (h0, oM a ar1_100 mn1_100 0 osz lsz ns ct), (a 8, aZ ta 256 BOX), (a 9, aZ ta 256 UBOX), (a 16, aS ta 240 rk1_100), (a 18, aS ta 16 ce1_100), (a 22, aS ta 700 gm1_100), (a 24, aS ta 16 mac1_100), (a 25, aS ta 16 k11_100), (a 55, aS ta 16 gco1_100), (a 41, aS ta 256 gke), (a 36, aK ta 2 ru), (a 50, aK ta 2 cs), (a 37, aK ta 2 le), (a 45, aS ta 32 gch), (a 54, aS ta 300 w9)] → va_S A ss.heap H locs → ∀ ls : Array Slot, lv_has ls 4 [(3, .int (nI k3x)), (2, .int (nI m9)), (0, .ref h0), (1, .int (nI sw9))] → W pp ll ee ({ frames := 6, cells := 0, slots := 0, locals := 151 } : Room) ss mm (([.ref h0, .int (nI sw9)] : List Value).toArray) below meth kc H locs 0 0 Q (F0 mm 144 ls []) := by
                    intro nn144
                    induction nn144 with
                    | zero => intro k3x q' hk3 hs3 hmu; exact absurd hmu (Nat.not_lt_zero _)
                    | succ nn144 ih144 =>
                      intro k3x q' hk3 hs3 hmu144 H locs hP hD hS ls hl
                      refine lv_iload_n (pc := 144) hx hb dX10_answer_144 rfl (lv_at hl 0 rfl) ?_
                      refine lv_iload_n (pc := 145) hx hb dX10_answer_145 rfl (lv_at hl 1 rfl) ?_
                      refine lv_icmp_ge (pc := 146) (tgt := 167) hx hb dX10_answer_146 (by decide) (fun c_7 => ?_) (fun c_7 => ?_)
                      · skip
                        rw [nI_leI (by omega) (by omega)] at c_7
                        refine lv_iconst (pc := 167) (v := nI 0) hx hb dX10_answer_167 (by decide +kernel) ?_
                        refine lv_istore_n (pc := 168) (lv' := [(3, .int (nI 0)), (2, .int (nI m9)), (0, .ref h0), (1, .int (nI sw9))]) hx hb dX10_answer_168 rfl hl (by decide) rfl (fun ls hl => ?_)
                        have LP169 : ∀ (nn169 : Nat) (k4x : Nat) (r' : Nat → BitVec 8), (k4x ≤ 8) → (qSeg r' q' m9 k4x gco1_100) → (8 - k4x < nn169) → ∀ (H : Heap) (locs : List Loc), va_P D vwCl [(a 53, aS ta 16 b9), (a 31, aS ta 300 r'), (a 47, aK ta 2 cn), (a 27, aS ta 400 gtp), (a 39, aK ta 2 se), (a 40, aK ta 2 lv), (a 48, aT ta 2 ha), (h0, oM a ar1_100 mn1_100 0 osz lsz ns ct), (a 8, aZ ta 256 BOX), (a 9, aZ ta 256 UBOX), (a 16, aS ta 240 rk1_100), (a 18, aS ta 16 ce1_100), (a 22, aS ta 700 gm1_100), (a 24, aS ta 16 mac1_100), (a 25, aS ta 16 k11_100), (a 55, aS ta 16 gco1_100), (a 41, aS ta 256 gke), (a 36, aK ta 2 ru), (a 50, aK ta 2 cs), (a 37, aK ta 2 le), (a 45, aS ta 32 gch), (a 54, aS ta 300 w9)] H → va_D A [(a 53, aS ta 16 b9), (a 31, aS ta 300 r'), (a 47, aK ta 2 cn), (a 27, aS ta 400 gtp), (a 39, aK ta 2 se), (a 40, aK ta 2 lv), (a 48, aT ta 2 ha), (h0, oM a ar1_100 mn1_100 0 osz lsz ns ct), (a 8, aZ ta 256 BOX), (a 9, aZ ta 256 UBOX), (a 16, aS ta 240 rk1_100), (a 18, aS ta 16 ce1_100), (a 22, aS ta 700 gm1_100), (a 24, aS ta 16 mac1_100), (a 25, aS ta 16 k11_100), (a 55, aS ta 16 gco1_100), (a 41, aS ta 256 gke), (a 36, aK ta 2 ru), (a 50, aK ta 2 cs), (a 37, aK ta 2 le), (a 45, aS ta 32 gch), (a 54, aS ta 300 w9)] → va_S A ss.heap H locs → ∀ ls : Array Slot, lv_has ls 4 [(3, .int (nI k4x)), (2, .int (nI m9)), (0, .ref h0), (1, .int (nI sw9))] → W pp ll ee ({ frames := 6, cells := 0, slots := 0, locals := 151 } : Room) ss mm (([.ref h0, .int (nI sw9)] : List Value).toArray) below meth kc H locs 0 0 Q (F0 mm 169 ls []) := by
                          intro nn169
                          induction nn169 with
                          | zero => intro k4x r' hk4 hs4 hmu; exact absurd hmu (Nat.not_lt_zero _)
                          | succ nn169 ih169 =>
                            intro k4x r' hk4 hs4 hmu169 H locs hP hD hS ls hl
                            refine lv_iload_n (pc := 169) hx hb dX10_answer_169 rfl (lv_at hl 0 rfl) ?_
                            refine lv_bipush (pc := 170) (v := nI 8) hx hb dX10_answer_170 (by decide +kernel) ?_
                            refine lv_icmp_ge (pc := 172) (tgt := 195) hx hb dX10_answer_172 (by decide) (fun c_8 => ?_) (fun c_8 => ?_)
                            · skip
                              rw [nI_leI (by omega) (by omega)] at c_8
                              refine lv_aload_n (pc := 195) hx hb dX10_answer_195 rfl (lv_at hl 2 rfl) ?_
                              refine lv_iload_n (pc := 196) hx hb dX10_answer_196 rfl (lv_at hl 1 rfl) ?_
                              refine lv_bipush (pc := 197) (v := nI 8) hx hb dX10_answer_197 (by decide +kernel) ?_
                              refine lv_iadd (pc := 199) hx hb dX10_answer_199 ?_
                              refine q_top (y := nI (m9 + 8)) (nI_add m9 8) ?_
                              refine va_put (pc := 200) (D := D) (ci := 8) (v := .int (nI (m9 + 8))) (ty := .int) (C := RX10) (T := TX10) (N := 57) hx hb hts iu10 tyX10 tyX10_ok nmX10 hown hK hP hD hS 7 rfl rfl 32 (by decide) (hts _ tw_1077) (fun _ h9 => h9) rfl (by decide +kernel) rfl rfl (Nat.le_of_ble_eq_true rfl) dX10_answer_200 (fun H locs hP hD hS => ?_)
                              have hP : va_P D vwCl [(a 53, aS ta 16 b9), (a 31, aS ta 300 r'), (a 47, aK ta 2 cn), (a 27, aS ta 400 gtp), (a 39, aK ta 2 se), (a 40, aK ta 2 lv), (a 48, aT ta 2 ha), (h0, oM a ar1_100 mn1_100 0 osz (m9 + 8) ns ct), (a 8, aZ ta 256 BOX), (a 9, aZ ta 256 UBOX), (a 16, aS ta 240 rk1_100), (a 18, aS ta 16 ce1_100), (a 22, aS ta 700 gm1_100), (a 24, aS ta 16 mac1_100), (a 25, aS ta 16 k11_100), (a 55, aS ta 16 gco1_100), (a 41, aS ta 256 gke), (a 36, aK ta 2 ru), (a 50, aK ta 2 cs), (a 37, aK ta 2 le), (a 45, aS ta 32 gch), (a 54, aS ta 300 w9)] H := hP
                              have hD : va_D A [(a 53, aS ta 16 b9), (a 31, aS ta 300 r'), (a 47, aK ta 2 cn), (a 27, aS ta 400 gtp), (a 39, aK ta 2 se), (a 40, aK ta 2 lv), (a 48, aT ta 2 ha), (h0, oM a ar1_100 mn1_100 0 osz (m9 + 8) ns ct), (a 8, aZ ta 256 BOX), (a 9, aZ ta 256 UBOX), (a 16, aS ta 240 rk1_100), (a 18, aS ta 16 ce1_100), (a 22, aS ta 700 gm1_100), (a 24, aS ta 16 mac1_100), (a 25, aS ta 16 k11_100), (a 55, aS ta 16 gco1_100), (a 41, aS ta 256 gke), (a 36, aK ta 2 ru), (a 50, aK ta 2 cs), (a 37, aK ta 2 le), (a 45, aS ta 32 gch), (a 54, aS ta 300 w9)] := hD
                              refine lv_aload_n (pc := 203) hx hb dX10_answer_203 rfl (lv_at hl 2 rfl) ?_
                              refine va_get (pc := 204) (D := D) (ci := 8) (v := .int (nI (m9 + 8))) (C := RX10) (T := TX10) (N := 57) hx hb hts iu10 hown hK hP 7 rfl rfl 32 (by decide) (hts _ tw_1077) (fun _ h9 => h9) rfl dX10_answer_204 ?_
                              have hq_9 : (seg gco1_100 0 8 = (ansCode3 (seg gke 192 (le 1)) (seg gch 16 16) (ansD3 (seg gke 128 (le 1)) (cn 1) (lv 1) (qL gtp tp)) sw9).take 8) ∧ (qL r' (m9 + 8) = (ansD3 (seg gke 128 (le 1)) (cn 1) (lv 1) (qL gtp tp)) ++ seg gco1_100 0 8) ∧ ((m9 + 8) = (ansD3 (seg gke 128 (le 1)) (cn 1) (lv 1) (qL gtp tp)).length + 8 ∧ (m9 + 8) ≤ 216) := by
                                have hall : qL r' (m9 + 8) = (ansD3 (seg gke 128 (le 1)) (cn 1) (lv 1) (qL gtp tp)) ++ seg gco1_100 0 8 := by
                                  rw [← seg_0, seg_app, Nat.zero_add, seg_copy0 hs4 (by omega), seg_keep (g' := r') (g := q') (o := 0) (n := m9) (fun j hj => hs4.2 _ (by omega)), seg_copy0 hs3 (by omega), hD9, seg_0]
                                refine ⟨hs_100.trans (by rw [hD9]), hall, by rw [hD9, qL_len], by omega⟩
                              exact hret (⟨(rk1_100), (ce1_100), (gm1_100), (mac1_100), (k11_100), (b9), (gco1_100), (w9), (mn1_100), (ar1_100), (r'), (m9 + 8)⟩ : (Nat → BitVec 8) × (Nat → BitVec 8) × (Nat → BitVec 8) × (Nat → BitVec 8) × (Nat → BitVec 8) × (Nat → BitVec 8) × (Nat → BitVec 8) × (Nat → BitVec 8) × Nat × Nat × (Nat → BitVec 8) × Nat) _ _ _ _ dX10_answer_207 hq_9 (hP.sub [7, 8, 9, 10, 11, 12, 13, 14, 0, 15, 16, 17, 18, 1, 21, 4, 5, 6, 19, 20, 2, 3] rfl) (hD.sub [7, 8, 9, 10, 11, 12, 13, 14, 0, 15, 16, 17, 18, 1, 21, 4, 5, 6, 19, 20, 2, 3] (by decide) rfl) hS
                            · skip
                              rw [nI_leI (by omega) (by omega)] at c_8
                              refine lv_aload_n (pc := 175) hx hb dX10_answer_175 rfl (lv_at hl 2 rfl) ?_
                              refine va_get (pc := 176) (D := D) (ci := 8) (v := .ref (a 31)) (C := RX10) (T := TX10) (N := 57) hx hb hts iu10 hown hK hP 7 rfl rfl 31 (by decide) (hts _ tw_1076) (fun _ h9 => h9) rfl dX10_answer_176 ?_
                              refine lv_iload_n (pc := 179) hx hb dX10_answer_179 rfl (lv_at hl 1 rfl) ?_
                              refine lv_iload_n (pc := 180) hx hb dX10_answer_180 rfl (lv_at hl 0 rfl) ?_
                              refine lv_iadd (pc := 181) hx hb dX10_answer_181 ?_
                              refine q_top (y := nI (m9 + k4x)) (nI_add m9 k4x) ?_
                              refine lv_aload_n (pc := 182) hx hb dX10_answer_182 rfl (lv_at hl 2 rfl) ?_
                              refine va_get (pc := 183) (D := D) (ci := 8) (v := .ref (a 55)) (C := RX10) (T := TX10) (N := 57) hx hb hts iu10 hown hK hP 7 rfl rfl 55 (by decide) (hts _ tw_1100) (fun _ h9 => h9) rfl dX10_answer_183 ?_
                              refine lv_iload_n (pc := 186) hx hb dX10_answer_186 rfl (lv_at hl 0 rfl) ?_
                              refine q_bald (pc := 187) hx hb hK hP 15 2 rfl rfl (k := k4x) (v := qs (gco1_100 k4x)) rfl (by omega) (by omega) rfl dX10_answer_187 ?_
                              refine q_bastS (pc := 188) hx hb hK hP hD hS 1 2 rfl rfl (k := m9 + k4x) rfl (by omega) (by omega) (b := gco1_100 k4x) (qlo_qs _) dX10_answer_188 (fun H locs hP hD hS => ?_)
                              have hP : va_P D vwCl [(a 53, aS ta 16 b9), (a 31, aS ta 300 (qU r' (m9 + k4x) (gco1_100 k4x))), (a 47, aK ta 2 cn), (a 27, aS ta 400 gtp), (a 39, aK ta 2 se), (a 40, aK ta 2 lv), (a 48, aT ta 2 ha), (h0, oM a ar1_100 mn1_100 0 osz lsz ns ct), (a 8, aZ ta 256 BOX), (a 9, aZ ta 256 UBOX), (a 16, aS ta 240 rk1_100), (a 18, aS ta 16 ce1_100), (a 22, aS ta 700 gm1_100), (a 24, aS ta 16 mac1_100), (a 25, aS ta 16 k11_100), (a 55, aS ta 16 gco1_100), (a 41, aS ta 256 gke), (a 36, aK ta 2 ru), (a 50, aK ta 2 cs), (a 37, aK ta 2 le), (a 45, aS ta 32 gch), (a 54, aS ta 300 w9)] H := hP
                              have hD : va_D A [(a 53, aS ta 16 b9), (a 31, aS ta 300 (qU r' (m9 + k4x) (gco1_100 k4x))), (a 47, aK ta 2 cn), (a 27, aS ta 400 gtp), (a 39, aK ta 2 se), (a 40, aK ta 2 lv), (a 48, aT ta 2 ha), (h0, oM a ar1_100 mn1_100 0 osz lsz ns ct), (a 8, aZ ta 256 BOX), (a 9, aZ ta 256 UBOX), (a 16, aS ta 240 rk1_100), (a 18, aS ta 16 ce1_100), (a 22, aS ta 700 gm1_100), (a 24, aS ta 16 mac1_100), (a 25, aS ta 16 k11_100), (a 55, aS ta 16 gco1_100), (a 41, aS ta 256 gke), (a 36, aK ta 2 ru), (a 50, aK ta 2 cs), (a 37, aK ta 2 le), (a 45, aS ta 32 gch), (a 54, aS ta 300 w9)] := hD
                              refine lv_iinc (pc := 189) (v := nI (k4x + 1)) (lv' := [(3, .int (nI (k4x + 1))), (2, .int (nI m9)), (0, .ref h0), (1, .int (nI sw9))]) hx hb dX10_answer_189 hl (k := 0) rfl (by first | exact nI_add k4x 1 | rfl) (by decide) rfl (fun ls hl => ?_)
                              refine lv_goto (pc := 192) (tgt := 169) hx hb dX10_answer_192 (by decide) ?_
                              exact ih169 (k4x + 1) (qU r' (m9 + k4x) (gco1_100 k4x)) (by omega) (qSeg_s hs4 (by omega) rfl) (by omega) _ _ (hP.sub [0, 1, 2, 3, 4, 5, 6, 7, 8, 9, 10, 11, 12, 13, 14, 15, 16, 17, 18, 19, 20, 21] rfl) (hD.sub [0, 1, 2, 3, 4, 5, 6, 7, 8, 9, 10, 11, 12, 13, 14, 15, 16, 17, 18, 19, 20, 21] (by decide) rfl) hS ls (lv_sub hl [0, 1, 2, 3] rfl)
                        exact LP169 _ 0 q' (by omega) (qSeg_0) (Nat.lt_succ_self _) _ _ (hP.sub [0, 1, 2, 3, 4, 5, 6, 7, 8, 9, 10, 11, 12, 13, 14, 15, 16, 17, 18, 19, 20, 21] rfl) (hD.sub [0, 1, 2, 3, 4, 5, 6, 7, 8, 9, 10, 11, 12, 13, 14, 15, 16, 17, 18, 19, 20, 21] (by decide) rfl) hS ls (lv_sub hl [0, 1, 2, 3] rfl)
                      · skip
                        rw [nI_leI (by omega) (by omega)] at c_7
                        refine lv_aload_n (pc := 149) hx hb dX10_answer_149 rfl (lv_at hl 2 rfl) ?_
                        refine va_get (pc := 150) (D := D) (ci := 8) (v := .ref (a 31)) (C := RX10) (T := TX10) (N := 57) hx hb hts iu10 hown hK hP 7 rfl rfl 31 (by decide) (hts _ tw_1076) (fun _ h9 => h9) rfl dX10_answer_150 ?_
                        refine lv_iload_n (pc := 153) hx hb dX10_answer_153 rfl (lv_at hl 0 rfl) ?_
                        refine lv_aload_n (pc := 154) hx hb dX10_answer_154 rfl (lv_at hl 2 rfl) ?_
                        refine va_get (pc := 155) (D := D) (ci := 8) (v := .ref (a 54)) (C := RX10) (T := TX10) (N := 57) hx hb hts iu10 hown hK hP 7 rfl rfl 54 (by decide) (hts _ tw_1099) (fun _ h9 => h9) rfl dX10_answer_155 ?_
                        refine lv_iload_n (pc := 158) hx hb dX10_answer_158 rfl (lv_at hl 0 rfl) ?_
                        refine q_bald (pc := 159) hx hb hK hP 21 2 rfl rfl (k := k3x) (v := qs (w9 k3x)) rfl (by omega) (by omega) rfl dX10_answer_159 ?_
                        refine q_bastS (pc := 160) hx hb hK hP hD hS 1 2 rfl rfl (k := k3x) rfl (by omega) (by omega) (b := w9 k3x) (qlo_qs _) dX10_answer_160 (fun H locs hP hD hS => ?_)
                        have hP : va_P D vwCl [(a 53, aS ta 16 b9), (a 31, aS ta 300 (qU q' k3x (w9 k3x))), (a 47, aK ta 2 cn), (a 27, aS ta 400 gtp), (a 39, aK ta 2 se), (a 40, aK ta 2 lv), (a 48, aT ta 2 ha), (h0, oM a ar1_100 mn1_100 0 osz lsz ns ct), (a 8, aZ ta 256 BOX), (a 9, aZ ta 256 UBOX), (a 16, aS ta 240 rk1_100), (a 18, aS ta 16 ce1_100), (a 22, aS ta 700 gm1_100), (a 24, aS ta 16 mac1_100), (a 25, aS ta 16 k11_100), (a 55, aS ta 16 gco1_100), (a 41, aS ta 256 gke), (a 36, aK ta 2 ru), (a 50, aK ta 2 cs), (a 37, aK ta 2 le), (a 45, aS ta 32 gch), (a 54, aS ta 300 w9)] H := hP
                        have hD : va_D A [(a 53, aS ta 16 b9), (a 31, aS ta 300 (qU q' k3x (w9 k3x))), (a 47, aK ta 2 cn), (a 27, aS ta 400 gtp), (a 39, aK ta 2 se), (a 40, aK ta 2 lv), (a 48, aT ta 2 ha), (h0, oM a ar1_100 mn1_100 0 osz lsz ns ct), (a 8, aZ ta 256 BOX), (a 9, aZ ta 256 UBOX), (a 16, aS ta 240 rk1_100), (a 18, aS ta 16 ce1_100), (a 22, aS ta 700 gm1_100), (a 24, aS ta 16 mac1_100), (a 25, aS ta 16 k11_100), (a 55, aS ta 16 gco1_100), (a 41, aS ta 256 gke), (a 36, aK ta 2 ru), (a 50, aK ta 2 cs), (a 37, aK ta 2 le), (a 45, aS ta 32 gch), (a 54, aS ta 300 w9)] := hD
                        refine lv_iinc (pc := 161) (v := nI (k3x + 1)) (lv' := [(3, .int (nI (k3x + 1))), (2, .int (nI m9)), (0, .ref h0), (1, .int (nI sw9))]) hx hb dX10_answer_161 hl (k := 0) rfl (by first | exact nI_add k3x 1 | rfl) (by decide) rfl (fun ls hl => ?_)
                        refine lv_goto (pc := 164) (tgt := 144) hx hb dX10_answer_164 (by decide) ?_
                        exact ih144 (k3x + 1) (qU q' k3x (w9 k3x)) (by omega) (qSeg_s hs3 (by omega) rfl) (by omega) _ _ (hP.sub [0, 1, 2, 3, 4, 5, 6, 7, 8, 9, 10, 11, 12, 13, 14, 15, 16, 17, 18, 19, 20, 21] rfl) (hD.sub [0, 1, 2, 3, 4, 5, 6, 7, 8, 9, 10, 11, 12, 13, 14, 15, 16, 17, 18, 19, 20, 21] (by decide) rfl) hS ls (lv_sub hl [0, 1, 2, 3] rfl)
                  exact LP144 _ 0 gli (by omega) (qSeg_0) (Nat.lt_succ_self _) _ _ (hP.sub [0, 1, 2, 3, 4, 5, 6, 7, 8, 9, 10, 11, 12, 13, 14, 15, 16, 17, 18, 19, 20, 21] rfl) (hD.sub [0, 1, 2, 3, 4, 5, 6, 7, 8, 9, 10, 11, 12, 13, 14, 15, 16, 17, 18, 19, 20, 21] (by decide) rfl) hS ls (lv_sub hl [0, 1, 2, 3] rfl)
                · skip
                  rw [nI_eq (by omega) (by omega)] at c_6
                  exfalso; omega
              refine lv_aload_n (pc := 58) hx hb dX10_answer_58 rfl (lv_at hl 2 rfl) ?_
              refine va_get (pc := 59) (D := D) (ci := 8) (v := .ref (a 36)) (C := RX10) (T := TX10) (N := 57) hx hb hts iu10 hown hK hP 18 rfl rfl 36 (by decide) (hts _ tw_1081) (fun _ h9 => h9) rfl dX10_answer_59 ?_
              refine lv_iconst (pc := 62) (v := nI 1) hx hb dX10_answer_62 (by decide +kernel) ?_
              refine q_iald (pc := 63) hx hb hK hP 10 0 rfl rfl (k := 1) (v := nI (ru 1)) rfl (by omega) (by omega) rfl dX10_answer_63 ?_
              refine lv_iconst (pc := 64) (v := nI 3) hx hb dX10_answer_64 (by decide +kernel) ?_
              refine lv_icmp_ne (pc := 65) (tgt := 92) hx hb dX10_answer_65 (by decide) (fun c_10 => ?_) (fun c_10 => ?_)
              · skip
                rw [nI_eq (by omega) (by omega)] at c_10
                exfalso; omega
              · skip
                rw [nI_eq (by omega) (by omega)] at c_10
                refine lv_aload_n (pc := 68) hx hb dX10_answer_68 rfl (lv_at hl 2 rfl) ?_
                refine va_get (pc := 69) (D := D) (ci := 8) (v := .ref (a 40)) (C := RX10) (T := TX10) (N := 57) hx hb hts iu10 hown hK hP 18 rfl rfl 40 (by decide) (hts _ tw_1085) (fun _ h9 => h9) rfl dX10_answer_69 ?_
                refine lv_iconst (pc := 72) (v := nI 1) hx hb dX10_answer_72 (by decide +kernel) ?_
                refine q_iald (pc := 73) hx hb hK hP 20 0 rfl rfl (k := 1) (v := nI (lv 1)) rfl (by omega) (by omega) rfl dX10_answer_73 ?_
                refine lv_bipush (pc := 74) (v := nI 32) hx hb dX10_answer_74 (by decide +kernel) ?_
                refine lv_iand (pc := 76) hx hb dX10_answer_76 ?_
                refine q_top (y := nI (lv 1 &&& 32)) (nI_and (by omega) (by omega)) ?_
                refine lv_if_le (pc := 77) (tgt := 92) hx hb dX10_answer_77 (by decide) (fun c_11 => ?_) (fun c_11 => ?_)
                · skip
                  rw [q_le0 (by omega)] at c_11
                  exact JN92 tp k' rk ce ar gbl (by first | (rw [ansD3, hidB_f (by rw [qL_len]; omega), hwk]; rfl) | (rw [ansD3, hidB_t (by omega) (by rw [qL_len]; omega), if_pos rfl, hL_88, hwk] <;> rfl)) (by omega) _ _ (hP.sub [0, 1, 2, 3, 4, 5, 6, 7, 8, 9, 10, 11, 12, 13, 14, 15, 16, 17, 18, 19, 20, 21] rfl) (hD.sub [0, 1, 2, 3, 4, 5, 6, 7, 8, 9, 10, 11, 12, 13, 14, 15, 16, 17, 18, 19, 20, 21] (by decide) rfl) hS ls (lv_sub hl [0, 1, 2, 3] rfl)
                · skip
                  rw [q_le0 (by omega)] at c_11
                  refine lv_iload_n (pc := 80) hx hb dX10_answer_80 rfl (lv_at hl 1 rfl) ?_
                  refine lv_if_le (pc := 81) (tgt := 92) hx hb dX10_answer_81 (by decide) (fun c_12 => ?_) (fun c_12 => ?_)
                  · skip
                    rw [q_le0 (by omega)] at c_12
                    exact JN92 tp k' rk ce ar gbl (by first | (rw [ansD3, hidB_f (by rw [qL_len]; omega), hwk]; rfl) | (rw [ansD3, hidB_t (by omega) (by rw [qL_len]; omega), if_pos rfl, hL_88, hwk] <;> rfl)) (by omega) _ _ (hP.sub [0, 1, 2, 3, 4, 5, 6, 7, 8, 9, 10, 11, 12, 13, 14, 15, 16, 17, 18, 19, 20, 21] rfl) (hD.sub [0, 1, 2, 3, 4, 5, 6, 7, 8, 9, 10, 11, 12, 13, 14, 15, 16, 17, 18, 19, 20, 21] (by decide) rfl) hS ls (lv_sub hl [0, 1, 2, 3] rfl)
                  · skip
                    rw [q_le0 (by omega)] at c_12
                    refine lv_aload_n (pc := 84) hx hb dX10_answer_84 rfl (lv_at hl 2 rfl) ?_
                    refine lv_iconst (pc := 85) (v := nI 1) hx hb dX10_answer_85 (by decide +kernel) ?_
                    refine lv_iload_n (pc := 86) hx hb dX10_answer_86 rfl (lv_at hl 1 rfl) ?_
                    refine lv_iconst (pc := 87) (v := nI 1) hx hb dX10_answer_87 (by decide +kernel) ?_
                    refine cs_V (pc := 88) (idx := 381) (n := 3) (wr := [(a 22, aS ta 700 gm), (a 24, aS ta 16 mac), (a 25, aS ta 16 k1), (a 55, aS ta 16 gco), (a 50, aK ta 2 cs), (a 31, aS ta 300 gli), (a 45, aS ta 32 gch), (a 27, aS ta 400 gtp), (a 39, aK ta 2 se), (a 40, aK ta 2 lv), (a 48, aT ta 2 ha)]) (As := [.int (nI 1), .int (nI tp), .int (nI 1)]) (rest := []) (ci := 8) hx hb hml hown hts hGok hK hA hG hl.1 hP hD hS (ct_X10_hide_31 ll D ta hGok h0 a ar mn 0 osz lsz ns ct rk ce gbl gke k' ru le cn 1 tp (by first | assumption | omega | rfl | decide) (by first | assumption | omega | rfl | decide) (by first | assumption | omega | rfl | decide) (by first | assumption | omega | rfl | decide) (by first | assumption | omega | rfl | decide) H.size) tw_1388 tw_1385 tw_1387 tw_53 tw_75 hdX10_hide rfl ⟨rfl, rfl, Nat.le_of_ble_eq_true rfl, Nat.le_of_ble_eq_true rfl, Nat.le_of_ble_eq_true rfl, Nat.le_of_ble_eq_true rfl⟩ rfl rfl (q0 := 18) rfl [18, 0, 1, 2, 3, 7, 9, 10, 13, 14, 16] [4, 5, 6, 8, 11, 12, 15, 17, 19, 20, 21] rfl rfl (by decide) rfl (Nat.le_of_ble_eq_true rfl) dX10_answer_88 (fun u H locs hq hP hD hS => ?_)
                    obtain ⟨rk1_88, ce1_88, gbl1_88, gwk1_88, n1_88⟩ := u
                    have hq : (n1_88 = (tp / 16 + 1) * 16) ∧ (qL gwk1_88 n1_88 = hide3 (seg gke (128 * 1) (le 1)) (cn 1) 0x80#8 (qL k' tp)) := hq
                    obtain ⟨hn_88, hL_88⟩ := hq
                    refine W.eq (g2 := F0 mm 91 ls [.int (nI n1_88)]) rfl ?_
                    have hP : va_P D vwCl [(a 22, aS ta 700 gm), (a 24, aS ta 16 mac), (a 25, aS ta 16 k1), (a 55, aS ta 16 gco), (a 50, aK ta 2 cs), (a 31, aS ta 300 gli), (a 45, aS ta 32 gch), (a 27, aS ta 400 gtp), (a 39, aK ta 2 se), (a 40, aK ta 2 lv), (a 48, aT ta 2 ha), (h0, oM a (le 1 / 4 + 6) mn 0 osz lsz ns ct), (a 8, aZ ta 256 BOX), (a 9, aZ ta 256 UBOX), (a 16, aS ta 240 rk1_88), (a 18, aS ta 16 ce1_88), (a 53, aS ta 16 gbl1_88), (a 41, aS ta 256 gke), (a 36, aK ta 2 ru), (a 54, aS ta 300 gwk1_88), (a 37, aK ta 2 le), (a 47, aK ta 2 cn)] H := hP
                    have hD : va_D A [(a 22, aS ta 700 gm), (a 24, aS ta 16 mac), (a 25, aS ta 16 k1), (a 55, aS ta 16 gco), (a 50, aK ta 2 cs), (a 31, aS ta 300 gli), (a 45, aS ta 32 gch), (a 27, aS ta 400 gtp), (a 39, aK ta 2 se), (a 40, aK ta 2 lv), (a 48, aT ta 2 ha), (h0, oM a (le 1 / 4 + 6) mn 0 osz lsz ns ct), (a 8, aZ ta 256 BOX), (a 9, aZ ta 256 UBOX), (a 16, aS ta 240 rk1_88), (a 18, aS ta 16 ce1_88), (a 53, aS ta 16 gbl1_88), (a 41, aS ta 256 gke), (a 36, aK ta 2 ru), (a 54, aS ta 300 gwk1_88), (a 37, aK ta 2 le), (a 47, aK ta 2 cn)] := hD
                    refine lv_istore_n (pc := 91) (lv' := [(2, .int (nI n1_88)), (3, .int (nI k1x)), (0, .ref h0), (1, .int (nI sw9))]) hx hb dX10_answer_91 rfl hl (by decide) rfl (fun ls hl => ?_)
                    exact JN92 n1_88 gwk1_88 rk1_88 ce1_88 (le 1 / 4 + 6) gbl1_88 (by first | (rw [ansD3, hidB_f (by rw [qL_len]; omega), hwk]; rfl) | (rw [ansD3, hidB_t (by omega) (by rw [qL_len]; omega), if_pos rfl, hL_88, hwk] <;> rfl)) (by omega) _ _ (hP.sub [12, 13, 14, 15, 0, 1, 2, 16, 3, 17, 18, 4, 5, 19, 20, 6, 21, 7, 11, 8, 9, 10] rfl) (hD.sub [12, 13, 14, 15, 0, 1, 2, 16, 3, 17, 18, 4, 5, 19, 20, 6, 21, 7, 11, 8, 9, 10] (by decide) rfl) hS ls (lv_sub hl [1, 0, 2, 3] rfl)
            · skip
              rw [nI_leI (by omega) (by omega)] at c_5
              refine lv_aload_n (pc := 40) hx hb dX10_answer_40 rfl (lv_at hl 2 rfl) ?_
              refine va_get (pc := 41) (D := D) (ci := 8) (v := .ref (a 54)) (C := RX10) (T := TX10) (N := 57) hx hb hts iu10 hown hK hP 18 rfl rfl 54 (by decide) (hts _ tw_1099) (fun _ h9 => h9) rfl dX10_answer_41 ?_
              refine lv_iload_n (pc := 44) hx hb dX10_answer_44 rfl (lv_at hl 0 rfl) ?_
              refine lv_aload_n (pc := 45) hx hb dX10_answer_45 rfl (lv_at hl 2 rfl) ?_
              refine va_get (pc := 46) (D := D) (ci := 8) (v := .ref (a 27)) (C := RX10) (T := TX10) (N := 57) hx hb hts iu10 hown hK hP 18 rfl rfl 27 (by decide) (hts _ tw_1072) (fun _ h9 => h9) rfl dX10_answer_46 ?_
              refine lv_iload_n (pc := 49) hx hb dX10_answer_49 rfl (lv_at hl 0 rfl) ?_
              refine q_bald (pc := 50) hx hb hK hP 17 2 rfl rfl (k := k1x) (v := qs (gtp k1x)) rfl (by omega) (by omega) rfl dX10_answer_50 ?_
              refine q_bastS (pc := 51) hx hb hK hP hD hS 13 2 rfl rfl (k := k1x) rfl (by omega) (by omega) (b := gtp k1x) (qlo_qs _) dX10_answer_51 (fun H locs hP hD hS => ?_)
              have hP : va_P D vwCl [(a 8, aZ ta 256 BOX), (a 9, aZ ta 256 UBOX), (a 16, aS ta 240 rk), (a 18, aS ta 16 ce), (a 22, aS ta 700 gm), (a 24, aS ta 16 mac), (a 25, aS ta 16 k1), (a 53, aS ta 16 gbl), (a 55, aS ta 16 gco), (a 41, aS ta 256 gke), (a 36, aK ta 2 ru), (a 50, aK ta 2 cs), (a 31, aS ta 300 gli), (a 54, aS ta 300 (qU k' k1x (gtp k1x))), (a 37, aK ta 2 le), (a 45, aS ta 32 gch), (a 47, aK ta 2 cn), (a 27, aS ta 400 gtp), (h0, oM a ar mn 0 osz lsz ns ct), (a 39, aK ta 2 se), (a 40, aK ta 2 lv), (a 48, aT ta 2 ha)] H := hP
              have hD : va_D A [(a 8, aZ ta 256 BOX), (a 9, aZ ta 256 UBOX), (a 16, aS ta 240 rk), (a 18, aS ta 16 ce), (a 22, aS ta 700 gm), (a 24, aS ta 16 mac), (a 25, aS ta 16 k1), (a 53, aS ta 16 gbl), (a 55, aS ta 16 gco), (a 41, aS ta 256 gke), (a 36, aK ta 2 ru), (a 50, aK ta 2 cs), (a 31, aS ta 300 gli), (a 54, aS ta 300 (qU k' k1x (gtp k1x))), (a 37, aK ta 2 le), (a 45, aS ta 32 gch), (a 47, aK ta 2 cn), (a 27, aS ta 400 gtp), (h0, oM a ar mn 0 osz lsz ns ct), (a 39, aK ta 2 se), (a 40, aK ta 2 lv), (a 48, aT ta 2 ha)] := hD
              refine lv_iinc (pc := 52) (v := nI (k1x + 1)) (lv' := [(3, .int (nI (k1x + 1))), (2, .int (nI tp)), (0, .ref h0), (1, .int (nI sw9))]) hx hb dX10_answer_52 hl (k := 0) rfl (by first | exact nI_add k1x 1 | rfl) (by decide) rfl (fun ls hl => ?_)
              refine lv_goto (pc := 55) (tgt := 35) hx hb dX10_answer_55 (by decide) ?_
              exact ih35 (k1x + 1) (qU k' k1x (gtp k1x)) (by omega) (qSeg_s hs1 (by omega) (by first | rfl | (simp; done))) (by omega) _ _ (hP.sub [0, 1, 2, 3, 4, 5, 6, 7, 8, 9, 10, 11, 12, 13, 14, 15, 16, 17, 18, 19, 20, 21] rfl) (hD.sub [0, 1, 2, 3, 4, 5, 6, 7, 8, 9, 10, 11, 12, 13, 14, 15, 16, 17, 18, 19, 20, 21] (by decide) rfl) hS ls (lv_sub hl [0, 1, 2, 3] rfl)
        exact LP35 _ 0 gwk (by omega) (qSeg_0) (Nat.lt_succ_self _) _ _ (hP.sub [0, 1, 2, 3, 4, 5, 6, 7, 8, 9, 10, 11, 12, 13, 14, 15, 16, 17, 18, 19, 20, 21] rfl) (hD.sub [0, 1, 2, 3, 4, 5, 6, 7, 8, 9, 10, 11, 12, 13, 14, 15, 16, 17, 18, 19, 20, 21] (by decide) rfl) hS ls (lv_sub hl [0, 1, 2, 3] rfl)
      · skip
        rw [nI_leI (by omega) (by omega)] at c_4
        exfalso; omega
set_option maxHeartbeats 4000000 in
set_option maxRecDepth 100000 in
theorem ct_X10_accept_3 (ll : Launch) (D : va_G) (ta : Nat → ClassId) {G : (Nat → Prop) → State → Heap → Prop} (hGok : GOK G) (h0 : Nat) (a : Nat → Nat) (ar : Nat) (mn : Nat) (tp : Nat) (osz : Nat) (lsz : Nat) (ns : Nat) (ct : Nat) (rk : Nat → BitVec 8) (ce : Nat → BitVec 8) (gm : Nat → BitVec 8) (mac : Nat → BitVec 8) (k1 : Nat → BitVec 8) (gbl : Nat → BitVec 8) (gco : Nat → BitVec 8) (gke : Nat → BitVec 8) (gli : Nat → BitVec 8) (gwk : Nat → BitVec 8) (gch : Nat → BitVec 8) (ru : Nat → Nat) (le : Nat → Nat) (cs : Nat → Nat) (se : Nat → Nat) (lv : Nat → Nat) (ha : Nat → Bool) (cn : Nat → Nat) (gah : Nat → BitVec 8) (gou : Nat → BitVec 8) (sw9 : Nat) (hse : se 0 = 2) (hlv : lv 0 < 256) (hl16 : lv 0 &&& 16 ≠ 0) (hha : ha 0 = true) (hru : ru 0 = 3) (hsw : sw9 < 65536) (hcs : 4 ≤ cs 0 ∧ cs 0 ≤ 204) (hle : le 0 = 16 ∨ le 0 = 24 ∨ le 0 = 32) (hcn : cn 0 < 2147483648) (hlz : lsz ≤ 300) (sz : Nat) : CT ll yX10_accept cX10_accept 6 (some .int) ({ frames := 6, cells := 0, slots := 0, locals := 151 } : Room) D ta G [.ref h0, .int (nI sw9)] [(h0, oM a ar mn tp osz lsz ns ct), (a 8, aZ ta 256 BOX), (a 9, aZ ta 256 UBOX), (a 16, aS ta 240 rk), (a 18, aS ta 16 ce), (a 22, aS ta 700 gm), (a 24, aS ta 16 mac), (a 25, aS ta 16 k1), (a 53, aS ta 16 gbl), (a 55, aS ta 16 gco), (a 41, aS ta 256 gke), (a 36, aK ta 2 ru), (a 50, aK ta 2 cs), (a 31, aS ta 300 gli), (a 54, aS ta 300 gwk), (a 39, aK ta 2 se), (a 40, aK ta 2 lv), (a 48, aT ta 2 ha), (a 37, aK ta 2 le), (a 45, aS ta 32 gch), (a 47, aK ta 2 cn), (a 56, aS ta 16 gah), (a 29, aS ta 416 gou)] sz (S := Bool × (Nat → BitVec 8) × (Nat → BitVec 8) × (Nat → BitVec 8) × (Nat → BitVec 8) × (Nat → BitVec 8) × (Nat → BitVec 8) × (Nat → BitVec 8) × (Nat → BitVec 8) × Nat × Nat × (Nat → BitVec 8) × (Nat → BitVec 8) × Nat) (fun u => some (.int (qb u.1))) (fun u => (openA3 (seg gke 0 (le 0)) (seg gke 64 (le 0)) (cn 0) (lv 0) (seg gch 0 16) (qL gli lsz) sw9 = if u.1 then some (qL u.2.2.2.2.2.2.2.2.2.2.2.2.1 u.2.2.2.2.2.2.2.2.2.2.2.2.2) else none) ∧ (u.1 = false → u.2.2.2.2.2.2.2.2.2.2.2.2.1 = gou ∧ u.2.2.2.2.2.2.2.2.2.2.2.2.2 = osz) ∧ (u.1 = true → u.2.2.2.2.2.2.2.2.2.2.2.2.2 ≤ 292)) (fun u => [(h0, oM a u.2.2.2.2.2.2.2.2.2.2.1 u.2.2.2.2.2.2.2.2.2.1 tp u.2.2.2.2.2.2.2.2.2.2.2.2.2 0 ns ct), (a 8, aZ ta 256 BOX), (a 9, aZ ta 256 UBOX), (a 16, aS ta 240 u.2.1), (a 18, aS ta 16 u.2.2.1), (a 22, aS ta 700 u.2.2.2.1), (a 24, aS ta 16 u.2.2.2.2.1), (a 25, aS ta 16 u.2.2.2.2.2.1), (a 53, aS ta 16 u.2.2.2.2.2.2.1), (a 55, aS ta 16 u.2.2.2.2.2.2.2.1), (a 41, aS ta 256 gke), (a 36, aK ta 2 ru), (a 50, aK ta 2 cs), (a 31, aS ta 300 gli), (a 54, aS ta 300 u.2.2.2.2.2.2.2.2.1), (a 39, aK ta 2 se), (a 40, aK ta 2 lv), (a 48, aT ta 2 ha), (a 37, aK ta 2 le), (a 45, aS ta 32 gch), (a 47, aK ta 2 cn), (a 56, aS ta 16 u.2.2.2.2.2.2.2.2.2.2.2.1), (a 29, aS ta 416 u.2.2.2.2.2.2.2.2.2.2.2.2.1)]) 0 0 := by
  refine CT.of_i (r := fun u => qb u.1) rfl (by decide) (Nat.le_of_ble_eq_true rfl) ?_
  intro pp ee ss mm below meth kc A Q hx hb hml hown hin hts hK hA hsz hG hret H locs hP hD hS ls hl
  have hl : lv_has ls 6 [(0, .ref h0), (1, .int (nI sw9))] := hl
  refine lv_aload_n (pc := 0) hx hb dX10_accept_0 rfl (lv_at hl 0 rfl) ?_
  refine lv_iconst (pc := 1) (v := nI 0) hx hb dX10_accept_1 (by decide +kernel) ?_
  refine cs_V (pc := 2) (idx := 398) (n := 1) (wr := [(a 8, aZ ta 256 BOX), (a 9, aZ ta 256 UBOX), (a 16, aS ta 240 rk), (a 18, aS ta 16 ce), (a 22, aS ta 700 gm), (a 24, aS ta 16 mac), (a 25, aS ta 16 k1), (a 53, aS ta 16 gbl), (a 55, aS ta 16 gco), (a 41, aS ta 256 gke), (a 36, aK ta 2 ru), (a 50, aK ta 2 cs), (a 31, aS ta 300 gli), (a 54, aS ta 300 gwk), (a 37, aK ta 2 le), (a 45, aS ta 32 gch), (a 47, aK ta 2 cn), (a 56, aS ta 16 gah), (a 29, aS ta 416 gou)]) (As := [.int (nI 0)]) (rest := []) (ci := 8) hx hb hml hown hts hGok hK hA hG hl.1 hP hD hS (ct_X10_answers ll D ta hGok h0 a ar mn tp osz lsz ns ct se lv ha 0 (by first | assumption | omega | rfl | decide) (by first | assumption | omega | rfl | decide) (by first | assumption | omega | rfl | decide) H.size) tw_1429 tw_1426 tw_1428 tw_61 tw_75 hdX10_answers rfl ⟨rfl, rfl, Nat.le_of_ble_eq_true rfl, Nat.le_of_ble_eq_true rfl, Nat.le_of_ble_eq_true rfl, Nat.le_of_ble_eq_true rfl⟩ rfl rfl (q0 := 0) rfl [0, 15, 16, 17] [1, 2, 3, 4, 5, 6, 7, 8, 9, 10, 11, 12, 13, 14, 18, 19, 20, 21, 22] rfl rfl (by decide) rfl (Nat.le_of_ble_eq_true rfl) dX10_accept_2 (fun u H locs hq hP hD hS => ?_)
  generalize u = z_2 at hq hP hD ⊢
  have hq : (z_2 = decide (se 0 = 2 ∧ lv 0 &&& 16 ≠ 0 ∧ ha 0 = true)) := hq
  have hz_2 := hq
  refine W.eq (g2 := F0 mm 5 ls [.int (qb z_2)]) rfl ?_
  have hP : va_P D vwCl [(a 8, aZ ta 256 BOX), (a 9, aZ ta 256 UBOX), (a 16, aS ta 240 rk), (a 18, aS ta 16 ce), (a 22, aS ta 700 gm), (a 24, aS ta 16 mac), (a 25, aS ta 16 k1), (a 53, aS ta 16 gbl), (a 55, aS ta 16 gco), (a 41, aS ta 256 gke), (a 36, aK ta 2 ru), (a 50, aK ta 2 cs), (a 31, aS ta 300 gli), (a 54, aS ta 300 gwk), (a 37, aK ta 2 le), (a 45, aS ta 32 gch), (a 47, aK ta 2 cn), (a 56, aS ta 16 gah), (a 29, aS ta 416 gou), (h0, oM a ar mn tp osz lsz ns ct), (a 39, aK ta 2 se), (a 40, aK ta 2 lv), (a 48, aT ta 2 ha)] H := hP
  have hD : va_D A [(a 8, aZ ta 256 BOX), (a 9, aZ ta 256 UBOX), (a 16, aS ta 240 rk), (a 18, aS ta 16 ce), (a 22, aS ta 700 gm), (a 24, aS ta 16 mac), (a 25, aS ta 16 k1), (a 53, aS ta 16 gbl), (a 55, aS ta 16 gco), (a 41, aS ta 256 gke), (a 36, aK ta 2 ru), (a 50, aK ta 2 cs), (a 31, aS ta 300 gli), (a 54, aS ta 300 gwk), (a 37, aK ta 2 le), (a 45, aS ta 32 gch), (a 47, aK ta 2 cn), (a 56, aS ta 16 gah), (a 29, aS ta 416 gou), (h0, oM a ar mn tp osz lsz ns ct), (a 39, aK ta 2 se), (a 40, aK ta 2 lv), (a 48, aT ta 2 ha)] := hD
  refine lv_if_eq (pc := 5) (tgt := 19) hx hb dX10_accept_5 (by decide) (fun c_1 => ?_) (fun c_1 => ?_)
  · skip
    rw [q_beq] at c_1
    try rw [Bool.not_eq_false] at c_1
    rw [hz_2, decide_eq_true (⟨hse, hl16, hha⟩ : (se 0 = 2 ∧ lv 0 &&& 16 ≠ 0 ∧ ha 0 = true))] at c_1; cases c_1
  · skip
    rw [q_beq] at c_1
    try rw [Bool.not_eq_false] at c_1
    refine lv_iload_n (pc := 8) hx hb dX10_accept_8 rfl (lv_at hl 1 rfl) ?_
    refine lv_if_lt (pc := 9) (tgt := 19) hx hb dX10_accept_9 (by decide) (fun c_2 => ?_) (fun _ => ?_)
    · skip
      rw [q_lt0 (by omega)] at c_2
      exact c_2.elim
    refine lv_iload_n (pc := 12) hx hb dX10_accept_12 rfl (lv_at hl 1 rfl) ?_
    refine lv_ldcw (pc := 13) (v := (nI 65535)) hx hb hown (q_at (hts _ tw_1430) (by decide +kernel)) dX10_accept_13 ?_
    refine lv_icmp_le (pc := 16) (tgt := 21) hx hb dX10_accept_16 (by decide) (fun c_3 => ?_) (fun c_3 => ?_)
    · skip
      rw [nI_leI (by omega) (by omega)] at c_3
      refine lv_aload_n (pc := 21) hx hb dX10_accept_21 rfl (lv_at hl 0 rfl) ?_
      refine va_get (pc := 22) (D := D) (ci := 8) (v := .int (nI lsz)) (C := RX10) (T := TX10) (N := 57) hx hb hts iu10 hown hK hP 19 rfl rfl 32 (by decide) (hts _ tw_1077) (fun _ h9 => h9) rfl dX10_accept_22 ?_
      by_cases h8 : 8 ≤ lsz
      · skip
        refine lv_bipush (pc := 25) (v := nI 8) hx hb dX10_accept_25 (by decide +kernel) ?_
        refine lv_isub (pc := 27) hx hb dX10_accept_27 ?_
        refine q_top (y := nI (lsz - 8)) (pk_sub (a := lsz) (b := 8) (by omega)) ?_
        refine lv_istore_n (pc := 28) (lv' := [(2, .int (nI (lsz - 8))), (0, .ref h0), (1, .int (nI sw9))]) hx hb dX10_accept_28 rfl hl (by decide) rfl (fun ls hl => ?_)
        refine lv_aload_n (pc := 29) hx hb dX10_accept_29 rfl (lv_at hl 1 rfl) ?_
        refine lv_iconst (pc := 30) (v := nI 0) hx hb dX10_accept_30 (by decide +kernel) ?_
        refine va_put (pc := 31) (D := D) (ci := 8) (v := .int (nI 0)) (ty := .int) (C := RX10) (T := TX10) (N := 57) hx hb hts iu10 tyX10 tyX10_ok nmX10 hown hK hP hD hS 19 rfl rfl 32 (by decide) (hts _ tw_1077) (fun _ h9 => h9) rfl (by decide +kernel) rfl rfl (Nat.le_of_ble_eq_true rfl) dX10_accept_31 (fun H locs hP hD hS => ?_)
        have hP : va_P D vwCl [(a 8, aZ ta 256 BOX), (a 9, aZ ta 256 UBOX), (a 16, aS ta 240 rk), (a 18, aS ta 16 ce), (a 22, aS ta 700 gm), (a 24, aS ta 16 mac), (a 25, aS ta 16 k1), (a 53, aS ta 16 gbl), (a 55, aS ta 16 gco), (a 41, aS ta 256 gke), (a 36, aK ta 2 ru), (a 50, aK ta 2 cs), (a 31, aS ta 300 gli), (a 54, aS ta 300 gwk), (a 37, aK ta 2 le), (a 45, aS ta 32 gch), (a 47, aK ta 2 cn), (a 56, aS ta 16 gah), (a 29, aS ta 416 gou), (h0, oM a ar mn tp osz 0 ns ct), (a 39, aK ta 2 se), (a 40, aK ta 2 lv), (a 48, aT ta 2 ha)] H := hP
        have hD : va_D A [(a 8, aZ ta 256 BOX), (a 9, aZ ta 256 UBOX), (a 16, aS ta 240 rk), (a 18, aS ta 16 ce), (a 22, aS ta 700 gm), (a 24, aS ta 16 mac), (a 25, aS ta 16 k1), (a 53, aS ta 16 gbl), (a 55, aS ta 16 gco), (a 41, aS ta 256 gke), (a 36, aK ta 2 ru), (a 50, aK ta 2 cs), (a 31, aS ta 300 gli), (a 54, aS ta 300 gwk), (a 37, aK ta 2 le), (a 45, aS ta 32 gch), (a 47, aK ta 2 cn), (a 56, aS ta 16 gah), (a 29, aS ta 416 gou), (h0, oM a ar mn tp osz 0 ns ct), (a 39, aK ta 2 se), (a 40, aK ta 2 lv), (a 48, aT ta 2 ha)] := hD
        refine lv_iload_n (pc := 34) hx hb dX10_accept_34 rfl (lv_at hl 0 rfl) ?_
        refine lv_if_ge (pc := 35) (tgt := 40) hx hb dX10_accept_35 (by decide) (fun _ => ?_) (fun c_4 => ?_)
        rotate_left
        · skip
          rw [q_ge0 (by omega)] at c_4
          exact absurd trivial c_4
        have hlm2 : lv 0 &&& 32 ≤ 32 := Nat.and_le_right
        have hmid : ((qL gli lsz).take ((qL gli lsz).length - 8)) = qL gli (lsz - 8) := by rw [qL_len, qL_take (by omega)]
        have JN71 : ∀ (hd9 : Nat), ((hd9 = 1 ∧ 0 < lv 0 &&& 32 ∧ 0 < lsz - 8) ∨ (hd9 = 0 ∧ ¬ (0 < lv 0 &&& 32 ∧ 0 < lsz - 8))) → ∀ (H : Heap) (locs : List Loc), va_P D vwCl [(a 8, aZ ta 256 BOX), (a 9, aZ ta 256 UBOX), (a 16, aS ta 240 rk), (a 18, aS ta 16 ce), (a 22, aS ta 700 gm), (a 24, aS ta 16 mac), (a 25, aS ta 16 k1), (a 53, aS ta 16 gbl), (a 55, aS ta 16 gco), (a 41, aS ta 256 gke), (a 36, aK ta 2 ru), (a 50, aK ta 2 cs), (a 31, aS ta 300 gli), (a 54, aS ta 300 gwk), (a 37, aK ta 2 le), (a 45, aS ta 32 gch), (a 47, aK ta 2 cn), (a 56, aS ta 16 gah), (a 29, aS ta 416 gou), (h0, oM a ar mn tp osz 0 ns ct), (a 39, aK ta 2 se), (a 40, aK ta 2 lv), (a 48, aT ta 2 ha)] H → va_D A [(a 8, aZ ta 256 BOX), (a 9, aZ ta 256 UBOX), (a 16, aS ta 240 rk), (a 18, aS ta 16 ce), (a 22, aS ta 700 gm), (a 24, aS ta 16 mac), (a 25, aS ta 16 k1), (a 53, aS ta 16 gbl), (a 55, aS ta 16 gco), (a 41, aS ta 256 gke), (a 36, aK ta 2 ru), (a 50, aK ta 2 cs), (a 31, aS ta 300 gli), (a 54, aS ta 300 gwk), (a 37, aK ta 2 le), (a 45, aS ta 32 gch), (a 47, aK ta 2 cn), (a 56, aS ta 16 gah), (a 29, aS ta 416 gou), (h0, oM a ar mn tp osz 0 ns ct), (a 39, aK ta 2 se), (a 40, aK ta 2 lv), (a 48, aT ta 2 ha)] → va_S A ss.heap H locs → ∀ ls : Array Slot, lv_has ls 6 [(2, .int (nI (lsz - 8))), (0, .ref h0), (1, .int (nI sw9))] → W pp ll ee ({ frames := 6, cells := 0, slots := 0, locals := 151 } : Room) ss mm (([.ref h0, .int (nI sw9)] : List Value).toArray) below meth kc H locs 0 0 Q (F0 mm 71 ls [.int (nI hd9)]) := by
          intro hd9 hhd H locs hP hD hS ls hl
          refine lv_istore_n (pc := 71) (lv' := [(3, .int (nI hd9)), (2, .int (nI (lsz - 8))), (0, .ref h0), (1, .int (nI sw9))]) hx hb dX10_accept_71 rfl hl (by decide) rfl (fun ls hl => ?_)
          refine lv_aload_n (pc := 72) hx hb dX10_accept_72 rfl (lv_at hl 2 rfl) ?_
          refine lv_iconst (pc := 73) (v := nI 0) hx hb dX10_accept_73 (by decide +kernel) ?_
          refine lv_aload_n (pc := 74) hx hb dX10_accept_74 rfl (lv_at hl 2 rfl) ?_
          refine va_get (pc := 75) (D := D) (ci := 8) (v := .ref (a 31)) (C := RX10) (T := TX10) (N := 57) hx hb hts iu10 hown hK hP 19 rfl rfl 31 (by decide) (hts _ tw_1076) (fun _ h9 => h9) rfl dX10_accept_75 ?_
          refine lv_iload_n (pc := 78) hx hb dX10_accept_78 rfl (lv_at hl 1 rfl) ?_
          refine lv_iload_n (pc := 79) hx hb dX10_accept_79 rfl (lv_at hl 3 rfl) ?_
          refine cs_V (pc := 80) (idx := 402) (n := 4) (wr := [(a 53, aS ta 16 gbl), (a 54, aS ta 300 gwk), (a 47, aK ta 2 cn), (a 56, aS ta 16 gah), (a 29, aS ta 416 gou), (a 39, aK ta 2 se), (a 40, aK ta 2 lv), (a 48, aT ta 2 ha)]) (As := [.int (nI 0), .ref (a 31), .int (nI (lsz - 8)), .int (nI sw9)]) (rest := []) (ci := 8) hx hb hml hown hts hGok hK hA hG hl.1 hP hD hS (ct_X10_answerMac_3 ll D ta hGok h0 a ar mn tp osz 0 ns ct rk ce gm mac k1 gco gke gch ru le cs 0 (a 31) 300 gli (lsz - 8) sw9 (by first | assumption | omega | rfl | decide) (by first | assumption | omega | rfl | decide) (by first | assumption | omega | rfl | decide) (by first | assumption | omega | rfl | decide) (by first | assumption | omega | rfl | decide) (by first | assumption | omega | rfl | decide) H.size) tw_1434 tw_1431 tw_1433 tw_62 tw_75 hdX10_answerMac rfl ⟨rfl, rfl, Nat.le_of_ble_eq_true rfl, Nat.le_of_ble_eq_true rfl, Nat.le_of_ble_eq_true rfl, Nat.le_of_ble_eq_true rfl⟩ rfl rfl (q0 := 19) rfl [19, 0, 1, 2, 3, 4, 5, 6, 8, 9, 10, 11, 14, 15, 12] [7, 13, 16, 17, 18, 20, 21, 22] rfl rfl (by decide) rfl (Nat.le_of_ble_eq_true rfl) dX10_accept_80 (fun u H locs hq hP hD hS => ?_)
          obtain ⟨rk1_80, ce1_80, gm1_80, mac1_80, k11_80, gco1_80, mn1_80, ar1_80⟩ := u
          have hq : (seg gco1_80 0 8 = (ansCode3 (seg gke (128 * 0 + 64) (le 0)) (seg gch (16 * 0) 16) (qL gli (lsz - 8)) sw9).take 8) := hq
          have hs_80 := hq
          refine W.eq (g2 := F0 mm 83 ls []) rfl ?_
          have hP : va_P D vwCl [(a 53, aS ta 16 gbl), (a 54, aS ta 300 gwk), (a 47, aK ta 2 cn), (a 56, aS ta 16 gah), (a 29, aS ta 416 gou), (a 39, aK ta 2 se), (a 40, aK ta 2 lv), (a 48, aT ta 2 ha), (h0, oM a ar1_80 mn1_80 tp osz 0 ns ct), (a 8, aZ ta 256 BOX), (a 9, aZ ta 256 UBOX), (a 16, aS ta 240 rk1_80), (a 18, aS ta 16 ce1_80), (a 22, aS ta 700 gm1_80), (a 24, aS ta 16 mac1_80), (a 25, aS ta 16 k11_80), (a 55, aS ta 16 gco1_80), (a 41, aS ta 256 gke), (a 36, aK ta 2 ru), (a 50, aK ta 2 cs), (a 37, aK ta 2 le), (a 45, aS ta 32 gch), (a 31, aS ta 300 gli)] H := hP
          have hD : va_D A [(a 53, aS ta 16 gbl), (a 54, aS ta 300 gwk), (a 47, aK ta 2 cn), (a 56, aS ta 16 gah), (a 29, aS ta 416 gou), (a 39, aK ta 2 se), (a 40, aK ta 2 lv), (a 48, aT ta 2 ha), (h0, oM a ar1_80 mn1_80 tp osz 0 ns ct), (a 8, aZ ta 256 BOX), (a 9, aZ ta 256 UBOX), (a 16, aS ta 240 rk1_80), (a 18, aS ta 16 ce1_80), (a 22, aS ta 700 gm1_80), (a 24, aS ta 16 mac1_80), (a 25, aS ta 16 k11_80), (a 55, aS ta 16 gco1_80), (a 41, aS ta 256 gke), (a 36, aK ta 2 ru), (a 50, aK ta 2 cs), (a 37, aK ta 2 le), (a 45, aS ta 32 gch), (a 31, aS ta 300 gli)] := hD
          refine lv_aload_n (pc := 83) hx hb dX10_accept_83 rfl (lv_at hl 2 rfl) ?_
          refine lv_iload_n (pc := 84) hx hb dX10_accept_84 rfl (lv_at hl 1 rfl) ?_
          refine cs_V (pc := 85) (idx := 385) (n := 1) (wr := [(a 53, aS ta 16 gbl), (a 54, aS ta 300 gwk), (a 47, aK ta 2 cn), (a 56, aS ta 16 gah), (a 29, aS ta 416 gou), (a 39, aK ta 2 se), (a 40, aK ta 2 lv), (a 48, aT ta 2 ha), (a 8, aZ ta 256 BOX), (a 9, aZ ta 256 UBOX), (a 16, aS ta 240 rk1_80), (a 18, aS ta 16 ce1_80), (a 22, aS ta 700 gm1_80), (a 24, aS ta 16 mac1_80), (a 25, aS ta 16 k11_80), (a 41, aS ta 256 gke), (a 36, aK ta 2 ru), (a 50, aK ta 2 cs), (a 37, aK ta 2 le), (a 45, aS ta 32 gch)]) (As := [.int (nI (lsz - 8))]) (rest := []) (ci := 8) hx hb hml hown hts hGok hK hA hG hl.1 hP hD hS (ct_X10_isCode ll D ta hGok h0 a ar1_80 mn1_80 tp osz 0 ns ct gli gco1_80 (lsz - 8) (by first | assumption | omega | rfl | decide) H.size) tw_1412 tw_1409 tw_1411 tw_58 tw_75 hdX10_isCode rfl ⟨rfl, rfl, Nat.le_of_ble_eq_true rfl, Nat.le_of_ble_eq_true rfl, Nat.le_of_ble_eq_true rfl, Nat.le_of_ble_eq_true rfl⟩ rfl rfl (q0 := 8) rfl [8, 22, 16] [0, 1, 2, 3, 4, 5, 6, 7, 9, 10, 11, 12, 13, 14, 15, 17, 18, 19, 20, 21] rfl rfl (by decide) rfl (Nat.le_of_ble_eq_true rfl) dX10_accept_85 (fun u H locs hq hP hD hS => ?_)
          generalize u = z_85 at hq hP hD ⊢
          have hq : (z_85 = decide (seg gli (lsz - 8) 8 = seg gco1_80 0 8)) := hq
          have hz_85 := hq
          refine W.eq (g2 := F0 mm 88 ls [.int (qb z_85)]) rfl ?_
          have hP : va_P D vwCl [(a 53, aS ta 16 gbl), (a 54, aS ta 300 gwk), (a 47, aK ta 2 cn), (a 56, aS ta 16 gah), (a 29, aS ta 416 gou), (a 39, aK ta 2 se), (a 40, aK ta 2 lv), (a 48, aT ta 2 ha), (a 8, aZ ta 256 BOX), (a 9, aZ ta 256 UBOX), (a 16, aS ta 240 rk1_80), (a 18, aS ta 16 ce1_80), (a 22, aS ta 700 gm1_80), (a 24, aS ta 16 mac1_80), (a 25, aS ta 16 k11_80), (a 41, aS ta 256 gke), (a 36, aK ta 2 ru), (a 50, aK ta 2 cs), (a 37, aK ta 2 le), (a 45, aS ta 32 gch), (h0, oM a ar1_80 mn1_80 tp osz 0 ns ct), (a 31, aS ta 300 gli), (a 55, aS ta 16 gco1_80)] H := hP
          have hD : va_D A [(a 53, aS ta 16 gbl), (a 54, aS ta 300 gwk), (a 47, aK ta 2 cn), (a 56, aS ta 16 gah), (a 29, aS ta 416 gou), (a 39, aK ta 2 se), (a 40, aK ta 2 lv), (a 48, aT ta 2 ha), (a 8, aZ ta 256 BOX), (a 9, aZ ta 256 UBOX), (a 16, aS ta 240 rk1_80), (a 18, aS ta 16 ce1_80), (a 22, aS ta 700 gm1_80), (a 24, aS ta 16 mac1_80), (a 25, aS ta 16 k11_80), (a 41, aS ta 256 gke), (a 36, aK ta 2 ru), (a 50, aK ta 2 cs), (a 37, aK ta 2 le), (a 45, aS ta 32 gch), (h0, oM a ar1_80 mn1_80 tp osz 0 ns ct), (a 31, aS ta 300 gli), (a 55, aS ta 16 gco1_80)] := hD
          refine lv_if_ne (pc := 88) (tgt := 93) hx hb dX10_accept_88 (by decide) (fun c_5 => ?_) (fun c_5 => ?_)
          · skip
            rw [q_beq] at c_5
            try rw [Bool.not_eq_false] at c_5
            have hze := c_5
            refine lv_iconst (pc := 93) (v := nI 0) hx hb dX10_accept_93 (by decide +kernel) ?_
            refine lv_istore (pc := 94) (lv' := [(4, .int (nI 0)), (3, .int (nI hd9)), (2, .int (nI (lsz - 8))), (0, .ref h0), (1, .int (nI sw9))]) hx hb dX10_accept_94 hl (by decide) rfl (fun ls hl => ?_)
            have LP96 : ∀ (nn96 : Nat) (k1x : Nat) (k' : Nat → BitVec 8), (k1x ≤ lsz - 8) → (qSeg k' gwk 0 k1x gli) → (lsz - 8 - k1x < nn96) → ∀ (H : Heap) (locs : List Loc), va_P D vwCl [(a 53, aS ta 16 gbl), (a 54, aS ta 300 k'), (a 47, aK ta 2 cn), (a 56, aS ta 16 gah), (a 29, aS ta 416 gou), (a 39, aK ta 2 se), (a 40, aK ta 2 lv), (a 48, aT ta 2 ha), (a 8, aZ ta 256 BOX), (a 9, aZ ta 256 UBOX), (a 16, aS ta 240 rk1_80), (a 18, aS ta 16 ce1_80), (a 22, aS ta 700 gm1_80), (a 24, aS ta 16 mac1_80), (a 25, aS ta 16 k11_80), (a 41, aS ta 256 gke), (a 36, aK ta 2 ru), (a 50, aK ta 2 cs), (a 37, aK ta 2 le), (a 45, aS ta 32 gch), (h0, oM a ar1_80 mn1_80 tp osz 0 ns ct), (a 31, aS ta 300 gli), (a 55, aS ta 16 gco1_80)] H → va_D A [(a 53, aS ta 16 gbl), (a 54, aS ta 300 k'), (a 47, aK ta 2 cn), (a 56, aS ta 16 gah), (a 29, aS ta 416 gou), (a 39, aK ta 2 se), (a 40, aK ta 2 lv), (a 48, aT ta 2 ha), (a 8, aZ ta 256 BOX), (a 9, aZ ta 256 UBOX), (a 16, aS ta 240 rk1_80), (a 18, aS ta 16 ce1_80), (a 22, aS ta 700 gm1_80), (a 24, aS ta 16 mac1_80), (a 25, aS ta 16 k11_80), (a 41, aS ta 256 gke), (a 36, aK ta 2 ru), (a 50, aK ta 2 cs), (a 37, aK ta 2 le), (a 45, aS ta 32 gch), (h0, oM a ar1_80 mn1_80 tp osz 0 ns ct), (a 31, aS ta 300 gli), (a 55, aS ta 16 gco1_80)] → va_S A ss.heap H locs → ∀ ls : Array Slot, lv_has ls 6 [(4, .int (nI k1x)), (3, .int (nI hd9)), (2, .int (nI (lsz - 8))), (0, .ref h0), (1, .int (nI sw9))] → W pp ll ee ({ frames := 6, cells := 0, slots := 0, locals := 151 } : Room) ss mm (([.ref h0, .int (nI sw9)] : List Value).toArray) below meth kc H locs 0 0 Q (F0 mm 96 ls []) := by
              intro nn96
              induction nn96 with
              | zero => intro k1x k' hkk1 hs1 hmu; exact absurd hmu (Nat.not_lt_zero _)
              | succ nn96 ih96 =>
                intro k1x k' hkk1 hs1 hmu96 H locs hP hD hS ls hl
                refine lv_iload (pc := 96) hx hb dX10_accept_96 (lv_at hl 0 rfl) ?_
                refine lv_iload_n (pc := 98) hx hb dX10_accept_98 rfl (lv_at hl 2 rfl) ?_
                refine lv_icmp_ge (pc := 99) (tgt := 122) hx hb dX10_accept_99 (by decide) (fun c_6 => ?_) (fun c_6 => ?_)
                · skip
                  rw [nI_leI (by omega) (by omega)] at c_6
                  refine lv_iload_n (pc := 122) hx hb dX10_accept_122 rfl (lv_at hl 2 rfl) ?_
                  refine lv_istore (pc := 123) (lv' := [(4, .int (nI (lsz - 8))), (3, .int (nI hd9)), (2, .int (nI (lsz - 8))), (0, .ref h0), (1, .int (nI sw9))]) hx hb dX10_accept_123 hl (by decide) rfl (fun ls hl => ?_)
                  have hwk : qL k' (lsz - 8) = qL gli (lsz - 8) := by rw [← seg_0, seg_copy0 hs1 (by omega)]
                  have JN138 : ∀ (x9 : Int32) (y9 : Bool) (m9 : Nat) (w9 : Nat → BitVec 8) (a9 : Nat → BitVec 8) (rk9 : Nat → BitVec 8) (ce9 : Nat → BitVec 8) (ar9 : Nat) (b9 : Nat → BitVec 8), (x9 = if y9 then nI m9 else -1) → ((if hidB (lv 0) 32 ((qL gli lsz).take ((qL gli lsz).length - 8)) then show3 (seg gke 0 (le 0)) (cn 0) 0x80#8 ((qL gli lsz).take ((qL gli lsz).length - 8)) else some ((qL gli lsz).take ((qL gli lsz).length - 8))) = if y9 then some (qL w9 m9) else none) → (m9 ≤ 292) → (hd9 = 0 → ∀ j, j < m9 → gli j = w9 j) → ∀ (H : Heap) (locs : List Loc), va_P D vwCl [(a 53, aS ta 16 b9), (a 54, aS ta 300 w9), (a 47, aK ta 2 cn), (a 56, aS ta 16 a9), (a 29, aS ta 416 gou), (a 39, aK ta 2 se), (a 40, aK ta 2 lv), (a 48, aT ta 2 ha), (a 8, aZ ta 256 BOX), (a 9, aZ ta 256 UBOX), (a 16, aS ta 240 rk9), (a 18, aS ta 16 ce9), (a 22, aS ta 700 gm1_80), (a 24, aS ta 16 mac1_80), (a 25, aS ta 16 k11_80), (a 41, aS ta 256 gke), (a 36, aK ta 2 ru), (a 50, aK ta 2 cs), (a 37, aK ta 2 le), (a 45, aS ta 32 gch), (h0, oM a ar9 mn1_80 tp osz 0 ns ct), (a 31, aS ta 300 gli), (a 55, aS ta 16 gco1_80)] H → va_D A [(a 53, aS ta 16 b9), (a 54, aS ta 300 w9), (a 47, aK ta 2 cn), (a 56, aS ta 16 a9), (a 29, aS ta 416 gou), (a 39, aK ta 2 se), (a 40, aK ta 2 lv), (a 48, aT ta 2 ha), (a 8, aZ ta 256 BOX), (a 9, aZ ta 256 UBOX), (a 16, aS ta 240 rk9), (a 18, aS ta 16 ce9), (a 22, aS ta 700 gm1_80), (a 24, aS ta 16 mac1_80), (a 25, aS ta 16 k11_80), (a 41, aS ta 256 gke), (a 36, aK ta 2 ru), (a 50, aK ta 2 cs), (a 37, aK ta 2 le), (a 45, aS ta 32 gch), (h0, oM a ar9 mn1_80 tp osz 0 ns ct), (a 31, aS ta 300 gli), (a 55, aS ta 16 gco1_80)] → va_S A ss.heap H locs → ∀ ls : Array Slot, lv_has ls 6 [(4, .int x9), (3, .int (nI hd9)), (2, .int (nI (lsz - 8))), (0, .ref h0), (1, .int (nI sw9))] → W pp ll ee ({ frames := 6, cells := 0, slots := 0, locals := 151 } : Room) ss mm (([.ref h0, .int (nI sw9)] : List Value).toArray) below meth kc H locs 0 0 Q (F0 mm 138 ls []) := by
                    intro x9 y9 m9 w9 a9 rk9 ce9 ar9 b9 hx9e hD9 hm9 hlw H locs hP hD hS ls hl
                    refine lv_iload (pc := 138) hx hb dX10_accept_138 (lv_at hl 0 rfl) ?_
                    by_cases hy9 : y9 = true
                    · skip
                      subst hy9
                      have hx8 : x9 = nI m9 := hx9e
                      subst hx8
                      have hD8 : (if hidB (lv 0) 32 ((qL gli lsz).take ((qL gli lsz).length - 8)) then show3 (seg gke 0 (le 0)) (cn 0) 0x80#8 ((qL gli lsz).take ((qL gli lsz).length - 8)) else some ((qL gli lsz).take ((qL gli lsz).length - 8))) = some (qL w9 m9) := hD9
                      refine lv_iconst (pc := 140) (v := (-1)) hx hb dX10_accept_140 (by decide +kernel) ?_
                      refine lv_icmp_ne (pc := 141) (tgt := 146) hx hb dX10_accept_141 (by decide) (fun c_7 => ?_) (fun c_7 => ?_)
                      · skip
                        refine lv_aload_n (pc := 146) hx hb dX10_accept_146 rfl (lv_at hl 3 rfl) ?_
                        refine va_get (pc := 147) (D := D) (ci := 8) (v := .ref (a 36)) (C := RX10) (T := TX10) (N := 57) hx hb hts iu10 hown hK hP 20 rfl rfl 36 (by decide) (hts _ tw_1081) (fun _ h9 => h9) rfl dX10_accept_147 ?_
                        refine lv_iconst (pc := 150) (v := nI 0) hx hb dX10_accept_150 (by decide +kernel) ?_
                        refine q_iald (pc := 151) hx hb hK hP 16 0 rfl rfl (k := 0) (v := nI (ru 0)) rfl (by omega) (by omega) rfl dX10_accept_151 ?_
                        refine lv_iconst (pc := 152) (v := nI 2) hx hb dX10_accept_152 (by decide +kernel) ?_
                        refine lv_icmp_ne (pc := 153) (tgt := 186) hx hb dX10_accept_153 (by decide) (fun c_8 => ?_) (fun c_8 => ?_)
                        · skip
                          rw [nI_eq (by omega) (by omega)] at c_8
                          refine lv_iconst (pc := 186) (v := nI 0) hx hb dX10_accept_186 (by decide +kernel) ?_
                          refine lv_istore (pc := 187) (lv' := [(5, .int (nI 0)), (4, .int (nI m9)), (3, .int (nI hd9)), (2, .int (nI (lsz - 8))), (0, .ref h0), (1, .int (nI sw9))]) hx hb dX10_accept_187 hl (by decide) rfl (fun ls hl => ?_)
                          have LP189 : ∀ (nn189 : Nat) (k3x : Nat) (q' : Nat → BitVec 8), (k3x ≤ m9) → (qSeg q' gou 0 k3x w9) → (m9 - k3x < nn189) → ∀ (H : Heap) (locs : List Loc), va_P D vwCl [(a 53, aS ta 16 b9), (a 54, aS ta 300 w9), (a 47, aK ta 2 cn), (a 56, aS ta 16 a9), (a 29, aS ta 416 q'), (a 39, aK ta 2 se), (a 40, aK ta 2 lv), (a 48, aT ta 2 ha), (a 8, aZ ta 256 BOX), (a 9, aZ ta 256 UBOX), (a 16, aS ta 240 rk9), (a 18, aS ta 16 ce9), (a 22, aS ta 700 gm1_80), (a 24, aS ta 16 mac1_80), (a 25, aS ta 16 k11_80), (a 41, aS ta 256 gke), (a 36, aK ta 2 ru), (a 50, aK ta 2 cs), (a 37, aK ta 2 le), (a 45, aS ta 32 gch), (h0, oM a ar9 mn1_80 tp osz 0 ns ct), (a 31, aS ta 300 gli), (a 55, aS ta 16 gco1_80)] H → va_D A [(a 53, aS ta 16 b9), (a 54, aS ta 300 w9), (a 47, aK ta 2 cn), (a 56, aS ta 16 a9), (a 29, aS ta 416 q'), (a 39, aK ta 2 se), (a 40, aK ta 2 lv), (a 48, aT ta 2 ha), (a 8, aZ ta 256 BOX), (a 9, aZ ta 256 UBOX), (a 16, aS ta 240 rk9), (a 18, aS ta 16 ce9), (a 22, aS ta 700 gm1_80), (a 24, aS ta 16 mac1_80), (a 25, aS ta 16 k11_80), (a 41, aS ta 256 gke), (a 36, aK ta 2 ru), (a 50, aK ta 2 cs), (a 37, aK ta 2 le), (a 45, aS ta 32 gch), (h0, oM a ar9 mn1_80 tp osz 0 ns ct), (a 31, aS ta 300 gli), (a 55, aS ta 16 gco1_80)] → va_S A ss.heap H locs → ∀ ls : Array Slot, lv_has ls 6 [(5, .int (nI k3x)), (4, .int (nI m9)), (3, .int (nI hd9)), (2, .int (nI (lsz - 8))), (0, .ref h0), (1, .int (nI sw9))] → W pp ll ee ({ frames := 6, cells := 0, slots := 0, locals := 151 } : Room) ss mm (([.ref h0, .int (nI sw9)] : List Value).toArray) below meth kc H locs 0 0 Q (F0 mm 189 ls []) := by
                            intro nn189
                            induction nn189 with
                            | zero => intro k3x q' hk3 hs3 hmu; exact absurd hmu (Nat.not_lt_zero _)
                            | succ nn189 ih189 =>
                              intro k3x q' hk3 hs3 hmu189 H locs hP hD hS ls hl
                              refine lv_iload (pc := 189) hx hb dX10_accept_189 (lv_at hl 0 rfl) ?_
                              refine lv_iload (pc := 191) hx hb dX10_accept_191 (lv_at hl 1 rfl) ?_
                              refine lv_icmp_ge (pc := 193) (tgt := 230) hx hb dX10_accept_193 (by decide) (fun c_9 => ?_) (fun c_9 => ?_)
                              · skip
                                rw [nI_leI (by omega) (by omega)] at c_9
                                refine lv_aload_n (pc := 230) hx hb dX10_accept_230 rfl (lv_at hl 4 rfl) ?_
                                refine lv_iload (pc := 231) hx hb dX10_accept_231 (lv_at hl 1 rfl) ?_
                                refine va_put (pc := 233) (D := D) (ci := 8) (v := .int (nI m9)) (ty := .int) (C := RX10) (T := TX10) (N := 57) hx hb hts iu10 tyX10 tyX10_ok nmX10 hown hK hP hD hS 20 rfl rfl 30 (by decide) (hts _ tw_1075) (fun _ h9 => h9) rfl (by decide +kernel) rfl rfl (Nat.le_of_ble_eq_true rfl) dX10_accept_233 (fun H locs hP hD hS => ?_)
                                have hP : va_P D vwCl [(a 53, aS ta 16 b9), (a 54, aS ta 300 w9), (a 47, aK ta 2 cn), (a 56, aS ta 16 a9), (a 29, aS ta 416 q'), (a 39, aK ta 2 se), (a 40, aK ta 2 lv), (a 48, aT ta 2 ha), (a 8, aZ ta 256 BOX), (a 9, aZ ta 256 UBOX), (a 16, aS ta 240 rk9), (a 18, aS ta 16 ce9), (a 22, aS ta 700 gm1_80), (a 24, aS ta 16 mac1_80), (a 25, aS ta 16 k11_80), (a 41, aS ta 256 gke), (a 36, aK ta 2 ru), (a 50, aK ta 2 cs), (a 37, aK ta 2 le), (a 45, aS ta 32 gch), (h0, oM a ar9 mn1_80 tp m9 0 ns ct), (a 31, aS ta 300 gli), (a 55, aS ta 16 gco1_80)] H := hP
                                have hD : va_D A [(a 53, aS ta 16 b9), (a 54, aS ta 300 w9), (a 47, aK ta 2 cn), (a 56, aS ta 16 a9), (a 29, aS ta 416 q'), (a 39, aK ta 2 se), (a 40, aK ta 2 lv), (a 48, aT ta 2 ha), (a 8, aZ ta 256 BOX), (a 9, aZ ta 256 UBOX), (a 16, aS ta 240 rk9), (a 18, aS ta 16 ce9), (a 22, aS ta 700 gm1_80), (a 24, aS ta 16 mac1_80), (a 25, aS ta 16 k11_80), (a 41, aS ta 256 gke), (a 36, aK ta 2 ru), (a 50, aK ta 2 cs), (a 37, aK ta 2 le), (a 45, aS ta 32 gch), (h0, oM a ar9 mn1_80 tp m9 0 ns ct), (a 31, aS ta 300 gli), (a 55, aS ta 16 gco1_80)] := hD
                                refine lv_iconst (pc := 236) (v := nI 1) hx hb dX10_accept_236 (by decide +kernel) ?_
                                refine q_top (y := qb true) (by first | rfl | decide +kernel | (simp; done)) ?_
                                have hq_10 : (openA3 (seg gke 0 (le 0)) (seg gke 64 (le 0)) (cn 0) (lv 0) (seg gch 0 16) (qL gli lsz) sw9 = if true then some (qL q' m9) else none) ∧ (true = false → q' = gou ∧ m9 = osz) ∧ (true = true → m9 ≤ 292) := by
                                  have hcd : (ansCode3 (seg gke 64 (le 0)) (seg gch 0 16) ((qL gli lsz).take ((qL gli lsz).length - 8)) sw9).take 8 = seg gco1_80 0 8 := by rw [hmid]; exact hs_80.symm
                                  have hop : openA3 (seg gke 0 (le 0)) (seg gke 64 (le 0)) (cn 0) (lv 0) (seg gch 0 16) (qL gli lsz) sw9 = (if hidB (lv 0) 32 ((qL gli lsz).take ((qL gli lsz).length - 8)) then show3 (seg gke 0 (le 0)) (cn 0) 0x80#8 ((qL gli lsz).take ((qL gli lsz).length - 8)) else some ((qL gli lsz).take ((qL gli lsz).length - 8))) := by rw [openA3, if_pos (by rw [qL_len]; omega), if_pos (by rw [end_seg (by omega), hcd]; exact of_decide_eq_true (hz_85.symm.trans hze))]
                                  exact ⟨by rw [hop, hD8, ← seg_0 (g := q'), seg_copy0 hs3 (by omega)]; rfl, fun q => (by cases q), fun _ => hm9⟩
                                exact hret (⟨(true), (rk9), (ce9), (gm1_80), (mac1_80), (k11_80), (b9), (gco1_80), (w9), (mn1_80), (ar9), (a9), (q'), (m9)⟩ : Bool × (Nat → BitVec 8) × (Nat → BitVec 8) × (Nat → BitVec 8) × (Nat → BitVec 8) × (Nat → BitVec 8) × (Nat → BitVec 8) × (Nat → BitVec 8) × (Nat → BitVec 8) × Nat × Nat × (Nat → BitVec 8) × (Nat → BitVec 8) × Nat) _ _ _ _ dX10_accept_237 hq_10 (hP.sub [20, 8, 9, 10, 11, 12, 13, 14, 0, 22, 15, 16, 17, 21, 1, 5, 6, 7, 18, 19, 2, 3, 4] rfl) (hD.sub [20, 8, 9, 10, 11, 12, 13, 14, 0, 22, 15, 16, 17, 21, 1, 5, 6, 7, 18, 19, 2, 3, 4] (by decide) rfl) hS
                              · skip
                                rw [nI_leI (by omega) (by omega)] at c_9
                                refine lv_aload_n (pc := 196) hx hb dX10_accept_196 rfl (lv_at hl 4 rfl) ?_
                                refine va_get (pc := 197) (D := D) (ci := 8) (v := .ref (a 29)) (C := RX10) (T := TX10) (N := 57) hx hb hts iu10 hown hK hP 20 rfl rfl 29 (by decide) (hts _ tw_1074) (fun _ h9 => h9) rfl dX10_accept_197 ?_
                                refine lv_iload (pc := 200) hx hb dX10_accept_200 (lv_at hl 0 rfl) ?_
                                refine lv_iload_n (pc := 202) hx hb dX10_accept_202 rfl (lv_at hl 2 rfl) ?_
                                refine lv_if_eq (pc := 203) (tgt := 216) hx hb dX10_accept_203 (by decide) (fun c_11 => ?_) (fun c_11 => ?_)
                                · skip
                                  rw [q_eq0 (by omega)] at c_11
                                  refine lv_aload_n (pc := 216) hx hb dX10_accept_216 rfl (lv_at hl 4 rfl) ?_
                                  refine va_get (pc := 217) (D := D) (ci := 8) (v := .ref (a 31)) (C := RX10) (T := TX10) (N := 57) hx hb hts iu10 hown hK hP 20 rfl rfl 31 (by decide) (hts _ tw_1076) (fun _ h9 => h9) rfl dX10_accept_217 ?_
                                  refine lv_iload (pc := 220) hx hb dX10_accept_220 (lv_at hl 0 rfl) ?_
                                  refine q_bald (pc := 222) hx hb hK hP 21 2 rfl rfl (k := k3x) (v := qs (gli k3x)) rfl (by omega) (by omega) rfl dX10_accept_222 ?_
                                  refine q_bastS (pc := 223) hx hb hK hP hD hS 4 2 rfl rfl (k := k3x) rfl (by omega) (by omega) (b := gli k3x) (qlo_qs _) dX10_accept_223 (fun H locs hP hD hS => ?_)
                                  have hP : va_P D vwCl [(a 53, aS ta 16 b9), (a 54, aS ta 300 w9), (a 47, aK ta 2 cn), (a 56, aS ta 16 a9), (a 29, aS ta 416 (qU q' k3x (gli k3x))), (a 39, aK ta 2 se), (a 40, aK ta 2 lv), (a 48, aT ta 2 ha), (a 8, aZ ta 256 BOX), (a 9, aZ ta 256 UBOX), (a 16, aS ta 240 rk9), (a 18, aS ta 16 ce9), (a 22, aS ta 700 gm1_80), (a 24, aS ta 16 mac1_80), (a 25, aS ta 16 k11_80), (a 41, aS ta 256 gke), (a 36, aK ta 2 ru), (a 50, aK ta 2 cs), (a 37, aK ta 2 le), (a 45, aS ta 32 gch), (h0, oM a ar9 mn1_80 tp osz 0 ns ct), (a 31, aS ta 300 gli), (a 55, aS ta 16 gco1_80)] H := hP
                                  have hD : va_D A [(a 53, aS ta 16 b9), (a 54, aS ta 300 w9), (a 47, aK ta 2 cn), (a 56, aS ta 16 a9), (a 29, aS ta 416 (qU q' k3x (gli k3x))), (a 39, aK ta 2 se), (a 40, aK ta 2 lv), (a 48, aT ta 2 ha), (a 8, aZ ta 256 BOX), (a 9, aZ ta 256 UBOX), (a 16, aS ta 240 rk9), (a 18, aS ta 16 ce9), (a 22, aS ta 700 gm1_80), (a 24, aS ta 16 mac1_80), (a 25, aS ta 16 k11_80), (a 41, aS ta 256 gke), (a 36, aK ta 2 ru), (a 50, aK ta 2 cs), (a 37, aK ta 2 le), (a 45, aS ta 32 gch), (h0, oM a ar9 mn1_80 tp osz 0 ns ct), (a 31, aS ta 300 gli), (a 55, aS ta 16 gco1_80)] := hD
                                  refine lv_iinc (pc := 224) (v := nI (k3x + 1)) (lv' := [(5, .int (nI (k3x + 1))), (4, .int (nI m9)), (3, .int (nI hd9)), (2, .int (nI (lsz - 8))), (0, .ref h0), (1, .int (nI sw9))]) hx hb dX10_accept_224 hl (k := 0) rfl (by first | exact nI_add k3x 1 | rfl) (by decide) rfl (fun ls hl => ?_)
                                  refine lv_goto (pc := 227) (tgt := 189) hx hb dX10_accept_227 (by decide) ?_
                                  exact ih189 (k3x + 1) (qU q' k3x (gli k3x)) (by omega) (qSeg_s hs3 (by omega) (by first | rfl | (rw [hlw (by omega) _ (by omega)]))) (by omega) _ _ (hP.sub [0, 1, 2, 3, 4, 5, 6, 7, 8, 9, 10, 11, 12, 13, 14, 15, 16, 17, 18, 19, 20, 21, 22] rfl) (hD.sub [0, 1, 2, 3, 4, 5, 6, 7, 8, 9, 10, 11, 12, 13, 14, 15, 16, 17, 18, 19, 20, 21, 22] (by decide) rfl) hS ls (lv_sub hl [0, 1, 2, 3, 4, 5] rfl)
                                · skip
                                  rw [q_eq0 (by omega)] at c_11
                                  refine lv_aload_n (pc := 206) hx hb dX10_accept_206 rfl (lv_at hl 4 rfl) ?_
                                  refine va_get (pc := 207) (D := D) (ci := 8) (v := .ref (a 54)) (C := RX10) (T := TX10) (N := 57) hx hb hts iu10 hown hK hP 20 rfl rfl 54 (by decide) (hts _ tw_1099) (fun _ h9 => h9) rfl dX10_accept_207 ?_
                                  refine lv_iload (pc := 210) hx hb dX10_accept_210 (lv_at hl 0 rfl) ?_
                                  refine q_bald (pc := 212) hx hb hK hP 1 2 rfl rfl (k := k3x) (v := qs (w9 k3x)) rfl (by omega) (by omega) rfl dX10_accept_212 ?_
                                  refine lv_goto (pc := 213) (tgt := 223) hx hb dX10_accept_213 (by decide) ?_
                                  refine q_bastS (pc := 223) hx hb hK hP hD hS 4 2 rfl rfl (k := k3x) rfl (by omega) (by omega) (b := w9 k3x) (qlo_qs _) dX10_accept_223 (fun H locs hP hD hS => ?_)
                                  have hP : va_P D vwCl [(a 53, aS ta 16 b9), (a 54, aS ta 300 w9), (a 47, aK ta 2 cn), (a 56, aS ta 16 a9), (a 29, aS ta 416 (qU q' k3x (w9 k3x))), (a 39, aK ta 2 se), (a 40, aK ta 2 lv), (a 48, aT ta 2 ha), (a 8, aZ ta 256 BOX), (a 9, aZ ta 256 UBOX), (a 16, aS ta 240 rk9), (a 18, aS ta 16 ce9), (a 22, aS ta 700 gm1_80), (a 24, aS ta 16 mac1_80), (a 25, aS ta 16 k11_80), (a 41, aS ta 256 gke), (a 36, aK ta 2 ru), (a 50, aK ta 2 cs), (a 37, aK ta 2 le), (a 45, aS ta 32 gch), (h0, oM a ar9 mn1_80 tp osz 0 ns ct), (a 31, aS ta 300 gli), (a 55, aS ta 16 gco1_80)] H := hP
                                  have hD : va_D A [(a 53, aS ta 16 b9), (a 54, aS ta 300 w9), (a 47, aK ta 2 cn), (a 56, aS ta 16 a9), (a 29, aS ta 416 (qU q' k3x (w9 k3x))), (a 39, aK ta 2 se), (a 40, aK ta 2 lv), (a 48, aT ta 2 ha), (a 8, aZ ta 256 BOX), (a 9, aZ ta 256 UBOX), (a 16, aS ta 240 rk9), (a 18, aS ta 16 ce9), (a 22, aS ta 700 gm1_80), (a 24, aS ta 16 mac1_80), (a 25, aS ta 16 k11_80), (a 41, aS ta 256 gke), (a 36, aK ta 2 ru), (a 50, aK ta 2 cs), (a 37, aK ta 2 le), (a 45, aS ta 32 gch), (h0, oM a ar9 mn1_80 tp osz 0 ns ct), (a 31, aS ta 300 gli), (a 55, aS ta 16 gco1_80)] := hD
                                  refine lv_iinc (pc := 224) (v := nI (k3x + 1)) (lv' := [(5, .int (nI (k3x + 1))), (4, .int (nI m9)), (3, .int (nI hd9)), (2, .int (nI (lsz - 8))), (0, .ref h0), (1, .int (nI sw9))]) hx hb dX10_accept_224 hl (k := 0) rfl (by first | exact nI_add k3x 1 | rfl) (by decide) rfl (fun ls hl => ?_)
                                  refine lv_goto (pc := 227) (tgt := 189) hx hb dX10_accept_227 (by decide) ?_
                                  exact ih189 (k3x + 1) (qU q' k3x (w9 k3x)) (by omega) (qSeg_s hs3 (by omega) (by first | rfl | (rw [hlw (by omega) _ (by omega)]))) (by omega) _ _ (hP.sub [0, 1, 2, 3, 4, 5, 6, 7, 8, 9, 10, 11, 12, 13, 14, 15, 16, 17, 18, 19, 20, 21, 22] rfl) (hD.sub [0, 1, 2, 3, 4, 5, 6, 7, 8, 9, 10, 11, 12, 13, 14, 15, 16, 17, 18, 19, 20, 21, 22] (by decide) rfl) hS ls (lv_sub hl [0, 1, 2, 3, 4, 5] rfl)
                          exact LP189 _ 0 gou (by omega) (qSeg_0) (Nat.lt_succ_self _) _ _ (hP.sub [0, 1, 2, 3, 4, 5, 6, 7, 8, 9, 10, 11, 12, 13, 14, 15, 16, 17, 18, 19, 20, 21, 22] rfl) (hD.sub [0, 1, 2, 3, 4, 5, 6, 7, 8, 9, 10, 11, 12, 13, 14, 15, 16, 17, 18, 19, 20, 21, 22] (by decide) rfl) hS ls (lv_sub hl [0, 1, 2, 3, 4, 5] rfl)
                        · skip
                          rw [nI_eq (by omega) (by omega)] at c_8
                          exfalso; omega
                      · skip
                        exact absurd c_7 (nI_nm1 (by omega))
                    · skip
                      have hy8 : y9 = false := by simpa using hy9
                      subst hy8
                      have hx8 : x9 = -1 := hx9e
                      subst hx8
                      have hD8 : (if hidB (lv 0) 32 ((qL gli lsz).take ((qL gli lsz).length - 8)) then show3 (seg gke 0 (le 0)) (cn 0) 0x80#8 ((qL gli lsz).take ((qL gli lsz).length - 8)) else some ((qL gli lsz).take ((qL gli lsz).length - 8))) = none := hD9
                      refine lv_iconst (pc := 140) (v := (-1)) hx hb dX10_accept_140 (by decide +kernel) ?_
                      refine lv_icmp_ne (pc := 141) (tgt := 146) hx hb dX10_accept_141 (by decide) (fun c_12 => ?_) (fun c_12 => ?_)
                      · skip
                        exact absurd rfl c_12
                      · skip
                        refine lv_iconst (pc := 144) (v := nI 0) hx hb dX10_accept_144 (by decide +kernel) ?_
                        refine q_top (y := qb false) (by first | rfl | decide +kernel | (simp; done)) ?_
                        have hq_13 : (openA3 (seg gke 0 (le 0)) (seg gke 64 (le 0)) (cn 0) (lv 0) (seg gch 0 16) (qL gli lsz) sw9 = if false then some (qL gou osz) else none) ∧ (false = false → gou = gou ∧ osz = osz) ∧ (false = true → osz ≤ 292) := by
                          have hcd : (ansCode3 (seg gke 64 (le 0)) (seg gch 0 16) ((qL gli lsz).take ((qL gli lsz).length - 8)) sw9).take 8 = seg gco1_80 0 8 := by rw [hmid]; exact hs_80.symm
                          have hop : openA3 (seg gke 0 (le 0)) (seg gke 64 (le 0)) (cn 0) (lv 0) (seg gch 0 16) (qL gli lsz) sw9 = (if hidB (lv 0) 32 ((qL gli lsz).take ((qL gli lsz).length - 8)) then show3 (seg gke 0 (le 0)) (cn 0) 0x80#8 ((qL gli lsz).take ((qL gli lsz).length - 8)) else some ((qL gli lsz).take ((qL gli lsz).length - 8))) := by rw [openA3, if_pos (by rw [qL_len]; omega), if_pos (by rw [end_seg (by omega), hcd]; exact of_decide_eq_true (hz_85.symm.trans hze))]
                          exact ⟨(hop.trans hD8), fun _ => ⟨rfl, rfl⟩, fun q => (by cases q)⟩
                        exact hret (⟨(false), (rk9), (ce9), (gm1_80), (mac1_80), (k11_80), (b9), (gco1_80), (w9), (mn1_80), (ar9), (a9), (gou), (osz)⟩ : Bool × (Nat → BitVec 8) × (Nat → BitVec 8) × (Nat → BitVec 8) × (Nat → BitVec 8) × (Nat → BitVec 8) × (Nat → BitVec 8) × (Nat → BitVec 8) × (Nat → BitVec 8) × Nat × Nat × (Nat → BitVec 8) × (Nat → BitVec 8) × Nat) _ _ _ _ dX10_accept_145 hq_13 (hP.sub [20, 8, 9, 10, 11, 12, 13, 14, 0, 22, 15, 16, 17, 21, 1, 5, 6, 7, 18, 19, 2, 3, 4] rfl) (hD.sub [20, 8, 9, 10, 11, 12, 13, 14, 0, 22, 15, 16, 17, 21, 1, 5, 6, 7, 18, 19, 2, 3, 4] (by decide) rfl) hS
                  refine lv_iload_n (pc := 125) hx hb dX10_accept_125 rfl (lv_at hl 1 rfl) ?_
                  refine lv_if_eq (pc := 126) (tgt := 138) hx hb dX10_accept_126 (by decide) (fun c_14 => ?_) (fun c_14 => ?_)
                  · skip
                    rw [q_eq0 (by omega)] at c_14
                    exact JN138 (nI (lsz - 8)) true (lsz - 8) k' gah rk1_80 ce1_80 ar1_80 gbl (rfl) (by rw [hidB_f (by rw [hmid, qL_len]; omega), hmid, ← hwk]; rfl) (by omega) (fun _ j hj => (qSeg_at hs1 (by omega)).symm) _ _ (hP.sub [0, 1, 2, 3, 4, 5, 6, 7, 8, 9, 10, 11, 12, 13, 14, 15, 16, 17, 18, 19, 20, 21, 22] rfl) (hD.sub [0, 1, 2, 3, 4, 5, 6, 7, 8, 9, 10, 11, 12, 13, 14, 15, 16, 17, 18, 19, 20, 21, 22] (by decide) rfl) hS ls (lv_sub hl [0, 1, 2, 3, 4] rfl)
                  · skip
                    rw [q_eq0 (by omega)] at c_14
                    refine lv_aload_n (pc := 129) hx hb dX10_accept_129 rfl (lv_at hl 3 rfl) ?_
                    refine lv_iconst (pc := 130) (v := nI 0) hx hb dX10_accept_130 (by decide +kernel) ?_
                    refine lv_iload_n (pc := 131) hx hb dX10_accept_131 rfl (lv_at hl 2 rfl) ?_
                    refine lv_iconst (pc := 132) (v := nI 1) hx hb dX10_accept_132 (by decide +kernel) ?_
                    refine cs_V (pc := 133) (idx := 388) (n := 3) (wr := [(a 29, aS ta 416 gou), (a 39, aK ta 2 se), (a 40, aK ta 2 lv), (a 48, aT ta 2 ha), (a 22, aS ta 700 gm1_80), (a 24, aS ta 16 mac1_80), (a 25, aS ta 16 k11_80), (a 50, aK ta 2 cs), (a 45, aS ta 32 gch), (a 31, aS ta 300 gli), (a 55, aS ta 16 gco1_80)]) (As := [.int (nI 0), .int (nI (lsz - 8)), .int (nI 1)]) (rest := []) (ci := 8) hx hb hml hown hts hGok hK hA hG hl.1 hP hD hS (ct_X10_plain_31 ll D ta hGok h0 a ar1_80 mn1_80 tp osz 0 ns ct rk1_80 ce1_80 gbl gke k' gah ru le cn 0 (lsz - 8) (by first | assumption | omega | rfl | decide) (by first | assumption | omega | rfl | decide) (by omega) (by first | assumption | omega | rfl | decide) (by first | assumption | omega | rfl | decide) H.size) tw_1421 tw_1418 tw_1420 tw_60 tw_75 hdX10_plain rfl ⟨rfl, rfl, Nat.le_of_ble_eq_true rfl, Nat.le_of_ble_eq_true rfl, Nat.le_of_ble_eq_true rfl, Nat.le_of_ble_eq_true rfl⟩ rfl rfl (q0 := 20) rfl [20, 8, 9, 10, 11, 0, 15, 16, 1, 3, 18, 2] [4, 5, 6, 7, 12, 13, 14, 17, 19, 21, 22] rfl rfl (by decide) rfl (Nat.le_of_ble_eq_true rfl) dX10_accept_133 (fun u H locs hq hP hD hS => ?_)
                    obtain ⟨r_133, z_133, rk1_133, ce1_133, gbl1_133, gwk1_133, gah1_133, n1_133, ar1_133⟩ := u
                    have hq : (show3 (seg gke (128 * 0) (le 0)) (cn 0) 0x80#8 (qL k' (lsz - 8)) = if z_133 then some (qL gwk1_133 n1_133) else none) ∧ ((r_133 : Int32) = if z_133 then nI n1_133 else -1) ∧ (n1_133 ≤ (lsz - 8)) := hq
                    obtain ⟨hz_133, hr_133, hn_133⟩ := hq
                    refine W.eq (g2 := F0 mm 136 ls [.int r_133]) rfl ?_
                    have hP : va_P D vwCl [(a 29, aS ta 416 gou), (a 39, aK ta 2 se), (a 40, aK ta 2 lv), (a 48, aT ta 2 ha), (a 22, aS ta 700 gm1_80), (a 24, aS ta 16 mac1_80), (a 25, aS ta 16 k11_80), (a 50, aK ta 2 cs), (a 45, aS ta 32 gch), (a 31, aS ta 300 gli), (a 55, aS ta 16 gco1_80), (h0, oM a ar1_133 mn1_80 tp osz 0 ns ct), (a 8, aZ ta 256 BOX), (a 9, aZ ta 256 UBOX), (a 16, aS ta 240 rk1_133), (a 18, aS ta 16 ce1_133), (a 53, aS ta 16 gbl1_133), (a 41, aS ta 256 gke), (a 36, aK ta 2 ru), (a 54, aS ta 300 gwk1_133), (a 56, aS ta 16 gah1_133), (a 37, aK ta 2 le), (a 47, aK ta 2 cn)] H := hP
                    have hD : va_D A [(a 29, aS ta 416 gou), (a 39, aK ta 2 se), (a 40, aK ta 2 lv), (a 48, aT ta 2 ha), (a 22, aS ta 700 gm1_80), (a 24, aS ta 16 mac1_80), (a 25, aS ta 16 k11_80), (a 50, aK ta 2 cs), (a 45, aS ta 32 gch), (a 31, aS ta 300 gli), (a 55, aS ta 16 gco1_80), (h0, oM a ar1_133 mn1_80 tp osz 0 ns ct), (a 8, aZ ta 256 BOX), (a 9, aZ ta 256 UBOX), (a 16, aS ta 240 rk1_133), (a 18, aS ta 16 ce1_133), (a 53, aS ta 16 gbl1_133), (a 41, aS ta 256 gke), (a 36, aK ta 2 ru), (a 54, aS ta 300 gwk1_133), (a 56, aS ta 16 gah1_133), (a 37, aK ta 2 le), (a 47, aK ta 2 cn)] := hD
                    refine lv_istore (pc := 136) (lv' := [(4, .int r_133), (3, .int (nI hd9)), (2, .int (nI (lsz - 8))), (0, .ref h0), (1, .int (nI sw9))]) hx hb dX10_accept_136 hl (by decide) rfl (fun ls hl => ?_)
                    exact JN138 r_133 z_133 n1_133 gwk1_133 gah1_133 rk1_133 ce1_133 ar1_133 gbl1_133 (hr_133) (by rw [hidB_t (by omega) (by rw [hmid, qL_len]; omega), if_pos rfl, hmid, ← hwk, ← hz_133] <;> rfl) (by omega) (fun q => absurd q (by omega)) _ _ (hP.sub [16, 19, 22, 20, 0, 1, 2, 3, 12, 13, 14, 15, 4, 5, 6, 17, 18, 7, 21, 8, 11, 9, 10] rfl) (hD.sub [16, 19, 22, 20, 0, 1, 2, 3, 12, 13, 14, 15, 4, 5, 6, 17, 18, 7, 21, 8, 11, 9, 10] (by decide) rfl) hS ls (lv_sub hl [0, 1, 2, 3, 4] rfl)
                · skip
                  rw [nI_leI (by omega) (by omega)] at c_6
                  refine lv_aload_n (pc := 102) hx hb dX10_accept_102 rfl (lv_at hl 3 rfl) ?_
                  refine va_get (pc := 103) (D := D) (ci := 8) (v := .ref (a 54)) (C := RX10) (T := TX10) (N := 57) hx hb hts iu10 hown hK hP 20 rfl rfl 54 (by decide) (hts _ tw_1099) (fun _ h9 => h9) rfl dX10_accept_103 ?_
                  refine lv_iload (pc := 106) hx hb dX10_accept_106 (lv_at hl 0 rfl) ?_
                  refine lv_aload_n (pc := 108) hx hb dX10_accept_108 rfl (lv_at hl 3 rfl) ?_
                  refine va_get (pc := 109) (D := D) (ci := 8) (v := .ref (a 31)) (C := RX10) (T := TX10) (N := 57) hx hb hts iu10 hown hK hP 20 rfl rfl 31 (by decide) (hts _ tw_1076) (fun _ h9 => h9) rfl dX10_accept_109 ?_
                  refine lv_iload (pc := 112) hx hb dX10_accept_112 (lv_at hl 0 rfl) ?_
                  refine q_bald (pc := 114) hx hb hK hP 21 2 rfl rfl (k := k1x) (v := qs (gli k1x)) rfl (by omega) (by omega) rfl dX10_accept_114 ?_
                  refine q_bastS (pc := 115) hx hb hK hP hD hS 1 2 rfl rfl (k := k1x) rfl (by omega) (by omega) (b := gli k1x) (qlo_qs _) dX10_accept_115 (fun H locs hP hD hS => ?_)
                  have hP : va_P D vwCl [(a 53, aS ta 16 gbl), (a 54, aS ta 300 (qU k' k1x (gli k1x))), (a 47, aK ta 2 cn), (a 56, aS ta 16 gah), (a 29, aS ta 416 gou), (a 39, aK ta 2 se), (a 40, aK ta 2 lv), (a 48, aT ta 2 ha), (a 8, aZ ta 256 BOX), (a 9, aZ ta 256 UBOX), (a 16, aS ta 240 rk1_80), (a 18, aS ta 16 ce1_80), (a 22, aS ta 700 gm1_80), (a 24, aS ta 16 mac1_80), (a 25, aS ta 16 k11_80), (a 41, aS ta 256 gke), (a 36, aK ta 2 ru), (a 50, aK ta 2 cs), (a 37, aK ta 2 le), (a 45, aS ta 32 gch), (h0, oM a ar1_80 mn1_80 tp osz 0 ns ct), (a 31, aS ta 300 gli), (a 55, aS ta 16 gco1_80)] H := hP
                  have hD : va_D A [(a 53, aS ta 16 gbl), (a 54, aS ta 300 (qU k' k1x (gli k1x))), (a 47, aK ta 2 cn), (a 56, aS ta 16 gah), (a 29, aS ta 416 gou), (a 39, aK ta 2 se), (a 40, aK ta 2 lv), (a 48, aT ta 2 ha), (a 8, aZ ta 256 BOX), (a 9, aZ ta 256 UBOX), (a 16, aS ta 240 rk1_80), (a 18, aS ta 16 ce1_80), (a 22, aS ta 700 gm1_80), (a 24, aS ta 16 mac1_80), (a 25, aS ta 16 k11_80), (a 41, aS ta 256 gke), (a 36, aK ta 2 ru), (a 50, aK ta 2 cs), (a 37, aK ta 2 le), (a 45, aS ta 32 gch), (h0, oM a ar1_80 mn1_80 tp osz 0 ns ct), (a 31, aS ta 300 gli), (a 55, aS ta 16 gco1_80)] := hD
                  refine lv_iinc (pc := 116) (v := nI (k1x + 1)) (lv' := [(4, .int (nI (k1x + 1))), (3, .int (nI hd9)), (2, .int (nI (lsz - 8))), (0, .ref h0), (1, .int (nI sw9))]) hx hb dX10_accept_116 hl (k := 0) rfl (by first | exact nI_add k1x 1 | rfl) (by decide) rfl (fun ls hl => ?_)
                  refine lv_goto (pc := 119) (tgt := 96) hx hb dX10_accept_119 (by decide) ?_
                  exact ih96 (k1x + 1) (qU k' k1x (gli k1x)) (by omega) (qSeg_s hs1 (by omega) (by first | rfl | (simp; done))) (by omega) _ _ (hP.sub [0, 1, 2, 3, 4, 5, 6, 7, 8, 9, 10, 11, 12, 13, 14, 15, 16, 17, 18, 19, 20, 21, 22] rfl) (hD.sub [0, 1, 2, 3, 4, 5, 6, 7, 8, 9, 10, 11, 12, 13, 14, 15, 16, 17, 18, 19, 20, 21, 22] (by decide) rfl) hS ls (lv_sub hl [0, 1, 2, 3, 4] rfl)
            exact LP96 _ 0 gwk (by omega) (qSeg_0) (Nat.lt_succ_self _) _ _ (hP.sub [0, 1, 2, 3, 4, 5, 6, 7, 8, 9, 10, 11, 12, 13, 14, 15, 16, 17, 18, 19, 20, 21, 22] rfl) (hD.sub [0, 1, 2, 3, 4, 5, 6, 7, 8, 9, 10, 11, 12, 13, 14, 15, 16, 17, 18, 19, 20, 21, 22] (by decide) rfl) hS ls (lv_sub hl [0, 1, 2, 3, 4] rfl)
          · skip
            rw [q_beq] at c_5
            try rw [Bool.not_eq_false] at c_5
            have hze := c_5
            refine lv_iconst (pc := 91) (v := nI 0) hx hb dX10_accept_91 (by decide +kernel) ?_
            refine q_top (y := qb false) (by first | rfl | decide +kernel | (simp; done)) ?_
            have hq_15 : (openA3 (seg gke 0 (le 0)) (seg gke 64 (le 0)) (cn 0) (lv 0) (seg gch 0 16) (qL gli lsz) sw9 = if false then some (qL gou osz) else none) ∧ (false = false → gou = gou ∧ osz = osz) ∧ (false = true → osz ≤ 292) := by
              have hcd : (ansCode3 (seg gke 64 (le 0)) (seg gch 0 16) ((qL gli lsz).take ((qL gli lsz).length - 8)) sw9).take 8 = seg gco1_80 0 8 := by rw [hmid]; exact hs_80.symm
              have hop : openA3 (seg gke 0 (le 0)) (seg gke 64 (le 0)) (cn 0) (lv 0) (seg gch 0 16) (qL gli lsz) sw9 = none := by rw [openA3, if_pos (by rw [qL_len]; omega), if_neg (by rw [end_seg (by omega), hcd]; exact of_decide_eq_false (hz_85.symm.trans hze))]
              exact ⟨hop, fun _ => ⟨rfl, rfl⟩, fun q => (by cases q)⟩
            exact hret (⟨(false), (rk1_80), (ce1_80), (gm1_80), (mac1_80), (k11_80), (gbl), (gco1_80), (gwk), (mn1_80), (ar1_80), (gah), (gou), (osz)⟩ : Bool × (Nat → BitVec 8) × (Nat → BitVec 8) × (Nat → BitVec 8) × (Nat → BitVec 8) × (Nat → BitVec 8) × (Nat → BitVec 8) × (Nat → BitVec 8) × (Nat → BitVec 8) × Nat × Nat × (Nat → BitVec 8) × (Nat → BitVec 8) × Nat) _ _ _ _ dX10_accept_92 hq_15 (hP.sub [20, 8, 9, 10, 11, 12, 13, 14, 0, 22, 15, 16, 17, 21, 1, 5, 6, 7, 18, 19, 2, 3, 4] rfl) (hD.sub [20, 8, 9, 10, 11, 12, 13, 14, 0, 22, 15, 16, 17, 21, 1, 5, 6, 7, 18, 19, 2, 3, 4] (by decide) rfl) hS
        refine lv_aload_n (pc := 40) hx hb dX10_accept_40 rfl (lv_at hl 1 rfl) ?_
        refine va_get (pc := 41) (D := D) (ci := 8) (v := .ref (a 36)) (C := RX10) (T := TX10) (N := 57) hx hb hts iu10 hown hK hP 19 rfl rfl 36 (by decide) (hts _ tw_1081) (fun _ h9 => h9) rfl dX10_accept_41 ?_
        refine lv_iconst (pc := 44) (v := nI 0) hx hb dX10_accept_44 (by decide +kernel) ?_
        refine q_iald (pc := 45) hx hb hK hP 10 0 rfl rfl (k := 0) (v := nI (ru 0)) rfl (by omega) (by omega) rfl dX10_accept_45 ?_
        refine lv_iconst (pc := 46) (v := nI 3) hx hb dX10_accept_46 (by decide +kernel) ?_
        refine lv_icmp_ne (pc := 47) (tgt := 70) hx hb dX10_accept_47 (by decide) (fun c_16 => ?_) (fun c_16 => ?_)
        · skip
          rw [nI_eq (by omega) (by omega)] at c_16
          exfalso; omega
        · skip
          rw [nI_eq (by omega) (by omega)] at c_16
          refine lv_aload_n (pc := 50) hx hb dX10_accept_50 rfl (lv_at hl 1 rfl) ?_
          refine va_get (pc := 51) (D := D) (ci := 8) (v := .ref (a 40)) (C := RX10) (T := TX10) (N := 57) hx hb hts iu10 hown hK hP 19 rfl rfl 40 (by decide) (hts _ tw_1085) (fun _ h9 => h9) rfl dX10_accept_51 ?_
          refine lv_iconst (pc := 54) (v := nI 0) hx hb dX10_accept_54 (by decide +kernel) ?_
          refine q_iald (pc := 55) hx hb hK hP 21 0 rfl rfl (k := 0) (v := nI (lv 0)) rfl (by omega) (by omega) rfl dX10_accept_55 ?_
          refine lv_bipush (pc := 56) (v := nI 32) hx hb dX10_accept_56 (by decide +kernel) ?_
          refine lv_iand (pc := 58) hx hb dX10_accept_58 ?_
          refine q_top (y := nI (lv 0 &&& 32)) (nI_and (by omega) (by omega)) ?_
          refine lv_if_le (pc := 59) (tgt := 70) hx hb dX10_accept_59 (by decide) (fun c_17 => ?_) (fun c_17 => ?_)
          · skip
            rw [q_le0 (by omega)] at c_17
            refine lv_iconst (pc := 70) (v := nI 0) hx hb dX10_accept_70 (by decide +kernel) ?_
            exact JN71 0 (by omega) _ _ (hP.sub [0, 1, 2, 3, 4, 5, 6, 7, 8, 9, 10, 11, 12, 13, 14, 15, 16, 17, 18, 19, 20, 21, 22] rfl) (hD.sub [0, 1, 2, 3, 4, 5, 6, 7, 8, 9, 10, 11, 12, 13, 14, 15, 16, 17, 18, 19, 20, 21, 22] (by decide) rfl) hS ls (lv_sub hl [0, 1, 2] rfl)
          · skip
            rw [q_le0 (by omega)] at c_17
            refine lv_iload_n (pc := 62) hx hb dX10_accept_62 rfl (lv_at hl 0 rfl) ?_
            refine lv_if_le (pc := 63) (tgt := 70) hx hb dX10_accept_63 (by decide) (fun c_18 => ?_) (fun c_18 => ?_)
            · skip
              rw [q_le0 (by omega)] at c_18
              refine lv_iconst (pc := 70) (v := nI 0) hx hb dX10_accept_70 (by decide +kernel) ?_
              exact JN71 0 (by omega) _ _ (hP.sub [0, 1, 2, 3, 4, 5, 6, 7, 8, 9, 10, 11, 12, 13, 14, 15, 16, 17, 18, 19, 20, 21, 22] rfl) (hD.sub [0, 1, 2, 3, 4, 5, 6, 7, 8, 9, 10, 11, 12, 13, 14, 15, 16, 17, 18, 19, 20, 21, 22] (by decide) rfl) hS ls (lv_sub hl [0, 1, 2] rfl)
            · skip
              rw [q_le0 (by omega)] at c_18
              refine lv_iconst (pc := 66) (v := nI 1) hx hb dX10_accept_66 (by decide +kernel) ?_
              refine lv_goto (pc := 67) (tgt := 71) hx hb dX10_accept_67 (by decide) ?_
              exact JN71 1 (by omega) _ _ (hP.sub [0, 1, 2, 3, 4, 5, 6, 7, 8, 9, 10, 11, 12, 13, 14, 15, 16, 17, 18, 19, 20, 21, 22] rfl) (hD.sub [0, 1, 2, 3, 4, 5, 6, 7, 8, 9, 10, 11, 12, 13, 14, 15, 16, 17, 18, 19, 20, 21, 22] (by decide) rfl) hS ls (lv_sub hl [0, 1, 2] rfl)
      · skip
        refine lv_bipush (pc := 25) (v := nI 8) hx hb dX10_accept_25 (by decide +kernel) ?_
        refine lv_isub (pc := 27) hx hb dX10_accept_27 ?_
        refine q_top (y := nI lsz - nI 8) rfl ?_
        refine lv_istore_n (pc := 28) (lv' := [(2, .int (nI lsz - nI 8)), (0, .ref h0), (1, .int (nI sw9))]) hx hb dX10_accept_28 rfl hl (by decide) rfl (fun ls hl => ?_)
        refine lv_aload_n (pc := 29) hx hb dX10_accept_29 rfl (lv_at hl 1 rfl) ?_
        refine lv_iconst (pc := 30) (v := nI 0) hx hb dX10_accept_30 (by decide +kernel) ?_
        refine va_put (pc := 31) (D := D) (ci := 8) (v := .int (nI 0)) (ty := .int) (C := RX10) (T := TX10) (N := 57) hx hb hts iu10 tyX10 tyX10_ok nmX10 hown hK hP hD hS 19 rfl rfl 32 (by decide) (hts _ tw_1077) (fun _ h9 => h9) rfl (by decide +kernel) rfl rfl (Nat.le_of_ble_eq_true rfl) dX10_accept_31 (fun H locs hP hD hS => ?_)
        have hP : va_P D vwCl [(a 8, aZ ta 256 BOX), (a 9, aZ ta 256 UBOX), (a 16, aS ta 240 rk), (a 18, aS ta 16 ce), (a 22, aS ta 700 gm), (a 24, aS ta 16 mac), (a 25, aS ta 16 k1), (a 53, aS ta 16 gbl), (a 55, aS ta 16 gco), (a 41, aS ta 256 gke), (a 36, aK ta 2 ru), (a 50, aK ta 2 cs), (a 31, aS ta 300 gli), (a 54, aS ta 300 gwk), (a 37, aK ta 2 le), (a 45, aS ta 32 gch), (a 47, aK ta 2 cn), (a 56, aS ta 16 gah), (a 29, aS ta 416 gou), (h0, oM a ar mn tp osz 0 ns ct), (a 39, aK ta 2 se), (a 40, aK ta 2 lv), (a 48, aT ta 2 ha)] H := hP
        have hD : va_D A [(a 8, aZ ta 256 BOX), (a 9, aZ ta 256 UBOX), (a 16, aS ta 240 rk), (a 18, aS ta 16 ce), (a 22, aS ta 700 gm), (a 24, aS ta 16 mac), (a 25, aS ta 16 k1), (a 53, aS ta 16 gbl), (a 55, aS ta 16 gco), (a 41, aS ta 256 gke), (a 36, aK ta 2 ru), (a 50, aK ta 2 cs), (a 31, aS ta 300 gli), (a 54, aS ta 300 gwk), (a 37, aK ta 2 le), (a 45, aS ta 32 gch), (a 47, aK ta 2 cn), (a 56, aS ta 16 gah), (a 29, aS ta 416 gou), (h0, oM a ar mn tp osz 0 ns ct), (a 39, aK ta 2 se), (a 40, aK ta 2 lv), (a 48, aT ta 2 ha)] := hD
        refine lv_iload_n (pc := 34) hx hb dX10_accept_34 rfl (lv_at hl 0 rfl) ?_
        refine lv_if_ge (pc := 35) (tgt := 40) hx hb dX10_accept_35 (by decide) (fun c_19 => ?_) (fun c_19 => ?_)
        · skip
          exact absurd c_19 (Int32.not_le.mpr (nI_sub_neg (by omega) (by omega)))
        · skip
          refine lv_iconst (pc := 38) (v := nI 0) hx hb dX10_accept_38 (by decide +kernel) ?_
          refine q_top (y := qb false) (by first | rfl | decide +kernel | (simp; done)) ?_
          have hq_20 : (openA3 (seg gke 0 (le 0)) (seg gke 64 (le 0)) (cn 0) (lv 0) (seg gch 0 16) (qL gli lsz) sw9 = if false then some (qL gou osz) else none) ∧ (false = false → gou = gou ∧ osz = osz) ∧ (false = true → osz ≤ 292) := by
            have hop : openA3 (seg gke 0 (le 0)) (seg gke 64 (le 0)) (cn 0) (lv 0) (seg gch 0 16) (qL gli lsz) sw9 = none := by rw [openA3, if_neg (by rw [qL_len]; omega)]
            exact ⟨hop, fun _ => ⟨rfl, rfl⟩, fun q => (by cases q)⟩
          exact hret (⟨(false), (rk), (ce), (gm), (mac), (k1), (gbl), (gco), (gwk), (mn), (ar), (gah), (gou), (osz)⟩ : Bool × (Nat → BitVec 8) × (Nat → BitVec 8) × (Nat → BitVec 8) × (Nat → BitVec 8) × (Nat → BitVec 8) × (Nat → BitVec 8) × (Nat → BitVec 8) × (Nat → BitVec 8) × Nat × Nat × (Nat → BitVec 8) × (Nat → BitVec 8) × Nat) _ _ _ _ dX10_accept_39 hq_20 (hP.sub [19, 0, 1, 2, 3, 4, 5, 6, 7, 8, 9, 10, 11, 12, 13, 20, 21, 22, 14, 15, 16, 17, 18] rfl) (hD.sub [19, 0, 1, 2, 3, 4, 5, 6, 7, 8, 9, 10, 11, 12, 13, 20, 21, 22, 14, 15, 16, 17, 18] (by decide) rfl) hS
    · skip
      rw [nI_leI (by omega) (by omega)] at c_3
      exfalso; omega
