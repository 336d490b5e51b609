theorem hdX10_isLevel : yX10_isLevel.cls ≠ "java/lang/invoke/MethodHandle" ∧ yX10_isLevel.cls ≠ "java/lang/invoke/VarHandle" ∧ (parseMethodDescriptor yX10_isLevel.desc).map (fun d => d.parameters.length) = some 2 := ⟨by decide +kernel, by decide +kernel, by decide +kernel⟩
theorem dX10_isLevel_0 : decode cX10_isLevel 0 = .ok (.iload_n 0, 1) := by decide +kernel
theorem dX10_isLevel_1 : decode cX10_isLevel 1 = .ok (.ifCond .eq 36, 3) := by decide +kernel
theorem dX10_isLevel_4 : decode cX10_isLevel 4 = .ok (.iload_n 0, 1) := by decide +kernel
theorem dX10_isLevel_5 : decode cX10_isLevel 5 = .ok (.iconst 1, 1) := by decide +kernel
theorem dX10_isLevel_6 : decode cX10_isLevel 6 = .ok (.if_icmp .eq 31, 3) := by decide +kernel
theorem dX10_isLevel_9 : decode cX10_isLevel 9 = .ok (.iload_n 0, 1) := by decide +kernel
theorem dX10_isLevel_10 : decode cX10_isLevel 10 = .ok (.iconst 3, 1) := by decide +kernel
theorem dX10_isLevel_11 : decode cX10_isLevel 11 = .ok (.if_icmp .eq 26, 3) := by decide +kernel
theorem dX10_isLevel_14 : decode cX10_isLevel 14 = .ok (.iload_n 0, 1) := by decide +kernel
theorem dX10_isLevel_15 : decode cX10_isLevel 15 = .ok (.bipush 17, 2) := by decide +kernel
theorem dX10_isLevel_17 : decode cX10_isLevel 17 = .ok (.if_icmp .eq 20, 3) := by decide +kernel
theorem dX10_isLevel_20 : decode cX10_isLevel 20 = .ok (.iload_n 0, 1) := by decide +kernel
theorem dX10_isLevel_21 : decode cX10_isLevel 21 = .ok (.bipush 19, 2) := by decide +kernel
theorem dX10_isLevel_23 : decode cX10_isLevel 23 = .ok (.if_icmp .eq 14, 3) := by decide +kernel
theorem dX10_isLevel_26 : decode cX10_isLevel 26 = .ok (.iload_n 0, 1) := by decide +kernel
theorem dX10_isLevel_27 : decode cX10_isLevel 27 = .ok (.bipush 51, 2) := by decide +kernel
theorem dX10_isLevel_29 : decode cX10_isLevel 29 = .ok (.if_icmp .ne 12, 3) := by decide +kernel
theorem dX10_isLevel_32 : decode cX10_isLevel 32 = .ok (.iload_n 1, 1) := by decide +kernel
theorem dX10_isLevel_33 : decode cX10_isLevel 33 = .ok (.iconst 3, 1) := by decide +kernel
theorem dX10_isLevel_34 : decode cX10_isLevel 34 = .ok (.if_icmp .ne 7, 3) := by decide +kernel
theorem dX10_isLevel_37 : decode cX10_isLevel 37 = .ok (.iconst 1, 1) := by decide +kernel
theorem dX10_isLevel_38 : decode cX10_isLevel 38 = .ok (.goto 4, 3) := by decide +kernel
theorem dX10_isLevel_41 : decode cX10_isLevel 41 = .ok (.iconst 0, 1) := by decide +kernel
theorem dX10_isLevel_42 : decode cX10_isLevel 42 = .ok (.ireturn, 1) := by decide +kernel
set_option maxHeartbeats 4000000 in
set_option maxRecDepth 100000 in
theorem ct_X10_isLevel (ll : Launch) (D : va_G) (ta : Nat → ClassId) {G : (Nat → Prop) → State → Heap → Prop} (hGok : GOK G) (l : Int32) (r9 : Nat) (hr9 : r9 < 4) (sz : Nat) : CT ll yX10_isLevel cX10_isLevel 2 (some .boolean) ({ frames := 0, cells := 0, slots := 0, locals := 0 } : Room) D ta G [.int l, .int (nI r9)] [] sz (S := Bool) (fun u => some (.int (qb u))) (fun u => (u = levB l (decide (r9 = 3)))) (fun u => []) 0 0 := by
  refine CT.of_z (r := fun u => u) rfl (by decide) (Nat.le_of_ble_eq_true rfl) ?_
  intro pp ee ss mm below meth kc A Q hx hb hml hown hin hts hK hA hsz hG hret H locs hP hD hS ls hl
  have hl : lv_has ls 2 [(0, .int l), (1, .int (nI r9))] := hl
  refine lv_iload_n (pc := 0) hx hb dX10_isLevel_0 rfl (lv_at hl 0 rfl) ?_
  refine lv_if_eq (pc := 1) (tgt := 37) hx hb dX10_isLevel_1 (by decide) (fun c_1 => ?_) (fun c_1 => ?_)
  · skip
    refine lv_iconst (pc := 37) (v := nI 1) hx hb dX10_isLevel_37 (by decide +kernel) ?_
    refine lv_goto (pc := 38) (tgt := 42) hx hb dX10_isLevel_38 (by decide) ?_
    refine q_top (y := qb true) (by first | rfl | decide +kernel | (simp; done)) ?_
    have hq_2 : (true = levB l (decide (r9 = 3))) := by
      first | (subst_vars; simp [levB]; done) | (simp_all [levB, nI]; done) | (simp_all [levB, nI]; decide)
    exact hret (true) _ _ _ _ dX10_isLevel_42 hq_2 (hP.sub [] rfl) (hD.sub [] (by decide) rfl) hS
  · skip
    refine lv_iload_n (pc := 4) hx hb dX10_isLevel_4 rfl (lv_at hl 0 rfl) ?_
    refine lv_iconst (pc := 5) (v := nI 1) hx hb dX10_isLevel_5 (by decide +kernel) ?_
    refine lv_icmp_eq (pc := 6) (tgt := 37) hx hb dX10_isLevel_6 (by decide) (fun c_3 => ?_) (fun c_3 => ?_)
    · skip
      refine lv_iconst (pc := 37) (v := nI 1) hx hb dX10_isLevel_37 (by decide +kernel) ?_
      refine lv_goto (pc := 38) (tgt := 42) hx hb dX10_isLevel_38 (by decide) ?_
      refine q_top (y := qb true) (by first | rfl | decide +kernel | (simp; done)) ?_
      have hq_4 : (true = levB l (decide (r9 = 3))) := by
        first | (subst_vars; simp [levB]; done) | (simp_all [levB, nI]; done) | (simp_all [levB, nI]; decide)
      exact hret (true) _ _ _ _ dX10_isLevel_42 hq_4 (hP.sub [] rfl) (hD.sub [] (by decide) rfl) hS
    · skip
      refine lv_iload_n (pc := 9) hx hb dX10_isLevel_9 rfl (lv_at hl 0 rfl) ?_
      refine lv_iconst (pc := 10) (v := nI 3) hx hb dX10_isLevel_10 (by decide +kernel) ?_
      refine lv_icmp_eq (pc := 11) (tgt := 37) hx hb dX10_isLevel_11 (by decide) (fun c_5 => ?_) (fun c_5 => ?_)
      · skip
        refine lv_iconst (pc := 37) (v := nI 1) hx hb dX10_isLevel_37 (by decide +kernel) ?_
        refine lv_goto (pc := 38) (tgt := 42) hx hb dX10_isLevel_38 (by decide) ?_
        refine q_top (y := qb true) (by first | rfl | decide +kernel | (simp; done)) ?_
        have hq_6 : (true = levB l (decide (r9 = 3))) := by
          first | (subst_vars; simp [levB]; done) | (simp_all [levB, nI]; done) | (simp_all [levB, nI]; decide)
        exact hret (true) _ _ _ _ dX10_isLevel_42 hq_6 (hP.sub [] rfl) (hD.sub [] (by decide) rfl) hS
      · skip
        refine lv_iload_n (pc := 14) hx hb dX10_isLevel_14 rfl (lv_at hl 0 rfl) ?_
        refine lv_bipush (pc := 15) (v := nI 17) hx hb dX10_isLevel_15 (by decide +kernel) ?_
        refine lv_icmp_eq (pc := 17) (tgt := 37) hx hb dX10_isLevel_17 (by decide) (fun c_7 => ?_) (fun c_7 => ?_)
        · skip
          refine lv_iconst (pc := 37) (v := nI 1) hx hb dX10_isLevel_37 (by decide +kernel) ?_
          refine lv_goto (pc := 38) (tgt := 42) hx hb dX10_isLevel_38 (by decide) ?_
          refine q_top (y := qb true) (by first | rfl | decide +kernel | (simp; done)) ?_
          have hq_8 : (true = levB l (decide (r9 = 3))) := by
            first | (subst_vars; simp [levB]; done) | (simp_all [levB, nI]; done) | (simp_all [levB, nI]; decide)
          exact hret (true) _ _ _ _ dX10_isLevel_42 hq_8 (hP.sub [] rfl) (hD.sub [] (by decide) rfl) hS
        · skip
          refine lv_iload_n (pc := 20) hx hb dX10_isLevel_20 rfl (lv_at hl 0 rfl) ?_
          refine lv_bipush (pc := 21) (v := nI 19) hx hb dX10_isLevel_21 (by decide +kernel) ?_
          refine lv_icmp_eq (pc := 23) (tgt := 37) hx hb dX10_isLevel_23 (by decide) (fun c_9 => ?_) (fun c_9 => ?_)
          · skip
            refine lv_iconst (pc := 37) (v := nI 1) hx hb dX10_isLevel_37 (by decide +kernel) ?_
            refine lv_goto (pc := 38) (tgt := 42) hx hb dX10_isLevel_38 (by decide) ?_
            refine q_top (y := qb true) (by first | rfl | decide +kernel | (simp; done)) ?_
            have hq_10 : (true = levB l (decide (r9 = 3))) := by
              first | (subst_vars; simp [levB]; done) | (simp_all [levB, nI]; done) | (simp_all [levB, nI]; decide)
            exact hret (true) _ _ _ _ dX10_isLevel_42 hq_10 (hP.sub [] rfl) (hD.sub [] (by decide) rfl) hS
          · skip
            refine lv_iload_n (pc := 26) hx hb dX10_isLevel_26 rfl (lv_at hl 0 rfl) ?_
            refine lv_bipush (pc := 27) (v := nI 51) hx hb dX10_isLevel_27 (by decide +kernel) ?_
            refine lv_icmp_ne (pc := 29) (tgt := 41) hx hb dX10_isLevel_29 (by decide) (fun c_11 => ?_) (fun c_11 => ?_)
            · skip
              refine lv_iconst (pc := 41) (v := nI 0) hx hb dX10_isLevel_41 (by decide +kernel) ?_
              refine q_top (y := qb false) (by first | rfl | decide +kernel | (simp; done)) ?_
              have hq_12 : (false = levB l (decide (r9 = 3))) := by
                first | (subst_vars; simp [levB]; done) | (simp_all [levB, nI]; done) | (simp_all [levB, nI]; decide)
              exact hret (false) _ _ _ _ dX10_isLevel_42 hq_12 (hP.sub [] rfl) (hD.sub [] (by decide) rfl) hS
            · skip
              refine lv_iload_n (pc := 32) hx hb dX10_isLevel_32 rfl (lv_at hl 1 rfl) ?_
              refine lv_iconst (pc := 33) (v := nI 3) hx hb dX10_isLevel_33 (by decide +kernel) ?_
              refine lv_icmp_ne (pc := 34) (tgt := 41) hx hb dX10_isLevel_34 (by decide) (fun c_13 => ?_) (fun c_13 => ?_)
              · skip
                rw [nI_eq (by omega) (by omega)] at c_13
                refine lv_iconst (pc := 41) (v := nI 0) hx hb dX10_isLevel_41 (by decide +kernel) ?_
                refine q_top (y := qb false) (by first | rfl | decide +kernel | (simp; done)) ?_
                have hq_14 : (false = levB l (decide (r9 = 3))) := by
                  first | (subst_vars; simp [levB]; done) | (simp_all [levB, nI]; done) | (simp_all [levB, nI]; decide)
                exact hret (false) _ _ _ _ dX10_isLevel_42 hq_14 (hP.sub [] rfl) (hD.sub [] (by decide) rfl) hS
              · skip
                rw [nI_eq (by omega) (by omega)] at c_13
                refine lv_iconst (pc := 37) (v := nI 1) hx hb dX10_isLevel_37 (by decide +kernel) ?_
                refine lv_goto (pc := 38) (tgt := 42) hx hb dX10_isLevel_38 (by decide) ?_
                refine q_top (y := qb true) (by first | rfl | decide +kernel | (simp; done)) ?_
                have hq_15 : (true = levB l (decide (r9 = 3))) := by
                  first | (subst_vars; simp [levB]; done) | (simp_all [levB, nI]; done) | (simp_all [levB, nI]; decide)
                exact hret (true) _ _ _ _ dX10_isLevel_42 hq_15 (hP.sub [] rfl) (hD.sub [] (by decide) rfl) hS
theorem hdX10_commandMac : yX10_commandMac.cls ≠ "java/lang/invoke/MethodHandle" ∧ yX10_commandMac.cls ≠ "java/lang/invoke/VarHandle" ∧ (parseMethodDescriptor yX10_commandMac.desc).map (fun d => d.parameters.length) = some 7 := ⟨by decide +kernel, by decide +kernel, by decide +kernel⟩
theorem dX10_commandMac_0 : decode cX10_commandMac 0 = .ok (.sipush 128, 3) := by decide +kernel
theorem dX10_commandMac_3 : decode cX10_commandMac 3 = .ok (.iload_n 1, 1) := by decide +kernel
theorem dX10_commandMac_4 : decode cX10_commandMac 4 = .ok (.imul, 1) := by decide +kernel
theorem dX10_commandMac_5 : decode cX10_commandMac 5 = .ok (.istore 8, 2) := by decide +kernel
theorem dX10_commandMac_7 : decode cX10_commandMac 7 = .ok (.aload_n 0, 1) := by decide +kernel
theorem dX10_commandMac_8 : decode cX10_commandMac 8 = .ok (.getfield 231, 3) := by decide +kernel
theorem dX10_commandMac_11 : decode cX10_commandMac 11 = .ok (.iload_n 1, 1) := by decide +kernel
theorem dX10_commandMac_12 : decode cX10_commandMac 12 = .ok (.iaload, 1) := by decide +kernel
theorem dX10_commandMac_13 : decode cX10_commandMac 13 = .ok (.iconst 2, 1) := by decide +kernel
theorem dX10_commandMac_14 : decode cX10_commandMac 14 = .ok (.if_icmp .ne 7, 3) := by decide +kernel
theorem dX10_commandMac_17 : decode cX10_commandMac 17 = .ok (.iconst 1, 1) := by decide +kernel
theorem dX10_commandMac_18 : decode cX10_commandMac 18 = .ok (.goto 4, 3) := by decide +kernel
theorem dX10_commandMac_21 : decode cX10_commandMac 21 = .ok (.iconst 0, 1) := by decide +kernel
theorem dX10_commandMac_22 : decode cX10_commandMac 22 = .ok (.istore 9, 2) := by decide +kernel
theorem dX10_commandMac_24 : decode cX10_commandMac 24 = .ok (.iconst 0, 1) := by decide +kernel
theorem dX10_commandMac_25 : decode cX10_commandMac 25 = .ok (.istore 10, 2) := by decide +kernel
theorem dX10_commandMac_27 : decode cX10_commandMac 27 = .ok (.iload 10, 2) := by decide +kernel
theorem dX10_commandMac_29 : decode cX10_commandMac 29 = .ok (.bipush 16, 2) := by decide +kernel
theorem dX10_commandMac_31 : decode cX10_commandMac 31 = .ok (.if_icmp .ge 37, 3) := by decide +kernel
theorem dX10_commandMac_34 : decode cX10_commandMac 34 = .ok (.aload_n 0, 1) := by decide +kernel
theorem dX10_commandMac_35 : decode cX10_commandMac 35 = .ok (.getfield 283, 3) := by decide +kernel
theorem dX10_commandMac_38 : decode cX10_commandMac 38 = .ok (.iload 10, 2) := by decide +kernel
theorem dX10_commandMac_40 : decode cX10_commandMac 40 = .ok (.iload 7, 2) := by decide +kernel
theorem dX10_commandMac_42 : decode cX10_commandMac 42 = .ok (.ifCond .eq 7, 3) := by decide +kernel
theorem dX10_commandMac_45 : decode cX10_commandMac 45 = .ok (.iconst 0, 1) := by decide +kernel
theorem dX10_commandMac_46 : decode cX10_commandMac 46 = .ok (.goto 15, 3) := by decide +kernel
theorem dX10_commandMac_49 : decode cX10_commandMac 49 = .ok (.aload_n 0, 1) := by decide +kernel
theorem dX10_commandMac_50 : decode cX10_commandMac 50 = .ok (.getfield 258, 3) := by decide +kernel
theorem dX10_commandMac_53 : decode cX10_commandMac 53 = .ok (.bipush 16, 2) := by decide +kernel
theorem dX10_commandMac_55 : decode cX10_commandMac 55 = .ok (.iload_n 1, 1) := by decide +kernel
theorem dX10_commandMac_56 : decode cX10_commandMac 56 = .ok (.imul, 1) := by decide +kernel
theorem dX10_commandMac_57 : decode cX10_commandMac 57 = .ok (.iload 10, 2) := by decide +kernel
theorem dX10_commandMac_59 : decode cX10_commandMac 59 = .ok (.iadd, 1) := by decide +kernel
theorem dX10_commandMac_60 : decode cX10_commandMac 60 = .ok (.baload, 1) := by decide +kernel
theorem dX10_commandMac_61 : decode cX10_commandMac 61 = .ok (.bastore, 1) := by decide +kernel
theorem dX10_commandMac_62 : decode cX10_commandMac 62 = .ok (.iinc 10 1, 3) := by decide +kernel
theorem dX10_commandMac_65 : decode cX10_commandMac 65 = .ok (.goto (-38), 3) := by decide +kernel
theorem dX10_commandMac_68 : decode cX10_commandMac 68 = .ok (.iload 9, 2) := by decide +kernel
theorem dX10_commandMac_70 : decode cX10_commandMac 70 = .ok (.ifCond .eq 27, 3) := by decide +kernel
theorem dX10_commandMac_73 : decode cX10_commandMac 73 = .ok (.iload 7, 2) := by decide +kernel
theorem dX10_commandMac_75 : decode cX10_commandMac 75 = .ok (.ifCond .ne 22, 3) := by decide +kernel
theorem dX10_commandMac_78 : decode cX10_commandMac 78 = .ok (.aload_n 0, 1) := by decide +kernel
theorem dX10_commandMac_79 : decode cX10_commandMac 79 = .ok (.aload_n 0, 1) := by decide +kernel
theorem dX10_commandMac_80 : decode cX10_commandMac 80 = .ok (.getfield 283, 3) := by decide +kernel
theorem dX10_commandMac_83 : decode cX10_commandMac 83 = .ok (.iconst 0, 1) := by decide +kernel
theorem dX10_commandMac_84 : decode cX10_commandMac 84 = .ok (.aload_n 0, 1) := by decide +kernel
theorem dX10_commandMac_85 : decode cX10_commandMac 85 = .ok (.getfield 246, 3) := by decide +kernel
theorem dX10_commandMac_88 : decode cX10_commandMac 88 = .ok (.iload 8, 2) := by decide +kernel
theorem dX10_commandMac_90 : decode cX10_commandMac 90 = .ok (.bipush 32, 2) := by decide +kernel
theorem dX10_commandMac_92 : decode cX10_commandMac 92 = .ok (.iadd, 1) := by decide +kernel
theorem dX10_commandMac_93 : decode cX10_commandMac 93 = .ok (.iconst 0, 1) := by decide +kernel
theorem dX10_commandMac_94 : decode cX10_commandMac 94 = .ok (.invokevirtual 44, 3) := by decide +kernel
theorem dX10_commandMac_97 : decode cX10_commandMac 97 = .ok (.aload_n 0, 1) := by decide +kernel
theorem dX10_commandMac_98 : decode cX10_commandMac 98 = .ok (.invokevirtual 114, 3) := by decide +kernel
theorem dX10_commandMac_101 : decode cX10_commandMac 101 = .ok (.iload 9, 2) := by decide +kernel
theorem dX10_commandMac_103 : decode cX10_commandMac 103 = .ok (.ifCond .ne 14, 3) := by decide +kernel
theorem dX10_commandMac_106 : decode cX10_commandMac 106 = .ok (.aload_n 0, 1) := by decide +kernel
theorem dX10_commandMac_107 : decode cX10_commandMac 107 = .ok (.aload_n 0, 1) := by decide +kernel
theorem dX10_commandMac_108 : decode cX10_commandMac 108 = .ok (.getfield 283, 3) := by decide +kernel
theorem dX10_commandMac_111 : decode cX10_commandMac 111 = .ok (.iconst 0, 1) := by decide +kernel
theorem dX10_commandMac_112 : decode cX10_commandMac 112 = .ok (.bipush 16, 2) := by decide +kernel
theorem dX10_commandMac_114 : decode cX10_commandMac 114 = .ok (.invokevirtual 121, 3) := by decide +kernel
theorem dX10_commandMac_117 : decode cX10_commandMac 117 = .ok (.aload_n 0, 1) := by decide +kernel
theorem dX10_commandMac_118 : decode cX10_commandMac 118 = .ok (.aload_n 2, 1) := by decide +kernel
theorem dX10_commandMac_119 : decode cX10_commandMac 119 = .ok (.iload_n 3, 1) := by decide +kernel
theorem dX10_commandMac_120 : decode cX10_commandMac 120 = .ok (.baload, 1) := by decide +kernel
theorem dX10_commandMac_121 : decode cX10_commandMac 121 = .ok (.sipush 252, 3) := by decide +kernel
theorem dX10_commandMac_124 : decode cX10_commandMac 124 = .ok (.iand, 1) := by decide +kernel
theorem dX10_commandMac_125 : decode cX10_commandMac 125 = .ok (.iconst 4, 1) := by decide +kernel
theorem dX10_commandMac_126 : decode cX10_commandMac 126 = .ok (.ior, 1) := by decide +kernel
theorem dX10_commandMac_127 : decode cX10_commandMac 127 = .ok (.invokevirtual 87, 3) := by decide +kernel
theorem dX10_commandMac_130 : decode cX10_commandMac 130 = .ok (.aload_n 0, 1) := by decide +kernel
theorem dX10_commandMac_131 : decode cX10_commandMac 131 = .ok (.aload_n 2, 1) := by decide +kernel
theorem dX10_commandMac_132 : decode cX10_commandMac 132 = .ok (.iload_n 3, 1) := by decide +kernel
theorem dX10_commandMac_133 : decode cX10_commandMac 133 = .ok (.iconst 1, 1) := by decide +kernel
theorem dX10_commandMac_134 : decode cX10_commandMac 134 = .ok (.iadd, 1) := by decide +kernel
theorem dX10_commandMac_135 : decode cX10_commandMac 135 = .ok (.iconst 3, 1) := by decide +kernel
theorem dX10_commandMac_136 : decode cX10_commandMac 136 = .ok (.invokevirtual 121, 3) := by decide +kernel
theorem dX10_commandMac_139 : decode cX10_commandMac 139 = .ok (.aload_n 0, 1) := by decide +kernel
theorem dX10_commandMac_140 : decode cX10_commandMac 140 = .ok (.iload 6, 2) := by decide +kernel
theorem dX10_commandMac_142 : decode cX10_commandMac 142 = .ok (.bipush 8, 2) := by decide +kernel
theorem dX10_commandMac_144 : decode cX10_commandMac 144 = .ok (.iadd, 1) := by decide +kernel
theorem dX10_commandMac_145 : decode cX10_commandMac 145 = .ok (.invokevirtual 353, 3) := by decide +kernel
theorem dX10_commandMac_148 : decode cX10_commandMac 148 = .ok (.aload_n 0, 1) := by decide +kernel
theorem dX10_commandMac_149 : decode cX10_commandMac 149 = .ok (.aload 4, 2) := by decide +kernel
theorem dX10_commandMac_151 : decode cX10_commandMac 151 = .ok (.iload 5, 2) := by decide +kernel
theorem dX10_commandMac_153 : decode cX10_commandMac 153 = .ok (.iload 6, 2) := by decide +kernel
theorem dX10_commandMac_155 : decode cX10_commandMac 155 = .ok (.invokevirtual 121, 3) := by decide +kernel
theorem dX10_commandMac_158 : decode cX10_commandMac 158 = .ok (.iload 9, 2) := by decide +kernel
theorem dX10_commandMac_160 : decode cX10_commandMac 160 = .ok (.ifCond .eq 24, 3) := by decide +kernel
theorem dX10_commandMac_163 : decode cX10_commandMac 163 = .ok (.aload_n 0, 1) := by decide +kernel
theorem dX10_commandMac_164 : decode cX10_commandMac 164 = .ok (.aload_n 0, 1) := by decide +kernel
theorem dX10_commandMac_165 : decode cX10_commandMac 165 = .ok (.getfield 246, 3) := by decide +kernel
theorem dX10_commandMac_168 : decode cX10_commandMac 168 = .ok (.iload 8, 2) := by decide +kernel
theorem dX10_commandMac_170 : decode cX10_commandMac 170 = .ok (.bipush 32, 2) := by decide +kernel
theorem dX10_commandMac_172 : decode cX10_commandMac 172 = .ok (.iadd, 1) := by decide +kernel
theorem dX10_commandMac_173 : decode cX10_commandMac 173 = .ok (.aload_n 0, 1) := by decide +kernel
theorem dX10_commandMac_174 : decode cX10_commandMac 174 = .ok (.getfield 283, 3) := by decide +kernel
theorem dX10_commandMac_177 : decode cX10_commandMac 177 = .ok (.iconst 0, 1) := by decide +kernel
theorem dX10_commandMac_178 : decode cX10_commandMac 178 = .ok (.invokevirtual 332, 3) := by decide +kernel
theorem dX10_commandMac_181 : decode cX10_commandMac 181 = .ok (.goto 22, 3) := by decide +kernel
theorem dX10_commandMac_184 : decode cX10_commandMac 184 = .ok (.aload_n 0, 1) := by decide +kernel
theorem dX10_commandMac_185 : decode cX10_commandMac 185 = .ok (.aload_n 0, 1) := by decide +kernel
theorem dX10_commandMac_186 : decode cX10_commandMac 186 = .ok (.getfield 246, 3) := by decide +kernel
theorem dX10_commandMac_189 : decode cX10_commandMac 189 = .ok (.iload 8, 2) := by decide +kernel
theorem dX10_commandMac_191 : decode cX10_commandMac 191 = .ok (.bipush 32, 2) := by decide +kernel
theorem dX10_commandMac_193 : decode cX10_commandMac 193 = .ok (.iadd, 1) := by decide +kernel
theorem dX10_commandMac_194 : decode cX10_commandMac 194 = .ok (.aload_n 0, 1) := by decide +kernel
theorem dX10_commandMac_195 : decode cX10_commandMac 195 = .ok (.getfield 234, 3) := by decide +kernel
theorem dX10_commandMac_198 : decode cX10_commandMac 198 = .ok (.iload_n 1, 1) := by decide +kernel
theorem dX10_commandMac_199 : decode cX10_commandMac 199 = .ok (.iaload, 1) := by decide +kernel
theorem dX10_commandMac_200 : decode cX10_commandMac 200 = .ok (.invokevirtual 124, 3) := by decide +kernel
theorem dX10_commandMac_203 : decode cX10_commandMac 203 = .ok (.iconst 0, 1) := by decide +kernel
theorem dX10_commandMac_204 : decode cX10_commandMac 204 = .ok (.istore 10, 2) := by decide +kernel
theorem dX10_commandMac_206 : decode cX10_commandMac 206 = .ok (.iload 10, 2) := by decide +kernel
theorem dX10_commandMac_208 : decode cX10_commandMac 208 = .ok (.bipush 16, 2) := by decide +kernel
theorem dX10_commandMac_210 : decode cX10_commandMac 210 = .ok (.if_icmp .ge 39, 3) := by decide +kernel
theorem dX10_commandMac_213 : decode cX10_commandMac 213 = .ok (.aload_n 0, 1) := by decide +kernel
theorem dX10_commandMac_214 : decode cX10_commandMac 214 = .ok (.getfield 289, 3) := by decide +kernel
theorem dX10_commandMac_217 : decode cX10_commandMac 217 = .ok (.iload 10, 2) := by decide +kernel
theorem dX10_commandMac_219 : decode cX10_commandMac 219 = .ok (.iload 10, 2) := by decide +kernel
theorem dX10_commandMac_221 : decode cX10_commandMac 221 = .ok (.bipush 8, 2) := by decide +kernel
theorem dX10_commandMac_223 : decode cX10_commandMac 223 = .ok (.if_icmp .lt 8, 3) := by decide +kernel
theorem dX10_commandMac_226 : decode cX10_commandMac 226 = .ok (.iload 9, 2) := by decide +kernel
theorem dX10_commandMac_228 : decode cX10_commandMac 228 = .ok (.ifCond .ne 13, 3) := by decide +kernel
theorem dX10_commandMac_231 : decode cX10_commandMac 231 = .ok (.aload_n 0, 1) := by decide +kernel
theorem dX10_commandMac_232 : decode cX10_commandMac 232 = .ok (.getfield 94, 3) := by decide +kernel
theorem dX10_commandMac_235 : decode cX10_commandMac 235 = .ok (.iload 10, 2) := by decide +kernel
theorem dX10_commandMac_237 : decode cX10_commandMac 237 = .ok (.baload, 1) := by decide +kernel
theorem dX10_commandMac_238 : decode cX10_commandMac 238 = .ok (.goto 4, 3) := by decide +kernel
theorem dX10_commandMac_241 : decode cX10_commandMac 241 = .ok (.iconst 0, 1) := by decide +kernel
theorem dX10_commandMac_242 : decode cX10_commandMac 242 = .ok (.bastore, 1) := by decide +kernel
theorem dX10_commandMac_243 : decode cX10_commandMac 243 = .ok (.iinc 10 1, 3) := by decide +kernel
theorem dX10_commandMac_246 : decode cX10_commandMac 246 = .ok (.goto (-40), 3) := by decide +kernel
theorem dX10_commandMac_249 : decode cX10_commandMac 249 = .ok (.iconst 0, 1) := by decide +kernel
theorem dX10_commandMac_250 : decode cX10_commandMac 250 = .ok (.istore 10, 2) := by decide +kernel
theorem dX10_commandMac_252 : decode cX10_commandMac 252 = .ok (.iload 10, 2) := by decide +kernel
theorem dX10_commandMac_254 : decode cX10_commandMac 254 = .ok (.bipush 16, 2) := by decide +kernel
theorem dX10_commandMac_256 : decode cX10_commandMac 256 = .ok (.if_icmp .ge 28, 3) := by decide +kernel
theorem dX10_commandMac_259 : decode cX10_commandMac 259 = .ok (.aload_n 0, 1) := by decide +kernel
theorem dX10_commandMac_260 : decode cX10_commandMac 260 = .ok (.getfield 258, 3) := by decide +kernel
theorem dX10_commandMac_263 : decode cX10_commandMac 263 = .ok (.bipush 16, 2) := by decide +kernel
theorem dX10_commandMac_265 : decode cX10_commandMac 265 = .ok (.iload_n 1, 1) := by decide +kernel
theorem dX10_commandMac_266 : decode cX10_commandMac 266 = .ok (.imul, 1) := by decide +kernel
theorem dX10_commandMac_267 : decode cX10_commandMac 267 = .ok (.iload 10, 2) := by decide +kernel
theorem dX10_commandMac_269 : decode cX10_commandMac 269 = .ok (.iadd, 1) := by decide +kernel
theorem dX10_commandMac_270 : decode cX10_commandMac 270 = .ok (.aload_n 0, 1) := by decide +kernel
theorem dX10_commandMac_271 : decode cX10_commandMac 271 = .ok (.getfield 289, 3) := by decide +kernel
theorem dX10_commandMac_274 : decode cX10_commandMac 274 = .ok (.iload 10, 2) := by decide +kernel
theorem dX10_commandMac_276 : decode cX10_commandMac 276 = .ok (.baload, 1) := by decide +kernel
theorem dX10_commandMac_277 : decode cX10_commandMac 277 = .ok (.bastore, 1) := by decide +kernel
theorem dX10_commandMac_278 : decode cX10_commandMac 278 = .ok (.iinc 10 1, 3) := by decide +kernel
theorem dX10_commandMac_281 : decode cX10_commandMac 281 = .ok (.goto (-29), 3) := by decide +kernel
theorem dX10_commandMac_284 : decode cX10_commandMac 284 = .ok (.return_, 1) := by decide +kernel
set_option maxHeartbeats 4000000 in
set_option maxRecDepth 100000 in
theorem ct_X10_commandMac_211 (ll : Launch) (D : va_G) (ta : Nat → ClassId) {G : (Nat → Prop) → State → Heap → Prop} (hGok : GOK G) (h0 : Nat) (a : Nat → Nat) (ar : Nat) (mn : Nat) (tp : Nat) (osz : Nat) (lsz : Nat) (ns : Nat) (ct : Nat) (bi : Nat → Bool) (tu : Nat → Bool) (cd : Nat → Bool) (sk : Nat → Bool) (hf : Nat → Bool) (wd : Nat → Bool) (gm : Nat → BitVec 8) (mac : Nat → BitVec 8) (gbl : Nat → BitVec 8) (gco : Nat → BitVec 8) (gch : Nat → BitVec 8) (gke : Nat → BitVec 8) (ru : Nat → Nat) (le : Nat → Nat) (sd : Nat) (hb2 : Nat) (capb : Nat) (gb : Nat → BitVec 8) (f0 : Nat) (n8 : Nat) (hsd : sd ≤ 1) (hru : ru sd = 2) (hn8 : n8 ≤ 300) (hcb : 4 ≤ capb ∧ capb < 2147483648) (hfd : f0 + n8 ≤ capb) (sz : Nat) : CT ll yX10_commandMac cX10_commandMac 11 none ({ frames := 5, cells := 0, slots := 0, locals := 124 } : Room) D ta G [.ref h0, .int (nI sd), .ref hb2, .int (nI 0), .ref hb2, .int (nI f0), .int (nI n8), .int (nI 1)] [(h0, oM a ar mn tp osz lsz ns ct), (a 0, aK ta 64 tIP), (a 1, aK ta 48 tSPR), (a 2, aK ta 32 tMIX), (a 3, aK ta 56 tCH), (a 4, aK ta 48 tSEC), (a 5, aK ta 512 tSBX), (a 10, aB ta 64 bi), (a 11, aB ta 64 tu), (a 12, aB ta 56 cd), (a 13, aB ta 768 sk), (a 14, aB ta 32 hf), (a 15, aB ta 48 wd), (a 22, aS ta 700 gm), (a 24, aS ta 16 mac), (a 53, aS ta 16 gbl), (a 55, aS ta 16 gco), (a 45, aS ta 32 gch), (a 41, aS ta 256 gke), (a 36, aK ta 2 ru), (a 37, aK ta 2 le), (hb2, aS ta capb gb)] sz (S := (Nat → Bool) × (Nat → Bool) × (Nat → Bool) × (Nat → Bool) × (Nat → Bool) × (Nat → Bool) × (Nat → BitVec 8) × (Nat → BitVec 8) × (Nat → BitVec 8) × (Nat → BitVec 8) × (Nat → BitVec 8) × Nat) (fun _ => none) (fun u => (seg u.2.2.2.2.2.2.2.2.2.1 0 8 = retailL (seg gke (128 * sd + 32) 16) (zeroL 8) (headL (seg gb 0 4) n8 ++ seg gb f0 n8)) ∧ (seg u.2.2.2.2.2.2.2.2.2.2.1 (16 * sd) 16 = seg u.2.2.2.2.2.2.2.2.2.1 0 16) ∧ (∀ j, (j < 16 * sd ∨ 16 * sd + 16 ≤ j) → u.2.2.2.2.2.2.2.2.2.2.1 j = gch j)) (fun u => [(h0, oM a ar u.2.2.2.2.2.2.2.2.2.2.2 tp osz lsz ns ct), (a 0, aK ta 64 tIP), (a 1, aK ta 48 tSPR), (a 2, aK ta 32 tMIX), (a 3, aK ta 56 tCH), (a 4, aK ta 48 tSEC), (a 5, aK ta 512 tSBX), (a 10, aB ta 64 u.1), (a 11, aB ta 64 u.2.1), (a 12, aB ta 56 u.2.2.1), (a 13, aB ta 768 u.2.2.2.1), (a 14, aB ta 32 u.2.2.2.2.1), (a 15, aB ta 48 u.2.2.2.2.2.1), (a 22, aS ta 700 u.2.2.2.2.2.2.1), (a 24, aS ta 16 u.2.2.2.2.2.2.2.1), (a 53, aS ta 16 u.2.2.2.2.2.2.2.2.1), (a 55, aS ta 16 u.2.2.2.2.2.2.2.2.2.1), (a 45, aS ta 32 u.2.2.2.2.2.2.2.2.2.2.1), (a 41, aS ta 256 gke), (a 36, aK ta 2 ru), (a 37, aK ta 2 le), (hb2, aS ta capb gb)]) 0 0 := by
  refine CT.of_v rfl (by decide) (Nat.le_of_ble_eq_true rfl) ?_
  intro pp ee ss mm below meth kc A Q hx hb hml hown hin hts hK hA hsz hG hret H locs hP hD hS ls hl
  have hl : lv_has ls 11 [(0, .ref h0), (1, .int (nI sd)), (2, .ref hb2), (3, .int (nI 0)), (4, .ref hb2), (5, .int (nI f0)), (6, .int (nI n8)), (7, .int (nI 1))] := hl
  refine lv_sipush (pc := 0) (v := nI 128) hx hb dX10_commandMac_0 (by decide +kernel) ?_
  refine lv_iload_n (pc := 3) hx hb dX10_commandMac_3 rfl (lv_at hl 1 rfl) ?_
  refine lv_imul (pc := 4) hx hb dX10_commandMac_4 ?_
  refine q_top (y := nI (128 * sd)) (pk_mul 128 sd) ?_
  refine lv_istore (pc := 5) (lv' := [(8, .int (nI (128 * sd))), (0, .ref h0), (1, .int (nI sd)), (2, .ref hb2), (3, .int (nI 0)), (4, .ref hb2), (5, .int (nI f0)), (6, .int (nI n8)), (7, .int (nI 1))]) hx hb dX10_commandMac_5 hl (by decide) rfl (fun ls hl => ?_)
  refine lv_aload_n (pc := 7) hx hb dX10_commandMac_7 rfl (lv_at hl 1 rfl) ?_
  refine va_get (pc := 8) (D := D) (ci := 8) (v := .ref (a 36)) (C := RX10) (T := TX10) (N := 57) hx hb hts iu10 hown hK hP 0 rfl rfl 36 (by decide) (hts _ tw_1081) (fun _ h9 => h9) rfl dX10_commandMac_8 ?_
  refine lv_iload_n (pc := 11) hx hb dX10_commandMac_11 rfl (lv_at hl 2 rfl) ?_
  refine q_iald (pc := 12) hx hb hK hP 19 0 rfl rfl (k := sd) (v := nI (ru sd)) rfl (by omega) (by omega) rfl dX10_commandMac_12 ?_
  refine lv_iconst (pc := 13) (v := nI 2) hx hb dX10_commandMac_13 (by decide +kernel) ?_
  refine lv_icmp_ne (pc := 14) (tgt := 21) hx hb dX10_commandMac_14 (by decide) (fun c_1 => ?_) (fun c_1 => ?_)
  · skip
    rw [nI_eq (by omega) (by omega)] at c_1
    exfalso; omega
  · skip
    rw [nI_eq (by omega) (by omega)] at c_1
    refine lv_iconst (pc := 17) (v := nI 1) hx hb dX10_commandMac_17 (by decide +kernel) ?_
    refine lv_goto (pc := 18) (tgt := 22) hx hb dX10_commandMac_18 (by decide) ?_
    refine lv_istore (pc := 22) (lv' := [(9, .int (nI 1)), (8, .int (nI (128 * sd))), (0, .ref h0), (1, .int (nI sd)), (2, .ref hb2), (3, .int (nI 0)), (4, .ref hb2), (5, .int (nI f0)), (6, .int (nI n8)), (7, .int (nI 1))]) hx hb dX10_commandMac_22 hl (by decide) rfl (fun ls hl => ?_)
    refine lv_iconst (pc := 24) (v := nI 0) hx hb dX10_commandMac_24 (by decide +kernel) ?_
    refine lv_istore (pc := 25) (lv' := [(10, .int (nI 0)), (9, .int (nI 1)), (8, .int (nI (128 * sd))), (0, .ref h0), (1, .int (nI sd)), (2, .ref hb2), (3, .int (nI 0)), (4, .ref hb2), (5, .int (nI f0)), (6, .int (nI n8)), (7, .int (nI 1))]) hx hb dX10_commandMac_25 hl (by decide) rfl (fun ls hl => ?_)
    have LP27 : ∀ (nn27 : Nat) (k1x : Nat) (b' : Nat → BitVec 8), (k1x ≤ 16) → (qSeg b' gbl 0 k1x ((fun _ => 0#8))) → (16 - k1x < nn27) → ∀ (H : Heap) (locs : List Loc), va_P D vwCl [(h0, oM a ar mn tp osz lsz ns ct), (a 0, aK ta 64 tIP), (a 1, aK ta 48 tSPR), (a 2, aK ta 32 tMIX), (a 3, aK ta 56 tCH), (a 4, aK ta 48 tSEC), (a 5, aK ta 512 tSBX), (a 10, aB ta 64 bi), (a 11, aB ta 64 tu), (a 12, aB ta 56 cd), (a 13, aB ta 768 sk), (a 14, aB ta 32 hf), (a 15, aB ta 48 wd), (a 22, aS ta 700 gm), (a 24, aS ta 16 mac), (a 53, aS ta 16 b'), (a 55, aS ta 16 gco), (a 45, aS ta 32 gch), (a 41, aS ta 256 gke), (a 36, aK ta 2 ru), (a 37, aK ta 2 le), (hb2, aS ta capb gb)] H → va_D A [(h0, oM a ar mn tp osz lsz ns ct), (a 0, aK ta 64 tIP), (a 1, aK ta 48 tSPR), (a 2, aK ta 32 tMIX), (a 3, aK ta 56 tCH), (a 4, aK ta 48 tSEC), (a 5, aK ta 512 tSBX), (a 10, aB ta 64 bi), (a 11, aB ta 64 tu), (a 12, aB ta 56 cd), (a 13, aB ta 768 sk), (a 14, aB ta 32 hf), (a 15, aB ta 48 wd), (a 22, aS ta 700 gm), (a 24, aS ta 16 mac), (a 53, aS ta 16 b'), (a 55, aS ta 16 gco), (a 45, aS ta 32 gch), (a 41, aS ta 256 gke), (a 36, aK ta 2 ru), (a 37, aK ta 2 le), (hb2, aS ta capb gb)] → va_S A ss.heap H locs → ∀ ls : Array Slot, lv_has ls 11 [(10, .int (nI k1x)), (9, .int (nI 1)), (8, .int (nI (128 * sd))), (0, .ref h0), (1, .int (nI sd)), (2, .ref hb2), (3, .int (nI 0)), (4, .ref hb2), (5, .int (nI f0)), (6, .int (nI n8)), (7, .int (nI 1))] → W pp ll ee ({ frames := 5, cells := 0, slots := 0, locals := 124 } : Room) ss mm (([.ref h0, .int (nI sd), .ref hb2, .int (nI 0), .ref hb2, .int (nI f0), .int (nI n8), .int (nI 1)] : List Value).toArray) below meth kc H locs 0 0 Q (F0 mm 27 ls []) := by
      intro nn27
      induction nn27 with
      | zero => intro k1x b' hkk1 hs1 hmu; exact absurd hmu (Nat.not_lt_zero _)
      | succ nn27 ih27 =>
        intro k1x b' hkk1 hs1 hmu27 H locs hP hD hS ls hl
        refine lv_iload (pc := 27) hx hb dX10_commandMac_27 (lv_at hl 0 rfl) ?_
        refine lv_bipush (pc := 29) (v := nI 16) hx hb dX10_commandMac_29 (by decide +kernel) ?_
        refine lv_icmp_ge (pc := 31) (tgt := 68) hx hb dX10_commandMac_31 (by decide) (fun c_2 => ?_) (fun c_2 => ?_)
        · skip
          rw [nI_leI (by omega) (by omega)] at c_2
          refine lv_iload (pc := 68) hx hb dX10_commandMac_68 (lv_at hl 1 rfl) ?_
          refine lv_if_eq (pc := 70) (tgt := 97) hx hb dX10_commandMac_70 (by decide) (fun c_3 => absurd c_3 (by decide)) (fun _ => ?_)
          refine lv_iload (pc := 73) hx hb dX10_commandMac_73 (lv_at hl 10 rfl) ?_
          refine lv_if_ne (pc := 75) (tgt := 97) hx hb dX10_commandMac_75 (by decide) (fun _ => ?_) (fun c_4 => absurd c_4 (by decide))
          refine lv_aload_n (pc := 97) hx hb dX10_commandMac_97 rfl (lv_at hl 3 rfl) ?_
          refine cs_V (pc := 98) (idx := 114) (n := 0) (wr := [(a 0, aK ta 64 tIP), (a 1, aK ta 48 tSPR), (a 2, aK ta 32 tMIX), (a 3, aK ta 56 tCH), (a 4, aK ta 48 tSEC), (a 5, aK ta 512 tSBX), (a 10, aB ta 64 bi), (a 11, aB ta 64 tu), (a 12, aB ta 56 cd), (a 13, aB ta 768 sk), (a 14, aB ta 32 hf), (a 15, aB ta 48 wd), (a 22, aS ta 700 gm), (a 24, aS ta 16 mac), (a 53, aS ta 16 b'), (a 55, aS ta 16 gco), (a 45, aS ta 32 gch), (a 41, aS ta 256 gke), (a 36, aK ta 2 ru), (a 37, aK ta 2 le), (hb2, aS ta capb gb)]) (As := []) (rest := []) (ci := 8) hx hb hml hown hts hGok hK hA hG hl.1 hP hD hS (ct_X10_fresh ll D ta hGok h0 a ar mn tp osz lsz ns ct  H.size) tw_1302 tw_1299 tw_1301 tw_35 tw_75 hdX10_fresh rfl ⟨rfl, rfl, Nat.le_of_ble_eq_true rfl, Nat.le_of_ble_eq_true rfl, Nat.le_of_ble_eq_true rfl, Nat.le_of_ble_eq_true rfl⟩ rfl rfl (q0 := 0) rfl [0] [1, 2, 3, 4, 5, 6, 7, 8, 9, 10, 11, 12, 13, 14, 15, 16, 17, 18, 19, 20, 21] rfl rfl (by decide) rfl (Nat.le_of_ble_eq_true rfl) dX10_commandMac_98 (fun u H locs hq hP hD hS => ?_)
          refine W.eq (g2 := F0 mm 101 ls []) rfl ?_
          have hP : va_P D vwCl [(a 0, aK ta 64 tIP), (a 1, aK ta 48 tSPR), (a 2, aK ta 32 tMIX), (a 3, aK ta 56 tCH), (a 4, aK ta 48 tSEC), (a 5, aK ta 512 tSBX), (a 10, aB ta 64 bi), (a 11, aB ta 64 tu), (a 12, aB ta 56 cd), (a 13, aB ta 768 sk), (a 14, aB ta 32 hf), (a 15, aB ta 48 wd), (a 22, aS ta 700 gm), (a 24, aS ta 16 mac), (a 53, aS ta 16 b'), (a 55, aS ta 16 gco), (a 45, aS ta 32 gch), (a 41, aS ta 256 gke), (a 36, aK ta 2 ru), (a 37, aK ta 2 le), (hb2, aS ta capb gb), (h0, oM a ar 0 tp osz lsz ns ct)] H := hP
          have hD : va_D A [(a 0, aK ta 64 tIP), (a 1, aK ta 48 tSPR), (a 2, aK ta 32 tMIX), (a 3, aK ta 56 tCH), (a 4, aK ta 48 tSEC), (a 5, aK ta 512 tSBX), (a 10, aB ta 64 bi), (a 11, aB ta 64 tu), (a 12, aB ta 56 cd), (a 13, aB ta 768 sk), (a 14, aB ta 32 hf), (a 15, aB ta 48 wd), (a 22, aS ta 700 gm), (a 24, aS ta 16 mac), (a 53, aS ta 16 b'), (a 55, aS ta 16 gco), (a 45, aS ta 32 gch), (a 41, aS ta 256 gke), (a 36, aK ta 2 ru), (a 37, aK ta 2 le), (hb2, aS ta capb gb), (h0, oM a ar 0 tp osz lsz ns ct)] := hD
          refine lv_iload (pc := 101) hx hb dX10_commandMac_101 (lv_at hl 1 rfl) ?_
          refine lv_if_ne (pc := 103) (tgt := 117) hx hb dX10_commandMac_103 (by decide) (fun _ => ?_) (fun c_5 => absurd c_5 (by decide))
          refine lv_aload_n (pc := 117) hx hb dX10_commandMac_117 rfl (lv_at hl 3 rfl) ?_
          refine lv_aload_n (pc := 118) hx hb dX10_commandMac_118 rfl (lv_at hl 5 rfl) ?_
          refine lv_iload_n (pc := 119) hx hb dX10_commandMac_119 rfl (lv_at hl 6 rfl) ?_
          refine q_bald (pc := 120) hx hb hK hP 20 2 rfl rfl (k := 0) (v := qs (gb 0)) rfl (by omega) (by omega) rfl dX10_commandMac_120 ?_
          refine lv_sipush (pc := 121) (v := nI 252) hx hb dX10_commandMac_121 (by decide +kernel) ?_
          refine lv_iand (pc := 124) hx hb dX10_commandMac_124 ?_
          refine lv_iconst (pc := 125) (v := nI 4) hx hb dX10_commandMac_125 (by decide +kernel) ?_
          refine lv_ior (pc := 126) hx hb dX10_commandMac_126 ?_
          refine cs_V (pc := 127) (idx := 87) (n := 1) (wr := [(a 0, aK ta 64 tIP), (a 1, aK ta 48 tSPR), (a 2, aK ta 32 tMIX), (a 3, aK ta 56 tCH), (a 4, aK ta 48 tSEC), (a 5, aK ta 512 tSBX), (a 10, aB ta 64 bi), (a 11, aB ta 64 tu), (a 12, aB ta 56 cd), (a 13, aB ta 768 sk), (a 14, aB ta 32 hf), (a 15, aB ta 48 wd), (a 24, aS ta 16 mac), (a 53, aS ta 16 b'), (a 55, aS ta 16 gco), (a 45, aS ta 32 gch), (a 41, aS ta 256 gke), (a 36, aK ta 2 ru), (a 37, aK ta 2 le), (hb2, aS ta capb gb)]) (As := [.int (((qs (gb 0)) &&& (nI 252)) ||| (nI 4))]) (rest := []) (ci := 8) hx hb hml hown hts hGok hK hA hG hl.1 hP hD hS (ct_X10_add ll D ta hGok h0 a ar 0 tp osz lsz ns ct gm (((qs (gb 0)) &&& (nI 252)) ||| (nI 4)) (by first | assumption | omega | rfl | decide) H.size) tw_1310 tw_1307 tw_1309 tw_37 tw_75 hdX10_add rfl ⟨rfl, rfl, Nat.le_of_ble_eq_true rfl, Nat.le_of_ble_eq_true rfl, Nat.le_of_ble_eq_true rfl, Nat.le_of_ble_eq_true rfl⟩ rfl rfl (q0 := 21) rfl [21, 12] [0, 1, 2, 3, 4, 5, 6, 7, 8, 9, 10, 11, 13, 14, 15, 16, 17, 18, 19, 20] rfl rfl (by decide) rfl (Nat.le_of_ble_eq_true rfl) dX10_commandMac_127 (fun u H locs hq hP hD hS => ?_)
          generalize u = gm1_127 at hq hP hD ⊢
          have hq : (qL gm1_127 (0 + 1) = qL gm 0 ++ [qlo (((qs (gb 0)) &&& (nI 252)) ||| (nI 4))]) := hq
          have hL_127 := hq
          refine W.eq (g2 := F0 mm 130 ls []) rfl ?_
          have hP : va_P D vwCl [(a 0, aK ta 64 tIP), (a 1, aK ta 48 tSPR), (a 2, aK ta 32 tMIX), (a 3, aK ta 56 tCH), (a 4, aK ta 48 tSEC), (a 5, aK ta 512 tSBX), (a 10, aB ta 64 bi), (a 11, aB ta 64 tu), (a 12, aB ta 56 cd), (a 13, aB ta 768 sk), (a 14, aB ta 32 hf), (a 15, aB ta 48 wd), (a 24, aS ta 16 mac), (a 53, aS ta 16 b'), (a 55, aS ta 16 gco), (a 45, aS ta 32 gch), (a 41, aS ta 256 gke), (a 36, aK ta 2 ru), (a 37, aK ta 2 le), (hb2, aS ta capb gb), (h0, oM a ar (0 + 1) tp osz lsz ns ct), (a 22, aS ta 700 gm1_127)] H := hP
          have hD : va_D A [(a 0, aK ta 64 tIP), (a 1, aK ta 48 tSPR), (a 2, aK ta 32 tMIX), (a 3, aK ta 56 tCH), (a 4, aK ta 48 tSEC), (a 5, aK ta 512 tSBX), (a 10, aB ta 64 bi), (a 11, aB ta 64 tu), (a 12, aB ta 56 cd), (a 13, aB ta 768 sk), (a 14, aB ta 32 hf), (a 15, aB ta 48 wd), (a 24, aS ta 16 mac), (a 53, aS ta 16 b'), (a 55, aS ta 16 gco), (a 45, aS ta 32 gch), (a 41, aS ta 256 gke), (a 36, aK ta 2 ru), (a 37, aK ta 2 le), (hb2, aS ta capb gb), (h0, oM a ar (0 + 1) tp osz lsz ns ct), (a 22, aS ta 700 gm1_127)] := hD
          refine lv_aload_n (pc := 130) hx hb dX10_commandMac_130 rfl (lv_at hl 3 rfl) ?_
          refine lv_aload_n (pc := 131) hx hb dX10_commandMac_131 rfl (lv_at hl 5 rfl) ?_
          refine lv_iload_n (pc := 132) hx hb dX10_commandMac_132 rfl (lv_at hl 6 rfl) ?_
          refine lv_iconst (pc := 133) (v := nI 1) hx hb dX10_commandMac_133 (by decide +kernel) ?_
          refine lv_iadd (pc := 134) hx hb dX10_commandMac_134 ?_
          refine q_top (y := nI 1) (by decide +kernel) ?_
          refine lv_iconst (pc := 135) (v := nI 3) hx hb dX10_commandMac_135 (by decide +kernel) ?_
          refine cs_V (pc := 136) (idx := 121) (n := 3) (wr := [(a 0, aK ta 64 tIP), (a 1, aK ta 48 tSPR), (a 2, aK ta 32 tMIX), (a 3, aK ta 56 tCH), (a 4, aK ta 48 tSEC), (a 5, aK ta 512 tSBX), (a 10, aB ta 64 bi), (a 11, aB ta 64 tu), (a 12, aB ta 56 cd), (a 13, aB ta 768 sk), (a 14, aB ta 32 hf), (a 15, aB ta 48 wd), (a 24, aS ta 16 mac), (a 53, aS ta 16 b'), (a 55, aS ta 16 gco), (a 45, aS ta 32 gch), (a 41, aS ta 256 gke), (a 36, aK ta 2 ru), (a 37, aK ta 2 le)]) (As := [.ref hb2, .int (nI 1), .int (nI 3)]) (rest := []) (ci := 8) hx hb hml hown hts hGok hK hA hG hl.1 hP hD hS (ct_X10_addAll ll D ta hGok h0 a ar (0 + 1) tp osz lsz ns ct gm1_127 hb2 1 capb gb 3 (by first | assumption | omega | rfl | decide) (by first | assumption | omega | rfl | decide) (by first | assumption | omega | rfl | decide) H.size) tw_1306 tw_1303 tw_1305 tw_36 tw_75 hdX10_addAll rfl ⟨rfl, rfl, Nat.le_of_ble_eq_true rfl, Nat.le_of_ble_eq_true rfl, Nat.le_of_ble_eq_true rfl, Nat.le_of_ble_eq_true rfl⟩ rfl rfl (q0 := 20) rfl [20, 21, 19] [0, 1, 2, 3, 4, 5, 6, 7, 8, 9, 10, 11, 12, 13, 14, 15, 16, 17, 18] rfl rfl (by decide) rfl (Nat.le_of_ble_eq_true rfl) dX10_commandMac_136 (fun u H locs hq hP hD hS => ?_)
          generalize u = gm1_136 at hq hP hD ⊢
          have hq : (qL gm1_136 ((0 + 1) + 3) = qL gm1_127 (0 + 1) ++ seg gb 1 3) := hq
          have hL_136 := hq
          refine W.eq (g2 := F0 mm 139 ls []) rfl ?_
          have hP : va_P D vwCl [(a 0, aK ta 64 tIP), (a 1, aK ta 48 tSPR), (a 2, aK ta 32 tMIX), (a 3, aK ta 56 tCH), (a 4, aK ta 48 tSEC), (a 5, aK ta 512 tSBX), (a 10, aB ta 64 bi), (a 11, aB ta 64 tu), (a 12, aB ta 56 cd), (a 13, aB ta 768 sk), (a 14, aB ta 32 hf), (a 15, aB ta 48 wd), (a 24, aS ta 16 mac), (a 53, aS ta 16 b'), (a 55, aS ta 16 gco), (a 45, aS ta 32 gch), (a 41, aS ta 256 gke), (a 36, aK ta 2 ru), (a 37, aK ta 2 le), (h0, oM a ar ((0 + 1) + 3) tp osz lsz ns ct), (a 22, aS ta 700 gm1_136), (hb2, aS ta capb gb)] H := hP
          have hD : va_D A [(a 0, aK ta 64 tIP), (a 1, aK ta 48 tSPR), (a 2, aK ta 32 tMIX), (a 3, aK ta 56 tCH), (a 4, aK ta 48 tSEC), (a 5, aK ta 512 tSBX), (a 10, aB ta 64 bi), (a 11, aB ta 64 tu), (a 12, aB ta 56 cd), (a 13, aB ta 768 sk), (a 14, aB ta 32 hf), (a 15, aB ta 48 wd), (a 24, aS ta 16 mac), (a 53, aS ta 16 b'), (a 55, aS ta 16 gco), (a 45, aS ta 32 gch), (a 41, aS ta 256 gke), (a 36, aK ta 2 ru), (a 37, aK ta 2 le), (h0, oM a ar ((0 + 1) + 3) tp osz lsz ns ct), (a 22, aS ta 700 gm1_136), (hb2, aS ta capb gb)] := hD
          refine lv_aload_n (pc := 139) hx hb dX10_commandMac_139 rfl (lv_at hl 3 rfl) ?_
          refine lv_iload (pc := 140) hx hb dX10_commandMac_140 (lv_at hl 9 rfl) ?_
          refine lv_bipush (pc := 142) (v := nI 8) hx hb dX10_commandMac_142 (by decide +kernel) ?_
          refine lv_iadd (pc := 144) hx hb dX10_commandMac_144 ?_
          refine q_top (y := nI (n8 + 8)) (nI_add n8 8) ?_
          refine cs_V (pc := 145) (idx := 353) (n := 1) (wr := [(a 0, aK ta 64 tIP), (a 1, aK ta 48 tSPR), (a 2, aK ta 32 tMIX), (a 3, aK ta 56 tCH), (a 4, aK ta 48 tSEC), (a 5, aK ta 512 tSBX), (a 10, aB ta 64 bi), (a 11, aB ta 64 tu), (a 12, aB ta 56 cd), (a 13, aB ta 768 sk), (a 14, aB ta 32 hf), (a 15, aB ta 48 wd), (a 24, aS ta 16 mac), (a 53, aS ta 16 b'), (a 55, aS ta 16 gco), (a 45, aS ta 32 gch), (a 41, aS ta 256 gke), (a 36, aK ta 2 ru), (a 37, aK ta 2 le), (hb2, aS ta capb gb)]) (As := [.int (nI (n8 + 8))]) (rest := []) (ci := 8) hx hb hml hown hts hGok hK hA hG hl.1 hP hD hS (ct_X10_addLength ll D ta hGok h0 a ar ((0 + 1) + 3) tp osz lsz ns ct gm1_136 (n8 + 8) (by first | assumption | omega | rfl | decide) (by first | assumption | omega | rfl | decide) H.size) tw_1372 tw_1369 tw_1371 tw_50 tw_75 hdX10_addLength rfl ⟨rfl, rfl, Nat.le_of_ble_eq_true rfl, Nat.le_of_ble_eq_true rfl, Nat.le_of_ble_eq_true rfl, Nat.le_of_ble_eq_true rfl⟩ rfl rfl (q0 := 19) rfl [19, 20] [0, 1, 2, 3, 4, 5, 6, 7, 8, 9, 10, 11, 12, 13, 14, 15, 16, 17, 18, 21] rfl rfl (by decide) rfl (Nat.le_of_ble_eq_true rfl) dX10_commandMac_145 (fun u H locs hq hP hD hS => ?_)
          generalize u = gm1_145 at hq hP hD ⊢
          have hq : (qL gm1_145 (((0 + 1) + 3) + 1) = qL gm1_136 ((0 + 1) + 3) ++ [BitVec.ofNat 8 (n8 + 8)]) := hq
          have hL_145 := hq
          refine W.eq (g2 := F0 mm 148 ls []) rfl ?_
          have hP : va_P D vwCl [(a 0, aK ta 64 tIP), (a 1, aK ta 48 tSPR), (a 2, aK ta 32 tMIX), (a 3, aK ta 56 tCH), (a 4, aK ta 48 tSEC), (a 5, aK ta 512 tSBX), (a 10, aB ta 64 bi), (a 11, aB ta 64 tu), (a 12, aB ta 56 cd), (a 13, aB ta 768 sk), (a 14, aB ta 32 hf), (a 15, aB ta 48 wd), (a 24, aS ta 16 mac), (a 53, aS ta 16 b'), (a 55, aS ta 16 gco), (a 45, aS ta 32 gch), (a 41, aS ta 256 gke), (a 36, aK ta 2 ru), (a 37, aK ta 2 le), (hb2, aS ta capb gb), (h0, oM a ar (((0 + 1) + 3) + 1) tp osz lsz ns ct), (a 22, aS ta 700 gm1_145)] H := hP
          have hD : va_D A [(a 0, aK ta 64 tIP), (a 1, aK ta 48 tSPR), (a 2, aK ta 32 tMIX), (a 3, aK ta 56 tCH), (a 4, aK ta 48 tSEC), (a 5, aK ta 512 tSBX), (a 10, aB ta 64 bi), (a 11, aB ta 64 tu), (a 12, aB ta 56 cd), (a 13, aB ta 768 sk), (a 14, aB ta 32 hf), (a 15, aB ta 48 wd), (a 24, aS ta 16 mac), (a 53, aS ta 16 b'), (a 55, aS ta 16 gco), (a 45, aS ta 32 gch), (a 41, aS ta 256 gke), (a 36, aK ta 2 ru), (a 37, aK ta 2 le), (hb2, aS ta capb gb), (h0, oM a ar (((0 + 1) + 3) + 1) tp osz lsz ns ct), (a 22, aS ta 700 gm1_145)] := hD
          refine lv_aload_n (pc := 148) hx hb dX10_commandMac_148 rfl (lv_at hl 3 rfl) ?_
          refine lv_aload (pc := 149) hx hb dX10_commandMac_149 (lv_at hl 7 rfl) ?_
          refine lv_iload (pc := 151) hx hb dX10_commandMac_151 (lv_at hl 8 rfl) ?_
          refine lv_iload (pc := 153) hx hb dX10_commandMac_153 (lv_at hl 9 rfl) ?_
          refine cs_V (pc := 155) (idx := 121) (n := 3) (wr := [(a 0, aK ta 64 tIP), (a 1, aK ta 48 tSPR), (a 2, aK ta 32 tMIX), (a 3, aK ta 56 tCH), (a 4, aK ta 48 tSEC), (a 5, aK ta 512 tSBX), (a 10, aB ta 64 bi), (a 11, aB ta 64 tu), (a 12, aB ta 56 cd), (a 13, aB ta 768 sk), (a 14, aB ta 32 hf), (a 15, aB ta 48 wd), (a 24, aS ta 16 mac), (a 53, aS ta 16 b'), (a 55, aS ta 16 gco), (a 45, aS ta 32 gch), (a 41, aS ta 256 gke), (a 36, aK ta 2 ru), (a 37, aK ta 2 le)]) (As := [.ref hb2, .int (nI f0), .int (nI n8)]) (rest := []) (ci := 8) hx hb hml hown hts hGok hK hA hG hl.1 hP hD hS (ct_X10_addAll ll D ta hGok h0 a ar (((0 + 1) + 3) + 1) tp osz lsz ns ct gm1_145 hb2 f0 capb gb n8 (by first | assumption | omega | rfl | decide) (by first | assumption | omega | rfl | decide) (by first | assumption | omega | rfl | decide) H.size) tw_1306 tw_1303 tw_1305 tw_36 tw_75 hdX10_addAll rfl ⟨rfl, rfl, Nat.le_of_ble_eq_true rfl, Nat.le_of_ble_eq_true rfl, Nat.le_of_ble_eq_true rfl, Nat.le_of_ble_eq_true rfl⟩ rfl rfl (q0 := 20) rfl [20, 21, 19] [0, 1, 2, 3, 4, 5, 6, 7, 8, 9, 10, 11, 12, 13, 14, 15, 16, 17, 18] rfl rfl (by decide) rfl (Nat.le_of_ble_eq_true rfl) dX10_commandMac_155 (fun u H locs hq hP hD hS => ?_)
          generalize u = gm1_155 at hq hP hD ⊢
          have hq : (qL gm1_155 ((((0 + 1) + 3) + 1) + n8) = qL gm1_145 (((0 + 1) + 3) + 1) ++ seg gb f0 n8) := hq
          have hL_155 := hq
          refine W.eq (g2 := F0 mm 158 ls []) rfl ?_
          have hP : va_P D vwCl [(a 0, aK ta 64 tIP), (a 1, aK ta 48 tSPR), (a 2, aK ta 32 tMIX), (a 3, aK ta 56 tCH), (a 4, aK ta 48 tSEC), (a 5, aK ta 512 tSBX), (a 10, aB ta 64 bi), (a 11, aB ta 64 tu), (a 12, aB ta 56 cd), (a 13, aB ta 768 sk), (a 14, aB ta 32 hf), (a 15, aB ta 48 wd), (a 24, aS ta 16 mac), (a 53, aS ta 16 b'), (a 55, aS ta 16 gco), (a 45, aS ta 32 gch), (a 41, aS ta 256 gke), (a 36, aK ta 2 ru), (a 37, aK ta 2 le), (h0, oM a ar ((((0 + 1) + 3) + 1) + n8) tp osz lsz ns ct), (a 22, aS ta 700 gm1_155), (hb2, aS ta capb gb)] H := hP
          have hD : va_D A [(a 0, aK ta 64 tIP), (a 1, aK ta 48 tSPR), (a 2, aK ta 32 tMIX), (a 3, aK ta 56 tCH), (a 4, aK ta 48 tSEC), (a 5, aK ta 512 tSBX), (a 10, aB ta 64 bi), (a 11, aB ta 64 tu), (a 12, aB ta 56 cd), (a 13, aB ta 768 sk), (a 14, aB ta 32 hf), (a 15, aB ta 48 wd), (a 24, aS ta 16 mac), (a 53, aS ta 16 b'), (a 55, aS ta 16 gco), (a 45, aS ta 32 gch), (a 41, aS ta 256 gke), (a 36, aK ta 2 ru), (a 37, aK ta 2 le), (h0, oM a ar ((((0 + 1) + 3) + 1) + n8) tp osz lsz ns ct), (a 22, aS ta 700 gm1_155), (hb2, aS ta capb gb)] := hD
          refine lv_iload (pc := 158) hx hb dX10_commandMac_158 (lv_at hl 1 rfl) ?_
          refine lv_if_eq (pc := 160) (tgt := 184) hx hb dX10_commandMac_160 (by decide) (fun c_6 => absurd c_6 (by decide)) (fun _ => ?_)
          refine lv_aload_n (pc := 163) hx hb dX10_commandMac_163 rfl (lv_at hl 3 rfl) ?_
          refine lv_aload_n (pc := 164) hx hb dX10_commandMac_164 rfl (lv_at hl 3 rfl) ?_
          refine va_get (pc := 165) (D := D) (ci := 8) (v := .ref (a 41)) (C := RX10) (T := TX10) (N := 57) hx hb hts iu10 hown hK hP 19 rfl rfl 41 (by decide) (hts _ tw_1086) (fun _ h9 => h9) rfl dX10_commandMac_165 ?_
          refine lv_iload (pc := 168) hx hb dX10_commandMac_168 (lv_at hl 2 rfl) ?_
          refine lv_bipush (pc := 170) (v := nI 32) hx hb dX10_commandMac_170 (by decide +kernel) ?_
          refine lv_iadd (pc := 172) hx hb dX10_commandMac_172 ?_
          refine q_top (y := nI (128 * sd + 32)) (nI_add (128 * sd) 32) ?_
          refine lv_aload_n (pc := 173) hx hb dX10_commandMac_173 rfl (lv_at hl 3 rfl) ?_
          refine va_get (pc := 174) (D := D) (ci := 8) (v := .ref (a 53)) (C := RX10) (T := TX10) (N := 57) hx hb hts iu10 hown hK hP 19 rfl rfl 53 (by decide) (hts _ tw_1098) (fun _ h9 => h9) rfl dX10_commandMac_174 ?_
          refine lv_iconst (pc := 177) (v := nI 0) hx hb dX10_commandMac_177 (by decide +kernel) ?_
          refine cs_V (pc := 178) (idx := 332) (n := 4) (wr := [(a 55, aS ta 16 gco), (a 45, aS ta 32 gch), (a 36, aK ta 2 ru), (a 37, aK ta 2 le), (hb2, aS ta capb gb)]) (As := [.ref (a 41), .int (nI (128 * sd + 32)), .ref (a 53), .int (nI 0)]) (rest := []) (ci := 8) hx hb hml hown hts hGok hK hA hG hl.1 hP hD hS (ct_X10_retail ll D ta hGok h0 a ar ((((0 + 1) + 3) + 1) + n8) tp osz lsz ns ct gm1_155 mac (a 41) (128 * sd + 32) 256 gke (a 53) 0 16 b' bi tu cd sk hf wd (by first | assumption | omega | rfl | decide) (by first | assumption | omega | rfl | decide) (by first | assumption | omega | rfl | decide) (by first | assumption | omega | rfl | decide) (by first | assumption | omega | rfl | decide) H.size) tw_1314 tw_1311 tw_1313 tw_38 tw_75 hdX10_retail rfl ⟨rfl, rfl, Nat.le_of_ble_eq_true rfl, Nat.le_of_ble_eq_true rfl, Nat.le_of_ble_eq_true rfl, Nat.le_of_ble_eq_true rfl⟩ rfl rfl (q0 := 19) rfl [19, 20, 12, 0, 1, 2, 3, 4, 5, 6, 7, 8, 9, 10, 11, 16, 13] [14, 15, 17, 18, 21] rfl rfl (by decide) rfl (Nat.le_of_ble_eq_true rfl) dX10_commandMac_178 (fun u H locs hq hP hD hS => ?_)
          obtain ⟨gm1_178, mn1_178, mac1_178, bi1_178, tu1_178, cd1_178, sk1_178, hf1_178, wd1_178⟩ := u
          have hq : (seg mac1_178 0 8 = retailL (seg gke (128 * sd + 32) 16) (seg b' 0 8) (qL gm1_155 ((((0 + 1) + 3) + 1) + n8))) := hq
          have hL_178 := hq
          refine W.eq (g2 := F0 mm 181 ls []) rfl ?_
          have hP : va_P D vwCl [(a 55, aS ta 16 gco), (a 45, aS ta 32 gch), (a 36, aK ta 2 ru), (a 37, aK ta 2 le), (hb2, aS ta capb gb), (h0, oM a ar mn1_178 tp osz lsz ns ct), (a 22, aS ta 700 gm1_178), (a 24, aS ta 16 mac1_178), (a 0, aK ta 64 tIP), (a 1, aK ta 48 tSPR), (a 2, aK ta 32 tMIX), (a 3, aK ta 56 tCH), (a 4, aK ta 48 tSEC), (a 5, aK ta 512 tSBX), (a 10, aB ta 64 bi1_178), (a 11, aB ta 64 tu1_178), (a 12, aB ta 56 cd1_178), (a 13, aB ta 768 sk1_178), (a 14, aB ta 32 hf1_178), (a 15, aB ta 48 wd1_178), (a 41, aS ta 256 gke), (a 53, aS ta 16 b')] H := hP
          have hD : va_D A [(a 55, aS ta 16 gco), (a 45, aS ta 32 gch), (a 36, aK ta 2 ru), (a 37, aK ta 2 le), (hb2, aS ta capb gb), (h0, oM a ar mn1_178 tp osz lsz ns ct), (a 22, aS ta 700 gm1_178), (a 24, aS ta 16 mac1_178), (a 0, aK ta 64 tIP), (a 1, aK ta 48 tSPR), (a 2, aK ta 32 tMIX), (a 3, aK ta 56 tCH), (a 4, aK ta 48 tSEC), (a 5, aK ta 512 tSBX), (a 10, aB ta 64 bi1_178), (a 11, aB ta 64 tu1_178), (a 12, aB ta 56 cd1_178), (a 13, aB ta 768 sk1_178), (a 14, aB ta 32 hf1_178), (a 15, aB ta 48 wd1_178), (a 41, aS ta 256 gke), (a 53, aS ta 16 b')] := hD
          refine lv_goto (pc := 181) (tgt := 203) hx hb dX10_commandMac_181 (by decide) ?_
          refine lv_iconst (pc := 203) (v := nI 0) hx hb dX10_commandMac_203 (by decide +kernel) ?_
          refine lv_istore (pc := 204) (lv' := [(10, .int (nI 0)), (9, .int (nI 1)), (8, .int (nI (128 * sd))), (0, .ref h0), (1, .int (nI sd)), (2, .ref hb2), (3, .int (nI 0)), (4, .ref hb2), (5, .int (nI f0)), (6, .int (nI n8)), (7, .int (nI 1))]) hx hb dX10_commandMac_204 hl (by decide) rfl (fun ls hl => ?_)
          have LP206 : ∀ (nn206 : Nat) (k2x : Nat) (c' : Nat → BitVec 8), (k2x ≤ 16) → (qSeg c' gco 0 k2x ((fun j => if j < 8 then mac1_178 j else 0#8))) → (16 - k2x < nn206) → ∀ (H : Heap) (locs : List Loc), va_P D vwCl [(a 55, aS ta 16 c'), (a 45, aS ta 32 gch), (a 36, aK ta 2 ru), (a 37, aK ta 2 le), (hb2, aS ta capb gb), (h0, oM a ar mn1_178 tp osz lsz ns ct), (a 22, aS ta 700 gm1_178), (a 24, aS ta 16 mac1_178), (a 0, aK ta 64 tIP), (a 1, aK ta 48 tSPR), (a 2, aK ta 32 tMIX), (a 3, aK ta 56 tCH), (a 4, aK ta 48 tSEC), (a 5, aK ta 512 tSBX), (a 10, aB ta 64 bi1_178), (a 11, aB ta 64 tu1_178), (a 12, aB ta 56 cd1_178), (a 13, aB ta 768 sk1_178), (a 14, aB ta 32 hf1_178), (a 15, aB ta 48 wd1_178), (a 41, aS ta 256 gke), (a 53, aS ta 16 b')] H → va_D A [(a 55, aS ta 16 c'), (a 45, aS ta 32 gch), (a 36, aK ta 2 ru), (a 37, aK ta 2 le), (hb2, aS ta capb gb), (h0, oM a ar mn1_178 tp osz lsz ns ct), (a 22, aS ta 700 gm1_178), (a 24, aS ta 16 mac1_178), (a 0, aK ta 64 tIP), (a 1, aK ta 48 tSPR), (a 2, aK ta 32 tMIX), (a 3, aK ta 56 tCH), (a 4, aK ta 48 tSEC), (a 5, aK ta 512 tSBX), (a 10, aB ta 64 bi1_178), (a 11, aB ta 64 tu1_178), (a 12, aB ta 56 cd1_178), (a 13, aB ta 768 sk1_178), (a 14, aB ta 32 hf1_178), (a 15, aB ta 48 wd1_178), (a 41, aS ta 256 gke), (a 53, aS ta 16 b')] → va_S A ss.heap H locs → ∀ ls : Array Slot, lv_has ls 11 [(10, .int (nI k2x)), (9, .int (nI 1)), (8, .int (nI (128 * sd))), (0, .ref h0), (1, .int (nI sd)), (2, .ref hb2), (3, .int (nI 0)), (4, .ref hb2), (5, .int (nI f0)), (6, .int (nI n8)), (7, .int (nI 1))] → W pp ll ee ({ frames := 5, cells := 0, slots := 0, locals := 124 } : Room) ss mm (([.ref h0, .int (nI sd), .ref hb2, .int (nI 0), .ref hb2, .int (nI f0), .int (nI n8), .int (nI 1)] : List Value).toArray) below meth kc H locs 0 0 Q (F0 mm 206 ls []) := by
            intro nn206
            induction nn206 with
            | zero => intro k2x c' hkk2 hs2 hmu; exact absurd hmu (Nat.not_lt_zero _)
            | succ nn206 ih206 =>
              intro k2x c' hkk2 hs2 hmu206 H locs hP hD hS ls hl
              refine lv_iload (pc := 206) hx hb dX10_commandMac_206 (lv_at hl 0 rfl) ?_
              refine lv_bipush (pc := 208) (v := nI 16) hx hb dX10_commandMac_208 (by decide +kernel) ?_
              refine lv_icmp_ge (pc := 210) (tgt := 249) hx hb dX10_commandMac_210 (by decide) (fun c_7 => ?_) (fun c_7 => ?_)
              · skip
                rw [nI_leI (by omega) (by omega)] at c_7
                refine lv_iconst (pc := 249) (v := nI 0) hx hb dX10_commandMac_249 (by decide +kernel) ?_
                refine lv_istore (pc := 250) (lv' := [(10, .int (nI 0)), (9, .int (nI 1)), (8, .int (nI (128 * sd))), (0, .ref h0), (1, .int (nI sd)), (2, .ref hb2), (3, .int (nI 0)), (4, .ref hb2), (5, .int (nI f0)), (6, .int (nI n8)), (7, .int (nI 1))]) hx hb dX10_commandMac_250 hl (by decide) rfl (fun ls hl => ?_)
                have LP252 : ∀ (nn252 : Nat) (k3x : Nat) (d' : Nat → BitVec 8), (k3x ≤ 16) → (qSeg d' gch (16 * sd) k3x c') → (16 - k3x < nn252) → ∀ (H : Heap) (locs : List Loc), va_P D vwCl [(a 55, aS ta 16 c'), (a 45, aS ta 32 d'), (a 36, aK ta 2 ru), (a 37, aK ta 2 le), (hb2, aS ta capb gb), (h0, oM a ar mn1_178 tp osz lsz ns ct), (a 22, aS ta 700 gm1_178), (a 24, aS ta 16 mac1_178), (a 0, aK ta 64 tIP), (a 1, aK ta 48 tSPR), (a 2, aK ta 32 tMIX), (a 3, aK ta 56 tCH), (a 4, aK ta 48 tSEC), (a 5, aK ta 512 tSBX), (a 10, aB ta 64 bi1_178), (a 11, aB ta 64 tu1_178), (a 12, aB ta 56 cd1_178), (a 13, aB ta 768 sk1_178), (a 14, aB ta 32 hf1_178), (a 15, aB ta 48 wd1_178), (a 41, aS ta 256 gke), (a 53, aS ta 16 b')] H → va_D A [(a 55, aS ta 16 c'), (a 45, aS ta 32 d'), (a 36, aK ta 2 ru), (a 37, aK ta 2 le), (hb2, aS ta capb gb), (h0, oM a ar mn1_178 tp osz lsz ns ct), (a 22, aS ta 700 gm1_178), (a 24, aS ta 16 mac1_178), (a 0, aK ta 64 tIP), (a 1, aK ta 48 tSPR), (a 2, aK ta 32 tMIX), (a 3, aK ta 56 tCH), (a 4, aK ta 48 tSEC), (a 5, aK ta 512 tSBX), (a 10, aB ta 64 bi1_178), (a 11, aB ta 64 tu1_178), (a 12, aB ta 56 cd1_178), (a 13, aB ta 768 sk1_178), (a 14, aB ta 32 hf1_178), (a 15, aB ta 48 wd1_178), (a 41, aS ta 256 gke), (a 53, aS ta 16 b')] → va_S A ss.heap H locs → ∀ ls : Array Slot, lv_has ls 11 [(10, .int (nI k3x)), (9, .int (nI 1)), (8, .int (nI (128 * sd))), (0, .ref h0), (1, .int (nI sd)), (2, .ref hb2), (3, .int (nI 0)), (4, .ref hb2), (5, .int (nI f0)), (6, .int (nI n8)), (7, .int (nI 1))] → W pp ll ee ({ frames := 5, cells := 0, slots := 0, locals := 124 } : Room) ss mm (([.ref h0, .int (nI sd), .ref hb2, .int (nI 0), .ref hb2, .int (nI f0), .int (nI n8), .int (nI 1)] : List Value).toArray) below meth kc H locs 0 0 Q (F0 mm 252 ls []) := by
                  intro nn252
                  induction nn252 with
                  | zero => intro k3x d' hkk3 hs3 hmu; exact absurd hmu (Nat.not_lt_zero _)
                  | succ nn252 ih252 =>
                    intro k3x d' hkk3 hs3 hmu252 H locs hP hD hS ls hl
                    refine lv_iload (pc := 252) hx hb dX10_commandMac_252 (lv_at hl 0 rfl) ?_
                    refine lv_bipush (pc := 254) (v := nI 16) hx hb dX10_commandMac_254 (by decide +kernel) ?_
                    refine lv_icmp_ge (pc := 256) (tgt := 284) hx hb dX10_commandMac_256 (by decide) (fun c_8 => ?_) (fun c_8 => ?_)
                    · skip
                      rw [nI_leI (by omega) (by omega)] at c_8
                      have hq_9 : (seg c' 0 8 = retailL (seg gke (128 * sd + 32) 16) (zeroL 8) (headL (seg gb 0 4) n8 ++ seg gb f0 n8)) ∧ (seg d' (16 * sd) 16 = seg c' 0 16) ∧ (∀ j, (j < 16 * sd ∨ 16 * sd + 16 ≤ j) → d' j = gch j) := by
                        have hT : qL gm1_155 (0 + 1 + 3 + 1 + n8) = (headL (seg gb 0 4) n8 ++ seg gb f0 n8) := by
                          have e := head_ref (g := gb) (n := n8) (gm := gb) rfl
                          rw [hL_155, hL_145, hL_136, hL_127, qL_0, List.nil_append, ← e]
                        have hV : seg b' 0 8 = zeroL 8 := zero_seg (qSeg_le hs1 (by omega)) rfl
                        refine ⟨?_, ?_, fun j hj => hs3.2 j (by omega)⟩
                        · have e8 : seg c' 0 8 = seg mac1_178 0 8 := by rw [seg_0, seg_0, qL_ext]; intro j hj; rw [qSeg_at hs2 (show j < k2x by omega), if_pos hj]
                          rw [e8, hL_178, hT, hV]
                        · rw [seg_copy0 hs3 (by omega), seg_0]
                      exact hret (⟨(bi1_178), (tu1_178), (cd1_178), (sk1_178), (hf1_178), (wd1_178), (gm1_178), (mac1_178), (b'), (c'), (d'), (mn1_178)⟩ : (Nat → Bool) × (Nat → Bool) × (Nat → Bool) × (Nat → Bool) × (Nat → Bool) × (Nat → Bool) × (Nat → BitVec 8) × (Nat → BitVec 8) × (Nat → BitVec 8) × (Nat → BitVec 8) × (Nat → BitVec 8) × Nat) _ _ _ _ dX10_commandMac_284 hq_9 (hP.sub [5, 8, 9, 10, 11, 12, 13, 14, 15, 16, 17, 18, 19, 6, 7, 21, 0, 1, 20, 2, 3, 4] rfl) (hD.sub [5, 8, 9, 10, 11, 12, 13, 14, 15, 16, 17, 18, 19, 6, 7, 21, 0, 1, 20, 2, 3, 4] (by decide) rfl) hS
                    · skip
                      rw [nI_leI (by omega) (by omega)] at c_8
                      refine lv_aload_n (pc := 259) hx hb dX10_commandMac_259 rfl (lv_at hl 3 rfl) ?_
                      refine va_get (pc := 260) (D := D) (ci := 8) (v := .ref (a 45)) (C := RX10) (T := TX10) (N := 57) hx hb hts iu10 hown hK hP 5 rfl rfl 45 (by decide) (hts _ tw_1090) (fun _ h9 => h9) rfl dX10_commandMac_260 ?_
                      refine lv_bipush (pc := 263) (v := nI 16) hx hb dX10_commandMac_263 (by decide +kernel) ?_
                      refine lv_iload_n (pc := 265) hx hb dX10_commandMac_265 rfl (lv_at hl 4 rfl) ?_
                      refine lv_imul (pc := 266) hx hb dX10_commandMac_266 ?_
                      refine q_top (y := nI (16 * sd)) (pk_mul 16 sd) ?_
                      refine lv_iload (pc := 267) hx hb dX10_commandMac_267 (lv_at hl 0 rfl) ?_
                      refine lv_iadd (pc := 269) hx hb dX10_commandMac_269 ?_
                      refine q_top (y := nI (16 * sd + k3x)) (nI_add (16 * sd) k3x) ?_
                      refine lv_aload_n (pc := 270) hx hb dX10_commandMac_270 rfl (lv_at hl 3 rfl) ?_
                      refine va_get (pc := 271) (D := D) (ci := 8) (v := .ref (a 55)) (C := RX10) (T := TX10) (N := 57) hx hb hts iu10 hown hK hP 5 rfl rfl 55 (by decide) (hts _ tw_1100) (fun _ h9 => h9) rfl dX10_commandMac_271 ?_
                      refine lv_iload (pc := 274) hx hb dX10_commandMac_274 (lv_at hl 0 rfl) ?_
                      refine q_bald (pc := 276) hx hb hK hP 0 2 rfl rfl (k := k3x) (v := qs (c' k3x)) rfl (by omega) (by omega) rfl dX10_commandMac_276 ?_
                      refine q_bastS (pc := 277) hx hb hK hP hD hS 1 2 rfl rfl (k := 16 * sd + k3x) rfl (by omega) (by omega) (b := c' k3x) (qlo_qs _) dX10_commandMac_277 (fun H locs hP hD hS => ?_)
                      have hP : va_P D vwCl [(a 55, aS ta 16 c'), (a 45, aS ta 32 (qU d' (16 * sd + k3x) (c' k3x))), (a 36, aK ta 2 ru), (a 37, aK ta 2 le), (hb2, aS ta capb gb), (h0, oM a ar mn1_178 tp osz lsz ns ct), (a 22, aS ta 700 gm1_178), (a 24, aS ta 16 mac1_178), (a 0, aK ta 64 tIP), (a 1, aK ta 48 tSPR), (a 2, aK ta 32 tMIX), (a 3, aK ta 56 tCH), (a 4, aK ta 48 tSEC), (a 5, aK ta 512 tSBX), (a 10, aB ta 64 bi1_178), (a 11, aB ta 64 tu1_178), (a 12, aB ta 56 cd1_178), (a 13, aB ta 768 sk1_178), (a 14, aB ta 32 hf1_178), (a 15, aB ta 48 wd1_178), (a 41, aS ta 256 gke), (a 53, aS ta 16 b')] H := hP
                      have hD : va_D A [(a 55, aS ta 16 c'), (a 45, aS ta 32 (qU d' (16 * sd + k3x) (c' k3x))), (a 36, aK ta 2 ru), (a 37, aK ta 2 le), (hb2, aS ta capb gb), (h0, oM a ar mn1_178 tp osz lsz ns ct), (a 22, aS ta 700 gm1_178), (a 24, aS ta 16 mac1_178), (a 0, aK ta 64 tIP), (a 1, aK ta 48 tSPR), (a 2, aK ta 32 tMIX), (a 3, aK ta 56 tCH), (a 4, aK ta 48 tSEC), (a 5, aK ta 512 tSBX), (a 10, aB ta 64 bi1_178), (a 11, aB ta 64 tu1_178), (a 12, aB ta 56 cd1_178), (a 13, aB ta 768 sk1_178), (a 14, aB ta 32 hf1_178), (a 15, aB ta 48 wd1_178), (a 41, aS ta 256 gke), (a 53, aS ta 16 b')] := hD
                      refine lv_iinc (pc := 278) (v := nI (k3x + 1)) (lv' := [(10, .int (nI (k3x + 1))), (9, .int (nI 1)), (8, .int (nI (128 * sd))), (0, .ref h0), (1, .int (nI sd)), (2, .ref hb2), (3, .int (nI 0)), (4, .ref hb2), (5, .int (nI f0)), (6, .int (nI n8)), (7, .int (nI 1))]) hx hb dX10_commandMac_278 hl (k := 0) rfl (by first | exact nI_add k3x 1 | rfl) (by decide) rfl (fun ls hl => ?_)
                      refine lv_goto (pc := 281) (tgt := 252) hx hb dX10_commandMac_281 (by decide) ?_
                      exact ih252 (k3x + 1) (qU d' (16 * sd + k3x) (c' k3x)) (by omega) (qSeg_s hs3 (by omega) (by first | rfl | (simp; done))) (by omega) _ _ (hP.sub [0, 1, 2, 3, 4, 5, 6, 7, 8, 9, 10, 11, 12, 13, 14, 15, 16, 17, 18, 19, 20, 21] rfl) (hD.sub [0, 1, 2, 3, 4, 5, 6, 7, 8, 9, 10, 11, 12, 13, 14, 15, 16, 17, 18, 19, 20, 21] (by decide) rfl) hS ls (lv_sub hl [0, 1, 2, 3, 4, 5, 6, 7, 8, 9, 10] rfl)
                exact LP252 _ 0 gch (by omega) (qSeg_0) (Nat.lt_succ_self _) _ _ (hP.sub [0, 1, 2, 3, 4, 5, 6, 7, 8, 9, 10, 11, 12, 13, 14, 15, 16, 17, 18, 19, 20, 21] rfl) (hD.sub [0, 1, 2, 3, 4, 5, 6, 7, 8, 9, 10, 11, 12, 13, 14, 15, 16, 17, 18, 19, 20, 21] (by decide) rfl) hS ls (lv_sub hl [0, 1, 2, 3, 4, 5, 6, 7, 8, 9, 10] rfl)
              · skip
                rw [nI_leI (by omega) (by omega)] at c_7
                refine lv_aload_n (pc := 213) hx hb dX10_commandMac_213 rfl (lv_at hl 3 rfl) ?_
                refine va_get (pc := 214) (D := D) (ci := 8) (v := .ref (a 55)) (C := RX10) (T := TX10) (N := 57) hx hb hts iu10 hown hK hP 5 rfl rfl 55 (by decide) (hts _ tw_1100) (fun _ h9 => h9) rfl dX10_commandMac_214 ?_
                refine lv_iload (pc := 217) hx hb dX10_commandMac_217 (lv_at hl 0 rfl) ?_
                refine lv_iload (pc := 219) hx hb dX10_commandMac_219 (lv_at hl 0 rfl) ?_
                refine lv_bipush (pc := 221) (v := nI 8) hx hb dX10_commandMac_221 (by decide +kernel) ?_
                refine lv_icmp_lt (pc := 223) (tgt := 231) hx hb dX10_commandMac_223 (by decide) (fun c_10 => ?_) (fun c_10 => ?_)
                · skip
                  rw [nI_ltI (by omega) (by omega)] at c_10
                  refine lv_aload_n (pc := 231) hx hb dX10_commandMac_231 rfl (lv_at hl 3 rfl) ?_
                  refine va_get (pc := 232) (D := D) (ci := 8) (v := .ref (a 24)) (C := RX10) (T := TX10) (N := 57) hx hb hts iu10 hown hK hP 5 rfl rfl 24 (by decide) (hts _ tw_1069) (fun _ h9 => h9) rfl dX10_commandMac_232 ?_
                  refine lv_iload (pc := 235) hx hb dX10_commandMac_235 (lv_at hl 0 rfl) ?_
                  refine q_bald (pc := 237) hx hb hK hP 7 2 rfl rfl (k := k2x) (v := qs (mac1_178 k2x)) rfl (by omega) (by omega) rfl dX10_commandMac_237 ?_
                  refine lv_goto (pc := 238) (tgt := 242) hx hb dX10_commandMac_238 (by decide) ?_
                  refine q_bastS (pc := 242) hx hb hK hP hD hS 0 2 rfl rfl (k := k2x) rfl (by omega) (by omega) (b := mac1_178 k2x) (qlo_qs _) dX10_commandMac_242 (fun H locs hP hD hS => ?_)
                  have hP : va_P D vwCl [(a 55, aS ta 16 (qU c' k2x (mac1_178 k2x))), (a 45, aS ta 32 gch), (a 36, aK ta 2 ru), (a 37, aK ta 2 le), (hb2, aS ta capb gb), (h0, oM a ar mn1_178 tp osz lsz ns ct), (a 22, aS ta 700 gm1_178), (a 24, aS ta 16 mac1_178), (a 0, aK ta 64 tIP), (a 1, aK ta 48 tSPR), (a 2, aK ta 32 tMIX), (a 3, aK ta 56 tCH), (a 4, aK ta 48 tSEC), (a 5, aK ta 512 tSBX), (a 10, aB ta 64 bi1_178), (a 11, aB ta 64 tu1_178), (a 12, aB ta 56 cd1_178), (a 13, aB ta 768 sk1_178), (a 14, aB ta 32 hf1_178), (a 15, aB ta 48 wd1_178), (a 41, aS ta 256 gke), (a 53, aS ta 16 b')] H := hP
                  have hD : va_D A [(a 55, aS ta 16 (qU c' k2x (mac1_178 k2x))), (a 45, aS ta 32 gch), (a 36, aK ta 2 ru), (a 37, aK ta 2 le), (hb2, aS ta capb gb), (h0, oM a ar mn1_178 tp osz lsz ns ct), (a 22, aS ta 700 gm1_178), (a 24, aS ta 16 mac1_178), (a 0, aK ta 64 tIP), (a 1, aK ta 48 tSPR), (a 2, aK ta 32 tMIX), (a 3, aK ta 56 tCH), (a 4, aK ta 48 tSEC), (a 5, aK ta 512 tSBX), (a 10, aB ta 64 bi1_178), (a 11, aB ta 64 tu1_178), (a 12, aB ta 56 cd1_178), (a 13, aB ta 768 sk1_178), (a 14, aB ta 32 hf1_178), (a 15, aB ta 48 wd1_178), (a 41, aS ta 256 gke), (a 53, aS ta 16 b')] := hD
                  refine lv_iinc (pc := 243) (v := nI (k2x + 1)) (lv' := [(10, .int (nI (k2x + 1))), (9, .int (nI 1)), (8, .int (nI (128 * sd))), (0, .ref h0), (1, .int (nI sd)), (2, .ref hb2), (3, .int (nI 0)), (4, .ref hb2), (5, .int (nI f0)), (6, .int (nI n8)), (7, .int (nI 1))]) hx hb dX10_commandMac_243 hl (k := 0) rfl (by first | exact nI_add k2x 1 | rfl) (by decide) rfl (fun ls hl => ?_)
                  refine lv_goto (pc := 246) (tgt := 206) hx hb dX10_commandMac_246 (by decide) ?_
                  exact ih206 (k2x + 1) (qU c' k2x (mac1_178 k2x)) (by omega) (qSeg_s hs2 (by omega) (by first | (simp [show k2x < 8 by omega]; done) | (simp [show ¬ k2x < 8 by omega]; done))) (by omega) _ _ (hP.sub [0, 1, 2, 3, 4, 5, 6, 7, 8, 9, 10, 11, 12, 13, 14, 15, 16, 17, 18, 19, 20, 21] rfl) (hD.sub [0, 1, 2, 3, 4, 5, 6, 7, 8, 9, 10, 11, 12, 13, 14, 15, 16, 17, 18, 19, 20, 21] (by decide) rfl) hS ls (lv_sub hl [0, 1, 2, 3, 4, 5, 6, 7, 8, 9, 10] rfl)
                · skip
                  rw [nI_ltI (by omega) (by omega)] at c_10
                  refine lv_iload (pc := 226) hx hb dX10_commandMac_226 (lv_at hl 1 rfl) ?_
                  refine lv_if_ne (pc := 228) (tgt := 241) hx hb dX10_commandMac_228 (by decide) (fun _ => ?_) (fun c_11 => absurd c_11 (by decide))
                  refine lv_iconst (pc := 241) (v := nI 0) hx hb dX10_commandMac_241 (by decide +kernel) ?_
                  refine q_bastS (pc := 242) hx hb hK hP hD hS 0 2 rfl rfl (k := k2x) rfl (by omega) (by omega) (b := BitVec.ofNat 8 0) (qlo_nI _) dX10_commandMac_242 (fun H locs hP hD hS => ?_)
                  have hP : va_P D vwCl [(a 55, aS ta 16 (qU c' k2x (BitVec.ofNat 8 0))), (a 45, aS ta 32 gch), (a 36, aK ta 2 ru), (a 37, aK ta 2 le), (hb2, aS ta capb gb), (h0, oM a ar mn1_178 tp osz lsz ns ct), (a 22, aS ta 700 gm1_178), (a 24, aS ta 16 mac1_178), (a 0, aK ta 64 tIP), (a 1, aK ta 48 tSPR), (a 2, aK ta 32 tMIX), (a 3, aK ta 56 tCH), (a 4, aK ta 48 tSEC), (a 5, aK ta 512 tSBX), (a 10, aB ta 64 bi1_178), (a 11, aB ta 64 tu1_178), (a 12, aB ta 56 cd1_178), (a 13, aB ta 768 sk1_178), (a 14, aB ta 32 hf1_178), (a 15, aB ta 48 wd1_178), (a 41, aS ta 256 gke), (a 53, aS ta 16 b')] H := hP
                  have hD : va_D A [(a 55, aS ta 16 (qU c' k2x (BitVec.ofNat 8 0))), (a 45, aS ta 32 gch), (a 36, aK ta 2 ru), (a 37, aK ta 2 le), (hb2, aS ta capb gb), (h0, oM a ar mn1_178 tp osz lsz ns ct), (a 22, aS ta 700 gm1_178), (a 24, aS ta 16 mac1_178), (a 0, aK ta 64 tIP), (a 1, aK ta 48 tSPR), (a 2, aK ta 32 tMIX), (a 3, aK ta 56 tCH), (a 4, aK ta 48 tSEC), (a 5, aK ta 512 tSBX), (a 10, aB ta 64 bi1_178), (a 11, aB ta 64 tu1_178), (a 12, aB ta 56 cd1_178), (a 13, aB ta 768 sk1_178), (a 14, aB ta 32 hf1_178), (a 15, aB ta 48 wd1_178), (a 41, aS ta 256 gke), (a 53, aS ta 16 b')] := hD
                  refine lv_iinc (pc := 243) (v := nI (k2x + 1)) (lv' := [(10, .int (nI (k2x + 1))), (9, .int (nI 1)), (8, .int (nI (128 * sd))), (0, .ref h0), (1, .int (nI sd)), (2, .ref hb2), (3, .int (nI 0)), (4, .ref hb2), (5, .int (nI f0)), (6, .int (nI n8)), (7, .int (nI 1))]) hx hb dX10_commandMac_243 hl (k := 0) rfl (by first | exact nI_add k2x 1 | rfl) (by decide) rfl (fun ls hl => ?_)
                  refine lv_goto (pc := 246) (tgt := 206) hx hb dX10_commandMac_246 (by decide) ?_
                  exact ih206 (k2x + 1) (qU c' k2x (BitVec.ofNat 8 0)) (by omega) (qSeg_s hs2 (by omega) (by first | (simp [show k2x < 8 by omega]; done) | (simp [show ¬ k2x < 8 by omega]; done))) (by omega) _ _ (hP.sub [0, 1, 2, 3, 4, 5, 6, 7, 8, 9, 10, 11, 12, 13, 14, 15, 16, 17, 18, 19, 20, 21] rfl) (hD.sub [0, 1, 2, 3, 4, 5, 6, 7, 8, 9, 10, 11, 12, 13, 14, 15, 16, 17, 18, 19, 20, 21] (by decide) rfl) hS ls (lv_sub hl [0, 1, 2, 3, 4, 5, 6, 7, 8, 9, 10] rfl)
          exact LP206 _ 0 gco (by omega) (qSeg_0) (Nat.lt_succ_self _) _ _ (hP.sub [0, 1, 2, 3, 4, 5, 6, 7, 8, 9, 10, 11, 12, 13, 14, 15, 16, 17, 18, 19, 20, 21] rfl) (hD.sub [0, 1, 2, 3, 4, 5, 6, 7, 8, 9, 10, 11, 12, 13, 14, 15, 16, 17, 18, 19, 20, 21] (by decide) rfl) hS ls (lv_sub hl [0, 1, 2, 3, 4, 5, 6, 7, 8, 9, 10] rfl)
        · skip
          rw [nI_leI (by omega) (by omega)] at c_2
          refine lv_aload_n (pc := 34) hx hb dX10_commandMac_34 rfl (lv_at hl 3 rfl) ?_
          refine va_get (pc := 35) (D := D) (ci := 8) (v := .ref (a 53)) (C := RX10) (T := TX10) (N := 57) hx hb hts iu10 hown hK hP 0 rfl rfl 53 (by decide) (hts _ tw_1098) (fun _ h9 => h9) rfl dX10_commandMac_35 ?_
          refine lv_iload (pc := 38) hx hb dX10_commandMac_38 (lv_at hl 0 rfl) ?_
          refine lv_iload (pc := 40) hx hb dX10_commandMac_40 (lv_at hl 10 rfl) ?_
          refine lv_if_eq (pc := 42) (tgt := 49) hx hb dX10_commandMac_42 (by decide) (fun c_12 => absurd c_12 (by decide)) (fun _ => ?_)
          refine lv_iconst (pc := 45) (v := nI 0) hx hb dX10_commandMac_45 (by decide +kernel) ?_
          refine lv_goto (pc := 46) (tgt := 61) hx hb dX10_commandMac_46 (by decide) ?_
          refine q_bastS (pc := 61) hx hb hK hP hD hS 15 2 rfl rfl (k := k1x) rfl (by omega) (by omega) (b := BitVec.ofNat 8 0) (qlo_nI _) dX10_commandMac_61 (fun H locs hP hD hS => ?_)
          have hP : va_P D vwCl [(h0, oM a ar mn tp osz lsz ns ct), (a 0, aK ta 64 tIP), (a 1, aK ta 48 tSPR), (a 2, aK ta 32 tMIX), (a 3, aK ta 56 tCH), (a 4, aK ta 48 tSEC), (a 5, aK ta 512 tSBX), (a 10, aB ta 64 bi), (a 11, aB ta 64 tu), (a 12, aB ta 56 cd), (a 13, aB ta 768 sk), (a 14, aB ta 32 hf), (a 15, aB ta 48 wd), (a 22, aS ta 700 gm), (a 24, aS ta 16 mac), (a 53, aS ta 16 (qU b' k1x (BitVec.ofNat 8 0))), (a 55, aS ta 16 gco), (a 45, aS ta 32 gch), (a 41, aS ta 256 gke), (a 36, aK ta 2 ru), (a 37, aK ta 2 le), (hb2, aS ta capb gb)] H := hP
          have hD : va_D A [(h0, oM a ar mn tp osz lsz ns ct), (a 0, aK ta 64 tIP), (a 1, aK ta 48 tSPR), (a 2, aK ta 32 tMIX), (a 3, aK ta 56 tCH), (a 4, aK ta 48 tSEC), (a 5, aK ta 512 tSBX), (a 10, aB ta 64 bi), (a 11, aB ta 64 tu), (a 12, aB ta 56 cd), (a 13, aB ta 768 sk), (a 14, aB ta 32 hf), (a 15, aB ta 48 wd), (a 22, aS ta 700 gm), (a 24, aS ta 16 mac), (a 53, aS ta 16 (qU b' k1x (BitVec.ofNat 8 0))), (a 55, aS ta 16 gco), (a 45, aS ta 32 gch), (a 41, aS ta 256 gke), (a 36, aK ta 2 ru), (a 37, aK ta 2 le), (hb2, aS ta capb gb)] := hD
          refine lv_iinc (pc := 62) (v := nI (k1x + 1)) (lv' := [(10, .int (nI (k1x + 1))), (9, .int (nI 1)), (8, .int (nI (128 * sd))), (0, .ref h0), (1, .int (nI sd)), (2, .ref hb2), (3, .int (nI 0)), (4, .ref hb2), (5, .int (nI f0)), (6, .int (nI n8)), (7, .int (nI 1))]) hx hb dX10_commandMac_62 hl (k := 0) rfl (by first | exact nI_add k1x 1 | rfl) (by decide) rfl (fun ls hl => ?_)
          refine lv_goto (pc := 65) (tgt := 27) hx hb dX10_commandMac_65 (by decide) ?_
          exact ih27 (k1x + 1) (qU b' k1x (BitVec.ofNat 8 0)) (by omega) (qSeg_s hs1 (by omega) (by first | rfl | (simp; done))) (by omega) _ _ (hP.sub [0, 1, 2, 3, 4, 5, 6, 7, 8, 9, 10, 11, 12, 13, 14, 15, 16, 17, 18, 19, 20, 21] rfl) (hD.sub [0, 1, 2, 3, 4, 5, 6, 7, 8, 9, 10, 11, 12, 13, 14, 15, 16, 17, 18, 19, 20, 21] (by decide) rfl) hS ls (lv_sub hl [0, 1, 2, 3, 4, 5, 6, 7, 8, 9, 10] rfl)
    exact LP27 _ 0 gbl (by omega) (qSeg_0) (Nat.lt_succ_self _) _ _ (hP.sub [0, 1, 2, 3, 4, 5, 6, 7, 8, 9, 10, 11, 12, 13, 14, 15, 16, 17, 18, 19, 20, 21] rfl) (hD.sub [0, 1, 2, 3, 4, 5, 6, 7, 8, 9, 10, 11, 12, 13, 14, 15, 16, 17, 18, 19, 20, 21] (by decide) rfl) hS ls (lv_sub hl [0, 1, 2, 3, 4, 5, 6, 7, 8, 9, 10] rfl)
set_option maxHeartbeats 4000000 in
set_option maxRecDepth 100000 in
theorem ct_X10_commandMac_201 (ll : Launch) (D : va_G) (ta : Nat → ClassId) {G : (Nat → Prop) → State → Heap → Prop} (hGok : GOK G) (h0 : Nat) (a : Nat → Nat) (ar : Nat) (mn : Nat) (tp : Nat) (osz : Nat) (lsz : Nat) (ns : Nat) (ct : Nat) (bi : Nat → Bool) (tu : Nat → Bool) (cd : Nat → Bool) (sk : Nat → Bool) (hf : Nat → Bool) (wd : Nat → Bool) (gm : Nat → BitVec 8) (mac : Nat → BitVec 8) (gbl : Nat → BitVec 8) (gco : Nat → BitVec 8) (gch : Nat → BitVec 8) (gke : Nat → BitVec 8) (ru : Nat → Nat) (le : Nat → Nat) (sd : Nat) (hb2 : Nat) (capb : Nat) (gb : Nat → BitVec 8) (f0 : Nat) (n8 : Nat) (hsd : sd ≤ 1) (hru : ru sd = 2) (hn8 : n8 ≤ 300) (hcb : 4 ≤ capb ∧ capb < 2147483648) (hfd : f0 + n8 ≤ capb) (sz : Nat) : CT ll yX10_commandMac cX10_commandMac 11 none ({ frames := 5, cells := 0, slots := 0, locals := 124 } : Room) D ta G [.ref h0, .int (nI sd), .ref hb2, .int (nI 0), .ref hb2, .int (nI f0), .int (nI n8), .int (nI 0)] [(h0, oM a ar mn tp osz lsz ns ct), (a 0, aK ta 64 tIP), (a 1, aK ta 48 tSPR), (a 2, aK ta 32 tMIX), (a 3, aK ta 56 tCH), (a 4, aK ta 48 tSEC), (a 5, aK ta 512 tSBX), (a 10, aB ta 64 bi), (a 11, aB ta 64 tu), (a 12, aB ta 56 cd), (a 13, aB ta 768 sk), (a 14, aB ta 32 hf), (a 15, aB ta 48 wd), (a 22, aS ta 700 gm), (a 24, aS ta 16 mac), (a 53, aS ta 16 gbl), (a 55, aS ta 16 gco), (a 45, aS ta 32 gch), (a 41, aS ta 256 gke), (a 36, aK ta 2 ru), (a 37, aK ta 2 le), (hb2, aS ta capb gb)] sz (S := (Nat → Bool) × (Nat → Bool) × (Nat → Bool) × (Nat → Bool) × (Nat → Bool) × (Nat → Bool) × (Nat → BitVec 8) × (Nat → BitVec 8) × (Nat → BitVec 8) × (Nat → BitVec 8) × (Nat → BitVec 8) × Nat) (fun _ => none) (fun u => (seg u.2.2.2.2.2.2.2.2.2.1 0 8 = retailL (seg gke (128 * sd + 32) 16) (desL (seg gke (128 * sd + 32) 8) false (seg gch (16 * sd) 8)) (headL (seg gb 0 4) n8 ++ seg gb f0 n8)) ∧ (seg u.2.2.2.2.2.2.2.2.2.2.1 (16 * sd) 16 = seg u.2.2.2.2.2.2.2.2.2.1 0 16) ∧ (∀ j, (j < 16 * sd ∨ 16 * sd + 16 ≤ j) → u.2.2.2.2.2.2.2.2.2.2.1 j = gch j)) (fun u => [(h0, oM a ar u.2.2.2.2.2.2.2.2.2.2.2 tp osz lsz ns ct), (a 0, aK ta 64 tIP), (a 1, aK ta 48 tSPR), (a 2, aK ta 32 tMIX), (a 3, aK ta 56 tCH), (a 4, aK ta 48 tSEC), (a 5, aK ta 512 tSBX), (a 10, aB ta 64 u.1), (a 11, aB ta 64 u.2.1), (a 12, aB ta 56 u.2.2.1), (a 13, aB ta 768 u.2.2.2.1), (a 14, aB ta 32 u.2.2.2.2.1), (a 15, aB ta 48 u.2.2.2.2.2.1), (a 22, aS ta 700 u.2.2.2.2.2.2.1), (a 24, aS ta 16 u.2.2.2.2.2.2.2.1), (a 53, aS ta 16 u.2.2.2.2.2.2.2.2.1), (a 55, aS ta 16 u.2.2.2.2.2.2.2.2.2.1), (a 45, aS ta 32 u.2.2.2.2.2.2.2.2.2.2.1), (a 41, aS ta 256 gke), (a 36, aK ta 2 ru), (a 37, aK ta 2 le), (hb2, aS ta capb gb)]) 0 0 := by
  refine CT.of_v rfl (by decide) (Nat.le_of_ble_eq_true rfl) ?_
  intro pp ee ss mm below meth kc A Q hx hb hml hown hin hts hK hA hsz hG hret H locs hP hD hS ls hl
  have hl : lv_has ls 11 [(0, .ref h0), (1, .int (nI sd)), (2, .ref hb2), (3, .int (nI 0)), (4, .ref hb2), (5, .int (nI f0)), (6, .int (nI n8)), (7, .int (nI 0))] := hl
  refine lv_sipush (pc := 0) (v := nI 128) hx hb dX10_commandMac_0 (by decide +kernel) ?_
  refine lv_iload_n (pc := 3) hx hb dX10_commandMac_3 rfl (lv_at hl 1 rfl) ?_
  refine lv_imul (pc := 4) hx hb dX10_commandMac_4 ?_
  refine q_top (y := nI (128 * sd)) (pk_mul 128 sd) ?_
  refine lv_istore (pc := 5) (lv' := [(8, .int (nI (128 * sd))), (0, .ref h0), (1, .int (nI sd)), (2, .ref hb2), (3, .int (nI 0)), (4, .ref hb2), (5, .int (nI f0)), (6, .int (nI n8)), (7, .int (nI 0))]) hx hb dX10_commandMac_5 hl (by decide) rfl (fun ls hl => ?_)
  refine lv_aload_n (pc := 7) hx hb dX10_commandMac_7 rfl (lv_at hl 1 rfl) ?_
  refine va_get (pc := 8) (D := D) (ci := 8) (v := .ref (a 36)) (C := RX10) (T := TX10) (N := 57) hx hb hts iu10 hown hK hP 0 rfl rfl 36 (by decide) (hts _ tw_1081) (fun _ h9 => h9) rfl dX10_commandMac_8 ?_
  refine lv_iload_n (pc := 11) hx hb dX10_commandMac_11 rfl (lv_at hl 2 rfl) ?_
  refine q_iald (pc := 12) hx hb hK hP 19 0 rfl rfl (k := sd) (v := nI (ru sd)) rfl (by omega) (by omega) rfl dX10_commandMac_12 ?_
  refine lv_iconst (pc := 13) (v := nI 2) hx hb dX10_commandMac_13 (by decide +kernel) ?_
  refine lv_icmp_ne (pc := 14) (tgt := 21) hx hb dX10_commandMac_14 (by decide) (fun c_1 => ?_) (fun c_1 => ?_)
  · skip
    rw [nI_eq (by omega) (by omega)] at c_1
    exfalso; omega
  · skip
    rw [nI_eq (by omega) (by omega)] at c_1
    refine lv_iconst (pc := 17) (v := nI 1) hx hb dX10_commandMac_17 (by decide +kernel) ?_
    refine lv_goto (pc := 18) (tgt := 22) hx hb dX10_commandMac_18 (by decide) ?_
    refine lv_istore (pc := 22) (lv' := [(9, .int (nI 1)), (8, .int (nI (128 * sd))), (0, .ref h0), (1, .int (nI sd)), (2, .ref hb2), (3, .int (nI 0)), (4, .ref hb2), (5, .int (nI f0)), (6, .int (nI n8)), (7, .int (nI 0))]) hx hb dX10_commandMac_22 hl (by decide) rfl (fun ls hl => ?_)
    refine lv_iconst (pc := 24) (v := nI 0) hx hb dX10_commandMac_24 (by decide +kernel) ?_
    refine lv_istore (pc := 25) (lv' := [(10, .int (nI 0)), (9, .int (nI 1)), (8, .int (nI (128 * sd))), (0, .ref h0), (1, .int (nI sd)), (2, .ref hb2), (3, .int (nI 0)), (4, .ref hb2), (5, .int (nI f0)), (6, .int (nI n8)), (7, .int (nI 0))]) hx hb dX10_commandMac_25 hl (by decide) rfl (fun ls hl => ?_)
    have LP27 : ∀ (nn27 : Nat) (k1x : Nat) (b' : Nat → BitVec 8), (k1x ≤ 16) → (qSeg b' gbl 0 k1x ((fun j => gch (16 * sd + j)))) → (16 - k1x < nn27) → ∀ (H : Heap) (locs : List Loc), va_P D vwCl [(h0, oM a ar mn tp osz lsz ns ct), (a 0, aK ta 64 tIP), (a 1, aK ta 48 tSPR), (a 2, aK ta 32 tMIX), (a 3, aK ta 56 tCH), (a 4, aK ta 48 tSEC), (a 5, aK ta 512 tSBX), (a 10, aB ta 64 bi), (a 11, aB ta 64 tu), (a 12, aB ta 56 cd), (a 13, aB ta 768 sk), (a 14, aB ta 32 hf), (a 15, aB ta 48 wd), (a 22, aS ta 700 gm), (a 24, aS ta 16 mac), (a 53, aS ta 16 b'), (a 55, aS ta 16 gco), (a 45, aS ta 32 gch), (a 41, aS ta 256 gke), (a 36, aK ta 2 ru), (a 37, aK ta 2 le), (hb2, aS ta capb gb)] H → va_D A [(h0, oM a ar mn tp osz lsz ns ct), (a 0, aK ta 64 tIP), (a 1, aK ta 48 tSPR), (a 2, aK ta 32 tMIX), (a 3, aK ta 56 tCH), (a 4, aK ta 48 tSEC), (a 5, aK ta 512 tSBX), (a 10, aB ta 64 bi), (a 11, aB ta 64 tu), (a 12, aB ta 56 cd), (a 13, aB ta 768 sk), (a 14, aB ta 32 hf), (a 15, aB ta 48 wd), (a 22, aS ta 700 gm), (a 24, aS ta 16 mac), (a 53, aS ta 16 b'), (a 55, aS ta 16 gco), (a 45, aS ta 32 gch), (a 41, aS ta 256 gke), (a 36, aK ta 2 ru), (a 37, aK ta 2 le), (hb2, aS ta capb gb)] → va_S A ss.heap H locs → ∀ ls : Array Slot, lv_has ls 11 [(10, .int (nI k1x)), (9, .int (nI 1)), (8, .int (nI (128 * sd))), (0, .ref h0), (1, .int (nI sd)), (2, .ref hb2), (3, .int (nI 0)), (4, .ref hb2), (5, .int (nI f0)), (6, .int (nI n8)), (7, .int (nI 0))] → W pp ll ee ({ frames := 5, cells := 0, slots := 0, locals := 124 } : Room) ss mm (([.ref h0, .int (nI sd), .ref hb2, .int (nI 0), .ref hb2, .int (nI f0), .int (nI n8), .int (nI 0)] : List Value).toArray) below meth kc H locs 0 0 Q (F0 mm 27 ls []) := by
      intro nn27
      induction nn27 with
      | zero => intro k1x b' hkk1 hs1 hmu; exact absurd hmu (Nat.not_lt_zero _)
      | succ nn27 ih27 =>
        intro k1x b' hkk1 hs1 hmu27 H locs hP hD hS ls hl
        refine lv_iload (pc := 27) hx hb dX10_commandMac_27 (lv_at hl 0 rfl) ?_
        refine lv_bipush (pc := 29) (v := nI 16) hx hb dX10_commandMac_29 (by decide +kernel) ?_
        refine lv_icmp_ge (pc := 31) (tgt := 68) hx hb dX10_commandMac_31 (by decide) (fun c_2 => ?_) (fun c_2 => ?_)
        · skip
          rw [nI_leI (by omega) (by omega)] at c_2
          refine lv_iload (pc := 68) hx hb dX10_commandMac_68 (lv_at hl 1 rfl) ?_
          refine lv_if_eq (pc := 70) (tgt := 97) hx hb dX10_commandMac_70 (by decide) (fun c_3 => absurd c_3 (by decide)) (fun _ => ?_)
          refine lv_iload (pc := 73) hx hb dX10_commandMac_73 (lv_at hl 10 rfl) ?_
          refine lv_if_ne (pc := 75) (tgt := 97) hx hb dX10_commandMac_75 (by decide) (fun c_4 => absurd (by decide) c_4) (fun _ => ?_)
          refine lv_aload_n (pc := 78) hx hb dX10_commandMac_78 rfl (lv_at hl 3 rfl) ?_
          refine lv_aload_n (pc := 79) hx hb dX10_commandMac_79 rfl (lv_at hl 3 rfl) ?_
          refine va_get (pc := 80) (D := D) (ci := 8) (v := .ref (a 53)) (C := RX10) (T := TX10) (N := 57) hx hb hts iu10 hown hK hP 0 rfl rfl 53 (by decide) (hts _ tw_1098) (fun _ h9 => h9) rfl dX10_commandMac_80 ?_
          refine lv_iconst (pc := 83) (v := nI 0) hx hb dX10_commandMac_83 (by decide +kernel) ?_
          refine lv_aload_n (pc := 84) hx hb dX10_commandMac_84 rfl (lv_at hl 3 rfl) ?_
          refine va_get (pc := 85) (D := D) (ci := 8) (v := .ref (a 41)) (C := RX10) (T := TX10) (N := 57) hx hb hts iu10 hown hK hP 0 rfl rfl 41 (by decide) (hts _ tw_1086) (fun _ h9 => h9) rfl dX10_commandMac_85 ?_
          refine lv_iload (pc := 88) hx hb dX10_commandMac_88 (lv_at hl 2 rfl) ?_
          refine lv_bipush (pc := 90) (v := nI 32) hx hb dX10_commandMac_90 (by decide +kernel) ?_
          refine lv_iadd (pc := 92) hx hb dX10_commandMac_92 ?_
          refine q_top (y := nI (128 * sd + 32)) (nI_add (128 * sd) 32) ?_
          refine lv_iconst (pc := 93) (v := nI 0) hx hb dX10_commandMac_93 (by decide +kernel) ?_
          refine cs_V (pc := 94) (idx := 44) (n := 5) (wr := [(a 22, aS ta 700 gm), (a 24, aS ta 16 mac), (a 55, aS ta 16 gco), (a 45, aS ta 32 gch), (a 36, aK ta 2 ru), (a 37, aK ta 2 le), (hb2, aS ta capb gb)]) (As := [.ref (a 53), .int (nI 0), .ref (a 41), .int (nI (128 * sd + 32)), .int (nI 0)]) (rest := []) (ci := 8) hx hb hml hown hts hGok hK hA hG hl.1 hP hD hS (ct_X10_des_L ll D ta hGok h0 a ar mn tp osz lsz ns ct (a 53) 0 16 b' (a 41) (128 * sd + 32) 256 gke bi tu cd sk hf wd false (by first | assumption | omega | rfl | decide) (by first | assumption | omega | rfl | decide) (by first | assumption | omega | rfl | decide) (by first | assumption | omega | rfl | decide) H.size) tw_1294 tw_1291 tw_1293 tw_33 tw_75 hdX10_des rfl ⟨rfl, rfl, Nat.le_of_ble_eq_true rfl, Nat.le_of_ble_eq_true rfl, Nat.le_of_ble_eq_true rfl, Nat.le_of_ble_eq_true rfl⟩ rfl rfl (q0 := 0) rfl [0, 1, 2, 3, 4, 5, 6, 7, 8, 9, 10, 11, 12, 15, 18] [13, 14, 16, 17, 19, 20, 21] rfl rfl (by decide) rfl (Nat.le_of_ble_eq_true rfl) dX10_commandMac_94 (fun u H locs hq hP hD hS => ?_)
          obtain ⟨gb1_94, bi1_94, tu1_94, cd1_94, sk1_94, hf1_94, wd1_94⟩ := u
          have hq : (seg gb1_94 0 8 = desL (seg gke (128 * sd + 32) 8) false (seg b' 0 8)) ∧ (∀ jz, (jz < 0 ∨ 0 + 8 ≤ jz) → gb1_94 jz = b' jz) := hq
          obtain ⟨hs_94, hfr_94⟩ := hq
          refine W.eq (g2 := F0 mm 97 ls []) rfl ?_
          have hP : va_P D vwCl [(a 22, aS ta 700 gm), (a 24, aS ta 16 mac), (a 55, aS ta 16 gco), (a 45, aS ta 32 gch), (a 36, aK ta 2 ru), (a 37, aK ta 2 le), (hb2, aS ta capb gb), (h0, oM a ar mn tp osz lsz ns ct), (a 0, aK ta 64 tIP), (a 1, aK ta 48 tSPR), (a 2, aK ta 32 tMIX), (a 3, aK ta 56 tCH), (a 4, aK ta 48 tSEC), (a 5, aK ta 512 tSBX), (a 10, aB ta 64 bi1_94), (a 11, aB ta 64 tu1_94), (a 12, aB ta 56 cd1_94), (a 13, aB ta 768 sk1_94), (a 14, aB ta 32 hf1_94), (a 15, aB ta 48 wd1_94), (a 53, aS ta 16 gb1_94), (a 41, aS ta 256 gke)] H := hP
          have hD : va_D A [(a 22, aS ta 700 gm), (a 24, aS ta 16 mac), (a 55, aS ta 16 gco), (a 45, aS ta 32 gch), (a 36, aK ta 2 ru), (a 37, aK ta 2 le), (hb2, aS ta capb gb), (h0, oM a ar mn tp osz lsz ns ct), (a 0, aK ta 64 tIP), (a 1, aK ta 48 tSPR), (a 2, aK ta 32 tMIX), (a 3, aK ta 56 tCH), (a 4, aK ta 48 tSEC), (a 5, aK ta 512 tSBX), (a 10, aB ta 64 bi1_94), (a 11, aB ta 64 tu1_94), (a 12, aB ta 56 cd1_94), (a 13, aB ta 768 sk1_94), (a 14, aB ta 32 hf1_94), (a 15, aB ta 48 wd1_94), (a 53, aS ta 16 gb1_94), (a 41, aS ta 256 gke)] := hD
          refine lv_aload_n (pc := 97) hx hb dX10_commandMac_97 rfl (lv_at hl 3 rfl) ?_
          refine cs_V (pc := 98) (idx := 114) (n := 0) (wr := [(a 22, aS ta 700 gm), (a 24, aS ta 16 mac), (a 55, aS ta 16 gco), (a 45, aS ta 32 gch), (a 36, aK ta 2 ru), (a 37, aK ta 2 le), (hb2, aS ta capb gb), (a 0, aK ta 64 tIP), (a 1, aK ta 48 tSPR), (a 2, aK ta 32 tMIX), (a 3, aK ta 56 tCH), (a 4, aK ta 48 tSEC), (a 5, aK ta 512 tSBX), (a 10, aB ta 64 bi1_94), (a 11, aB ta 64 tu1_94), (a 12, aB ta 56 cd1_94), (a 13, aB ta 768 sk1_94), (a 14, aB ta 32 hf1_94), (a 15, aB ta 48 wd1_94), (a 53, aS ta 16 gb1_94), (a 41, aS ta 256 gke)]) (As := []) (rest := []) (ci := 8) hx hb hml hown hts hGok hK hA hG hl.1 hP hD hS (ct_X10_fresh ll D ta hGok h0 a ar mn tp osz lsz ns ct  H.size) tw_1302 tw_1299 tw_1301 tw_35 tw_75 hdX10_fresh rfl ⟨rfl, rfl, Nat.le_of_ble_eq_true rfl, Nat.le_of_ble_eq_true rfl, Nat.le_of_ble_eq_true rfl, Nat.le_of_ble_eq_true rfl⟩ rfl rfl (q0 := 7) rfl [7] [0, 1, 2, 3, 4, 5, 6, 8, 9, 10, 11, 12, 13, 14, 15, 16, 17, 18, 19, 20, 21] rfl rfl (by decide) rfl (Nat.le_of_ble_eq_true rfl) dX10_commandMac_98 (fun u H locs hq hP hD hS => ?_)
          refine W.eq (g2 := F0 mm 101 ls []) rfl ?_
          have hP : va_P D vwCl [(a 22, aS ta 700 gm), (a 24, aS ta 16 mac), (a 55, aS ta 16 gco), (a 45, aS ta 32 gch), (a 36, aK ta 2 ru), (a 37, aK ta 2 le), (hb2, aS ta capb gb), (a 0, aK ta 64 tIP), (a 1, aK ta 48 tSPR), (a 2, aK ta 32 tMIX), (a 3, aK ta 56 tCH), (a 4, aK ta 48 tSEC), (a 5, aK ta 512 tSBX), (a 10, aB ta 64 bi1_94), (a 11, aB ta 64 tu1_94), (a 12, aB ta 56 cd1_94), (a 13, aB ta 768 sk1_94), (a 14, aB ta 32 hf1_94), (a 15, aB ta 48 wd1_94), (a 53, aS ta 16 gb1_94), (a 41, aS ta 256 gke), (h0, oM a ar 0 tp osz lsz ns ct)] H := hP
          have hD : va_D A [(a 22, aS ta 700 gm), (a 24, aS ta 16 mac), (a 55, aS ta 16 gco), (a 45, aS ta 32 gch), (a 36, aK ta 2 ru), (a 37, aK ta 2 le), (hb2, aS ta capb gb), (a 0, aK ta 64 tIP), (a 1, aK ta 48 tSPR), (a 2, aK ta 32 tMIX), (a 3, aK ta 56 tCH), (a 4, aK ta 48 tSEC), (a 5, aK ta 512 tSBX), (a 10, aB ta 64 bi1_94), (a 11, aB ta 64 tu1_94), (a 12, aB ta 56 cd1_94), (a 13, aB ta 768 sk1_94), (a 14, aB ta 32 hf1_94), (a 15, aB ta 48 wd1_94), (a 53, aS ta 16 gb1_94), (a 41, aS ta 256 gke), (h0, oM a ar 0 tp osz lsz ns ct)] := hD
          refine lv_iload (pc := 101) hx hb dX10_commandMac_101 (lv_at hl 1 rfl) ?_
          refine lv_if_ne (pc := 103) (tgt := 117) hx hb dX10_commandMac_103 (by decide) (fun _ => ?_) (fun c_5 => absurd c_5 (by decide))
          refine lv_aload_n (pc := 117) hx hb dX10_commandMac_117 rfl (lv_at hl 3 rfl) ?_
          refine lv_aload_n (pc := 118) hx hb dX10_commandMac_118 rfl (lv_at hl 5 rfl) ?_
          refine lv_iload_n (pc := 119) hx hb dX10_commandMac_119 rfl (lv_at hl 6 rfl) ?_
          refine q_bald (pc := 120) hx hb hK hP 6 2 rfl rfl (k := 0) (v := qs (gb 0)) rfl (by omega) (by omega) rfl dX10_commandMac_120 ?_
          refine lv_sipush (pc := 121) (v := nI 252) hx hb dX10_commandMac_121 (by decide +kernel) ?_
          refine lv_iand (pc := 124) hx hb dX10_commandMac_124 ?_
          refine lv_iconst (pc := 125) (v := nI 4) hx hb dX10_commandMac_125 (by decide +kernel) ?_
          refine lv_ior (pc := 126) hx hb dX10_commandMac_126 ?_
          refine cs_V (pc := 127) (idx := 87) (n := 1) (wr := [(a 24, aS ta 16 mac), (a 55, aS ta 16 gco), (a 45, aS ta 32 gch), (a 36, aK ta 2 ru), (a 37, aK ta 2 le), (hb2, aS ta capb gb), (a 0, aK ta 64 tIP), (a 1, aK ta 48 tSPR), (a 2, aK ta 32 tMIX), (a 3, aK ta 56 tCH), (a 4, aK ta 48 tSEC), (a 5, aK ta 512 tSBX), (a 10, aB ta 64 bi1_94), (a 11, aB ta 64 tu1_94), (a 12, aB ta 56 cd1_94), (a 13, aB ta 768 sk1_94), (a 14, aB ta 32 hf1_94), (a 15, aB ta 48 wd1_94), (a 53, aS ta 16 gb1_94), (a 41, aS ta 256 gke)]) (As := [.int (((qs (gb 0)) &&& (nI 252)) ||| (nI 4))]) (rest := []) (ci := 8) hx hb hml hown hts hGok hK hA hG hl.1 hP hD hS (ct_X10_add ll D ta hGok h0 a ar 0 tp osz lsz ns ct gm (((qs (gb 0)) &&& (nI 252)) ||| (nI 4)) (by first | assumption | omega | rfl | decide) H.size) tw_1310 tw_1307 tw_1309 tw_37 tw_75 hdX10_add rfl ⟨rfl, rfl, Nat.le_of_ble_eq_true rfl, Nat.le_of_ble_eq_true rfl, Nat.le_of_ble_eq_true rfl, Nat.le_of_ble_eq_true rfl⟩ rfl rfl (q0 := 21) rfl [21, 0] [1, 2, 3, 4, 5, 6, 7, 8, 9, 10, 11, 12, 13, 14, 15, 16, 17, 18, 19, 20] rfl rfl (by decide) rfl (Nat.le_of_ble_eq_true rfl) dX10_commandMac_127 (fun u H locs hq hP hD hS => ?_)
          generalize u = gm1_127 at hq hP hD ⊢
          have hq : (qL gm1_127 (0 + 1) = qL gm 0 ++ [qlo (((qs (gb 0)) &&& (nI 252)) ||| (nI 4))]) := hq
          have hL_127 := hq
          refine W.eq (g2 := F0 mm 130 ls []) rfl ?_
          have hP : va_P D vwCl [(a 24, aS ta 16 mac), (a 55, aS ta 16 gco), (a 45, aS ta 32 gch), (a 36, aK ta 2 ru), (a 37, aK ta 2 le), (hb2, aS ta capb gb), (a 0, aK ta 64 tIP), (a 1, aK ta 48 tSPR), (a 2, aK ta 32 tMIX), (a 3, aK ta 56 tCH), (a 4, aK ta 48 tSEC), (a 5, aK ta 512 tSBX), (a 10, aB ta 64 bi1_94), (a 11, aB ta 64 tu1_94), (a 12, aB ta 56 cd1_94), (a 13, aB ta 768 sk1_94), (a 14, aB ta 32 hf1_94), (a 15, aB ta 48 wd1_94), (a 53, aS ta 16 gb1_94), (a 41, aS ta 256 gke), (h0, oM a ar (0 + 1) tp osz lsz ns ct), (a 22, aS ta 700 gm1_127)] H := hP
          have hD : va_D A [(a 24, aS ta 16 mac), (a 55, aS ta 16 gco), (a 45, aS ta 32 gch), (a 36, aK ta 2 ru), (a 37, aK ta 2 le), (hb2, aS ta capb gb), (a 0, aK ta 64 tIP), (a 1, aK ta 48 tSPR), (a 2, aK ta 32 tMIX), (a 3, aK ta 56 tCH), (a 4, aK ta 48 tSEC), (a 5, aK ta 512 tSBX), (a 10, aB ta 64 bi1_94), (a 11, aB ta 64 tu1_94), (a 12, aB ta 56 cd1_94), (a 13, aB ta 768 sk1_94), (a 14, aB ta 32 hf1_94), (a 15, aB ta 48 wd1_94), (a 53, aS ta 16 gb1_94), (a 41, aS ta 256 gke), (h0, oM a ar (0 + 1) tp osz lsz ns ct), (a 22, aS ta 700 gm1_127)] := hD
          refine lv_aload_n (pc := 130) hx hb dX10_commandMac_130 rfl (lv_at hl 3 rfl) ?_
          refine lv_aload_n (pc := 131) hx hb dX10_commandMac_131 rfl (lv_at hl 5 rfl) ?_
          refine lv_iload_n (pc := 132) hx hb dX10_commandMac_132 rfl (lv_at hl 6 rfl) ?_
          refine lv_iconst (pc := 133) (v := nI 1) hx hb dX10_commandMac_133 (by decide +kernel) ?_
          refine lv_iadd (pc := 134) hx hb dX10_commandMac_134 ?_
          refine q_top (y := nI 1) (by decide +kernel) ?_
          refine lv_iconst (pc := 135) (v := nI 3) hx hb dX10_commandMac_135 (by decide +kernel) ?_
          refine cs_V (pc := 136) (idx := 121) (n := 3) (wr := [(a 24, aS ta 16 mac), (a 55, aS ta 16 gco), (a 45, aS ta 32 gch), (a 36, aK ta 2 ru), (a 37, aK ta 2 le), (a 0, aK ta 64 tIP), (a 1, aK ta 48 tSPR), (a 2, aK ta 32 tMIX), (a 3, aK ta 56 tCH), (a 4, aK ta 48 tSEC), (a 5, aK ta 512 tSBX), (a 10, aB ta 64 bi1_94), (a 11, aB ta 64 tu1_94), (a 12, aB ta 56 cd1_94), (a 13, aB ta 768 sk1_94), (a 14, aB ta 32 hf1_94), (a 15, aB ta 48 wd1_94), (a 53, aS ta 16 gb1_94), (a 41, aS ta 256 gke)]) (As := [.ref hb2, .int (nI 1), .int (nI 3)]) (rest := []) (ci := 8) hx hb hml hown hts hGok hK hA hG hl.1 hP hD hS (ct_X10_addAll ll D ta hGok h0 a ar (0 + 1) tp osz lsz ns ct gm1_127 hb2 1 capb gb 3 (by first | assumption | omega | rfl | decide) (by first | assumption | omega | rfl | decide) (by first | assumption | omega | rfl | decide) H.size) tw_1306 tw_1303 tw_1305 tw_36 tw_75 hdX10_addAll rfl ⟨rfl, rfl, Nat.le_of_ble_eq_true rfl, Nat.le_of_ble_eq_true rfl, Nat.le_of_ble_eq_true rfl, Nat.le_of_ble_eq_true rfl⟩ rfl rfl (q0 := 20) rfl [20, 21, 5] [0, 1, 2, 3, 4, 6, 7, 8, 9, 10, 11, 12, 13, 14, 15, 16, 17, 18, 19] rfl rfl (by decide) rfl (Nat.le_of_ble_eq_true rfl) dX10_commandMac_136 (fun u H locs hq hP hD hS => ?_)
          generalize u = gm1_136 at hq hP hD ⊢
          have hq : (qL gm1_136 ((0 + 1) + 3) = qL gm1_127 (0 + 1) ++ seg gb 1 3) := hq
          have hL_136 := hq
          refine W.eq (g2 := F0 mm 139 ls []) rfl ?_
          have hP : va_P D vwCl [(a 24, aS ta 16 mac), (a 55, aS ta 16 gco), (a 45, aS ta 32 gch), (a 36, aK ta 2 ru), (a 37, aK ta 2 le), (a 0, aK ta 64 tIP), (a 1, aK ta 48 tSPR), (a 2, aK ta 32 tMIX), (a 3, aK ta 56 tCH), (a 4, aK ta 48 tSEC), (a 5, aK ta 512 tSBX), (a 10, aB ta 64 bi1_94), (a 11, aB ta 64 tu1_94), (a 12, aB ta 56 cd1_94), (a 13, aB ta 768 sk1_94), (a 14, aB ta 32 hf1_94), (a 15, aB ta 48 wd1_94), (a 53, aS ta 16 gb1_94), (a 41, aS ta 256 gke), (h0, oM a ar ((0 + 1) + 3) tp osz lsz ns ct), (a 22, aS ta 700 gm1_136), (hb2, aS ta capb gb)] H := hP
          have hD : va_D A [(a 24, aS ta 16 mac), (a 55, aS ta 16 gco), (a 45, aS ta 32 gch), (a 36, aK ta 2 ru), (a 37, aK ta 2 le), (a 0, aK ta 64 tIP), (a 1, aK ta 48 tSPR), (a 2, aK ta 32 tMIX), (a 3, aK ta 56 tCH), (a 4, aK ta 48 tSEC), (a 5, aK ta 512 tSBX), (a 10, aB ta 64 bi1_94), (a 11, aB ta 64 tu1_94), (a 12, aB ta 56 cd1_94), (a 13, aB ta 768 sk1_94), (a 14, aB ta 32 hf1_94), (a 15, aB ta 48 wd1_94), (a 53, aS ta 16 gb1_94), (a 41, aS ta 256 gke), (h0, oM a ar ((0 + 1) + 3) tp osz lsz ns ct), (a 22, aS ta 700 gm1_136), (hb2, aS ta capb gb)] := hD
          refine lv_aload_n (pc := 139) hx hb dX10_commandMac_139 rfl (lv_at hl 3 rfl) ?_
          refine lv_iload (pc := 140) hx hb dX10_commandMac_140 (lv_at hl 9 rfl) ?_
          refine lv_bipush (pc := 142) (v := nI 8) hx hb dX10_commandMac_142 (by decide +kernel) ?_
          refine lv_iadd (pc := 144) hx hb dX10_commandMac_144 ?_
          refine q_top (y := nI (n8 + 8)) (nI_add n8 8) ?_
          refine cs_V (pc := 145) (idx := 353) (n := 1) (wr := [(a 24, aS ta 16 mac), (a 55, aS ta 16 gco), (a 45, aS ta 32 gch), (a 36, aK ta 2 ru), (a 37, aK ta 2 le), (a 0, aK ta 64 tIP), (a 1, aK ta 48 tSPR), (a 2, aK ta 32 tMIX), (a 3, aK ta 56 tCH), (a 4, aK ta 48 tSEC), (a 5, aK ta 512 tSBX), (a 10, aB ta 64 bi1_94), (a 11, aB ta 64 tu1_94), (a 12, aB ta 56 cd1_94), (a 13, aB ta 768 sk1_94), (a 14, aB ta 32 hf1_94), (a 15, aB ta 48 wd1_94), (a 53, aS ta 16 gb1_94), (a 41, aS ta 256 gke), (hb2, aS ta capb gb)]) (As := [.int (nI (n8 + 8))]) (rest := []) (ci := 8) hx hb hml hown hts hGok hK hA hG hl.1 hP hD hS (ct_X10_addLength ll D ta hGok h0 a ar ((0 + 1) + 3) tp osz lsz ns ct gm1_136 (n8 + 8) (by first | assumption | omega | rfl | decide) (by first | assumption | omega | rfl | decide) H.size) tw_1372 tw_1369 tw_1371 tw_50 tw_75 hdX10_addLength rfl ⟨rfl, rfl, Nat.le_of_ble_eq_true rfl, Nat.le_of_ble_eq_true rfl, Nat.le_of_ble_eq_true rfl, Nat.le_of_ble_eq_true rfl⟩ rfl rfl (q0 := 19) rfl [19, 20] [0, 1, 2, 3, 4, 5, 6, 7, 8, 9, 10, 11, 12, 13, 14, 15, 16, 17, 18, 21] rfl rfl (by decide) rfl (Nat.le_of_ble_eq_true rfl) dX10_commandMac_145 (fun u H locs hq hP hD hS => ?_)
          generalize u = gm1_145 at hq hP hD ⊢
          have hq : (qL gm1_145 (((0 + 1) + 3) + 1) = qL gm1_136 ((0 + 1) + 3) ++ [BitVec.ofNat 8 (n8 + 8)]) := hq
          have hL_145 := hq
          refine W.eq (g2 := F0 mm 148 ls []) rfl ?_
          have hP : va_P D vwCl [(a 24, aS ta 16 mac), (a 55, aS ta 16 gco), (a 45, aS ta 32 gch), (a 36, aK ta 2 ru), (a 37, aK ta 2 le), (a 0, aK ta 64 tIP), (a 1, aK ta 48 tSPR), (a 2, aK ta 32 tMIX), (a 3, aK ta 56 tCH), (a 4, aK ta 48 tSEC), (a 5, aK ta 512 tSBX), (a 10, aB ta 64 bi1_94), (a 11, aB ta 64 tu1_94), (a 12, aB ta 56 cd1_94), (a 13, aB ta 768 sk1_94), (a 14, aB ta 32 hf1_94), (a 15, aB ta 48 wd1_94), (a 53, aS ta 16 gb1_94), (a 41, aS ta 256 gke), (hb2, aS ta capb gb), (h0, oM a ar (((0 + 1) + 3) + 1) tp osz lsz ns ct), (a 22, aS ta 700 gm1_145)] H := hP
          have hD : va_D A [(a 24, aS ta 16 mac), (a 55, aS ta 16 gco), (a 45, aS ta 32 gch), (a 36, aK ta 2 ru), (a 37, aK ta 2 le), (a 0, aK ta 64 tIP), (a 1, aK ta 48 tSPR), (a 2, aK ta 32 tMIX), (a 3, aK ta 56 tCH), (a 4, aK ta 48 tSEC), (a 5, aK ta 512 tSBX), (a 10, aB ta 64 bi1_94), (a 11, aB ta 64 tu1_94), (a 12, aB ta 56 cd1_94), (a 13, aB ta 768 sk1_94), (a 14, aB ta 32 hf1_94), (a 15, aB ta 48 wd1_94), (a 53, aS ta 16 gb1_94), (a 41, aS ta 256 gke), (hb2, aS ta capb gb), (h0, oM a ar (((0 + 1) + 3) + 1) tp osz lsz ns ct), (a 22, aS ta 700 gm1_145)] := hD
          refine lv_aload_n (pc := 148) hx hb dX10_commandMac_148 rfl (lv_at hl 3 rfl) ?_
          refine lv_aload (pc := 149) hx hb dX10_commandMac_149 (lv_at hl 7 rfl) ?_
          refine lv_iload (pc := 151) hx hb dX10_commandMac_151 (lv_at hl 8 rfl) ?_
          refine lv_iload (pc := 153) hx hb dX10_commandMac_153 (lv_at hl 9 rfl) ?_
          refine cs_V (pc := 155) (idx := 121) (n := 3) (wr := [(a 24, aS ta 16 mac), (a 55, aS ta 16 gco), (a 45, aS ta 32 gch), (a 36, aK ta 2 ru), (a 37, aK ta 2 le), (a 0, aK ta 64 tIP), (a 1, aK ta 48 tSPR), (a 2, aK ta 32 tMIX), (a 3, aK ta 56 tCH), (a 4, aK ta 48 tSEC), (a 5, aK ta 512 tSBX), (a 10, aB ta 64 bi1_94), (a 11, aB ta 64 tu1_94), (a 12, aB ta 56 cd1_94), (a 13, aB ta 768 sk1_94), (a 14, aB ta 32 hf1_94), (a 15, aB ta 48 wd1_94), (a 53, aS ta 16 gb1_94), (a 41, aS ta 256 gke)]) (As := [.ref hb2, .int (nI f0), .int (nI n8)]) (rest := []) (ci := 8) hx hb hml hown hts hGok hK hA hG hl.1 hP hD hS (ct_X10_addAll ll D ta hGok h0 a ar (((0 + 1) + 3) + 1) tp osz lsz ns ct gm1_145 hb2 f0 capb gb n8 (by first | assumption | omega | rfl | decide) (by first | assumption | omega | rfl | decide) (by first | assumption | omega | rfl | decide) H.size) tw_1306 tw_1303 tw_1305 tw_36 tw_75 hdX10_addAll rfl ⟨rfl, rfl, Nat.le_of_ble_eq_true rfl, Nat.le_of_ble_eq_true rfl, Nat.le_of_ble_eq_true rfl, Nat.le_of_ble_eq_true rfl⟩ rfl rfl (q0 := 20) rfl [20, 21, 19] [0, 1, 2, 3, 4, 5, 6, 7, 8, 9, 10, 11, 12, 13, 14, 15, 16, 17, 18] rfl rfl (by decide) rfl (Nat.le_of_ble_eq_true rfl) dX10_commandMac_155 (fun u H locs hq hP hD hS => ?_)
          generalize u = gm1_155 at hq hP hD ⊢
          have hq : (qL gm1_155 ((((0 + 1) + 3) + 1) + n8) = qL gm1_145 (((0 + 1) + 3) + 1) ++ seg gb f0 n8) := hq
          have hL_155 := hq
          refine W.eq (g2 := F0 mm 158 ls []) rfl ?_
          have hP : va_P D vwCl [(a 24, aS ta 16 mac), (a 55, aS ta 16 gco), (a 45, aS ta 32 gch), (a 36, aK ta 2 ru), (a 37, aK ta 2 le), (a 0, aK ta 64 tIP), (a 1, aK ta 48 tSPR), (a 2, aK ta 32 tMIX), (a 3, aK ta 56 tCH), (a 4, aK ta 48 tSEC), (a 5, aK ta 512 tSBX), (a 10, aB ta 64 bi1_94), (a 11, aB ta 64 tu1_94), (a 12, aB ta 56 cd1_94), (a 13, aB ta 768 sk1_94), (a 14, aB ta 32 hf1_94), (a 15, aB ta 48 wd1_94), (a 53, aS ta 16 gb1_94), (a 41, aS ta 256 gke), (h0, oM a ar ((((0 + 1) + 3) + 1) + n8) tp osz lsz ns ct), (a 22, aS ta 700 gm1_155), (hb2, aS ta capb gb)] H := hP
          have hD : va_D A [(a 24, aS ta 16 mac), (a 55, aS ta 16 gco), (a 45, aS ta 32 gch), (a 36, aK ta 2 ru), (a 37, aK ta 2 le), (a 0, aK ta 64 tIP), (a 1, aK ta 48 tSPR), (a 2, aK ta 32 tMIX), (a 3, aK ta 56 tCH), (a 4, aK ta 48 tSEC), (a 5, aK ta 512 tSBX), (a 10, aB ta 64 bi1_94), (a 11, aB ta 64 tu1_94), (a 12, aB ta 56 cd1_94), (a 13, aB ta 768 sk1_94), (a 14, aB ta 32 hf1_94), (a 15, aB ta 48 wd1_94), (a 53, aS ta 16 gb1_94), (a 41, aS ta 256 gke), (h0, oM a ar ((((0 + 1) + 3) + 1) + n8) tp osz lsz ns ct), (a 22, aS ta 700 gm1_155), (hb2, aS ta capb gb)] := hD
          refine lv_iload (pc := 158) hx hb dX10_commandMac_158 (lv_at hl 1 rfl) ?_
          refine lv_if_eq (pc := 160) (tgt := 184) hx hb dX10_commandMac_160 (by decide) (fun c_6 => absurd c_6 (by decide)) (fun _ => ?_)
          refine lv_aload_n (pc := 163) hx hb dX10_commandMac_163 rfl (lv_at hl 3 rfl) ?_
          refine lv_aload_n (pc := 164) hx hb dX10_commandMac_164 rfl (lv_at hl 3 rfl) ?_
          refine va_get (pc := 165) (D := D) (ci := 8) (v := .ref (a 41)) (C := RX10) (T := TX10) (N := 57) hx hb hts iu10 hown hK hP 19 rfl rfl 41 (by decide) (hts _ tw_1086) (fun _ h9 => h9) rfl dX10_commandMac_165 ?_
          refine lv_iload (pc := 168) hx hb dX10_commandMac_168 (lv_at hl 2 rfl) ?_
          refine lv_bipush (pc := 170) (v := nI 32) hx hb dX10_commandMac_170 (by decide +kernel) ?_
          refine lv_iadd (pc := 172) hx hb dX10_commandMac_172 ?_
          refine q_top (y := nI (128 * sd + 32)) (nI_add (128 * sd) 32) ?_
          refine lv_aload_n (pc := 173) hx hb dX10_commandMac_173 rfl (lv_at hl 3 rfl) ?_
          refine va_get (pc := 174) (D := D) (ci := 8) (v := .ref (a 53)) (C := RX10) (T := TX10) (N := 57) hx hb hts iu10 hown hK hP 19 rfl rfl 53 (by decide) (hts _ tw_1098) (fun _ h9 => h9) rfl dX10_commandMac_174 ?_
          refine lv_iconst (pc := 177) (v := nI 0) hx hb dX10_commandMac_177 (by decide +kernel) ?_
          refine cs_V (pc := 178) (idx := 332) (n := 4) (wr := [(a 55, aS ta 16 gco), (a 45, aS ta 32 gch), (a 36, aK ta 2 ru), (a 37, aK ta 2 le), (hb2, aS ta capb gb)]) (As := [.ref (a 41), .int (nI (128 * sd + 32)), .ref (a 53), .int (nI 0)]) (rest := []) (ci := 8) hx hb hml hown hts hGok hK hA hG hl.1 hP hD hS (ct_X10_retail ll D ta hGok h0 a ar ((((0 + 1) + 3) + 1) + n8) tp osz lsz ns ct gm1_155 mac (a 41) (128 * sd + 32) 256 gke (a 53) 0 16 gb1_94 bi1_94 tu1_94 cd1_94 sk1_94 hf1_94 wd1_94 (by first | assumption | omega | rfl | decide) (by first | assumption | omega | rfl | decide) (by first | assumption | omega | rfl | decide) (by first | assumption | omega | rfl | decide) (by first | assumption | omega | rfl | decide) H.size) tw_1314 tw_1311 tw_1313 tw_38 tw_75 hdX10_retail rfl ⟨rfl, rfl, Nat.le_of_ble_eq_true rfl, Nat.le_of_ble_eq_true rfl, Nat.le_of_ble_eq_true rfl, Nat.le_of_ble_eq_true rfl⟩ rfl rfl (q0 := 19) rfl [19, 20, 0, 5, 6, 7, 8, 9, 10, 11, 12, 13, 14, 15, 16, 18, 17] [1, 2, 3, 4, 21] rfl rfl (by decide) rfl (Nat.le_of_ble_eq_true rfl) dX10_commandMac_178 (fun u H locs hq hP hD hS => ?_)
          obtain ⟨gm1_178, mn1_178, mac1_178, bi1_178, tu1_178, cd1_178, sk1_178, hf1_178, wd1_178⟩ := u
          have hq : (seg mac1_178 0 8 = retailL (seg gke (128 * sd + 32) 16) (seg gb1_94 0 8) (qL gm1_155 ((((0 + 1) + 3) + 1) + n8))) := hq
          have hL_178 := hq
          refine W.eq (g2 := F0 mm 181 ls []) rfl ?_
          have hP : va_P D vwCl [(a 55, aS ta 16 gco), (a 45, aS ta 32 gch), (a 36, aK ta 2 ru), (a 37, aK ta 2 le), (hb2, aS ta capb gb), (h0, oM a ar mn1_178 tp osz lsz ns ct), (a 22, aS ta 700 gm1_178), (a 24, aS ta 16 mac1_178), (a 0, aK ta 64 tIP), (a 1, aK ta 48 tSPR), (a 2, aK ta 32 tMIX), (a 3, aK ta 56 tCH), (a 4, aK ta 48 tSEC), (a 5, aK ta 512 tSBX), (a 10, aB ta 64 bi1_178), (a 11, aB ta 64 tu1_178), (a 12, aB ta 56 cd1_178), (a 13, aB ta 768 sk1_178), (a 14, aB ta 32 hf1_178), (a 15, aB ta 48 wd1_178), (a 41, aS ta 256 gke), (a 53, aS ta 16 gb1_94)] H := hP
          have hD : va_D A [(a 55, aS ta 16 gco), (a 45, aS ta 32 gch), (a 36, aK ta 2 ru), (a 37, aK ta 2 le), (hb2, aS ta capb gb), (h0, oM a ar mn1_178 tp osz lsz ns ct), (a 22, aS ta 700 gm1_178), (a 24, aS ta 16 mac1_178), (a 0, aK ta 64 tIP), (a 1, aK ta 48 tSPR), (a 2, aK ta 32 tMIX), (a 3, aK ta 56 tCH), (a 4, aK ta 48 tSEC), (a 5, aK ta 512 tSBX), (a 10, aB ta 64 bi1_178), (a 11, aB ta 64 tu1_178), (a 12, aB ta 56 cd1_178), (a 13, aB ta 768 sk1_178), (a 14, aB ta 32 hf1_178), (a 15, aB ta 48 wd1_178), (a 41, aS ta 256 gke), (a 53, aS ta 16 gb1_94)] := hD
          refine lv_goto (pc := 181) (tgt := 203) hx hb dX10_commandMac_181 (by decide) ?_
          refine lv_iconst (pc := 203) (v := nI 0) hx hb dX10_commandMac_203 (by decide +kernel) ?_
          refine lv_istore (pc := 204) (lv' := [(10, .int (nI 0)), (9, .int (nI 1)), (8, .int (nI (128 * sd))), (0, .ref h0), (1, .int (nI sd)), (2, .ref hb2), (3, .int (nI 0)), (4, .ref hb2), (5, .int (nI f0)), (6, .int (nI n8)), (7, .int (nI 0))]) hx hb dX10_commandMac_204 hl (by decide) rfl (fun ls hl => ?_)
          have LP206 : ∀ (nn206 : Nat) (k2x : Nat) (c' : Nat → BitVec 8), (k2x ≤ 16) → (qSeg c' gco 0 k2x ((fun j => if j < 8 then mac1_178 j else 0#8))) → (16 - k2x < nn206) → ∀ (H : Heap) (locs : List Loc), va_P D vwCl [(a 55, aS ta 16 c'), (a 45, aS ta 32 gch), (a 36, aK ta 2 ru), (a 37, aK ta 2 le), (hb2, aS ta capb gb), (h0, oM a ar mn1_178 tp osz lsz ns ct), (a 22, aS ta 700 gm1_178), (a 24, aS ta 16 mac1_178), (a 0, aK ta 64 tIP), (a 1, aK ta 48 tSPR), (a 2, aK ta 32 tMIX), (a 3, aK ta 56 tCH), (a 4, aK ta 48 tSEC), (a 5, aK ta 512 tSBX), (a 10, aB ta 64 bi1_178), (a 11, aB ta 64 tu1_178), (a 12, aB ta 56 cd1_178), (a 13, aB ta 768 sk1_178), (a 14, aB ta 32 hf1_178), (a 15, aB ta 48 wd1_178), (a 41, aS ta 256 gke), (a 53, aS ta 16 gb1_94)] H → va_D A [(a 55, aS ta 16 c'), (a 45, aS ta 32 gch), (a 36, aK ta 2 ru), (a 37, aK ta 2 le), (hb2, aS ta capb gb), (h0, oM a ar mn1_178 tp osz lsz ns ct), (a 22, aS ta 700 gm1_178), (a 24, aS ta 16 mac1_178), (a 0, aK ta 64 tIP), (a 1, aK ta 48 tSPR), (a 2, aK ta 32 tMIX), (a 3, aK ta 56 tCH), (a 4, aK ta 48 tSEC), (a 5, aK ta 512 tSBX), (a 10, aB ta 64 bi1_178), (a 11, aB ta 64 tu1_178), (a 12, aB ta 56 cd1_178), (a 13, aB ta 768 sk1_178), (a 14, aB ta 32 hf1_178), (a 15, aB ta 48 wd1_178), (a 41, aS ta 256 gke), (a 53, aS ta 16 gb1_94)] → va_S A ss.heap H locs → ∀ ls : Array Slot, lv_has ls 11 [(10, .int (nI k2x)), (9, .int (nI 1)), (8, .int (nI (128 * sd))), (0, .ref h0), (1, .int (nI sd)), (2, .ref hb2), (3, .int (nI 0)), (4, .ref hb2), (5, .int (nI f0)), (6, .int (nI n8)), (7, .int (nI 0))] → W pp ll ee ({ frames := 5, cells := 0, slots := 0, locals := 124 } : Room) ss mm (([.ref h0, .int (nI sd), .ref hb2, .int (nI 0), .ref hb2, .int (nI f0), .int (nI n8), .int (nI 0)] : List Value).toArray) below meth kc H locs 0 0 Q (F0 mm 206 ls []) := by
            intro nn206
            induction nn206 with
            | zero => intro k2x c' hkk2 hs2 hmu; exact absurd hmu (Nat.not_lt_zero _)
            | succ nn206 ih206 =>
              intro k2x c' hkk2 hs2 hmu206 H locs hP hD hS ls hl
              refine lv_iload (pc := 206) hx hb dX10_commandMac_206 (lv_at hl 0 rfl) ?_
              refine lv_bipush (pc := 208) (v := nI 16) hx hb dX10_commandMac_208 (by decide +kernel) ?_
              refine lv_icmp_ge (pc := 210) (tgt := 249) hx hb dX10_commandMac_210 (by decide) (fun c_7 => ?_) (fun c_7 => ?_)
              · skip
                rw [nI_leI (by omega) (by omega)] at c_7
                refine lv_iconst (pc := 249) (v := nI 0) hx hb dX10_commandMac_249 (by decide +kernel) ?_
                refine lv_istore (pc := 250) (lv' := [(10, .int (nI 0)), (9, .int (nI 1)), (8, .int (nI (128 * sd))), (0, .ref h0), (1, .int (nI sd)), (2, .ref hb2), (3, .int (nI 0)), (4, .ref hb2), (5, .int (nI f0)), (6, .int (nI n8)), (7, .int (nI 0))]) hx hb dX10_commandMac_250 hl (by decide) rfl (fun ls hl => ?_)
                have LP252 : ∀ (nn252 : Nat) (k3x : Nat) (d' : Nat → BitVec 8), (k3x ≤ 16) → (qSeg d' gch (16 * sd) k3x c') → (16 - k3x < nn252) → ∀ (H : Heap) (locs : List Loc), va_P D vwCl [(a 55, aS ta 16 c'), (a 45, aS ta 32 d'), (a 36, aK ta 2 ru), (a 37, aK ta 2 le), (hb2, aS ta capb gb), (h0, oM a ar mn1_178 tp osz lsz ns ct), (a 22, aS ta 700 gm1_178), (a 24, aS ta 16 mac1_178), (a 0, aK ta 64 tIP), (a 1, aK ta 48 tSPR), (a 2, aK ta 32 tMIX), (a 3, aK ta 56 tCH), (a 4, aK ta 48 tSEC), (a 5, aK ta 512 tSBX), (a 10, aB ta 64 bi1_178), (a 11, aB ta 64 tu1_178), (a 12, aB ta 56 cd1_178), (a 13, aB ta 768 sk1_178), (a 14, aB ta 32 hf1_178), (a 15, aB ta 48 wd1_178), (a 41, aS ta 256 gke), (a 53, aS ta 16 gb1_94)] H → va_D A [(a 55, aS ta 16 c'), (a 45, aS ta 32 d'), (a 36, aK ta 2 ru), (a 37, aK ta 2 le), (hb2, aS ta capb gb), (h0, oM a ar mn1_178 tp osz lsz ns ct), (a 22, aS ta 700 gm1_178), (a 24, aS ta 16 mac1_178), (a 0, aK ta 64 tIP), (a 1, aK ta 48 tSPR), (a 2, aK ta 32 tMIX), (a 3, aK ta 56 tCH), (a 4, aK ta 48 tSEC), (a 5, aK ta 512 tSBX), (a 10, aB ta 64 bi1_178), (a 11, aB ta 64 tu1_178), (a 12, aB ta 56 cd1_178), (a 13, aB ta 768 sk1_178), (a 14, aB ta 32 hf1_178), (a 15, aB ta 48 wd1_178), (a 41, aS ta 256 gke), (a 53, aS ta 16 gb1_94)] → va_S A ss.heap H locs → ∀ ls : Array Slot, lv_has ls 11 [(10, .int (nI k3x)), (9, .int (nI 1)), (8, .int (nI (128 * sd))), (0, .ref h0), (1, .int (nI sd)), (2, .ref hb2), (3, .int (nI 0)), (4, .ref hb2), (5, .int (nI f0)), (6, .int (nI n8)), (7, .int (nI 0))] → W pp ll ee ({ frames := 5, cells := 0, slots := 0, locals := 124 } : Room) ss mm (([.ref h0, .int (nI sd), .ref hb2, .int (nI 0), .ref hb2, .int (nI f0), .int (nI n8), .int (nI 0)] : List Value).toArray) below meth kc H locs 0 0 Q (F0 mm 252 ls []) := by
                  intro nn252
                  induction nn252 with
                  | zero => intro k3x d' hkk3 hs3 hmu; exact absurd hmu (Nat.not_lt_zero _)
                  | succ nn252 ih252 =>
                    intro k3x d' hkk3 hs3 hmu252 H locs hP hD hS ls hl
                    refine lv_iload (pc := 252) hx hb dX10_commandMac_252 (lv_at hl 0 rfl) ?_
                    refine lv_bipush (pc := 254) (v := nI 16) hx hb dX10_commandMac_254 (by decide +kernel) ?_
                    refine lv_icmp_ge (pc := 256) (tgt := 284) hx hb dX10_commandMac_256 (by decide) (fun c_8 => ?_) (fun c_8 => ?_)
                    · skip
                      rw [nI_leI (by omega) (by omega)] at c_8
                      have hq_9 : (seg c' 0 8 = retailL (seg gke (128 * sd + 32) 16) (desL (seg gke (128 * sd + 32) 8) false (seg gch (16 * sd) 8)) (headL (seg gb 0 4) n8 ++ seg gb f0 n8)) ∧ (seg d' (16 * sd) 16 = seg c' 0 16) ∧ (∀ j, (j < 16 * sd ∨ 16 * sd + 16 ≤ j) → d' j = gch j) := by
                        have hT : qL gm1_155 (0 + 1 + 3 + 1 + n8) = (headL (seg gb 0 4) n8 ++ seg gb f0 n8) := by
                          have e := head_ref (g := gb) (n := n8) (gm := gb) rfl
                          rw [hL_155, hL_145, hL_136, hL_127, qL_0, List.nil_append, ← e]
                        have hV : seg b' 0 8 = seg gch (16 * sd) 8 := seg_copy (qSeg_le hs1 (by omega)) rfl
                        refine ⟨?_, ?_, fun j hj => hs3.2 j (by omega)⟩
                        · have e8 : seg c' 0 8 = seg mac1_178 0 8 := by rw [seg_0, seg_0, qL_ext]; intro j hj; rw [qSeg_at hs2 (show j < k2x by omega), if_pos hj]
                          rw [e8, hL_178, hT, hs_94, hV]
                        · rw [seg_copy0 hs3 (by omega), seg_0]
                      exact hret (⟨(bi1_178), (tu1_178), (cd1_178), (sk1_178), (hf1_178), (wd1_178), (gm1_178), (mac1_178), (gb1_94), (c'), (d'), (mn1_178)⟩ : (Nat → Bool) × (Nat → Bool) × (Nat → Bool) × (Nat → Bool) × (Nat → Bool) × (Nat → Bool) × (Nat → BitVec 8) × (Nat → BitVec 8) × (Nat → BitVec 8) × (Nat → BitVec 8) × (Nat → BitVec 8) × Nat) _ _ _ _ dX10_commandMac_284 hq_9 (hP.sub [5, 8, 9, 10, 11, 12, 13, 14, 15, 16, 17, 18, 19, 6, 7, 21, 0, 1, 20, 2, 3, 4] rfl) (hD.sub [5, 8, 9, 10, 11, 12, 13, 14, 15, 16, 17, 18, 19, 6, 7, 21, 0, 1, 20, 2, 3, 4] (by decide) rfl) hS
                    · skip
                      rw [nI_leI (by omega) (by omega)] at c_8
                      refine lv_aload_n (pc := 259) hx hb dX10_commandMac_259 rfl (lv_at hl 3 rfl) ?_
                      refine va_get (pc := 260) (D := D) (ci := 8) (v := .ref (a 45)) (C := RX10) (T := TX10) (N := 57) hx hb hts iu10 hown hK hP 5 rfl rfl 45 (by decide) (hts _ tw_1090) (fun _ h9 => h9) rfl dX10_commandMac_260 ?_
                      refine lv_bipush (pc := 263) (v := nI 16) hx hb dX10_commandMac_263 (by decide +kernel) ?_
                      refine lv_iload_n (pc := 265) hx hb dX10_commandMac_265 rfl (lv_at hl 4 rfl) ?_
                      refine lv_imul (pc := 266) hx hb dX10_commandMac_266 ?_
                      refine q_top (y := nI (16 * sd)) (pk_mul 16 sd) ?_
                      refine lv_iload (pc := 267) hx hb dX10_commandMac_267 (lv_at hl 0 rfl) ?_
                      refine lv_iadd (pc := 269) hx hb dX10_commandMac_269 ?_
                      refine q_top (y := nI (16 * sd + k3x)) (nI_add (16 * sd) k3x) ?_
                      refine lv_aload_n (pc := 270) hx hb dX10_commandMac_270 rfl (lv_at hl 3 rfl) ?_
                      refine va_get (pc := 271) (D := D) (ci := 8) (v := .ref (a 55)) (C := RX10) (T := TX10) (N := 57) hx hb hts iu10 hown hK hP 5 rfl rfl 55 (by decide) (hts _ tw_1100) (fun _ h9 => h9) rfl dX10_commandMac_271 ?_
                      refine lv_iload (pc := 274) hx hb dX10_commandMac_274 (lv_at hl 0 rfl) ?_
                      refine q_bald (pc := 276) hx hb hK hP 0 2 rfl rfl (k := k3x) (v := qs (c' k3x)) rfl (by omega) (by omega) rfl dX10_commandMac_276 ?_
                      refine q_bastS (pc := 277) hx hb hK hP hD hS 1 2 rfl rfl (k := 16 * sd + k3x) rfl (by omega) (by omega) (b := c' k3x) (qlo_qs _) dX10_commandMac_277 (fun H locs hP hD hS => ?_)
                      have hP : va_P D vwCl [(a 55, aS ta 16 c'), (a 45, aS ta 32 (qU d' (16 * sd + k3x) (c' k3x))), (a 36, aK ta 2 ru), (a 37, aK ta 2 le), (hb2, aS ta capb gb), (h0, oM a ar mn1_178 tp osz lsz ns ct), (a 22, aS ta 700 gm1_178), (a 24, aS ta 16 mac1_178), (a 0, aK ta 64 tIP), (a 1, aK ta 48 tSPR), (a 2, aK ta 32 tMIX), (a 3, aK ta 56 tCH), (a 4, aK ta 48 tSEC), (a 5, aK ta 512 tSBX), (a 10, aB ta 64 bi1_178), (a 11, aB ta 64 tu1_178), (a 12, aB ta 56 cd1_178), (a 13, aB ta 768 sk1_178), (a 14, aB ta 32 hf1_178), (a 15, aB ta 48 wd1_178), (a 41, aS ta 256 gke), (a 53, aS ta 16 gb1_94)] H := hP
                      have hD : va_D A [(a 55, aS ta 16 c'), (a 45, aS ta 32 (qU d' (16 * sd + k3x) (c' k3x))), (a 36, aK ta 2 ru), (a 37, aK ta 2 le), (hb2, aS ta capb gb), (h0, oM a ar mn1_178 tp osz lsz ns ct), (a 22, aS ta 700 gm1_178), (a 24, aS ta 16 mac1_178), (a 0, aK ta 64 tIP), (a 1, aK ta 48 tSPR), (a 2, aK ta 32 tMIX), (a 3, aK ta 56 tCH), (a 4, aK ta 48 tSEC), (a 5, aK ta 512 tSBX), (a 10, aB ta 64 bi1_178), (a 11, aB ta 64 tu1_178), (a 12, aB ta 56 cd1_178), (a 13, aB ta 768 sk1_178), (a 14, aB ta 32 hf1_178), (a 15, aB ta 48 wd1_178), (a 41, aS ta 256 gke), (a 53, aS ta 16 gb1_94)] := hD
                      refine lv_iinc (pc := 278) (v := nI (k3x + 1)) (lv' := [(10, .int (nI (k3x + 1))), (9, .int (nI 1)), (8, .int (nI (128 * sd))), (0, .ref h0), (1, .int (nI sd)), (2, .ref hb2), (3, .int (nI 0)), (4, .ref hb2), (5, .int (nI f0)), (6, .int (nI n8)), (7, .int (nI 0))]) hx hb dX10_commandMac_278 hl (k := 0) rfl (by first | exact nI_add k3x 1 | rfl) (by decide) rfl (fun ls hl => ?_)
                      refine lv_goto (pc := 281) (tgt := 252) hx hb dX10_commandMac_281 (by decide) ?_
                      exact ih252 (k3x + 1) (qU d' (16 * sd + k3x) (c' k3x)) (by omega) (qSeg_s hs3 (by omega) (by first | rfl | (simp; done))) (by omega) _ _ (hP.sub [0, 1, 2, 3, 4, 5, 6, 7, 8, 9, 10, 11, 12, 13, 14, 15, 16, 17, 18, 19, 20, 21] rfl) (hD.sub [0, 1, 2, 3, 4, 5, 6, 7, 8, 9, 10, 11, 12, 13, 14, 15, 16, 17, 18, 19, 20, 21] (by decide) rfl) hS ls (lv_sub hl [0, 1, 2, 3, 4, 5, 6, 7, 8, 9, 10] rfl)
                exact LP252 _ 0 gch (by omega) (qSeg_0) (Nat.lt_succ_self _) _ _ (hP.sub [0, 1, 2, 3, 4, 5, 6, 7, 8, 9, 10, 11, 12, 13, 14, 15, 16, 17, 18, 19, 20, 21] rfl) (hD.sub [0, 1, 2, 3, 4, 5, 6, 7, 8, 9, 10, 11, 12, 13, 14, 15, 16, 17, 18, 19, 20, 21] (by decide) rfl) hS ls (lv_sub hl [0, 1, 2, 3, 4, 5, 6, 7, 8, 9, 10] rfl)
              · skip
                rw [nI_leI (by omega) (by omega)] at c_7
                refine lv_aload_n (pc := 213) hx hb dX10_commandMac_213 rfl (lv_at hl 3 rfl) ?_
                refine va_get (pc := 214) (D := D) (ci := 8) (v := .ref (a 55)) (C := RX10) (T := TX10) (N := 57) hx hb hts iu10 hown hK hP 5 rfl rfl 55 (by decide) (hts _ tw_1100) (fun _ h9 => h9) rfl dX10_commandMac_214 ?_
                refine lv_iload (pc := 217) hx hb dX10_commandMac_217 (lv_at hl 0 rfl) ?_
                refine lv_iload (pc := 219) hx hb dX10_commandMac_219 (lv_at hl 0 rfl) ?_
                refine lv_bipush (pc := 221) (v := nI 8) hx hb dX10_commandMac_221 (by decide +kernel) ?_
                refine lv_icmp_lt (pc := 223) (tgt := 231) hx hb dX10_commandMac_223 (by decide) (fun c_10 => ?_) (fun c_10 => ?_)
                · skip
                  rw [nI_ltI (by omega) (by omega)] at c_10
                  refine lv_aload_n (pc := 231) hx hb dX10_commandMac_231 rfl (lv_at hl 3 rfl) ?_
                  refine va_get (pc := 232) (D := D) (ci := 8) (v := .ref (a 24)) (C := RX10) (T := TX10) (N := 57) hx hb hts iu10 hown hK hP 5 rfl rfl 24 (by decide) (hts _ tw_1069) (fun _ h9 => h9) rfl dX10_commandMac_232 ?_
                  refine lv_iload (pc := 235) hx hb dX10_commandMac_235 (lv_at hl 0 rfl) ?_
                  refine q_bald (pc := 237) hx hb hK hP 7 2 rfl rfl (k := k2x) (v := qs (mac1_178 k2x)) rfl (by omega) (by omega) rfl dX10_commandMac_237 ?_
                  refine lv_goto (pc := 238) (tgt := 242) hx hb dX10_commandMac_238 (by decide) ?_
                  refine q_bastS (pc := 242) hx hb hK hP hD hS 0 2 rfl rfl (k := k2x) rfl (by omega) (by omega) (b := mac1_178 k2x) (qlo_qs _) dX10_commandMac_242 (fun H locs hP hD hS => ?_)
                  have hP : va_P D vwCl [(a 55, aS ta 16 (qU c' k2x (mac1_178 k2x))), (a 45, aS ta 32 gch), (a 36, aK ta 2 ru), (a 37, aK ta 2 le), (hb2, aS ta capb gb), (h0, oM a ar mn1_178 tp osz lsz ns ct), (a 22, aS ta 700 gm1_178), (a 24, aS ta 16 mac1_178), (a 0, aK ta 64 tIP), (a 1, aK ta 48 tSPR), (a 2, aK ta 32 tMIX), (a 3, aK ta 56 tCH), (a 4, aK ta 48 tSEC), (a 5, aK ta 512 tSBX), (a 10, aB ta 64 bi1_178), (a 11, aB ta 64 tu1_178), (a 12, aB ta 56 cd1_178), (a 13, aB ta 768 sk1_178), (a 14, aB ta 32 hf1_178), (a 15, aB ta 48 wd1_178), (a 41, aS ta 256 gke), (a 53, aS ta 16 gb1_94)] H := hP
                  have hD : va_D A [(a 55, aS ta 16 (qU c' k2x (mac1_178 k2x))), (a 45, aS ta 32 gch), (a 36, aK ta 2 ru), (a 37, aK ta 2 le), (hb2, aS ta capb gb), (h0, oM a ar mn1_178 tp osz lsz ns ct), (a 22, aS ta 700 gm1_178), (a 24, aS ta 16 mac1_178), (a 0, aK ta 64 tIP), (a 1, aK ta 48 tSPR), (a 2, aK ta 32 tMIX), (a 3, aK ta 56 tCH), (a 4, aK ta 48 tSEC), (a 5, aK ta 512 tSBX), (a 10, aB ta 64 bi1_178), (a 11, aB ta 64 tu1_178), (a 12, aB ta 56 cd1_178), (a 13, aB ta 768 sk1_178), (a 14, aB ta 32 hf1_178), (a 15, aB ta 48 wd1_178), (a 41, aS ta 256 gke), (a 53, aS ta 16 gb1_94)] := hD
                  refine lv_iinc (pc := 243) (v := nI (k2x + 1)) (lv' := [(10, .int (nI (k2x + 1))), (9, .int (nI 1)), (8, .int (nI (128 * sd))), (0, .ref h0), (1, .int (nI sd)), (2, .ref hb2), (3, .int (nI 0)), (4, .ref hb2), (5, .int (nI f0)), (6, .int (nI n8)), (7, .int (nI 0))]) hx hb dX10_commandMac_243 hl (k := 0) rfl (by first | exact nI_add k2x 1 | rfl) (by decide) rfl (fun ls hl => ?_)
                  refine lv_goto (pc := 246) (tgt := 206) hx hb dX10_commandMac_246 (by decide) ?_
                  exact ih206 (k2x + 1) (qU c' k2x (mac1_178 k2x)) (by omega) (qSeg_s hs2 (by omega) (by first | (simp [show k2x < 8 by omega]; done) | (simp [show ¬ k2x < 8 by omega]; done))) (by omega) _ _ (hP.sub [0, 1, 2, 3, 4, 5, 6, 7, 8, 9, 10, 11, 12, 13, 14, 15, 16, 17, 18, 19, 20, 21] rfl) (hD.sub [0, 1, 2, 3, 4, 5, 6, 7, 8, 9, 10, 11, 12, 13, 14, 15, 16, 17, 18, 19, 20, 21] (by decide) rfl) hS ls (lv_sub hl [0, 1, 2, 3, 4, 5, 6, 7, 8, 9, 10] rfl)
                · skip
                  rw [nI_ltI (by omega) (by omega)] at c_10
                  refine lv_iload (pc := 226) hx hb dX10_commandMac_226 (lv_at hl 1 rfl) ?_
                  refine lv_if_ne (pc := 228) (tgt := 241) hx hb dX10_commandMac_228 (by decide) (fun _ => ?_) (fun c_11 => absurd c_11 (by decide))
                  refine lv_iconst (pc := 241) (v := nI 0) hx hb dX10_commandMac_241 (by decide +kernel) ?_
                  refine q_bastS (pc := 242) hx hb hK hP hD hS 0 2 rfl rfl (k := k2x) rfl (by omega) (by omega) (b := BitVec.ofNat 8 0) (qlo_nI _) dX10_commandMac_242 (fun H locs hP hD hS => ?_)
                  have hP : va_P D vwCl [(a 55, aS ta 16 (qU c' k2x (BitVec.ofNat 8 0))), (a 45, aS ta 32 gch), (a 36, aK ta 2 ru), (a 37, aK ta 2 le), (hb2, aS ta capb gb), (h0, oM a ar mn1_178 tp osz lsz ns ct), (a 22, aS ta 700 gm1_178), (a 24, aS ta 16 mac1_178), (a 0, aK ta 64 tIP), (a 1, aK ta 48 tSPR), (a 2, aK ta 32 tMIX), (a 3, aK ta 56 tCH), (a 4, aK ta 48 tSEC), (a 5, aK ta 512 tSBX), (a 10, aB ta 64 bi1_178), (a 11, aB ta 64 tu1_178), (a 12, aB ta 56 cd1_178), (a 13, aB ta 768 sk1_178), (a 14, aB ta 32 hf1_178), (a 15, aB ta 48 wd1_178), (a 41, aS ta 256 gke), (a 53, aS ta 16 gb1_94)] H := hP
                  have hD : va_D A [(a 55, aS ta 16 (qU c' k2x (BitVec.ofNat 8 0))), (a 45, aS ta 32 gch), (a 36, aK ta 2 ru), (a 37, aK ta 2 le), (hb2, aS ta capb gb), (h0, oM a ar mn1_178 tp osz lsz ns ct), (a 22, aS ta 700 gm1_178), (a 24, aS ta 16 mac1_178), (a 0, aK ta 64 tIP), (a 1, aK ta 48 tSPR), (a 2, aK ta 32 tMIX), (a 3, aK ta 56 tCH), (a 4, aK ta 48 tSEC), (a 5, aK ta 512 tSBX), (a 10, aB ta 64 bi1_178), (a 11, aB ta 64 tu1_178), (a 12, aB ta 56 cd1_178), (a 13, aB ta 768 sk1_178), (a 14, aB ta 32 hf1_178), (a 15, aB ta 48 wd1_178), (a 41, aS ta 256 gke), (a 53, aS ta 16 gb1_94)] := hD
                  refine lv_iinc (pc := 243) (v := nI (k2x + 1)) (lv' := [(10, .int (nI (k2x + 1))), (9, .int (nI 1)), (8, .int (nI (128 * sd))), (0, .ref h0), (1, .int (nI sd)), (2, .ref hb2), (3, .int (nI 0)), (4, .ref hb2), (5, .int (nI f0)), (6, .int (nI n8)), (7, .int (nI 0))]) hx hb dX10_commandMac_243 hl (k := 0) rfl (by first | exact nI_add k2x 1 | rfl) (by decide) rfl (fun ls hl => ?_)
                  refine lv_goto (pc := 246) (tgt := 206) hx hb dX10_commandMac_246 (by decide) ?_
                  exact ih206 (k2x + 1) (qU c' k2x (BitVec.ofNat 8 0)) (by omega) (qSeg_s hs2 (by omega) (by first | (simp [show k2x < 8 by omega]; done) | (simp [show ¬ k2x < 8 by omega]; done))) (by omega) _ _ (hP.sub [0, 1, 2, 3, 4, 5, 6, 7, 8, 9, 10, 11, 12, 13, 14, 15, 16, 17, 18, 19, 20, 21] rfl) (hD.sub [0, 1, 2, 3, 4, 5, 6, 7, 8, 9, 10, 11, 12, 13, 14, 15, 16, 17, 18, 19, 20, 21] (by decide) rfl) hS ls (lv_sub hl [0, 1, 2, 3, 4, 5, 6, 7, 8, 9, 10] rfl)
          exact LP206 _ 0 gco (by omega) (qSeg_0) (Nat.lt_succ_self _) _ _ (hP.sub [0, 1, 2, 3, 4, 5, 6, 7, 8, 9, 10, 11, 12, 13, 14, 15, 16, 17, 18, 19, 20, 21] rfl) (hD.sub [0, 1, 2, 3, 4, 5, 6, 7, 8, 9, 10, 11, 12, 13, 14, 15, 16, 17, 18, 19, 20, 21] (by decide) rfl) hS ls (lv_sub hl [0, 1, 2, 3, 4, 5, 6, 7, 8, 9, 10] rfl)
        · skip
          rw [nI_leI (by omega) (by omega)] at c_2
          refine lv_aload_n (pc := 34) hx hb dX10_commandMac_34 rfl (lv_at hl 3 rfl) ?_
          refine va_get (pc := 35) (D := D) (ci := 8) (v := .ref (a 53)) (C := RX10) (T := TX10) (N := 57) hx hb hts iu10 hown hK hP 0 rfl rfl 53 (by decide) (hts _ tw_1098) (fun _ h9 => h9) rfl dX10_commandMac_35 ?_
          refine lv_iload (pc := 38) hx hb dX10_commandMac_38 (lv_at hl 0 rfl) ?_
          refine lv_iload (pc := 40) hx hb dX10_commandMac_40 (lv_at hl 10 rfl) ?_
          refine lv_if_eq (pc := 42) (tgt := 49) hx hb dX10_commandMac_42 (by decide) (fun _ => ?_) (fun c_12 => absurd (by decide) c_12)
          refine lv_aload_n (pc := 49) hx hb dX10_commandMac_49 rfl (lv_at hl 3 rfl) ?_
          refine va_get (pc := 50) (D := D) (ci := 8) (v := .ref (a 45)) (C := RX10) (T := TX10) (N := 57) hx hb hts iu10 hown hK hP 0 rfl rfl 45 (by decide) (hts _ tw_1090) (fun _ h9 => h9) rfl dX10_commandMac_50 ?_
          refine lv_bipush (pc := 53) (v := nI 16) hx hb dX10_commandMac_53 (by decide +kernel) ?_
          refine lv_iload_n (pc := 55) hx hb dX10_commandMac_55 rfl (lv_at hl 4 rfl) ?_
          refine lv_imul (pc := 56) hx hb dX10_commandMac_56 ?_
          refine q_top (y := nI (16 * sd)) (pk_mul 16 sd) ?_
          refine lv_iload (pc := 57) hx hb dX10_commandMac_57 (lv_at hl 0 rfl) ?_
          refine lv_iadd (pc := 59) hx hb dX10_commandMac_59 ?_
          refine q_top (y := nI (16 * sd + k1x)) (nI_add (16 * sd) k1x) ?_
          refine q_bald (pc := 60) hx hb hK hP 17 2 rfl rfl (k := 16 * sd + k1x) (v := qs (gch (16 * sd + k1x))) rfl (by omega) (by omega) rfl dX10_commandMac_60 ?_
          refine q_bastS (pc := 61) hx hb hK hP hD hS 15 2 rfl rfl (k := k1x) rfl (by omega) (by omega) (b := gch (16 * sd + k1x)) (qlo_qs _) dX10_commandMac_61 (fun H locs hP hD hS => ?_)
          have hP : va_P D vwCl [(h0, oM a ar mn tp osz lsz ns ct), (a 0, aK ta 64 tIP), (a 1, aK ta 48 tSPR), (a 2, aK ta 32 tMIX), (a 3, aK ta 56 tCH), (a 4, aK ta 48 tSEC), (a 5, aK ta 512 tSBX), (a 10, aB ta 64 bi), (a 11, aB ta 64 tu), (a 12, aB ta 56 cd), (a 13, aB ta 768 sk), (a 14, aB ta 32 hf), (a 15, aB ta 48 wd), (a 22, aS ta 700 gm), (a 24, aS ta 16 mac), (a 53, aS ta 16 (qU b' k1x (gch (16 * sd + k1x)))), (a 55, aS ta 16 gco), (a 45, aS ta 32 gch), (a 41, aS ta 256 gke), (a 36, aK ta 2 ru), (a 37, aK ta 2 le), (hb2, aS ta capb gb)] H := hP
          have hD : va_D A [(h0, oM a ar mn tp osz lsz ns ct), (a 0, aK ta 64 tIP), (a 1, aK ta 48 tSPR), (a 2, aK ta 32 tMIX), (a 3, aK ta 56 tCH), (a 4, aK ta 48 tSEC), (a 5, aK ta 512 tSBX), (a 10, aB ta 64 bi), (a 11, aB ta 64 tu), (a 12, aB ta 56 cd), (a 13, aB ta 768 sk), (a 14, aB ta 32 hf), (a 15, aB ta 48 wd), (a 22, aS ta 700 gm), (a 24, aS ta 16 mac), (a 53, aS ta 16 (qU b' k1x (gch (16 * sd + k1x)))), (a 55, aS ta 16 gco), (a 45, aS ta 32 gch), (a 41, aS ta 256 gke), (a 36, aK ta 2 ru), (a 37, aK ta 2 le), (hb2, aS ta capb gb)] := hD
          refine lv_iinc (pc := 62) (v := nI (k1x + 1)) (lv' := [(10, .int (nI (k1x + 1))), (9, .int (nI 1)), (8, .int (nI (128 * sd))), (0, .ref h0), (1, .int (nI sd)), (2, .ref hb2), (3, .int (nI 0)), (4, .ref hb2), (5, .int (nI f0)), (6, .int (nI n8)), (7, .int (nI 0))]) hx hb dX10_commandMac_62 hl (k := 0) rfl (by first | exact nI_add k1x 1 | rfl) (by decide) rfl (fun ls hl => ?_)
          refine lv_goto (pc := 65) (tgt := 27) hx hb dX10_commandMac_65 (by decide) ?_
          exact ih27 (k1x + 1) (qU b' k1x (gch (16 * sd + k1x))) (by omega) (qSeg_s hs1 (by omega) (by first | rfl | (simp; done))) (by omega) _ _ (hP.sub [0, 1, 2, 3, 4, 5, 6, 7, 8, 9, 10, 11, 12, 13, 14, 15, 16, 17, 18, 19, 20, 21] rfl) (hD.sub [0, 1, 2, 3, 4, 5, 6, 7, 8, 9, 10, 11, 12, 13, 14, 15, 16, 17, 18, 19, 20, 21] (by decide) rfl) hS ls (lv_sub hl [0, 1, 2, 3, 4, 5, 6, 7, 8, 9, 10] rfl)
    exact LP27 _ 0 gbl (by omega) (qSeg_0) (Nat.lt_succ_self _) _ _ (hP.sub [0, 1, 2, 3, 4, 5, 6, 7, 8, 9, 10, 11, 12, 13, 14, 15, 16, 17, 18, 19, 20, 21] rfl) (hD.sub [0, 1, 2, 3, 4, 5, 6, 7, 8, 9, 10, 11, 12, 13, 14, 15, 16, 17, 18, 19, 20, 21] (by decide) rfl) hS ls (lv_sub hl [0, 1, 2, 3, 4, 5, 6, 7, 8, 9, 10] rfl)
set_option maxHeartbeats 4000000 in
set_option maxRecDepth 100000 in
theorem ct_X10_commandMac_200 (ll : Launch) (D : va_G) (ta : Nat → ClassId) {G : (Nat → Prop) → State → Heap → Prop} (hGok : GOK G) (h0 : Nat) (a : Nat → Nat) (ar : Nat) (mn : Nat) (tp : Nat) (osz : Nat) (lsz : Nat) (ns : Nat) (ct : Nat) (bi : Nat → Bool) (tu : Nat → Bool) (cd : Nat → Bool) (sk : Nat → Bool) (hf : Nat → Bool) (wd : Nat → Bool) (gm : Nat → BitVec 8) (mac : Nat → BitVec 8) (gbl : Nat → BitVec 8) (gco : Nat → BitVec 8) (gch : Nat → BitVec 8) (gke : Nat → BitVec 8) (ru : Nat → Nat) (le : Nat → Nat) (sd : Nat) (hb2 : Nat) (capb : Nat) (gb : Nat → BitVec 8) (hd2 : Nat) (capd : Nat) (gd : Nat → BitVec 8) (f0 : Nat) (n8 : Nat) (hsd : sd ≤ 1) (hru : ru sd = 2) (hn8 : n8 ≤ 300) (hcb : 4 ≤ capb ∧ capb < 2147483648) (hfd : f0 + n8 ≤ capd) (hcd : capd < 2147483648) (sz : Nat) : CT ll yX10_commandMac cX10_commandMac 11 none ({ frames := 5, cells := 0, slots := 0, locals := 124 } : Room) D ta G [.ref h0, .int (nI sd), .ref hb2, .int (nI 0), .ref hd2, .int (nI f0), .int (nI n8), .int (nI 0)] [(h0, oM a ar mn tp osz lsz ns ct), (a 0, aK ta 64 tIP), (a 1, aK ta 48 tSPR), (a 2, aK ta 32 tMIX), (a 3, aK ta 56 tCH), (a 4, aK ta 48 tSEC), (a 5, aK ta 512 tSBX), (a 10, aB ta 64 bi), (a 11, aB ta 64 tu), (a 12, aB ta 56 cd), (a 13, aB ta 768 sk), (a 14, aB ta 32 hf), (a 15, aB ta 48 wd), (a 22, aS ta 700 gm), (a 24, aS ta 16 mac), (a 53, aS ta 16 gbl), (a 55, aS ta 16 gco), (a 45, aS ta 32 gch), (a 41, aS ta 256 gke), (a 36, aK ta 2 ru), (a 37, aK ta 2 le), (hb2, aS ta capb gb), (hd2, aS ta capd gd)] sz (S := (Nat → Bool) × (Nat → Bool) × (Nat → Bool) × (Nat → Bool) × (Nat → Bool) × (Nat → Bool) × (Nat → BitVec 8) × (Nat → BitVec 8) × (Nat → BitVec 8) × (Nat → BitVec 8) × (Nat → BitVec 8) × Nat) (fun _ => none) (fun u => (seg u.2.2.2.2.2.2.2.2.2.1 0 8 = retailL (seg gke (128 * sd + 32) 16) (desL (seg gke (128 * sd + 32) 8) false (seg gch (16 * sd) 8)) (headL (seg gb 0 4) n8 ++ seg gd f0 n8)) ∧ (seg u.2.2.2.2.2.2.2.2.2.2.1 (16 * sd) 16 = seg u.2.2.2.2.2.2.2.2.2.1 0 16) ∧ (∀ j, (j < 16 * sd ∨ 16 * sd + 16 ≤ j) → u.2.2.2.2.2.2.2.2.2.2.1 j = gch j)) (fun u => [(h0, oM a ar u.2.2.2.2.2.2.2.2.2.2.2 tp osz lsz ns ct), (a 0, aK ta 64 tIP), (a 1, aK ta 48 tSPR), (a 2, aK ta 32 tMIX), (a 3, aK ta 56 tCH), (a 4, aK ta 48 tSEC), (a 5, aK ta 512 tSBX), (a 10, aB ta 64 u.1), (a 11, aB ta 64 u.2.1), (a 12, aB ta 56 u.2.2.1), (a 13, aB ta 768 u.2.2.2.1), (a 14, aB ta 32 u.2.2.2.2.1), (a 15, aB ta 48 u.2.2.2.2.2.1), (a 22, aS ta 700 u.2.2.2.2.2.2.1), (a 24, aS ta 16 u.2.2.2.2.2.2.2.1), (a 53, aS ta 16 u.2.2.2.2.2.2.2.2.1), (a 55, aS ta 16 u.2.2.2.2.2.2.2.2.2.1), (a 45, aS ta 32 u.2.2.2.2.2.2.2.2.2.2.1), (a 41, aS ta 256 gke), (a 36, aK ta 2 ru), (a 37, aK ta 2 le), (hb2, aS ta capb gb), (hd2, aS ta capd gd)]) 0 0 := by
  refine CT.of_v rfl (by decide) (Nat.le_of_ble_eq_true rfl) ?_
  intro pp ee ss mm below meth kc A Q hx hb hml hown hin hts hK hA hsz hG hret H locs hP hD hS ls hl
  have hl : lv_has ls 11 [(0, .ref h0), (1, .int (nI sd)), (2, .ref hb2), (3, .int (nI 0)), (4, .ref hd2), (5, .int (nI f0)), (6, .int (nI n8)), (7, .int (nI 0))] := hl
  refine lv_sipush (pc := 0) (v := nI 128) hx hb dX10_commandMac_0 (by decide +kernel) ?_
  refine lv_iload_n (pc := 3) hx hb dX10_commandMac_3 rfl (lv_at hl 1 rfl) ?_
  refine lv_imul (pc := 4) hx hb dX10_commandMac_4 ?_
  refine q_top (y := nI (128 * sd)) (pk_mul 128 sd) ?_
  refine lv_istore (pc := 5) (lv' := [(8, .int (nI (128 * sd))), (0, .ref h0), (1, .int (nI sd)), (2, .ref hb2), (3, .int (nI 0)), (4, .ref hd2), (5, .int (nI f0)), (6, .int (nI n8)), (7, .int (nI 0))]) hx hb dX10_commandMac_5 hl (by decide) rfl (fun ls hl => ?_)
  refine lv_aload_n (pc := 7) hx hb dX10_commandMac_7 rfl (lv_at hl 1 rfl) ?_
  refine va_get (pc := 8) (D := D) (ci := 8) (v := .ref (a 36)) (C := RX10) (T := TX10) (N := 57) hx hb hts iu10 hown hK hP 0 rfl rfl 36 (by decide) (hts _ tw_1081) (fun _ h9 => h9) rfl dX10_commandMac_8 ?_
  refine lv_iload_n (pc := 11) hx hb dX10_commandMac_11 rfl (lv_at hl 2 rfl) ?_
  refine q_iald (pc := 12) hx hb hK hP 19 0 rfl rfl (k := sd) (v := nI (ru sd)) rfl (by omega) (by omega) rfl dX10_commandMac_12 ?_
  refine lv_iconst (pc := 13) (v := nI 2) hx hb dX10_commandMac_13 (by decide +kernel) ?_
  refine lv_icmp_ne (pc := 14) (tgt := 21) hx hb dX10_commandMac_14 (by decide) (fun c_1 => ?_) (fun c_1 => ?_)
  · skip
    rw [nI_eq (by omega) (by omega)] at c_1
    exfalso; omega
  · skip
    rw [nI_eq (by omega) (by omega)] at c_1
    refine lv_iconst (pc := 17) (v := nI 1) hx hb dX10_commandMac_17 (by decide +kernel) ?_
    refine lv_goto (pc := 18) (tgt := 22) hx hb dX10_commandMac_18 (by decide) ?_
    refine lv_istore (pc := 22) (lv' := [(9, .int (nI 1)), (8, .int (nI (128 * sd))), (0, .ref h0), (1, .int (nI sd)), (2, .ref hb2), (3, .int (nI 0)), (4, .ref hd2), (5, .int (nI f0)), (6, .int (nI n8)), (7, .int (nI 0))]) hx hb dX10_commandMac_22 hl (by decide) rfl (fun ls hl => ?_)
    refine lv_iconst (pc := 24) (v := nI 0) hx hb dX10_commandMac_24 (by decide +kernel) ?_
    refine lv_istore (pc := 25) (lv' := [(10, .int (nI 0)), (9, .int (nI 1)), (8, .int (nI (128 * sd))), (0, .ref h0), (1, .int (nI sd)), (2, .ref hb2), (3, .int (nI 0)), (4, .ref hd2), (5, .int (nI f0)), (6, .int (nI n8)), (7, .int (nI 0))]) hx hb dX10_commandMac_25 hl (by decide) rfl (fun ls hl => ?_)
    have LP27 : ∀ (nn27 : Nat) (k1x : Nat) (b' : Nat → BitVec 8), (k1x ≤ 16) → (qSeg b' gbl 0 k1x ((fun j => gch (16 * sd + j)))) → (16 - k1x < nn27) → ∀ (H : Heap) (locs : List Loc), va_P D vwCl [(h0, oM a ar mn tp osz lsz ns ct), (a 0, aK ta 64 tIP), (a 1, aK ta 48 tSPR), (a 2, aK ta 32 tMIX), (a 3, aK ta 56 tCH), (a 4, aK ta 48 tSEC), (a 5, aK ta 512 tSBX), (a 10, aB ta 64 bi), (a 11, aB ta 64 tu), (a 12, aB ta 56 cd), (a 13, aB ta 768 sk), (a 14, aB ta 32 hf), (a 15, aB ta 48 wd), (a 22, aS ta 700 gm), (a 24, aS ta 16 mac), (a 53, aS ta 16 b'), (a 55, aS ta 16 gco), (a 45, aS ta 32 gch), (a 41, aS ta 256 gke), (a 36, aK ta 2 ru), (a 37, aK ta 2 le), (hb2, aS ta capb gb), (hd2, aS ta capd gd)] H → va_D A [(h0, oM a ar mn tp osz lsz ns ct), (a 0, aK ta 64 tIP), (a 1, aK ta 48 tSPR), (a 2, aK ta 32 tMIX), (a 3, aK ta 56 tCH), (a 4, aK ta 48 tSEC), (a 5, aK ta 512 tSBX), (a 10, aB ta 64 bi), (a 11, aB ta 64 tu), (a 12, aB ta 56 cd), (a 13, aB ta 768 sk), (a 14, aB ta 32 hf), (a 15, aB ta 48 wd), (a 22, aS ta 700 gm), (a 24, aS ta 16 mac), (a 53, aS ta 16 b'), (a 55, aS ta 16 gco), (a 45, aS ta 32 gch), (a 41, aS ta 256 gke), (a 36, aK ta 2 ru), (a 37, aK ta 2 le), (hb2, aS ta capb gb), (hd2, aS ta capd gd)] → va_S A ss.heap H locs → ∀ ls : Array Slot, lv_has ls 11 [(10, .int (nI k1x)), (9, .int (nI 1)), (8, .int (nI (128 * sd))), (0, .ref h0), (1, .int (nI sd)), (2, .ref hb2), (3, .int (nI 0)), (4, .ref hd2), (5, .int (nI f0)), (6, .int (nI n8)), (7, .int (nI 0))] → W pp ll ee ({ frames := 5, cells := 0, slots := 0, locals := 124 } : Room) ss mm (([.ref h0, .int (nI sd), .ref hb2, .int (nI 0), .ref hd2, .int (nI f0), .int (nI n8), .int (nI 0)] : List Value).toArray) below meth kc H locs 0 0 Q (F0 mm 27 ls []) := by
      intro nn27
      induction nn27 with
      | zero => intro k1x b' hkk1 hs1 hmu; exact absurd hmu (Nat.not_lt_zero _)
      | succ nn27 ih27 =>
        intro k1x b' hkk1 hs1 hmu27 H locs hP hD hS ls hl
        refine lv_iload (pc := 27) hx hb dX10_commandMac_27 (lv_at hl 0 rfl) ?_
        refine lv_bipush (pc := 29) (v := nI 16) hx hb dX10_commandMac_29 (by decide +kernel) ?_
        refine lv_icmp_ge (pc := 31) (tgt := 68) hx hb dX10_commandMac_31 (by decide) (fun c_2 => ?_) (fun c_2 => ?_)
        · skip
          rw [nI_leI (by omega) (by omega)] at c_2
          refine lv_iload (pc := 68) hx hb dX10_commandMac_68 (lv_at hl 1 rfl) ?_
          refine lv_if_eq (pc := 70) (tgt := 97) hx hb dX10_commandMac_70 (by decide) (fun c_3 => absurd c_3 (by decide)) (fun _ => ?_)
          refine lv_iload (pc := 73) hx hb dX10_commandMac_73 (lv_at hl 10 rfl) ?_
          refine lv_if_ne (pc := 75) (tgt := 97) hx hb dX10_commandMac_75 (by decide) (fun c_4 => absurd (by decide) c_4) (fun _ => ?_)
          refine lv_aload_n (pc := 78) hx hb dX10_commandMac_78 rfl (lv_at hl 3 rfl) ?_
          refine lv_aload_n (pc := 79) hx hb dX10_commandMac_79 rfl (lv_at hl 3 rfl) ?_
          refine va_get (pc := 80) (D := D) (ci := 8) (v := .ref (a 53)) (C := RX10) (T := TX10) (N := 57) hx hb hts iu10 hown hK hP 0 rfl rfl 53 (by decide) (hts _ tw_1098) (fun _ h9 => h9) rfl dX10_commandMac_80 ?_
          refine lv_iconst (pc := 83) (v := nI 0) hx hb dX10_commandMac_83 (by decide +kernel) ?_
          refine lv_aload_n (pc := 84) hx hb dX10_commandMac_84 rfl (lv_at hl 3 rfl) ?_
          refine va_get (pc := 85) (D := D) (ci := 8) (v := .ref (a 41)) (C := RX10) (T := TX10) (N := 57) hx hb hts iu10 hown hK hP 0 rfl rfl 41 (by decide) (hts _ tw_1086) (fun _ h9 => h9) rfl dX10_commandMac_85 ?_
          refine lv_iload (pc := 88) hx hb dX10_commandMac_88 (lv_at hl 2 rfl) ?_
          refine lv_bipush (pc := 90) (v := nI 32) hx hb dX10_commandMac_90 (by decide +kernel) ?_
          refine lv_iadd (pc := 92) hx hb dX10_commandMac_92 ?_
          refine q_top (y := nI (128 * sd + 32)) (nI_add (128 * sd) 32) ?_
          refine lv_iconst (pc := 93) (v := nI 0) hx hb dX10_commandMac_93 (by decide +kernel) ?_
          refine cs_V (pc := 94) (idx := 44) (n := 5) (wr := [(a 22, aS ta 700 gm), (a 24, aS ta 16 mac), (a 55, aS ta 16 gco), (a 45, aS ta 32 gch), (a 36, aK ta 2 ru), (a 37, aK ta 2 le), (hb2, aS ta capb gb), (hd2, aS ta capd gd)]) (As := [.ref (a 53), .int (nI 0), .ref (a 41), .int (nI (128 * sd + 32)), .int (nI 0)]) (rest := []) (ci := 8) hx hb hml hown hts hGok hK hA hG hl.1 hP hD hS (ct_X10_des_L ll D ta hGok h0 a ar mn tp osz lsz ns ct (a 53) 0 16 b' (a 41) (128 * sd + 32) 256 gke bi tu cd sk hf wd false (by first | assumption | omega | rfl | decide) (by first | assumption | omega | rfl | decide) (by first | assumption | omega | rfl | decide) (by first | assumption | omega | rfl | decide) H.size) tw_1294 tw_1291 tw_1293 tw_33 tw_75 hdX10_des rfl ⟨rfl, rfl, Nat.le_of_ble_eq_true rfl, Nat.le_of_ble_eq_true rfl, Nat.le_of_ble_eq_true rfl, Nat.le_of_ble_eq_true rfl⟩ rfl rfl (q0 := 0) rfl [0, 1, 2, 3, 4, 5, 6, 7, 8, 9, 10, 11, 12, 15, 18] [13, 14, 16, 17, 19, 20, 21, 22] rfl rfl (by decide) rfl (Nat.le_of_ble_eq_true rfl) dX10_commandMac_94 (fun u H locs hq hP hD hS => ?_)
          obtain ⟨gb1_94, bi1_94, tu1_94, cd1_94, sk1_94, hf1_94, wd1_94⟩ := u
          have hq : (seg gb1_94 0 8 = desL (seg gke (128 * sd + 32) 8) false (seg b' 0 8)) ∧ (∀ jz, (jz < 0 ∨ 0 + 8 ≤ jz) → gb1_94 jz = b' jz) := hq
          obtain ⟨hs_94, hfr_94⟩ := hq
          refine W.eq (g2 := F0 mm 97 ls []) rfl ?_
          have hP : va_P D vwCl [(a 22, aS ta 700 gm), (a 24, aS ta 16 mac), (a 55, aS ta 16 gco), (a 45, aS ta 32 gch), (a 36, aK ta 2 ru), (a 37, aK ta 2 le), (hb2, aS ta capb gb), (hd2, aS ta capd gd), (h0, oM a ar mn tp osz lsz ns ct), (a 0, aK ta 64 tIP), (a 1, aK ta 48 tSPR), (a 2, aK ta 32 tMIX), (a 3, aK ta 56 tCH), (a 4, aK ta 48 tSEC), (a 5, aK ta 512 tSBX), (a 10, aB ta 64 bi1_94), (a 11, aB ta 64 tu1_94), (a 12, aB ta 56 cd1_94), (a 13, aB ta 768 sk1_94), (a 14, aB ta 32 hf1_94), (a 15, aB ta 48 wd1_94), (a 53, aS ta 16 gb1_94), (a 41, aS ta 256 gke)] H := hP
          have hD : va_D A [(a 22, aS ta 700 gm), (a 24, aS ta 16 mac), (a 55, aS ta 16 gco), (a 45, aS ta 32 gch), (a 36, aK ta 2 ru), (a 37, aK ta 2 le), (hb2, aS ta capb gb), (hd2, aS ta capd gd), (h0, oM a ar mn tp osz lsz ns ct), (a 0, aK ta 64 tIP), (a 1, aK ta 48 tSPR), (a 2, aK ta 32 tMIX), (a 3, aK ta 56 tCH), (a 4, aK ta 48 tSEC), (a 5, aK ta 512 tSBX), (a 10, aB ta 64 bi1_94), (a 11, aB ta 64 tu1_94), (a 12, aB ta 56 cd1_94), (a 13, aB ta 768 sk1_94), (a 14, aB ta 32 hf1_94), (a 15, aB ta 48 wd1_94), (a 53, aS ta 16 gb1_94), (a 41, aS ta 256 gke)] := hD
          refine lv_aload_n (pc := 97) hx hb dX10_commandMac_97 rfl (lv_at hl 3 rfl) ?_
          refine cs_V (pc := 98) (idx := 114) (n := 0) (wr := [(a 22, aS ta 700 gm), (a 24, aS ta 16 mac), (a 55, aS ta 16 gco), (a 45, aS ta 32 gch), (a 36, aK ta 2 ru), (a 37, aK ta 2 le), (hb2, aS ta capb gb), (hd2, aS ta capd gd), (a 0, aK ta 64 tIP), (a 1, aK ta 48 tSPR), (a 2, aK ta 32 tMIX), (a 3, aK ta 56 tCH), (a 4, aK ta 48 tSEC), (a 5, aK ta 512 tSBX), (a 10, aB ta 64 bi1_94), (a 11, aB ta 64 tu1_94), (a 12, aB ta 56 cd1_94), (a 13, aB ta 768 sk1_94), (a 14, aB ta 32 hf1_94), (a 15, aB ta 48 wd1_94), (a 53, aS ta 16 gb1_94), (a 41, aS ta 256 gke)]) (As := []) (rest := []) (ci := 8) hx hb hml hown hts hGok hK hA hG hl.1 hP hD hS (ct_X10_fresh ll D ta hGok h0 a ar mn tp osz lsz ns ct  H.size) tw_1302 tw_1299 tw_1301 tw_35 tw_75 hdX10_fresh rfl ⟨rfl, rfl, Nat.le_of_ble_eq_true rfl, Nat.le_of_ble_eq_true rfl, Nat.le_of_ble_eq_true rfl, Nat.le_of_ble_eq_true rfl⟩ rfl rfl (q0 := 8) rfl [8] [0, 1, 2, 3, 4, 5, 6, 7, 9, 10, 11, 12, 13, 14, 15, 16, 17, 18, 19, 20, 21, 22] rfl rfl (by decide) rfl (Nat.le_of_ble_eq_true rfl) dX10_commandMac_98 (fun u H locs hq hP hD hS => ?_)
          refine W.eq (g2 := F0 mm 101 ls []) rfl ?_
          have hP : va_P D vwCl [(a 22, aS ta 700 gm), (a 24, aS ta 16 mac), (a 55, aS ta 16 gco), (a 45, aS ta 32 gch), (a 36, aK ta 2 ru), (a 37, aK ta 2 le), (hb2, aS ta capb gb), (hd2, aS ta capd gd), (a 0, aK ta 64 tIP), (a 1, aK ta 48 tSPR), (a 2, aK ta 32 tMIX), (a 3, aK ta 56 tCH), (a 4, aK ta 48 tSEC), (a 5, aK ta 512 tSBX), (a 10, aB ta 64 bi1_94), (a 11, aB ta 64 tu1_94), (a 12, aB ta 56 cd1_94), (a 13, aB ta 768 sk1_94), (a 14, aB ta 32 hf1_94), (a 15, aB ta 48 wd1_94), (a 53, aS ta 16 gb1_94), (a 41, aS ta 256 gke), (h0, oM a ar 0 tp osz lsz ns ct)] H := hP
          have hD : va_D A [(a 22, aS ta 700 gm), (a 24, aS ta 16 mac), (a 55, aS ta 16 gco), (a 45, aS ta 32 gch), (a 36, aK ta 2 ru), (a 37, aK ta 2 le), (hb2, aS ta capb gb), (hd2, aS ta capd gd), (a 0, aK ta 64 tIP), (a 1, aK ta 48 tSPR), (a 2, aK ta 32 tMIX), (a 3, aK ta 56 tCH), (a 4, aK ta 48 tSEC), (a 5, aK ta 512 tSBX), (a 10, aB ta 64 bi1_94), (a 11, aB ta 64 tu1_94), (a 12, aB ta 56 cd1_94), (a 13, aB ta 768 sk1_94), (a 14, aB ta 32 hf1_94), (a 15, aB ta 48 wd1_94), (a 53, aS ta 16 gb1_94), (a 41, aS ta 256 gke), (h0, oM a ar 0 tp osz lsz ns ct)] := hD
          refine lv_iload (pc := 101) hx hb dX10_commandMac_101 (lv_at hl 1 rfl) ?_
          refine lv_if_ne (pc := 103) (tgt := 117) hx hb dX10_commandMac_103 (by decide) (fun _ => ?_) (fun c_5 => absurd c_5 (by decide))
          refine lv_aload_n (pc := 117) hx hb dX10_commandMac_117 rfl (lv_at hl 3 rfl) ?_
          refine lv_aload_n (pc := 118) hx hb dX10_commandMac_118 rfl (lv_at hl 5 rfl) ?_
          refine lv_iload_n (pc := 119) hx hb dX10_commandMac_119 rfl (lv_at hl 6 rfl) ?_
          refine q_bald (pc := 120) hx hb hK hP 6 2 rfl rfl (k := 0) (v := qs (gb 0)) rfl (by omega) (by omega) rfl dX10_commandMac_120 ?_
          refine lv_sipush (pc := 121) (v := nI 252) hx hb dX10_commandMac_121 (by decide +kernel) ?_
          refine lv_iand (pc := 124) hx hb dX10_commandMac_124 ?_
          refine lv_iconst (pc := 125) (v := nI 4) hx hb dX10_commandMac_125 (by decide +kernel) ?_
          refine lv_ior (pc := 126) hx hb dX10_commandMac_126 ?_
          refine cs_V (pc := 127) (idx := 87) (n := 1) (wr := [(a 24, aS ta 16 mac), (a 55, aS ta 16 gco), (a 45, aS ta 32 gch), (a 36, aK ta 2 ru), (a 37, aK ta 2 le), (hb2, aS ta capb gb), (hd2, aS ta capd gd), (a 0, aK ta 64 tIP), (a 1, aK ta 48 tSPR), (a 2, aK ta 32 tMIX), (a 3, aK ta 56 tCH), (a 4, aK ta 48 tSEC), (a 5, aK ta 512 tSBX), (a 10, aB ta 64 bi1_94), (a 11, aB ta 64 tu1_94), (a 12, aB ta 56 cd1_94), (a 13, aB ta 768 sk1_94), (a 14, aB ta 32 hf1_94), (a 15, aB ta 48 wd1_94), (a 53, aS ta 16 gb1_94), (a 41, aS ta 256 gke)]) (As := [.int (((qs (gb 0)) &&& (nI 252)) ||| (nI 4))]) (rest := []) (ci := 8) hx hb hml hown hts hGok hK hA hG hl.1 hP hD hS (ct_X10_add ll D ta hGok h0 a ar 0 tp osz lsz ns ct gm (((qs (gb 0)) &&& (nI 252)) ||| (nI 4)) (by first | assumption | omega | rfl | decide) H.size) tw_1310 tw_1307 tw_1309 tw_37 tw_75 hdX10_add rfl ⟨rfl, rfl, Nat.le_of_ble_eq_true rfl, Nat.le_of_ble_eq_true rfl, Nat.le_of_ble_eq_true rfl, Nat.le_of_ble_eq_true rfl⟩ rfl rfl (q0 := 22) rfl [22, 0] [1, 2, 3, 4, 5, 6, 7, 8, 9, 10, 11, 12, 13, 14, 15, 16, 17, 18, 19, 20, 21] rfl rfl (by decide) rfl (Nat.le_of_ble_eq_true rfl) dX10_commandMac_127 (fun u H locs hq hP hD hS => ?_)
          generalize u = gm1_127 at hq hP hD ⊢
          have hq : (qL gm1_127 (0 + 1) = qL gm 0 ++ [qlo (((qs (gb 0)) &&& (nI 252)) ||| (nI 4))]) := hq
          have hL_127 := hq
          refine W.eq (g2 := F0 mm 130 ls []) rfl ?_
          have hP : va_P D vwCl [(a 24, aS ta 16 mac), (a 55, aS ta 16 gco), (a 45, aS ta 32 gch), (a 36, aK ta 2 ru), (a 37, aK ta 2 le), (hb2, aS ta capb gb), (hd2, aS ta capd gd), (a 0, aK ta 64 tIP), (a 1, aK ta 48 tSPR), (a 2, aK ta 32 tMIX), (a 3, aK ta 56 tCH), (a 4, aK ta 48 tSEC), (a 5, aK ta 512 tSBX), (a 10, aB ta 64 bi1_94), (a 11, aB ta 64 tu1_94), (a 12, aB ta 56 cd1_94), (a 13, aB ta 768 sk1_94), (a 14, aB ta 32 hf1_94), (a 15, aB ta 48 wd1_94), (a 53, aS ta 16 gb1_94), (a 41, aS ta 256 gke), (h0, oM a ar (0 + 1) tp osz lsz ns ct), (a 22, aS ta 700 gm1_127)] H := hP
          have hD : va_D A [(a 24, aS ta 16 mac), (a 55, aS ta 16 gco), (a 45, aS ta 32 gch), (a 36, aK ta 2 ru), (a 37, aK ta 2 le), (hb2, aS ta capb gb), (hd2, aS ta capd gd), (a 0, aK ta 64 tIP), (a 1, aK ta 48 tSPR), (a 2, aK ta 32 tMIX), (a 3, aK ta 56 tCH), (a 4, aK ta 48 tSEC), (a 5, aK ta 512 tSBX), (a 10, aB ta 64 bi1_94), (a 11, aB ta 64 tu1_94), (a 12, aB ta 56 cd1_94), (a 13, aB ta 768 sk1_94), (a 14, aB ta 32 hf1_94), (a 15, aB ta 48 wd1_94), (a 53, aS ta 16 gb1_94), (a 41, aS ta 256 gke), (h0, oM a ar (0 + 1) tp osz lsz ns ct), (a 22, aS ta 700 gm1_127)] := hD
          refine lv_aload_n (pc := 130) hx hb dX10_commandMac_130 rfl (lv_at hl 3 rfl) ?_
          refine lv_aload_n (pc := 131) hx hb dX10_commandMac_131 rfl (lv_at hl 5 rfl) ?_
          refine lv_iload_n (pc := 132) hx hb dX10_commandMac_132 rfl (lv_at hl 6 rfl) ?_
          refine lv_iconst (pc := 133) (v := nI 1) hx hb dX10_commandMac_133 (by decide +kernel) ?_
          refine lv_iadd (pc := 134) hx hb dX10_commandMac_134 ?_
          refine q_top (y := nI 1) (by decide +kernel) ?_
          refine lv_iconst (pc := 135) (v := nI 3) hx hb dX10_commandMac_135 (by decide +kernel) ?_
          refine cs_V (pc := 136) (idx := 121) (n := 3) (wr := [(a 24, aS ta 16 mac), (a 55, aS ta 16 gco), (a 45, aS ta 32 gch), (a 36, aK ta 2 ru), (a 37, aK ta 2 le), (hd2, aS ta capd gd), (a 0, aK ta 64 tIP), (a 1, aK ta 48 tSPR), (a 2, aK ta 32 tMIX), (a 3, aK ta 56 tCH), (a 4, aK ta 48 tSEC), (a 5, aK ta 512 tSBX), (a 10, aB ta 64 bi1_94), (a 11, aB ta 64 tu1_94), (a 12, aB ta 56 cd1_94), (a 13, aB ta 768 sk1_94), (a 14, aB ta 32 hf1_94), (a 15, aB ta 48 wd1_94), (a 53, aS ta 16 gb1_94), (a 41, aS ta 256 gke)]) (As := [.ref hb2, .int (nI 1), .int (nI 3)]) (rest := []) (ci := 8) hx hb hml hown hts hGok hK hA hG hl.1 hP hD hS (ct_X10_addAll ll D ta hGok h0 a ar (0 + 1) tp osz lsz ns ct gm1_127 hb2 1 capb gb 3 (by first | assumption | omega | rfl | decide) (by first | assumption | omega | rfl | decide) (by first | assumption | omega | rfl | decide) H.size) tw_1306 tw_1303 tw_1305 tw_36 tw_75 hdX10_addAll rfl ⟨rfl, rfl, Nat.le_of_ble_eq_true rfl, Nat.le_of_ble_eq_true rfl, Nat.le_of_ble_eq_true rfl, Nat.le_of_ble_eq_true rfl⟩ rfl rfl (q0 := 21) rfl [21, 22, 5] [0, 1, 2, 3, 4, 6, 7, 8, 9, 10, 11, 12, 13, 14, 15, 16, 17, 18, 19, 20] rfl rfl (by decide) rfl (Nat.le_of_ble_eq_true rfl) dX10_commandMac_136 (fun u H locs hq hP hD hS => ?_)
          generalize u = gm1_136 at hq hP hD ⊢
          have hq : (qL gm1_136 ((0 + 1) + 3) = qL gm1_127 (0 + 1) ++ seg gb 1 3) := hq
          have hL_136 := hq
          refine W.eq (g2 := F0 mm 139 ls []) rfl ?_
          have hP : va_P D vwCl [(a 24, aS ta 16 mac), (a 55, aS ta 16 gco), (a 45, aS ta 32 gch), (a 36, aK ta 2 ru), (a 37, aK ta 2 le), (hd2, aS ta capd gd), (a 0, aK ta 64 tIP), (a 1, aK ta 48 tSPR), (a 2, aK ta 32 tMIX), (a 3, aK ta 56 tCH), (a 4, aK ta 48 tSEC), (a 5, aK ta 512 tSBX), (a 10, aB ta 64 bi1_94), (a 11, aB ta 64 tu1_94), (a 12, aB ta 56 cd1_94), (a 13, aB ta 768 sk1_94), (a 14, aB ta 32 hf1_94), (a 15, aB ta 48 wd1_94), (a 53, aS ta 16 gb1_94), (a 41, aS ta 256 gke), (h0, oM a ar ((0 + 1) + 3) tp osz lsz ns ct), (a 22, aS ta 700 gm1_136), (hb2, aS ta capb gb)] H := hP
          have hD : va_D A [(a 24, aS ta 16 mac), (a 55, aS ta 16 gco), (a 45, aS ta 32 gch), (a 36, aK ta 2 ru), (a 37, aK ta 2 le), (hd2, aS ta capd gd), (a 0, aK ta 64 tIP), (a 1, aK ta 48 tSPR), (a 2, aK ta 32 tMIX), (a 3, aK ta 56 tCH), (a 4, aK ta 48 tSEC), (a 5, aK ta 512 tSBX), (a 10, aB ta 64 bi1_94), (a 11, aB ta 64 tu1_94), (a 12, aB ta 56 cd1_94), (a 13, aB ta 768 sk1_94), (a 14, aB ta 32 hf1_94), (a 15, aB ta 48 wd1_94), (a 53, aS ta 16 gb1_94), (a 41, aS ta 256 gke), (h0, oM a ar ((0 + 1) + 3) tp osz lsz ns ct), (a 22, aS ta 700 gm1_136), (hb2, aS ta capb gb)] := hD
          refine lv_aload_n (pc := 139) hx hb dX10_commandMac_139 rfl (lv_at hl 3 rfl) ?_
          refine lv_iload (pc := 140) hx hb dX10_commandMac_140 (lv_at hl 9 rfl) ?_
          refine lv_bipush (pc := 142) (v := nI 8) hx hb dX10_commandMac_142 (by decide +kernel) ?_
          refine lv_iadd (pc := 144) hx hb dX10_commandMac_144 ?_
          refine q_top (y := nI (n8 + 8)) (nI_add n8 8) ?_
          refine cs_V (pc := 145) (idx := 353) (n := 1) (wr := [(a 24, aS ta 16 mac), (a 55, aS ta 16 gco), (a 45, aS ta 32 gch), (a 36, aK ta 2 ru), (a 37, aK ta 2 le), (hd2, aS ta capd gd), (a 0, aK ta 64 tIP), (a 1, aK ta 48 tSPR), (a 2, aK ta 32 tMIX), (a 3, aK ta 56 tCH), (a 4, aK ta 48 tSEC), (a 5, aK ta 512 tSBX), (a 10, aB ta 64 bi1_94), (a 11, aB ta 64 tu1_94), (a 12, aB ta 56 cd1_94), (a 13, aB ta 768 sk1_94), (a 14, aB ta 32 hf1_94), (a 15, aB ta 48 wd1_94), (a 53, aS ta 16 gb1_94), (a 41, aS ta 256 gke), (hb2, aS ta capb gb)]) (As := [.int (nI (n8 + 8))]) (rest := []) (ci := 8) hx hb hml hown hts hGok hK hA hG hl.1 hP hD hS (ct_X10_addLength ll D ta hGok h0 a ar ((0 + 1) + 3) tp osz lsz ns ct gm1_136 (n8 + 8) (by first | assumption | omega | rfl | decide) (by first | assumption | omega | rfl | decide) H.size) tw_1372 tw_1369 tw_1371 tw_50 tw_75 hdX10_addLength rfl ⟨rfl, rfl, Nat.le_of_ble_eq_true rfl, Nat.le_of_ble_eq_true rfl, Nat.le_of_ble_eq_true rfl, Nat.le_of_ble_eq_true rfl⟩ rfl rfl (q0 := 20) rfl [20, 21] [0, 1, 2, 3, 4, 5, 6, 7, 8, 9, 10, 11, 12, 13, 14, 15, 16, 17, 18, 19, 22] rfl rfl (by decide) rfl (Nat.le_of_ble_eq_true rfl) dX10_commandMac_145 (fun u H locs hq hP hD hS => ?_)
          generalize u = gm1_145 at hq hP hD ⊢
          have hq : (qL gm1_145 (((0 + 1) + 3) + 1) = qL gm1_136 ((0 + 1) + 3) ++ [BitVec.ofNat 8 (n8 + 8)]) := hq
          have hL_145 := hq
          refine W.eq (g2 := F0 mm 148 ls []) rfl ?_
          have hP : va_P D vwCl [(a 24, aS ta 16 mac), (a 55, aS ta 16 gco), (a 45, aS ta 32 gch), (a 36, aK ta 2 ru), (a 37, aK ta 2 le), (hd2, aS ta capd gd), (a 0, aK ta 64 tIP), (a 1, aK ta 48 tSPR), (a 2, aK ta 32 tMIX), (a 3, aK ta 56 tCH), (a 4, aK ta 48 tSEC), (a 5, aK ta 512 tSBX), (a 10, aB ta 64 bi1_94), (a 11, aB ta 64 tu1_94), (a 12, aB ta 56 cd1_94), (a 13, aB ta 768 sk1_94), (a 14, aB ta 32 hf1_94), (a 15, aB ta 48 wd1_94), (a 53, aS ta 16 gb1_94), (a 41, aS ta 256 gke), (hb2, aS ta capb gb), (h0, oM a ar (((0 + 1) + 3) + 1) tp osz lsz ns ct), (a 22, aS ta 700 gm1_145)] H := hP
          have hD : va_D A [(a 24, aS ta 16 mac), (a 55, aS ta 16 gco), (a 45, aS ta 32 gch), (a 36, aK ta 2 ru), (a 37, aK ta 2 le), (hd2, aS ta capd gd), (a 0, aK ta 64 tIP), (a 1, aK ta 48 tSPR), (a 2, aK ta 32 tMIX), (a 3, aK ta 56 tCH), (a 4, aK ta 48 tSEC), (a 5, aK ta 512 tSBX), (a 10, aB ta 64 bi1_94), (a 11, aB ta 64 tu1_94), (a 12, aB ta 56 cd1_94), (a 13, aB ta 768 sk1_94), (a 14, aB ta 32 hf1_94), (a 15, aB ta 48 wd1_94), (a 53, aS ta 16 gb1_94), (a 41, aS ta 256 gke), (hb2, aS ta capb gb), (h0, oM a ar (((0 + 1) + 3) + 1) tp osz lsz ns ct), (a 22, aS ta 700 gm1_145)] := hD
          refine lv_aload_n (pc := 148) hx hb dX10_commandMac_148 rfl (lv_at hl 3 rfl) ?_
          refine lv_aload (pc := 149) hx hb dX10_commandMac_149 (lv_at hl 7 rfl) ?_
          refine lv_iload (pc := 151) hx hb dX10_commandMac_151 (lv_at hl 8 rfl) ?_
          refine lv_iload (pc := 153) hx hb dX10_commandMac_153 (lv_at hl 9 rfl) ?_
          refine cs_V (pc := 155) (idx := 121) (n := 3) (wr := [(a 24, aS ta 16 mac), (a 55, aS ta 16 gco), (a 45, aS ta 32 gch), (a 36, aK ta 2 ru), (a 37, aK ta 2 le), (a 0, aK ta 64 tIP), (a 1, aK ta 48 tSPR), (a 2, aK ta 32 tMIX), (a 3, aK ta 56 tCH), (a 4, aK ta 48 tSEC), (a 5, aK ta 512 tSBX), (a 10, aB ta 64 bi1_94), (a 11, aB ta 64 tu1_94), (a 12, aB ta 56 cd1_94), (a 13, aB ta 768 sk1_94), (a 14, aB ta 32 hf1_94), (a 15, aB ta 48 wd1_94), (a 53, aS ta 16 gb1_94), (a 41, aS ta 256 gke), (hb2, aS ta capb gb)]) (As := [.ref hd2, .int (nI f0), .int (nI n8)]) (rest := []) (ci := 8) hx hb hml hown hts hGok hK hA hG hl.1 hP hD hS (ct_X10_addAll ll D ta hGok h0 a ar (((0 + 1) + 3) + 1) tp osz lsz ns ct gm1_145 hd2 f0 capd gd n8 (by first | assumption | omega | rfl | decide) (by first | assumption | omega | rfl | decide) (by first | assumption | omega | rfl | decide) H.size) tw_1306 tw_1303 tw_1305 tw_36 tw_75 hdX10_addAll rfl ⟨rfl, rfl, Nat.le_of_ble_eq_true rfl, Nat.le_of_ble_eq_true rfl, Nat.le_of_ble_eq_true rfl, Nat.le_of_ble_eq_true rfl⟩ rfl rfl (q0 := 21) rfl [21, 22, 5] [0, 1, 2, 3, 4, 6, 7, 8, 9, 10, 11, 12, 13, 14, 15, 16, 17, 18, 19, 20] rfl rfl (by decide) rfl (Nat.le_of_ble_eq_true rfl) dX10_commandMac_155 (fun u H locs hq hP hD hS => ?_)
          generalize u = gm1_155 at hq hP hD ⊢
          have hq : (qL gm1_155 ((((0 + 1) + 3) + 1) + n8) = qL gm1_145 (((0 + 1) + 3) + 1) ++ seg gd f0 n8) := hq
          have hL_155 := hq
          refine W.eq (g2 := F0 mm 158 ls []) rfl ?_
          have hP : va_P D vwCl [(a 24, aS ta 16 mac), (a 55, aS ta 16 gco), (a 45, aS ta 32 gch), (a 36, aK ta 2 ru), (a 37, aK ta 2 le), (a 0, aK ta 64 tIP), (a 1, aK ta 48 tSPR), (a 2, aK ta 32 tMIX), (a 3, aK ta 56 tCH), (a 4, aK ta 48 tSEC), (a 5, aK ta 512 tSBX), (a 10, aB ta 64 bi1_94), (a 11, aB ta 64 tu1_94), (a 12, aB ta 56 cd1_94), (a 13, aB ta 768 sk1_94), (a 14, aB ta 32 hf1_94), (a 15, aB ta 48 wd1_94), (a 53, aS ta 16 gb1_94), (a 41, aS ta 256 gke), (hb2, aS ta capb gb), (h0, oM a ar ((((0 + 1) + 3) + 1) + n8) tp osz lsz ns ct), (a 22, aS ta 700 gm1_155), (hd2, aS ta capd gd)] H := hP
          have hD : va_D A [(a 24, aS ta 16 mac), (a 55, aS ta 16 gco), (a 45, aS ta 32 gch), (a 36, aK ta 2 ru), (a 37, aK ta 2 le), (a 0, aK ta 64 tIP), (a 1, aK ta 48 tSPR), (a 2, aK ta 32 tMIX), (a 3, aK ta 56 tCH), (a 4, aK ta 48 tSEC), (a 5, aK ta 512 tSBX), (a 10, aB ta 64 bi1_94), (a 11, aB ta 64 tu1_94), (a 12, aB ta 56 cd1_94), (a 13, aB ta 768 sk1_94), (a 14, aB ta 32 hf1_94), (a 15, aB ta 48 wd1_94), (a 53, aS ta 16 gb1_94), (a 41, aS ta 256 gke), (hb2, aS ta capb gb), (h0, oM a ar ((((0 + 1) + 3) + 1) + n8) tp osz lsz ns ct), (a 22, aS ta 700 gm1_155), (hd2, aS ta capd gd)] := hD
          refine lv_iload (pc := 158) hx hb dX10_commandMac_158 (lv_at hl 1 rfl) ?_
          refine lv_if_eq (pc := 160) (tgt := 184) hx hb dX10_commandMac_160 (by decide) (fun c_6 => absurd c_6 (by decide)) (fun _ => ?_)
          refine lv_aload_n (pc := 163) hx hb dX10_commandMac_163 rfl (lv_at hl 3 rfl) ?_
          refine lv_aload_n (pc := 164) hx hb dX10_commandMac_164 rfl (lv_at hl 3 rfl) ?_
          refine va_get (pc := 165) (D := D) (ci := 8) (v := .ref (a 41)) (C := RX10) (T := TX10) (N := 57) hx hb hts iu10 hown hK hP 20 rfl rfl 41 (by decide) (hts _ tw_1086) (fun _ h9 => h9) rfl dX10_commandMac_165 ?_
          refine lv_iload (pc := 168) hx hb dX10_commandMac_168 (lv_at hl 2 rfl) ?_
          refine lv_bipush (pc := 170) (v := nI 32) hx hb dX10_commandMac_170 (by decide +kernel) ?_
          refine lv_iadd (pc := 172) hx hb dX10_commandMac_172 ?_
          refine q_top (y := nI (128 * sd + 32)) (nI_add (128 * sd) 32) ?_
          refine lv_aload_n (pc := 173) hx hb dX10_commandMac_173 rfl (lv_at hl 3 rfl) ?_
          refine va_get (pc := 174) (D := D) (ci := 8) (v := .ref (a 53)) (C := RX10) (T := TX10) (N := 57) hx hb hts iu10 hown hK hP 20 rfl rfl 53 (by decide) (hts _ tw_1098) (fun _ h9 => h9) rfl dX10_commandMac_174 ?_
          refine lv_iconst (pc := 177) (v := nI 0) hx hb dX10_commandMac_177 (by decide +kernel) ?_
          refine cs_V (pc := 178) (idx := 332) (n := 4) (wr := [(a 55, aS ta 16 gco), (a 45, aS ta 32 gch), (a 36, aK ta 2 ru), (a 37, aK ta 2 le), (hb2, aS ta capb gb), (hd2, aS ta capd gd)]) (As := [.ref (a 41), .int (nI (128 * sd + 32)), .ref (a 53), .int (nI 0)]) (rest := []) (ci := 8) hx hb hml hown hts hGok hK hA hG hl.1 hP hD hS (ct_X10_retail ll D ta hGok h0 a ar ((((0 + 1) + 3) + 1) + n8) tp osz lsz ns ct gm1_155 mac (a 41) (128 * sd + 32) 256 gke (a 53) 0 16 gb1_94 bi1_94 tu1_94 cd1_94 sk1_94 hf1_94 wd1_94 (by first | assumption | omega | rfl | decide) (by first | assumption | omega | rfl | decide) (by first | assumption | omega | rfl | decide) (by first | assumption | omega | rfl | decide) (by first | assumption | omega | rfl | decide) H.size) tw_1314 tw_1311 tw_1313 tw_38 tw_75 hdX10_retail rfl ⟨rfl, rfl, Nat.le_of_ble_eq_true rfl, Nat.le_of_ble_eq_true rfl, Nat.le_of_ble_eq_true rfl, Nat.le_of_ble_eq_true rfl⟩ rfl rfl (q0 := 20) rfl [20, 21, 0, 5, 6, 7, 8, 9, 10, 11, 12, 13, 14, 15, 16, 18, 17] [1, 2, 3, 4, 19, 22] rfl rfl (by decide) rfl (Nat.le_of_ble_eq_true rfl) dX10_commandMac_178 (fun u H locs hq hP hD hS => ?_)
          obtain ⟨gm1_178, mn1_178, mac1_178, bi1_178, tu1_178, cd1_178, sk1_178, hf1_178, wd1_178⟩ := u
          have hq : (seg mac1_178 0 8 = retailL (seg gke (128 * sd + 32) 16) (seg gb1_94 0 8) (qL gm1_155 ((((0 + 1) + 3) + 1) + n8))) := hq
          have hL_178 := hq
          refine W.eq (g2 := F0 mm 181 ls []) rfl ?_
          have hP : va_P D vwCl [(a 55, aS ta 16 gco), (a 45, aS ta 32 gch), (a 36, aK ta 2 ru), (a 37, aK ta 2 le), (hb2, aS ta capb gb), (hd2, aS ta capd gd), (h0, oM a ar mn1_178 tp osz lsz ns ct), (a 22, aS ta 700 gm1_178), (a 24, aS ta 16 mac1_178), (a 0, aK ta 64 tIP), (a 1, aK ta 48 tSPR), (a 2, aK ta 32 tMIX), (a 3, aK ta 56 tCH), (a 4, aK ta 48 tSEC), (a 5, aK ta 512 tSBX), (a 10, aB ta 64 bi1_178), (a 11, aB ta 64 tu1_178), (a 12, aB ta 56 cd1_178), (a 13, aB ta 768 sk1_178), (a 14, aB ta 32 hf1_178), (a 15, aB ta 48 wd1_178), (a 41, aS ta 256 gke), (a 53, aS ta 16 gb1_94)] H := hP
          have hD : va_D A [(a 55, aS ta 16 gco), (a 45, aS ta 32 gch), (a 36, aK ta 2 ru), (a 37, aK ta 2 le), (hb2, aS ta capb gb), (hd2, aS ta capd gd), (h0, oM a ar mn1_178 tp osz lsz ns ct), (a 22, aS ta 700 gm1_178), (a 24, aS ta 16 mac1_178), (a 0, aK ta 64 tIP), (a 1, aK ta 48 tSPR), (a 2, aK ta 32 tMIX), (a 3, aK ta 56 tCH), (a 4, aK ta 48 tSEC), (a 5, aK ta 512 tSBX), (a 10, aB ta 64 bi1_178), (a 11, aB ta 64 tu1_178), (a 12, aB ta 56 cd1_178), (a 13, aB ta 768 sk1_178), (a 14, aB ta 32 hf1_178), (a 15, aB ta 48 wd1_178), (a 41, aS ta 256 gke), (a 53, aS ta 16 gb1_94)] := hD
          refine lv_goto (pc := 181) (tgt := 203) hx hb dX10_commandMac_181 (by decide) ?_
          refine lv_iconst (pc := 203) (v := nI 0) hx hb dX10_commandMac_203 (by decide +kernel) ?_
          refine lv_istore (pc := 204) (lv' := [(10, .int (nI 0)), (9, .int (nI 1)), (8, .int (nI (128 * sd))), (0, .ref h0), (1, .int (nI sd)), (2, .ref hb2), (3, .int (nI 0)), (4, .ref hd2), (5, .int (nI f0)), (6, .int (nI n8)), (7, .int (nI 0))]) hx hb dX10_commandMac_204 hl (by decide) rfl (fun ls hl => ?_)
          have LP206 : ∀ (nn206 : Nat) (k2x : Nat) (c' : Nat → BitVec 8), (k2x ≤ 16) → (qSeg c' gco 0 k2x ((fun j => if j < 8 then mac1_178 j else 0#8))) → (16 - k2x < nn206) → ∀ (H : Heap) (locs : List Loc), va_P D vwCl [(a 55, aS ta 16 c'), (a 45, aS ta 32 gch), (a 36, aK ta 2 ru), (a 37, aK ta 2 le), (hb2, aS ta capb gb), (hd2, aS ta capd gd), (h0, oM a ar mn1_178 tp osz lsz ns ct), (a 22, aS ta 700 gm1_178), (a 24, aS ta 16 mac1_178), (a 0, aK ta 64 tIP), (a 1, aK ta 48 tSPR), (a 2, aK ta 32 tMIX), (a 3, aK ta 56 tCH), (a 4, aK ta 48 tSEC), (a 5, aK ta 512 tSBX), (a 10, aB ta 64 bi1_178), (a 11, aB ta 64 tu1_178), (a 12, aB ta 56 cd1_178), (a 13, aB ta 768 sk1_178), (a 14, aB ta 32 hf1_178), (a 15, aB ta 48 wd1_178), (a 41, aS ta 256 gke), (a 53, aS ta 16 gb1_94)] H → va_D A [(a 55, aS ta 16 c'), (a 45, aS ta 32 gch), (a 36, aK ta 2 ru), (a 37, aK ta 2 le), (hb2, aS ta capb gb), (hd2, aS ta capd gd), (h0, oM a ar mn1_178 tp osz lsz ns ct), (a 22, aS ta 700 gm1_178), (a 24, aS ta 16 mac1_178), (a 0, aK ta 64 tIP), (a 1, aK ta 48 tSPR), (a 2, aK ta 32 tMIX), (a 3, aK ta 56 tCH), (a 4, aK ta 48 tSEC), (a 5, aK ta 512 tSBX), (a 10, aB ta 64 bi1_178), (a 11, aB ta 64 tu1_178), (a 12, aB ta 56 cd1_178), (a 13, aB ta 768 sk1_178), (a 14, aB ta 32 hf1_178), (a 15, aB ta 48 wd1_178), (a 41, aS ta 256 gke), (a 53, aS ta 16 gb1_94)] → va_S A ss.heap H locs → ∀ ls : Array Slot, lv_has ls 11 [(10, .int (nI k2x)), (9, .int (nI 1)), (8, .int (nI (128 * sd))), (0, .ref h0), (1, .int (nI sd)), (2, .ref hb2), (3, .int (nI 0)), (4, .ref hd2), (5, .int (nI f0)), (6, .int (nI n8)), (7, .int (nI 0))] → W pp ll ee ({ frames := 5, cells := 0, slots := 0, locals := 124 } : Room) ss mm (([.ref h0, .int (nI sd), .ref hb2, .int (nI 0), .ref hd2, .int (nI f0), .int (nI n8), .int (nI 0)] : List Value).toArray) below meth kc H locs 0 0 Q (F0 mm 206 ls []) := by
            intro nn206
            induction nn206 with
            | zero => intro k2x c' hkk2 hs2 hmu; exact absurd hmu (Nat.not_lt_zero _)
            | succ nn206 ih206 =>
              intro k2x c' hkk2 hs2 hmu206 H locs hP hD hS ls hl
              refine lv_iload (pc := 206) hx hb dX10_commandMac_206 (lv_at hl 0 rfl) ?_
              refine lv_bipush (pc := 208) (v := nI 16) hx hb dX10_commandMac_208 (by decide +kernel) ?_
              refine lv_icmp_ge (pc := 210) (tgt := 249) hx hb dX10_commandMac_210 (by decide) (fun c_7 => ?_) (fun c_7 => ?_)
              · skip
                rw [nI_leI (by omega) (by omega)] at c_7
                refine lv_iconst (pc := 249) (v := nI 0) hx hb dX10_commandMac_249 (by decide +kernel) ?_
                refine lv_istore (pc := 250) (lv' := [(10, .int (nI 0)), (9, .int (nI 1)), (8, .int (nI (128 * sd))), (0, .ref h0), (1, .int (nI sd)), (2, .ref hb2), (3, .int (nI 0)), (4, .ref hd2), (5, .int (nI f0)), (6, .int (nI n8)), (7, .int (nI 0))]) hx hb dX10_commandMac_250 hl (by decide) rfl (fun ls hl => ?_)
                have LP252 : ∀ (nn252 : Nat) (k3x : Nat) (d' : Nat → BitVec 8), (k3x ≤ 16) → (qSeg d' gch (16 * sd) k3x c') → (16 - k3x < nn252) → ∀ (H : Heap) (locs : List Loc), va_P D vwCl [(a 55, aS ta 16 c'), (a 45, aS ta 32 d'), (a 36, aK ta 2 ru), (a 37, aK ta 2 le), (hb2, aS ta capb gb), (hd2, aS ta capd gd), (h0, oM a ar mn1_178 tp osz lsz ns ct), (a 22, aS ta 700 gm1_178), (a 24, aS ta 16 mac1_178), (a 0, aK ta 64 tIP), (a 1, aK ta 48 tSPR), (a 2, aK ta 32 tMIX), (a 3, aK ta 56 tCH), (a 4, aK ta 48 tSEC), (a 5, aK ta 512 tSBX), (a 10, aB ta 64 bi1_178), (a 11, aB ta 64 tu1_178), (a 12, aB ta 56 cd1_178), (a 13, aB ta 768 sk1_178), (a 14, aB ta 32 hf1_178), (a 15, aB ta 48 wd1_178), (a 41, aS ta 256 gke), (a 53, aS ta 16 gb1_94)] H → va_D A [(a 55, aS ta 16 c'), (a 45, aS ta 32 d'), (a 36, aK ta 2 ru), (a 37, aK ta 2 le), (hb2, aS ta capb gb), (hd2, aS ta capd gd), (h0, oM a ar mn1_178 tp osz lsz ns ct), (a 22, aS ta 700 gm1_178), (a 24, aS ta 16 mac1_178), (a 0, aK ta 64 tIP), (a 1, aK ta 48 tSPR), (a 2, aK ta 32 tMIX), (a 3, aK ta 56 tCH), (a 4, aK ta 48 tSEC), (a 5, aK ta 512 tSBX), (a 10, aB ta 64 bi1_178), (a 11, aB ta 64 tu1_178), (a 12, aB ta 56 cd1_178), (a 13, aB ta 768 sk1_178), (a 14, aB ta 32 hf1_178), (a 15, aB ta 48 wd1_178), (a 41, aS ta 256 gke), (a 53, aS ta 16 gb1_94)] → va_S A ss.heap H locs → ∀ ls : Array Slot, lv_has ls 11 [(10, .int (nI k3x)), (9, .int (nI 1)), (8, .int (nI (128 * sd))), (0, .ref h0), (1, .int (nI sd)), (2, .ref hb2), (3, .int (nI 0)), (4, .ref hd2), (5, .int (nI f0)), (6, .int (nI n8)), (7, .int (nI 0))] → W pp ll ee ({ frames := 5, cells := 0, slots := 0, locals := 124 } : Room) ss mm (([.ref h0, .int (nI sd), .ref hb2, .int (nI 0), .ref hd2, .int (nI f0), .int (nI n8), .int (nI 0)] : List Value).toArray) below meth kc H locs 0 0 Q (F0 mm 252 ls []) := by
                  intro nn252
                  induction nn252 with
                  | zero => intro k3x d' hkk3 hs3 hmu; exact absurd hmu (Nat.not_lt_zero _)
                  | succ nn252 ih252 =>
                    intro k3x d' hkk3 hs3 hmu252 H locs hP hD hS ls hl
                    refine lv_iload (pc := 252) hx hb dX10_commandMac_252 (lv_at hl 0 rfl) ?_
                    refine lv_bipush (pc := 254) (v := nI 16) hx hb dX10_commandMac_254 (by decide +kernel) ?_
                    refine lv_icmp_ge (pc := 256) (tgt := 284) hx hb dX10_commandMac_256 (by decide) (fun c_8 => ?_) (fun c_8 => ?_)
                    · skip
                      rw [nI_leI (by omega) (by omega)] at c_8
                      have hq_9 : (seg c' 0 8 = retailL (seg gke (128 * sd + 32) 16) (desL (seg gke (128 * sd + 32) 8) false (seg gch (16 * sd) 8)) (headL (seg gb 0 4) n8 ++ seg gd f0 n8)) ∧ (seg d' (16 * sd) 16 = seg c' 0 16) ∧ (∀ j, (j < 16 * sd ∨ 16 * sd + 16 ≤ j) → d' j = gch j) := by
                        have hT : qL gm1_155 (0 + 1 + 3 + 1 + n8) = (headL (seg gb 0 4) n8 ++ seg gd f0 n8) := by
                          have e := head_ref (g := gb) (n := n8) (gm := gb) rfl
                          rw [hL_155, hL_145, hL_136, hL_127, qL_0, List.nil_append, ← e]
                        have hV : seg b' 0 8 = seg gch (16 * sd) 8 := seg_copy (qSeg_le hs1 (by omega)) rfl
                        refine ⟨?_, ?_, fun j hj => hs3.2 j (by omega)⟩
                        · have e8 : seg c' 0 8 = seg mac1_178 0 8 := by rw [seg_0, seg_0, qL_ext]; intro j hj; rw [qSeg_at hs2 (show j < k2x by omega), if_pos hj]
                          rw [e8, hL_178, hT, hs_94, hV]
                        · rw [seg_copy0 hs3 (by omega), seg_0]
                      exact hret (⟨(bi1_178), (tu1_178), (cd1_178), (sk1_178), (hf1_178), (wd1_178), (gm1_178), (mac1_178), (gb1_94), (c'), (d'), (mn1_178)⟩ : (Nat → Bool) × (Nat → Bool) × (Nat → Bool) × (Nat → Bool) × (Nat → Bool) × (Nat → Bool) × (Nat → BitVec 8) × (Nat → BitVec 8) × (Nat → BitVec 8) × (Nat → BitVec 8) × (Nat → BitVec 8) × Nat) _ _ _ _ dX10_commandMac_284 hq_9 (hP.sub [6, 9, 10, 11, 12, 13, 14, 15, 16, 17, 18, 19, 20, 7, 8, 22, 0, 1, 21, 2, 3, 4, 5] rfl) (hD.sub [6, 9, 10, 11, 12, 13, 14, 15, 16, 17, 18, 19, 20, 7, 8, 22, 0, 1, 21, 2, 3, 4, 5] (by decide) rfl) hS
                    · skip
                      rw [nI_leI (by omega) (by omega)] at c_8
                      refine lv_aload_n (pc := 259) hx hb dX10_commandMac_259 rfl (lv_at hl 3 rfl) ?_
                      refine va_get (pc := 260) (D := D) (ci := 8) (v := .ref (a 45)) (C := RX10) (T := TX10) (N := 57) hx hb hts iu10 hown hK hP 6 rfl rfl 45 (by decide) (hts _ tw_1090) (fun _ h9 => h9) rfl dX10_commandMac_260 ?_
                      refine lv_bipush (pc := 263) (v := nI 16) hx hb dX10_commandMac_263 (by decide +kernel) ?_
                      refine lv_iload_n (pc := 265) hx hb dX10_commandMac_265 rfl (lv_at hl 4 rfl) ?_
                      refine lv_imul (pc := 266) hx hb dX10_commandMac_266 ?_
                      refine q_top (y := nI (16 * sd)) (pk_mul 16 sd) ?_
                      refine lv_iload (pc := 267) hx hb dX10_commandMac_267 (lv_at hl 0 rfl) ?_
                      refine lv_iadd (pc := 269) hx hb dX10_commandMac_269 ?_
                      refine q_top (y := nI (16 * sd + k3x)) (nI_add (16 * sd) k3x) ?_
                      refine lv_aload_n (pc := 270) hx hb dX10_commandMac_270 rfl (lv_at hl 3 rfl) ?_
                      refine va_get (pc := 271) (D := D) (ci := 8) (v := .ref (a 55)) (C := RX10) (T := TX10) (N := 57) hx hb hts iu10 hown hK hP 6 rfl rfl 55 (by decide) (hts _ tw_1100) (fun _ h9 => h9) rfl dX10_commandMac_271 ?_
                      refine lv_iload (pc := 274) hx hb dX10_commandMac_274 (lv_at hl 0 rfl) ?_
                      refine q_bald (pc := 276) hx hb hK hP 0 2 rfl rfl (k := k3x) (v := qs (c' k3x)) rfl (by omega) (by omega) rfl dX10_commandMac_276 ?_
                      refine q_bastS (pc := 277) hx hb hK hP hD hS 1 2 rfl rfl (k := 16 * sd + k3x) rfl (by omega) (by omega) (b := c' k3x) (qlo_qs _) dX10_commandMac_277 (fun H locs hP hD hS => ?_)
                      have hP : va_P D vwCl [(a 55, aS ta 16 c'), (a 45, aS ta 32 (qU d' (16 * sd + k3x) (c' k3x))), (a 36, aK ta 2 ru), (a 37, aK ta 2 le), (hb2, aS ta capb gb), (hd2, aS ta capd gd), (h0, oM a ar mn1_178 tp osz lsz ns ct), (a 22, aS ta 700 gm1_178), (a 24, aS ta 16 mac1_178), (a 0, aK ta 64 tIP), (a 1, aK ta 48 tSPR), (a 2, aK ta 32 tMIX), (a 3, aK ta 56 tCH), (a 4, aK ta 48 tSEC), (a 5, aK ta 512 tSBX), (a 10, aB ta 64 bi1_178), (a 11, aB ta 64 tu1_178), (a 12, aB ta 56 cd1_178), (a 13, aB ta 768 sk1_178), (a 14, aB ta 32 hf1_178), (a 15, aB ta 48 wd1_178), (a 41, aS ta 256 gke), (a 53, aS ta 16 gb1_94)] H := hP
                      have hD : va_D A [(a 55, aS ta 16 c'), (a 45, aS ta 32 (qU d' (16 * sd + k3x) (c' k3x))), (a 36, aK ta 2 ru), (a 37, aK ta 2 le), (hb2, aS ta capb gb), (hd2, aS ta capd gd), (h0, oM a ar mn1_178 tp osz lsz ns ct), (a 22, aS ta 700 gm1_178), (a 24, aS ta 16 mac1_178), (a 0, aK ta 64 tIP), (a 1, aK ta 48 tSPR), (a 2, aK ta 32 tMIX), (a 3, aK ta 56 tCH), (a 4, aK ta 48 tSEC), (a 5, aK ta 512 tSBX), (a 10, aB ta 64 bi1_178), (a 11, aB ta 64 tu1_178), (a 12, aB ta 56 cd1_178), (a 13, aB ta 768 sk1_178), (a 14, aB ta 32 hf1_178), (a 15, aB ta 48 wd1_178), (a 41, aS ta 256 gke), (a 53, aS ta 16 gb1_94)] := hD
                      refine lv_iinc (pc := 278) (v := nI (k3x + 1)) (lv' := [(10, .int (nI (k3x + 1))), (9, .int (nI 1)), (8, .int (nI (128 * sd))), (0, .ref h0), (1, .int (nI sd)), (2, .ref hb2), (3, .int (nI 0)), (4, .ref hd2), (5, .int (nI f0)), (6, .int (nI n8)), (7, .int (nI 0))]) hx hb dX10_commandMac_278 hl (k := 0) rfl (by first | exact nI_add k3x 1 | rfl) (by decide) rfl (fun ls hl => ?_)
                      refine lv_goto (pc := 281) (tgt := 252) hx hb dX10_commandMac_281 (by decide) ?_
                      exact ih252 (k3x + 1) (qU d' (16 * sd + k3x) (c' k3x)) (by omega) (qSeg_s hs3 (by omega) (by first | rfl | (simp; done))) (by omega) _ _ (hP.sub [0, 1, 2, 3, 4, 5, 6, 7, 8, 9, 10, 11, 12, 13, 14, 15, 16, 17, 18, 19, 20, 21, 22] rfl) (hD.sub [0, 1, 2, 3, 4, 5, 6, 7, 8, 9, 10, 11, 12, 13, 14, 15, 16, 17, 18, 19, 20, 21, 22] (by decide) rfl) hS ls (lv_sub hl [0, 1, 2, 3, 4, 5, 6, 7, 8, 9, 10] rfl)
                exact LP252 _ 0 gch (by omega) (qSeg_0) (Nat.lt_succ_self _) _ _ (hP.sub [0, 1, 2, 3, 4, 5, 6, 7, 8, 9, 10, 11, 12, 13, 14, 15, 16, 17, 18, 19, 20, 21, 22] rfl) (hD.sub [0, 1, 2, 3, 4, 5, 6, 7, 8, 9, 10, 11, 12, 13, 14, 15, 16, 17, 18, 19, 20, 21, 22] (by decide) rfl) hS ls (lv_sub hl [0, 1, 2, 3, 4, 5, 6, 7, 8, 9, 10] rfl)
              · skip
                rw [nI_leI (by omega) (by omega)] at c_7
                refine lv_aload_n (pc := 213) hx hb dX10_commandMac_213 rfl (lv_at hl 3 rfl) ?_
                refine va_get (pc := 214) (D := D) (ci := 8) (v := .ref (a 55)) (C := RX10) (T := TX10) (N := 57) hx hb hts iu10 hown hK hP 6 rfl rfl 55 (by decide) (hts _ tw_1100) (fun _ h9 => h9) rfl dX10_commandMac_214 ?_
                refine lv_iload (pc := 217) hx hb dX10_commandMac_217 (lv_at hl 0 rfl) ?_
                refine lv_iload (pc := 219) hx hb dX10_commandMac_219 (lv_at hl 0 rfl) ?_
                refine lv_bipush (pc := 221) (v := nI 8) hx hb dX10_commandMac_221 (by decide +kernel) ?_
                refine lv_icmp_lt (pc := 223) (tgt := 231) hx hb dX10_commandMac_223 (by decide) (fun c_10 => ?_) (fun c_10 => ?_)
                · skip
                  rw [nI_ltI (by omega) (by omega)] at c_10
                  refine lv_aload_n (pc := 231) hx hb dX10_commandMac_231 rfl (lv_at hl 3 rfl) ?_
                  refine va_get (pc := 232) (D := D) (ci := 8) (v := .ref (a 24)) (C := RX10) (T := TX10) (N := 57) hx hb hts iu10 hown hK hP 6 rfl rfl 24 (by decide) (hts _ tw_1069) (fun _ h9 => h9) rfl dX10_commandMac_232 ?_
                  refine lv_iload (pc := 235) hx hb dX10_commandMac_235 (lv_at hl 0 rfl) ?_
                  refine q_bald (pc := 237) hx hb hK hP 8 2 rfl rfl (k := k2x) (v := qs (mac1_178 k2x)) rfl (by omega) (by omega) rfl dX10_commandMac_237 ?_
                  refine lv_goto (pc := 238) (tgt := 242) hx hb dX10_commandMac_238 (by decide) ?_
                  refine q_bastS (pc := 242) hx hb hK hP hD hS 0 2 rfl rfl (k := k2x) rfl (by omega) (by omega) (b := mac1_178 k2x) (qlo_qs _) dX10_commandMac_242 (fun H locs hP hD hS => ?_)
                  have hP : va_P D vwCl [(a 55, aS ta 16 (qU c' k2x (mac1_178 k2x))), (a 45, aS ta 32 gch), (a 36, aK ta 2 ru), (a 37, aK ta 2 le), (hb2, aS ta capb gb), (hd2, aS ta capd gd), (h0, oM a ar mn1_178 tp osz lsz ns ct), (a 22, aS ta 700 gm1_178), (a 24, aS ta 16 mac1_178), (a 0, aK ta 64 tIP), (a 1, aK ta 48 tSPR), (a 2, aK ta 32 tMIX), (a 3, aK ta 56 tCH), (a 4, aK ta 48 tSEC), (a 5, aK ta 512 tSBX), (a 10, aB ta 64 bi1_178), (a 11, aB ta 64 tu1_178), (a 12, aB ta 56 cd1_178), (a 13, aB ta 768 sk1_178), (a 14, aB ta 32 hf1_178), (a 15, aB ta 48 wd1_178), (a 41, aS ta 256 gke), (a 53, aS ta 16 gb1_94)] H := hP
                  have hD : va_D A [(a 55, aS ta 16 (qU c' k2x (mac1_178 k2x))), (a 45, aS ta 32 gch), (a 36, aK ta 2 ru), (a 37, aK ta 2 le), (hb2, aS ta capb gb), (hd2, aS ta capd gd), (h0, oM a ar mn1_178 tp osz lsz ns ct), (a 22, aS ta 700 gm1_178), (a 24, aS ta 16 mac1_178), (a 0, aK ta 64 tIP), (a 1, aK ta 48 tSPR), (a 2, aK ta 32 tMIX), (a 3, aK ta 56 tCH), (a 4, aK ta 48 tSEC), (a 5, aK ta 512 tSBX), (a 10, aB ta 64 bi1_178), (a 11, aB ta 64 tu1_178), (a 12, aB ta 56 cd1_178), (a 13, aB ta 768 sk1_178), (a 14, aB ta 32 hf1_178), (a 15, aB ta 48 wd1_178), (a 41, aS ta 256 gke), (a 53, aS ta 16 gb1_94)] := hD
                  refine lv_iinc (pc := 243) (v := nI (k2x + 1)) (lv' := [(10, .int (nI (k2x + 1))), (9, .int (nI 1)), (8, .int (nI (128 * sd))), (0, .ref h0), (1, .int (nI sd)), (2, .ref hb2), (3, .int (nI 0)), (4, .ref hd2), (5, .int (nI f0)), (6, .int (nI n8)), (7, .int (nI 0))]) hx hb dX10_commandMac_243 hl (k := 0) rfl (by first | exact nI_add k2x 1 | rfl) (by decide) rfl (fun ls hl => ?_)
                  refine lv_goto (pc := 246) (tgt := 206) hx hb dX10_commandMac_246 (by decide) ?_
                  exact ih206 (k2x + 1) (qU c' k2x (mac1_178 k2x)) (by omega) (qSeg_s hs2 (by omega) (by first | (simp [show k2x < 8 by omega]; done) | (simp [show ¬ k2x < 8 by omega]; done))) (by omega) _ _ (hP.sub [0, 1, 2, 3, 4, 5, 6, 7, 8, 9, 10, 11, 12, 13, 14, 15, 16, 17, 18, 19, 20, 21, 22] rfl) (hD.sub [0, 1, 2, 3, 4, 5, 6, 7, 8, 9, 10, 11, 12, 13, 14, 15, 16, 17, 18, 19, 20, 21, 22] (by decide) rfl) hS ls (lv_sub hl [0, 1, 2, 3, 4, 5, 6, 7, 8, 9, 10] rfl)
                · skip
                  rw [nI_ltI (by omega) (by omega)] at c_10
                  refine lv_iload (pc := 226) hx hb dX10_commandMac_226 (lv_at hl 1 rfl) ?_
                  refine lv_if_ne (pc := 228) (tgt := 241) hx hb dX10_commandMac_228 (by decide) (fun _ => ?_) (fun c_11 => absurd c_11 (by decide))
                  refine lv_iconst (pc := 241) (v := nI 0) hx hb dX10_commandMac_241 (by decide +kernel) ?_
                  refine q_bastS (pc := 242) hx hb hK hP hD hS 0 2 rfl rfl (k := k2x) rfl (by omega) (by omega) (b := BitVec.ofNat 8 0) (qlo_nI _) dX10_commandMac_242 (fun H locs hP hD hS => ?_)
                  have hP : va_P D vwCl [(a 55, aS ta 16 (qU c' k2x (BitVec.ofNat 8 0))), (a 45, aS ta 32 gch), (a 36, aK ta 2 ru), (a 37, aK ta 2 le), (hb2, aS ta capb gb), (hd2, aS ta capd gd), (h0, oM a ar mn1_178 tp osz lsz ns ct), (a 22, aS ta 700 gm1_178), (a 24, aS ta 16 mac1_178), (a 0, aK ta 64 tIP), (a 1, aK ta 48 tSPR), (a 2, aK ta 32 tMIX), (a 3, aK ta 56 tCH), (a 4, aK ta 48 tSEC), (a 5, aK ta 512 tSBX), (a 10, aB ta 64 bi1_178), (a 11, aB ta 64 tu1_178), (a 12, aB ta 56 cd1_178), (a 13, aB ta 768 sk1_178), (a 14, aB ta 32 hf1_178), (a 15, aB ta 48 wd1_178), (a 41, aS ta 256 gke), (a 53, aS ta 16 gb1_94)] H := hP
                  have hD : va_D A [(a 55, aS ta 16 (qU c' k2x (BitVec.ofNat 8 0))), (a 45, aS ta 32 gch), (a 36, aK ta 2 ru), (a 37, aK ta 2 le), (hb2, aS ta capb gb), (hd2, aS ta capd gd), (h0, oM a ar mn1_178 tp osz lsz ns ct), (a 22, aS ta 700 gm1_178), (a 24, aS ta 16 mac1_178), (a 0, aK ta 64 tIP), (a 1, aK ta 48 tSPR), (a 2, aK ta 32 tMIX), (a 3, aK ta 56 tCH), (a 4, aK ta 48 tSEC), (a 5, aK ta 512 tSBX), (a 10, aB ta 64 bi1_178), (a 11, aB ta 64 tu1_178), (a 12, aB ta 56 cd1_178), (a 13, aB ta 768 sk1_178), (a 14, aB ta 32 hf1_178), (a 15, aB ta 48 wd1_178), (a 41, aS ta 256 gke), (a 53, aS ta 16 gb1_94)] := hD
                  refine lv_iinc (pc := 243) (v := nI (k2x + 1)) (lv' := [(10, .int (nI (k2x + 1))), (9, .int (nI 1)), (8, .int (nI (128 * sd))), (0, .ref h0), (1, .int (nI sd)), (2, .ref hb2), (3, .int (nI 0)), (4, .ref hd2), (5, .int (nI f0)), (6, .int (nI n8)), (7, .int (nI 0))]) hx hb dX10_commandMac_243 hl (k := 0) rfl (by first | exact nI_add k2x 1 | rfl) (by decide) rfl (fun ls hl => ?_)
                  refine lv_goto (pc := 246) (tgt := 206) hx hb dX10_commandMac_246 (by decide) ?_
                  exact ih206 (k2x + 1) (qU c' k2x (BitVec.ofNat 8 0)) (by omega) (qSeg_s hs2 (by omega) (by first | (simp [show k2x < 8 by omega]; done) | (simp [show ¬ k2x < 8 by omega]; done))) (by omega) _ _ (hP.sub [0, 1, 2, 3, 4, 5, 6, 7, 8, 9, 10, 11, 12, 13, 14, 15, 16, 17, 18, 19, 20, 21, 22] rfl) (hD.sub [0, 1, 2, 3, 4, 5, 6, 7, 8, 9, 10, 11, 12, 13, 14, 15, 16, 17, 18, 19, 20, 21, 22] (by decide) rfl) hS ls (lv_sub hl [0, 1, 2, 3, 4, 5, 6, 7, 8, 9, 10] rfl)
          exact LP206 _ 0 gco (by omega) (qSeg_0) (Nat.lt_succ_self _) _ _ (hP.sub [0, 1, 2, 3, 4, 5, 6, 7, 8, 9, 10, 11, 12, 13, 14, 15, 16, 17, 18, 19, 20, 21, 22] rfl) (hD.sub [0, 1, 2, 3, 4, 5, 6, 7, 8, 9, 10, 11, 12, 13, 14, 15, 16, 17, 18, 19, 20, 21, 22] (by decide) rfl) hS ls (lv_sub hl [0, 1, 2, 3, 4, 5, 6, 7, 8, 9, 10] rfl)
        · skip
          rw [nI_leI (by omega) (by omega)] at c_2
          refine lv_aload_n (pc := 34) hx hb dX10_commandMac_34 rfl (lv_at hl 3 rfl) ?_
          refine va_get (pc := 35) (D := D) (ci := 8) (v := .ref (a 53)) (C := RX10) (T := TX10) (N := 57) hx hb hts iu10 hown hK hP 0 rfl rfl 53 (by decide) (hts _ tw_1098) (fun _ h9 => h9) rfl dX10_commandMac_35 ?_
          refine lv_iload (pc := 38) hx hb dX10_commandMac_38 (lv_at hl 0 rfl) ?_
          refine lv_iload (pc := 40) hx hb dX10_commandMac_40 (lv_at hl 10 rfl) ?_
          refine lv_if_eq (pc := 42) (tgt := 49) hx hb dX10_commandMac_42 (by decide) (fun _ => ?_) (fun c_12 => absurd (by decide) c_12)
          refine lv_aload_n (pc := 49) hx hb dX10_commandMac_49 rfl (lv_at hl 3 rfl) ?_
          refine va_get (pc := 50) (D := D) (ci := 8) (v := .ref (a 45)) (C := RX10) (T := TX10) (N := 57) hx hb hts iu10 hown hK hP 0 rfl rfl 45 (by decide) (hts _ tw_1090) (fun _ h9 => h9) rfl dX10_commandMac_50 ?_
          refine lv_bipush (pc := 53) (v := nI 16) hx hb dX10_commandMac_53 (by decide +kernel) ?_
          refine lv_iload_n (pc := 55) hx hb dX10_commandMac_55 rfl (lv_at hl 4 rfl) ?_
          refine lv_imul (pc := 56) hx hb dX10_commandMac_56 ?_
          refine q_top (y := nI (16 * sd)) (pk_mul 16 sd) ?_
          refine lv_iload (pc := 57) hx hb dX10_commandMac_57 (lv_at hl 0 rfl) ?_
          refine lv_iadd (pc := 59) hx hb dX10_commandMac_59 ?_
          refine q_top (y := nI (16 * sd + k1x)) (nI_add (16 * sd) k1x) ?_
          refine q_bald (pc := 60) hx hb hK hP 17 2 rfl rfl (k := 16 * sd + k1x) (v := qs (gch (16 * sd + k1x))) rfl (by omega) (by omega) rfl dX10_commandMac_60 ?_
          refine q_bastS (pc := 61) hx hb hK hP hD hS 15 2 rfl rfl (k := k1x) rfl (by omega) (by omega) (b := gch (16 * sd + k1x)) (qlo_qs _) dX10_commandMac_61 (fun H locs hP hD hS => ?_)
          have hP : va_P D vwCl [(h0, oM a ar mn tp osz lsz ns ct), (a 0, aK ta 64 tIP), (a 1, aK ta 48 tSPR), (a 2, aK ta 32 tMIX), (a 3, aK ta 56 tCH), (a 4, aK ta 48 tSEC), (a 5, aK ta 512 tSBX), (a 10, aB ta 64 bi), (a 11, aB ta 64 tu), (a 12, aB ta 56 cd), (a 13, aB ta 768 sk), (a 14, aB ta 32 hf), (a 15, aB ta 48 wd), (a 22, aS ta 700 gm), (a 24, aS ta 16 mac), (a 53, aS ta 16 (qU b' k1x (gch (16 * sd + k1x)))), (a 55, aS ta 16 gco), (a 45, aS ta 32 gch), (a 41, aS ta 256 gke), (a 36, aK ta 2 ru), (a 37, aK ta 2 le), (hb2, aS ta capb gb), (hd2, aS ta capd gd)] H := hP
          have hD : va_D A [(h0, oM a ar mn tp osz lsz ns ct), (a 0, aK ta 64 tIP), (a 1, aK ta 48 tSPR), (a 2, aK ta 32 tMIX), (a 3, aK ta 56 tCH), (a 4, aK ta 48 tSEC), (a 5, aK ta 512 tSBX), (a 10, aB ta 64 bi), (a 11, aB ta 64 tu), (a 12, aB ta 56 cd), (a 13, aB ta 768 sk), (a 14, aB ta 32 hf), (a 15, aB ta 48 wd), (a 22, aS ta 700 gm), (a 24, aS ta 16 mac), (a 53, aS ta 16 (qU b' k1x (gch (16 * sd + k1x)))), (a 55, aS ta 16 gco), (a 45, aS ta 32 gch), (a 41, aS ta 256 gke), (a 36, aK ta 2 ru), (a 37, aK ta 2 le), (hb2, aS ta capb gb), (hd2, aS ta capd gd)] := hD
          refine lv_iinc (pc := 62) (v := nI (k1x + 1)) (lv' := [(10, .int (nI (k1x + 1))), (9, .int (nI 1)), (8, .int (nI (128 * sd))), (0, .ref h0), (1, .int (nI sd)), (2, .ref hb2), (3, .int (nI 0)), (4, .ref hd2), (5, .int (nI f0)), (6, .int (nI n8)), (7, .int (nI 0))]) hx hb dX10_commandMac_62 hl (k := 0) rfl (by first | exact nI_add k1x 1 | rfl) (by decide) rfl (fun ls hl => ?_)
          refine lv_goto (pc := 65) (tgt := 27) hx hb dX10_commandMac_65 (by decide) ?_
          exact ih27 (k1x + 1) (qU b' k1x (gch (16 * sd + k1x))) (by omega) (qSeg_s hs1 (by omega) (by first | rfl | (simp; done))) (by omega) _ _ (hP.sub [0, 1, 2, 3, 4, 5, 6, 7, 8, 9, 10, 11, 12, 13, 14, 15, 16, 17, 18, 19, 20, 21, 22] rfl) (hD.sub [0, 1, 2, 3, 4, 5, 6, 7, 8, 9, 10, 11, 12, 13, 14, 15, 16, 17, 18, 19, 20, 21, 22] (by decide) rfl) hS ls (lv_sub hl [0, 1, 2, 3, 4, 5, 6, 7, 8, 9, 10] rfl)
    exact LP27 _ 0 gbl (by omega) (qSeg_0) (Nat.lt_succ_self _) _ _ (hP.sub [0, 1, 2, 3, 4, 5, 6, 7, 8, 9, 10, 11, 12, 13, 14, 15, 16, 17, 18, 19, 20, 21, 22] rfl) (hD.sub [0, 1, 2, 3, 4, 5, 6, 7, 8, 9, 10, 11, 12, 13, 14, 15, 16, 17, 18, 19, 20, 21, 22] (by decide) rfl) hS ls (lv_sub hl [0, 1, 2, 3, 4, 5, 6, 7, 8, 9, 10] rfl)
set_option maxHeartbeats 4000000 in
set_option maxRecDepth 100000 in
theorem ct_X10_commandMac_311 (ll : Launch) (D : va_G) (ta : Nat → ClassId) {G : (Nat → Prop) → State → Heap → Prop} (hGok : GOK G) (h0 : Nat) (a : Nat → Nat) (ar : Nat) (mn : Nat) (tp : Nat) (osz : Nat) (lsz : Nat) (ns : Nat) (ct : Nat) (rk : Nat → BitVec 8) (ce : Nat → BitVec 8) (gm : Nat → BitVec 8) (mac : Nat → BitVec 8) (k1 : Nat → BitVec 8) (gbl : Nat → BitVec 8) (gco : Nat → BitVec 8) (gch : Nat → BitVec 8) (gke : Nat → BitVec 8) (ru : Nat → Nat) (le : Nat → Nat) (sd : Nat) (hb2 : Nat) (capb : Nat) (gb : Nat → BitVec 8) (f0 : Nat) (n8 : Nat) (hsd : sd ≤ 1) (hru : ru sd = 3) (hn8 : n8 ≤ 300) (hcb : 4 ≤ capb ∧ capb < 2147483648) (hfd : f0 + n8 ≤ capb) (hle : le sd = 16 ∨ le sd = 24 ∨ le sd = 32) (sz : Nat) : CT ll yX10_commandMac cX10_commandMac 11 none ({ frames := 5, cells := 0, slots := 0, locals := 124 } : Room) D ta G [.ref h0, .int (nI sd), .ref hb2, .int (nI 0), .ref hb2, .int (nI f0), .int (nI n8), .int (nI 1)] [(h0, oM a ar mn tp osz lsz ns ct), (a 8, aZ ta 256 BOX), (a 9, aZ ta 256 UBOX), (a 16, aS ta 240 rk), (a 18, aS ta 16 ce), (a 22, aS ta 700 gm), (a 24, aS ta 16 mac), (a 25, aS ta 16 k1), (a 53, aS ta 16 gbl), (a 55, aS ta 16 gco), (a 45, aS ta 32 gch), (a 41, aS ta 256 gke), (a 36, aK ta 2 ru), (a 37, aK ta 2 le), (hb2, aS ta capb gb)] sz (S := (Nat → BitVec 8) × (Nat → BitVec 8) × (Nat → BitVec 8) × (Nat → BitVec 8) × (Nat → BitVec 8) × (Nat → BitVec 8) × (Nat → BitVec 8) × (Nat → BitVec 8) × Nat × Nat) (fun _ => none) (fun u => (seg u.2.2.2.2.2.2.1 0 16 = cmacL (seg gke (128 * sd + 32) (le sd)) ((zeroL 16) ++ (headL (seg gb 0 4) n8 ++ seg gb f0 n8))) ∧ (seg u.2.2.2.2.2.2.2.1 (16 * sd) 16 = seg u.2.2.2.2.2.2.1 0 16) ∧ (∀ j, (j < 16 * sd ∨ 16 * sd + 16 ≤ j) → u.2.2.2.2.2.2.2.1 j = gch j)) (fun u => [(h0, oM a u.2.2.2.2.2.2.2.2.2 u.2.2.2.2.2.2.2.2.1 tp osz lsz ns ct), (a 8, aZ ta 256 BOX), (a 9, aZ ta 256 UBOX), (a 16, aS ta 240 u.1), (a 18, aS ta 16 u.2.1), (a 22, aS ta 700 u.2.2.1), (a 24, aS ta 16 u.2.2.2.1), (a 25, aS ta 16 u.2.2.2.2.1), (a 53, aS ta 16 u.2.2.2.2.2.1), (a 55, aS ta 16 u.2.2.2.2.2.2.1), (a 45, aS ta 32 u.2.2.2.2.2.2.2.1), (a 41, aS ta 256 gke), (a 36, aK ta 2 ru), (a 37, aK ta 2 le), (hb2, aS ta capb gb)]) 0 0 := by
  refine CT.of_v rfl (by decide) (Nat.le_of_ble_eq_true rfl) ?_
  intro pp ee ss mm below meth kc A Q hx hb hml hown hin hts hK hA hsz hG hret H locs hP hD hS ls hl
  have hl : lv_has ls 11 [(0, .ref h0), (1, .int (nI sd)), (2, .ref hb2), (3, .int (nI 0)), (4, .ref hb2), (5, .int (nI f0)), (6, .int (nI n8)), (7, .int (nI 1))] := hl
  refine lv_sipush (pc := 0) (v := nI 128) hx hb dX10_commandMac_0 (by decide +kernel) ?_
  refine lv_iload_n (pc := 3) hx hb dX10_commandMac_3 rfl (lv_at hl 1 rfl) ?_
  refine lv_imul (pc := 4) hx hb dX10_commandMac_4 ?_
  refine q_top (y := nI (128 * sd)) (pk_mul 128 sd) ?_
  refine lv_istore (pc := 5) (lv' := [(8, .int (nI (128 * sd))), (0, .ref h0), (1, .int (nI sd)), (2, .ref hb2), (3, .int (nI 0)), (4, .ref hb2), (5, .int (nI f0)), (6, .int (nI n8)), (7, .int (nI 1))]) hx hb dX10_commandMac_5 hl (by decide) rfl (fun ls hl => ?_)
  refine lv_aload_n (pc := 7) hx hb dX10_commandMac_7 rfl (lv_at hl 1 rfl) ?_
  refine va_get (pc := 8) (D := D) (ci := 8) (v := .ref (a 36)) (C := RX10) (T := TX10) (N := 57) hx hb hts iu10 hown hK hP 0 rfl rfl 36 (by decide) (hts _ tw_1081) (fun _ h9 => h9) rfl dX10_commandMac_8 ?_
  refine lv_iload_n (pc := 11) hx hb dX10_commandMac_11 rfl (lv_at hl 2 rfl) ?_
  refine q_iald (pc := 12) hx hb hK hP 12 0 rfl rfl (k := sd) (v := nI (ru sd)) rfl (by omega) (by omega) rfl dX10_commandMac_12 ?_
  refine lv_iconst (pc := 13) (v := nI 2) hx hb dX10_commandMac_13 (by decide +kernel) ?_
  refine lv_icmp_ne (pc := 14) (tgt := 21) hx hb dX10_commandMac_14 (by decide) (fun c_1 => ?_) (fun c_1 => ?_)
  · skip
    rw [nI_eq (by omega) (by omega)] at c_1
    refine lv_iconst (pc := 21) (v := nI 0) hx hb dX10_commandMac_21 (by decide +kernel) ?_
    refine lv_istore (pc := 22) (lv' := [(9, .int (nI 0)), (8, .int (nI (128 * sd))), (0, .ref h0), (1, .int (nI sd)), (2, .ref hb2), (3, .int (nI 0)), (4, .ref hb2), (5, .int (nI f0)), (6, .int (nI n8)), (7, .int (nI 1))]) hx hb dX10_commandMac_22 hl (by decide) rfl (fun ls hl => ?_)
    refine lv_iconst (pc := 24) (v := nI 0) hx hb dX10_commandMac_24 (by decide +kernel) ?_
    refine lv_istore (pc := 25) (lv' := [(10, .int (nI 0)), (9, .int (nI 0)), (8, .int (nI (128 * sd))), (0, .ref h0), (1, .int (nI sd)), (2, .ref hb2), (3, .int (nI 0)), (4, .ref hb2), (5, .int (nI f0)), (6, .int (nI n8)), (7, .int (nI 1))]) hx hb dX10_commandMac_25 hl (by decide) rfl (fun ls hl => ?_)
    have LP27 : ∀ (nn27 : Nat) (k1x : Nat) (b' : Nat → BitVec 8), (k1x ≤ 16) → (qSeg b' gbl 0 k1x ((fun _ => 0#8))) → (16 - k1x < nn27) → ∀ (H : Heap) (locs : List Loc), va_P D vwCl [(h0, oM a ar mn tp osz lsz ns ct), (a 8, aZ ta 256 BOX), (a 9, aZ ta 256 UBOX), (a 16, aS ta 240 rk), (a 18, aS ta 16 ce), (a 22, aS ta 700 gm), (a 24, aS ta 16 mac), (a 25, aS ta 16 k1), (a 53, aS ta 16 b'), (a 55, aS ta 16 gco), (a 45, aS ta 32 gch), (a 41, aS ta 256 gke), (a 36, aK ta 2 ru), (a 37, aK ta 2 le), (hb2, aS ta capb gb)] H → va_D A [(h0, oM a ar mn tp osz lsz ns ct), (a 8, aZ ta 256 BOX), (a 9, aZ ta 256 UBOX), (a 16, aS ta 240 rk), (a 18, aS ta 16 ce), (a 22, aS ta 700 gm), (a 24, aS ta 16 mac), (a 25, aS ta 16 k1), (a 53, aS ta 16 b'), (a 55, aS ta 16 gco), (a 45, aS ta 32 gch), (a 41, aS ta 256 gke), (a 36, aK ta 2 ru), (a 37, aK ta 2 le), (hb2, aS ta capb gb)] → va_S A ss.heap H locs → ∀ ls : Array Slot, lv_has ls 11 [(10, .int (nI k1x)), (9, .int (nI 0)), (8, .int (nI (128 * sd))), (0, .ref h0), (1, .int (nI sd)), (2, .ref hb2), (3, .int (nI 0)), (4, .ref hb2), (5, .int (nI f0)), (6, .int (nI n8)), (7, .int (nI 1))] → W pp ll ee ({ frames := 5, cells := 0, slots := 0, locals := 124 } : Room) ss mm (([.ref h0, .int (nI sd), .ref hb2, .int (nI 0), .ref hb2, .int (nI f0), .int (nI n8), .int (nI 1)] : List Value).toArray) below meth kc H locs 0 0 Q (F0 mm 27 ls []) := by
      intro nn27
      induction nn27 with
      | zero => intro k1x b' hkk1 hs1 hmu; exact absurd hmu (Nat.not_lt_zero _)
      | succ nn27 ih27 =>
        intro k1x b' hkk1 hs1 hmu27 H locs hP hD hS ls hl
        refine lv_iload (pc := 27) hx hb dX10_commandMac_27 (lv_at hl 0 rfl) ?_
        refine lv_bipush (pc := 29) (v := nI 16) hx hb dX10_commandMac_29 (by decide +kernel) ?_
        refine lv_icmp_ge (pc := 31) (tgt := 68) hx hb dX10_commandMac_31 (by decide) (fun c_2 => ?_) (fun c_2 => ?_)
        · skip
          rw [nI_leI (by omega) (by omega)] at c_2
          refine lv_iload (pc := 68) hx hb dX10_commandMac_68 (lv_at hl 1 rfl) ?_
          refine lv_if_eq (pc := 70) (tgt := 97) hx hb dX10_commandMac_70 (by decide) (fun _ => ?_) (fun c_3 => absurd (by decide) c_3)
          refine lv_aload_n (pc := 97) hx hb dX10_commandMac_97 rfl (lv_at hl 3 rfl) ?_
          refine cs_V (pc := 98) (idx := 114) (n := 0) (wr := [(a 8, aZ ta 256 BOX), (a 9, aZ ta 256 UBOX), (a 16, aS ta 240 rk), (a 18, aS ta 16 ce), (a 22, aS ta 700 gm), (a 24, aS ta 16 mac), (a 25, aS ta 16 k1), (a 53, aS ta 16 b'), (a 55, aS ta 16 gco), (a 45, aS ta 32 gch), (a 41, aS ta 256 gke), (a 36, aK ta 2 ru), (a 37, aK ta 2 le), (hb2, aS ta capb gb)]) (As := []) (rest := []) (ci := 8) hx hb hml hown hts hGok hK hA hG hl.1 hP hD hS (ct_X10_fresh ll D ta hGok h0 a ar mn tp osz lsz ns ct  H.size) tw_1302 tw_1299 tw_1301 tw_35 tw_75 hdX10_fresh rfl ⟨rfl, rfl, Nat.le_of_ble_eq_true rfl, Nat.le_of_ble_eq_true rfl, Nat.le_of_ble_eq_true rfl, Nat.le_of_ble_eq_true rfl⟩ rfl rfl (q0 := 0) rfl [0] [1, 2, 3, 4, 5, 6, 7, 8, 9, 10, 11, 12, 13, 14] rfl rfl (by decide) rfl (Nat.le_of_ble_eq_true rfl) dX10_commandMac_98 (fun u H locs hq hP hD hS => ?_)
          refine W.eq (g2 := F0 mm 101 ls []) rfl ?_
          have hP : va_P D vwCl [(a 8, aZ ta 256 BOX), (a 9, aZ ta 256 UBOX), (a 16, aS ta 240 rk), (a 18, aS ta 16 ce), (a 22, aS ta 700 gm), (a 24, aS ta 16 mac), (a 25, aS ta 16 k1), (a 53, aS ta 16 b'), (a 55, aS ta 16 gco), (a 45, aS ta 32 gch), (a 41, aS ta 256 gke), (a 36, aK ta 2 ru), (a 37, aK ta 2 le), (hb2, aS ta capb gb), (h0, oM a ar 0 tp osz lsz ns ct)] H := hP
          have hD : va_D A [(a 8, aZ ta 256 BOX), (a 9, aZ ta 256 UBOX), (a 16, aS ta 240 rk), (a 18, aS ta 16 ce), (a 22, aS ta 700 gm), (a 24, aS ta 16 mac), (a 25, aS ta 16 k1), (a 53, aS ta 16 b'), (a 55, aS ta 16 gco), (a 45, aS ta 32 gch), (a 41, aS ta 256 gke), (a 36, aK ta 2 ru), (a 37, aK ta 2 le), (hb2, aS ta capb gb), (h0, oM a ar 0 tp osz lsz ns ct)] := hD
          refine lv_iload (pc := 101) hx hb dX10_commandMac_101 (lv_at hl 1 rfl) ?_
          refine lv_if_ne (pc := 103) (tgt := 117) hx hb dX10_commandMac_103 (by decide) (fun c_4 => absurd (by decide) c_4) (fun _ => ?_)
          refine lv_aload_n (pc := 106) hx hb dX10_commandMac_106 rfl (lv_at hl 3 rfl) ?_
          refine lv_aload_n (pc := 107) hx hb dX10_commandMac_107 rfl (lv_at hl 3 rfl) ?_
          refine va_get (pc := 108) (D := D) (ci := 8) (v := .ref (a 53)) (C := RX10) (T := TX10) (N := 57) hx hb hts iu10 hown hK hP 14 rfl rfl 53 (by decide) (hts _ tw_1098) (fun _ h9 => h9) rfl dX10_commandMac_108 ?_
          refine lv_iconst (pc := 111) (v := nI 0) hx hb dX10_commandMac_111 (by decide +kernel) ?_
          refine lv_bipush (pc := 112) (v := nI 16) hx hb dX10_commandMac_112 (by decide +kernel) ?_
          refine cs_V (pc := 114) (idx := 121) (n := 3) (wr := [(a 8, aZ ta 256 BOX), (a 9, aZ ta 256 UBOX), (a 16, aS ta 240 rk), (a 18, aS ta 16 ce), (a 24, aS ta 16 mac), (a 25, aS ta 16 k1), (a 55, aS ta 16 gco), (a 45, aS ta 32 gch), (a 41, aS ta 256 gke), (a 36, aK ta 2 ru), (a 37, aK ta 2 le), (hb2, aS ta capb gb)]) (As := [.ref (a 53), .int (nI 0), .int (nI 16)]) (rest := []) (ci := 8) hx hb hml hown hts hGok hK hA hG hl.1 hP hD hS (ct_X10_addAll ll D ta hGok h0 a ar 0 tp osz lsz ns ct gm (a 53) 0 16 b' 16 (by first | assumption | omega | rfl | decide) (by first | assumption | omega | rfl | decide) (by first | assumption | omega | rfl | decide) H.size) tw_1306 tw_1303 tw_1305 tw_36 tw_75 hdX10_addAll rfl ⟨rfl, rfl, Nat.le_of_ble_eq_true rfl, Nat.le_of_ble_eq_true rfl, Nat.le_of_ble_eq_true rfl, Nat.le_of_ble_eq_true rfl⟩ rfl rfl (q0 := 14) rfl [14, 4, 7] [0, 1, 2, 3, 5, 6, 8, 9, 10, 11, 12, 13] rfl rfl (by decide) rfl (Nat.le_of_ble_eq_true rfl) dX10_commandMac_114 (fun u H locs hq hP hD hS => ?_)
          generalize u = gm1_114 at hq hP hD ⊢
          have hq : (qL gm1_114 (0 + 16) = qL gm 0 ++ seg b' 0 16) := hq
          have hL_114 := hq
          refine W.eq (g2 := F0 mm 117 ls []) rfl ?_
          have hP : va_P D vwCl [(a 8, aZ ta 256 BOX), (a 9, aZ ta 256 UBOX), (a 16, aS ta 240 rk), (a 18, aS ta 16 ce), (a 24, aS ta 16 mac), (a 25, aS ta 16 k1), (a 55, aS ta 16 gco), (a 45, aS ta 32 gch), (a 41, aS ta 256 gke), (a 36, aK ta 2 ru), (a 37, aK ta 2 le), (hb2, aS ta capb gb), (h0, oM a ar (0 + 16) tp osz lsz ns ct), (a 22, aS ta 700 gm1_114), (a 53, aS ta 16 b')] H := hP
          have hD : va_D A [(a 8, aZ ta 256 BOX), (a 9, aZ ta 256 UBOX), (a 16, aS ta 240 rk), (a 18, aS ta 16 ce), (a 24, aS ta 16 mac), (a 25, aS ta 16 k1), (a 55, aS ta 16 gco), (a 45, aS ta 32 gch), (a 41, aS ta 256 gke), (a 36, aK ta 2 ru), (a 37, aK ta 2 le), (hb2, aS ta capb gb), (h0, oM a ar (0 + 16) tp osz lsz ns ct), (a 22, aS ta 700 gm1_114), (a 53, aS ta 16 b')] := hD
          refine lv_aload_n (pc := 117) hx hb dX10_commandMac_117 rfl (lv_at hl 3 rfl) ?_
          refine lv_aload_n (pc := 118) hx hb dX10_commandMac_118 rfl (lv_at hl 5 rfl) ?_
          refine lv_iload_n (pc := 119) hx hb dX10_commandMac_119 rfl (lv_at hl 6 rfl) ?_
          refine q_bald (pc := 120) hx hb hK hP 11 2 rfl rfl (k := 0) (v := qs (gb 0)) rfl (by omega) (by omega) rfl dX10_commandMac_120 ?_
          refine lv_sipush (pc := 121) (v := nI 252) hx hb dX10_commandMac_121 (by decide +kernel) ?_
          refine lv_iand (pc := 124) hx hb dX10_commandMac_124 ?_
          refine lv_iconst (pc := 125) (v := nI 4) hx hb dX10_commandMac_125 (by decide +kernel) ?_
          refine lv_ior (pc := 126) hx hb dX10_commandMac_126 ?_
          refine cs_V (pc := 127) (idx := 87) (n := 1) (wr := [(a 8, aZ ta 256 BOX), (a 9, aZ ta 256 UBOX), (a 16, aS ta 240 rk), (a 18, aS ta 16 ce), (a 24, aS ta 16 mac), (a 25, aS ta 16 k1), (a 55, aS ta 16 gco), (a 45, aS ta 32 gch), (a 41, aS ta 256 gke), (a 36, aK ta 2 ru), (a 37, aK ta 2 le), (hb2, aS ta capb gb), (a 53, aS ta 16 b')]) (As := [.int (((qs (gb 0)) &&& (nI 252)) ||| (nI 4))]) (rest := []) (ci := 8) hx hb hml hown hts hGok hK hA hG hl.1 hP hD hS (ct_X10_add ll D ta hGok h0 a ar (0 + 16) tp osz lsz ns ct gm1_114 (((qs (gb 0)) &&& (nI 252)) ||| (nI 4)) (by first | assumption | omega | rfl | decide) H.size) tw_1310 tw_1307 tw_1309 tw_37 tw_75 hdX10_add rfl ⟨rfl, rfl, Nat.le_of_ble_eq_true rfl, Nat.le_of_ble_eq_true rfl, Nat.le_of_ble_eq_true rfl, Nat.le_of_ble_eq_true rfl⟩ rfl rfl (q0 := 12) rfl [12, 13] [0, 1, 2, 3, 4, 5, 6, 7, 8, 9, 10, 11, 14] rfl rfl (by decide) rfl (Nat.le_of_ble_eq_true rfl) dX10_commandMac_127 (fun u H locs hq hP hD hS => ?_)
          generalize u = gm1_127 at hq hP hD ⊢
          have hq : (qL gm1_127 ((0 + 16) + 1) = qL gm1_114 (0 + 16) ++ [qlo (((qs (gb 0)) &&& (nI 252)) ||| (nI 4))]) := hq
          have hL_127 := hq
          refine W.eq (g2 := F0 mm 130 ls []) rfl ?_
          have hP : va_P D vwCl [(a 8, aZ ta 256 BOX), (a 9, aZ ta 256 UBOX), (a 16, aS ta 240 rk), (a 18, aS ta 16 ce), (a 24, aS ta 16 mac), (a 25, aS ta 16 k1), (a 55, aS ta 16 gco), (a 45, aS ta 32 gch), (a 41, aS ta 256 gke), (a 36, aK ta 2 ru), (a 37, aK ta 2 le), (hb2, aS ta capb gb), (a 53, aS ta 16 b'), (h0, oM a ar ((0 + 16) + 1) tp osz lsz ns ct), (a 22, aS ta 700 gm1_127)] H := hP
          have hD : va_D A [(a 8, aZ ta 256 BOX), (a 9, aZ ta 256 UBOX), (a 16, aS ta 240 rk), (a 18, aS ta 16 ce), (a 24, aS ta 16 mac), (a 25, aS ta 16 k1), (a 55, aS ta 16 gco), (a 45, aS ta 32 gch), (a 41, aS ta 256 gke), (a 36, aK ta 2 ru), (a 37, aK ta 2 le), (hb2, aS ta capb gb), (a 53, aS ta 16 b'), (h0, oM a ar ((0 + 16) + 1) tp osz lsz ns ct), (a 22, aS ta 700 gm1_127)] := hD
          refine lv_aload_n (pc := 130) hx hb dX10_commandMac_130 rfl (lv_at hl 3 rfl) ?_
          refine lv_aload_n (pc := 131) hx hb dX10_commandMac_131 rfl (lv_at hl 5 rfl) ?_
          refine lv_iload_n (pc := 132) hx hb dX10_commandMac_132 rfl (lv_at hl 6 rfl) ?_
          refine lv_iconst (pc := 133) (v := nI 1) hx hb dX10_commandMac_133 (by decide +kernel) ?_
          refine lv_iadd (pc := 134) hx hb dX10_commandMac_134 ?_
          refine q_top (y := nI 1) (by decide +kernel) ?_
          refine lv_iconst (pc := 135) (v := nI 3) hx hb dX10_commandMac_135 (by decide +kernel) ?_
          refine cs_V (pc := 136) (idx := 121) (n := 3) (wr := [(a 8, aZ ta 256 BOX), (a 9, aZ ta 256 UBOX), (a 16, aS ta 240 rk), (a 18, aS ta 16 ce), (a 24, aS ta 16 mac), (a 25, aS ta 16 k1), (a 55, aS ta 16 gco), (a 45, aS ta 32 gch), (a 41, aS ta 256 gke), (a 36, aK ta 2 ru), (a 37, aK ta 2 le), (a 53, aS ta 16 b')]) (As := [.ref hb2, .int (nI 1), .int (nI 3)]) (rest := []) (ci := 8) hx hb hml hown hts hGok hK hA hG hl.1 hP hD hS (ct_X10_addAll ll D ta hGok h0 a ar ((0 + 16) + 1) tp osz lsz ns ct gm1_127 hb2 1 capb gb 3 (by first | assumption | omega | rfl | decide) (by first | assumption | omega | rfl | decide) (by first | assumption | omega | rfl | decide) H.size) tw_1306 tw_1303 tw_1305 tw_36 tw_75 hdX10_addAll rfl ⟨rfl, rfl, Nat.le_of_ble_eq_true rfl, Nat.le_of_ble_eq_true rfl, Nat.le_of_ble_eq_true rfl, Nat.le_of_ble_eq_true rfl⟩ rfl rfl (q0 := 13) rfl [13, 14, 11] [0, 1, 2, 3, 4, 5, 6, 7, 8, 9, 10, 12] rfl rfl (by decide) rfl (Nat.le_of_ble_eq_true rfl) dX10_commandMac_136 (fun u H locs hq hP hD hS => ?_)
          generalize u = gm1_136 at hq hP hD ⊢
          have hq : (qL gm1_136 (((0 + 16) + 1) + 3) = qL gm1_127 ((0 + 16) + 1) ++ seg gb 1 3) := hq
          have hL_136 := hq
          refine W.eq (g2 := F0 mm 139 ls []) rfl ?_
          have hP : va_P D vwCl [(a 8, aZ ta 256 BOX), (a 9, aZ ta 256 UBOX), (a 16, aS ta 240 rk), (a 18, aS ta 16 ce), (a 24, aS ta 16 mac), (a 25, aS ta 16 k1), (a 55, aS ta 16 gco), (a 45, aS ta 32 gch), (a 41, aS ta 256 gke), (a 36, aK ta 2 ru), (a 37, aK ta 2 le), (a 53, aS ta 16 b'), (h0, oM a ar (((0 + 16) + 1) + 3) tp osz lsz ns ct), (a 22, aS ta 700 gm1_136), (hb2, aS ta capb gb)] H := hP
          have hD : va_D A [(a 8, aZ ta 256 BOX), (a 9, aZ ta 256 UBOX), (a 16, aS ta 240 rk), (a 18, aS ta 16 ce), (a 24, aS ta 16 mac), (a 25, aS ta 16 k1), (a 55, aS ta 16 gco), (a 45, aS ta 32 gch), (a 41, aS ta 256 gke), (a 36, aK ta 2 ru), (a 37, aK ta 2 le), (a 53, aS ta 16 b'), (h0, oM a ar (((0 + 16) + 1) + 3) tp osz lsz ns ct), (a 22, aS ta 700 gm1_136), (hb2, aS ta capb gb)] := hD
          refine lv_aload_n (pc := 139) hx hb dX10_commandMac_139 rfl (lv_at hl 3 rfl) ?_
          refine lv_iload (pc := 140) hx hb dX10_commandMac_140 (lv_at hl 9 rfl) ?_
          refine lv_bipush (pc := 142) (v := nI 8) hx hb dX10_commandMac_142 (by decide +kernel) ?_
          refine lv_iadd (pc := 144) hx hb dX10_commandMac_144 ?_
          refine q_top (y := nI (n8 + 8)) (nI_add n8 8) ?_
          refine cs_V (pc := 145) (idx := 353) (n := 1) (wr := [(a 8, aZ ta 256 BOX), (a 9, aZ ta 256 UBOX), (a 16, aS ta 240 rk), (a 18, aS ta 16 ce), (a 24, aS ta 16 mac), (a 25, aS ta 16 k1), (a 55, aS ta 16 gco), (a 45, aS ta 32 gch), (a 41, aS ta 256 gke), (a 36, aK ta 2 ru), (a 37, aK ta 2 le), (a 53, aS ta 16 b'), (hb2, aS ta capb gb)]) (As := [.int (nI (n8 + 8))]) (rest := []) (ci := 8) hx hb hml hown hts hGok hK hA hG hl.1 hP hD hS (ct_X10_addLength ll D ta hGok h0 a ar (((0 + 16) + 1) + 3) tp osz lsz ns ct gm1_136 (n8 + 8) (by first | assumption | omega | rfl | decide) (by first | assumption | omega | rfl | decide) H.size) tw_1372 tw_1369 tw_1371 tw_50 tw_75 hdX10_addLength rfl ⟨rfl, rfl, Nat.le_of_ble_eq_true rfl, Nat.le_of_ble_eq_true rfl, Nat.le_of_ble_eq_true rfl, Nat.le_of_ble_eq_true rfl⟩ rfl rfl (q0 := 12) rfl [12, 13] [0, 1, 2, 3, 4, 5, 6, 7, 8, 9, 10, 11, 14] rfl rfl (by decide) rfl (Nat.le_of_ble_eq_true rfl) dX10_commandMac_145 (fun u H locs hq hP hD hS => ?_)
          generalize u = gm1_145 at hq hP hD ⊢
          have hq : (qL gm1_145 ((((0 + 16) + 1) + 3) + 1) = qL gm1_136 (((0 + 16) + 1) + 3) ++ [BitVec.ofNat 8 (n8 + 8)]) := hq
          have hL_145 := hq
          refine W.eq (g2 := F0 mm 148 ls []) rfl ?_
          have hP : va_P D vwCl [(a 8, aZ ta 256 BOX), (a 9, aZ ta 256 UBOX), (a 16, aS ta 240 rk), (a 18, aS ta 16 ce), (a 24, aS ta 16 mac), (a 25, aS ta 16 k1), (a 55, aS ta 16 gco), (a 45, aS ta 32 gch), (a 41, aS ta 256 gke), (a 36, aK ta 2 ru), (a 37, aK ta 2 le), (a 53, aS ta 16 b'), (hb2, aS ta capb gb), (h0, oM a ar ((((0 + 16) + 1) + 3) + 1) tp osz lsz ns ct), (a 22, aS ta 700 gm1_145)] H := hP
          have hD : va_D A [(a 8, aZ ta 256 BOX), (a 9, aZ ta 256 UBOX), (a 16, aS ta 240 rk), (a 18, aS ta 16 ce), (a 24, aS ta 16 mac), (a 25, aS ta 16 k1), (a 55, aS ta 16 gco), (a 45, aS ta 32 gch), (a 41, aS ta 256 gke), (a 36, aK ta 2 ru), (a 37, aK ta 2 le), (a 53, aS ta 16 b'), (hb2, aS ta capb gb), (h0, oM a ar ((((0 + 16) + 1) + 3) + 1) tp osz lsz ns ct), (a 22, aS ta 700 gm1_145)] := hD
          refine lv_aload_n (pc := 148) hx hb dX10_commandMac_148 rfl (lv_at hl 3 rfl) ?_
          refine lv_aload (pc := 149) hx hb dX10_commandMac_149 (lv_at hl 7 rfl) ?_
          refine lv_iload (pc := 151) hx hb dX10_commandMac_151 (lv_at hl 8 rfl) ?_
          refine lv_iload (pc := 153) hx hb dX10_commandMac_153 (lv_at hl 9 rfl) ?_
          refine cs_V (pc := 155) (idx := 121) (n := 3) (wr := [(a 8, aZ ta 256 BOX), (a 9, aZ ta 256 UBOX), (a 16, aS ta 240 rk), (a 18, aS ta 16 ce), (a 24, aS ta 16 mac), (a 25, aS ta 16 k1), (a 55, aS ta 16 gco), (a 45, aS ta 32 gch), (a 41, aS ta 256 gke), (a 36, aK ta 2 ru), (a 37, aK ta 2 le), (a 53, aS ta 16 b')]) (As := [.ref hb2, .int (nI f0), .int (nI n8)]) (rest := []) (ci := 8) hx hb hml hown hts hGok hK hA hG hl.1 hP hD hS (ct_X10_addAll ll D ta hGok h0 a ar ((((0 + 16) + 1) + 3) + 1) tp osz lsz ns ct gm1_145 hb2 f0 capb gb n8 (by first | assumption | omega | rfl | decide) (by first | assumption | omega | rfl | decide) (by first | assumption | omega | rfl | decide) H.size) tw_1306 tw_1303 tw_1305 tw_36 tw_75 hdX10_addAll rfl ⟨rfl, rfl, Nat.le_of_ble_eq_true rfl, Nat.le_of_ble_eq_true rfl, Nat.le_of_ble_eq_true rfl, Nat.le_of_ble_eq_true rfl⟩ rfl rfl (q0 := 13) rfl [13, 14, 12] [0, 1, 2, 3, 4, 5, 6, 7, 8, 9, 10, 11] rfl rfl (by decide) rfl (Nat.le_of_ble_eq_true rfl) dX10_commandMac_155 (fun u H locs hq hP hD hS => ?_)
          generalize u = gm1_155 at hq hP hD ⊢
          have hq : (qL gm1_155 (((((0 + 16) + 1) + 3) + 1) + n8) = qL gm1_145 ((((0 + 16) + 1) + 3) + 1) ++ seg gb f0 n8) := hq
          have hL_155 := hq
          refine W.eq (g2 := F0 mm 158 ls []) rfl ?_
          have hP : va_P D vwCl [(a 8, aZ ta 256 BOX), (a 9, aZ ta 256 UBOX), (a 16, aS ta 240 rk), (a 18, aS ta 16 ce), (a 24, aS ta 16 mac), (a 25, aS ta 16 k1), (a 55, aS ta 16 gco), (a 45, aS ta 32 gch), (a 41, aS ta 256 gke), (a 36, aK ta 2 ru), (a 37, aK ta 2 le), (a 53, aS ta 16 b'), (h0, oM a ar (((((0 + 16) + 1) + 3) + 1) + n8) tp osz lsz ns ct), (a 22, aS ta 700 gm1_155), (hb2, aS ta capb gb)] H := hP
          have hD : va_D A [(a 8, aZ ta 256 BOX), (a 9, aZ ta 256 UBOX), (a 16, aS ta 240 rk), (a 18, aS ta 16 ce), (a 24, aS ta 16 mac), (a 25, aS ta 16 k1), (a 55, aS ta 16 gco), (a 45, aS ta 32 gch), (a 41, aS ta 256 gke), (a 36, aK ta 2 ru), (a 37, aK ta 2 le), (a 53, aS ta 16 b'), (h0, oM a ar (((((0 + 16) + 1) + 3) + 1) + n8) tp osz lsz ns ct), (a 22, aS ta 700 gm1_155), (hb2, aS ta capb gb)] := hD
          refine lv_iload (pc := 158) hx hb dX10_commandMac_158 (lv_at hl 1 rfl) ?_
          refine lv_if_eq (pc := 160) (tgt := 184) hx hb dX10_commandMac_160 (by decide) (fun _ => ?_) (fun c_5 => absurd (by decide) c_5)
          refine lv_aload_n (pc := 184) hx hb dX10_commandMac_184 rfl (lv_at hl 3 rfl) ?_
          refine lv_aload_n (pc := 185) hx hb dX10_commandMac_185 rfl (lv_at hl 3 rfl) ?_
          refine va_get (pc := 186) (D := D) (ci := 8) (v := .ref (a 41)) (C := RX10) (T := TX10) (N := 57) hx hb hts iu10 hown hK hP 12 rfl rfl 41 (by decide) (hts _ tw_1086) (fun _ h9 => h9) rfl dX10_commandMac_186 ?_
          refine lv_iload (pc := 189) hx hb dX10_commandMac_189 (lv_at hl 2 rfl) ?_
          refine lv_bipush (pc := 191) (v := nI 32) hx hb dX10_commandMac_191 (by decide +kernel) ?_
          refine lv_iadd (pc := 193) hx hb dX10_commandMac_193 ?_
          refine q_top (y := nI (128 * sd + 32)) (nI_add (128 * sd) 32) ?_
          refine lv_aload_n (pc := 194) hx hb dX10_commandMac_194 rfl (lv_at hl 3 rfl) ?_
          refine va_get (pc := 195) (D := D) (ci := 8) (v := .ref (a 37)) (C := RX10) (T := TX10) (N := 57) hx hb hts iu10 hown hK hP 12 rfl rfl 37 (by decide) (hts _ tw_1082) (fun _ h9 => h9) rfl dX10_commandMac_195 ?_
          refine lv_iload_n (pc := 198) hx hb dX10_commandMac_198 rfl (lv_at hl 4 rfl) ?_
          refine q_iald (pc := 199) hx hb hK hP 10 0 rfl rfl (k := sd) (v := nI (le sd)) rfl (by omega) (by omega) rfl dX10_commandMac_199 ?_
          refine cs_V (pc := 200) (idx := 124) (n := 3) (wr := [(a 55, aS ta 16 gco), (a 45, aS ta 32 gch), (a 36, aK ta 2 ru), (a 37, aK ta 2 le), (a 53, aS ta 16 b'), (hb2, aS ta capb gb)]) (As := [.ref (a 41), .int (nI (128 * sd + 32)), .int (nI (le sd))]) (rest := []) (ci := 8) hx hb hml hown hts hGok hK hA hG hl.1 hP hD hS (ct_X10_cmac ll D ta hGok h0 a ar (((((0 + 16) + 1) + 3) + 1) + n8) tp osz lsz ns ct gm1_155 mac k1 rk ce (a 41) (128 * sd + 32) 256 gke (le sd) (by first | assumption | omega | rfl | decide) (by first | assumption | omega | rfl | decide) (by first | assumption | omega | rfl | decide) (by first | assumption | omega | rfl | decide) H.size) tw_1334 tw_1331 tw_1333 tw_43 tw_75 hdX10_cmac rfl ⟨rfl, rfl, Nat.le_of_ble_eq_true rfl, Nat.le_of_ble_eq_true rfl, Nat.le_of_ble_eq_true rfl, Nat.le_of_ble_eq_true rfl⟩ rfl rfl (q0 := 12) rfl [12, 0, 1, 2, 3, 13, 4, 5, 8] [6, 7, 9, 10, 11, 14] rfl rfl (by decide) rfl (Nat.le_of_ble_eq_true rfl) dX10_commandMac_200 (fun u H locs hq hP hD hS => ?_)
          obtain ⟨mn1_200, gm1_200, mac1_200, k11_200, rk1_200, ce1_200⟩ := u
          have hq : (seg mac1_200 0 16 = cmacL (seg gke (128 * sd + 32) (le sd)) (qL gm1_155 (((((0 + 16) + 1) + 3) + 1) + n8))) := hq
          have hL_200 := hq
          refine W.eq (g2 := F0 mm 203 ls []) rfl ?_
          have hP : va_P D vwCl [(a 55, aS ta 16 gco), (a 45, aS ta 32 gch), (a 36, aK ta 2 ru), (a 37, aK ta 2 le), (a 53, aS ta 16 b'), (hb2, aS ta capb gb), (h0, oM a ((le sd) / 4 + 6) mn1_200 tp osz lsz ns ct), (a 8, aZ ta 256 BOX), (a 9, aZ ta 256 UBOX), (a 16, aS ta 240 rk1_200), (a 18, aS ta 16 ce1_200), (a 22, aS ta 700 gm1_200), (a 24, aS ta 16 mac1_200), (a 25, aS ta 16 k11_200), (a 41, aS ta 256 gke)] H := hP
          have hD : va_D A [(a 55, aS ta 16 gco), (a 45, aS ta 32 gch), (a 36, aK ta 2 ru), (a 37, aK ta 2 le), (a 53, aS ta 16 b'), (hb2, aS ta capb gb), (h0, oM a ((le sd) / 4 + 6) mn1_200 tp osz lsz ns ct), (a 8, aZ ta 256 BOX), (a 9, aZ ta 256 UBOX), (a 16, aS ta 240 rk1_200), (a 18, aS ta 16 ce1_200), (a 22, aS ta 700 gm1_200), (a 24, aS ta 16 mac1_200), (a 25, aS ta 16 k11_200), (a 41, aS ta 256 gke)] := hD
          refine lv_iconst (pc := 203) (v := nI 0) hx hb dX10_commandMac_203 (by decide +kernel) ?_
          refine lv_istore (pc := 204) (lv' := [(10, .int (nI 0)), (9, .int (nI 0)), (8, .int (nI (128 * sd))), (0, .ref h0), (1, .int (nI sd)), (2, .ref hb2), (3, .int (nI 0)), (4, .ref hb2), (5, .int (nI f0)), (6, .int (nI n8)), (7, .int (nI 1))]) hx hb dX10_commandMac_204 hl (by decide) rfl (fun ls hl => ?_)
          have LP206 : ∀ (nn206 : Nat) (k2x : Nat) (c' : Nat → BitVec 8), (k2x ≤ 16) → (qSeg c' gco 0 k2x mac1_200) → (16 - k2x < nn206) → ∀ (H : Heap) (locs : List Loc), va_P D vwCl [(a 55, aS ta 16 c'), (a 45, aS ta 32 gch), (a 36, aK ta 2 ru), (a 37, aK ta 2 le), (a 53, aS ta 16 b'), (hb2, aS ta capb gb), (h0, oM a ((le sd) / 4 + 6) mn1_200 tp osz lsz ns ct), (a 8, aZ ta 256 BOX), (a 9, aZ ta 256 UBOX), (a 16, aS ta 240 rk1_200), (a 18, aS ta 16 ce1_200), (a 22, aS ta 700 gm1_200), (a 24, aS ta 16 mac1_200), (a 25, aS ta 16 k11_200), (a 41, aS ta 256 gke)] H → va_D A [(a 55, aS ta 16 c'), (a 45, aS ta 32 gch), (a 36, aK ta 2 ru), (a 37, aK ta 2 le), (a 53, aS ta 16 b'), (hb2, aS ta capb gb), (h0, oM a ((le sd) / 4 + 6) mn1_200 tp osz lsz ns ct), (a 8, aZ ta 256 BOX), (a 9, aZ ta 256 UBOX), (a 16, aS ta 240 rk1_200), (a 18, aS ta 16 ce1_200), (a 22, aS ta 700 gm1_200), (a 24, aS ta 16 mac1_200), (a 25, aS ta 16 k11_200), (a 41, aS ta 256 gke)] → va_S A ss.heap H locs → ∀ ls : Array Slot, lv_has ls 11 [(10, .int (nI k2x)), (9, .int (nI 0)), (8, .int (nI (128 * sd))), (0, .ref h0), (1, .int (nI sd)), (2, .ref hb2), (3, .int (nI 0)), (4, .ref hb2), (5, .int (nI f0)), (6, .int (nI n8)), (7, .int (nI 1))] → W pp ll ee ({ frames := 5, cells := 0, slots := 0, locals := 124 } : Room) ss mm (([.ref h0, .int (nI sd), .ref hb2, .int (nI 0), .ref hb2, .int (nI f0), .int (nI n8), .int (nI 1)] : List Value).toArray) below meth kc H locs 0 0 Q (F0 mm 206 ls []) := by
            intro nn206
            induction nn206 with
            | zero => intro k2x c' hkk2 hs2 hmu; exact absurd hmu (Nat.not_lt_zero _)
            | succ nn206 ih206 =>
              intro k2x c' hkk2 hs2 hmu206 H locs hP hD hS ls hl
              refine lv_iload (pc := 206) hx hb dX10_commandMac_206 (lv_at hl 0 rfl) ?_
              refine lv_bipush (pc := 208) (v := nI 16) hx hb dX10_commandMac_208 (by decide +kernel) ?_
              refine lv_icmp_ge (pc := 210) (tgt := 249) hx hb dX10_commandMac_210 (by decide) (fun c_6 => ?_) (fun c_6 => ?_)
              · skip
                rw [nI_leI (by omega) (by omega)] at c_6
                refine lv_iconst (pc := 249) (v := nI 0) hx hb dX10_commandMac_249 (by decide +kernel) ?_
                refine lv_istore (pc := 250) (lv' := [(10, .int (nI 0)), (9, .int (nI 0)), (8, .int (nI (128 * sd))), (0, .ref h0), (1, .int (nI sd)), (2, .ref hb2), (3, .int (nI 0)), (4, .ref hb2), (5, .int (nI f0)), (6, .int (nI n8)), (7, .int (nI 1))]) hx hb dX10_commandMac_250 hl (by decide) rfl (fun ls hl => ?_)
                have LP252 : ∀ (nn252 : Nat) (k3x : Nat) (d' : Nat → BitVec 8), (k3x ≤ 16) → (qSeg d' gch (16 * sd) k3x c') → (16 - k3x < nn252) → ∀ (H : Heap) (locs : List Loc), va_P D vwCl [(a 55, aS ta 16 c'), (a 45, aS ta 32 d'), (a 36, aK ta 2 ru), (a 37, aK ta 2 le), (a 53, aS ta 16 b'), (hb2, aS ta capb gb), (h0, oM a ((le sd) / 4 + 6) mn1_200 tp osz lsz ns ct), (a 8, aZ ta 256 BOX), (a 9, aZ ta 256 UBOX), (a 16, aS ta 240 rk1_200), (a 18, aS ta 16 ce1_200), (a 22, aS ta 700 gm1_200), (a 24, aS ta 16 mac1_200), (a 25, aS ta 16 k11_200), (a 41, aS ta 256 gke)] H → va_D A [(a 55, aS ta 16 c'), (a 45, aS ta 32 d'), (a 36, aK ta 2 ru), (a 37, aK ta 2 le), (a 53, aS ta 16 b'), (hb2, aS ta capb gb), (h0, oM a ((le sd) / 4 + 6) mn1_200 tp osz lsz ns ct), (a 8, aZ ta 256 BOX), (a 9, aZ ta 256 UBOX), (a 16, aS ta 240 rk1_200), (a 18, aS ta 16 ce1_200), (a 22, aS ta 700 gm1_200), (a 24, aS ta 16 mac1_200), (a 25, aS ta 16 k11_200), (a 41, aS ta 256 gke)] → va_S A ss.heap H locs → ∀ ls : Array Slot, lv_has ls 11 [(10, .int (nI k3x)), (9, .int (nI 0)), (8, .int (nI (128 * sd))), (0, .ref h0), (1, .int (nI sd)), (2, .ref hb2), (3, .int (nI 0)), (4, .ref hb2), (5, .int (nI f0)), (6, .int (nI n8)), (7, .int (nI 1))] → W pp ll ee ({ frames := 5, cells := 0, slots := 0, locals := 124 } : Room) ss mm (([.ref h0, .int (nI sd), .ref hb2, .int (nI 0), .ref hb2, .int (nI f0), .int (nI n8), .int (nI 1)] : List Value).toArray) below meth kc H locs 0 0 Q (F0 mm 252 ls []) := by
                  intro nn252
                  induction nn252 with
                  | zero => intro k3x d' hkk3 hs3 hmu; exact absurd hmu (Nat.not_lt_zero _)
                  | succ nn252 ih252 =>
                    intro k3x d' hkk3 hs3 hmu252 H locs hP hD hS ls hl
                    refine lv_iload (pc := 252) hx hb dX10_commandMac_252 (lv_at hl 0 rfl) ?_
                    refine lv_bipush (pc := 254) (v := nI 16) hx hb dX10_commandMac_254 (by decide +kernel) ?_
                    refine lv_icmp_ge (pc := 256) (tgt := 284) hx hb dX10_commandMac_256 (by decide) (fun c_7 => ?_) (fun c_7 => ?_)
                    · skip
                      rw [nI_leI (by omega) (by omega)] at c_7
                      have hq_8 : (seg c' 0 16 = cmacL (seg gke (128 * sd + 32) (le sd)) ((zeroL 16) ++ (headL (seg gb 0 4) n8 ++ seg gb f0 n8))) ∧ (seg d' (16 * sd) 16 = seg c' 0 16) ∧ (∀ j, (j < 16 * sd ∨ 16 * sd + 16 ≤ j) → d' j = gch j) := by
                        have hT : qL gm1_155 (0 + 16 + 1 + 3 + 1 + n8) = (zeroL 16) ++ (headL (seg gb 0 4) n8 ++ seg gb f0 n8) := by
                          have e := head_ref (g := gb) (n := n8) (gm := gb) rfl
                          rw [hL_155, hL_145, hL_136, hL_127, hL_114, qL_0, List.nil_append, ← e, zero_seg hs1 (show k1x = 16 by omega)]
                          simp only [List.append_assoc]
                        refine ⟨?_, ?_, fun j hj => hs3.2 j (by omega)⟩
                        · rw [seg_copy0 hs2 (by omega), ← seg_0, hL_200, hT]
                        · rw [seg_copy0 hs3 (by omega), seg_0]
                      exact hret (⟨(rk1_200), (ce1_200), (gm1_200), (mac1_200), (k11_200), (b'), (c'), (d'), (mn1_200), ((le sd) / 4 + 6)⟩ : (Nat → BitVec 8) × (Nat → BitVec 8) × (Nat → BitVec 8) × (Nat → BitVec 8) × (Nat → BitVec 8) × (Nat → BitVec 8) × (Nat → BitVec 8) × (Nat → BitVec 8) × Nat × Nat) _ _ _ _ dX10_commandMac_284 hq_8 (hP.sub [6, 7, 8, 9, 10, 11, 12, 13, 4, 0, 1, 14, 2, 3, 5] rfl) (hD.sub [6, 7, 8, 9, 10, 11, 12, 13, 4, 0, 1, 14, 2, 3, 5] (by decide) rfl) hS
                    · skip
                      rw [nI_leI (by omega) (by omega)] at c_7
                      refine lv_aload_n (pc := 259) hx hb dX10_commandMac_259 rfl (lv_at hl 3 rfl) ?_
                      refine va_get (pc := 260) (D := D) (ci := 8) (v := .ref (a 45)) (C := RX10) (T := TX10) (N := 57) hx hb hts iu10 hown hK hP 6 rfl rfl 45 (by decide) (hts _ tw_1090) (fun _ h9 => h9) rfl dX10_commandMac_260 ?_
                      refine lv_bipush (pc := 263) (v := nI 16) hx hb dX10_commandMac_263 (by decide +kernel) ?_
                      refine lv_iload_n (pc := 265) hx hb dX10_commandMac_265 rfl (lv_at hl 4 rfl) ?_
                      refine lv_imul (pc := 266) hx hb dX10_commandMac_266 ?_
                      refine q_top (y := nI (16 * sd)) (pk_mul 16 sd) ?_
                      refine lv_iload (pc := 267) hx hb dX10_commandMac_267 (lv_at hl 0 rfl) ?_
                      refine lv_iadd (pc := 269) hx hb dX10_commandMac_269 ?_
                      refine q_top (y := nI (16 * sd + k3x)) (nI_add (16 * sd) k3x) ?_
                      refine lv_aload_n (pc := 270) hx hb dX10_commandMac_270 rfl (lv_at hl 3 rfl) ?_
                      refine va_get (pc := 271) (D := D) (ci := 8) (v := .ref (a 55)) (C := RX10) (T := TX10) (N := 57) hx hb hts iu10 hown hK hP 6 rfl rfl 55 (by decide) (hts _ tw_1100) (fun _ h9 => h9) rfl dX10_commandMac_271 ?_
                      refine lv_iload (pc := 274) hx hb dX10_commandMac_274 (lv_at hl 0 rfl) ?_
                      refine q_bald (pc := 276) hx hb hK hP 0 2 rfl rfl (k := k3x) (v := qs (c' k3x)) rfl (by omega) (by omega) rfl dX10_commandMac_276 ?_
                      refine q_bastS (pc := 277) hx hb hK hP hD hS 1 2 rfl rfl (k := 16 * sd + k3x) rfl (by omega) (by omega) (b := c' k3x) (qlo_qs _) dX10_commandMac_277 (fun H locs hP hD hS => ?_)
                      have hP : va_P D vwCl [(a 55, aS ta 16 c'), (a 45, aS ta 32 (qU d' (16 * sd + k3x) (c' k3x))), (a 36, aK ta 2 ru), (a 37, aK ta 2 le), (a 53, aS ta 16 b'), (hb2, aS ta capb gb), (h0, oM a ((le sd) / 4 + 6) mn1_200 tp osz lsz ns ct), (a 8, aZ ta 256 BOX), (a 9, aZ ta 256 UBOX), (a 16, aS ta 240 rk1_200), (a 18, aS ta 16 ce1_200), (a 22, aS ta 700 gm1_200), (a 24, aS ta 16 mac1_200), (a 25, aS ta 16 k11_200), (a 41, aS ta 256 gke)] H := hP
                      have hD : va_D A [(a 55, aS ta 16 c'), (a 45, aS ta 32 (qU d' (16 * sd + k3x) (c' k3x))), (a 36, aK ta 2 ru), (a 37, aK ta 2 le), (a 53, aS ta 16 b'), (hb2, aS ta capb gb), (h0, oM a ((le sd) / 4 + 6) mn1_200 tp osz lsz ns ct), (a 8, aZ ta 256 BOX), (a 9, aZ ta 256 UBOX), (a 16, aS ta 240 rk1_200), (a 18, aS ta 16 ce1_200), (a 22, aS ta 700 gm1_200), (a 24, aS ta 16 mac1_200), (a 25, aS ta 16 k11_200), (a 41, aS ta 256 gke)] := hD
                      refine lv_iinc (pc := 278) (v := nI (k3x + 1)) (lv' := [(10, .int (nI (k3x + 1))), (9, .int (nI 0)), (8, .int (nI (128 * sd))), (0, .ref h0), (1, .int (nI sd)), (2, .ref hb2), (3, .int (nI 0)), (4, .ref hb2), (5, .int (nI f0)), (6, .int (nI n8)), (7, .int (nI 1))]) hx hb dX10_commandMac_278 hl (k := 0) rfl (by first | exact nI_add k3x 1 | rfl) (by decide) rfl (fun ls hl => ?_)
                      refine lv_goto (pc := 281) (tgt := 252) hx hb dX10_commandMac_281 (by decide) ?_
                      exact ih252 (k3x + 1) (qU d' (16 * sd + k3x) (c' k3x)) (by omega) (qSeg_s hs3 (by omega) (by first | rfl | (simp; done))) (by omega) _ _ (hP.sub [0, 1, 2, 3, 4, 5, 6, 7, 8, 9, 10, 11, 12, 13, 14] rfl) (hD.sub [0, 1, 2, 3, 4, 5, 6, 7, 8, 9, 10, 11, 12, 13, 14] (by decide) rfl) hS ls (lv_sub hl [0, 1, 2, 3, 4, 5, 6, 7, 8, 9, 10] rfl)
                exact LP252 _ 0 gch (by omega) (qSeg_0) (Nat.lt_succ_self _) _ _ (hP.sub [0, 1, 2, 3, 4, 5, 6, 7, 8, 9, 10, 11, 12, 13, 14] rfl) (hD.sub [0, 1, 2, 3, 4, 5, 6, 7, 8, 9, 10, 11, 12, 13, 14] (by decide) rfl) hS ls (lv_sub hl [0, 1, 2, 3, 4, 5, 6, 7, 8, 9, 10] rfl)
              · skip
                rw [nI_leI (by omega) (by omega)] at c_6
                refine lv_aload_n (pc := 213) hx hb dX10_commandMac_213 rfl (lv_at hl 3 rfl) ?_
                refine va_get (pc := 214) (D := D) (ci := 8) (v := .ref (a 55)) (C := RX10) (T := TX10) (N := 57) hx hb hts iu10 hown hK hP 6 rfl rfl 55 (by decide) (hts _ tw_1100) (fun _ h9 => h9) rfl dX10_commandMac_214 ?_
                refine lv_iload (pc := 217) hx hb dX10_commandMac_217 (lv_at hl 0 rfl) ?_
                refine lv_iload (pc := 219) hx hb dX10_commandMac_219 (lv_at hl 0 rfl) ?_
                refine lv_bipush (pc := 221) (v := nI 8) hx hb dX10_commandMac_221 (by decide +kernel) ?_
                refine lv_icmp_lt (pc := 223) (tgt := 231) hx hb dX10_commandMac_223 (by decide) (fun c_9 => ?_) (fun c_9 => ?_)
                · skip
                  rw [nI_ltI (by omega) (by omega)] at c_9
                  refine lv_aload_n (pc := 231) hx hb dX10_commandMac_231 rfl (lv_at hl 3 rfl) ?_
                  refine va_get (pc := 232) (D := D) (ci := 8) (v := .ref (a 24)) (C := RX10) (T := TX10) (N := 57) hx hb hts iu10 hown hK hP 6 rfl rfl 24 (by decide) (hts _ tw_1069) (fun _ h9 => h9) rfl dX10_commandMac_232 ?_
                  refine lv_iload (pc := 235) hx hb dX10_commandMac_235 (lv_at hl 0 rfl) ?_
                  refine q_bald (pc := 237) hx hb hK hP 12 2 rfl rfl (k := k2x) (v := qs (mac1_200 k2x)) rfl (by omega) (by omega) rfl dX10_commandMac_237 ?_
                  refine lv_goto (pc := 238) (tgt := 242) hx hb dX10_commandMac_238 (by decide) ?_
                  refine q_bastS (pc := 242) hx hb hK hP hD hS 0 2 rfl rfl (k := k2x) rfl (by omega) (by omega) (b := mac1_200 k2x) (qlo_qs _) dX10_commandMac_242 (fun H locs hP hD hS => ?_)
                  have hP : va_P D vwCl [(a 55, aS ta 16 (qU c' k2x (mac1_200 k2x))), (a 45, aS ta 32 gch), (a 36, aK ta 2 ru), (a 37, aK ta 2 le), (a 53, aS ta 16 b'), (hb2, aS ta capb gb), (h0, oM a ((le sd) / 4 + 6) mn1_200 tp osz lsz ns ct), (a 8, aZ ta 256 BOX), (a 9, aZ ta 256 UBOX), (a 16, aS ta 240 rk1_200), (a 18, aS ta 16 ce1_200), (a 22, aS ta 700 gm1_200), (a 24, aS ta 16 mac1_200), (a 25, aS ta 16 k11_200), (a 41, aS ta 256 gke)] H := hP
                  have hD : va_D A [(a 55, aS ta 16 (qU c' k2x (mac1_200 k2x))), (a 45, aS ta 32 gch), (a 36, aK ta 2 ru), (a 37, aK ta 2 le), (a 53, aS ta 16 b'), (hb2, aS ta capb gb), (h0, oM a ((le sd) / 4 + 6) mn1_200 tp osz lsz ns ct), (a 8, aZ ta 256 BOX), (a 9, aZ ta 256 UBOX), (a 16, aS ta 240 rk1_200), (a 18, aS ta 16 ce1_200), (a 22, aS ta 700 gm1_200), (a 24, aS ta 16 mac1_200), (a 25, aS ta 16 k11_200), (a 41, aS ta 256 gke)] := hD
                  refine lv_iinc (pc := 243) (v := nI (k2x + 1)) (lv' := [(10, .int (nI (k2x + 1))), (9, .int (nI 0)), (8, .int (nI (128 * sd))), (0, .ref h0), (1, .int (nI sd)), (2, .ref hb2), (3, .int (nI 0)), (4, .ref hb2), (5, .int (nI f0)), (6, .int (nI n8)), (7, .int (nI 1))]) hx hb dX10_commandMac_243 hl (k := 0) rfl (by first | exact nI_add k2x 1 | rfl) (by decide) rfl (fun ls hl => ?_)
                  refine lv_goto (pc := 246) (tgt := 206) hx hb dX10_commandMac_246 (by decide) ?_
                  exact ih206 (k2x + 1) (qU c' k2x (mac1_200 k2x)) (by omega) (qSeg_s hs2 (by omega) (rfl)) (by omega) _ _ (hP.sub [0, 1, 2, 3, 4, 5, 6, 7, 8, 9, 10, 11, 12, 13, 14] rfl) (hD.sub [0, 1, 2, 3, 4, 5, 6, 7, 8, 9, 10, 11, 12, 13, 14] (by decide) rfl) hS ls (lv_sub hl [0, 1, 2, 3, 4, 5, 6, 7, 8, 9, 10] rfl)
                · skip
                  rw [nI_ltI (by omega) (by omega)] at c_9
                  refine lv_iload (pc := 226) hx hb dX10_commandMac_226 (lv_at hl 1 rfl) ?_
                  refine lv_if_ne (pc := 228) (tgt := 241) hx hb dX10_commandMac_228 (by decide) (fun c_10 => absurd (by decide) c_10) (fun _ => ?_)
                  refine lv_aload_n (pc := 231) hx hb dX10_commandMac_231 rfl (lv_at hl 3 rfl) ?_
                  refine va_get (pc := 232) (D := D) (ci := 8) (v := .ref (a 24)) (C := RX10) (T := TX10) (N := 57) hx hb hts iu10 hown hK hP 6 rfl rfl 24 (by decide) (hts _ tw_1069) (fun _ h9 => h9) rfl dX10_commandMac_232 ?_
                  refine lv_iload (pc := 235) hx hb dX10_commandMac_235 (lv_at hl 0 rfl) ?_
                  refine q_bald (pc := 237) hx hb hK hP 12 2 rfl rfl (k := k2x) (v := qs (mac1_200 k2x)) rfl (by omega) (by omega) rfl dX10_commandMac_237 ?_
                  refine lv_goto (pc := 238) (tgt := 242) hx hb dX10_commandMac_238 (by decide) ?_
                  refine q_bastS (pc := 242) hx hb hK hP hD hS 0 2 rfl rfl (k := k2x) rfl (by omega) (by omega) (b := mac1_200 k2x) (qlo_qs _) dX10_commandMac_242 (fun H locs hP hD hS => ?_)
                  have hP : va_P D vwCl [(a 55, aS ta 16 (qU c' k2x (mac1_200 k2x))), (a 45, aS ta 32 gch), (a 36, aK ta 2 ru), (a 37, aK ta 2 le), (a 53, aS ta 16 b'), (hb2, aS ta capb gb), (h0, oM a ((le sd) / 4 + 6) mn1_200 tp osz lsz ns ct), (a 8, aZ ta 256 BOX), (a 9, aZ ta 256 UBOX), (a 16, aS ta 240 rk1_200), (a 18, aS ta 16 ce1_200), (a 22, aS ta 700 gm1_200), (a 24, aS ta 16 mac1_200), (a 25, aS ta 16 k11_200), (a 41, aS ta 256 gke)] H := hP
                  have hD : va_D A [(a 55, aS ta 16 (qU c' k2x (mac1_200 k2x))), (a 45, aS ta 32 gch), (a 36, aK ta 2 ru), (a 37, aK ta 2 le), (a 53, aS ta 16 b'), (hb2, aS ta capb gb), (h0, oM a ((le sd) / 4 + 6) mn1_200 tp osz lsz ns ct), (a 8, aZ ta 256 BOX), (a 9, aZ ta 256 UBOX), (a 16, aS ta 240 rk1_200), (a 18, aS ta 16 ce1_200), (a 22, aS ta 700 gm1_200), (a 24, aS ta 16 mac1_200), (a 25, aS ta 16 k11_200), (a 41, aS ta 256 gke)] := hD
                  refine lv_iinc (pc := 243) (v := nI (k2x + 1)) (lv' := [(10, .int (nI (k2x + 1))), (9, .int (nI 0)), (8, .int (nI (128 * sd))), (0, .ref h0), (1, .int (nI sd)), (2, .ref hb2), (3, .int (nI 0)), (4, .ref hb2), (5, .int (nI f0)), (6, .int (nI n8)), (7, .int (nI 1))]) hx hb dX10_commandMac_243 hl (k := 0) rfl (by first | exact nI_add k2x 1 | rfl) (by decide) rfl (fun ls hl => ?_)
                  refine lv_goto (pc := 246) (tgt := 206) hx hb dX10_commandMac_246 (by decide) ?_
                  exact ih206 (k2x + 1) (qU c' k2x (mac1_200 k2x)) (by omega) (qSeg_s hs2 (by omega) (rfl)) (by omega) _ _ (hP.sub [0, 1, 2, 3, 4, 5, 6, 7, 8, 9, 10, 11, 12, 13, 14] rfl) (hD.sub [0, 1, 2, 3, 4, 5, 6, 7, 8, 9, 10, 11, 12, 13, 14] (by decide) rfl) hS ls (lv_sub hl [0, 1, 2, 3, 4, 5, 6, 7, 8, 9, 10] rfl)
          exact LP206 _ 0 gco (by omega) (qSeg_0) (Nat.lt_succ_self _) _ _ (hP.sub [0, 1, 2, 3, 4, 5, 6, 7, 8, 9, 10, 11, 12, 13, 14] rfl) (hD.sub [0, 1, 2, 3, 4, 5, 6, 7, 8, 9, 10, 11, 12, 13, 14] (by decide) rfl) hS ls (lv_sub hl [0, 1, 2, 3, 4, 5, 6, 7, 8, 9, 10] rfl)
        · skip
          rw [nI_leI (by omega) (by omega)] at c_2
          refine lv_aload_n (pc := 34) hx hb dX10_commandMac_34 rfl (lv_at hl 3 rfl) ?_
          refine va_get (pc := 35) (D := D) (ci := 8) (v := .ref (a 53)) (C := RX10) (T := TX10) (N := 57) hx hb hts iu10 hown hK hP 0 rfl rfl 53 (by decide) (hts _ tw_1098) (fun _ h9 => h9) rfl dX10_commandMac_35 ?_
          refine lv_iload (pc := 38) hx hb dX10_commandMac_38 (lv_at hl 0 rfl) ?_
          refine lv_iload (pc := 40) hx hb dX10_commandMac_40 (lv_at hl 10 rfl) ?_
          refine lv_if_eq (pc := 42) (tgt := 49) hx hb dX10_commandMac_42 (by decide) (fun c_11 => absurd c_11 (by decide)) (fun _ => ?_)
          refine lv_iconst (pc := 45) (v := nI 0) hx hb dX10_commandMac_45 (by decide +kernel) ?_
          refine lv_goto (pc := 46) (tgt := 61) hx hb dX10_commandMac_46 (by decide) ?_
          refine q_bastS (pc := 61) hx hb hK hP hD hS 8 2 rfl rfl (k := k1x) rfl (by omega) (by omega) (b := BitVec.ofNat 8 0) (qlo_nI _) dX10_commandMac_61 (fun H locs hP hD hS => ?_)
          have hP : va_P D vwCl [(h0, oM a ar mn tp osz lsz ns ct), (a 8, aZ ta 256 BOX), (a 9, aZ ta 256 UBOX), (a 16, aS ta 240 rk), (a 18, aS ta 16 ce), (a 22, aS ta 700 gm), (a 24, aS ta 16 mac), (a 25, aS ta 16 k1), (a 53, aS ta 16 (qU b' k1x (BitVec.ofNat 8 0))), (a 55, aS ta 16 gco), (a 45, aS ta 32 gch), (a 41, aS ta 256 gke), (a 36, aK ta 2 ru), (a 37, aK ta 2 le), (hb2, aS ta capb gb)] H := hP
          have hD : va_D A [(h0, oM a ar mn tp osz lsz ns ct), (a 8, aZ ta 256 BOX), (a 9, aZ ta 256 UBOX), (a 16, aS ta 240 rk), (a 18, aS ta 16 ce), (a 22, aS ta 700 gm), (a 24, aS ta 16 mac), (a 25, aS ta 16 k1), (a 53, aS ta 16 (qU b' k1x (BitVec.ofNat 8 0))), (a 55, aS ta 16 gco), (a 45, aS ta 32 gch), (a 41, aS ta 256 gke), (a 36, aK ta 2 ru), (a 37, aK ta 2 le), (hb2, aS ta capb gb)] := hD
          refine lv_iinc (pc := 62) (v := nI (k1x + 1)) (lv' := [(10, .int (nI (k1x + 1))), (9, .int (nI 0)), (8, .int (nI (128 * sd))), (0, .ref h0), (1, .int (nI sd)), (2, .ref hb2), (3, .int (nI 0)), (4, .ref hb2), (5, .int (nI f0)), (6, .int (nI n8)), (7, .int (nI 1))]) hx hb dX10_commandMac_62 hl (k := 0) rfl (by first | exact nI_add k1x 1 | rfl) (by decide) rfl (fun ls hl => ?_)
          refine lv_goto (pc := 65) (tgt := 27) hx hb dX10_commandMac_65 (by decide) ?_
          exact ih27 (k1x + 1) (qU b' k1x (BitVec.ofNat 8 0)) (by omega) (qSeg_s hs1 (by omega) (by first | rfl | (simp; done))) (by omega) _ _ (hP.sub [0, 1, 2, 3, 4, 5, 6, 7, 8, 9, 10, 11, 12, 13, 14] rfl) (hD.sub [0, 1, 2, 3, 4, 5, 6, 7, 8, 9, 10, 11, 12, 13, 14] (by decide) rfl) hS ls (lv_sub hl [0, 1, 2, 3, 4, 5, 6, 7, 8, 9, 10] rfl)
    exact LP27 _ 0 gbl (by omega) (qSeg_0) (Nat.lt_succ_self _) _ _ (hP.sub [0, 1, 2, 3, 4, 5, 6, 7, 8, 9, 10, 11, 12, 13, 14] rfl) (hD.sub [0, 1, 2, 3, 4, 5, 6, 7, 8, 9, 10, 11, 12, 13, 14] (by decide) rfl) hS ls (lv_sub hl [0, 1, 2, 3, 4, 5, 6, 7, 8, 9, 10] rfl)
  · skip
    rw [nI_eq (by omega) (by omega)] at c_1
    exfalso; omega
set_option maxHeartbeats 4000000 in
set_option maxRecDepth 100000 in
theorem ct_X10_commandMac_301 (ll : Launch) (D : va_G) (ta : Nat → ClassId) {G : (Nat → Prop) → State → Heap → Prop} (hGok : GOK G) (h0 : Nat) (a : Nat → Nat) (ar : Nat) (mn : Nat) (tp : Nat) (osz : Nat) (lsz : Nat) (ns : Nat) (ct : Nat) (rk : Nat → BitVec 8) (ce : Nat → BitVec 8) (gm : Nat → BitVec 8) (mac : Nat → BitVec 8) (k1 : Nat → BitVec 8) (gbl : Nat → BitVec 8) (gco : Nat → BitVec 8) (gch : Nat → BitVec 8) (gke : Nat → BitVec 8) (ru : Nat → Nat) (le : Nat → Nat) (sd : Nat) (hb2 : Nat) (capb : Nat) (gb : Nat → BitVec 8) (f0 : Nat) (n8 : Nat) (hsd : sd ≤ 1) (hru : ru sd = 3) (hn8 : n8 ≤ 300) (hcb : 4 ≤ capb ∧ capb < 2147483648) (hfd : f0 + n8 ≤ capb) (hle : le sd = 16 ∨ le sd = 24 ∨ le sd = 32) (sz : Nat) : CT ll yX10_commandMac cX10_commandMac 11 none ({ frames := 5, cells := 0, slots := 0, locals := 124 } : Room) D ta G [.ref h0, .int (nI sd), .ref hb2, .int (nI 0), .ref hb2, .int (nI f0), .int (nI n8), .int (nI 0)] [(h0, oM a ar mn tp osz lsz ns ct), (a 8, aZ ta 256 BOX), (a 9, aZ ta 256 UBOX), (a 16, aS ta 240 rk), (a 18, aS ta 16 ce), (a 22, aS ta 700 gm), (a 24, aS ta 16 mac), (a 25, aS ta 16 k1), (a 53, aS ta 16 gbl), (a 55, aS ta 16 gco), (a 45, aS ta 32 gch), (a 41, aS ta 256 gke), (a 36, aK ta 2 ru), (a 37, aK ta 2 le), (hb2, aS ta capb gb)] sz (S := (Nat → BitVec 8) × (Nat → BitVec 8) × (Nat → BitVec 8) × (Nat → BitVec 8) × (Nat → BitVec 8) × (Nat → BitVec 8) × (Nat → BitVec 8) × (Nat → BitVec 8) × Nat × Nat) (fun _ => none) (fun u => (seg u.2.2.2.2.2.2.1 0 16 = cmacL (seg gke (128 * sd + 32) (le sd)) ((seg gch (16 * sd) 16) ++ (headL (seg gb 0 4) n8 ++ seg gb f0 n8))) ∧ (seg u.2.2.2.2.2.2.2.1 (16 * sd) 16 = seg u.2.2.2.2.2.2.1 0 16) ∧ (∀ j, (j < 16 * sd ∨ 16 * sd + 16 ≤ j) → u.2.2.2.2.2.2.2.1 j = gch j)) (fun u => [(h0, oM a u.2.2.2.2.2.2.2.2.2 u.2.2.2.2.2.2.2.2.1 tp osz lsz ns ct), (a 8, aZ ta 256 BOX), (a 9, aZ ta 256 UBOX), (a 16, aS ta 240 u.1), (a 18, aS ta 16 u.2.1), (a 22, aS ta 700 u.2.2.1), (a 24, aS ta 16 u.2.2.2.1), (a 25, aS ta 16 u.2.2.2.2.1), (a 53, aS ta 16 u.2.2.2.2.2.1), (a 55, aS ta 16 u.2.2.2.2.2.2.1), (a 45, aS ta 32 u.2.2.2.2.2.2.2.1), (a 41, aS ta 256 gke), (a 36, aK ta 2 ru), (a 37, aK ta 2 le), (hb2, aS ta capb gb)]) 0 0 := by
  refine CT.of_v rfl (by decide) (Nat.le_of_ble_eq_true rfl) ?_
  intro pp ee ss mm below meth kc A Q hx hb hml hown hin hts hK hA hsz hG hret H locs hP hD hS ls hl
  have hl : lv_has ls 11 [(0, .ref h0), (1, .int (nI sd)), (2, .ref hb2), (3, .int (nI 0)), (4, .ref hb2), (5, .int (nI f0)), (6, .int (nI n8)), (7, .int (nI 0))] := hl
  refine lv_sipush (pc := 0) (v := nI 128) hx hb dX10_commandMac_0 (by decide +kernel) ?_
  refine lv_iload_n (pc := 3) hx hb dX10_commandMac_3 rfl (lv_at hl 1 rfl) ?_
  refine lv_imul (pc := 4) hx hb dX10_commandMac_4 ?_
  refine q_top (y := nI (128 * sd)) (pk_mul 128 sd) ?_
  refine lv_istore (pc := 5) (lv' := [(8, .int (nI (128 * sd))), (0, .ref h0), (1, .int (nI sd)), (2, .ref hb2), (3, .int (nI 0)), (4, .ref hb2), (5, .int (nI f0)), (6, .int (nI n8)), (7, .int (nI 0))]) hx hb dX10_commandMac_5 hl (by decide) rfl (fun ls hl => ?_)
  refine lv_aload_n (pc := 7) hx hb dX10_commandMac_7 rfl (lv_at hl 1 rfl) ?_
  refine va_get (pc := 8) (D := D) (ci := 8) (v := .ref (a 36)) (C := RX10) (T := TX10) (N := 57) hx hb hts iu10 hown hK hP 0 rfl rfl 36 (by decide) (hts _ tw_1081) (fun _ h9 => h9) rfl dX10_commandMac_8 ?_
  refine lv_iload_n (pc := 11) hx hb dX10_commandMac_11 rfl (lv_at hl 2 rfl) ?_
  refine q_iald (pc := 12) hx hb hK hP 12 0 rfl rfl (k := sd) (v := nI (ru sd)) rfl (by omega) (by omega) rfl dX10_commandMac_12 ?_
  refine lv_iconst (pc := 13) (v := nI 2) hx hb dX10_commandMac_13 (by decide +kernel) ?_
  refine lv_icmp_ne (pc := 14) (tgt := 21) hx hb dX10_commandMac_14 (by decide) (fun c_1 => ?_) (fun c_1 => ?_)
  · skip
    rw [nI_eq (by omega) (by omega)] at c_1
    refine lv_iconst (pc := 21) (v := nI 0) hx hb dX10_commandMac_21 (by decide +kernel) ?_
    refine lv_istore (pc := 22) (lv' := [(9, .int (nI 0)), (8, .int (nI (128 * sd))), (0, .ref h0), (1, .int (nI sd)), (2, .ref hb2), (3, .int (nI 0)), (4, .ref hb2), (5, .int (nI f0)), (6, .int (nI n8)), (7, .int (nI 0))]) hx hb dX10_commandMac_22 hl (by decide) rfl (fun ls hl => ?_)
    refine lv_iconst (pc := 24) (v := nI 0) hx hb dX10_commandMac_24 (by decide +kernel) ?_
    refine lv_istore (pc := 25) (lv' := [(10, .int (nI 0)), (9, .int (nI 0)), (8, .int (nI (128 * sd))), (0, .ref h0), (1, .int (nI sd)), (2, .ref hb2), (3, .int (nI 0)), (4, .ref hb2), (5, .int (nI f0)), (6, .int (nI n8)), (7, .int (nI 0))]) hx hb dX10_commandMac_25 hl (by decide) rfl (fun ls hl => ?_)
    have LP27 : ∀ (nn27 : Nat) (k1x : Nat) (b' : Nat → BitVec 8), (k1x ≤ 16) → (qSeg b' gbl 0 k1x ((fun j => gch (16 * sd + j)))) → (16 - k1x < nn27) → ∀ (H : Heap) (locs : List Loc), va_P D vwCl [(h0, oM a ar mn tp osz lsz ns ct), (a 8, aZ ta 256 BOX), (a 9, aZ ta 256 UBOX), (a 16, aS ta 240 rk), (a 18, aS ta 16 ce), (a 22, aS ta 700 gm), (a 24, aS ta 16 mac), (a 25, aS ta 16 k1), (a 53, aS ta 16 b'), (a 55, aS ta 16 gco), (a 45, aS ta 32 gch), (a 41, aS ta 256 gke), (a 36, aK ta 2 ru), (a 37, aK ta 2 le), (hb2, aS ta capb gb)] H → va_D A [(h0, oM a ar mn tp osz lsz ns ct), (a 8, aZ ta 256 BOX), (a 9, aZ ta 256 UBOX), (a 16, aS ta 240 rk), (a 18, aS ta 16 ce), (a 22, aS ta 700 gm), (a 24, aS ta 16 mac), (a 25, aS ta 16 k1), (a 53, aS ta 16 b'), (a 55, aS ta 16 gco), (a 45, aS ta 32 gch), (a 41, aS ta 256 gke), (a 36, aK ta 2 ru), (a 37, aK ta 2 le), (hb2, aS ta capb gb)] → va_S A ss.heap H locs → ∀ ls : Array Slot, lv_has ls 11 [(10, .int (nI k1x)), (9, .int (nI 0)), (8, .int (nI (128 * sd))), (0, .ref h0), (1, .int (nI sd)), (2, .ref hb2), (3, .int (nI 0)), (4, .ref hb2), (5, .int (nI f0)), (6, .int (nI n8)), (7, .int (nI 0))] → W pp ll ee ({ frames := 5, cells := 0, slots := 0, locals := 124 } : Room) ss mm (([.ref h0, .int (nI sd), .ref hb2, .int (nI 0), .ref hb2, .int (nI f0), .int (nI n8), .int (nI 0)] : List Value).toArray) below meth kc H locs 0 0 Q (F0 mm 27 ls []) := by
      intro nn27
      induction nn27 with
      | zero => intro k1x b' hkk1 hs1 hmu; exact absurd hmu (Nat.not_lt_zero _)
      | succ nn27 ih27 =>
        intro k1x b' hkk1 hs1 hmu27 H locs hP hD hS ls hl
        refine lv_iload (pc := 27) hx hb dX10_commandMac_27 (lv_at hl 0 rfl) ?_
        refine lv_bipush (pc := 29) (v := nI 16) hx hb dX10_commandMac_29 (by decide +kernel) ?_
        refine lv_icmp_ge (pc := 31) (tgt := 68) hx hb dX10_commandMac_31 (by decide) (fun c_2 => ?_) (fun c_2 => ?_)
        · skip
          rw [nI_leI (by omega) (by omega)] at c_2
          refine lv_iload (pc := 68) hx hb dX10_commandMac_68 (lv_at hl 1 rfl) ?_
          refine lv_if_eq (pc := 70) (tgt := 97) hx hb dX10_commandMac_70 (by decide) (fun _ => ?_) (fun c_3 => absurd (by decide) c_3)
          refine lv_aload_n (pc := 97) hx hb dX10_commandMac_97 rfl (lv_at hl 3 rfl) ?_
          refine cs_V (pc := 98) (idx := 114) (n := 0) (wr := [(a 8, aZ ta 256 BOX), (a 9, aZ ta 256 UBOX), (a 16, aS ta 240 rk), (a 18, aS ta 16 ce), (a 22, aS ta 700 gm), (a 24, aS ta 16 mac), (a 25, aS ta 16 k1), (a 53, aS ta 16 b'), (a 55, aS ta 16 gco), (a 45, aS ta 32 gch), (a 41, aS ta 256 gke), (a 36, aK ta 2 ru), (a 37, aK ta 2 le), (hb2, aS ta capb gb)]) (As := []) (rest := []) (ci := 8) hx hb hml hown hts hGok hK hA hG hl.1 hP hD hS (ct_X10_fresh ll D ta hGok h0 a ar mn tp osz lsz ns ct  H.size) tw_1302 tw_1299 tw_1301 tw_35 tw_75 hdX10_fresh rfl ⟨rfl, rfl, Nat.le_of_ble_eq_true rfl, Nat.le_of_ble_eq_true rfl, Nat.le_of_ble_eq_true rfl, Nat.le_of_ble_eq_true rfl⟩ rfl rfl (q0 := 0) rfl [0] [1, 2, 3, 4, 5, 6, 7, 8, 9, 10, 11, 12, 13, 14] rfl rfl (by decide) rfl (Nat.le_of_ble_eq_true rfl) dX10_commandMac_98 (fun u H locs hq hP hD hS => ?_)
          refine W.eq (g2 := F0 mm 101 ls []) rfl ?_
          have hP : va_P D vwCl [(a 8, aZ ta 256 BOX), (a 9, aZ ta 256 UBOX), (a 16, aS ta 240 rk), (a 18, aS ta 16 ce), (a 22, aS ta 700 gm), (a 24, aS ta 16 mac), (a 25, aS ta 16 k1), (a 53, aS ta 16 b'), (a 55, aS ta 16 gco), (a 45, aS ta 32 gch), (a 41, aS ta 256 gke), (a 36, aK ta 2 ru), (a 37, aK ta 2 le), (hb2, aS ta capb gb), (h0, oM a ar 0 tp osz lsz ns ct)] H := hP
          have hD : va_D A [(a 8, aZ ta 256 BOX), (a 9, aZ ta 256 UBOX), (a 16, aS ta 240 rk), (a 18, aS ta 16 ce), (a 22, aS ta 700 gm), (a 24, aS ta 16 mac), (a 25, aS ta 16 k1), (a 53, aS ta 16 b'), (a 55, aS ta 16 gco), (a 45, aS ta 32 gch), (a 41, aS ta 256 gke), (a 36, aK ta 2 ru), (a 37, aK ta 2 le), (hb2, aS ta capb gb), (h0, oM a ar 0 tp osz lsz ns ct)] := hD
          refine lv_iload (pc := 101) hx hb dX10_commandMac_101 (lv_at hl 1 rfl) ?_
          refine lv_if_ne (pc := 103) (tgt := 117) hx hb dX10_commandMac_103 (by decide) (fun c_4 => absurd (by decide) c_4) (fun _ => ?_)
          refine lv_aload_n (pc := 106) hx hb dX10_commandMac_106 rfl (lv_at hl 3 rfl) ?_
          refine lv_aload_n (pc := 107) hx hb dX10_commandMac_107 rfl (lv_at hl 3 rfl) ?_
          refine va_get (pc := 108) (D := D) (ci := 8) (v := .ref (a 53)) (C := RX10) (T := TX10) (N := 57) hx hb hts iu10 hown hK hP 14 rfl rfl 53 (by decide) (hts _ tw_1098) (fun _ h9 => h9) rfl dX10_commandMac_108 ?_
          refine lv_iconst (pc := 111) (v := nI 0) hx hb dX10_commandMac_111 (by decide +kernel) ?_
          refine lv_bipush (pc := 112) (v := nI 16) hx hb dX10_commandMac_112 (by decide +kernel) ?_
          refine cs_V (pc := 114) (idx := 121) (n := 3) (wr := [(a 8, aZ ta 256 BOX), (a 9, aZ ta 256 UBOX), (a 16, aS ta 240 rk), (a 18, aS ta 16 ce), (a 24, aS ta 16 mac), (a 25, aS ta 16 k1), (a 55, aS ta 16 gco), (a 45, aS ta 32 gch), (a 41, aS ta 256 gke), (a 36, aK ta 2 ru), (a 37, aK ta 2 le), (hb2, aS ta capb gb)]) (As := [.ref (a 53), .int (nI 0), .int (nI 16)]) (rest := []) (ci := 8) hx hb hml hown hts hGok hK hA hG hl.1 hP hD hS (ct_X10_addAll ll D ta hGok h0 a ar 0 tp osz lsz ns ct gm (a 53) 0 16 b' 16 (by first | assumption | omega | rfl | decide) (by first | assumption | omega | rfl | decide) (by first | assumption | omega | rfl | decide) H.size) tw_1306 tw_1303 tw_1305 tw_36 tw_75 hdX10_addAll rfl ⟨rfl, rfl, Nat.le_of_ble_eq_true rfl, Nat.le_of_ble_eq_true rfl, Nat.le_of_ble_eq_true rfl, Nat.le_of_ble_eq_true rfl⟩ rfl rfl (q0 := 14) rfl [14, 4, 7] [0, 1, 2, 3, 5, 6, 8, 9, 10, 11, 12, 13] rfl rfl (by decide) rfl (Nat.le_of_ble_eq_true rfl) dX10_commandMac_114 (fun u H locs hq hP hD hS => ?_)
          generalize u = gm1_114 at hq hP hD ⊢
          have hq : (qL gm1_114 (0 + 16) = qL gm 0 ++ seg b' 0 16) := hq
          have hL_114 := hq
          refine W.eq (g2 := F0 mm 117 ls []) rfl ?_
          have hP : va_P D vwCl [(a 8, aZ ta 256 BOX), (a 9, aZ ta 256 UBOX), (a 16, aS ta 240 rk), (a 18, aS ta 16 ce), (a 24, aS ta 16 mac), (a 25, aS ta 16 k1), (a 55, aS ta 16 gco), (a 45, aS ta 32 gch), (a 41, aS ta 256 gke), (a 36, aK ta 2 ru), (a 37, aK ta 2 le), (hb2, aS ta capb gb), (h0, oM a ar (0 + 16) tp osz lsz ns ct), (a 22, aS ta 700 gm1_114), (a 53, aS ta 16 b')] H := hP
          have hD : va_D A [(a 8, aZ ta 256 BOX), (a 9, aZ ta 256 UBOX), (a 16, aS ta 240 rk), (a 18, aS ta 16 ce), (a 24, aS ta 16 mac), (a 25, aS ta 16 k1), (a 55, aS ta 16 gco), (a 45, aS ta 32 gch), (a 41, aS ta 256 gke), (a 36, aK ta 2 ru), (a 37, aK ta 2 le), (hb2, aS ta capb gb), (h0, oM a ar (0 + 16) tp osz lsz ns ct), (a 22, aS ta 700 gm1_114), (a 53, aS ta 16 b')] := hD
          refine lv_aload_n (pc := 117) hx hb dX10_commandMac_117 rfl (lv_at hl 3 rfl) ?_
          refine lv_aload_n (pc := 118) hx hb dX10_commandMac_118 rfl (lv_at hl 5 rfl) ?_
          refine lv_iload_n (pc := 119) hx hb dX10_commandMac_119 rfl (lv_at hl 6 rfl) ?_
          refine q_bald (pc := 120) hx hb hK hP 11 2 rfl rfl (k := 0) (v := qs (gb 0)) rfl (by omega) (by omega) rfl dX10_commandMac_120 ?_
          refine lv_sipush (pc := 121) (v := nI 252) hx hb dX10_commandMac_121 (by decide +kernel) ?_
          refine lv_iand (pc := 124) hx hb dX10_commandMac_124 ?_
          refine lv_iconst (pc := 125) (v := nI 4) hx hb dX10_commandMac_125 (by decide +kernel) ?_
          refine lv_ior (pc := 126) hx hb dX10_commandMac_126 ?_
          refine cs_V (pc := 127) (idx := 87) (n := 1) (wr := [(a 8, aZ ta 256 BOX), (a 9, aZ ta 256 UBOX), (a 16, aS ta 240 rk), (a 18, aS ta 16 ce), (a 24, aS ta 16 mac), (a 25, aS ta 16 k1), (a 55, aS ta 16 gco), (a 45, aS ta 32 gch), (a 41, aS ta 256 gke), (a 36, aK ta 2 ru), (a 37, aK ta 2 le), (hb2, aS ta capb gb), (a 53, aS ta 16 b')]) (As := [.int (((qs (gb 0)) &&& (nI 252)) ||| (nI 4))]) (rest := []) (ci := 8) hx hb hml hown hts hGok hK hA hG hl.1 hP hD hS (ct_X10_add ll D ta hGok h0 a ar (0 + 16) tp osz lsz ns ct gm1_114 (((qs (gb 0)) &&& (nI 252)) ||| (nI 4)) (by first | assumption | omega | rfl | decide) H.size) tw_1310 tw_1307 tw_1309 tw_37 tw_75 hdX10_add rfl ⟨rfl, rfl, Nat.le_of_ble_eq_true rfl, Nat.le_of_ble_eq_true rfl, Nat.le_of_ble_eq_true rfl, Nat.le_of_ble_eq_true rfl⟩ rfl rfl (q0 := 12) rfl [12, 13] [0, 1, 2, 3, 4, 5, 6, 7, 8, 9, 10, 11, 14] rfl rfl (by decide) rfl (Nat.le_of_ble_eq_true rfl) dX10_commandMac_127 (fun u H locs hq hP hD hS => ?_)
          generalize u = gm1_127 at hq hP hD ⊢
          have hq : (qL gm1_127 ((0 + 16) + 1) = qL gm1_114 (0 + 16) ++ [qlo (((qs (gb 0)) &&& (nI 252)) ||| (nI 4))]) := hq
          have hL_127 := hq
          refine W.eq (g2 := F0 mm 130 ls []) rfl ?_
          have hP : va_P D vwCl [(a 8, aZ ta 256 BOX), (a 9, aZ ta 256 UBOX), (a 16, aS ta 240 rk), (a 18, aS ta 16 ce), (a 24, aS ta 16 mac), (a 25, aS ta 16 k1), (a 55, aS ta 16 gco), (a 45, aS ta 32 gch), (a 41, aS ta 256 gke), (a 36, aK ta 2 ru), (a 37, aK ta 2 le), (hb2, aS ta capb gb), (a 53, aS ta 16 b'), (h0, oM a ar ((0 + 16) + 1) tp osz lsz ns ct), (a 22, aS ta 700 gm1_127)] H := hP
          have hD : va_D A [(a 8, aZ ta 256 BOX), (a 9, aZ ta 256 UBOX), (a 16, aS ta 240 rk), (a 18, aS ta 16 ce), (a 24, aS ta 16 mac), (a 25, aS ta 16 k1), (a 55, aS ta 16 gco), (a 45, aS ta 32 gch), (a 41, aS ta 256 gke), (a 36, aK ta 2 ru), (a 37, aK ta 2 le), (hb2, aS ta capb gb), (a 53, aS ta 16 b'), (h0, oM a ar ((0 + 16) + 1) tp osz lsz ns ct), (a 22, aS ta 700 gm1_127)] := hD
          refine lv_aload_n (pc := 130) hx hb dX10_commandMac_130 rfl (lv_at hl 3 rfl) ?_
          refine lv_aload_n (pc := 131) hx hb dX10_commandMac_131 rfl (lv_at hl 5 rfl) ?_
          refine lv_iload_n (pc := 132) hx hb dX10_commandMac_132 rfl (lv_at hl 6 rfl) ?_
          refine lv_iconst (pc := 133) (v := nI 1) hx hb dX10_commandMac_133 (by decide +kernel) ?_
          refine lv_iadd (pc := 134) hx hb dX10_commandMac_134 ?_
          refine q_top (y := nI 1) (by decide +kernel) ?_
          refine lv_iconst (pc := 135) (v := nI 3) hx hb dX10_commandMac_135 (by decide +kernel) ?_
          refine cs_V (pc := 136) (idx := 121) (n := 3) (wr := [(a 8, aZ ta 256 BOX), (a 9, aZ ta 256 UBOX), (a 16, aS ta 240 rk), (a 18, aS ta 16 ce), (a 24, aS ta 16 mac), (a 25, aS ta 16 k1), (a 55, aS ta 16 gco), (a 45, aS ta 32 gch), (a 41, aS ta 256 gke), (a 36, aK ta 2 ru), (a 37, aK ta 2 le), (a 53, aS ta 16 b')]) (As := [.ref hb2, .int (nI 1), .int (nI 3)]) (rest := []) (ci := 8) hx hb hml hown hts hGok hK hA hG hl.1 hP hD hS (ct_X10_addAll ll D ta hGok h0 a ar ((0 + 16) + 1) tp osz lsz ns ct gm1_127 hb2 1 capb gb 3 (by first | assumption | omega | rfl | decide) (by first | assumption | omega | rfl | decide) (by first | assumption | omega | rfl | decide) H.size) tw_1306 tw_1303 tw_1305 tw_36 tw_75 hdX10_addAll rfl ⟨rfl, rfl, Nat.le_of_ble_eq_true rfl, Nat.le_of_ble_eq_true rfl, Nat.le_of_ble_eq_true rfl, Nat.le_of_ble_eq_true rfl⟩ rfl rfl (q0 := 13) rfl [13, 14, 11] [0, 1, 2, 3, 4, 5, 6, 7, 8, 9, 10, 12] rfl rfl (by decide) rfl (Nat.le_of_ble_eq_true rfl) dX10_commandMac_136 (fun u H locs hq hP hD hS => ?_)
          generalize u = gm1_136 at hq hP hD ⊢
          have hq : (qL gm1_136 (((0 + 16) + 1) + 3) = qL gm1_127 ((0 + 16) + 1) ++ seg gb 1 3) := hq
          have hL_136 := hq
          refine W.eq (g2 := F0 mm 139 ls []) rfl ?_
          have hP : va_P D vwCl [(a 8, aZ ta 256 BOX), (a 9, aZ ta 256 UBOX), (a 16, aS ta 240 rk), (a 18, aS ta 16 ce), (a 24, aS ta 16 mac), (a 25, aS ta 16 k1), (a 55, aS ta 16 gco), (a 45, aS ta 32 gch), (a 41, aS ta 256 gke), (a 36, aK ta 2 ru), (a 37, aK ta 2 le), (a 53, aS ta 16 b'), (h0, oM a ar (((0 + 16) + 1) + 3) tp osz lsz ns ct), (a 22, aS ta 700 gm1_136), (hb2, aS ta capb gb)] H := hP
          have hD : va_D A [(a 8, aZ ta 256 BOX), (a 9, aZ ta 256 UBOX), (a 16, aS ta 240 rk), (a 18, aS ta 16 ce), (a 24, aS ta 16 mac), (a 25, aS ta 16 k1), (a 55, aS ta 16 gco), (a 45, aS ta 32 gch), (a 41, aS ta 256 gke), (a 36, aK ta 2 ru), (a 37, aK ta 2 le), (a 53, aS ta 16 b'), (h0, oM a ar (((0 + 16) + 1) + 3) tp osz lsz ns ct), (a 22, aS ta 700 gm1_136), (hb2, aS ta capb gb)] := hD
          refine lv_aload_n (pc := 139) hx hb dX10_commandMac_139 rfl (lv_at hl 3 rfl) ?_
          refine lv_iload (pc := 140) hx hb dX10_commandMac_140 (lv_at hl 9 rfl) ?_
          refine lv_bipush (pc := 142) (v := nI 8) hx hb dX10_commandMac_142 (by decide +kernel) ?_
          refine lv_iadd (pc := 144) hx hb dX10_commandMac_144 ?_
          refine q_top (y := nI (n8 + 8)) (nI_add n8 8) ?_
          refine cs_V (pc := 145) (idx := 353) (n := 1) (wr := [(a 8, aZ ta 256 BOX), (a 9, aZ ta 256 UBOX), (a 16, aS ta 240 rk), (a 18, aS ta 16 ce), (a 24, aS ta 16 mac), (a 25, aS ta 16 k1), (a 55, aS ta 16 gco), (a 45, aS ta 32 gch), (a 41, aS ta 256 gke), (a 36, aK ta 2 ru), (a 37, aK ta 2 le), (a 53, aS ta 16 b'), (hb2, aS ta capb gb)]) (As := [.int (nI (n8 + 8))]) (rest := []) (ci := 8) hx hb hml hown hts hGok hK hA hG hl.1 hP hD hS (ct_X10_addLength ll D ta hGok h0 a ar (((0 + 16) + 1) + 3) tp osz lsz ns ct gm1_136 (n8 + 8) (by first | assumption | omega | rfl | decide) (by first | assumption | omega | rfl | decide) H.size) tw_1372 tw_1369 tw_1371 tw_50 tw_75 hdX10_addLength rfl ⟨rfl, rfl, Nat.le_of_ble_eq_true rfl, Nat.le_of_ble_eq_true rfl, Nat.le_of_ble_eq_true rfl, Nat.le_of_ble_eq_true rfl⟩ rfl rfl (q0 := 12) rfl [12, 13] [0, 1, 2, 3, 4, 5, 6, 7, 8, 9, 10, 11, 14] rfl rfl (by decide) rfl (Nat.le_of_ble_eq_true rfl) dX10_commandMac_145 (fun u H locs hq hP hD hS => ?_)
          generalize u = gm1_145 at hq hP hD ⊢
          have hq : (qL gm1_145 ((((0 + 16) + 1) + 3) + 1) = qL gm1_136 (((0 + 16) + 1) + 3) ++ [BitVec.ofNat 8 (n8 + 8)]) := hq
          have hL_145 := hq
          refine W.eq (g2 := F0 mm 148 ls []) rfl ?_
          have hP : va_P D vwCl [(a 8, aZ ta 256 BOX), (a 9, aZ ta 256 UBOX), (a 16, aS ta 240 rk), (a 18, aS ta 16 ce), (a 24, aS ta 16 mac), (a 25, aS ta 16 k1), (a 55, aS ta 16 gco), (a 45, aS ta 32 gch), (a 41, aS ta 256 gke), (a 36, aK ta 2 ru), (a 37, aK ta 2 le), (a 53, aS ta 16 b'), (hb2, aS ta capb gb), (h0, oM a ar ((((0 + 16) + 1) + 3) + 1) tp osz lsz ns ct), (a 22, aS ta 700 gm1_145)] H := hP
          have hD : va_D A [(a 8, aZ ta 256 BOX), (a 9, aZ ta 256 UBOX), (a 16, aS ta 240 rk), (a 18, aS ta 16 ce), (a 24, aS ta 16 mac), (a 25, aS ta 16 k1), (a 55, aS ta 16 gco), (a 45, aS ta 32 gch), (a 41, aS ta 256 gke), (a 36, aK ta 2 ru), (a 37, aK ta 2 le), (a 53, aS ta 16 b'), (hb2, aS ta capb gb), (h0, oM a ar ((((0 + 16) + 1) + 3) + 1) tp osz lsz ns ct), (a 22, aS ta 700 gm1_145)] := hD
          refine lv_aload_n (pc := 148) hx hb dX10_commandMac_148 rfl (lv_at hl 3 rfl) ?_
          refine lv_aload (pc := 149) hx hb dX10_commandMac_149 (lv_at hl 7 rfl) ?_
          refine lv_iload (pc := 151) hx hb dX10_commandMac_151 (lv_at hl 8 rfl) ?_
          refine lv_iload (pc := 153) hx hb dX10_commandMac_153 (lv_at hl 9 rfl) ?_
          refine cs_V (pc := 155) (idx := 121) (n := 3) (wr := [(a 8, aZ ta 256 BOX), (a 9, aZ ta 256 UBOX), (a 16, aS ta 240 rk), (a 18, aS ta 16 ce), (a 24, aS ta 16 mac), (a 25, aS ta 16 k1), (a 55, aS ta 16 gco), (a 45, aS ta 32 gch), (a 41, aS ta 256 gke), (a 36, aK ta 2 ru), (a 37, aK ta 2 le), (a 53, aS ta 16 b')]) (As := [.ref hb2, .int (nI f0), .int (nI n8)]) (rest := []) (ci := 8) hx hb hml hown hts hGok hK hA hG hl.1 hP hD hS (ct_X10_addAll ll D ta hGok h0 a ar ((((0 + 16) + 1) + 3) + 1) tp osz lsz ns ct gm1_145 hb2 f0 capb gb n8 (by first | assumption | omega | rfl | decide) (by first | assumption | omega | rfl | decide) (by first | assumption | omega | rfl | decide) H.size) tw_1306 tw_1303 tw_1305 tw_36 tw_75 hdX10_addAll rfl ⟨rfl, rfl, Nat.le_of_ble_eq_true rfl, Nat.le_of_ble_eq_true rfl, Nat.le_of_ble_eq_true rfl, Nat.le_of_ble_eq_true rfl⟩ rfl rfl (q0 := 13) rfl [13, 14, 12] [0, 1, 2, 3, 4, 5, 6, 7, 8, 9, 10, 11] rfl rfl (by decide) rfl (Nat.le_of_ble_eq_true rfl) dX10_commandMac_155 (fun u H locs hq hP hD hS => ?_)
          generalize u = gm1_155 at hq hP hD ⊢
          have hq : (qL gm1_155 (((((0 + 16) + 1) + 3) + 1) + n8) = qL gm1_145 ((((0 + 16) + 1) + 3) + 1) ++ seg gb f0 n8) := hq
          have hL_155 := hq
          refine W.eq (g2 := F0 mm 158 ls []) rfl ?_
          have hP : va_P D vwCl [(a 8, aZ ta 256 BOX), (a 9, aZ ta 256 UBOX), (a 16, aS ta 240 rk), (a 18, aS ta 16 ce), (a 24, aS ta 16 mac), (a 25, aS ta 16 k1), (a 55, aS ta 16 gco), (a 45, aS ta 32 gch), (a 41, aS ta 256 gke), (a 36, aK ta 2 ru), (a 37, aK ta 2 le), (a 53, aS ta 16 b'), (h0, oM a ar (((((0 + 16) + 1) + 3) + 1) + n8) tp osz lsz ns ct), (a 22, aS ta 700 gm1_155), (hb2, aS ta capb gb)] H := hP
          have hD : va_D A [(a 8, aZ ta 256 BOX), (a 9, aZ ta 256 UBOX), (a 16, aS ta 240 rk), (a 18, aS ta 16 ce), (a 24, aS ta 16 mac), (a 25, aS ta 16 k1), (a 55, aS ta 16 gco), (a 45, aS ta 32 gch), (a 41, aS ta 256 gke), (a 36, aK ta 2 ru), (a 37, aK ta 2 le), (a 53, aS ta 16 b'), (h0, oM a ar (((((0 + 16) + 1) + 3) + 1) + n8) tp osz lsz ns ct), (a 22, aS ta 700 gm1_155), (hb2, aS ta capb gb)] := hD
          refine lv_iload (pc := 158) hx hb dX10_commandMac_158 (lv_at hl 1 rfl) ?_
          refine lv_if_eq (pc := 160) (tgt := 184) hx hb dX10_commandMac_160 (by decide) (fun _ => ?_) (fun c_5 => absurd (by decide) c_5)
          refine lv_aload_n (pc := 184) hx hb dX10_commandMac_184 rfl (lv_at hl 3 rfl) ?_
          refine lv_aload_n (pc := 185) hx hb dX10_commandMac_185 rfl (lv_at hl 3 rfl) ?_
          refine va_get (pc := 186) (D := D) (ci := 8) (v := .ref (a 41)) (C := RX10) (T := TX10) (N := 57) hx hb hts iu10 hown hK hP 12 rfl rfl 41 (by decide) (hts _ tw_1086) (fun _ h9 => h9) rfl dX10_commandMac_186 ?_
          refine lv_iload (pc := 189) hx hb dX10_commandMac_189 (lv_at hl 2 rfl) ?_
          refine lv_bipush (pc := 191) (v := nI 32) hx hb dX10_commandMac_191 (by decide +kernel) ?_
          refine lv_iadd (pc := 193) hx hb dX10_commandMac_193 ?_
          refine q_top (y := nI (128 * sd + 32)) (nI_add (128 * sd) 32) ?_
          refine lv_aload_n (pc := 194) hx hb dX10_commandMac_194 rfl (lv_at hl 3 rfl) ?_
          refine va_get (pc := 195) (D := D) (ci := 8) (v := .ref (a 37)) (C := RX10) (T := TX10) (N := 57) hx hb hts iu10 hown hK hP 12 rfl rfl 37 (by decide) (hts _ tw_1082) (fun _ h9 => h9) rfl dX10_commandMac_195 ?_
          refine lv_iload_n (pc := 198) hx hb dX10_commandMac_198 rfl (lv_at hl 4 rfl) ?_
          refine q_iald (pc := 199) hx hb hK hP 10 0 rfl rfl (k := sd) (v := nI (le sd)) rfl (by omega) (by omega) rfl dX10_commandMac_199 ?_
          refine cs_V (pc := 200) (idx := 124) (n := 3) (wr := [(a 55, aS ta 16 gco), (a 45, aS ta 32 gch), (a 36, aK ta 2 ru), (a 37, aK ta 2 le), (a 53, aS ta 16 b'), (hb2, aS ta capb gb)]) (As := [.ref (a 41), .int (nI (128 * sd + 32)), .int (nI (le sd))]) (rest := []) (ci := 8) hx hb hml hown hts hGok hK hA hG hl.1 hP hD hS (ct_X10_cmac ll D ta hGok h0 a ar (((((0 + 16) + 1) + 3) + 1) + n8) tp osz lsz ns ct gm1_155 mac k1 rk ce (a 41) (128 * sd + 32) 256 gke (le sd) (by first | assumption | omega | rfl | decide) (by first | assumption | omega | rfl | decide) (by first | assumption | omega | rfl | decide) (by first | assumption | omega | rfl | decide) H.size) tw_1334 tw_1331 tw_1333 tw_43 tw_75 hdX10_cmac rfl ⟨rfl, rfl, Nat.le_of_ble_eq_true rfl, Nat.le_of_ble_eq_true rfl, Nat.le_of_ble_eq_true rfl, Nat.le_of_ble_eq_true rfl⟩ rfl rfl (q0 := 12) rfl [12, 0, 1, 2, 3, 13, 4, 5, 8] [6, 7, 9, 10, 11, 14] rfl rfl (by decide) rfl (Nat.le_of_ble_eq_true rfl) dX10_commandMac_200 (fun u H locs hq hP hD hS => ?_)
          obtain ⟨mn1_200, gm1_200, mac1_200, k11_200, rk1_200, ce1_200⟩ := u
          have hq : (seg mac1_200 0 16 = cmacL (seg gke (128 * sd + 32) (le sd)) (qL gm1_155 (((((0 + 16) + 1) + 3) + 1) + n8))) := hq
          have hL_200 := hq
          refine W.eq (g2 := F0 mm 203 ls []) rfl ?_
          have hP : va_P D vwCl [(a 55, aS ta 16 gco), (a 45, aS ta 32 gch), (a 36, aK ta 2 ru), (a 37, aK ta 2 le), (a 53, aS ta 16 b'), (hb2, aS ta capb gb), (h0, oM a ((le sd) / 4 + 6) mn1_200 tp osz lsz ns ct), (a 8, aZ ta 256 BOX), (a 9, aZ ta 256 UBOX), (a 16, aS ta 240 rk1_200), (a 18, aS ta 16 ce1_200), (a 22, aS ta 700 gm1_200), (a 24, aS ta 16 mac1_200), (a 25, aS ta 16 k11_200), (a 41, aS ta 256 gke)] H := hP
          have hD : va_D A [(a 55, aS ta 16 gco), (a 45, aS ta 32 gch), (a 36, aK ta 2 ru), (a 37, aK ta 2 le), (a 53, aS ta 16 b'), (hb2, aS ta capb gb), (h0, oM a ((le sd) / 4 + 6) mn1_200 tp osz lsz ns ct), (a 8, aZ ta 256 BOX), (a 9, aZ ta 256 UBOX), (a 16, aS ta 240 rk1_200), (a 18, aS ta 16 ce1_200), (a 22, aS ta 700 gm1_200), (a 24, aS ta 16 mac1_200), (a 25, aS ta 16 k11_200), (a 41, aS ta 256 gke)] := hD
          refine lv_iconst (pc := 203) (v := nI 0) hx hb dX10_commandMac_203 (by decide +kernel) ?_
          refine lv_istore (pc := 204) (lv' := [(10, .int (nI 0)), (9, .int (nI 0)), (8, .int (nI (128 * sd))), (0, .ref h0), (1, .int (nI sd)), (2, .ref hb2), (3, .int (nI 0)), (4, .ref hb2), (5, .int (nI f0)), (6, .int (nI n8)), (7, .int (nI 0))]) hx hb dX10_commandMac_204 hl (by decide) rfl (fun ls hl => ?_)
          have LP206 : ∀ (nn206 : Nat) (k2x : Nat) (c' : Nat → BitVec 8), (k2x ≤ 16) → (qSeg c' gco 0 k2x mac1_200) → (16 - k2x < nn206) → ∀ (H : Heap) (locs : List Loc), va_P D vwCl [(a 55, aS ta 16 c'), (a 45, aS ta 32 gch), (a 36, aK ta 2 ru), (a 37, aK ta 2 le), (a 53, aS ta 16 b'), (hb2, aS ta capb gb), (h0, oM a ((le sd) / 4 + 6) mn1_200 tp osz lsz ns ct), (a 8, aZ ta 256 BOX), (a 9, aZ ta 256 UBOX), (a 16, aS ta 240 rk1_200), (a 18, aS ta 16 ce1_200), (a 22, aS ta 700 gm1_200), (a 24, aS ta 16 mac1_200), (a 25, aS ta 16 k11_200), (a 41, aS ta 256 gke)] H → va_D A [(a 55, aS ta 16 c'), (a 45, aS ta 32 gch), (a 36, aK ta 2 ru), (a 37, aK ta 2 le), (a 53, aS ta 16 b'), (hb2, aS ta capb gb), (h0, oM a ((le sd) / 4 + 6) mn1_200 tp osz lsz ns ct), (a 8, aZ ta 256 BOX), (a 9, aZ ta 256 UBOX), (a 16, aS ta 240 rk1_200), (a 18, aS ta 16 ce1_200), (a 22, aS ta 700 gm1_200), (a 24, aS ta 16 mac1_200), (a 25, aS ta 16 k11_200), (a 41, aS ta 256 gke)] → va_S A ss.heap H locs → ∀ ls : Array Slot, lv_has ls 11 [(10, .int (nI k2x)), (9, .int (nI 0)), (8, .int (nI (128 * sd))), (0, .ref h0), (1, .int (nI sd)), (2, .ref hb2), (3, .int (nI 0)), (4, .ref hb2), (5, .int (nI f0)), (6, .int (nI n8)), (7, .int (nI 0))] → W pp ll ee ({ frames := 5, cells := 0, slots := 0, locals := 124 } : Room) ss mm (([.ref h0, .int (nI sd), .ref hb2, .int (nI 0), .ref hb2, .int (nI f0), .int (nI n8), .int (nI 0)] : List Value).toArray) below meth kc H locs 0 0 Q (F0 mm 206 ls []) := by
            intro nn206
            induction nn206 with
            | zero => intro k2x c' hkk2 hs2 hmu; exact absurd hmu (Nat.not_lt_zero _)
            | succ nn206 ih206 =>
              intro k2x c' hkk2 hs2 hmu206 H locs hP hD hS ls hl
              refine lv_iload (pc := 206) hx hb dX10_commandMac_206 (lv_at hl 0 rfl) ?_
              refine lv_bipush (pc := 208) (v := nI 16) hx hb dX10_commandMac_208 (by decide +kernel) ?_
              refine lv_icmp_ge (pc := 210) (tgt := 249) hx hb dX10_commandMac_210 (by decide) (fun c_6 => ?_) (fun c_6 => ?_)
              · skip
                rw [nI_leI (by omega) (by omega)] at c_6
                refine lv_iconst (pc := 249) (v := nI 0) hx hb dX10_commandMac_249 (by decide +kernel) ?_
                refine lv_istore (pc := 250) (lv' := [(10, .int (nI 0)), (9, .int (nI 0)), (8, .int (nI (128 * sd))), (0, .ref h0), (1, .int (nI sd)), (2, .ref hb2), (3, .int (nI 0)), (4, .ref hb2), (5, .int (nI f0)), (6, .int (nI n8)), (7, .int (nI 0))]) hx hb dX10_commandMac_250 hl (by decide) rfl (fun ls hl => ?_)
                have LP252 : ∀ (nn252 : Nat) (k3x : Nat) (d' : Nat → BitVec 8), (k3x ≤ 16) → (qSeg d' gch (16 * sd) k3x c') → (16 - k3x < nn252) → ∀ (H : Heap) (locs : List Loc), va_P D vwCl [(a 55, aS ta 16 c'), (a 45, aS ta 32 d'), (a 36, aK ta 2 ru), (a 37, aK ta 2 le), (a 53, aS ta 16 b'), (hb2, aS ta capb gb), (h0, oM a ((le sd) / 4 + 6) mn1_200 tp osz lsz ns ct), (a 8, aZ ta 256 BOX), (a 9, aZ ta 256 UBOX), (a 16, aS ta 240 rk1_200), (a 18, aS ta 16 ce1_200), (a 22, aS ta 700 gm1_200), (a 24, aS ta 16 mac1_200), (a 25, aS ta 16 k11_200), (a 41, aS ta 256 gke)] H → va_D A [(a 55, aS ta 16 c'), (a 45, aS ta 32 d'), (a 36, aK ta 2 ru), (a 37, aK ta 2 le), (a 53, aS ta 16 b'), (hb2, aS ta capb gb), (h0, oM a ((le sd) / 4 + 6) mn1_200 tp osz lsz ns ct), (a 8, aZ ta 256 BOX), (a 9, aZ ta 256 UBOX), (a 16, aS ta 240 rk1_200), (a 18, aS ta 16 ce1_200), (a 22, aS ta 700 gm1_200), (a 24, aS ta 16 mac1_200), (a 25, aS ta 16 k11_200), (a 41, aS ta 256 gke)] → va_S A ss.heap H locs → ∀ ls : Array Slot, lv_has ls 11 [(10, .int (nI k3x)), (9, .int (nI 0)), (8, .int (nI (128 * sd))), (0, .ref h0), (1, .int (nI sd)), (2, .ref hb2), (3, .int (nI 0)), (4, .ref hb2), (5, .int (nI f0)), (6, .int (nI n8)), (7, .int (nI 0))] → W pp ll ee ({ frames := 5, cells := 0, slots := 0, locals := 124 } : Room) ss mm (([.ref h0, .int (nI sd), .ref hb2, .int (nI 0), .ref hb2, .int (nI f0), .int (nI n8), .int (nI 0)] : List Value).toArray) below meth kc H locs 0 0 Q (F0 mm 252 ls []) := by
                  intro nn252
                  induction nn252 with
                  | zero => intro k3x d' hkk3 hs3 hmu; exact absurd hmu (Nat.not_lt_zero _)
                  | succ nn252 ih252 =>
                    intro k3x d' hkk3 hs3 hmu252 H locs hP hD hS ls hl
                    refine lv_iload (pc := 252) hx hb dX10_commandMac_252 (lv_at hl 0 rfl) ?_
                    refine lv_bipush (pc := 254) (v := nI 16) hx hb dX10_commandMac_254 (by decide +kernel) ?_
                    refine lv_icmp_ge (pc := 256) (tgt := 284) hx hb dX10_commandMac_256 (by decide) (fun c_7 => ?_) (fun c_7 => ?_)
                    · skip
                      rw [nI_leI (by omega) (by omega)] at c_7
                      have hq_8 : (seg c' 0 16 = cmacL (seg gke (128 * sd + 32) (le sd)) ((seg gch (16 * sd) 16) ++ (headL (seg gb 0 4) n8 ++ seg gb f0 n8))) ∧ (seg d' (16 * sd) 16 = seg c' 0 16) ∧ (∀ j, (j < 16 * sd ∨ 16 * sd + 16 ≤ j) → d' j = gch j) := by
                        have hT : qL gm1_155 (0 + 16 + 1 + 3 + 1 + n8) = (seg gch (16 * sd) 16) ++ (headL (seg gb 0 4) n8 ++ seg gb f0 n8) := by
                          have e := head_ref (g := gb) (n := n8) (gm := gb) rfl
                          rw [hL_155, hL_145, hL_136, hL_127, hL_114, qL_0, List.nil_append, ← e, seg_copy hs1 (show k1x = 16 by omega)]
                          simp only [List.append_assoc]
                        refine ⟨?_, ?_, fun j hj => hs3.2 j (by omega)⟩
                        · rw [seg_copy0 hs2 (by omega), ← seg_0, hL_200, hT]
                        · rw [seg_copy0 hs3 (by omega), seg_0]
                      exact hret (⟨(rk1_200), (ce1_200), (gm1_200), (mac1_200), (k11_200), (b'), (c'), (d'), (mn1_200), ((le sd) / 4 + 6)⟩ : (Nat → BitVec 8) × (Nat → BitVec 8) × (Nat → BitVec 8) × (Nat → BitVec 8) × (Nat → BitVec 8) × (Nat → BitVec 8) × (Nat → BitVec 8) × (Nat → BitVec 8) × Nat × Nat) _ _ _ _ dX10_commandMac_284 hq_8 (hP.sub [6, 7, 8, 9, 10, 11, 12, 13, 4, 0, 1, 14, 2, 3, 5] rfl) (hD.sub [6, 7, 8, 9, 10, 11, 12, 13, 4, 0, 1, 14, 2, 3, 5] (by decide) rfl) hS
                    · skip
                      rw [nI_leI (by omega) (by omega)] at c_7
                      refine lv_aload_n (pc := 259) hx hb dX10_commandMac_259 rfl (lv_at hl 3 rfl) ?_
                      refine va_get (pc := 260) (D := D) (ci := 8) (v := .ref (a 45)) (C := RX10) (T := TX10) (N := 57) hx hb hts iu10 hown hK hP 6 rfl rfl 45 (by decide) (hts _ tw_1090) (fun _ h9 => h9) rfl dX10_commandMac_260 ?_
                      refine lv_bipush (pc := 263) (v := nI 16) hx hb dX10_commandMac_263 (by decide +kernel) ?_
                      refine lv_iload_n (pc := 265) hx hb dX10_commandMac_265 rfl (lv_at hl 4 rfl) ?_
                      refine lv_imul (pc := 266) hx hb dX10_commandMac_266 ?_
                      refine q_top (y := nI (16 * sd)) (pk_mul 16 sd) ?_
                      refine lv_iload (pc := 267) hx hb dX10_commandMac_267 (lv_at hl 0 rfl) ?_
                      refine lv_iadd (pc := 269) hx hb dX10_commandMac_269 ?_
                      refine q_top (y := nI (16 * sd + k3x)) (nI_add (16 * sd) k3x) ?_
                      refine lv_aload_n (pc := 270) hx hb dX10_commandMac_270 rfl (lv_at hl 3 rfl) ?_
                      refine va_get (pc := 271) (D := D) (ci := 8) (v := .ref (a 55)) (C := RX10) (T := TX10) (N := 57) hx hb hts iu10 hown hK hP 6 rfl rfl 55 (by decide) (hts _ tw_1100) (fun _ h9 => h9) rfl dX10_commandMac_271 ?_
                      refine lv_iload (pc := 274) hx hb dX10_commandMac_274 (lv_at hl 0 rfl) ?_
                      refine q_bald (pc := 276) hx hb hK hP 0 2 rfl rfl (k := k3x) (v := qs (c' k3x)) rfl (by omega) (by omega) rfl dX10_commandMac_276 ?_
                      refine q_bastS (pc := 277) hx hb hK hP hD hS 1 2 rfl rfl (k := 16 * sd + k3x) rfl (by omega) (by omega) (b := c' k3x) (qlo_qs _) dX10_commandMac_277 (fun H locs hP hD hS => ?_)
                      have hP : va_P D vwCl [(a 55, aS ta 16 c'), (a 45, aS ta 32 (qU d' (16 * sd + k3x) (c' k3x))), (a 36, aK ta 2 ru), (a 37, aK ta 2 le), (a 53, aS ta 16 b'), (hb2, aS ta capb gb), (h0, oM a ((le sd) / 4 + 6) mn1_200 tp osz lsz ns ct), (a 8, aZ ta 256 BOX), (a 9, aZ ta 256 UBOX), (a 16, aS ta 240 rk1_200), (a 18, aS ta 16 ce1_200), (a 22, aS ta 700 gm1_200), (a 24, aS ta 16 mac1_200), (a 25, aS ta 16 k11_200), (a 41, aS ta 256 gke)] H := hP
                      have hD : va_D A [(a 55, aS ta 16 c'), (a 45, aS ta 32 (qU d' (16 * sd + k3x) (c' k3x))), (a 36, aK ta 2 ru), (a 37, aK ta 2 le), (a 53, aS ta 16 b'), (hb2, aS ta capb gb), (h0, oM a ((le sd) / 4 + 6) mn1_200 tp osz lsz ns ct), (a 8, aZ ta 256 BOX), (a 9, aZ ta 256 UBOX), (a 16, aS ta 240 rk1_200), (a 18, aS ta 16 ce1_200), (a 22, aS ta 700 gm1_200), (a 24, aS ta 16 mac1_200), (a 25, aS ta 16 k11_200), (a 41, aS ta 256 gke)] := hD
                      refine lv_iinc (pc := 278) (v := nI (k3x + 1)) (lv' := [(10, .int (nI (k3x + 1))), (9, .int (nI 0)), (8, .int (nI (128 * sd))), (0, .ref h0), (1, .int (nI sd)), (2, .ref hb2), (3, .int (nI 0)), (4, .ref hb2), (5, .int (nI f0)), (6, .int (nI n8)), (7, .int (nI 0))]) hx hb dX10_commandMac_278 hl (k := 0) rfl (by first | exact nI_add k3x 1 | rfl) (by decide) rfl (fun ls hl => ?_)
                      refine lv_goto (pc := 281) (tgt := 252) hx hb dX10_commandMac_281 (by decide) ?_
                      exact ih252 (k3x + 1) (qU d' (16 * sd + k3x) (c' k3x)) (by omega) (qSeg_s hs3 (by omega) (by first | rfl | (simp; done))) (by omega) _ _ (hP.sub [0, 1, 2, 3, 4, 5, 6, 7, 8, 9, 10, 11, 12, 13, 14] rfl) (hD.sub [0, 1, 2, 3, 4, 5, 6, 7, 8, 9, 10, 11, 12, 13, 14] (by decide) rfl) hS ls (lv_sub hl [0, 1, 2, 3, 4, 5, 6, 7, 8, 9, 10] rfl)
                exact LP252 _ 0 gch (by omega) (qSeg_0) (Nat.lt_succ_self _) _ _ (hP.sub [0, 1, 2, 3, 4, 5, 6, 7, 8, 9, 10, 11, 12, 13, 14] rfl) (hD.sub [0, 1, 2, 3, 4, 5, 6, 7, 8, 9, 10, 11, 12, 13, 14] (by decide) rfl) hS ls (lv_sub hl [0, 1, 2, 3, 4, 5, 6, 7, 8, 9, 10] rfl)
              · skip
                rw [nI_leI (by omega) (by omega)] at c_6
                refine lv_aload_n (pc := 213) hx hb dX10_commandMac_213 rfl (lv_at hl 3 rfl) ?_
                refine va_get (pc := 214) (D := D) (ci := 8) (v := .ref (a 55)) (C := RX10) (T := TX10) (N := 57) hx hb hts iu10 hown hK hP 6 rfl rfl 55 (by decide) (hts _ tw_1100) (fun _ h9 => h9) rfl dX10_commandMac_214 ?_
                refine lv_iload (pc := 217) hx hb dX10_commandMac_217 (lv_at hl 0 rfl) ?_
                refine lv_iload (pc := 219) hx hb dX10_commandMac_219 (lv_at hl 0 rfl) ?_
                refine lv_bipush (pc := 221) (v := nI 8) hx hb dX10_commandMac_221 (by decide +kernel) ?_
                refine lv_icmp_lt (pc := 223) (tgt := 231) hx hb dX10_commandMac_223 (by decide) (fun c_9 => ?_) (fun c_9 => ?_)
                · skip
                  rw [nI_ltI (by omega) (by omega)] at c_9
                  refine lv_aload_n (pc := 231) hx hb dX10_commandMac_231 rfl (lv_at hl 3 rfl) ?_
                  refine va_get (pc := 232) (D := D) (ci := 8) (v := .ref (a 24)) (C := RX10) (T := TX10) (N := 57) hx hb hts iu10 hown hK hP 6 rfl rfl 24 (by decide) (hts _ tw_1069) (fun _ h9 => h9) rfl dX10_commandMac_232 ?_
                  refine lv_iload (pc := 235) hx hb dX10_commandMac_235 (lv_at hl 0 rfl) ?_
                  refine q_bald (pc := 237) hx hb hK hP 12 2 rfl rfl (k := k2x) (v := qs (mac1_200 k2x)) rfl (by omega) (by omega) rfl dX10_commandMac_237 ?_
                  refine lv_goto (pc := 238) (tgt := 242) hx hb dX10_commandMac_238 (by decide) ?_
                  refine q_bastS (pc := 242) hx hb hK hP hD hS 0 2 rfl rfl (k := k2x) rfl (by omega) (by omega) (b := mac1_200 k2x) (qlo_qs _) dX10_commandMac_242 (fun H locs hP hD hS => ?_)
                  have hP : va_P D vwCl [(a 55, aS ta 16 (qU c' k2x (mac1_200 k2x))), (a 45, aS ta 32 gch), (a 36, aK ta 2 ru), (a 37, aK ta 2 le), (a 53, aS ta 16 b'), (hb2, aS ta capb gb), (h0, oM a ((le sd) / 4 + 6) mn1_200 tp osz lsz ns ct), (a 8, aZ ta 256 BOX), (a 9, aZ ta 256 UBOX), (a 16, aS ta 240 rk1_200), (a 18, aS ta 16 ce1_200), (a 22, aS ta 700 gm1_200), (a 24, aS ta 16 mac1_200), (a 25, aS ta 16 k11_200), (a 41, aS ta 256 gke)] H := hP
                  have hD : va_D A [(a 55, aS ta 16 (qU c' k2x (mac1_200 k2x))), (a 45, aS ta 32 gch), (a 36, aK ta 2 ru), (a 37, aK ta 2 le), (a 53, aS ta 16 b'), (hb2, aS ta capb gb), (h0, oM a ((le sd) / 4 + 6) mn1_200 tp osz lsz ns ct), (a 8, aZ ta 256 BOX), (a 9, aZ ta 256 UBOX), (a 16, aS ta 240 rk1_200), (a 18, aS ta 16 ce1_200), (a 22, aS ta 700 gm1_200), (a 24, aS ta 16 mac1_200), (a 25, aS ta 16 k11_200), (a 41, aS ta 256 gke)] := hD
                  refine lv_iinc (pc := 243) (v := nI (k2x + 1)) (lv' := [(10, .int (nI (k2x + 1))), (9, .int (nI 0)), (8, .int (nI (128 * sd))), (0, .ref h0), (1, .int (nI sd)), (2, .ref hb2), (3, .int (nI 0)), (4, .ref hb2), (5, .int (nI f0)), (6, .int (nI n8)), (7, .int (nI 0))]) hx hb dX10_commandMac_243 hl (k := 0) rfl (by first | exact nI_add k2x 1 | rfl) (by decide) rfl (fun ls hl => ?_)
                  refine lv_goto (pc := 246) (tgt := 206) hx hb dX10_commandMac_246 (by decide) ?_
                  exact ih206 (k2x + 1) (qU c' k2x (mac1_200 k2x)) (by omega) (qSeg_s hs2 (by omega) (rfl)) (by omega) _ _ (hP.sub [0, 1, 2, 3, 4, 5, 6, 7, 8, 9, 10, 11, 12, 13, 14] rfl) (hD.sub [0, 1, 2, 3, 4, 5, 6, 7, 8, 9, 10, 11, 12, 13, 14] (by decide) rfl) hS ls (lv_sub hl [0, 1, 2, 3, 4, 5, 6, 7, 8, 9, 10] rfl)
                · skip
                  rw [nI_ltI (by omega) (by omega)] at c_9
                  refine lv_iload (pc := 226) hx hb dX10_commandMac_226 (lv_at hl 1 rfl) ?_
                  refine lv_if_ne (pc := 228) (tgt := 241) hx hb dX10_commandMac_228 (by decide) (fun c_10 => absurd (by decide) c_10) (fun _ => ?_)
                  refine lv_aload_n (pc := 231) hx hb dX10_commandMac_231 rfl (lv_at hl 3 rfl) ?_
                  refine va_get (pc := 232) (D := D) (ci := 8) (v := .ref (a 24)) (C := RX10) (T := TX10) (N := 57) hx hb hts iu10 hown hK hP 6 rfl rfl 24 (by decide) (hts _ tw_1069) (fun _ h9 => h9) rfl dX10_commandMac_232 ?_
                  refine lv_iload (pc := 235) hx hb dX10_commandMac_235 (lv_at hl 0 rfl) ?_
                  refine q_bald (pc := 237) hx hb hK hP 12 2 rfl rfl (k := k2x) (v := qs (mac1_200 k2x)) rfl (by omega) (by omega) rfl dX10_commandMac_237 ?_
                  refine lv_goto (pc := 238) (tgt := 242) hx hb dX10_commandMac_238 (by decide) ?_
                  refine q_bastS (pc := 242) hx hb hK hP hD hS 0 2 rfl rfl (k := k2x) rfl (by omega) (by omega) (b := mac1_200 k2x) (qlo_qs _) dX10_commandMac_242 (fun H locs hP hD hS => ?_)
                  have hP : va_P D vwCl [(a 55, aS ta 16 (qU c' k2x (mac1_200 k2x))), (a 45, aS ta 32 gch), (a 36, aK ta 2 ru), (a 37, aK ta 2 le), (a 53, aS ta 16 b'), (hb2, aS ta capb gb), (h0, oM a ((le sd) / 4 + 6) mn1_200 tp osz lsz ns ct), (a 8, aZ ta 256 BOX), (a 9, aZ ta 256 UBOX), (a 16, aS ta 240 rk1_200), (a 18, aS ta 16 ce1_200), (a 22, aS ta 700 gm1_200), (a 24, aS ta 16 mac1_200), (a 25, aS ta 16 k11_200), (a 41, aS ta 256 gke)] H := hP
                  have hD : va_D A [(a 55, aS ta 16 (qU c' k2x (mac1_200 k2x))), (a 45, aS ta 32 gch), (a 36, aK ta 2 ru), (a 37, aK ta 2 le), (a 53, aS ta 16 b'), (hb2, aS ta capb gb), (h0, oM a ((le sd) / 4 + 6) mn1_200 tp osz lsz ns ct), (a 8, aZ ta 256 BOX), (a 9, aZ ta 256 UBOX), (a 16, aS ta 240 rk1_200), (a 18, aS ta 16 ce1_200), (a 22, aS ta 700 gm1_200), (a 24, aS ta 16 mac1_200), (a 25, aS ta 16 k11_200), (a 41, aS ta 256 gke)] := hD
                  refine lv_iinc (pc := 243) (v := nI (k2x + 1)) (lv' := [(10, .int (nI (k2x + 1))), (9, .int (nI 0)), (8, .int (nI (128 * sd))), (0, .ref h0), (1, .int (nI sd)), (2, .ref hb2), (3, .int (nI 0)), (4, .ref hb2), (5, .int (nI f0)), (6, .int (nI n8)), (7, .int (nI 0))]) hx hb dX10_commandMac_243 hl (k := 0) rfl (by first | exact nI_add k2x 1 | rfl) (by decide) rfl (fun ls hl => ?_)
                  refine lv_goto (pc := 246) (tgt := 206) hx hb dX10_commandMac_246 (by decide) ?_
                  exact ih206 (k2x + 1) (qU c' k2x (mac1_200 k2x)) (by omega) (qSeg_s hs2 (by omega) (rfl)) (by omega) _ _ (hP.sub [0, 1, 2, 3, 4, 5, 6, 7, 8, 9, 10, 11, 12, 13, 14] rfl) (hD.sub [0, 1, 2, 3, 4, 5, 6, 7, 8, 9, 10, 11, 12, 13, 14] (by decide) rfl) hS ls (lv_sub hl [0, 1, 2, 3, 4, 5, 6, 7, 8, 9, 10] rfl)
          exact LP206 _ 0 gco (by omega) (qSeg_0) (Nat.lt_succ_self _) _ _ (hP.sub [0, 1, 2, 3, 4, 5, 6, 7, 8, 9, 10, 11, 12, 13, 14] rfl) (hD.sub [0, 1, 2, 3, 4, 5, 6, 7, 8, 9, 10, 11, 12, 13, 14] (by decide) rfl) hS ls (lv_sub hl [0, 1, 2, 3, 4, 5, 6, 7, 8, 9, 10] rfl)
        · skip
          rw [nI_leI (by omega) (by omega)] at c_2
          refine lv_aload_n (pc := 34) hx hb dX10_commandMac_34 rfl (lv_at hl 3 rfl) ?_
          refine va_get (pc := 35) (D := D) (ci := 8) (v := .ref (a 53)) (C := RX10) (T := TX10) (N := 57) hx hb hts iu10 hown hK hP 0 rfl rfl 53 (by decide) (hts _ tw_1098) (fun _ h9 => h9) rfl dX10_commandMac_35 ?_
          refine lv_iload (pc := 38) hx hb dX10_commandMac_38 (lv_at hl 0 rfl) ?_
          refine lv_iload (pc := 40) hx hb dX10_commandMac_40 (lv_at hl 10 rfl) ?_
          refine lv_if_eq (pc := 42) (tgt := 49) hx hb dX10_commandMac_42 (by decide) (fun _ => ?_) (fun c_11 => absurd (by decide) c_11)
          refine lv_aload_n (pc := 49) hx hb dX10_commandMac_49 rfl (lv_at hl 3 rfl) ?_
          refine va_get (pc := 50) (D := D) (ci := 8) (v := .ref (a 45)) (C := RX10) (T := TX10) (N := 57) hx hb hts iu10 hown hK hP 0 rfl rfl 45 (by decide) (hts _ tw_1090) (fun _ h9 => h9) rfl dX10_commandMac_50 ?_
          refine lv_bipush (pc := 53) (v := nI 16) hx hb dX10_commandMac_53 (by decide +kernel) ?_
          refine lv_iload_n (pc := 55) hx hb dX10_commandMac_55 rfl (lv_at hl 4 rfl) ?_
          refine lv_imul (pc := 56) hx hb dX10_commandMac_56 ?_
          refine q_top (y := nI (16 * sd)) (pk_mul 16 sd) ?_
          refine lv_iload (pc := 57) hx hb dX10_commandMac_57 (lv_at hl 0 rfl) ?_
          refine lv_iadd (pc := 59) hx hb dX10_commandMac_59 ?_
          refine q_top (y := nI (16 * sd + k1x)) (nI_add (16 * sd) k1x) ?_
          refine q_bald (pc := 60) hx hb hK hP 10 2 rfl rfl (k := 16 * sd + k1x) (v := qs (gch (16 * sd + k1x))) rfl (by omega) (by omega) rfl dX10_commandMac_60 ?_
          refine q_bastS (pc := 61) hx hb hK hP hD hS 8 2 rfl rfl (k := k1x) rfl (by omega) (by omega) (b := gch (16 * sd + k1x)) (qlo_qs _) dX10_commandMac_61 (fun H locs hP hD hS => ?_)
          have hP : va_P D vwCl [(h0, oM a ar mn tp osz lsz ns ct), (a 8, aZ ta 256 BOX), (a 9, aZ ta 256 UBOX), (a 16, aS ta 240 rk), (a 18, aS ta 16 ce), (a 22, aS ta 700 gm), (a 24, aS ta 16 mac), (a 25, aS ta 16 k1), (a 53, aS ta 16 (qU b' k1x (gch (16 * sd + k1x)))), (a 55, aS ta 16 gco), (a 45, aS ta 32 gch), (a 41, aS ta 256 gke), (a 36, aK ta 2 ru), (a 37, aK ta 2 le), (hb2, aS ta capb gb)] H := hP
          have hD : va_D A [(h0, oM a ar mn tp osz lsz ns ct), (a 8, aZ ta 256 BOX), (a 9, aZ ta 256 UBOX), (a 16, aS ta 240 rk), (a 18, aS ta 16 ce), (a 22, aS ta 700 gm), (a 24, aS ta 16 mac), (a 25, aS ta 16 k1), (a 53, aS ta 16 (qU b' k1x (gch (16 * sd + k1x)))), (a 55, aS ta 16 gco), (a 45, aS ta 32 gch), (a 41, aS ta 256 gke), (a 36, aK ta 2 ru), (a 37, aK ta 2 le), (hb2, aS ta capb gb)] := hD
          refine lv_iinc (pc := 62) (v := nI (k1x + 1)) (lv' := [(10, .int (nI (k1x + 1))), (9, .int (nI 0)), (8, .int (nI (128 * sd))), (0, .ref h0), (1, .int (nI sd)), (2, .ref hb2), (3, .int (nI 0)), (4, .ref hb2), (5, .int (nI f0)), (6, .int (nI n8)), (7, .int (nI 0))]) hx hb dX10_commandMac_62 hl (k := 0) rfl (by first | exact nI_add k1x 1 | rfl) (by decide) rfl (fun ls hl => ?_)
          refine lv_goto (pc := 65) (tgt := 27) hx hb dX10_commandMac_65 (by decide) ?_
          exact ih27 (k1x + 1) (qU b' k1x (gch (16 * sd + k1x))) (by omega) (qSeg_s hs1 (by omega) (by first | rfl | (simp; done))) (by omega) _ _ (hP.sub [0, 1, 2, 3, 4, 5, 6, 7, 8, 9, 10, 11, 12, 13, 14] rfl) (hD.sub [0, 1, 2, 3, 4, 5, 6, 7, 8, 9, 10, 11, 12, 13, 14] (by decide) rfl) hS ls (lv_sub hl [0, 1, 2, 3, 4, 5, 6, 7, 8, 9, 10] rfl)
    exact LP27 _ 0 gbl (by omega) (qSeg_0) (Nat.lt_succ_self _) _ _ (hP.sub [0, 1, 2, 3, 4, 5, 6, 7, 8, 9, 10, 11, 12, 13, 14] rfl) (hD.sub [0, 1, 2, 3, 4, 5, 6, 7, 8, 9, 10, 11, 12, 13, 14] (by decide) rfl) hS ls (lv_sub hl [0, 1, 2, 3, 4, 5, 6, 7, 8, 9, 10] rfl)
  · skip
    rw [nI_eq (by omega) (by omega)] at c_1
    exfalso; omega
set_option maxHeartbeats 4000000 in
set_option maxRecDepth 100000 in
theorem ct_X10_commandMac_300 (ll : Launch) (D : va_G) (ta : Nat → ClassId) {G : (Nat → Prop) → State → Heap → Prop} (hGok : GOK G) (h0 : Nat) (a : Nat → Nat) (ar : Nat) (mn : Nat) (tp : Nat) (osz : Nat) (lsz : Nat) (ns : Nat) (ct : Nat) (rk : Nat → BitVec 8) (ce : Nat → BitVec 8) (gm : Nat → BitVec 8) (mac : Nat → BitVec 8) (k1 : Nat → BitVec 8) (gbl : Nat → BitVec 8) (gco : Nat → BitVec 8) (gch : Nat → BitVec 8) (gke : Nat → BitVec 8) (ru : Nat → Nat) (le : Nat → Nat) (sd : Nat) (hb2 : Nat) (capb : Nat) (gb : Nat → BitVec 8) (hd2 : Nat) (capd : Nat) (gd : Nat → BitVec 8) (f0 : Nat) (n8 : Nat) (hsd : sd ≤ 1) (hru : ru sd = 3) (hn8 : n8 ≤ 300) (hcb : 4 ≤ capb ∧ capb < 2147483648) (hfd : f0 + n8 ≤ capd) (hcd : capd < 2147483648) (hle : le sd = 16 ∨ le sd = 24 ∨ le sd = 32) (sz : Nat) : CT ll yX10_commandMac cX10_commandMac 11 none ({ frames := 5, cells := 0, slots := 0, locals := 124 } : Room) D ta G [.ref h0, .int (nI sd), .ref hb2, .int (nI 0), .ref hd2, .int (nI f0), .int (nI n8), .int (nI 0)] [(h0, oM a ar mn tp osz lsz ns ct), (a 8, aZ ta 256 BOX), (a 9, aZ ta 256 UBOX), (a 16, aS ta 240 rk), (a 18, aS ta 16 ce), (a 22, aS ta 700 gm), (a 24, aS ta 16 mac), (a 25, aS ta 16 k1), (a 53, aS ta 16 gbl), (a 55, aS ta 16 gco), (a 45, aS ta 32 gch), (a 41, aS ta 256 gke), (a 36, aK ta 2 ru), (a 37, aK ta 2 le), (hb2, aS ta capb gb), (hd2, aS ta capd gd)] sz (S := (Nat → BitVec 8) × (Nat → BitVec 8) × (Nat → BitVec 8) × (Nat → BitVec 8) × (Nat → BitVec 8) × (Nat → BitVec 8) × (Nat → BitVec 8) × (Nat → BitVec 8) × Nat × Nat) (fun _ => none) (fun u => (seg u.2.2.2.2.2.2.1 0 16 = cmacL (seg gke (128 * sd + 32) (le sd)) ((seg gch (16 * sd) 16) ++ (headL (seg gb 0 4) n8 ++ seg gd f0 n8))) ∧ (seg u.2.2.2.2.2.2.2.1 (16 * sd) 16 = seg u.2.2.2.2.2.2.1 0 16) ∧ (∀ j, (j < 16 * sd ∨ 16 * sd + 16 ≤ j) → u.2.2.2.2.2.2.2.1 j = gch j)) (fun u => [(h0, oM a u.2.2.2.2.2.2.2.2.2 u.2.2.2.2.2.2.2.2.1 tp osz lsz ns ct), (a 8, aZ ta 256 BOX), (a 9, aZ ta 256 UBOX), (a 16, aS ta 240 u.1), (a 18, aS ta 16 u.2.1), (a 22, aS ta 700 u.2.2.1), (a 24, aS ta 16 u.2.2.2.1), (a 25, aS ta 16 u.2.2.2.2.1), (a 53, aS ta 16 u.2.2.2.2.2.1), (a 55, aS ta 16 u.2.2.2.2.2.2.1), (a 45, aS ta 32 u.2.2.2.2.2.2.2.1), (a 41, aS ta 256 gke), (a 36, aK ta 2 ru), (a 37, aK ta 2 le), (hb2, aS ta capb gb), (hd2, aS ta capd gd)]) 0 0 := by
  refine CT.of_v rfl (by decide) (Nat.le_of_ble_eq_true rfl) ?_
  intro pp ee ss mm below meth kc A Q hx hb hml hown hin hts hK hA hsz hG hret H locs hP hD hS ls hl
  have hl : lv_has ls 11 [(0, .ref h0), (1, .int (nI sd)), (2, .ref hb2), (3, .int (nI 0)), (4, .ref hd2), (5, .int (nI f0)), (6, .int (nI n8)), (7, .int (nI 0))] := hl
  refine lv_sipush (pc := 0) (v := nI 128) hx hb dX10_commandMac_0 (by decide +kernel) ?_
  refine lv_iload_n (pc := 3) hx hb dX10_commandMac_3 rfl (lv_at hl 1 rfl) ?_
  refine lv_imul (pc := 4) hx hb dX10_commandMac_4 ?_
  refine q_top (y := nI (128 * sd)) (pk_mul 128 sd) ?_
  refine lv_istore (pc := 5) (lv' := [(8, .int (nI (128 * sd))), (0, .ref h0), (1, .int (nI sd)), (2, .ref hb2), (3, .int (nI 0)), (4, .ref hd2), (5, .int (nI f0)), (6, .int (nI n8)), (7, .int (nI 0))]) hx hb dX10_commandMac_5 hl (by decide) rfl (fun ls hl => ?_)
  refine lv_aload_n (pc := 7) hx hb dX10_commandMac_7 rfl (lv_at hl 1 rfl) ?_
  refine va_get (pc := 8) (D := D) (ci := 8) (v := .ref (a 36)) (C := RX10) (T := TX10) (N := 57) hx hb hts iu10 hown hK hP 0 rfl rfl 36 (by decide) (hts _ tw_1081) (fun _ h9 => h9) rfl dX10_commandMac_8 ?_
  refine lv_iload_n (pc := 11) hx hb dX10_commandMac_11 rfl (lv_at hl 2 rfl) ?_
  refine q_iald (pc := 12) hx hb hK hP 12 0 rfl rfl (k := sd) (v := nI (ru sd)) rfl (by omega) (by omega) rfl dX10_commandMac_12 ?_
  refine lv_iconst (pc := 13) (v := nI 2) hx hb dX10_commandMac_13 (by decide +kernel) ?_
  refine lv_icmp_ne (pc := 14) (tgt := 21) hx hb dX10_commandMac_14 (by decide) (fun c_1 => ?_) (fun c_1 => ?_)
  · skip
    rw [nI_eq (by omega) (by omega)] at c_1
    refine lv_iconst (pc := 21) (v := nI 0) hx hb dX10_commandMac_21 (by decide +kernel) ?_
    refine lv_istore (pc := 22) (lv' := [(9, .int (nI 0)), (8, .int (nI (128 * sd))), (0, .ref h0), (1, .int (nI sd)), (2, .ref hb2), (3, .int (nI 0)), (4, .ref hd2), (5, .int (nI f0)), (6, .int (nI n8)), (7, .int (nI 0))]) hx hb dX10_commandMac_22 hl (by decide) rfl (fun ls hl => ?_)
    refine lv_iconst (pc := 24) (v := nI 0) hx hb dX10_commandMac_24 (by decide +kernel) ?_
    refine lv_istore (pc := 25) (lv' := [(10, .int (nI 0)), (9, .int (nI 0)), (8, .int (nI (128 * sd))), (0, .ref h0), (1, .int (nI sd)), (2, .ref hb2), (3, .int (nI 0)), (4, .ref hd2), (5, .int (nI f0)), (6, .int (nI n8)), (7, .int (nI 0))]) hx hb dX10_commandMac_25 hl (by decide) rfl (fun ls hl => ?_)
    have LP27 : ∀ (nn27 : Nat) (k1x : Nat) (b' : Nat → BitVec 8), (k1x ≤ 16) → (qSeg b' gbl 0 k1x ((fun j => gch (16 * sd + j)))) → (16 - k1x < nn27) → ∀ (H : Heap) (locs : List Loc), va_P D vwCl [(h0, oM a ar mn tp osz lsz ns ct), (a 8, aZ ta 256 BOX), (a 9, aZ ta 256 UBOX), (a 16, aS ta 240 rk), (a 18, aS ta 16 ce), (a 22, aS ta 700 gm), (a 24, aS ta 16 mac), (a 25, aS ta 16 k1), (a 53, aS ta 16 b'), (a 55, aS ta 16 gco), (a 45, aS ta 32 gch), (a 41, aS ta 256 gke), (a 36, aK ta 2 ru), (a 37, aK ta 2 le), (hb2, aS ta capb gb), (hd2, aS ta capd gd)] H → va_D A [(h0, oM a ar mn tp osz lsz ns ct), (a 8, aZ ta 256 BOX), (a 9, aZ ta 256 UBOX), (a 16, aS ta 240 rk), (a 18, aS ta 16 ce), (a 22, aS ta 700 gm), (a 24, aS ta 16 mac), (a 25, aS ta 16 k1), (a 53, aS ta 16 b'), (a 55, aS ta 16 gco), (a 45, aS ta 32 gch), (a 41, aS ta 256 gke), (a 36, aK ta 2 ru), (a 37, aK ta 2 le), (hb2, aS ta capb gb), (hd2, aS ta capd gd)] → va_S A ss.heap H locs → ∀ ls : Array Slot, lv_has ls 11 [(10, .int (nI k1x)), (9, .int (nI 0)), (8, .int (nI (128 * sd))), (0, .ref h0), (1, .int (nI sd)), (2, .ref hb2), (3, .int (nI 0)), (4, .ref hd2), (5, .int (nI f0)), (6, .int (nI n8)), (7, .int (nI 0))] → W pp ll ee ({ frames := 5, cells := 0, slots := 0, locals := 124 } : Room) ss mm (([.ref h0, .int (nI sd), .ref hb2, .int (nI 0), .ref hd2, .int (nI f0), .int (nI n8), .int (nI 0)] : List Value).toArray) below meth kc H locs 0 0 Q (F0 mm 27 ls []) := by
      intro nn27
      induction nn27 with
      | zero => intro k1x b' hkk1 hs1 hmu; exact absurd hmu (Nat.not_lt_zero _)
      | succ nn27 ih27 =>
        intro k1x b' hkk1 hs1 hmu27 H locs hP hD hS ls hl
        refine lv_iload (pc := 27) hx hb dX10_commandMac_27 (lv_at hl 0 rfl) ?_
        refine lv_bipush (pc := 29) (v := nI 16) hx hb dX10_commandMac_29 (by decide +kernel) ?_
        refine lv_icmp_ge (pc := 31) (tgt := 68) hx hb dX10_commandMac_31 (by decide) (fun c_2 => ?_) (fun c_2 => ?_)
        · skip
          rw [nI_leI (by omega) (by omega)] at c_2
          refine lv_iload (pc := 68) hx hb dX10_commandMac_68 (lv_at hl 1 rfl) ?_
          refine lv_if_eq (pc := 70) (tgt := 97) hx hb dX10_commandMac_70 (by decide) (fun _ => ?_) (fun c_3 => absurd (by decide) c_3)
          refine lv_aload_n (pc := 97) hx hb dX10_commandMac_97 rfl (lv_at hl 3 rfl) ?_
          refine cs_V (pc := 98) (idx := 114) (n := 0) (wr := [(a 8, aZ ta 256 BOX), (a 9, aZ ta 256 UBOX), (a 16, aS ta 240 rk), (a 18, aS ta 16 ce), (a 22, aS ta 700 gm), (a 24, aS ta 16 mac), (a 25, aS ta 16 k1), (a 53, aS ta 16 b'), (a 55, aS ta 16 gco), (a 45, aS ta 32 gch), (a 41, aS ta 256 gke), (a 36, aK ta 2 ru), (a 37, aK ta 2 le), (hb2, aS ta capb gb), (hd2, aS ta capd gd)]) (As := []) (rest := []) (ci := 8) hx hb hml hown hts hGok hK hA hG hl.1 hP hD hS (ct_X10_fresh ll D ta hGok h0 a ar mn tp osz lsz ns ct  H.size) tw_1302 tw_1299 tw_1301 tw_35 tw_75 hdX10_fresh rfl ⟨rfl, rfl, Nat.le_of_ble_eq_true rfl, Nat.le_of_ble_eq_true rfl, Nat.le_of_ble_eq_true rfl, Nat.le_of_ble_eq_true rfl⟩ rfl rfl (q0 := 0) rfl [0] [1, 2, 3, 4, 5, 6, 7, 8, 9, 10, 11, 12, 13, 14, 15] rfl rfl (by decide) rfl (Nat.le_of_ble_eq_true rfl) dX10_commandMac_98 (fun u H locs hq hP hD hS => ?_)
          refine W.eq (g2 := F0 mm 101 ls []) rfl ?_
          have hP : va_P D vwCl [(a 8, aZ ta 256 BOX), (a 9, aZ ta 256 UBOX), (a 16, aS ta 240 rk), (a 18, aS ta 16 ce), (a 22, aS ta 700 gm), (a 24, aS ta 16 mac), (a 25, aS ta 16 k1), (a 53, aS ta 16 b'), (a 55, aS ta 16 gco), (a 45, aS ta 32 gch), (a 41, aS ta 256 gke), (a 36, aK ta 2 ru), (a 37, aK ta 2 le), (hb2, aS ta capb gb), (hd2, aS ta capd gd), (h0, oM a ar 0 tp osz lsz ns ct)] H := hP
          have hD : va_D A [(a 8, aZ ta 256 BOX), (a 9, aZ ta 256 UBOX), (a 16, aS ta 240 rk), (a 18, aS ta 16 ce), (a 22, aS ta 700 gm), (a 24, aS ta 16 mac), (a 25, aS ta 16 k1), (a 53, aS ta 16 b'), (a 55, aS ta 16 gco), (a 45, aS ta 32 gch), (a 41, aS ta 256 gke), (a 36, aK ta 2 ru), (a 37, aK ta 2 le), (hb2, aS ta capb gb), (hd2, aS ta capd gd), (h0, oM a ar 0 tp osz lsz ns ct)] := hD
          refine lv_iload (pc := 101) hx hb dX10_commandMac_101 (lv_at hl 1 rfl) ?_
          refine lv_if_ne (pc := 103) (tgt := 117) hx hb dX10_commandMac_103 (by decide) (fun c_4 => absurd (by decide) c_4) (fun _ => ?_)
          refine lv_aload_n (pc := 106) hx hb dX10_commandMac_106 rfl (lv_at hl 3 rfl) ?_
          refine lv_aload_n (pc := 107) hx hb dX10_commandMac_107 rfl (lv_at hl 3 rfl) ?_
          refine va_get (pc := 108) (D := D) (ci := 8) (v := .ref (a 53)) (C := RX10) (T := TX10) (N := 57) hx hb hts iu10 hown hK hP 15 rfl rfl 53 (by decide) (hts _ tw_1098) (fun _ h9 => h9) rfl dX10_commandMac_108 ?_
          refine lv_iconst (pc := 111) (v := nI 0) hx hb dX10_commandMac_111 (by decide +kernel) ?_
          refine lv_bipush (pc := 112) (v := nI 16) hx hb dX10_commandMac_112 (by decide +kernel) ?_
          refine cs_V (pc := 114) (idx := 121) (n := 3) (wr := [(a 8, aZ ta 256 BOX), (a 9, aZ ta 256 UBOX), (a 16, aS ta 240 rk), (a 18, aS ta 16 ce), (a 24, aS ta 16 mac), (a 25, aS ta 16 k1), (a 55, aS ta 16 gco), (a 45, aS ta 32 gch), (a 41, aS ta 256 gke), (a 36, aK ta 2 ru), (a 37, aK ta 2 le), (hb2, aS ta capb gb), (hd2, aS ta capd gd)]) (As := [.ref (a 53), .int (nI 0), .int (nI 16)]) (rest := []) (ci := 8) hx hb hml hown hts hGok hK hA hG hl.1 hP hD hS (ct_X10_addAll ll D ta hGok h0 a ar 0 tp osz lsz ns ct gm (a 53) 0 16 b' 16 (by first | assumption | omega | rfl | decide) (by first | assumption | omega | rfl | decide) (by first | assumption | omega | rfl | decide) H.size) tw_1306 tw_1303 tw_1305 tw_36 tw_75 hdX10_addAll rfl ⟨rfl, rfl, Nat.le_of_ble_eq_true rfl, Nat.le_of_ble_eq_true rfl, Nat.le_of_ble_eq_true rfl, Nat.le_of_ble_eq_true rfl⟩ rfl rfl (q0 := 15) rfl [15, 4, 7] [0, 1, 2, 3, 5, 6, 8, 9, 10, 11, 12, 13, 14] rfl rfl (by decide) rfl (Nat.le_of_ble_eq_true rfl) dX10_commandMac_114 (fun u H locs hq hP hD hS => ?_)
          generalize u = gm1_114 at hq hP hD ⊢
          have hq : (qL gm1_114 (0 + 16) = qL gm 0 ++ seg b' 0 16) := hq
          have hL_114 := hq
          refine W.eq (g2 := F0 mm 117 ls []) rfl ?_
          have hP : va_P D vwCl [(a 8, aZ ta 256 BOX), (a 9, aZ ta 256 UBOX), (a 16, aS ta 240 rk), (a 18, aS ta 16 ce), (a 24, aS ta 16 mac), (a 25, aS ta 16 k1), (a 55, aS ta 16 gco), (a 45, aS ta 32 gch), (a 41, aS ta 256 gke), (a 36, aK ta 2 ru), (a 37, aK ta 2 le), (hb2, aS ta capb gb), (hd2, aS ta capd gd), (h0, oM a ar (0 + 16) tp osz lsz ns ct), (a 22, aS ta 700 gm1_114), (a 53, aS ta 16 b')] H := hP
          have hD : va_D A [(a 8, aZ ta 256 BOX), (a 9, aZ ta 256 UBOX), (a 16, aS ta 240 rk), (a 18, aS ta 16 ce), (a 24, aS ta 16 mac), (a 25, aS ta 16 k1), (a 55, aS ta 16 gco), (a 45, aS ta 32 gch), (a 41, aS ta 256 gke), (a 36, aK ta 2 ru), (a 37, aK ta 2 le), (hb2, aS ta capb gb), (hd2, aS ta capd gd), (h0, oM a ar (0 + 16) tp osz lsz ns ct), (a 22, aS ta 700 gm1_114), (a 53, aS ta 16 b')] := hD
          refine lv_aload_n (pc := 117) hx hb dX10_commandMac_117 rfl (lv_at hl 3 rfl) ?_
          refine lv_aload_n (pc := 118) hx hb dX10_commandMac_118 rfl (lv_at hl 5 rfl) ?_
          refine lv_iload_n (pc := 119) hx hb dX10_commandMac_119 rfl (lv_at hl 6 rfl) ?_
          refine q_bald (pc := 120) hx hb hK hP 11 2 rfl rfl (k := 0) (v := qs (gb 0)) rfl (by omega) (by omega) rfl dX10_commandMac_120 ?_
          refine lv_sipush (pc := 121) (v := nI 252) hx hb dX10_commandMac_121 (by decide +kernel) ?_
          refine lv_iand (pc := 124) hx hb dX10_commandMac_124 ?_
          refine lv_iconst (pc := 125) (v := nI 4) hx hb dX10_commandMac_125 (by decide +kernel) ?_
          refine lv_ior (pc := 126) hx hb dX10_commandMac_126 ?_
          refine cs_V (pc := 127) (idx := 87) (n := 1) (wr := [(a 8, aZ ta 256 BOX), (a 9, aZ ta 256 UBOX), (a 16, aS ta 240 rk), (a 18, aS ta 16 ce), (a 24, aS ta 16 mac), (a 25, aS ta 16 k1), (a 55, aS ta 16 gco), (a 45, aS ta 32 gch), (a 41, aS ta 256 gke), (a 36, aK ta 2 ru), (a 37, aK ta 2 le), (hb2, aS ta capb gb), (hd2, aS ta capd gd), (a 53, aS ta 16 b')]) (As := [.int (((qs (gb 0)) &&& (nI 252)) ||| (nI 4))]) (rest := []) (ci := 8) hx hb hml hown hts hGok hK hA hG hl.1 hP hD hS (ct_X10_add ll D ta hGok h0 a ar (0 + 16) tp osz lsz ns ct gm1_114 (((qs (gb 0)) &&& (nI 252)) ||| (nI 4)) (by first | assumption | omega | rfl | decide) H.size) tw_1310 tw_1307 tw_1309 tw_37 tw_75 hdX10_add rfl ⟨rfl, rfl, Nat.le_of_ble_eq_true rfl, Nat.le_of_ble_eq_true rfl, Nat.le_of_ble_eq_true rfl, Nat.le_of_ble_eq_true rfl⟩ rfl rfl (q0 := 13) rfl [13, 14] [0, 1, 2, 3, 4, 5, 6, 7, 8, 9, 10, 11, 12, 15] rfl rfl (by decide) rfl (Nat.le_of_ble_eq_true rfl) dX10_commandMac_127 (fun u H locs hq hP hD hS => ?_)
          generalize u = gm1_127 at hq hP hD ⊢
          have hq : (qL gm1_127 ((0 + 16) + 1) = qL gm1_114 (0 + 16) ++ [qlo (((qs (gb 0)) &&& (nI 252)) ||| (nI 4))]) := hq
          have hL_127 := hq
          refine W.eq (g2 := F0 mm 130 ls []) rfl ?_
          have hP : va_P D vwCl [(a 8, aZ ta 256 BOX), (a 9, aZ ta 256 UBOX), (a 16, aS ta 240 rk), (a 18, aS ta 16 ce), (a 24, aS ta 16 mac), (a 25, aS ta 16 k1), (a 55, aS ta 16 gco), (a 45, aS ta 32 gch), (a 41, aS ta 256 gke), (a 36, aK ta 2 ru), (a 37, aK ta 2 le), (hb2, aS ta capb gb), (hd2, aS ta capd gd), (a 53, aS ta 16 b'), (h0, oM a ar ((0 + 16) + 1) tp osz lsz ns ct), (a 22, aS ta 700 gm1_127)] H := hP
          have hD : va_D A [(a 8, aZ ta 256 BOX), (a 9, aZ ta 256 UBOX), (a 16, aS ta 240 rk), (a 18, aS ta 16 ce), (a 24, aS ta 16 mac), (a 25, aS ta 16 k1), (a 55, aS ta 16 gco), (a 45, aS ta 32 gch), (a 41, aS ta 256 gke), (a 36, aK ta 2 ru), (a 37, aK ta 2 le), (hb2, aS ta capb gb), (hd2, aS ta capd gd), (a 53, aS ta 16 b'), (h0, oM a ar ((0 + 16) + 1) tp osz lsz ns ct), (a 22, aS ta 700 gm1_127)] := hD
          refine lv_aload_n (pc := 130) hx hb dX10_commandMac_130 rfl (lv_at hl 3 rfl) ?_
          refine lv_aload_n (pc := 131) hx hb dX10_commandMac_131 rfl (lv_at hl 5 rfl) ?_
          refine lv_iload_n (pc := 132) hx hb dX10_commandMac_132 rfl (lv_at hl 6 rfl) ?_
          refine lv_iconst (pc := 133) (v := nI 1) hx hb dX10_commandMac_133 (by decide +kernel) ?_
          refine lv_iadd (pc := 134) hx hb dX10_commandMac_134 ?_
          refine q_top (y := nI 1) (by decide +kernel) ?_
          refine lv_iconst (pc := 135) (v := nI 3) hx hb dX10_commandMac_135 (by decide +kernel) ?_
          refine cs_V (pc := 136) (idx := 121) (n := 3) (wr := [(a 8, aZ ta 256 BOX), (a 9, aZ ta 256 UBOX), (a 16, aS ta 240 rk), (a 18, aS ta 16 ce), (a 24, aS ta 16 mac), (a 25, aS ta 16 k1), (a 55, aS ta 16 gco), (a 45, aS ta 32 gch), (a 41, aS ta 256 gke), (a 36, aK ta 2 ru), (a 37, aK ta 2 le), (hd2, aS ta capd gd), (a 53, aS ta 16 b')]) (As := [.ref hb2, .int (nI 1), .int (nI 3)]) (rest := []) (ci := 8) hx hb hml hown hts hGok hK hA hG hl.1 hP hD hS (ct_X10_addAll ll D ta hGok h0 a ar ((0 + 16) + 1) tp osz lsz ns ct gm1_127 hb2 1 capb gb 3 (by first | assumption | omega | rfl | decide) (by first | assumption | omega | rfl | decide) (by first | assumption | omega | rfl | decide) H.size) tw_1306 tw_1303 tw_1305 tw_36 tw_75 hdX10_addAll rfl ⟨rfl, rfl, Nat.le_of_ble_eq_true rfl, Nat.le_of_ble_eq_true rfl, Nat.le_of_ble_eq_true rfl, Nat.le_of_ble_eq_true rfl⟩ rfl rfl (q0 := 14) rfl [14, 15, 11] [0, 1, 2, 3, 4, 5, 6, 7, 8, 9, 10, 12, 13] rfl rfl (by decide) rfl (Nat.le_of_ble_eq_true rfl) dX10_commandMac_136 (fun u H locs hq hP hD hS => ?_)
          generalize u = gm1_136 at hq hP hD ⊢
          have hq : (qL gm1_136 (((0 + 16) + 1) + 3) = qL gm1_127 ((0 + 16) + 1) ++ seg gb 1 3) := hq
          have hL_136 := hq
          refine W.eq (g2 := F0 mm 139 ls []) rfl ?_
          have hP : va_P D vwCl [(a 8, aZ ta 256 BOX), (a 9, aZ ta 256 UBOX), (a 16, aS ta 240 rk), (a 18, aS ta 16 ce), (a 24, aS ta 16 mac), (a 25, aS ta 16 k1), (a 55, aS ta 16 gco), (a 45, aS ta 32 gch), (a 41, aS ta 256 gke), (a 36, aK ta 2 ru), (a 37, aK ta 2 le), (hd2, aS ta capd gd), (a 53, aS ta 16 b'), (h0, oM a ar (((0 + 16) + 1) + 3) tp osz lsz ns ct), (a 22, aS ta 700 gm1_136), (hb2, aS ta capb gb)] H := hP
          have hD : va_D A [(a 8, aZ ta 256 BOX), (a 9, aZ ta 256 UBOX), (a 16, aS ta 240 rk), (a 18, aS ta 16 ce), (a 24, aS ta 16 mac), (a 25, aS ta 16 k1), (a 55, aS ta 16 gco), (a 45, aS ta 32 gch), (a 41, aS ta 256 gke), (a 36, aK ta 2 ru), (a 37, aK ta 2 le), (hd2, aS ta capd gd), (a 53, aS ta 16 b'), (h0, oM a ar (((0 + 16) + 1) + 3) tp osz lsz ns ct), (a 22, aS ta 700 gm1_136), (hb2, aS ta capb gb)] := hD
          refine lv_aload_n (pc := 139) hx hb dX10_commandMac_139 rfl (lv_at hl 3 rfl) ?_
          refine lv_iload (pc := 140) hx hb dX10_commandMac_140 (lv_at hl 9 rfl) ?_
          refine lv_bipush (pc := 142) (v := nI 8) hx hb dX10_commandMac_142 (by decide +kernel) ?_
          refine lv_iadd (pc := 144) hx hb dX10_commandMac_144 ?_
          refine q_top (y := nI (n8 + 8)) (nI_add n8 8) ?_
          refine cs_V (pc := 145) (idx := 353) (n := 1) (wr := [(a 8, aZ ta 256 BOX), (a 9, aZ ta 256 UBOX), (a 16, aS ta 240 rk), (a 18, aS ta 16 ce), (a 24, aS ta 16 mac), (a 25, aS ta 16 k1), (a 55, aS ta 16 gco), (a 45, aS ta 32 gch), (a 41, aS ta 256 gke), (a 36, aK ta 2 ru), (a 37, aK ta 2 le), (hd2, aS ta capd gd), (a 53, aS ta 16 b'), (hb2, aS ta capb gb)]) (As := [.int (nI (n8 + 8))]) (rest := []) (ci := 8) hx hb hml hown hts hGok hK hA hG hl.1 hP hD hS (ct_X10_addLength ll D ta hGok h0 a ar (((0 + 16) + 1) + 3) tp osz lsz ns ct gm1_136 (n8 + 8) (by first | assumption | omega | rfl | decide) (by first | assumption | omega | rfl | decide) H.size) tw_1372 tw_1369 tw_1371 tw_50 tw_75 hdX10_addLength rfl ⟨rfl, rfl, Nat.le_of_ble_eq_true rfl, Nat.le_of_ble_eq_true rfl, Nat.le_of_ble_eq_true rfl, Nat.le_of_ble_eq_true rfl⟩ rfl rfl (q0 := 13) rfl [13, 14] [0, 1, 2, 3, 4, 5, 6, 7, 8, 9, 10, 11, 12, 15] rfl rfl (by decide) rfl (Nat.le_of_ble_eq_true rfl) dX10_commandMac_145 (fun u H locs hq hP hD hS => ?_)
          generalize u = gm1_145 at hq hP hD ⊢
          have hq : (qL gm1_145 ((((0 + 16) + 1) + 3) + 1) = qL gm1_136 (((0 + 16) + 1) + 3) ++ [BitVec.ofNat 8 (n8 + 8)]) := hq
          have hL_145 := hq
          refine W.eq (g2 := F0 mm 148 ls []) rfl ?_
          have hP : va_P D vwCl [(a 8, aZ ta 256 BOX), (a 9, aZ ta 256 UBOX), (a 16, aS ta 240 rk), (a 18, aS ta 16 ce), (a 24, aS ta 16 mac), (a 25, aS ta 16 k1), (a 55, aS ta 16 gco), (a 45, aS ta 32 gch), (a 41, aS ta 256 gke), (a 36, aK ta 2 ru), (a 37, aK ta 2 le), (hd2, aS ta capd gd), (a 53, aS ta 16 b'), (hb2, aS ta capb gb), (h0, oM a ar ((((0 + 16) + 1) + 3) + 1) tp osz lsz ns ct), (a 22, aS ta 700 gm1_145)] H := hP
          have hD : va_D A [(a 8, aZ ta 256 BOX), (a 9, aZ ta 256 UBOX), (a 16, aS ta 240 rk), (a 18, aS ta 16 ce), (a 24, aS ta 16 mac), (a 25, aS ta 16 k1), (a 55, aS ta 16 gco), (a 45, aS ta 32 gch), (a 41, aS ta 256 gke), (a 36, aK ta 2 ru), (a 37, aK ta 2 le), (hd2, aS ta capd gd), (a 53, aS ta 16 b'), (hb2, aS ta capb gb), (h0, oM a ar ((((0 + 16) + 1) + 3) + 1) tp osz lsz ns ct), (a 22, aS ta 700 gm1_145)] := hD
          refine lv_aload_n (pc := 148) hx hb dX10_commandMac_148 rfl (lv_at hl 3 rfl) ?_
          refine lv_aload (pc := 149) hx hb dX10_commandMac_149 (lv_at hl 7 rfl) ?_
          refine lv_iload (pc := 151) hx hb dX10_commandMac_151 (lv_at hl 8 rfl) ?_
          refine lv_iload (pc := 153) hx hb dX10_commandMac_153 (lv_at hl 9 rfl) ?_
          refine cs_V (pc := 155) (idx := 121) (n := 3) (wr := [(a 8, aZ ta 256 BOX), (a 9, aZ ta 256 UBOX), (a 16, aS ta 240 rk), (a 18, aS ta 16 ce), (a 24, aS ta 16 mac), (a 25, aS ta 16 k1), (a 55, aS ta 16 gco), (a 45, aS ta 32 gch), (a 41, aS ta 256 gke), (a 36, aK ta 2 ru), (a 37, aK ta 2 le), (a 53, aS ta 16 b'), (hb2, aS ta capb gb)]) (As := [.ref hd2, .int (nI f0), .int (nI n8)]) (rest := []) (ci := 8) hx hb hml hown hts hGok hK hA hG hl.1 hP hD hS (ct_X10_addAll ll D ta hGok h0 a ar ((((0 + 16) + 1) + 3) + 1) tp osz lsz ns ct gm1_145 hd2 f0 capd gd n8 (by first | assumption | omega | rfl | decide) (by first | assumption | omega | rfl | decide) (by first | assumption | omega | rfl | decide) H.size) tw_1306 tw_1303 tw_1305 tw_36 tw_75 hdX10_addAll rfl ⟨rfl, rfl, Nat.le_of_ble_eq_true rfl, Nat.le_of_ble_eq_true rfl, Nat.le_of_ble_eq_true rfl, Nat.le_of_ble_eq_true rfl⟩ rfl rfl (q0 := 14) rfl [14, 15, 11] [0, 1, 2, 3, 4, 5, 6, 7, 8, 9, 10, 12, 13] rfl rfl (by decide) rfl (Nat.le_of_ble_eq_true rfl) dX10_commandMac_155 (fun u H locs hq hP hD hS => ?_)
          generalize u = gm1_155 at hq hP hD ⊢
          have hq : (qL gm1_155 (((((0 + 16) + 1) + 3) + 1) + n8) = qL gm1_145 ((((0 + 16) + 1) + 3) + 1) ++ seg gd f0 n8) := hq
          have hL_155 := hq
          refine W.eq (g2 := F0 mm 158 ls []) rfl ?_
          have hP : va_P D vwCl [(a 8, aZ ta 256 BOX), (a 9, aZ ta 256 UBOX), (a 16, aS ta 240 rk), (a 18, aS ta 16 ce), (a 24, aS ta 16 mac), (a 25, aS ta 16 k1), (a 55, aS ta 16 gco), (a 45, aS ta 32 gch), (a 41, aS ta 256 gke), (a 36, aK ta 2 ru), (a 37, aK ta 2 le), (a 53, aS ta 16 b'), (hb2, aS ta capb gb), (h0, oM a ar (((((0 + 16) + 1) + 3) + 1) + n8) tp osz lsz ns ct), (a 22, aS ta 700 gm1_155), (hd2, aS ta capd gd)] H := hP
          have hD : va_D A [(a 8, aZ ta 256 BOX), (a 9, aZ ta 256 UBOX), (a 16, aS ta 240 rk), (a 18, aS ta 16 ce), (a 24, aS ta 16 mac), (a 25, aS ta 16 k1), (a 55, aS ta 16 gco), (a 45, aS ta 32 gch), (a 41, aS ta 256 gke), (a 36, aK ta 2 ru), (a 37, aK ta 2 le), (a 53, aS ta 16 b'), (hb2, aS ta capb gb), (h0, oM a ar (((((0 + 16) + 1) + 3) + 1) + n8) tp osz lsz ns ct), (a 22, aS ta 700 gm1_155), (hd2, aS ta capd gd)] := hD
          refine lv_iload (pc := 158) hx hb dX10_commandMac_158 (lv_at hl 1 rfl) ?_
          refine lv_if_eq (pc := 160) (tgt := 184) hx hb dX10_commandMac_160 (by decide) (fun _ => ?_) (fun c_5 => absurd (by decide) c_5)
          refine lv_aload_n (pc := 184) hx hb dX10_commandMac_184 rfl (lv_at hl 3 rfl) ?_
          refine lv_aload_n (pc := 185) hx hb dX10_commandMac_185 rfl (lv_at hl 3 rfl) ?_
          refine va_get (pc := 186) (D := D) (ci := 8) (v := .ref (a 41)) (C := RX10) (T := TX10) (N := 57) hx hb hts iu10 hown hK hP 13 rfl rfl 41 (by decide) (hts _ tw_1086) (fun _ h9 => h9) rfl dX10_commandMac_186 ?_
          refine lv_iload (pc := 189) hx hb dX10_commandMac_189 (lv_at hl 2 rfl) ?_
          refine lv_bipush (pc := 191) (v := nI 32) hx hb dX10_commandMac_191 (by decide +kernel) ?_
          refine lv_iadd (pc := 193) hx hb dX10_commandMac_193 ?_
          refine q_top (y := nI (128 * sd + 32)) (nI_add (128 * sd) 32) ?_
          refine lv_aload_n (pc := 194) hx hb dX10_commandMac_194 rfl (lv_at hl 3 rfl) ?_
          refine va_get (pc := 195) (D := D) (ci := 8) (v := .ref (a 37)) (C := RX10) (T := TX10) (N := 57) hx hb hts iu10 hown hK hP 13 rfl rfl 37 (by decide) (hts _ tw_1082) (fun _ h9 => h9) rfl dX10_commandMac_195 ?_
          refine lv_iload_n (pc := 198) hx hb dX10_commandMac_198 rfl (lv_at hl 4 rfl) ?_
          refine q_iald (pc := 199) hx hb hK hP 10 0 rfl rfl (k := sd) (v := nI (le sd)) rfl (by omega) (by omega) rfl dX10_commandMac_199 ?_
          refine cs_V (pc := 200) (idx := 124) (n := 3) (wr := [(a 55, aS ta 16 gco), (a 45, aS ta 32 gch), (a 36, aK ta 2 ru), (a 37, aK ta 2 le), (a 53, aS ta 16 b'), (hb2, aS ta capb gb), (hd2, aS ta capd gd)]) (As := [.ref (a 41), .int (nI (128 * sd + 32)), .int (nI (le sd))]) (rest := []) (ci := 8) hx hb hml hown hts hGok hK hA hG hl.1 hP hD hS (ct_X10_cmac ll D ta hGok h0 a ar (((((0 + 16) + 1) + 3) + 1) + n8) tp osz lsz ns ct gm1_155 mac k1 rk ce (a 41) (128 * sd + 32) 256 gke (le sd) (by first | assumption | omega | rfl | decide) (by first | assumption | omega | rfl | decide) (by first | assumption | omega | rfl | decide) (by first | assumption | omega | rfl | decide) H.size) tw_1334 tw_1331 tw_1333 tw_43 tw_75 hdX10_cmac rfl ⟨rfl, rfl, Nat.le_of_ble_eq_true rfl, Nat.le_of_ble_eq_true rfl, Nat.le_of_ble_eq_true rfl, Nat.le_of_ble_eq_true rfl⟩ rfl rfl (q0 := 13) rfl [13, 0, 1, 2, 3, 14, 4, 5, 8] [6, 7, 9, 10, 11, 12, 15] rfl rfl (by decide) rfl (Nat.le_of_ble_eq_true rfl) dX10_commandMac_200 (fun u H locs hq hP hD hS => ?_)
          obtain ⟨mn1_200, gm1_200, mac1_200, k11_200, rk1_200, ce1_200⟩ := u
          have hq : (seg mac1_200 0 16 = cmacL (seg gke (128 * sd + 32) (le sd)) (qL gm1_155 (((((0 + 16) + 1) + 3) + 1) + n8))) := hq
          have hL_200 := hq
          refine W.eq (g2 := F0 mm 203 ls []) rfl ?_
          have hP : va_P D vwCl [(a 55, aS ta 16 gco), (a 45, aS ta 32 gch), (a 36, aK ta 2 ru), (a 37, aK ta 2 le), (a 53, aS ta 16 b'), (hb2, aS ta capb gb), (hd2, aS ta capd gd), (h0, oM a ((le sd) / 4 + 6) mn1_200 tp osz lsz ns ct), (a 8, aZ ta 256 BOX), (a 9, aZ ta 256 UBOX), (a 16, aS ta 240 rk1_200), (a 18, aS ta 16 ce1_200), (a 22, aS ta 700 gm1_200), (a 24, aS ta 16 mac1_200), (a 25, aS ta 16 k11_200), (a 41, aS ta 256 gke)] H := hP
          have hD : va_D A [(a 55, aS ta 16 gco), (a 45, aS ta 32 gch), (a 36, aK ta 2 ru), (a 37, aK ta 2 le), (a 53, aS ta 16 b'), (hb2, aS ta capb gb), (hd2, aS ta capd gd), (h0, oM a ((le sd) / 4 + 6) mn1_200 tp osz lsz ns ct), (a 8, aZ ta 256 BOX), (a 9, aZ ta 256 UBOX), (a 16, aS ta 240 rk1_200), (a 18, aS ta 16 ce1_200), (a 22, aS ta 700 gm1_200), (a 24, aS ta 16 mac1_200), (a 25, aS ta 16 k11_200), (a 41, aS ta 256 gke)] := hD
          refine lv_iconst (pc := 203) (v := nI 0) hx hb dX10_commandMac_203 (by decide +kernel) ?_
          refine lv_istore (pc := 204) (lv' := [(10, .int (nI 0)), (9, .int (nI 0)), (8, .int (nI (128 * sd))), (0, .ref h0), (1, .int (nI sd)), (2, .ref hb2), (3, .int (nI 0)), (4, .ref hd2), (5, .int (nI f0)), (6, .int (nI n8)), (7, .int (nI 0))]) hx hb dX10_commandMac_204 hl (by decide) rfl (fun ls hl => ?_)
          have LP206 : ∀ (nn206 : Nat) (k2x : Nat) (c' : Nat → BitVec 8), (k2x ≤ 16) → (qSeg c' gco 0 k2x mac1_200) → (16 - k2x < nn206) → ∀ (H : Heap) (locs : List Loc), va_P D vwCl [(a 55, aS ta 16 c'), (a 45, aS ta 32 gch), (a 36, aK ta 2 ru), (a 37, aK ta 2 le), (a 53, aS ta 16 b'), (hb2, aS ta capb gb), (hd2, aS ta capd gd), (h0, oM a ((le sd) / 4 + 6) mn1_200 tp osz lsz ns ct), (a 8, aZ ta 256 BOX), (a 9, aZ ta 256 UBOX), (a 16, aS ta 240 rk1_200), (a 18, aS ta 16 ce1_200), (a 22, aS ta 700 gm1_200), (a 24, aS ta 16 mac1_200), (a 25, aS ta 16 k11_200), (a 41, aS ta 256 gke)] H → va_D A [(a 55, aS ta 16 c'), (a 45, aS ta 32 gch), (a 36, aK ta 2 ru), (a 37, aK ta 2 le), (a 53, aS ta 16 b'), (hb2, aS ta capb gb), (hd2, aS ta capd gd), (h0, oM a ((le sd) / 4 + 6) mn1_200 tp osz lsz ns ct), (a 8, aZ ta 256 BOX), (a 9, aZ ta 256 UBOX), (a 16, aS ta 240 rk1_200), (a 18, aS ta 16 ce1_200), (a 22, aS ta 700 gm1_200), (a 24, aS ta 16 mac1_200), (a 25, aS ta 16 k11_200), (a 41, aS ta 256 gke)] → va_S A ss.heap H locs → ∀ ls : Array Slot, lv_has ls 11 [(10, .int (nI k2x)), (9, .int (nI 0)), (8, .int (nI (128 * sd))), (0, .ref h0), (1, .int (nI sd)), (2, .ref hb2), (3, .int (nI 0)), (4, .ref hd2), (5, .int (nI f0)), (6, .int (nI n8)), (7, .int (nI 0))] → W pp ll ee ({ frames := 5, cells := 0, slots := 0, locals := 124 } : Room) ss mm (([.ref h0, .int (nI sd), .ref hb2, .int (nI 0), .ref hd2, .int (nI f0), .int (nI n8), .int (nI 0)] : List Value).toArray) below meth kc H locs 0 0 Q (F0 mm 206 ls []) := by
            intro nn206
            induction nn206 with
            | zero => intro k2x c' hkk2 hs2 hmu; exact absurd hmu (Nat.not_lt_zero _)
            | succ nn206 ih206 =>
              intro k2x c' hkk2 hs2 hmu206 H locs hP hD hS ls hl
              refine lv_iload (pc := 206) hx hb dX10_commandMac_206 (lv_at hl 0 rfl) ?_
              refine lv_bipush (pc := 208) (v := nI 16) hx hb dX10_commandMac_208 (by decide +kernel) ?_
              refine lv_icmp_ge (pc := 210) (tgt := 249) hx hb dX10_commandMac_210 (by decide) (fun c_6 => ?_) (fun c_6 => ?_)
              · skip
                rw [nI_leI (by omega) (by omega)] at c_6
                refine lv_iconst (pc := 249) (v := nI 0) hx hb dX10_commandMac_249 (by decide +kernel) ?_
                refine lv_istore (pc := 250) (lv' := [(10, .int (nI 0)), (9, .int (nI 0)), (8, .int (nI (128 * sd))), (0, .ref h0), (1, .int (nI sd)), (2, .ref hb2), (3, .int (nI 0)), (4, .ref hd2), (5, .int (nI f0)), (6, .int (nI n8)), (7, .int (nI 0))]) hx hb dX10_commandMac_250 hl (by decide) rfl (fun ls hl => ?_)
                have LP252 : ∀ (nn252 : Nat) (k3x : Nat) (d' : Nat → BitVec 8), (k3x ≤ 16) → (qSeg d' gch (16 * sd) k3x c') → (16 - k3x < nn252) → ∀ (H : Heap) (locs : List Loc), va_P D vwCl [(a 55, aS ta 16 c'), (a 45, aS ta 32 d'), (a 36, aK ta 2 ru), (a 37, aK ta 2 le), (a 53, aS ta 16 b'), (hb2, aS ta capb gb), (hd2, aS ta capd gd), (h0, oM a ((le sd) / 4 + 6) mn1_200 tp osz lsz ns ct), (a 8, aZ ta 256 BOX), (a 9, aZ ta 256 UBOX), (a 16, aS ta 240 rk1_200), (a 18, aS ta 16 ce1_200), (a 22, aS ta 700 gm1_200), (a 24, aS ta 16 mac1_200), (a 25, aS ta 16 k11_200), (a 41, aS ta 256 gke)] H → va_D A [(a 55, aS ta 16 c'), (a 45, aS ta 32 d'), (a 36, aK ta 2 ru), (a 37, aK ta 2 le), (a 53, aS ta 16 b'), (hb2, aS ta capb gb), (hd2, aS ta capd gd), (h0, oM a ((le sd) / 4 + 6) mn1_200 tp osz lsz ns ct), (a 8, aZ ta 256 BOX), (a 9, aZ ta 256 UBOX), (a 16, aS ta 240 rk1_200), (a 18, aS ta 16 ce1_200), (a 22, aS ta 700 gm1_200), (a 24, aS ta 16 mac1_200), (a 25, aS ta 16 k11_200), (a 41, aS ta 256 gke)] → va_S A ss.heap H locs → ∀ ls : Array Slot, lv_has ls 11 [(10, .int (nI k3x)), (9, .int (nI 0)), (8, .int (nI (128 * sd))), (0, .ref h0), (1, .int (nI sd)), (2, .ref hb2), (3, .int (nI 0)), (4, .ref hd2), (5, .int (nI f0)), (6, .int (nI n8)), (7, .int (nI 0))] → W pp ll ee ({ frames := 5, cells := 0, slots := 0, locals := 124 } : Room) ss mm (([.ref h0, .int (nI sd), .ref hb2, .int (nI 0), .ref hd2, .int (nI f0), .int (nI n8), .int (nI 0)] : List Value).toArray) below meth kc H locs 0 0 Q (F0 mm 252 ls []) := by
                  intro nn252
                  induction nn252 with
                  | zero => intro k3x d' hkk3 hs3 hmu; exact absurd hmu (Nat.not_lt_zero _)
                  | succ nn252 ih252 =>
                    intro k3x d' hkk3 hs3 hmu252 H locs hP hD hS ls hl
                    refine lv_iload (pc := 252) hx hb dX10_commandMac_252 (lv_at hl 0 rfl) ?_
                    refine lv_bipush (pc := 254) (v := nI 16) hx hb dX10_commandMac_254 (by decide +kernel) ?_
                    refine lv_icmp_ge (pc := 256) (tgt := 284) hx hb dX10_commandMac_256 (by decide) (fun c_7 => ?_) (fun c_7 => ?_)
                    · skip
                      rw [nI_leI (by omega) (by omega)] at c_7
                      have hq_8 : (seg c' 0 16 = cmacL (seg gke (128 * sd + 32) (le sd)) ((seg gch (16 * sd) 16) ++ (headL (seg gb 0 4) n8 ++ seg gd f0 n8))) ∧ (seg d' (16 * sd) 16 = seg c' 0 16) ∧ (∀ j, (j < 16 * sd ∨ 16 * sd + 16 ≤ j) → d' j = gch j) := by
                        have hT : qL gm1_155 (0 + 16 + 1 + 3 + 1 + n8) = (seg gch (16 * sd) 16) ++ (headL (seg gb 0 4) n8 ++ seg gd f0 n8) := by
                          have e := head_ref (g := gb) (n := n8) (gm := gb) rfl
                          rw [hL_155, hL_145, hL_136, hL_127, hL_114, qL_0, List.nil_append, ← e, seg_copy hs1 (show k1x = 16 by omega)]
                          simp only [List.append_assoc]
                        refine ⟨?_, ?_, fun j hj => hs3.2 j (by omega)⟩
                        · rw [seg_copy0 hs2 (by omega), ← seg_0, hL_200, hT]
                        · rw [seg_copy0 hs3 (by omega), seg_0]
                      exact hret (⟨(rk1_200), (ce1_200), (gm1_200), (mac1_200), (k11_200), (b'), (c'), (d'), (mn1_200), ((le sd) / 4 + 6)⟩ : (Nat → BitVec 8) × (Nat → BitVec 8) × (Nat → BitVec 8) × (Nat → BitVec 8) × (Nat → BitVec 8) × (Nat → BitVec 8) × (Nat → BitVec 8) × (Nat → BitVec 8) × Nat × Nat) _ _ _ _ dX10_commandMac_284 hq_8 (hP.sub [7, 8, 9, 10, 11, 12, 13, 14, 4, 0, 1, 15, 2, 3, 5, 6] rfl) (hD.sub [7, 8, 9, 10, 11, 12, 13, 14, 4, 0, 1, 15, 2, 3, 5, 6] (by decide) rfl) hS
                    · skip
                      rw [nI_leI (by omega) (by omega)] at c_7
                      refine lv_aload_n (pc := 259) hx hb dX10_commandMac_259 rfl (lv_at hl 3 rfl) ?_
                      refine va_get (pc := 260) (D := D) (ci := 8) (v := .ref (a 45)) (C := RX10) (T := TX10) (N := 57) hx hb hts iu10 hown hK hP 7 rfl rfl 45 (by decide) (hts _ tw_1090) (fun _ h9 => h9) rfl dX10_commandMac_260 ?_
                      refine lv_bipush (pc := 263) (v := nI 16) hx hb dX10_commandMac_263 (by decide +kernel) ?_
                      refine lv_iload_n (pc := 265) hx hb dX10_commandMac_265 rfl (lv_at hl 4 rfl) ?_
                      refine lv_imul (pc := 266) hx hb dX10_commandMac_266 ?_
                      refine q_top (y := nI (16 * sd)) (pk_mul 16 sd) ?_
                      refine lv_iload (pc := 267) hx hb dX10_commandMac_267 (lv_at hl 0 rfl) ?_
                      refine lv_iadd (pc := 269) hx hb dX10_commandMac_269 ?_
                      refine q_top (y := nI (16 * sd + k3x)) (nI_add (16 * sd) k3x) ?_
                      refine lv_aload_n (pc := 270) hx hb dX10_commandMac_270 rfl (lv_at hl 3 rfl) ?_
                      refine va_get (pc := 271) (D := D) (ci := 8) (v := .ref (a 55)) (C := RX10) (T := TX10) (N := 57) hx hb hts iu10 hown hK hP 7 rfl rfl 55 (by decide) (hts _ tw_1100) (fun _ h9 => h9) rfl dX10_commandMac_271 ?_
                      refine lv_iload (pc := 274) hx hb dX10_commandMac_274 (lv_at hl 0 rfl) ?_
                      refine q_bald (pc := 276) hx hb hK hP 0 2 rfl rfl (k := k3x) (v := qs (c' k3x)) rfl (by omega) (by omega) rfl dX10_commandMac_276 ?_
                      refine q_bastS (pc := 277) hx hb hK hP hD hS 1 2 rfl rfl (k := 16 * sd + k3x) rfl (by omega) (by omega) (b := c' k3x) (qlo_qs _) dX10_commandMac_277 (fun H locs hP hD hS => ?_)
                      have hP : va_P D vwCl [(a 55, aS ta 16 c'), (a 45, aS ta 32 (qU d' (16 * sd + k3x) (c' k3x))), (a 36, aK ta 2 ru), (a 37, aK ta 2 le), (a 53, aS ta 16 b'), (hb2, aS ta capb gb), (hd2, aS ta capd gd), (h0, oM a ((le sd) / 4 + 6) mn1_200 tp osz lsz ns ct), (a 8, aZ ta 256 BOX), (a 9, aZ ta 256 UBOX), (a 16, aS ta 240 rk1_200), (a 18, aS ta 16 ce1_200), (a 22, aS ta 700 gm1_200), (a 24, aS ta 16 mac1_200), (a 25, aS ta 16 k11_200), (a 41, aS ta 256 gke)] H := hP
                      have hD : va_D A [(a 55, aS ta 16 c'), (a 45, aS ta 32 (qU d' (16 * sd + k3x) (c' k3x))), (a 36, aK ta 2 ru), (a 37, aK ta 2 le), (a 53, aS ta 16 b'), (hb2, aS ta capb gb), (hd2, aS ta capd gd), (h0, oM a ((le sd) / 4 + 6) mn1_200 tp osz lsz ns ct), (a 8, aZ ta 256 BOX), (a 9, aZ ta 256 UBOX), (a 16, aS ta 240 rk1_200), (a 18, aS ta 16 ce1_200), (a 22, aS ta 700 gm1_200), (a 24, aS ta 16 mac1_200), (a 25, aS ta 16 k11_200), (a 41, aS ta 256 gke)] := hD
                      refine lv_iinc (pc := 278) (v := nI (k3x + 1)) (lv' := [(10, .int (nI (k3x + 1))), (9, .int (nI 0)), (8, .int (nI (128 * sd))), (0, .ref h0), (1, .int (nI sd)), (2, .ref hb2), (3, .int (nI 0)), (4, .ref hd2), (5, .int (nI f0)), (6, .int (nI n8)), (7, .int (nI 0))]) hx hb dX10_commandMac_278 hl (k := 0) rfl (by first | exact nI_add k3x 1 | rfl) (by decide) rfl (fun ls hl => ?_)
                      refine lv_goto (pc := 281) (tgt := 252) hx hb dX10_commandMac_281 (by decide) ?_
                      exact ih252 (k3x + 1) (qU d' (16 * sd + k3x) (c' k3x)) (by omega) (qSeg_s hs3 (by omega) (by first | rfl | (simp; done))) (by omega) _ _ (hP.sub [0, 1, 2, 3, 4, 5, 6, 7, 8, 9, 10, 11, 12, 13, 14, 15] rfl) (hD.sub [0, 1, 2, 3, 4, 5, 6, 7, 8, 9, 10, 11, 12, 13, 14, 15] (by decide) rfl) hS ls (lv_sub hl [0, 1, 2, 3, 4, 5, 6, 7, 8, 9, 10] rfl)
                exact LP252 _ 0 gch (by omega) (qSeg_0) (Nat.lt_succ_self _) _ _ (hP.sub [0, 1, 2, 3, 4, 5, 6, 7, 8, 9, 10, 11, 12, 13, 14, 15] rfl) (hD.sub [0, 1, 2, 3, 4, 5, 6, 7, 8, 9, 10, 11, 12, 13, 14, 15] (by decide) rfl) hS ls (lv_sub hl [0, 1, 2, 3, 4, 5, 6, 7, 8, 9, 10] rfl)
              · skip
                rw [nI_leI (by omega) (by omega)] at c_6
                refine lv_aload_n (pc := 213) hx hb dX10_commandMac_213 rfl (lv_at hl 3 rfl) ?_
                refine va_get (pc := 214) (D := D) (ci := 8) (v := .ref (a 55)) (C := RX10) (T := TX10) (N := 57) hx hb hts iu10 hown hK hP 7 rfl rfl 55 (by decide) (hts _ tw_1100) (fun _ h9 => h9) rfl dX10_commandMac_214 ?_
                refine lv_iload (pc := 217) hx hb dX10_commandMac_217 (lv_at hl 0 rfl) ?_
                refine lv_iload (pc := 219) hx hb dX10_commandMac_219 (lv_at hl 0 rfl) ?_
                refine lv_bipush (pc := 221) (v := nI 8) hx hb dX10_commandMac_221 (by decide +kernel) ?_
                refine lv_icmp_lt (pc := 223) (tgt := 231) hx hb dX10_commandMac_223 (by decide) (fun c_9 => ?_) (fun c_9 => ?_)
                · skip
                  rw [nI_ltI (by omega) (by omega)] at c_9
                  refine lv_aload_n (pc := 231) hx hb dX10_commandMac_231 rfl (lv_at hl 3 rfl) ?_
                  refine va_get (pc := 232) (D := D) (ci := 8) (v := .ref (a 24)) (C := RX10) (T := TX10) (N := 57) hx hb hts iu10 hown hK hP 7 rfl rfl 24 (by decide) (hts _ tw_1069) (fun _ h9 => h9) rfl dX10_commandMac_232 ?_
                  refine lv_iload (pc := 235) hx hb dX10_commandMac_235 (lv_at hl 0 rfl) ?_
                  refine q_bald (pc := 237) hx hb hK hP 13 2 rfl rfl (k := k2x) (v := qs (mac1_200 k2x)) rfl (by omega) (by omega) rfl dX10_commandMac_237 ?_
                  refine lv_goto (pc := 238) (tgt := 242) hx hb dX10_commandMac_238 (by decide) ?_
                  refine q_bastS (pc := 242) hx hb hK hP hD hS 0 2 rfl rfl (k := k2x) rfl (by omega) (by omega) (b := mac1_200 k2x) (qlo_qs _) dX10_commandMac_242 (fun H locs hP hD hS => ?_)
                  have hP : va_P D vwCl [(a 55, aS ta 16 (qU c' k2x (mac1_200 k2x))), (a 45, aS ta 32 gch), (a 36, aK ta 2 ru), (a 37, aK ta 2 le), (a 53, aS ta 16 b'), (hb2, aS ta capb gb), (hd2, aS ta capd gd), (h0, oM a ((le sd) / 4 + 6) mn1_200 tp osz lsz ns ct), (a 8, aZ ta 256 BOX), (a 9, aZ ta 256 UBOX), (a 16, aS ta 240 rk1_200), (a 18, aS ta 16 ce1_200), (a 22, aS ta 700 gm1_200), (a 24, aS ta 16 mac1_200), (a 25, aS ta 16 k11_200), (a 41, aS ta 256 gke)] H := hP
                  have hD : va_D A [(a 55, aS ta 16 (qU c' k2x (mac1_200 k2x))), (a 45, aS ta 32 gch), (a 36, aK ta 2 ru), (a 37, aK ta 2 le), (a 53, aS ta 16 b'), (hb2, aS ta capb gb), (hd2, aS ta capd gd), (h0, oM a ((le sd) / 4 + 6) mn1_200 tp osz lsz ns ct), (a 8, aZ ta 256 BOX), (a 9, aZ ta 256 UBOX), (a 16, aS ta 240 rk1_200), (a 18, aS ta 16 ce1_200), (a 22, aS ta 700 gm1_200), (a 24, aS ta 16 mac1_200), (a 25, aS ta 16 k11_200), (a 41, aS ta 256 gke)] := hD
                  refine lv_iinc (pc := 243) (v := nI (k2x + 1)) (lv' := [(10, .int (nI (k2x + 1))), (9, .int (nI 0)), (8, .int (nI (128 * sd))), (0, .ref h0), (1, .int (nI sd)), (2, .ref hb2), (3, .int (nI 0)), (4, .ref hd2), (5, .int (nI f0)), (6, .int (nI n8)), (7, .int (nI 0))]) hx hb dX10_commandMac_243 hl (k := 0) rfl (by first | exact nI_add k2x 1 | rfl) (by decide) rfl (fun ls hl => ?_)
                  refine lv_goto (pc := 246) (tgt := 206) hx hb dX10_commandMac_246 (by decide) ?_
                  exact ih206 (k2x + 1) (qU c' k2x (mac1_200 k2x)) (by omega) (qSeg_s hs2 (by omega) (rfl)) (by omega) _ _ (hP.sub [0, 1, 2, 3, 4, 5, 6, 7, 8, 9, 10, 11, 12, 13, 14, 15] rfl) (hD.sub [0, 1, 2, 3, 4, 5, 6, 7, 8, 9, 10, 11, 12, 13, 14, 15] (by decide) rfl) hS ls (lv_sub hl [0, 1, 2, 3, 4, 5, 6, 7, 8, 9, 10] rfl)
                · skip
                  rw [nI_ltI (by omega) (by omega)] at c_9
                  refine lv_iload (pc := 226) hx hb dX10_commandMac_226 (lv_at hl 1 rfl) ?_
                  refine lv_if_ne (pc := 228) (tgt := 241) hx hb dX10_commandMac_228 (by decide) (fun c_10 => absurd (by decide) c_10) (fun _ => ?_)
                  refine lv_aload_n (pc := 231) hx hb dX10_commandMac_231 rfl (lv_at hl 3 rfl) ?_
                  refine va_get (pc := 232) (D := D) (ci := 8) (v := .ref (a 24)) (C := RX10) (T := TX10) (N := 57) hx hb hts iu10 hown hK hP 7 rfl rfl 24 (by decide) (hts _ tw_1069) (fun _ h9 => h9) rfl dX10_commandMac_232 ?_
                  refine lv_iload (pc := 235) hx hb dX10_commandMac_235 (lv_at hl 0 rfl) ?_
                  refine q_bald (pc := 237) hx hb hK hP 13 2 rfl rfl (k := k2x) (v := qs (mac1_200 k2x)) rfl (by omega) (by omega) rfl dX10_commandMac_237 ?_
                  refine lv_goto (pc := 238) (tgt := 242) hx hb dX10_commandMac_238 (by decide) ?_
                  refine q_bastS (pc := 242) hx hb hK hP hD hS 0 2 rfl rfl (k := k2x) rfl (by omega) (by omega) (b := mac1_200 k2x) (qlo_qs _) dX10_commandMac_242 (fun H locs hP hD hS => ?_)
                  have hP : va_P D vwCl [(a 55, aS ta 16 (qU c' k2x (mac1_200 k2x))), (a 45, aS ta 32 gch), (a 36, aK ta 2 ru), (a 37, aK ta 2 le), (a 53, aS ta 16 b'), (hb2, aS ta capb gb), (hd2, aS ta capd gd), (h0, oM a ((le sd) / 4 + 6) mn1_200 tp osz lsz ns ct), (a 8, aZ ta 256 BOX), (a 9, aZ ta 256 UBOX), (a 16, aS ta 240 rk1_200), (a 18, aS ta 16 ce1_200), (a 22, aS ta 700 gm1_200), (a 24, aS ta 16 mac1_200), (a 25, aS ta 16 k11_200), (a 41, aS ta 256 gke)] H := hP
                  have hD : va_D A [(a 55, aS ta 16 (qU c' k2x (mac1_200 k2x))), (a 45, aS ta 32 gch), (a 36, aK ta 2 ru), (a 37, aK ta 2 le), (a 53, aS ta 16 b'), (hb2, aS ta capb gb), (hd2, aS ta capd gd), (h0, oM a ((le sd) / 4 + 6) mn1_200 tp osz lsz ns ct), (a 8, aZ ta 256 BOX), (a 9, aZ ta 256 UBOX), (a 16, aS ta 240 rk1_200), (a 18, aS ta 16 ce1_200), (a 22, aS ta 700 gm1_200), (a 24, aS ta 16 mac1_200), (a 25, aS ta 16 k11_200), (a 41, aS ta 256 gke)] := hD
                  refine lv_iinc (pc := 243) (v := nI (k2x + 1)) (lv' := [(10, .int (nI (k2x + 1))), (9, .int (nI 0)), (8, .int (nI (128 * sd))), (0, .ref h0), (1, .int (nI sd)), (2, .ref hb2), (3, .int (nI 0)), (4, .ref hd2), (5, .int (nI f0)), (6, .int (nI n8)), (7, .int (nI 0))]) hx hb dX10_commandMac_243 hl (k := 0) rfl (by first | exact nI_add k2x 1 | rfl) (by decide) rfl (fun ls hl => ?_)
                  refine lv_goto (pc := 246) (tgt := 206) hx hb dX10_commandMac_246 (by decide) ?_
                  exact ih206 (k2x + 1) (qU c' k2x (mac1_200 k2x)) (by omega) (qSeg_s hs2 (by omega) (rfl)) (by omega) _ _ (hP.sub [0, 1, 2, 3, 4, 5, 6, 7, 8, 9, 10, 11, 12, 13, 14, 15] rfl) (hD.sub [0, 1, 2, 3, 4, 5, 6, 7, 8, 9, 10, 11, 12, 13, 14, 15] (by decide) rfl) hS ls (lv_sub hl [0, 1, 2, 3, 4, 5, 6, 7, 8, 9, 10] rfl)
          exact LP206 _ 0 gco (by omega) (qSeg_0) (Nat.lt_succ_self _) _ _ (hP.sub [0, 1, 2, 3, 4, 5, 6, 7, 8, 9, 10, 11, 12, 13, 14, 15] rfl) (hD.sub [0, 1, 2, 3, 4, 5, 6, 7, 8, 9, 10, 11, 12, 13, 14, 15] (by decide) rfl) hS ls (lv_sub hl [0, 1, 2, 3, 4, 5, 6, 7, 8, 9, 10] rfl)
        · skip
          rw [nI_leI (by omega) (by omega)] at c_2
          refine lv_aload_n (pc := 34) hx hb dX10_commandMac_34 rfl (lv_at hl 3 rfl) ?_
          refine va_get (pc := 35) (D := D) (ci := 8) (v := .ref (a 53)) (C := RX10) (T := TX10) (N := 57) hx hb hts iu10 hown hK hP 0 rfl rfl 53 (by decide) (hts _ tw_1098) (fun _ h9 => h9) rfl dX10_commandMac_35 ?_
          refine lv_iload (pc := 38) hx hb dX10_commandMac_38 (lv_at hl 0 rfl) ?_
          refine lv_iload (pc := 40) hx hb dX10_commandMac_40 (lv_at hl 10 rfl) ?_
          refine lv_if_eq (pc := 42) (tgt := 49) hx hb dX10_commandMac_42 (by decide) (fun _ => ?_) (fun c_11 => absurd (by decide) c_11)
          refine lv_aload_n (pc := 49) hx hb dX10_commandMac_49 rfl (lv_at hl 3 rfl) ?_
          refine va_get (pc := 50) (D := D) (ci := 8) (v := .ref (a 45)) (C := RX10) (T := TX10) (N := 57) hx hb hts iu10 hown hK hP 0 rfl rfl 45 (by decide) (hts _ tw_1090) (fun _ h9 => h9) rfl dX10_commandMac_50 ?_
          refine lv_bipush (pc := 53) (v := nI 16) hx hb dX10_commandMac_53 (by decide +kernel) ?_
          refine lv_iload_n (pc := 55) hx hb dX10_commandMac_55 rfl (lv_at hl 4 rfl) ?_
          refine lv_imul (pc := 56) hx hb dX10_commandMac_56 ?_
          refine q_top (y := nI (16 * sd)) (pk_mul 16 sd) ?_
          refine lv_iload (pc := 57) hx hb dX10_commandMac_57 (lv_at hl 0 rfl) ?_
          refine lv_iadd (pc := 59) hx hb dX10_commandMac_59 ?_
          refine q_top (y := nI (16 * sd + k1x)) (nI_add (16 * sd) k1x) ?_
          refine q_bald (pc := 60) hx hb hK hP 10 2 rfl rfl (k := 16 * sd + k1x) (v := qs (gch (16 * sd + k1x))) rfl (by omega) (by omega) rfl dX10_commandMac_60 ?_
          refine q_bastS (pc := 61) hx hb hK hP hD hS 8 2 rfl rfl (k := k1x) rfl (by omega) (by omega) (b := gch (16 * sd + k1x)) (qlo_qs _) dX10_commandMac_61 (fun H locs hP hD hS => ?_)
          have hP : va_P D vwCl [(h0, oM a ar mn tp osz lsz ns ct), (a 8, aZ ta 256 BOX), (a 9, aZ ta 256 UBOX), (a 16, aS ta 240 rk), (a 18, aS ta 16 ce), (a 22, aS ta 700 gm), (a 24, aS ta 16 mac), (a 25, aS ta 16 k1), (a 53, aS ta 16 (qU b' k1x (gch (16 * sd + k1x)))), (a 55, aS ta 16 gco), (a 45, aS ta 32 gch), (a 41, aS ta 256 gke), (a 36, aK ta 2 ru), (a 37, aK ta 2 le), (hb2, aS ta capb gb), (hd2, aS ta capd gd)] H := hP
          have hD : va_D A [(h0, oM a ar mn tp osz lsz ns ct), (a 8, aZ ta 256 BOX), (a 9, aZ ta 256 UBOX), (a 16, aS ta 240 rk), (a 18, aS ta 16 ce), (a 22, aS ta 700 gm), (a 24, aS ta 16 mac), (a 25, aS ta 16 k1), (a 53, aS ta 16 (qU b' k1x (gch (16 * sd + k1x)))), (a 55, aS ta 16 gco), (a 45, aS ta 32 gch), (a 41, aS ta 256 gke), (a 36, aK ta 2 ru), (a 37, aK ta 2 le), (hb2, aS ta capb gb), (hd2, aS ta capd gd)] := hD
          refine lv_iinc (pc := 62) (v := nI (k1x + 1)) (lv' := [(10, .int (nI (k1x + 1))), (9, .int (nI 0)), (8, .int (nI (128 * sd))), (0, .ref h0), (1, .int (nI sd)), (2, .ref hb2), (3, .int (nI 0)), (4, .ref hd2), (5, .int (nI f0)), (6, .int (nI n8)), (7, .int (nI 0))]) hx hb dX10_commandMac_62 hl (k := 0) rfl (by first | exact nI_add k1x 1 | rfl) (by decide) rfl (fun ls hl => ?_)
          refine lv_goto (pc := 65) (tgt := 27) hx hb dX10_commandMac_65 (by decide) ?_
          exact ih27 (k1x + 1) (qU b' k1x (gch (16 * sd + k1x))) (by omega) (qSeg_s hs1 (by omega) (by first | rfl | (simp; done))) (by omega) _ _ (hP.sub [0, 1, 2, 3, 4, 5, 6, 7, 8, 9, 10, 11, 12, 13, 14, 15] rfl) (hD.sub [0, 1, 2, 3, 4, 5, 6, 7, 8, 9, 10, 11, 12, 13, 14, 15] (by decide) rfl) hS ls (lv_sub hl [0, 1, 2, 3, 4, 5, 6, 7, 8, 9, 10] rfl)
    exact LP27 _ 0 gbl (by omega) (qSeg_0) (Nat.lt_succ_self _) _ _ (hP.sub [0, 1, 2, 3, 4, 5, 6, 7, 8, 9, 10, 11, 12, 13, 14, 15] rfl) (hD.sub [0, 1, 2, 3, 4, 5, 6, 7, 8, 9, 10, 11, 12, 13, 14, 15] (by decide) rfl) hS ls (lv_sub hl [0, 1, 2, 3, 4, 5, 6, 7, 8, 9, 10] rfl)
  · skip
    rw [nI_eq (by omega) (by omega)] at c_1
    exfalso; omega
theorem hdX10_opens : yX10_opens.cls ≠ "java/lang/invoke/MethodHandle" ∧ yX10_opens.cls ≠ "java/lang/invoke/VarHandle" ∧ (parseMethodDescriptor yX10_opens.desc).map (fun d => d.parameters.length) = some 2 := ⟨by decide +kernel, by decide +kernel, by decide +kernel⟩
theorem dX10_opens_0 : decode cX10_opens 0 = .ok (.aload_n 0, 1) := by decide +kernel
theorem dX10_opens_1 : decode cX10_opens 1 = .ok (.getfield 240, 3) := by decide +kernel
theorem dX10_opens_4 : decode cX10_opens 4 = .ok (.iload_n 1, 1) := by decide +kernel
theorem dX10_opens_5 : decode cX10_opens 5 = .ok (.iconst 2, 1) := by decide +kernel
theorem dX10_opens_6 : decode cX10_opens 6 = .ok (.iastore, 1) := by decide +kernel
theorem dX10_opens_7 : decode cX10_opens 7 = .ok (.aload_n 0, 1) := by decide +kernel
theorem dX10_opens_8 : decode cX10_opens 8 = .ok (.getfield 243, 3) := by decide +kernel
theorem dX10_opens_11 : decode cX10_opens 11 = .ok (.iload_n 1, 1) := by decide +kernel
theorem dX10_opens_12 : decode cX10_opens 12 = .ok (.iload_n 2, 1) := by decide +kernel
theorem dX10_opens_13 : decode cX10_opens 13 = .ok (.iastore, 1) := by decide +kernel
theorem dX10_opens_14 : decode cX10_opens 14 = .ok (.aload_n 0, 1) := by decide +kernel
theorem dX10_opens_15 : decode cX10_opens 15 = .ok (.getfield 264, 3) := by decide +kernel
theorem dX10_opens_18 : decode cX10_opens 18 = .ok (.iload_n 1, 1) := by decide +kernel
theorem dX10_opens_19 : decode cX10_opens 19 = .ok (.iconst 0, 1) := by decide +kernel
theorem dX10_opens_20 : decode cX10_opens 20 = .ok (.iastore, 1) := by decide +kernel
theorem dX10_opens_21 : decode cX10_opens 21 = .ok (.aload_n 0, 1) := by decide +kernel
theorem dX10_opens_22 : decode cX10_opens 22 = .ok (.getfield 267, 3) := by decide +kernel
theorem dX10_opens_25 : decode cX10_opens 25 = .ok (.iload_n 1, 1) := by decide +kernel
theorem dX10_opens_26 : decode cX10_opens 26 = .ok (.iconst 0, 1) := by decide +kernel
theorem dX10_opens_27 : decode cX10_opens 27 = .ok (.bastore, 1) := by decide +kernel
theorem dX10_opens_28 : decode cX10_opens 28 = .ok (.iconst 0, 1) := by decide +kernel
theorem dX10_opens_29 : decode cX10_opens 29 = .ok (.istore_n 3, 1) := by decide +kernel
theorem dX10_opens_30 : decode cX10_opens 30 = .ok (.iload_n 3, 1) := by decide +kernel
theorem dX10_opens_31 : decode cX10_opens 31 = .ok (.bipush 8, 2) := by decide +kernel
theorem dX10_opens_33 : decode cX10_opens 33 = .ok (.if_icmp .ge 26, 3) := by decide +kernel
theorem dX10_opens_36 : decode cX10_opens 36 = .ok (.aload_n 0, 1) := by decide +kernel
theorem dX10_opens_37 : decode cX10_opens 37 = .ok (.getfield 261, 3) := by decide +kernel
theorem dX10_opens_40 : decode cX10_opens 40 = .ok (.bipush 8, 2) := by decide +kernel
theorem dX10_opens_42 : decode cX10_opens 42 = .ok (.iload_n 1, 1) := by decide +kernel
theorem dX10_opens_43 : decode cX10_opens 43 = .ok (.imul, 1) := by decide +kernel
theorem dX10_opens_44 : decode cX10_opens 44 = .ok (.iload_n 3, 1) := by decide +kernel
theorem dX10_opens_45 : decode cX10_opens 45 = .ok (.iadd, 1) := by decide +kernel
theorem dX10_opens_46 : decode cX10_opens 46 = .ok (.aload_n 0, 1) := by decide +kernel
theorem dX10_opens_47 : decode cX10_opens 47 = .ok (.getfield 289, 3) := by decide +kernel
theorem dX10_opens_50 : decode cX10_opens 50 = .ok (.iload_n 3, 1) := by decide +kernel
theorem dX10_opens_51 : decode cX10_opens 51 = .ok (.baload, 1) := by decide +kernel
theorem dX10_opens_52 : decode cX10_opens 52 = .ok (.bastore, 1) := by decide +kernel
theorem dX10_opens_53 : decode cX10_opens 53 = .ok (.iinc 3 1, 3) := by decide +kernel
theorem dX10_opens_56 : decode cX10_opens 56 = .ok (.goto (-26), 3) := by decide +kernel
theorem dX10_opens_59 : decode cX10_opens 59 = .ok (.return_, 1) := by decide +kernel
set_option maxHeartbeats 4000000 in
set_option maxRecDepth 100000 in
theorem ct_X10_opens (ll : Launch) (D : va_G) (ta : Nat → ClassId) {G : (Nat → Prop) → State → Heap → Prop} (hGok : GOK G) (h0 : Nat) (a : Nat → Nat) (ar : Nat) (mn : Nat) (tp : Nat) (osz : Nat) (lsz : Nat) (ns : Nat) (ct : Nat) (se : Nat → Nat) (lv : Nat → Nat) (cn : Nat → Nat) (ha : Nat → Bool) (gbc : Nat → BitVec 8) (gco : Nat → BitVec 8) (sd : Nat) (l : Nat) (hsd : sd ≤ 1) (sz : Nat) : CT ll yX10_opens cX10_opens 4 none ({ frames := 0, cells := 0, slots := 0, locals := 0 } : Room) D ta G [.ref h0, .int (nI sd), .int (nI l)] [(h0, oM a ar mn tp osz lsz ns ct), (a 39, aK ta 2 se), (a 40, aK ta 2 lv), (a 47, aK ta 2 cn), (a 48, aT ta 2 ha), (a 46, aS ta 16 gbc), (a 55, aS ta 16 gco)] sz (S := (Nat → Nat) × (Nat → Nat) × (Nat → Nat) × (Nat → Bool) × (Nat → BitVec 8)) (fun _ => none) (fun u => (u.1 = qU se sd 2) ∧ (u.2.1 = qU lv sd l) ∧ (u.2.2.1 = qU cn sd 0) ∧ (u.2.2.2.1 = qU ha sd false) ∧ (seg u.2.2.2.2 (8 * sd) 8 = seg gco 0 8) ∧ (∀ j, (j < 8 * sd ∨ 8 * sd + 8 ≤ j) → u.2.2.2.2 j = gbc j)) (fun u => [(h0, oM a ar mn tp osz lsz ns ct), (a 39, aK ta 2 u.1), (a 40, aK ta 2 u.2.1), (a 47, aK ta 2 u.2.2.1), (a 48, aT ta 2 u.2.2.2.1), (a 46, aS ta 16 u.2.2.2.2), (a 55, aS ta 16 gco)]) 0 0 := by
  refine CT.of_v rfl (by decide) (Nat.le_of_ble_eq_true rfl) ?_
  intro pp ee ss mm below meth kc A Q hx hb hml hown hin hts hK hA hsz hG hret H locs hP hD hS ls hl
  have hl : lv_has ls 4 [(0, .ref h0), (1, .int (nI sd)), (2, .int (nI l))] := hl
  refine lv_aload_n (pc := 0) hx hb dX10_opens_0 rfl (lv_at hl 0 rfl) ?_
  refine va_get (pc := 1) (D := D) (ci := 8) (v := .ref (a 39)) (C := RX10) (T := TX10) (N := 57) hx hb hts iu10 hown hK hP 0 rfl rfl 39 (by decide) (hts _ tw_1084) (fun _ h9 => h9) rfl dX10_opens_1 ?_
  refine lv_iload_n (pc := 4) hx hb dX10_opens_4 rfl (lv_at hl 1 rfl) ?_
  refine lv_iconst (pc := 5) (v := nI 2) hx hb dX10_opens_5 (by decide +kernel) ?_
  refine q_iastK (pc := 6) hx hb hK hP hD hS 1 0 rfl rfl (k := sd) rfl (by omega) (by omega) (b := 2) rfl dX10_opens_6 (fun H locs hP hD hS => ?_)
  have hP : va_P D vwCl [(h0, oM a ar mn tp osz lsz ns ct), (a 39, aK ta 2 (qU se sd 2)), (a 40, aK ta 2 lv), (a 47, aK ta 2 cn), (a 48, aT ta 2 ha), (a 46, aS ta 16 gbc), (a 55, aS ta 16 gco)] H := hP
  have hD : va_D A [(h0, oM a ar mn tp osz lsz ns ct), (a 39, aK ta 2 (qU se sd 2)), (a 40, aK ta 2 lv), (a 47, aK ta 2 cn), (a 48, aT ta 2 ha), (a 46, aS ta 16 gbc), (a 55, aS ta 16 gco)] := hD
  refine lv_aload_n (pc := 7) hx hb dX10_opens_7 rfl (lv_at hl 0 rfl) ?_
  refine va_get (pc := 8) (D := D) (ci := 8) (v := .ref (a 40)) (C := RX10) (T := TX10) (N := 57) hx hb hts iu10 hown hK hP 0 rfl rfl 40 (by decide) (hts _ tw_1085) (fun _ h9 => h9) rfl dX10_opens_8 ?_
  refine lv_iload_n (pc := 11) hx hb dX10_opens_11 rfl (lv_at hl 1 rfl) ?_
  refine lv_iload_n (pc := 12) hx hb dX10_opens_12 rfl (lv_at hl 2 rfl) ?_
  refine q_iastK (pc := 13) hx hb hK hP hD hS 2 0 rfl rfl (k := sd) rfl (by omega) (by omega) (b := l) rfl dX10_opens_13 (fun H locs hP hD hS => ?_)
  have hP : va_P D vwCl [(h0, oM a ar mn tp osz lsz ns ct), (a 39, aK ta 2 (qU se sd 2)), (a 40, aK ta 2 (qU lv sd l)), (a 47, aK ta 2 cn), (a 48, aT ta 2 ha), (a 46, aS ta 16 gbc), (a 55, aS ta 16 gco)] H := hP
  have hD : va_D A [(h0, oM a ar mn tp osz lsz ns ct), (a 39, aK ta 2 (qU se sd 2)), (a 40, aK ta 2 (qU lv sd l)), (a 47, aK ta 2 cn), (a 48, aT ta 2 ha), (a 46, aS ta 16 gbc), (a 55, aS ta 16 gco)] := hD
  refine lv_aload_n (pc := 14) hx hb dX10_opens_14 rfl (lv_at hl 0 rfl) ?_
  refine va_get (pc := 15) (D := D) (ci := 8) (v := .ref (a 47)) (C := RX10) (T := TX10) (N := 57) hx hb hts iu10 hown hK hP 0 rfl rfl 47 (by decide) (hts _ tw_1092) (fun _ h9 => h9) rfl dX10_opens_15 ?_
  refine lv_iload_n (pc := 18) hx hb dX10_opens_18 rfl (lv_at hl 1 rfl) ?_
  refine lv_iconst (pc := 19) (v := nI 0) hx hb dX10_opens_19 (by decide +kernel) ?_
  refine q_iastK (pc := 20) hx hb hK hP hD hS 3 0 rfl rfl (k := sd) rfl (by omega) (by omega) (b := 0) rfl dX10_opens_20 (fun H locs hP hD hS => ?_)
  have hP : va_P D vwCl [(h0, oM a ar mn tp osz lsz ns ct), (a 39, aK ta 2 (qU se sd 2)), (a 40, aK ta 2 (qU lv sd l)), (a 47, aK ta 2 (qU cn sd 0)), (a 48, aT ta 2 ha), (a 46, aS ta 16 gbc), (a 55, aS ta 16 gco)] H := hP
  have hD : va_D A [(h0, oM a ar mn tp osz lsz ns ct), (a 39, aK ta 2 (qU se sd 2)), (a 40, aK ta 2 (qU lv sd l)), (a 47, aK ta 2 (qU cn sd 0)), (a 48, aT ta 2 ha), (a 46, aS ta 16 gbc), (a 55, aS ta 16 gco)] := hD
  refine lv_aload_n (pc := 21) hx hb dX10_opens_21 rfl (lv_at hl 0 rfl) ?_
  refine va_get (pc := 22) (D := D) (ci := 8) (v := .ref (a 48)) (C := RX10) (T := TX10) (N := 57) hx hb hts iu10 hown hK hP 0 rfl rfl 48 (by decide) (hts _ tw_1093) (fun _ h9 => h9) rfl dX10_opens_22 ?_
  refine lv_iload_n (pc := 25) hx hb dX10_opens_25 rfl (lv_at hl 1 rfl) ?_
  refine lv_iconst (pc := 26) (v := nI 0) hx hb dX10_opens_26 (by decide +kernel) ?_
  refine q_bastT (pc := 27) hx hb hK hP hD hS 4 3 rfl rfl (k := sd) rfl (by omega) (by omega) (b := false) rfl dX10_opens_27 (fun H locs hP hD hS => ?_)
  have hP : va_P D vwCl [(h0, oM a ar mn tp osz lsz ns ct), (a 39, aK ta 2 (qU se sd 2)), (a 40, aK ta 2 (qU lv sd l)), (a 47, aK ta 2 (qU cn sd 0)), (a 48, aT ta 2 (qU ha sd false)), (a 46, aS ta 16 gbc), (a 55, aS ta 16 gco)] H := hP
  have hD : va_D A [(h0, oM a ar mn tp osz lsz ns ct), (a 39, aK ta 2 (qU se sd 2)), (a 40, aK ta 2 (qU lv sd l)), (a 47, aK ta 2 (qU cn sd 0)), (a 48, aT ta 2 (qU ha sd false)), (a 46, aS ta 16 gbc), (a 55, aS ta 16 gco)] := hD
  refine lv_iconst (pc := 28) (v := nI 0) hx hb dX10_opens_28 (by decide +kernel) ?_
  refine lv_istore_n (pc := 29) (lv' := [(3, .int (nI 0)), (0, .ref h0), (1, .int (nI sd)), (2, .int (nI l))]) hx hb dX10_opens_29 rfl hl (by decide) rfl (fun ls hl => ?_)
  have LP30 : ∀ (nn30 : Nat) (k : Nat) (g' : Nat → BitVec 8), (k ≤ 8) → (qSeg g' gbc (8 * sd) k gco) → (8 - k < nn30) → ∀ (H : Heap) (locs : List Loc), va_P D vwCl [(h0, oM a ar mn tp osz lsz ns ct), (a 39, aK ta 2 (qU se sd 2)), (a 40, aK ta 2 (qU lv sd l)), (a 47, aK ta 2 (qU cn sd 0)), (a 48, aT ta 2 (qU ha sd false)), (a 46, aS ta 16 g'), (a 55, aS ta 16 gco)] H → va_D A [(h0, oM a ar mn tp osz lsz ns ct), (a 39, aK ta 2 (qU se sd 2)), (a 40, aK ta 2 (qU lv sd l)), (a 47, aK ta 2 (qU cn sd 0)), (a 48, aT ta 2 (qU ha sd false)), (a 46, aS ta 16 g'), (a 55, aS ta 16 gco)] → va_S A ss.heap H locs → ∀ ls : Array Slot, lv_has ls 4 [(3, .int (nI k)), (0, .ref h0), (1, .int (nI sd)), (2, .int (nI l))] → W pp ll ee ({ frames := 0, cells := 0, slots := 0, locals := 0 } : Room) ss mm (([.ref h0, .int (nI sd), .int (nI l)] : List Value).toArray) below meth kc H locs 0 0 Q (F0 mm 30 ls []) := by
    intro nn30
    induction nn30 with
    | zero => intro k g' hkk hs hmu; exact absurd hmu (Nat.not_lt_zero _)
    | succ nn30 ih30 =>
      intro k g' hkk hs hmu30 H locs hP hD hS ls hl
      refine lv_iload_n (pc := 30) hx hb dX10_opens_30 rfl (lv_at hl 0 rfl) ?_
      refine lv_bipush (pc := 31) (v := nI 8) hx hb dX10_opens_31 (by decide +kernel) ?_
      refine lv_icmp_ge (pc := 33) (tgt := 59) hx hb dX10_opens_33 (by decide) (fun c_1 => ?_) (fun c_1 => ?_)
      · skip
        rw [nI_leI (by omega) (by omega)] at c_1
        have hq_2 : ((qU se sd 2) = qU se sd 2) ∧ ((qU lv sd l) = qU lv sd l) ∧ ((qU cn sd 0) = qU cn sd 0) ∧ ((qU ha sd false) = qU ha sd false) ∧ (seg g' (8 * sd) 8 = seg gco 0 8) ∧ (∀ j, (j < 8 * sd ∨ 8 * sd + 8 ≤ j) → g' j = gbc j) := by
          refine ⟨rfl, rfl, rfl, rfl, ?_, fun j hj => hs.2 j (by omega)⟩
          rw [seg_copy0 hs (by omega), seg_0]
        exact hret (⟨(qU se sd 2), (qU lv sd l), (qU cn sd 0), (qU ha sd false), (g')⟩ : (Nat → Nat) × (Nat → Nat) × (Nat → Nat) × (Nat → Bool) × (Nat → BitVec 8)) _ _ _ _ dX10_opens_59 hq_2 (hP.sub [0, 1, 2, 3, 4, 5, 6] rfl) (hD.sub [0, 1, 2, 3, 4, 5, 6] (by decide) rfl) hS
      · skip
        rw [nI_leI (by omega) (by omega)] at c_1
        refine lv_aload_n (pc := 36) hx hb dX10_opens_36 rfl (lv_at hl 1 rfl) ?_
        refine va_get (pc := 37) (D := D) (ci := 8) (v := .ref (a 46)) (C := RX10) (T := TX10) (N := 57) hx hb hts iu10 hown hK hP 0 rfl rfl 46 (by decide) (hts _ tw_1091) (fun _ h9 => h9) rfl dX10_opens_37 ?_
        refine lv_bipush (pc := 40) (v := nI 8) hx hb dX10_opens_40 (by decide +kernel) ?_
        refine lv_iload_n (pc := 42) hx hb dX10_opens_42 rfl (lv_at hl 2 rfl) ?_
        refine lv_imul (pc := 43) hx hb dX10_opens_43 ?_
        refine q_top (y := nI (8 * sd)) (pk_mul 8 sd) ?_
        refine lv_iload_n (pc := 44) hx hb dX10_opens_44 rfl (lv_at hl 0 rfl) ?_
        refine lv_iadd (pc := 45) hx hb dX10_opens_45 ?_
        refine q_top (y := nI (8 * sd + k)) (nI_add (8 * sd) k) ?_
        refine lv_aload_n (pc := 46) hx hb dX10_opens_46 rfl (lv_at hl 1 rfl) ?_
        refine va_get (pc := 47) (D := D) (ci := 8) (v := .ref (a 55)) (C := RX10) (T := TX10) (N := 57) hx hb hts iu10 hown hK hP 0 rfl rfl 55 (by decide) (hts _ tw_1100) (fun _ h9 => h9) rfl dX10_opens_47 ?_
        refine lv_iload_n (pc := 50) hx hb dX10_opens_50 rfl (lv_at hl 0 rfl) ?_
        refine q_bald (pc := 51) hx hb hK hP 6 2 rfl rfl (k := k) (v := qs (gco k)) rfl (by omega) (by omega) rfl dX10_opens_51 ?_
        refine q_bastS (pc := 52) hx hb hK hP hD hS 5 2 rfl rfl (k := 8 * sd + k) rfl (by omega) (by omega) (b := gco k) (qlo_qs _) dX10_opens_52 (fun H locs hP hD hS => ?_)
        have hP : va_P D vwCl [(h0, oM a ar mn tp osz lsz ns ct), (a 39, aK ta 2 (qU se sd 2)), (a 40, aK ta 2 (qU lv sd l)), (a 47, aK ta 2 (qU cn sd 0)), (a 48, aT ta 2 (qU ha sd false)), (a 46, aS ta 16 (qU g' (8 * sd + k) (gco k))), (a 55, aS ta 16 gco)] H := hP
        have hD : va_D A [(h0, oM a ar mn tp osz lsz ns ct), (a 39, aK ta 2 (qU se sd 2)), (a 40, aK ta 2 (qU lv sd l)), (a 47, aK ta 2 (qU cn sd 0)), (a 48, aT ta 2 (qU ha sd false)), (a 46, aS ta 16 (qU g' (8 * sd + k) (gco k))), (a 55, aS ta 16 gco)] := hD
        refine lv_iinc (pc := 53) (v := nI (k + 1)) (lv' := [(3, .int (nI (k + 1))), (0, .ref h0), (1, .int (nI sd)), (2, .int (nI l))]) hx hb dX10_opens_53 hl (k := 0) rfl (by first | exact nI_add k 1 | rfl) (by decide) rfl (fun ls hl => ?_)
        refine lv_goto (pc := 56) (tgt := 30) hx hb dX10_opens_56 (by decide) ?_
        exact ih30 (k + 1) (qU g' (8 * sd + k) (gco k)) (by omega) (qSeg_s hs (by omega) (by first | rfl | (simp; done))) (by omega) _ _ (hP.sub [0, 1, 2, 3, 4, 5, 6] rfl) (hD.sub [0, 1, 2, 3, 4, 5, 6] (by decide) rfl) hS ls (lv_sub hl [0, 1, 2, 3] rfl)
  exact LP30 _ 0 gbc (by omega) (qSeg_0) (Nat.lt_succ_self _) _ _ (hP.sub [0, 1, 2, 3, 4, 5, 6] rfl) (hD.sub [0, 1, 2, 3, 4, 5, 6] (by decide) rfl) hS ls (lv_sub hl [0, 1, 2, 3] rfl)
theorem hdX10_prove : yX10_prove.cls ≠ "java/lang/invoke/MethodHandle" ∧ yX10_prove.cls ≠ "java/lang/invoke/VarHandle" ∧ (parseMethodDescriptor yX10_prove.desc).map (fun d => d.parameters.length) = some 1 := ⟨by decide +kernel, by decide +kernel, by decide +kernel⟩
theorem dX10_prove_0 : decode cX10_prove 0 = .ok (.aload_n 0, 1) := by decide +kernel
theorem dX10_prove_1 : decode cX10_prove 1 = .ok (.getfield 240, 3) := by decide +kernel
theorem dX10_prove_4 : decode cX10_prove 4 = .ok (.iconst 0, 1) := by decide +kernel
theorem dX10_prove_5 : decode cX10_prove 5 = .ok (.iaload, 1) := by decide +kernel
theorem dX10_prove_6 : decode cX10_prove 6 = .ok (.iconst 1, 1) := by decide +kernel
theorem dX10_prove_7 : decode cX10_prove 7 = .ok (.if_icmp .ne 16, 3) := by decide +kernel
theorem dX10_prove_10 : decode cX10_prove 10 = .ok (.iload_n 1, 1) := by decide +kernel
theorem dX10_prove_11 : decode cX10_prove 11 = .ok (.aload_n 0, 1) := by decide +kernel
theorem dX10_prove_12 : decode cX10_prove 12 = .ok (.getfield 231, 3) := by decide +kernel
theorem dX10_prove_15 : decode cX10_prove 15 = .ok (.iconst 0, 1) := by decide +kernel
theorem dX10_prove_16 : decode cX10_prove 16 = .ok (.iaload, 1) := by decide +kernel
theorem dX10_prove_17 : decode cX10_prove 17 = .ok (.invokestatic 356, 3) := by decide +kernel
theorem dX10_prove_20 : decode cX10_prove 20 = .ok (.ifCond .ne 5, 3) := by decide +kernel
theorem dX10_prove_23 : decode cX10_prove 23 = .ok (.iconst (-1), 1) := by decide +kernel
theorem dX10_prove_24 : decode cX10_prove 24 = .ok (.ireturn, 1) := by decide +kernel
theorem dX10_prove_25 : decode cX10_prove 25 = .ok (.aload_n 0, 1) := by decide +kernel
theorem dX10_prove_26 : decode cX10_prove 26 = .ok (.getfield 225, 3) := by decide +kernel
theorem dX10_prove_29 : decode cX10_prove 29 = .ok (.iconst 0, 1) := by decide +kernel
theorem dX10_prove_30 : decode cX10_prove 30 = .ok (.bipush (-124), 2) := by decide +kernel
theorem dX10_prove_32 : decode cX10_prove 32 = .ok (.bastore, 1) := by decide +kernel
theorem dX10_prove_33 : decode cX10_prove 33 = .ok (.aload_n 0, 1) := by decide +kernel
theorem dX10_prove_34 : decode cX10_prove 34 = .ok (.getfield 225, 3) := by decide +kernel
theorem dX10_prove_37 : decode cX10_prove 37 = .ok (.iconst 1, 1) := by decide +kernel
theorem dX10_prove_38 : decode cX10_prove 38 = .ok (.bipush (-126), 2) := by decide +kernel
theorem dX10_prove_40 : decode cX10_prove 40 = .ok (.bastore, 1) := by decide +kernel
theorem dX10_prove_41 : decode cX10_prove 41 = .ok (.aload_n 0, 1) := by decide +kernel
theorem dX10_prove_42 : decode cX10_prove 42 = .ok (.getfield 225, 3) := by decide +kernel
theorem dX10_prove_45 : decode cX10_prove 45 = .ok (.iconst 2, 1) := by decide +kernel
theorem dX10_prove_46 : decode cX10_prove 46 = .ok (.iload_n 1, 1) := by decide +kernel
theorem dX10_prove_47 : decode cX10_prove 47 = .ok (.i2b, 1) := by decide +kernel
theorem dX10_prove_48 : decode cX10_prove 48 = .ok (.bastore, 1) := by decide +kernel
theorem dX10_prove_49 : decode cX10_prove 49 = .ok (.aload_n 0, 1) := by decide +kernel
theorem dX10_prove_50 : decode cX10_prove 50 = .ok (.getfield 225, 3) := by decide +kernel
theorem dX10_prove_53 : decode cX10_prove 53 = .ok (.iconst 3, 1) := by decide +kernel
theorem dX10_prove_54 : decode cX10_prove 54 = .ok (.iconst 0, 1) := by decide +kernel
theorem dX10_prove_55 : decode cX10_prove 55 = .ok (.bastore, 1) := by decide +kernel
theorem dX10_prove_56 : decode cX10_prove 56 = .ok (.iconst 0, 1) := by decide +kernel
theorem dX10_prove_57 : decode cX10_prove 57 = .ok (.istore_n 2, 1) := by decide +kernel
theorem dX10_prove_58 : decode cX10_prove 58 = .ok (.iload_n 2, 1) := by decide +kernel
theorem dX10_prove_59 : decode cX10_prove 59 = .ok (.bipush 8, 2) := by decide +kernel
theorem dX10_prove_61 : decode cX10_prove 61 = .ok (.if_icmp .ge 23, 3) := by decide +kernel
theorem dX10_prove_64 : decode cX10_prove 64 = .ok (.aload_n 0, 1) := by decide +kernel
theorem dX10_prove_65 : decode cX10_prove 65 = .ok (.getfield 225, 3) := by decide +kernel
theorem dX10_prove_68 : decode cX10_prove 68 = .ok (.iconst 4, 1) := by decide +kernel
theorem dX10_prove_69 : decode cX10_prove 69 = .ok (.iload_n 2, 1) := by decide +kernel
theorem dX10_prove_70 : decode cX10_prove 70 = .ok (.iadd, 1) := by decide +kernel
theorem dX10_prove_71 : decode cX10_prove 71 = .ok (.aload_n 0, 1) := by decide +kernel
theorem dX10_prove_72 : decode cX10_prove 72 = .ok (.getfield 252, 3) := by decide +kernel
theorem dX10_prove_75 : decode cX10_prove 75 = .ok (.iload_n 2, 1) := by decide +kernel
theorem dX10_prove_76 : decode cX10_prove 76 = .ok (.baload, 1) := by decide +kernel
theorem dX10_prove_77 : decode cX10_prove 77 = .ok (.bastore, 1) := by decide +kernel
theorem dX10_prove_78 : decode cX10_prove 78 = .ok (.iinc 2 1, 3) := by decide +kernel
theorem dX10_prove_81 : decode cX10_prove 81 = .ok (.goto (-23), 3) := by decide +kernel
theorem dX10_prove_84 : decode cX10_prove 84 = .ok (.aload_n 0, 1) := by decide +kernel
theorem dX10_prove_85 : decode cX10_prove 85 = .ok (.iconst 0, 1) := by decide +kernel
theorem dX10_prove_86 : decode cX10_prove 86 = .ok (.aload_n 0, 1) := by decide +kernel
theorem dX10_prove_87 : decode cX10_prove 87 = .ok (.getfield 225, 3) := by decide +kernel
theorem dX10_prove_90 : decode cX10_prove 90 = .ok (.iconst 0, 1) := by decide +kernel
theorem dX10_prove_91 : decode cX10_prove 91 = .ok (.aload_n 0, 1) := by decide +kernel
theorem dX10_prove_92 : decode cX10_prove 92 = .ok (.getfield 225, 3) := by decide +kernel
theorem dX10_prove_95 : decode cX10_prove 95 = .ok (.iconst 4, 1) := by decide +kernel
theorem dX10_prove_96 : decode cX10_prove 96 = .ok (.bipush 8, 2) := by decide +kernel
theorem dX10_prove_98 : decode cX10_prove 98 = .ok (.iconst 1, 1) := by decide +kernel
theorem dX10_prove_99 : decode cX10_prove 99 = .ok (.invokevirtual 360, 3) := by decide +kernel
theorem dX10_prove_102 : decode cX10_prove 102 = .ok (.iconst 0, 1) := by decide +kernel
theorem dX10_prove_103 : decode cX10_prove 103 = .ok (.istore_n 2, 1) := by decide +kernel
theorem dX10_prove_104 : decode cX10_prove 104 = .ok (.iload_n 2, 1) := by decide +kernel
theorem dX10_prove_105 : decode cX10_prove 105 = .ok (.bipush 8, 2) := by decide +kernel
theorem dX10_prove_107 : decode cX10_prove 107 = .ok (.if_icmp .ge 24, 3) := by decide +kernel
theorem dX10_prove_110 : decode cX10_prove 110 = .ok (.aload_n 0, 1) := by decide +kernel
theorem dX10_prove_111 : decode cX10_prove 111 = .ok (.getfield 225, 3) := by decide +kernel
theorem dX10_prove_114 : decode cX10_prove 114 = .ok (.bipush 12, 2) := by decide +kernel
theorem dX10_prove_116 : decode cX10_prove 116 = .ok (.iload_n 2, 1) := by decide +kernel
theorem dX10_prove_117 : decode cX10_prove 117 = .ok (.iadd, 1) := by decide +kernel
theorem dX10_prove_118 : decode cX10_prove 118 = .ok (.aload_n 0, 1) := by decide +kernel
theorem dX10_prove_119 : decode cX10_prove 119 = .ok (.getfield 289, 3) := by decide +kernel
theorem dX10_prove_122 : decode cX10_prove 122 = .ok (.iload_n 2, 1) := by decide +kernel
theorem dX10_prove_123 : decode cX10_prove 123 = .ok (.baload, 1) := by decide +kernel
theorem dX10_prove_124 : decode cX10_prove 124 = .ok (.bastore, 1) := by decide +kernel
theorem dX10_prove_125 : decode cX10_prove 125 = .ok (.iinc 2 1, 3) := by decide +kernel
theorem dX10_prove_128 : decode cX10_prove 128 = .ok (.goto (-24), 3) := by decide +kernel
theorem dX10_prove_131 : decode cX10_prove 131 = .ok (.aload_n 0, 1) := by decide +kernel
theorem dX10_prove_132 : decode cX10_prove 132 = .ok (.bipush 20, 2) := by decide +kernel
theorem dX10_prove_134 : decode cX10_prove 134 = .ok (.putfield 307, 3) := by decide +kernel
theorem dX10_prove_137 : decode cX10_prove 137 = .ok (.aload_n 0, 1) := by decide +kernel
theorem dX10_prove_138 : decode cX10_prove 138 = .ok (.iconst 0, 1) := by decide +kernel
theorem dX10_prove_139 : decode cX10_prove 139 = .ok (.iload_n 1, 1) := by decide +kernel
theorem dX10_prove_140 : decode cX10_prove 140 = .ok (.invokevirtual 364, 3) := by decide +kernel
theorem dX10_prove_143 : decode cX10_prove 143 = .ok (.bipush 20, 2) := by decide +kernel
theorem dX10_prove_145 : decode cX10_prove 145 = .ok (.ireturn, 1) := by decide +kernel
set_option maxHeartbeats 4000000 in
set_option maxRecDepth 100000 in
theorem ct_X10_prove_no (ll : Launch) (D : va_G) (ta : Nat → ClassId) {G : (Nat → Prop) → State → Heap → Prop} (hGok : GOK G) (h0 : Nat) (a : Nat → Nat) (ar : Nat) (mn : Nat) (tp : Nat) (osz : Nat) (lsz : Nat) (ns : Nat) (ct : Nat) (se : Nat → Nat) (ru : Nat → Nat) (l : Int32) (hse : se 0 ≤ 2) (hru : ru 0 < 4) (hno : se 0 = 1 → levB l (decide (ru 0 = 3)) = false) (sz : Nat) : CT ll yX10_prove cX10_prove 3 (some .int) ({ frames := 6, cells := 0, slots := 0, locals := 154 } : Room) D ta G [.ref h0, .int l] [(h0, oM a ar mn tp osz lsz ns ct), (a 39, aK ta 2 se), (a 36, aK ta 2 ru)] sz (S := Int32) (fun u => some (.int u)) (fun u => ((u : Int32) = -1)) (fun u => [(h0, oM a ar mn tp osz lsz ns ct), (a 39, aK ta 2 se), (a 36, aK ta 2 ru)]) 0 0 := by
  refine CT.of_i (r := fun u => u) rfl (by decide) (Nat.le_of_ble_eq_true rfl) ?_
  intro pp ee ss mm below meth kc A Q hx hb hml hown hin hts hK hA hsz hG hret H locs hP hD hS ls hl
  have hl : lv_has ls 3 [(0, .ref h0), (1, .int l)] := hl
  refine lv_aload_n (pc := 0) hx hb dX10_prove_0 rfl (lv_at hl 0 rfl) ?_
  refine va_get (pc := 1) (D := D) (ci := 8) (v := .ref (a 39)) (C := RX10) (T := TX10) (N := 57) hx hb hts iu10 hown hK hP 0 rfl rfl 39 (by decide) (hts _ tw_1084) (fun _ h9 => h9) rfl dX10_prove_1 ?_
  refine lv_iconst (pc := 4) (v := nI 0) hx hb dX10_prove_4 (by decide +kernel) ?_
  refine q_iald (pc := 5) hx hb hK hP 1 0 rfl rfl (k := 0) (v := nI (se 0)) rfl (by omega) (by omega) rfl dX10_prove_5 ?_
  refine lv_iconst (pc := 6) (v := nI 1) hx hb dX10_prove_6 (by decide +kernel) ?_
  refine lv_icmp_ne (pc := 7) (tgt := 23) hx hb dX10_prove_7 (by decide) (fun c_1 => ?_) (fun c_1 => ?_)
  · skip
    rw [nI_eq (by omega) (by omega)] at c_1
    have hs1 := c_1
    refine lv_iconst (pc := 23) (v := (-1)) hx hb dX10_prove_23 (by decide +kernel) ?_
    refine q_top (y := (-1)) (by first | rfl | decide +kernel | (simp; done)) ?_
    have hq_2 : (((-1) : Int32) = -1) := by
      first | rfl | trivial | (refine ⟨?_, ?_⟩ <;> rfl) | (simp; done) | omega
    exact hret (-1) _ _ _ _ dX10_prove_24 hq_2 (hP.sub [0, 1, 2] rfl) (hD.sub [0, 1, 2] (by decide) rfl) hS
  · skip
    rw [nI_eq (by omega) (by omega)] at c_1
    have hs1 := c_1
    refine lv_iload_n (pc := 10) hx hb dX10_prove_10 rfl (lv_at hl 1 rfl) ?_
    refine lv_aload_n (pc := 11) hx hb dX10_prove_11 rfl (lv_at hl 0 rfl) ?_
    refine va_get (pc := 12) (D := D) (ci := 8) (v := .ref (a 36)) (C := RX10) (T := TX10) (N := 57) hx hb hts iu10 hown hK hP 0 rfl rfl 36 (by decide) (hts _ tw_1081) (fun _ h9 => h9) rfl dX10_prove_12 ?_
    refine lv_iconst (pc := 15) (v := nI 0) hx hb dX10_prove_15 (by decide +kernel) ?_
    refine q_iald (pc := 16) hx hb hK hP 2 0 rfl rfl (k := 0) (v := nI (ru 0)) rfl (by omega) (by omega) rfl dX10_prove_16 ?_
    refine cs_S (pc := 17) (idx := 356) (n := 2) (wr := [(h0, oM a ar mn tp osz lsz ns ct), (a 39, aK ta 2 se), (a 36, aK ta 2 ru)]) (As := [.int l, .int (nI (ru 0))]) (rest := []) hx hb hml hown hts hGok hK hA hG hl.1 hP hD hS (ct_X10_isLevel ll D ta hGok l (ru 0) (by first | assumption | omega | rfl | decide) H.size) tw_1364 tw_1362 tw_1363 tw_75 hdX10_isLevel rfl ⟨rfl, rfl, Nat.le_of_ble_eq_true rfl, Nat.le_of_ble_eq_true rfl, Nat.le_of_ble_eq_true rfl, Nat.le_of_ble_eq_true rfl⟩ [] [0, 1, 2] rfl rfl (by decide) rfl (Nat.le_of_ble_eq_true rfl) dX10_prove_17 (fun u H locs hq hP hD hS => ?_)
    generalize u = z_17 at hq hP hD ⊢
    have hq : (z_17 = levB l (decide ((ru 0) = 3))) := hq
    have hz_17 := hq
    refine W.eq (g2 := F0 mm 20 ls [.int (qb z_17)]) rfl ?_
    have hP : va_P D vwCl [(h0, oM a ar mn tp osz lsz ns ct), (a 39, aK ta 2 se), (a 36, aK ta 2 ru)] H := hP
    have hD : va_D A [(h0, oM a ar mn tp osz lsz ns ct), (a 39, aK ta 2 se), (a 36, aK ta 2 ru)] := hD
    refine lv_if_ne (pc := 20) (tgt := 25) hx hb dX10_prove_20 (by decide) (fun c_3 => ?_) (fun c_3 => ?_)
    · skip
      rw [q_beq] at c_3
      try rw [Bool.not_eq_false] at c_3
      rw [hz_17, hno hs1] at c_3; cases c_3
    · skip
      rw [q_beq] at c_3
      try rw [Bool.not_eq_false] at c_3
      refine lv_iconst (pc := 23) (v := (-1)) hx hb dX10_prove_23 (by decide +kernel) ?_
      refine q_top (y := (-1)) (by first | rfl | decide +kernel | (simp; done)) ?_
      have hq_4 : (((-1) : Int32) = -1) := by
        first | rfl | trivial | (refine ⟨?_, ?_⟩ <;> rfl) | (simp; done) | omega
      exact hret (-1) _ _ _ _ dX10_prove_24 hq_4 (hP.sub [0, 1, 2] rfl) (hD.sub [0, 1, 2] (by decide) rfl) hS
set_option maxHeartbeats 4000000 in
set_option maxRecDepth 100000 in
theorem ct_X10_prove_2 (ll : Launch) (D : va_G) (ta : Nat → ClassId) {G : (Nat → Prop) → State → Heap → Prop} (hGok : GOK G) (h0 : Nat) (a : Nat → Nat) (ar : Nat) (mn : Nat) (tp : Nat) (osz : Nat) (lsz : Nat) (ns : Nat) (ct : Nat) (bi : Nat → Bool) (tu : Nat → Bool) (cd : Nat → Bool) (sk : Nat → Bool) (hf : Nat → Bool) (wd : Nat → Bool) (gm : Nat → BitVec 8) (mac : Nat → BitVec 8) (gbl : Nat → BitVec 8) (gco : Nat → BitVec 8) (gch : Nat → BitVec 8) (gke : Nat → BitVec 8) (gli : Nat → BitVec 8) (gth : Nat → BitVec 8) (gbc : Nat → BitVec 8) (ru : Nat → Nat) (le : Nat → Nat) (se : Nat → Nat) (lv : Nat → Nat) (cn : Nat → Nat) (ha : Nat → Bool) (l : Nat) (hse0 : se 0 = 1) (hru : ru 0 = 2) (hl64 : l < 64) (hlev : levB (nI l) false = true) (sz : Nat) : CT ll yX10_prove cX10_prove 3 (some .int) ({ frames := 6, cells := 0, slots := 0, locals := 154 } : Room) D ta G [.ref h0, .int (nI l)] [(h0, oM a ar mn tp osz lsz ns ct), (a 0, aK ta 64 tIP), (a 1, aK ta 48 tSPR), (a 2, aK ta 32 tMIX), (a 3, aK ta 56 tCH), (a 4, aK ta 48 tSEC), (a 5, aK ta 512 tSBX), (a 10, aB ta 64 bi), (a 11, aB ta 64 tu), (a 12, aB ta 56 cd), (a 13, aB ta 768 sk), (a 14, aB ta 32 hf), (a 15, aB ta 48 wd), (a 22, aS ta 700 gm), (a 24, aS ta 16 mac), (a 53, aS ta 16 gbl), (a 55, aS ta 16 gco), (a 45, aS ta 32 gch), (a 41, aS ta 256 gke), (a 36, aK ta 2 ru), (a 37, aK ta 2 le), (a 31, aS ta 300 gli), (a 43, aS ta 16 gth), (a 39, aK ta 2 se), (a 40, aK ta 2 lv), (a 47, aK ta 2 cn), (a 48, aT ta 2 ha), (a 46, aS ta 16 gbc)] sz (S := (Nat → Bool) × (Nat → Bool) × (Nat → Bool) × (Nat → Bool) × (Nat → Bool) × (Nat → Bool) × (Nat → BitVec 8) × (Nat → BitVec 8) × (Nat → BitVec 8) × (Nat → BitVec 8) × (Nat → BitVec 8) × (Nat → BitVec 8) × (Nat → BitVec 8) × (Nat → Nat) × (Nat → Nat) × (Nat → Nat) × (Nat → Bool) × Nat) (fun u => some (.int (nI 20))) (fun u => (seg u.2.2.2.2.2.2.2.2.2.1 0 8 = chain2 (seg gke 32 16) 0 [] (prvC l (seg gth 0 8))) ∧ (qL u.2.2.2.2.2.2.2.2.2.2.2.1 20 = (prvC l (seg gth 0 8)) ++ seg u.2.2.2.2.2.2.2.2.2.1 0 8) ∧ (seg u.2.2.2.2.2.2.2.2.2.2.1 0 16 = seg u.2.2.2.2.2.2.2.2.2.1 0 16) ∧ (∀ j, 16 ≤ j → u.2.2.2.2.2.2.2.2.2.2.1 j = gch j) ∧ (u.2.2.2.2.2.2.2.2.2.2.2.2.2.1 = qU se 0 2) ∧ (u.2.2.2.2.2.2.2.2.2.2.2.2.2.2.1 = qU lv 0 l) ∧ (u.2.2.2.2.2.2.2.2.2.2.2.2.2.2.2.1 = qU cn 0 0) ∧ (u.2.2.2.2.2.2.2.2.2.2.2.2.2.2.2.2.1 = qU ha 0 false) ∧ (seg u.2.2.2.2.2.2.2.2.2.2.2.2.1 0 8 = seg u.2.2.2.2.2.2.2.2.2.1 0 8) ∧ (∀ j, 8 ≤ j → u.2.2.2.2.2.2.2.2.2.2.2.2.1 j = gbc j)) (fun u => [(h0, oM a ar u.2.2.2.2.2.2.2.2.2.2.2.2.2.2.2.2.2 tp osz 20 ns ct), (a 0, aK ta 64 tIP), (a 1, aK ta 48 tSPR), (a 2, aK ta 32 tMIX), (a 3, aK ta 56 tCH), (a 4, aK ta 48 tSEC), (a 5, aK ta 512 tSBX), (a 10, aB ta 64 u.1), (a 11, aB ta 64 u.2.1), (a 12, aB ta 56 u.2.2.1), (a 13, aB ta 768 u.2.2.2.1), (a 14, aB ta 32 u.2.2.2.2.1), (a 15, aB ta 48 u.2.2.2.2.2.1), (a 22, aS ta 700 u.2.2.2.2.2.2.1), (a 24, aS ta 16 u.2.2.2.2.2.2.2.1), (a 53, aS ta 16 u.2.2.2.2.2.2.2.2.1), (a 55, aS ta 16 u.2.2.2.2.2.2.2.2.2.1), (a 45, aS ta 32 u.2.2.2.2.2.2.2.2.2.2.1), (a 41, aS ta 256 gke), (a 36, aK ta 2 ru), (a 37, aK ta 2 le), (a 31, aS ta 300 u.2.2.2.2.2.2.2.2.2.2.2.1), (a 43, aS ta 16 gth), (a 39, aK ta 2 u.2.2.2.2.2.2.2.2.2.2.2.2.2.1), (a 40, aK ta 2 u.2.2.2.2.2.2.2.2.2.2.2.2.2.2.1), (a 47, aK ta 2 u.2.2.2.2.2.2.2.2.2.2.2.2.2.2.2.1), (a 48, aT ta 2 u.2.2.2.2.2.2.2.2.2.2.2.2.2.2.2.2.1), (a 46, aS ta 16 u.2.2.2.2.2.2.2.2.2.2.2.2.1)]) 0 0 := by
  refine CT.of_i (r := fun u => nI 20) rfl (by decide) (Nat.le_of_ble_eq_true rfl) ?_
  intro pp ee ss mm below meth kc A Q hx hb hml hown hin hts hK hA hsz hG hret H locs hP hD hS ls hl
  have hl : lv_has ls 3 [(0, .ref h0), (1, .int (nI l))] := hl
  refine lv_aload_n (pc := 0) hx hb dX10_prove_0 rfl (lv_at hl 0 rfl) ?_
  refine va_get (pc := 1) (D := D) (ci := 8) (v := .ref (a 39)) (C := RX10) (T := TX10) (N := 57) hx hb hts iu10 hown hK hP 0 rfl rfl 39 (by decide) (hts _ tw_1084) (fun _ h9 => h9) rfl dX10_prove_1 ?_
  refine lv_iconst (pc := 4) (v := nI 0) hx hb dX10_prove_4 (by decide +kernel) ?_
  refine q_iald (pc := 5) hx hb hK hP 23 0 rfl rfl (k := 0) (v := nI (se 0)) rfl (by omega) (by omega) rfl dX10_prove_5 ?_
  refine lv_iconst (pc := 6) (v := nI 1) hx hb dX10_prove_6 (by decide +kernel) ?_
  refine lv_icmp_ne (pc := 7) (tgt := 23) hx hb dX10_prove_7 (by decide) (fun c_1 => ?_) (fun c_1 => ?_)
  · skip
    rw [nI_eq (by omega) (by omega)] at c_1
    exfalso; omega
  · skip
    rw [nI_eq (by omega) (by omega)] at c_1
    refine lv_iload_n (pc := 10) hx hb dX10_prove_10 rfl (lv_at hl 1 rfl) ?_
    refine lv_aload_n (pc := 11) hx hb dX10_prove_11 rfl (lv_at hl 0 rfl) ?_
    refine va_get (pc := 12) (D := D) (ci := 8) (v := .ref (a 36)) (C := RX10) (T := TX10) (N := 57) hx hb hts iu10 hown hK hP 0 rfl rfl 36 (by decide) (hts _ tw_1081) (fun _ h9 => h9) rfl dX10_prove_12 ?_
    refine lv_iconst (pc := 15) (v := nI 0) hx hb dX10_prove_15 (by decide +kernel) ?_
    refine q_iald (pc := 16) hx hb hK hP 19 0 rfl rfl (k := 0) (v := nI (ru 0)) rfl (by omega) (by omega) rfl dX10_prove_16 ?_
    refine cs_S (pc := 17) (idx := 356) (n := 2) (wr := [(h0, oM a ar mn tp osz lsz ns ct), (a 0, aK ta 64 tIP), (a 1, aK ta 48 tSPR), (a 2, aK ta 32 tMIX), (a 3, aK ta 56 tCH), (a 4, aK ta 48 tSEC), (a 5, aK ta 512 tSBX), (a 10, aB ta 64 bi), (a 11, aB ta 64 tu), (a 12, aB ta 56 cd), (a 13, aB ta 768 sk), (a 14, aB ta 32 hf), (a 15, aB ta 48 wd), (a 22, aS ta 700 gm), (a 24, aS ta 16 mac), (a 53, aS ta 16 gbl), (a 55, aS ta 16 gco), (a 45, aS ta 32 gch), (a 41, aS ta 256 gke), (a 36, aK ta 2 ru), (a 37, aK ta 2 le), (a 31, aS ta 300 gli), (a 43, aS ta 16 gth), (a 39, aK ta 2 se), (a 40, aK ta 2 lv), (a 47, aK ta 2 cn), (a 48, aT ta 2 ha), (a 46, aS ta 16 gbc)]) (As := [.int (nI l), .int (nI (ru 0))]) (rest := []) hx hb hml hown hts hGok hK hA hG hl.1 hP hD hS (ct_X10_isLevel ll D ta hGok (nI l) (ru 0) (by first | assumption | omega | rfl | decide) H.size) tw_1364 tw_1362 tw_1363 tw_75 hdX10_isLevel rfl ⟨rfl, rfl, Nat.le_of_ble_eq_true rfl, Nat.le_of_ble_eq_true rfl, Nat.le_of_ble_eq_true rfl, Nat.le_of_ble_eq_true rfl⟩ [] [0, 1, 2, 3, 4, 5, 6, 7, 8, 9, 10, 11, 12, 13, 14, 15, 16, 17, 18, 19, 20, 21, 22, 23, 24, 25, 26, 27] rfl rfl (by decide) rfl (Nat.le_of_ble_eq_true rfl) dX10_prove_17 (fun u H locs hq hP hD hS => ?_)
    generalize u = z_17 at hq hP hD ⊢
    have hq : (z_17 = levB (nI l) (decide ((ru 0) = 3))) := hq
    have hz_17 := hq
    refine W.eq (g2 := F0 mm 20 ls [.int (qb z_17)]) rfl ?_
    have hP : va_P D vwCl [(h0, oM a ar mn tp osz lsz ns ct), (a 0, aK ta 64 tIP), (a 1, aK ta 48 tSPR), (a 2, aK ta 32 tMIX), (a 3, aK ta 56 tCH), (a 4, aK ta 48 tSEC), (a 5, aK ta 512 tSBX), (a 10, aB ta 64 bi), (a 11, aB ta 64 tu), (a 12, aB ta 56 cd), (a 13, aB ta 768 sk), (a 14, aB ta 32 hf), (a 15, aB ta 48 wd), (a 22, aS ta 700 gm), (a 24, aS ta 16 mac), (a 53, aS ta 16 gbl), (a 55, aS ta 16 gco), (a 45, aS ta 32 gch), (a 41, aS ta 256 gke), (a 36, aK ta 2 ru), (a 37, aK ta 2 le), (a 31, aS ta 300 gli), (a 43, aS ta 16 gth), (a 39, aK ta 2 se), (a 40, aK ta 2 lv), (a 47, aK ta 2 cn), (a 48, aT ta 2 ha), (a 46, aS ta 16 gbc)] H := hP
    have hD : va_D A [(h0, oM a ar mn tp osz lsz ns ct), (a 0, aK ta 64 tIP), (a 1, aK ta 48 tSPR), (a 2, aK ta 32 tMIX), (a 3, aK ta 56 tCH), (a 4, aK ta 48 tSEC), (a 5, aK ta 512 tSBX), (a 10, aB ta 64 bi), (a 11, aB ta 64 tu), (a 12, aB ta 56 cd), (a 13, aB ta 768 sk), (a 14, aB ta 32 hf), (a 15, aB ta 48 wd), (a 22, aS ta 700 gm), (a 24, aS ta 16 mac), (a 53, aS ta 16 gbl), (a 55, aS ta 16 gco), (a 45, aS ta 32 gch), (a 41, aS ta 256 gke), (a 36, aK ta 2 ru), (a 37, aK ta 2 le), (a 31, aS ta 300 gli), (a 43, aS ta 16 gth), (a 39, aK ta 2 se), (a 40, aK ta 2 lv), (a 47, aK ta 2 cn), (a 48, aT ta 2 ha), (a 46, aS ta 16 gbc)] := hD
    refine lv_if_ne (pc := 20) (tgt := 25) hx hb dX10_prove_20 (by decide) (fun c_2 => ?_) (fun c_2 => ?_)
    · skip
      rw [q_beq] at c_2
      try rw [Bool.not_eq_false] at c_2
      refine lv_aload_n (pc := 25) hx hb dX10_prove_25 rfl (lv_at hl 0 rfl) ?_
      refine va_get (pc := 26) (D := D) (ci := 8) (v := .ref (a 31)) (C := RX10) (T := TX10) (N := 57) hx hb hts iu10 hown hK hP 0 rfl rfl 31 (by decide) (hts _ tw_1076) (fun _ h9 => h9) rfl dX10_prove_26 ?_
      refine lv_iconst (pc := 29) (v := nI 0) hx hb dX10_prove_29 (by decide +kernel) ?_
      refine lv_bipush (pc := 30) (v := (-124)) hx hb dX10_prove_30 (by decide +kernel) ?_
      refine q_bastS (pc := 32) hx hb hK hP hD hS 21 2 rfl rfl (k := 0) rfl (by omega) (by omega) (b := qlo (-124)) rfl dX10_prove_32 (fun H locs hP hD hS => ?_)
      have hP : va_P D vwCl [(h0, oM a ar mn tp osz lsz ns ct), (a 0, aK ta 64 tIP), (a 1, aK ta 48 tSPR), (a 2, aK ta 32 tMIX), (a 3, aK ta 56 tCH), (a 4, aK ta 48 tSEC), (a 5, aK ta 512 tSBX), (a 10, aB ta 64 bi), (a 11, aB ta 64 tu), (a 12, aB ta 56 cd), (a 13, aB ta 768 sk), (a 14, aB ta 32 hf), (a 15, aB ta 48 wd), (a 22, aS ta 700 gm), (a 24, aS ta 16 mac), (a 53, aS ta 16 gbl), (a 55, aS ta 16 gco), (a 45, aS ta 32 gch), (a 41, aS ta 256 gke), (a 36, aK ta 2 ru), (a 37, aK ta 2 le), (a 31, aS ta 300 (qU gli 0 (qlo (-124)))), (a 43, aS ta 16 gth), (a 39, aK ta 2 se), (a 40, aK ta 2 lv), (a 47, aK ta 2 cn), (a 48, aT ta 2 ha), (a 46, aS ta 16 gbc)] H := hP
      have hD : va_D A [(h0, oM a ar mn tp osz lsz ns ct), (a 0, aK ta 64 tIP), (a 1, aK ta 48 tSPR), (a 2, aK ta 32 tMIX), (a 3, aK ta 56 tCH), (a 4, aK ta 48 tSEC), (a 5, aK ta 512 tSBX), (a 10, aB ta 64 bi), (a 11, aB ta 64 tu), (a 12, aB ta 56 cd), (a 13, aB ta 768 sk), (a 14, aB ta 32 hf), (a 15, aB ta 48 wd), (a 22, aS ta 700 gm), (a 24, aS ta 16 mac), (a 53, aS ta 16 gbl), (a 55, aS ta 16 gco), (a 45, aS ta 32 gch), (a 41, aS ta 256 gke), (a 36, aK ta 2 ru), (a 37, aK ta 2 le), (a 31, aS ta 300 (qU gli 0 (qlo (-124)))), (a 43, aS ta 16 gth), (a 39, aK ta 2 se), (a 40, aK ta 2 lv), (a 47, aK ta 2 cn), (a 48, aT ta 2 ha), (a 46, aS ta 16 gbc)] := hD
      refine lv_aload_n (pc := 33) hx hb dX10_prove_33 rfl (lv_at hl 0 rfl) ?_
      refine va_get (pc := 34) (D := D) (ci := 8) (v := .ref (a 31)) (C := RX10) (T := TX10) (N := 57) hx hb hts iu10 hown hK hP 0 rfl rfl 31 (by decide) (hts _ tw_1076) (fun _ h9 => h9) rfl dX10_prove_34 ?_
      refine lv_iconst (pc := 37) (v := nI 1) hx hb dX10_prove_37 (by decide +kernel) ?_
      refine lv_bipush (pc := 38) (v := (-126)) hx hb dX10_prove_38 (by decide +kernel) ?_
      refine q_bastS (pc := 40) hx hb hK hP hD hS 21 2 rfl rfl (k := 1) rfl (by omega) (by omega) (b := qlo (-126)) rfl dX10_prove_40 (fun H locs hP hD hS => ?_)
      have hP : va_P D vwCl [(h0, oM a ar mn tp osz lsz ns ct), (a 0, aK ta 64 tIP), (a 1, aK ta 48 tSPR), (a 2, aK ta 32 tMIX), (a 3, aK ta 56 tCH), (a 4, aK ta 48 tSEC), (a 5, aK ta 512 tSBX), (a 10, aB ta 64 bi), (a 11, aB ta 64 tu), (a 12, aB ta 56 cd), (a 13, aB ta 768 sk), (a 14, aB ta 32 hf), (a 15, aB ta 48 wd), (a 22, aS ta 700 gm), (a 24, aS ta 16 mac), (a 53, aS ta 16 gbl), (a 55, aS ta 16 gco), (a 45, aS ta 32 gch), (a 41, aS ta 256 gke), (a 36, aK ta 2 ru), (a 37, aK ta 2 le), (a 31, aS ta 300 (qU (qU gli 0 (qlo (-124))) 1 (qlo (-126)))), (a 43, aS ta 16 gth), (a 39, aK ta 2 se), (a 40, aK ta 2 lv), (a 47, aK ta 2 cn), (a 48, aT ta 2 ha), (a 46, aS ta 16 gbc)] H := hP
      have hD : va_D A [(h0, oM a ar mn tp osz lsz ns ct), (a 0, aK ta 64 tIP), (a 1, aK ta 48 tSPR), (a 2, aK ta 32 tMIX), (a 3, aK ta 56 tCH), (a 4, aK ta 48 tSEC), (a 5, aK ta 512 tSBX), (a 10, aB ta 64 bi), (a 11, aB ta 64 tu), (a 12, aB ta 56 cd), (a 13, aB ta 768 sk), (a 14, aB ta 32 hf), (a 15, aB ta 48 wd), (a 22, aS ta 700 gm), (a 24, aS ta 16 mac), (a 53, aS ta 16 gbl), (a 55, aS ta 16 gco), (a 45, aS ta 32 gch), (a 41, aS ta 256 gke), (a 36, aK ta 2 ru), (a 37, aK ta 2 le), (a 31, aS ta 300 (qU (qU gli 0 (qlo (-124))) 1 (qlo (-126)))), (a 43, aS ta 16 gth), (a 39, aK ta 2 se), (a 40, aK ta 2 lv), (a 47, aK ta 2 cn), (a 48, aT ta 2 ha), (a 46, aS ta 16 gbc)] := hD
      refine lv_aload_n (pc := 41) hx hb dX10_prove_41 rfl (lv_at hl 0 rfl) ?_
      refine va_get (pc := 42) (D := D) (ci := 8) (v := .ref (a 31)) (C := RX10) (T := TX10) (N := 57) hx hb hts iu10 hown hK hP 0 rfl rfl 31 (by decide) (hts _ tw_1076) (fun _ h9 => h9) rfl dX10_prove_42 ?_
      refine lv_iconst (pc := 45) (v := nI 2) hx hb dX10_prove_45 (by decide +kernel) ?_
      refine lv_iload_n (pc := 46) hx hb dX10_prove_46 rfl (lv_at hl 1 rfl) ?_
      refine lv_i2b (pc := 47) (v := qs (qlo (nI l))) hx hb dX10_prove_47 (q_i2b _) ?_
      refine q_bastS (pc := 48) hx hb hK hP hD hS 21 2 rfl rfl (k := 2) rfl (by omega) (by omega) (b := qlo (nI l)) (qlo_qs _) dX10_prove_48 (fun H locs hP hD hS => ?_)
      have hP : va_P D vwCl [(h0, oM a ar mn tp osz lsz ns ct), (a 0, aK ta 64 tIP), (a 1, aK ta 48 tSPR), (a 2, aK ta 32 tMIX), (a 3, aK ta 56 tCH), (a 4, aK ta 48 tSEC), (a 5, aK ta 512 tSBX), (a 10, aB ta 64 bi), (a 11, aB ta 64 tu), (a 12, aB ta 56 cd), (a 13, aB ta 768 sk), (a 14, aB ta 32 hf), (a 15, aB ta 48 wd), (a 22, aS ta 700 gm), (a 24, aS ta 16 mac), (a 53, aS ta 16 gbl), (a 55, aS ta 16 gco), (a 45, aS ta 32 gch), (a 41, aS ta 256 gke), (a 36, aK ta 2 ru), (a 37, aK ta 2 le), (a 31, aS ta 300 (qU (qU (qU gli 0 (qlo (-124))) 1 (qlo (-126))) 2 (qlo (nI l)))), (a 43, aS ta 16 gth), (a 39, aK ta 2 se), (a 40, aK ta 2 lv), (a 47, aK ta 2 cn), (a 48, aT ta 2 ha), (a 46, aS ta 16 gbc)] H := hP
      have hD : va_D A [(h0, oM a ar mn tp osz lsz ns ct), (a 0, aK ta 64 tIP), (a 1, aK ta 48 tSPR), (a 2, aK ta 32 tMIX), (a 3, aK ta 56 tCH), (a 4, aK ta 48 tSEC), (a 5, aK ta 512 tSBX), (a 10, aB ta 64 bi), (a 11, aB ta 64 tu), (a 12, aB ta 56 cd), (a 13, aB ta 768 sk), (a 14, aB ta 32 hf), (a 15, aB ta 48 wd), (a 22, aS ta 700 gm), (a 24, aS ta 16 mac), (a 53, aS ta 16 gbl), (a 55, aS ta 16 gco), (a 45, aS ta 32 gch), (a 41, aS ta 256 gke), (a 36, aK ta 2 ru), (a 37, aK ta 2 le), (a 31, aS ta 300 (qU (qU (qU gli 0 (qlo (-124))) 1 (qlo (-126))) 2 (qlo (nI l)))), (a 43, aS ta 16 gth), (a 39, aK ta 2 se), (a 40, aK ta 2 lv), (a 47, aK ta 2 cn), (a 48, aT ta 2 ha), (a 46, aS ta 16 gbc)] := hD
      refine lv_aload_n (pc := 49) hx hb dX10_prove_49 rfl (lv_at hl 0 rfl) ?_
      refine va_get (pc := 50) (D := D) (ci := 8) (v := .ref (a 31)) (C := RX10) (T := TX10) (N := 57) hx hb hts iu10 hown hK hP 0 rfl rfl 31 (by decide) (hts _ tw_1076) (fun _ h9 => h9) rfl dX10_prove_50 ?_
      refine lv_iconst (pc := 53) (v := nI 3) hx hb dX10_prove_53 (by decide +kernel) ?_
      refine lv_iconst (pc := 54) (v := nI 0) hx hb dX10_prove_54 (by decide +kernel) ?_
      refine q_bastS (pc := 55) hx hb hK hP hD hS 21 2 rfl rfl (k := 3) rfl (by omega) (by omega) (b := BitVec.ofNat 8 0) (qlo_nI _) dX10_prove_55 (fun H locs hP hD hS => ?_)
      have hP : va_P D vwCl [(h0, oM a ar mn tp osz lsz ns ct), (a 0, aK ta 64 tIP), (a 1, aK ta 48 tSPR), (a 2, aK ta 32 tMIX), (a 3, aK ta 56 tCH), (a 4, aK ta 48 tSEC), (a 5, aK ta 512 tSBX), (a 10, aB ta 64 bi), (a 11, aB ta 64 tu), (a 12, aB ta 56 cd), (a 13, aB ta 768 sk), (a 14, aB ta 32 hf), (a 15, aB ta 48 wd), (a 22, aS ta 700 gm), (a 24, aS ta 16 mac), (a 53, aS ta 16 gbl), (a 55, aS ta 16 gco), (a 45, aS ta 32 gch), (a 41, aS ta 256 gke), (a 36, aK ta 2 ru), (a 37, aK ta 2 le), (a 31, aS ta 300 (qU (qU (qU (qU gli 0 (qlo (-124))) 1 (qlo (-126))) 2 (qlo (nI l))) 3 (BitVec.ofNat 8 0))), (a 43, aS ta 16 gth), (a 39, aK ta 2 se), (a 40, aK ta 2 lv), (a 47, aK ta 2 cn), (a 48, aT ta 2 ha), (a 46, aS ta 16 gbc)] H := hP
      have hD : va_D A [(h0, oM a ar mn tp osz lsz ns ct), (a 0, aK ta 64 tIP), (a 1, aK ta 48 tSPR), (a 2, aK ta 32 tMIX), (a 3, aK ta 56 tCH), (a 4, aK ta 48 tSEC), (a 5, aK ta 512 tSBX), (a 10, aB ta 64 bi), (a 11, aB ta 64 tu), (a 12, aB ta 56 cd), (a 13, aB ta 768 sk), (a 14, aB ta 32 hf), (a 15, aB ta 48 wd), (a 22, aS ta 700 gm), (a 24, aS ta 16 mac), (a 53, aS ta 16 gbl), (a 55, aS ta 16 gco), (a 45, aS ta 32 gch), (a 41, aS ta 256 gke), (a 36, aK ta 2 ru), (a 37, aK ta 2 le), (a 31, aS ta 300 (qU (qU (qU (qU gli 0 (qlo (-124))) 1 (qlo (-126))) 2 (qlo (nI l))) 3 (BitVec.ofNat 8 0))), (a 43, aS ta 16 gth), (a 39, aK ta 2 se), (a 40, aK ta 2 lv), (a 47, aK ta 2 cn), (a 48, aT ta 2 ha), (a 46, aS ta 16 gbc)] := hD
      refine lv_iconst (pc := 56) (v := nI 0) hx hb dX10_prove_56 (by decide +kernel) ?_
      refine lv_istore_n (pc := 57) (lv' := [(2, .int (nI 0)), (0, .ref h0), (1, .int (nI l))]) hx hb dX10_prove_57 rfl hl (by decide) rfl (fun ls hl => ?_)
      have LP58 : ∀ (nn58 : Nat) (k1x : Nat) (p' : Nat → BitVec 8), (k1x ≤ 8) → (qSeg p' ((qU (qU (qU (qU gli 0 (qlo (-124))) 1 (qlo (-126))) 2 (qlo (nI l))) 3 (BitVec.ofNat 8 0))) 4 k1x gth) → (8 - k1x < nn58) → ∀ (H : Heap) (locs : List Loc), va_P D vwCl [(h0, oM a ar mn tp osz lsz ns ct), (a 0, aK ta 64 tIP), (a 1, aK ta 48 tSPR), (a 2, aK ta 32 tMIX), (a 3, aK ta 56 tCH), (a 4, aK ta 48 tSEC), (a 5, aK ta 512 tSBX), (a 10, aB ta 64 bi), (a 11, aB ta 64 tu), (a 12, aB ta 56 cd), (a 13, aB ta 768 sk), (a 14, aB ta 32 hf), (a 15, aB ta 48 wd), (a 22, aS ta 700 gm), (a 24, aS ta 16 mac), (a 53, aS ta 16 gbl), (a 55, aS ta 16 gco), (a 45, aS ta 32 gch), (a 41, aS ta 256 gke), (a 36, aK ta 2 ru), (a 37, aK ta 2 le), (a 31, aS ta 300 p'), (a 43, aS ta 16 gth), (a 39, aK ta 2 se), (a 40, aK ta 2 lv), (a 47, aK ta 2 cn), (a 48, aT ta 2 ha), (a 46, aS ta 16 gbc)] H → va_D A [(h0, oM a ar mn tp osz lsz ns ct), (a 0, aK ta 64 tIP), (a 1, aK ta 48 tSPR), (a 2, aK ta 32 tMIX), (a 3, aK ta 56 tCH), (a 4, aK ta 48 tSEC), (a 5, aK ta 512 tSBX), (a 10, aB ta 64 bi), (a 11, aB ta 64 tu), (a 12, aB ta 56 cd), (a 13, aB ta 768 sk), (a 14, aB ta 32 hf), (a 15, aB ta 48 wd), (a 22, aS ta 700 gm), (a 24, aS ta 16 mac), (a 53, aS ta 16 gbl), (a 55, aS ta 16 gco), (a 45, aS ta 32 gch), (a 41, aS ta 256 gke), (a 36, aK ta 2 ru), (a 37, aK ta 2 le), (a 31, aS ta 300 p'), (a 43, aS ta 16 gth), (a 39, aK ta 2 se), (a 40, aK ta 2 lv), (a 47, aK ta 2 cn), (a 48, aT ta 2 ha), (a 46, aS ta 16 gbc)] → va_S A ss.heap H locs → ∀ ls : Array Slot, lv_has ls 3 [(2, .int (nI k1x)), (0, .ref h0), (1, .int (nI l))] → W pp ll ee ({ frames := 6, cells := 0, slots := 0, locals := 154 } : Room) ss mm (([.ref h0, .int (nI l)] : List Value).toArray) below meth kc H locs 0 0 Q (F0 mm 58 ls []) := by
        intro nn58
        induction nn58 with
        | zero => intro k1x p' hkk1 hs1 hmu; exact absurd hmu (Nat.not_lt_zero _)
        | succ nn58 ih58 =>
          intro k1x p' hkk1 hs1 hmu58 H locs hP hD hS ls hl
          refine lv_iload_n (pc := 58) hx hb dX10_prove_58 rfl (lv_at hl 0 rfl) ?_
          refine lv_bipush (pc := 59) (v := nI 8) hx hb dX10_prove_59 (by decide +kernel) ?_
          refine lv_icmp_ge (pc := 61) (tgt := 84) hx hb dX10_prove_61 (by decide) (fun c_3 => ?_) (fun c_3 => ?_)
          · skip
            rw [nI_leI (by omega) (by omega)] at c_3
            refine lv_aload_n (pc := 84) hx hb dX10_prove_84 rfl (lv_at hl 1 rfl) ?_
            refine lv_iconst (pc := 85) (v := nI 0) hx hb dX10_prove_85 (by decide +kernel) ?_
            refine lv_aload_n (pc := 86) hx hb dX10_prove_86 rfl (lv_at hl 1 rfl) ?_
            refine va_get (pc := 87) (D := D) (ci := 8) (v := .ref (a 31)) (C := RX10) (T := TX10) (N := 57) hx hb hts iu10 hown hK hP 0 rfl rfl 31 (by decide) (hts _ tw_1076) (fun _ h9 => h9) rfl dX10_prove_87 ?_
            refine lv_iconst (pc := 90) (v := nI 0) hx hb dX10_prove_90 (by decide +kernel) ?_
            refine lv_aload_n (pc := 91) hx hb dX10_prove_91 rfl (lv_at hl 1 rfl) ?_
            refine va_get (pc := 92) (D := D) (ci := 8) (v := .ref (a 31)) (C := RX10) (T := TX10) (N := 57) hx hb hts iu10 hown hK hP 0 rfl rfl 31 (by decide) (hts _ tw_1076) (fun _ h9 => h9) rfl dX10_prove_92 ?_
            refine lv_iconst (pc := 95) (v := nI 4) hx hb dX10_prove_95 (by decide +kernel) ?_
            refine lv_bipush (pc := 96) (v := nI 8) hx hb dX10_prove_96 (by decide +kernel) ?_
            refine lv_iconst (pc := 98) (v := nI 1) hx hb dX10_prove_98 (by decide +kernel) ?_
            refine cs_V (pc := 99) (idx := 360) (n := 7) (wr := [(a 43, aS ta 16 gth), (a 39, aK ta 2 se), (a 40, aK ta 2 lv), (a 47, aK ta 2 cn), (a 48, aT ta 2 ha), (a 46, aS ta 16 gbc)]) (As := [.int (nI 0), .ref (a 31), .int (nI 0), .ref (a 31), .int (nI 4), .int (nI 8), .int (nI 1)]) (rest := []) (ci := 8) hx hb hml hown hts hGok hK hA hG hl.1 hP hD hS (ct_X10_commandMac_211 ll D ta hGok h0 a ar mn tp osz lsz ns ct bi tu cd sk hf wd gm mac gbl gco gch gke ru le 0 (a 31) 300 p' 4 8 (by first | assumption | omega | rfl | decide) (by first | assumption | omega | rfl | decide) (by first | assumption | omega | rfl | decide) (by first | assumption | omega | rfl | decide) (by first | assumption | omega | rfl | decide) H.size) tw_1368 tw_1365 tw_1367 tw_49 tw_75 hdX10_commandMac rfl ⟨rfl, rfl, Nat.le_of_ble_eq_true rfl, Nat.le_of_ble_eq_true rfl, Nat.le_of_ble_eq_true rfl, Nat.le_of_ble_eq_true rfl⟩ rfl rfl (q0 := 0) rfl [0, 1, 2, 3, 4, 5, 6, 7, 8, 9, 10, 11, 12, 13, 14, 15, 16, 17, 18, 19, 20, 21] [22, 23, 24, 25, 26, 27] rfl rfl (by decide) rfl (Nat.le_of_ble_eq_true rfl) dX10_prove_99 (fun u H locs hq hP hD hS => ?_)
            obtain ⟨bi1_99, tu1_99, cd1_99, sk1_99, hf1_99, wd1_99, gm1_99, mac1_99, gbl1_99, gco1_99, gch1_99, mn1_99⟩ := u
            have hq : (seg gco1_99 0 8 = retailL (seg gke (128 * 0 + 32) 16) (zeroL 8) (headL (seg p' 0 4) 8 ++ seg p' 4 8)) ∧ (seg gch1_99 (16 * 0) 16 = seg gco1_99 0 16) ∧ (∀ jz, (jz < 16 * 0 ∨ 16 * 0 + 16 ≤ jz) → gch1_99 jz = gch jz) := hq
            obtain ⟨hs_99, hc_99, hfc_99⟩ := hq
            refine W.eq (g2 := F0 mm 102 ls []) rfl ?_
            have hP : va_P D vwCl [(a 43, aS ta 16 gth), (a 39, aK ta 2 se), (a 40, aK ta 2 lv), (a 47, aK ta 2 cn), (a 48, aT ta 2 ha), (a 46, aS ta 16 gbc), (h0, oM a ar mn1_99 tp osz lsz ns ct), (a 0, aK ta 64 tIP), (a 1, aK ta 48 tSPR), (a 2, aK ta 32 tMIX), (a 3, aK ta 56 tCH), (a 4, aK ta 48 tSEC), (a 5, aK ta 512 tSBX), (a 10, aB ta 64 bi1_99), (a 11, aB ta 64 tu1_99), (a 12, aB ta 56 cd1_99), (a 13, aB ta 768 sk1_99), (a 14, aB ta 32 hf1_99), (a 15, aB ta 48 wd1_99), (a 22, aS ta 700 gm1_99), (a 24, aS ta 16 mac1_99), (a 53, aS ta 16 gbl1_99), (a 55, aS ta 16 gco1_99), (a 45, aS ta 32 gch1_99), (a 41, aS ta 256 gke), (a 36, aK ta 2 ru), (a 37, aK ta 2 le), (a 31, aS ta 300 p')] H := hP
            have hD : va_D A [(a 43, aS ta 16 gth), (a 39, aK ta 2 se), (a 40, aK ta 2 lv), (a 47, aK ta 2 cn), (a 48, aT ta 2 ha), (a 46, aS ta 16 gbc), (h0, oM a ar mn1_99 tp osz lsz ns ct), (a 0, aK ta 64 tIP), (a 1, aK ta 48 tSPR), (a 2, aK ta 32 tMIX), (a 3, aK ta 56 tCH), (a 4, aK ta 48 tSEC), (a 5, aK ta 512 tSBX), (a 10, aB ta 64 bi1_99), (a 11, aB ta 64 tu1_99), (a 12, aB ta 56 cd1_99), (a 13, aB ta 768 sk1_99), (a 14, aB ta 32 hf1_99), (a 15, aB ta 48 wd1_99), (a 22, aS ta 700 gm1_99), (a 24, aS ta 16 mac1_99), (a 53, aS ta 16 gbl1_99), (a 55, aS ta 16 gco1_99), (a 45, aS ta 32 gch1_99), (a 41, aS ta 256 gke), (a 36, aK ta 2 ru), (a 37, aK ta 2 le), (a 31, aS ta 300 p')] := hD
            refine lv_iconst (pc := 102) (v := nI 0) hx hb dX10_prove_102 (by decide +kernel) ?_
            refine lv_istore_n (pc := 103) (lv' := [(2, .int (nI 0)), (0, .ref h0), (1, .int (nI l))]) hx hb dX10_prove_103 rfl hl (by decide) rfl (fun ls hl => ?_)
            have LP104 : ∀ (nn104 : Nat) (k2x : Nat) (r' : Nat → BitVec 8), (k2x ≤ 8) → (qSeg r' p' 12 k2x gco1_99) → (8 - k2x < nn104) → ∀ (H : Heap) (locs : List Loc), va_P D vwCl [(a 43, aS ta 16 gth), (a 39, aK ta 2 se), (a 40, aK ta 2 lv), (a 47, aK ta 2 cn), (a 48, aT ta 2 ha), (a 46, aS ta 16 gbc), (h0, oM a ar mn1_99 tp osz lsz ns ct), (a 0, aK ta 64 tIP), (a 1, aK ta 48 tSPR), (a 2, aK ta 32 tMIX), (a 3, aK ta 56 tCH), (a 4, aK ta 48 tSEC), (a 5, aK ta 512 tSBX), (a 10, aB ta 64 bi1_99), (a 11, aB ta 64 tu1_99), (a 12, aB ta 56 cd1_99), (a 13, aB ta 768 sk1_99), (a 14, aB ta 32 hf1_99), (a 15, aB ta 48 wd1_99), (a 22, aS ta 700 gm1_99), (a 24, aS ta 16 mac1_99), (a 53, aS ta 16 gbl1_99), (a 55, aS ta 16 gco1_99), (a 45, aS ta 32 gch1_99), (a 41, aS ta 256 gke), (a 36, aK ta 2 ru), (a 37, aK ta 2 le), (a 31, aS ta 300 r')] H → va_D A [(a 43, aS ta 16 gth), (a 39, aK ta 2 se), (a 40, aK ta 2 lv), (a 47, aK ta 2 cn), (a 48, aT ta 2 ha), (a 46, aS ta 16 gbc), (h0, oM a ar mn1_99 tp osz lsz ns ct), (a 0, aK ta 64 tIP), (a 1, aK ta 48 tSPR), (a 2, aK ta 32 tMIX), (a 3, aK ta 56 tCH), (a 4, aK ta 48 tSEC), (a 5, aK ta 512 tSBX), (a 10, aB ta 64 bi1_99), (a 11, aB ta 64 tu1_99), (a 12, aB ta 56 cd1_99), (a 13, aB ta 768 sk1_99), (a 14, aB ta 32 hf1_99), (a 15, aB ta 48 wd1_99), (a 22, aS ta 700 gm1_99), (a 24, aS ta 16 mac1_99), (a 53, aS ta 16 gbl1_99), (a 55, aS ta 16 gco1_99), (a 45, aS ta 32 gch1_99), (a 41, aS ta 256 gke), (a 36, aK ta 2 ru), (a 37, aK ta 2 le), (a 31, aS ta 300 r')] → va_S A ss.heap H locs → ∀ ls : Array Slot, lv_has ls 3 [(2, .int (nI k2x)), (0, .ref h0), (1, .int (nI l))] → W pp ll ee ({ frames := 6, cells := 0, slots := 0, locals := 154 } : Room) ss mm (([.ref h0, .int (nI l)] : List Value).toArray) below meth kc H locs 0 0 Q (F0 mm 104 ls []) := by
              intro nn104
              induction nn104 with
              | zero => intro k2x r' hkk2 hs2 hmu; exact absurd hmu (Nat.not_lt_zero _)
              | succ nn104 ih104 =>
                intro k2x r' hkk2 hs2 hmu104 H locs hP hD hS ls hl
                refine lv_iload_n (pc := 104) hx hb dX10_prove_104 rfl (lv_at hl 0 rfl) ?_
                refine lv_bipush (pc := 105) (v := nI 8) hx hb dX10_prove_105 (by decide +kernel) ?_
                refine lv_icmp_ge (pc := 107) (tgt := 131) hx hb dX10_prove_107 (by decide) (fun c_4 => ?_) (fun c_4 => ?_)
                · skip
                  rw [nI_leI (by omega) (by omega)] at c_4
                  refine lv_aload_n (pc := 131) hx hb dX10_prove_131 rfl (lv_at hl 1 rfl) ?_
                  refine lv_bipush (pc := 132) (v := nI 20) hx hb dX10_prove_132 (by decide +kernel) ?_
                  refine va_put (pc := 134) (D := D) (ci := 8) (v := .int (nI 20)) (ty := .int) (C := RX10) (T := TX10) (N := 57) hx hb hts iu10 tyX10 tyX10_ok nmX10 hown hK hP hD hS 6 rfl rfl 32 (by decide) (hts _ tw_1077) (fun _ h9 => h9) rfl (by decide +kernel) rfl rfl (Nat.le_of_ble_eq_true rfl) dX10_prove_134 (fun H locs hP hD hS => ?_)
                  have hP : va_P D vwCl [(a 43, aS ta 16 gth), (a 39, aK ta 2 se), (a 40, aK ta 2 lv), (a 47, aK ta 2 cn), (a 48, aT ta 2 ha), (a 46, aS ta 16 gbc), (h0, oM a ar mn1_99 tp osz 20 ns ct), (a 0, aK ta 64 tIP), (a 1, aK ta 48 tSPR), (a 2, aK ta 32 tMIX), (a 3, aK ta 56 tCH), (a 4, aK ta 48 tSEC), (a 5, aK ta 512 tSBX), (a 10, aB ta 64 bi1_99), (a 11, aB ta 64 tu1_99), (a 12, aB ta 56 cd1_99), (a 13, aB ta 768 sk1_99), (a 14, aB ta 32 hf1_99), (a 15, aB ta 48 wd1_99), (a 22, aS ta 700 gm1_99), (a 24, aS ta 16 mac1_99), (a 53, aS ta 16 gbl1_99), (a 55, aS ta 16 gco1_99), (a 45, aS ta 32 gch1_99), (a 41, aS ta 256 gke), (a 36, aK ta 2 ru), (a 37, aK ta 2 le), (a 31, aS ta 300 r')] H := hP
                  have hD : va_D A [(a 43, aS ta 16 gth), (a 39, aK ta 2 se), (a 40, aK ta 2 lv), (a 47, aK ta 2 cn), (a 48, aT ta 2 ha), (a 46, aS ta 16 gbc), (h0, oM a ar mn1_99 tp osz 20 ns ct), (a 0, aK ta 64 tIP), (a 1, aK ta 48 tSPR), (a 2, aK ta 32 tMIX), (a 3, aK ta 56 tCH), (a 4, aK ta 48 tSEC), (a 5, aK ta 512 tSBX), (a 10, aB ta 64 bi1_99), (a 11, aB ta 64 tu1_99), (a 12, aB ta 56 cd1_99), (a 13, aB ta 768 sk1_99), (a 14, aB ta 32 hf1_99), (a 15, aB ta 48 wd1_99), (a 22, aS ta 700 gm1_99), (a 24, aS ta 16 mac1_99), (a 53, aS ta 16 gbl1_99), (a 55, aS ta 16 gco1_99), (a 45, aS ta 32 gch1_99), (a 41, aS ta 256 gke), (a 36, aK ta 2 ru), (a 37, aK ta 2 le), (a 31, aS ta 300 r')] := hD
                  refine lv_aload_n (pc := 137) hx hb dX10_prove_137 rfl (lv_at hl 1 rfl) ?_
                  refine lv_iconst (pc := 138) (v := nI 0) hx hb dX10_prove_138 (by decide +kernel) ?_
                  refine lv_iload_n (pc := 139) hx hb dX10_prove_139 rfl (lv_at hl 2 rfl) ?_
                  refine cs_V (pc := 140) (idx := 364) (n := 2) (wr := [(a 43, aS ta 16 gth), (a 0, aK ta 64 tIP), (a 1, aK ta 48 tSPR), (a 2, aK ta 32 tMIX), (a 3, aK ta 56 tCH), (a 4, aK ta 48 tSEC), (a 5, aK ta 512 tSBX), (a 10, aB ta 64 bi1_99), (a 11, aB ta 64 tu1_99), (a 12, aB ta 56 cd1_99), (a 13, aB ta 768 sk1_99), (a 14, aB ta 32 hf1_99), (a 15, aB ta 48 wd1_99), (a 22, aS ta 700 gm1_99), (a 24, aS ta 16 mac1_99), (a 53, aS ta 16 gbl1_99), (a 45, aS ta 32 gch1_99), (a 41, aS ta 256 gke), (a 36, aK ta 2 ru), (a 37, aK ta 2 le), (a 31, aS ta 300 r')]) (As := [.int (nI 0), .int (nI l)]) (rest := []) (ci := 8) hx hb hml hown hts hGok hK hA hG hl.1 hP hD hS (ct_X10_opens ll D ta hGok h0 a ar mn1_99 tp osz 20 ns ct se lv cn ha gbc gco1_99 0 l (by first | assumption | omega | rfl | decide) H.size) tw_1376 tw_1373 tw_1375 tw_51 tw_75 hdX10_opens rfl ⟨rfl, rfl, Nat.le_of_ble_eq_true rfl, Nat.le_of_ble_eq_true rfl, Nat.le_of_ble_eq_true rfl, Nat.le_of_ble_eq_true rfl⟩ rfl rfl (q0 := 6) rfl [6, 1, 2, 3, 4, 5, 22] [0, 7, 8, 9, 10, 11, 12, 13, 14, 15, 16, 17, 18, 19, 20, 21, 23, 24, 25, 26, 27] rfl rfl (by decide) rfl (Nat.le_of_ble_eq_true rfl) dX10_prove_140 (fun u H locs hq hP hD hS => ?_)
                  obtain ⟨se1_140, lv1_140, cn1_140, ha1_140, gbc1_140⟩ := u
                  have hq : (se1_140 = qU se 0 2) ∧ (lv1_140 = qU lv 0 l) ∧ (cn1_140 = qU cn 0 0) ∧ (ha1_140 = qU ha 0 false) ∧ (seg gbc1_140 (8 * 0) 8 = seg gco1_99 0 8) ∧ (∀ jz, (jz < 8 * 0 ∨ 8 * 0 + 8 ≤ jz) → gbc1_140 jz = gbc jz) := hq
                  obtain ⟨hse_140, hlv_140, hcn_140, hha_140, hs_140, hfb_140⟩ := hq
                  refine W.eq (g2 := F0 mm 143 ls []) rfl ?_
                  have hP : va_P D vwCl [(a 43, aS ta 16 gth), (a 0, aK ta 64 tIP), (a 1, aK ta 48 tSPR), (a 2, aK ta 32 tMIX), (a 3, aK ta 56 tCH), (a 4, aK ta 48 tSEC), (a 5, aK ta 512 tSBX), (a 10, aB ta 64 bi1_99), (a 11, aB ta 64 tu1_99), (a 12, aB ta 56 cd1_99), (a 13, aB ta 768 sk1_99), (a 14, aB ta 32 hf1_99), (a 15, aB ta 48 wd1_99), (a 22, aS ta 700 gm1_99), (a 24, aS ta 16 mac1_99), (a 53, aS ta 16 gbl1_99), (a 45, aS ta 32 gch1_99), (a 41, aS ta 256 gke), (a 36, aK ta 2 ru), (a 37, aK ta 2 le), (a 31, aS ta 300 r'), (h0, oM a ar mn1_99 tp osz 20 ns ct), (a 39, aK ta 2 se1_140), (a 40, aK ta 2 lv1_140), (a 47, aK ta 2 cn1_140), (a 48, aT ta 2 ha1_140), (a 46, aS ta 16 gbc1_140), (a 55, aS ta 16 gco1_99)] H := hP
                  have hD : va_D A [(a 43, aS ta 16 gth), (a 0, aK ta 64 tIP), (a 1, aK ta 48 tSPR), (a 2, aK ta 32 tMIX), (a 3, aK ta 56 tCH), (a 4, aK ta 48 tSEC), (a 5, aK ta 512 tSBX), (a 10, aB ta 64 bi1_99), (a 11, aB ta 64 tu1_99), (a 12, aB ta 56 cd1_99), (a 13, aB ta 768 sk1_99), (a 14, aB ta 32 hf1_99), (a 15, aB ta 48 wd1_99), (a 22, aS ta 700 gm1_99), (a 24, aS ta 16 mac1_99), (a 53, aS ta 16 gbl1_99), (a 45, aS ta 32 gch1_99), (a 41, aS ta 256 gke), (a 36, aK ta 2 ru), (a 37, aK ta 2 le), (a 31, aS ta 300 r'), (h0, oM a ar mn1_99 tp osz 20 ns ct), (a 39, aK ta 2 se1_140), (a 40, aK ta 2 lv1_140), (a 47, aK ta 2 cn1_140), (a 48, aT ta 2 ha1_140), (a 46, aS ta 16 gbc1_140), (a 55, aS ta 16 gco1_99)] := hD
                  refine lv_bipush (pc := 143) (v := nI 20) hx hb dX10_prove_143 (by decide +kernel) ?_
                  have hq_5 : (seg gco1_99 0 8 = chain2 (seg gke 32 16) 0 [] (prvC l (seg gth 0 8))) ∧ (qL r' 20 = (prvC l (seg gth 0 8)) ++ seg gco1_99 0 8) ∧ (seg gch1_99 0 16 = seg gco1_99 0 16) ∧ (∀ j, 16 ≤ j → gch1_99 j = gch j) ∧ (se1_140 = qU se 0 2) ∧ (lv1_140 = qU lv 0 l) ∧ (cn1_140 = qU cn 0 0) ∧ (ha1_140 = qU ha 0 false) ∧ (seg gbc1_140 0 8 = seg gco1_99 0 8) ∧ (∀ j, 8 ≤ j → gbc1_140 j = gbc j) := by
                    have h12 : qL p' 12 = (prvC l (seg gth 0 8)) := prv_line (k := k1x) hs1 (by omega)
                    have h4 : headL (seg p' 0 4) 8 ++ seg p' 4 8 = headL (prvC l (seg gth 0 8)) ((prvC l (seg gth 0 8)).length - 4) ++ (prvC l (seg gth 0 8)).drop 4 := prv_head h12
                    refine ⟨?_, ?_, hc_99, fun j hj => hfc_99 j (by omega), hse_140, hlv_140, hcn_140, hha_140, hs_140, fun j hj => hfb_140 j (by omega)⟩
                    · rw [hs_99, h4, chain2, if_pos rfl]
                    · rw [show (20 : Nat) = 12 + 8 from rfl, ← seg_0, seg_app, Nat.zero_add, seg_copy0 hs2 (by omega), seg_keep (g' := r') (g := p') (o := 0) (n := 12) (fun j hj => hs2.2 _ (by omega)), seg_0, h12, seg_0, seg_0]
                  exact hret (⟨(bi1_99), (tu1_99), (cd1_99), (sk1_99), (hf1_99), (wd1_99), (gm1_99), (mac1_99), (gbl1_99), (gco1_99), (gch1_99), (r'), (gbc1_140), (se1_140), (lv1_140), (cn1_140), (ha1_140), (mn1_99)⟩ : (Nat → Bool) × (Nat → Bool) × (Nat → Bool) × (Nat → Bool) × (Nat → Bool) × (Nat → Bool) × (Nat → BitVec 8) × (Nat → BitVec 8) × (Nat → BitVec 8) × (Nat → BitVec 8) × (Nat → BitVec 8) × (Nat → BitVec 8) × (Nat → BitVec 8) × (Nat → Nat) × (Nat → Nat) × (Nat → Nat) × (Nat → Bool) × Nat) _ _ _ _ dX10_prove_145 hq_5 (hP.sub [21, 1, 2, 3, 4, 5, 6, 7, 8, 9, 10, 11, 12, 13, 14, 15, 27, 16, 17, 18, 19, 20, 0, 22, 23, 24, 25, 26] rfl) (hD.sub [21, 1, 2, 3, 4, 5, 6, 7, 8, 9, 10, 11, 12, 13, 14, 15, 27, 16, 17, 18, 19, 20, 0, 22, 23, 24, 25, 26] (by decide) rfl) hS
                · skip
                  rw [nI_leI (by omega) (by omega)] at c_4
                  refine lv_aload_n (pc := 110) hx hb dX10_prove_110 rfl (lv_at hl 1 rfl) ?_
                  refine va_get (pc := 111) (D := D) (ci := 8) (v := .ref (a 31)) (C := RX10) (T := TX10) (N := 57) hx hb hts iu10 hown hK hP 6 rfl rfl 31 (by decide) (hts _ tw_1076) (fun _ h9 => h9) rfl dX10_prove_111 ?_
                  refine lv_bipush (pc := 114) (v := nI 12) hx hb dX10_prove_114 (by decide +kernel) ?_
                  refine lv_iload_n (pc := 116) hx hb dX10_prove_116 rfl (lv_at hl 0 rfl) ?_
                  refine lv_iadd (pc := 117) hx hb dX10_prove_117 ?_
                  refine q_top (y := nI (12 + k2x)) (nI_add 12 k2x) ?_
                  refine lv_aload_n (pc := 118) hx hb dX10_prove_118 rfl (lv_at hl 1 rfl) ?_
                  refine va_get (pc := 119) (D := D) (ci := 8) (v := .ref (a 55)) (C := RX10) (T := TX10) (N := 57) hx hb hts iu10 hown hK hP 6 rfl rfl 55 (by decide) (hts _ tw_1100) (fun _ h9 => h9) rfl dX10_prove_119 ?_
                  refine lv_iload_n (pc := 122) hx hb dX10_prove_122 rfl (lv_at hl 0 rfl) ?_
                  refine q_bald (pc := 123) hx hb hK hP 22 2 rfl rfl (k := k2x) (v := qs (gco1_99 k2x)) rfl (by omega) (by omega) rfl dX10_prove_123 ?_
                  refine q_bastS (pc := 124) hx hb hK hP hD hS 27 2 rfl rfl (k := 12 + k2x) rfl (by omega) (by omega) (b := gco1_99 k2x) (qlo_qs _) dX10_prove_124 (fun H locs hP hD hS => ?_)
                  have hP : va_P D vwCl [(a 43, aS ta 16 gth), (a 39, aK ta 2 se), (a 40, aK ta 2 lv), (a 47, aK ta 2 cn), (a 48, aT ta 2 ha), (a 46, aS ta 16 gbc), (h0, oM a ar mn1_99 tp osz lsz ns ct), (a 0, aK ta 64 tIP), (a 1, aK ta 48 tSPR), (a 2, aK ta 32 tMIX), (a 3, aK ta 56 tCH), (a 4, aK ta 48 tSEC), (a 5, aK ta 512 tSBX), (a 10, aB ta 64 bi1_99), (a 11, aB ta 64 tu1_99), (a 12, aB ta 56 cd1_99), (a 13, aB ta 768 sk1_99), (a 14, aB ta 32 hf1_99), (a 15, aB ta 48 wd1_99), (a 22, aS ta 700 gm1_99), (a 24, aS ta 16 mac1_99), (a 53, aS ta 16 gbl1_99), (a 55, aS ta 16 gco1_99), (a 45, aS ta 32 gch1_99), (a 41, aS ta 256 gke), (a 36, aK ta 2 ru), (a 37, aK ta 2 le), (a 31, aS ta 300 (qU r' (12 + k2x) (gco1_99 k2x)))] H := hP
                  have hD : va_D A [(a 43, aS ta 16 gth), (a 39, aK ta 2 se), (a 40, aK ta 2 lv), (a 47, aK ta 2 cn), (a 48, aT ta 2 ha), (a 46, aS ta 16 gbc), (h0, oM a ar mn1_99 tp osz lsz ns ct), (a 0, aK ta 64 tIP), (a 1, aK ta 48 tSPR), (a 2, aK ta 32 tMIX), (a 3, aK ta 56 tCH), (a 4, aK ta 48 tSEC), (a 5, aK ta 512 tSBX), (a 10, aB ta 64 bi1_99), (a 11, aB ta 64 tu1_99), (a 12, aB ta 56 cd1_99), (a 13, aB ta 768 sk1_99), (a 14, aB ta 32 hf1_99), (a 15, aB ta 48 wd1_99), (a 22, aS ta 700 gm1_99), (a 24, aS ta 16 mac1_99), (a 53, aS ta 16 gbl1_99), (a 55, aS ta 16 gco1_99), (a 45, aS ta 32 gch1_99), (a 41, aS ta 256 gke), (a 36, aK ta 2 ru), (a 37, aK ta 2 le), (a 31, aS ta 300 (qU r' (12 + k2x) (gco1_99 k2x)))] := hD
                  refine lv_iinc (pc := 125) (v := nI (k2x + 1)) (lv' := [(2, .int (nI (k2x + 1))), (0, .ref h0), (1, .int (nI l))]) hx hb dX10_prove_125 hl (k := 0) rfl (by first | exact nI_add k2x 1 | rfl) (by decide) rfl (fun ls hl => ?_)
                  refine lv_goto (pc := 128) (tgt := 104) hx hb dX10_prove_128 (by decide) ?_
                  exact ih104 (k2x + 1) (qU r' (12 + k2x) (gco1_99 k2x)) (by omega) (qSeg_s hs2 (by omega) (by first | rfl | (simp; done))) (by omega) _ _ (hP.sub [0, 1, 2, 3, 4, 5, 6, 7, 8, 9, 10, 11, 12, 13, 14, 15, 16, 17, 18, 19, 20, 21, 22, 23, 24, 25, 26, 27] rfl) (hD.sub [0, 1, 2, 3, 4, 5, 6, 7, 8, 9, 10, 11, 12, 13, 14, 15, 16, 17, 18, 19, 20, 21, 22, 23, 24, 25, 26, 27] (by decide) rfl) hS ls (lv_sub hl [0, 1, 2] rfl)
            exact LP104 _ 0 p' (by omega) (qSeg_0) (Nat.lt_succ_self _) _ _ (hP.sub [0, 1, 2, 3, 4, 5, 6, 7, 8, 9, 10, 11, 12, 13, 14, 15, 16, 17, 18, 19, 20, 21, 22, 23, 24, 25, 26, 27] rfl) (hD.sub [0, 1, 2, 3, 4, 5, 6, 7, 8, 9, 10, 11, 12, 13, 14, 15, 16, 17, 18, 19, 20, 21, 22, 23, 24, 25, 26, 27] (by decide) rfl) hS ls (lv_sub hl [0, 1, 2] rfl)
          · skip
            rw [nI_leI (by omega) (by omega)] at c_3
            refine lv_aload_n (pc := 64) hx hb dX10_prove_64 rfl (lv_at hl 1 rfl) ?_
            refine va_get (pc := 65) (D := D) (ci := 8) (v := .ref (a 31)) (C := RX10) (T := TX10) (N := 57) hx hb hts iu10 hown hK hP 0 rfl rfl 31 (by decide) (hts _ tw_1076) (fun _ h9 => h9) rfl dX10_prove_65 ?_
            refine lv_iconst (pc := 68) (v := nI 4) hx hb dX10_prove_68 (by decide +kernel) ?_
            refine lv_iload_n (pc := 69) hx hb dX10_prove_69 rfl (lv_at hl 0 rfl) ?_
            refine lv_iadd (pc := 70) hx hb dX10_prove_70 ?_
            refine q_top (y := nI (4 + k1x)) (nI_add 4 k1x) ?_
            refine lv_aload_n (pc := 71) hx hb dX10_prove_71 rfl (lv_at hl 1 rfl) ?_
            refine va_get (pc := 72) (D := D) (ci := 8) (v := .ref (a 43)) (C := RX10) (T := TX10) (N := 57) hx hb hts iu10 hown hK hP 0 rfl rfl 43 (by decide) (hts _ tw_1088) (fun _ h9 => h9) rfl dX10_prove_72 ?_
            refine lv_iload_n (pc := 75) hx hb dX10_prove_75 rfl (lv_at hl 0 rfl) ?_
            refine q_bald (pc := 76) hx hb hK hP 22 2 rfl rfl (k := k1x) (v := qs (gth k1x)) rfl (by omega) (by omega) rfl dX10_prove_76 ?_
            refine q_bastS (pc := 77) hx hb hK hP hD hS 21 2 rfl rfl (k := 4 + k1x) rfl (by omega) (by omega) (b := gth k1x) (qlo_qs _) dX10_prove_77 (fun H locs hP hD hS => ?_)
            have hP : va_P D vwCl [(h0, oM a ar mn tp osz lsz ns ct), (a 0, aK ta 64 tIP), (a 1, aK ta 48 tSPR), (a 2, aK ta 32 tMIX), (a 3, aK ta 56 tCH), (a 4, aK ta 48 tSEC), (a 5, aK ta 512 tSBX), (a 10, aB ta 64 bi), (a 11, aB ta 64 tu), (a 12, aB ta 56 cd), (a 13, aB ta 768 sk), (a 14, aB ta 32 hf), (a 15, aB ta 48 wd), (a 22, aS ta 700 gm), (a 24, aS ta 16 mac), (a 53, aS ta 16 gbl), (a 55, aS ta 16 gco), (a 45, aS ta 32 gch), (a 41, aS ta 256 gke), (a 36, aK ta 2 ru), (a 37, aK ta 2 le), (a 31, aS ta 300 (qU p' (4 + k1x) (gth k1x))), (a 43, aS ta 16 gth), (a 39, aK ta 2 se), (a 40, aK ta 2 lv), (a 47, aK ta 2 cn), (a 48, aT ta 2 ha), (a 46, aS ta 16 gbc)] H := hP
            have hD : va_D A [(h0, oM a ar mn tp osz lsz ns ct), (a 0, aK ta 64 tIP), (a 1, aK ta 48 tSPR), (a 2, aK ta 32 tMIX), (a 3, aK ta 56 tCH), (a 4, aK ta 48 tSEC), (a 5, aK ta 512 tSBX), (a 10, aB ta 64 bi), (a 11, aB ta 64 tu), (a 12, aB ta 56 cd), (a 13, aB ta 768 sk), (a 14, aB ta 32 hf), (a 15, aB ta 48 wd), (a 22, aS ta 700 gm), (a 24, aS ta 16 mac), (a 53, aS ta 16 gbl), (a 55, aS ta 16 gco), (a 45, aS ta 32 gch), (a 41, aS ta 256 gke), (a 36, aK ta 2 ru), (a 37, aK ta 2 le), (a 31, aS ta 300 (qU p' (4 + k1x) (gth k1x))), (a 43, aS ta 16 gth), (a 39, aK ta 2 se), (a 40, aK ta 2 lv), (a 47, aK ta 2 cn), (a 48, aT ta 2 ha), (a 46, aS ta 16 gbc)] := hD
            refine lv_iinc (pc := 78) (v := nI (k1x + 1)) (lv' := [(2, .int (nI (k1x + 1))), (0, .ref h0), (1, .int (nI l))]) hx hb dX10_prove_78 hl (k := 0) rfl (by first | exact nI_add k1x 1 | rfl) (by decide) rfl (fun ls hl => ?_)
            refine lv_goto (pc := 81) (tgt := 58) hx hb dX10_prove_81 (by decide) ?_
            exact ih58 (k1x + 1) (qU p' (4 + k1x) (gth k1x)) (by omega) (qSeg_s hs1 (by omega) (by first | rfl | (simp; done))) (by omega) _ _ (hP.sub [0, 1, 2, 3, 4, 5, 6, 7, 8, 9, 10, 11, 12, 13, 14, 15, 16, 17, 18, 19, 20, 21, 22, 23, 24, 25, 26, 27] rfl) (hD.sub [0, 1, 2, 3, 4, 5, 6, 7, 8, 9, 10, 11, 12, 13, 14, 15, 16, 17, 18, 19, 20, 21, 22, 23, 24, 25, 26, 27] (by decide) rfl) hS ls (lv_sub hl [0, 1, 2] rfl)
      exact LP58 _ 0 ((qU (qU (qU (qU gli 0 (qlo (-124))) 1 (qlo (-126))) 2 (qlo (nI l))) 3 (BitVec.ofNat 8 0))) (by omega) (qSeg_0) (Nat.lt_succ_self _) _ _ (hP.sub [0, 1, 2, 3, 4, 5, 6, 7, 8, 9, 10, 11, 12, 13, 14, 15, 16, 17, 18, 19, 20, 21, 22, 23, 24, 25, 26, 27] rfl) (hD.sub [0, 1, 2, 3, 4, 5, 6, 7, 8, 9, 10, 11, 12, 13, 14, 15, 16, 17, 18, 19, 20, 21, 22, 23, 24, 25, 26, 27] (by decide) rfl) hS ls (lv_sub hl [0, 1, 2] rfl)
    · skip
      rw [q_beq] at c_2
      try rw [Bool.not_eq_false] at c_2
      rw [hz_17, show decide (ru 0 = 3) = false by rw [hru]; rfl, hlev] at c_2; cases c_2
set_option maxHeartbeats 4000000 in
set_option maxRecDepth 100000 in
theorem ct_X10_prove_3 (ll : Launch) (D : va_G) (ta : Nat → ClassId) {G : (Nat → Prop) → State → Heap → Prop} (hGok : GOK G) (h0 : Nat) (a : Nat → Nat) (ar : Nat) (mn : Nat) (tp : Nat) (osz : Nat) (lsz : Nat) (ns : Nat) (ct : Nat) (rk : Nat → BitVec 8) (ce : Nat → BitVec 8) (gm : Nat → BitVec 8) (mac : Nat → BitVec 8) (k1 : Nat → BitVec 8) (gbl : Nat → BitVec 8) (gco : Nat → BitVec 8) (gch : Nat → BitVec 8) (gke : Nat → BitVec 8) (gli : Nat → BitVec 8) (gth : Nat → BitVec 8) (gbc : Nat → BitVec 8) (ru : Nat → Nat) (le : Nat → Nat) (se : Nat → Nat) (lv : Nat → Nat) (cn : Nat → Nat) (ha : Nat → Bool) (l : Nat) (hse0 : se 0 = 1) (hru : ru 0 = 3) (hl64 : l < 64) (hlev : levB (nI l) true = true) (hle : le 0 = 16 ∨ le 0 = 24 ∨ le 0 = 32) (sz : Nat) : CT ll yX10_prove cX10_prove 3 (some .int) ({ frames := 6, cells := 0, slots := 0, locals := 154 } : Room) D ta G [.ref h0, .int (nI l)] [(h0, oM a ar mn tp osz lsz ns ct), (a 8, aZ ta 256 BOX), (a 9, aZ ta 256 UBOX), (a 16, aS ta 240 rk), (a 18, aS ta 16 ce), (a 22, aS ta 700 gm), (a 24, aS ta 16 mac), (a 25, aS ta 16 k1), (a 53, aS ta 16 gbl), (a 55, aS ta 16 gco), (a 45, aS ta 32 gch), (a 41, aS ta 256 gke), (a 36, aK ta 2 ru), (a 37, aK ta 2 le), (a 31, aS ta 300 gli), (a 43, aS ta 16 gth), (a 39, aK ta 2 se), (a 40, aK ta 2 lv), (a 47, aK ta 2 cn), (a 48, aT ta 2 ha), (a 46, aS ta 16 gbc)] sz (S := (Nat → BitVec 8) × (Nat → BitVec 8) × (Nat → BitVec 8) × (Nat → BitVec 8) × (Nat → BitVec 8) × (Nat → BitVec 8) × (Nat → BitVec 8) × (Nat → BitVec 8) × (Nat → BitVec 8) × (Nat → BitVec 8) × (Nat → Nat) × (Nat → Nat) × (Nat → Nat) × (Nat → Bool) × Nat × Nat) (fun u => some (.int (nI 20))) (fun u => (seg u.2.2.2.2.2.2.1 0 16 = chain3 (seg gke 32 (le 0)) (zeroL 16) (prvC l (seg gth 0 8)) (seg gth 0 8)) ∧ (qL u.2.2.2.2.2.2.2.2.1 20 = (prvC l (seg gth 0 8)) ++ seg u.2.2.2.2.2.2.1 0 8) ∧ (seg u.2.2.2.2.2.2.2.1 0 16 = seg u.2.2.2.2.2.2.1 0 16) ∧ (∀ j, 16 ≤ j → u.2.2.2.2.2.2.2.1 j = gch j) ∧ (u.2.2.2.2.2.2.2.2.2.2.1 = qU se 0 2) ∧ (u.2.2.2.2.2.2.2.2.2.2.2.1 = qU lv 0 l) ∧ (u.2.2.2.2.2.2.2.2.2.2.2.2.1 = qU cn 0 0) ∧ (u.2.2.2.2.2.2.2.2.2.2.2.2.2.1 = qU ha 0 false) ∧ (seg u.2.2.2.2.2.2.2.2.2.1 0 8 = seg u.2.2.2.2.2.2.1 0 8) ∧ (∀ j, 8 ≤ j → u.2.2.2.2.2.2.2.2.2.1 j = gbc j)) (fun u => [(h0, oM a u.2.2.2.2.2.2.2.2.2.2.2.2.2.2.2 u.2.2.2.2.2.2.2.2.2.2.2.2.2.2.1 tp osz 20 ns ct), (a 8, aZ ta 256 BOX), (a 9, aZ ta 256 UBOX), (a 16, aS ta 240 u.1), (a 18, aS ta 16 u.2.1), (a 22, aS ta 700 u.2.2.1), (a 24, aS ta 16 u.2.2.2.1), (a 25, aS ta 16 u.2.2.2.2.1), (a 53, aS ta 16 u.2.2.2.2.2.1), (a 55, aS ta 16 u.2.2.2.2.2.2.1), (a 45, aS ta 32 u.2.2.2.2.2.2.2.1), (a 41, aS ta 256 gke), (a 36, aK ta 2 ru), (a 37, aK ta 2 le), (a 31, aS ta 300 u.2.2.2.2.2.2.2.2.1), (a 43, aS ta 16 gth), (a 39, aK ta 2 u.2.2.2.2.2.2.2.2.2.2.1), (a 40, aK ta 2 u.2.2.2.2.2.2.2.2.2.2.2.1), (a 47, aK ta 2 u.2.2.2.2.2.2.2.2.2.2.2.2.1), (a 48, aT ta 2 u.2.2.2.2.2.2.2.2.2.2.2.2.2.1), (a 46, aS ta 16 u.2.2.2.2.2.2.2.2.2.1)]) 0 0 := by
  refine CT.of_i (r := fun u => nI 20) rfl (by decide) (Nat.le_of_ble_eq_true rfl) ?_
  intro pp ee ss mm below meth kc A Q hx hb hml hown hin hts hK hA hsz hG hret H locs hP hD hS ls hl
  have hl : lv_has ls 3 [(0, .ref h0), (1, .int (nI l))] := hl
  refine lv_aload_n (pc := 0) hx hb dX10_prove_0 rfl (lv_at hl 0 rfl) ?_
  refine va_get (pc := 1) (D := D) (ci := 8) (v := .ref (a 39)) (C := RX10) (T := TX10) (N := 57) hx hb hts iu10 hown hK hP 0 rfl rfl 39 (by decide) (hts _ tw_1084) (fun _ h9 => h9) rfl dX10_prove_1 ?_
  refine lv_iconst (pc := 4) (v := nI 0) hx hb dX10_prove_4 (by decide +kernel) ?_
  refine q_iald (pc := 5) hx hb hK hP 16 0 rfl rfl (k := 0) (v := nI (se 0)) rfl (by omega) (by omega) rfl dX10_prove_5 ?_
  refine lv_iconst (pc := 6) (v := nI 1) hx hb dX10_prove_6 (by decide +kernel) ?_
  refine lv_icmp_ne (pc := 7) (tgt := 23) hx hb dX10_prove_7 (by decide) (fun c_1 => ?_) (fun c_1 => ?_)
  · skip
    rw [nI_eq (by omega) (by omega)] at c_1
    exfalso; omega
  · skip
    rw [nI_eq (by omega) (by omega)] at c_1
    refine lv_iload_n (pc := 10) hx hb dX10_prove_10 rfl (lv_at hl 1 rfl) ?_
    refine lv_aload_n (pc := 11) hx hb dX10_prove_11 rfl (lv_at hl 0 rfl) ?_
    refine va_get (pc := 12) (D := D) (ci := 8) (v := .ref (a 36)) (C := RX10) (T := TX10) (N := 57) hx hb hts iu10 hown hK hP 0 rfl rfl 36 (by decide) (hts _ tw_1081) (fun _ h9 => h9) rfl dX10_prove_12 ?_
    refine lv_iconst (pc := 15) (v := nI 0) hx hb dX10_prove_15 (by decide +kernel) ?_
    refine q_iald (pc := 16) hx hb hK hP 12 0 rfl rfl (k := 0) (v := nI (ru 0)) rfl (by omega) (by omega) rfl dX10_prove_16 ?_
    refine cs_S (pc := 17) (idx := 356) (n := 2) (wr := [(h0, oM a ar mn tp osz lsz ns ct), (a 8, aZ ta 256 BOX), (a 9, aZ ta 256 UBOX), (a 16, aS ta 240 rk), (a 18, aS ta 16 ce), (a 22, aS ta 700 gm), (a 24, aS ta 16 mac), (a 25, aS ta 16 k1), (a 53, aS ta 16 gbl), (a 55, aS ta 16 gco), (a 45, aS ta 32 gch), (a 41, aS ta 256 gke), (a 36, aK ta 2 ru), (a 37, aK ta 2 le), (a 31, aS ta 300 gli), (a 43, aS ta 16 gth), (a 39, aK ta 2 se), (a 40, aK ta 2 lv), (a 47, aK ta 2 cn), (a 48, aT ta 2 ha), (a 46, aS ta 16 gbc)]) (As := [.int (nI l), .int (nI (ru 0))]) (rest := []) hx hb hml hown hts hGok hK hA hG hl.1 hP hD hS (ct_X10_isLevel ll D ta hGok (nI l) (ru 0) (by first | assumption | omega | rfl | decide) H.size) tw_1364 tw_1362 tw_1363 tw_75 hdX10_isLevel rfl ⟨rfl, rfl, Nat.le_of_ble_eq_true rfl, Nat.le_of_ble_eq_true rfl, Nat.le_of_ble_eq_true rfl, Nat.le_of_ble_eq_true rfl⟩ [] [0, 1, 2, 3, 4, 5, 6, 7, 8, 9, 10, 11, 12, 13, 14, 15, 16, 17, 18, 19, 20] rfl rfl (by decide) rfl (Nat.le_of_ble_eq_true rfl) dX10_prove_17 (fun u H locs hq hP hD hS => ?_)
    generalize u = z_17 at hq hP hD ⊢
    have hq : (z_17 = levB (nI l) (decide ((ru 0) = 3))) := hq
    have hz_17 := hq
    refine W.eq (g2 := F0 mm 20 ls [.int (qb z_17)]) rfl ?_
    have hP : va_P D vwCl [(h0, oM a ar mn tp osz lsz ns ct), (a 8, aZ ta 256 BOX), (a 9, aZ ta 256 UBOX), (a 16, aS ta 240 rk), (a 18, aS ta 16 ce), (a 22, aS ta 700 gm), (a 24, aS ta 16 mac), (a 25, aS ta 16 k1), (a 53, aS ta 16 gbl), (a 55, aS ta 16 gco), (a 45, aS ta 32 gch), (a 41, aS ta 256 gke), (a 36, aK ta 2 ru), (a 37, aK ta 2 le), (a 31, aS ta 300 gli), (a 43, aS ta 16 gth), (a 39, aK ta 2 se), (a 40, aK ta 2 lv), (a 47, aK ta 2 cn), (a 48, aT ta 2 ha), (a 46, aS ta 16 gbc)] H := hP
    have hD : va_D A [(h0, oM a ar mn tp osz lsz ns ct), (a 8, aZ ta 256 BOX), (a 9, aZ ta 256 UBOX), (a 16, aS ta 240 rk), (a 18, aS ta 16 ce), (a 22, aS ta 700 gm), (a 24, aS ta 16 mac), (a 25, aS ta 16 k1), (a 53, aS ta 16 gbl), (a 55, aS ta 16 gco), (a 45, aS ta 32 gch), (a 41, aS ta 256 gke), (a 36, aK ta 2 ru), (a 37, aK ta 2 le), (a 31, aS ta 300 gli), (a 43, aS ta 16 gth), (a 39, aK ta 2 se), (a 40, aK ta 2 lv), (a 47, aK ta 2 cn), (a 48, aT ta 2 ha), (a 46, aS ta 16 gbc)] := hD
    refine lv_if_ne (pc := 20) (tgt := 25) hx hb dX10_prove_20 (by decide) (fun c_2 => ?_) (fun c_2 => ?_)
    · skip
      rw [q_beq] at c_2
      try rw [Bool.not_eq_false] at c_2
      refine lv_aload_n (pc := 25) hx hb dX10_prove_25 rfl (lv_at hl 0 rfl) ?_
      refine va_get (pc := 26) (D := D) (ci := 8) (v := .ref (a 31)) (C := RX10) (T := TX10) (N := 57) hx hb hts iu10 hown hK hP 0 rfl rfl 31 (by decide) (hts _ tw_1076) (fun _ h9 => h9) rfl dX10_prove_26 ?_
      refine lv_iconst (pc := 29) (v := nI 0) hx hb dX10_prove_29 (by decide +kernel) ?_
      refine lv_bipush (pc := 30) (v := (-124)) hx hb dX10_prove_30 (by decide +kernel) ?_
      refine q_bastS (pc := 32) hx hb hK hP hD hS 14 2 rfl rfl (k := 0) rfl (by omega) (by omega) (b := qlo (-124)) rfl dX10_prove_32 (fun H locs hP hD hS => ?_)
      have hP : va_P D vwCl [(h0, oM a ar mn tp osz lsz ns ct), (a 8, aZ ta 256 BOX), (a 9, aZ ta 256 UBOX), (a 16, aS ta 240 rk), (a 18, aS ta 16 ce), (a 22, aS ta 700 gm), (a 24, aS ta 16 mac), (a 25, aS ta 16 k1), (a 53, aS ta 16 gbl), (a 55, aS ta 16 gco), (a 45, aS ta 32 gch), (a 41, aS ta 256 gke), (a 36, aK ta 2 ru), (a 37, aK ta 2 le), (a 31, aS ta 300 (qU gli 0 (qlo (-124)))), (a 43, aS ta 16 gth), (a 39, aK ta 2 se), (a 40, aK ta 2 lv), (a 47, aK ta 2 cn), (a 48, aT ta 2 ha), (a 46, aS ta 16 gbc)] H := hP
      have hD : va_D A [(h0, oM a ar mn tp osz lsz ns ct), (a 8, aZ ta 256 BOX), (a 9, aZ ta 256 UBOX), (a 16, aS ta 240 rk), (a 18, aS ta 16 ce), (a 22, aS ta 700 gm), (a 24, aS ta 16 mac), (a 25, aS ta 16 k1), (a 53, aS ta 16 gbl), (a 55, aS ta 16 gco), (a 45, aS ta 32 gch), (a 41, aS ta 256 gke), (a 36, aK ta 2 ru), (a 37, aK ta 2 le), (a 31, aS ta 300 (qU gli 0 (qlo (-124)))), (a 43, aS ta 16 gth), (a 39, aK ta 2 se), (a 40, aK ta 2 lv), (a 47, aK ta 2 cn), (a 48, aT ta 2 ha), (a 46, aS ta 16 gbc)] := hD
      refine lv_aload_n (pc := 33) hx hb dX10_prove_33 rfl (lv_at hl 0 rfl) ?_
      refine va_get (pc := 34) (D := D) (ci := 8) (v := .ref (a 31)) (C := RX10) (T := TX10) (N := 57) hx hb hts iu10 hown hK hP 0 rfl rfl 31 (by decide) (hts _ tw_1076) (fun _ h9 => h9) rfl dX10_prove_34 ?_
      refine lv_iconst (pc := 37) (v := nI 1) hx hb dX10_prove_37 (by decide +kernel) ?_
      refine lv_bipush (pc := 38) (v := (-126)) hx hb dX10_prove_38 (by decide +kernel) ?_
      refine q_bastS (pc := 40) hx hb hK hP hD hS 14 2 rfl rfl (k := 1) rfl (by omega) (by omega) (b := qlo (-126)) rfl dX10_prove_40 (fun H locs hP hD hS => ?_)
      have hP : va_P D vwCl [(h0, oM a ar mn tp osz lsz ns ct), (a 8, aZ ta 256 BOX), (a 9, aZ ta 256 UBOX), (a 16, aS ta 240 rk), (a 18, aS ta 16 ce), (a 22, aS ta 700 gm), (a 24, aS ta 16 mac), (a 25, aS ta 16 k1), (a 53, aS ta 16 gbl), (a 55, aS ta 16 gco), (a 45, aS ta 32 gch), (a 41, aS ta 256 gke), (a 36, aK ta 2 ru), (a 37, aK ta 2 le), (a 31, aS ta 300 (qU (qU gli 0 (qlo (-124))) 1 (qlo (-126)))), (a 43, aS ta 16 gth), (a 39, aK ta 2 se), (a 40, aK ta 2 lv), (a 47, aK ta 2 cn), (a 48, aT ta 2 ha), (a 46, aS ta 16 gbc)] H := hP
      have hD : va_D A [(h0, oM a ar mn tp osz lsz ns ct), (a 8, aZ ta 256 BOX), (a 9, aZ ta 256 UBOX), (a 16, aS ta 240 rk), (a 18, aS ta 16 ce), (a 22, aS ta 700 gm), (a 24, aS ta 16 mac), (a 25, aS ta 16 k1), (a 53, aS ta 16 gbl), (a 55, aS ta 16 gco), (a 45, aS ta 32 gch), (a 41, aS ta 256 gke), (a 36, aK ta 2 ru), (a 37, aK ta 2 le), (a 31, aS ta 300 (qU (qU gli 0 (qlo (-124))) 1 (qlo (-126)))), (a 43, aS ta 16 gth), (a 39, aK ta 2 se), (a 40, aK ta 2 lv), (a 47, aK ta 2 cn), (a 48, aT ta 2 ha), (a 46, aS ta 16 gbc)] := hD
      refine lv_aload_n (pc := 41) hx hb dX10_prove_41 rfl (lv_at hl 0 rfl) ?_
      refine va_get (pc := 42) (D := D) (ci := 8) (v := .ref (a 31)) (C := RX10) (T := TX10) (N := 57) hx hb hts iu10 hown hK hP 0 rfl rfl 31 (by decide) (hts _ tw_1076) (fun _ h9 => h9) rfl dX10_prove_42 ?_
      refine lv_iconst (pc := 45) (v := nI 2) hx hb dX10_prove_45 (by decide +kernel) ?_
      refine lv_iload_n (pc := 46) hx hb dX10_prove_46 rfl (lv_at hl 1 rfl) ?_
      refine lv_i2b (pc := 47) (v := qs (qlo (nI l))) hx hb dX10_prove_47 (q_i2b _) ?_
      refine q_bastS (pc := 48) hx hb hK hP hD hS 14 2 rfl rfl (k := 2) rfl (by omega) (by omega) (b := qlo (nI l)) (qlo_qs _) dX10_prove_48 (fun H locs hP hD hS => ?_)
      have hP : va_P D vwCl [(h0, oM a ar mn tp osz lsz ns ct), (a 8, aZ ta 256 BOX), (a 9, aZ ta 256 UBOX), (a 16, aS ta 240 rk), (a 18, aS ta 16 ce), (a 22, aS ta 700 gm), (a 24, aS ta 16 mac), (a 25, aS ta 16 k1), (a 53, aS ta 16 gbl), (a 55, aS ta 16 gco), (a 45, aS ta 32 gch), (a 41, aS ta 256 gke), (a 36, aK ta 2 ru), (a 37, aK ta 2 le), (a 31, aS ta 300 (qU (qU (qU gli 0 (qlo (-124))) 1 (qlo (-126))) 2 (qlo (nI l)))), (a 43, aS ta 16 gth), (a 39, aK ta 2 se), (a 40, aK ta 2 lv), (a 47, aK ta 2 cn), (a 48, aT ta 2 ha), (a 46, aS ta 16 gbc)] H := hP
      have hD : va_D A [(h0, oM a ar mn tp osz lsz ns ct), (a 8, aZ ta 256 BOX), (a 9, aZ ta 256 UBOX), (a 16, aS ta 240 rk), (a 18, aS ta 16 ce), (a 22, aS ta 700 gm), (a 24, aS ta 16 mac), (a 25, aS ta 16 k1), (a 53, aS ta 16 gbl), (a 55, aS ta 16 gco), (a 45, aS ta 32 gch), (a 41, aS ta 256 gke), (a 36, aK ta 2 ru), (a 37, aK ta 2 le), (a 31, aS ta 300 (qU (qU (qU gli 0 (qlo (-124))) 1 (qlo (-126))) 2 (qlo (nI l)))), (a 43, aS ta 16 gth), (a 39, aK ta 2 se), (a 40, aK ta 2 lv), (a 47, aK ta 2 cn), (a 48, aT ta 2 ha), (a 46, aS ta 16 gbc)] := hD
      refine lv_aload_n (pc := 49) hx hb dX10_prove_49 rfl (lv_at hl 0 rfl) ?_
      refine va_get (pc := 50) (D := D) (ci := 8) (v := .ref (a 31)) (C := RX10) (T := TX10) (N := 57) hx hb hts iu10 hown hK hP 0 rfl rfl 31 (by decide) (hts _ tw_1076) (fun _ h9 => h9) rfl dX10_prove_50 ?_
      refine lv_iconst (pc := 53) (v := nI 3) hx hb dX10_prove_53 (by decide +kernel) ?_
      refine lv_iconst (pc := 54) (v := nI 0) hx hb dX10_prove_54 (by decide +kernel) ?_
      refine q_bastS (pc := 55) hx hb hK hP hD hS 14 2 rfl rfl (k := 3) rfl (by omega) (by omega) (b := BitVec.ofNat 8 0) (qlo_nI _) dX10_prove_55 (fun H locs hP hD hS => ?_)
      have hP : va_P D vwCl [(h0, oM a ar mn tp osz lsz ns ct), (a 8, aZ ta 256 BOX), (a 9, aZ ta 256 UBOX), (a 16, aS ta 240 rk), (a 18, aS ta 16 ce), (a 22, aS ta 700 gm), (a 24, aS ta 16 mac), (a 25, aS ta 16 k1), (a 53, aS ta 16 gbl), (a 55, aS ta 16 gco), (a 45, aS ta 32 gch), (a 41, aS ta 256 gke), (a 36, aK ta 2 ru), (a 37, aK ta 2 le), (a 31, aS ta 300 (qU (qU (qU (qU gli 0 (qlo (-124))) 1 (qlo (-126))) 2 (qlo (nI l))) 3 (BitVec.ofNat 8 0))), (a 43, aS ta 16 gth), (a 39, aK ta 2 se), (a 40, aK ta 2 lv), (a 47, aK ta 2 cn), (a 48, aT ta 2 ha), (a 46, aS ta 16 gbc)] H := hP
      have hD : va_D A [(h0, oM a ar mn tp osz lsz ns ct), (a 8, aZ ta 256 BOX), (a 9, aZ ta 256 UBOX), (a 16, aS ta 240 rk), (a 18, aS ta 16 ce), (a 22, aS ta 700 gm), (a 24, aS ta 16 mac), (a 25, aS ta 16 k1), (a 53, aS ta 16 gbl), (a 55, aS ta 16 gco), (a 45, aS ta 32 gch), (a 41, aS ta 256 gke), (a 36, aK ta 2 ru), (a 37, aK ta 2 le), (a 31, aS ta 300 (qU (qU (qU (qU gli 0 (qlo (-124))) 1 (qlo (-126))) 2 (qlo (nI l))) 3 (BitVec.ofNat 8 0))), (a 43, aS ta 16 gth), (a 39, aK ta 2 se), (a 40, aK ta 2 lv), (a 47, aK ta 2 cn), (a 48, aT ta 2 ha), (a 46, aS ta 16 gbc)] := hD
      refine lv_iconst (pc := 56) (v := nI 0) hx hb dX10_prove_56 (by decide +kernel) ?_
      refine lv_istore_n (pc := 57) (lv' := [(2, .int (nI 0)), (0, .ref h0), (1, .int (nI l))]) hx hb dX10_prove_57 rfl hl (by decide) rfl (fun ls hl => ?_)
      have LP58 : ∀ (nn58 : Nat) (k1x : Nat) (p' : Nat → BitVec 8), (k1x ≤ 8) → (qSeg p' ((qU (qU (qU (qU gli 0 (qlo (-124))) 1 (qlo (-126))) 2 (qlo (nI l))) 3 (BitVec.ofNat 8 0))) 4 k1x gth) → (8 - k1x < nn58) → ∀ (H : Heap) (locs : List Loc), va_P D vwCl [(h0, oM a ar mn tp osz lsz ns ct), (a 8, aZ ta 256 BOX), (a 9, aZ ta 256 UBOX), (a 16, aS ta 240 rk), (a 18, aS ta 16 ce), (a 22, aS ta 700 gm), (a 24, aS ta 16 mac), (a 25, aS ta 16 k1), (a 53, aS ta 16 gbl), (a 55, aS ta 16 gco), (a 45, aS ta 32 gch), (a 41, aS ta 256 gke), (a 36, aK ta 2 ru), (a 37, aK ta 2 le), (a 31, aS ta 300 p'), (a 43, aS ta 16 gth), (a 39, aK ta 2 se), (a 40, aK ta 2 lv), (a 47, aK ta 2 cn), (a 48, aT ta 2 ha), (a 46, aS ta 16 gbc)] H → va_D A [(h0, oM a ar mn tp osz lsz ns ct), (a 8, aZ ta 256 BOX), (a 9, aZ ta 256 UBOX), (a 16, aS ta 240 rk), (a 18, aS ta 16 ce), (a 22, aS ta 700 gm), (a 24, aS ta 16 mac), (a 25, aS ta 16 k1), (a 53, aS ta 16 gbl), (a 55, aS ta 16 gco), (a 45, aS ta 32 gch), (a 41, aS ta 256 gke), (a 36, aK ta 2 ru), (a 37, aK ta 2 le), (a 31, aS ta 300 p'), (a 43, aS ta 16 gth), (a 39, aK ta 2 se), (a 40, aK ta 2 lv), (a 47, aK ta 2 cn), (a 48, aT ta 2 ha), (a 46, aS ta 16 gbc)] → va_S A ss.heap H locs → ∀ ls : Array Slot, lv_has ls 3 [(2, .int (nI k1x)), (0, .ref h0), (1, .int (nI l))] → W pp ll ee ({ frames := 6, cells := 0, slots := 0, locals := 154 } : Room) ss mm (([.ref h0, .int (nI l)] : List Value).toArray) below meth kc H locs 0 0 Q (F0 mm 58 ls []) := by
        intro nn58
        induction nn58 with
        | zero => intro k1x p' hkk1 hs1 hmu; exact absurd hmu (Nat.not_lt_zero _)
        | succ nn58 ih58 =>
          intro k1x p' hkk1 hs1 hmu58 H locs hP hD hS ls hl
          refine lv_iload_n (pc := 58) hx hb dX10_prove_58 rfl (lv_at hl 0 rfl) ?_
          refine lv_bipush (pc := 59) (v := nI 8) hx hb dX10_prove_59 (by decide +kernel) ?_
          refine lv_icmp_ge (pc := 61) (tgt := 84) hx hb dX10_prove_61 (by decide) (fun c_3 => ?_) (fun c_3 => ?_)
          · skip
            rw [nI_leI (by omega) (by omega)] at c_3
            refine lv_aload_n (pc := 84) hx hb dX10_prove_84 rfl (lv_at hl 1 rfl) ?_
            refine lv_iconst (pc := 85) (v := nI 0) hx hb dX10_prove_85 (by decide +kernel) ?_
            refine lv_aload_n (pc := 86) hx hb dX10_prove_86 rfl (lv_at hl 1 rfl) ?_
            refine va_get (pc := 87) (D := D) (ci := 8) (v := .ref (a 31)) (C := RX10) (T := TX10) (N := 57) hx hb hts iu10 hown hK hP 0 rfl rfl 31 (by decide) (hts _ tw_1076) (fun _ h9 => h9) rfl dX10_prove_87 ?_
            refine lv_iconst (pc := 90) (v := nI 0) hx hb dX10_prove_90 (by decide +kernel) ?_
            refine lv_aload_n (pc := 91) hx hb dX10_prove_91 rfl (lv_at hl 1 rfl) ?_
            refine va_get (pc := 92) (D := D) (ci := 8) (v := .ref (a 31)) (C := RX10) (T := TX10) (N := 57) hx hb hts iu10 hown hK hP 0 rfl rfl 31 (by decide) (hts _ tw_1076) (fun _ h9 => h9) rfl dX10_prove_92 ?_
            refine lv_iconst (pc := 95) (v := nI 4) hx hb dX10_prove_95 (by decide +kernel) ?_
            refine lv_bipush (pc := 96) (v := nI 8) hx hb dX10_prove_96 (by decide +kernel) ?_
            refine lv_iconst (pc := 98) (v := nI 1) hx hb dX10_prove_98 (by decide +kernel) ?_
            refine cs_V (pc := 99) (idx := 360) (n := 7) (wr := [(a 43, aS ta 16 gth), (a 39, aK ta 2 se), (a 40, aK ta 2 lv), (a 47, aK ta 2 cn), (a 48, aT ta 2 ha), (a 46, aS ta 16 gbc)]) (As := [.int (nI 0), .ref (a 31), .int (nI 0), .ref (a 31), .int (nI 4), .int (nI 8), .int (nI 1)]) (rest := []) (ci := 8) hx hb hml hown hts hGok hK hA hG hl.1 hP hD hS (ct_X10_commandMac_311 ll D ta hGok h0 a ar mn tp osz lsz ns ct rk ce gm mac k1 gbl gco gch gke ru le 0 (a 31) 300 p' 4 8 (by first | assumption | omega | rfl | decide) (by first | assumption | omega | rfl | decide) (by first | assumption | omega | rfl | decide) (by first | assumption | omega | rfl | decide) (by first | assumption | omega | rfl | decide) (by first | assumption | omega | rfl | decide) H.size) tw_1368 tw_1365 tw_1367 tw_49 tw_75 hdX10_commandMac rfl ⟨rfl, rfl, Nat.le_of_ble_eq_true rfl, Nat.le_of_ble_eq_true rfl, Nat.le_of_ble_eq_true rfl, Nat.le_of_ble_eq_true rfl⟩ rfl rfl (q0 := 0) rfl [0, 1, 2, 3, 4, 5, 6, 7, 8, 9, 10, 11, 12, 13, 14] [15, 16, 17, 18, 19, 20] rfl rfl (by decide) rfl (Nat.le_of_ble_eq_true rfl) dX10_prove_99 (fun u H locs hq hP hD hS => ?_)
            obtain ⟨rk1_99, ce1_99, gm1_99, mac1_99, k11_99, gbl1_99, gco1_99, gch1_99, mn1_99, ar1_99⟩ := u
            have hq : (seg gco1_99 0 16 = cmacL (seg gke (128 * 0 + 32) (le 0)) ((zeroL 16) ++ (headL (seg p' 0 4) 8 ++ seg p' 4 8))) ∧ (seg gch1_99 (16 * 0) 16 = seg gco1_99 0 16) ∧ (∀ jz, (jz < 16 * 0 ∨ 16 * 0 + 16 ≤ jz) → gch1_99 jz = gch jz) := hq
            obtain ⟨hs_99, hc_99, hfc_99⟩ := hq
            refine W.eq (g2 := F0 mm 102 ls []) rfl ?_
            have hP : va_P D vwCl [(a 43, aS ta 16 gth), (a 39, aK ta 2 se), (a 40, aK ta 2 lv), (a 47, aK ta 2 cn), (a 48, aT ta 2 ha), (a 46, aS ta 16 gbc), (h0, oM a ar1_99 mn1_99 tp osz lsz ns ct), (a 8, aZ ta 256 BOX), (a 9, aZ ta 256 UBOX), (a 16, aS ta 240 rk1_99), (a 18, aS ta 16 ce1_99), (a 22, aS ta 700 gm1_99), (a 24, aS ta 16 mac1_99), (a 25, aS ta 16 k11_99), (a 53, aS ta 16 gbl1_99), (a 55, aS ta 16 gco1_99), (a 45, aS ta 32 gch1_99), (a 41, aS ta 256 gke), (a 36, aK ta 2 ru), (a 37, aK ta 2 le), (a 31, aS ta 300 p')] H := hP
            have hD : va_D A [(a 43, aS ta 16 gth), (a 39, aK ta 2 se), (a 40, aK ta 2 lv), (a 47, aK ta 2 cn), (a 48, aT ta 2 ha), (a 46, aS ta 16 gbc), (h0, oM a ar1_99 mn1_99 tp osz lsz ns ct), (a 8, aZ ta 256 BOX), (a 9, aZ ta 256 UBOX), (a 16, aS ta 240 rk1_99), (a 18, aS ta 16 ce1_99), (a 22, aS ta 700 gm1_99), (a 24, aS ta 16 mac1_99), (a 25, aS ta 16 k11_99), (a 53, aS ta 16 gbl1_99), (a 55, aS ta 16 gco1_99), (a 45, aS ta 32 gch1_99), (a 41, aS ta 256 gke), (a 36, aK ta 2 ru), (a 37, aK ta 2 le), (a 31, aS ta 300 p')] := hD
            refine lv_iconst (pc := 102) (v := nI 0) hx hb dX10_prove_102 (by decide +kernel) ?_
            refine lv_istore_n (pc := 103) (lv' := [(2, .int (nI 0)), (0, .ref h0), (1, .int (nI l))]) hx hb dX10_prove_103 rfl hl (by decide) rfl (fun ls hl => ?_)
            have LP104 : ∀ (nn104 : Nat) (k2x : Nat) (r' : Nat → BitVec 8), (k2x ≤ 8) → (qSeg r' p' 12 k2x gco1_99) → (8 - k2x < nn104) → ∀ (H : Heap) (locs : List Loc), va_P D vwCl [(a 43, aS ta 16 gth), (a 39, aK ta 2 se), (a 40, aK ta 2 lv), (a 47, aK ta 2 cn), (a 48, aT ta 2 ha), (a 46, aS ta 16 gbc), (h0, oM a ar1_99 mn1_99 tp osz lsz ns ct), (a 8, aZ ta 256 BOX), (a 9, aZ ta 256 UBOX), (a 16, aS ta 240 rk1_99), (a 18, aS ta 16 ce1_99), (a 22, aS ta 700 gm1_99), (a 24, aS ta 16 mac1_99), (a 25, aS ta 16 k11_99), (a 53, aS ta 16 gbl1_99), (a 55, aS ta 16 gco1_99), (a 45, aS ta 32 gch1_99), (a 41, aS ta 256 gke), (a 36, aK ta 2 ru), (a 37, aK ta 2 le), (a 31, aS ta 300 r')] H → va_D A [(a 43, aS ta 16 gth), (a 39, aK ta 2 se), (a 40, aK ta 2 lv), (a 47, aK ta 2 cn), (a 48, aT ta 2 ha), (a 46, aS ta 16 gbc), (h0, oM a ar1_99 mn1_99 tp osz lsz ns ct), (a 8, aZ ta 256 BOX), (a 9, aZ ta 256 UBOX), (a 16, aS ta 240 rk1_99), (a 18, aS ta 16 ce1_99), (a 22, aS ta 700 gm1_99), (a 24, aS ta 16 mac1_99), (a 25, aS ta 16 k11_99), (a 53, aS ta 16 gbl1_99), (a 55, aS ta 16 gco1_99), (a 45, aS ta 32 gch1_99), (a 41, aS ta 256 gke), (a 36, aK ta 2 ru), (a 37, aK ta 2 le), (a 31, aS ta 300 r')] → va_S A ss.heap H locs → ∀ ls : Array Slot, lv_has ls 3 [(2, .int (nI k2x)), (0, .ref h0), (1, .int (nI l))] → W pp ll ee ({ frames := 6, cells := 0, slots := 0, locals := 154 } : Room) ss mm (([.ref h0, .int (nI l)] : List Value).toArray) below meth kc H locs 0 0 Q (F0 mm 104 ls []) := by
              intro nn104
              induction nn104 with
              | zero => intro k2x r' hkk2 hs2 hmu; exact absurd hmu (Nat.not_lt_zero _)
              | succ nn104 ih104 =>
                intro k2x r' hkk2 hs2 hmu104 H locs hP hD hS ls hl
                refine lv_iload_n (pc := 104) hx hb dX10_prove_104 rfl (lv_at hl 0 rfl) ?_
                refine lv_bipush (pc := 105) (v := nI 8) hx hb dX10_prove_105 (by decide +kernel) ?_
                refine lv_icmp_ge (pc := 107) (tgt := 131) hx hb dX10_prove_107 (by decide) (fun c_4 => ?_) (fun c_4 => ?_)
                · skip
                  rw [nI_leI (by omega) (by omega)] at c_4
                  refine lv_aload_n (pc := 131) hx hb dX10_prove_131 rfl (lv_at hl 1 rfl) ?_
                  refine lv_bipush (pc := 132) (v := nI 20) hx hb dX10_prove_132 (by decide +kernel) ?_
                  refine va_put (pc := 134) (D := D) (ci := 8) (v := .int (nI 20)) (ty := .int) (C := RX10) (T := TX10) (N := 57) hx hb hts iu10 tyX10 tyX10_ok nmX10 hown hK hP hD hS 6 rfl rfl 32 (by decide) (hts _ tw_1077) (fun _ h9 => h9) rfl (by decide +kernel) rfl rfl (Nat.le_of_ble_eq_true rfl) dX10_prove_134 (fun H locs hP hD hS => ?_)
                  have hP : va_P D vwCl [(a 43, aS ta 16 gth), (a 39, aK ta 2 se), (a 40, aK ta 2 lv), (a 47, aK ta 2 cn), (a 48, aT ta 2 ha), (a 46, aS ta 16 gbc), (h0, oM a ar1_99 mn1_99 tp osz 20 ns ct), (a 8, aZ ta 256 BOX), (a 9, aZ ta 256 UBOX), (a 16, aS ta 240 rk1_99), (a 18, aS ta 16 ce1_99), (a 22, aS ta 700 gm1_99), (a 24, aS ta 16 mac1_99), (a 25, aS ta 16 k11_99), (a 53, aS ta 16 gbl1_99), (a 55, aS ta 16 gco1_99), (a 45, aS ta 32 gch1_99), (a 41, aS ta 256 gke), (a 36, aK ta 2 ru), (a 37, aK ta 2 le), (a 31, aS ta 300 r')] H := hP
                  have hD : va_D A [(a 43, aS ta 16 gth), (a 39, aK ta 2 se), (a 40, aK ta 2 lv), (a 47, aK ta 2 cn), (a 48, aT ta 2 ha), (a 46, aS ta 16 gbc), (h0, oM a ar1_99 mn1_99 tp osz 20 ns ct), (a 8, aZ ta 256 BOX), (a 9, aZ ta 256 UBOX), (a 16, aS ta 240 rk1_99), (a 18, aS ta 16 ce1_99), (a 22, aS ta 700 gm1_99), (a 24, aS ta 16 mac1_99), (a 25, aS ta 16 k11_99), (a 53, aS ta 16 gbl1_99), (a 55, aS ta 16 gco1_99), (a 45, aS ta 32 gch1_99), (a 41, aS ta 256 gke), (a 36, aK ta 2 ru), (a 37, aK ta 2 le), (a 31, aS ta 300 r')] := hD
                  refine lv_aload_n (pc := 137) hx hb dX10_prove_137 rfl (lv_at hl 1 rfl) ?_
                  refine lv_iconst (pc := 138) (v := nI 0) hx hb dX10_prove_138 (by decide +kernel) ?_
                  refine lv_iload_n (pc := 139) hx hb dX10_prove_139 rfl (lv_at hl 2 rfl) ?_
                  refine cs_V (pc := 140) (idx := 364) (n := 2) (wr := [(a 43, aS ta 16 gth), (a 8, aZ ta 256 BOX), (a 9, aZ ta 256 UBOX), (a 16, aS ta 240 rk1_99), (a 18, aS ta 16 ce1_99), (a 22, aS ta 700 gm1_99), (a 24, aS ta 16 mac1_99), (a 25, aS ta 16 k11_99), (a 53, aS ta 16 gbl1_99), (a 45, aS ta 32 gch1_99), (a 41, aS ta 256 gke), (a 36, aK ta 2 ru), (a 37, aK ta 2 le), (a 31, aS ta 300 r')]) (As := [.int (nI 0), .int (nI l)]) (rest := []) (ci := 8) hx hb hml hown hts hGok hK hA hG hl.1 hP hD hS (ct_X10_opens ll D ta hGok h0 a ar1_99 mn1_99 tp osz 20 ns ct se lv cn ha gbc gco1_99 0 l (by first | assumption | omega | rfl | decide) H.size) tw_1376 tw_1373 tw_1375 tw_51 tw_75 hdX10_opens rfl ⟨rfl, rfl, Nat.le_of_ble_eq_true rfl, Nat.le_of_ble_eq_true rfl, Nat.le_of_ble_eq_true rfl, Nat.le_of_ble_eq_true rfl⟩ rfl rfl (q0 := 6) rfl [6, 1, 2, 3, 4, 5, 15] [0, 7, 8, 9, 10, 11, 12, 13, 14, 16, 17, 18, 19, 20] rfl rfl (by decide) rfl (Nat.le_of_ble_eq_true rfl) dX10_prove_140 (fun u H locs hq hP hD hS => ?_)
                  obtain ⟨se1_140, lv1_140, cn1_140, ha1_140, gbc1_140⟩ := u
                  have hq : (se1_140 = qU se 0 2) ∧ (lv1_140 = qU lv 0 l) ∧ (cn1_140 = qU cn 0 0) ∧ (ha1_140 = qU ha 0 false) ∧ (seg gbc1_140 (8 * 0) 8 = seg gco1_99 0 8) ∧ (∀ jz, (jz < 8 * 0 ∨ 8 * 0 + 8 ≤ jz) → gbc1_140 jz = gbc jz) := hq
                  obtain ⟨hse_140, hlv_140, hcn_140, hha_140, hs_140, hfb_140⟩ := hq
                  refine W.eq (g2 := F0 mm 143 ls []) rfl ?_
                  have hP : va_P D vwCl [(a 43, aS ta 16 gth), (a 8, aZ ta 256 BOX), (a 9, aZ ta 256 UBOX), (a 16, aS ta 240 rk1_99), (a 18, aS ta 16 ce1_99), (a 22, aS ta 700 gm1_99), (a 24, aS ta 16 mac1_99), (a 25, aS ta 16 k11_99), (a 53, aS ta 16 gbl1_99), (a 45, aS ta 32 gch1_99), (a 41, aS ta 256 gke), (a 36, aK ta 2 ru), (a 37, aK ta 2 le), (a 31, aS ta 300 r'), (h0, oM a ar1_99 mn1_99 tp osz 20 ns ct), (a 39, aK ta 2 se1_140), (a 40, aK ta 2 lv1_140), (a 47, aK ta 2 cn1_140), (a 48, aT ta 2 ha1_140), (a 46, aS ta 16 gbc1_140), (a 55, aS ta 16 gco1_99)] H := hP
                  have hD : va_D A [(a 43, aS ta 16 gth), (a 8, aZ ta 256 BOX), (a 9, aZ ta 256 UBOX), (a 16, aS ta 240 rk1_99), (a 18, aS ta 16 ce1_99), (a 22, aS ta 700 gm1_99), (a 24, aS ta 16 mac1_99), (a 25, aS ta 16 k11_99), (a 53, aS ta 16 gbl1_99), (a 45, aS ta 32 gch1_99), (a 41, aS ta 256 gke), (a 36, aK ta 2 ru), (a 37, aK ta 2 le), (a 31, aS ta 300 r'), (h0, oM a ar1_99 mn1_99 tp osz 20 ns ct), (a 39, aK ta 2 se1_140), (a 40, aK ta 2 lv1_140), (a 47, aK ta 2 cn1_140), (a 48, aT ta 2 ha1_140), (a 46, aS ta 16 gbc1_140), (a 55, aS ta 16 gco1_99)] := hD
                  refine lv_bipush (pc := 143) (v := nI 20) hx hb dX10_prove_143 (by decide +kernel) ?_
                  have hq_5 : (seg gco1_99 0 16 = chain3 (seg gke 32 (le 0)) (zeroL 16) (prvC l (seg gth 0 8)) (seg gth 0 8)) ∧ (qL r' 20 = (prvC l (seg gth 0 8)) ++ seg gco1_99 0 8) ∧ (seg gch1_99 0 16 = seg gco1_99 0 16) ∧ (∀ j, 16 ≤ j → gch1_99 j = gch j) ∧ (se1_140 = qU se 0 2) ∧ (lv1_140 = qU lv 0 l) ∧ (cn1_140 = qU cn 0 0) ∧ (ha1_140 = qU ha 0 false) ∧ (seg gbc1_140 0 8 = seg gco1_99 0 8) ∧ (∀ j, 8 ≤ j → gbc1_140 j = gbc j) := by
                    have h12 : qL p' 12 = (prvC l (seg gth 0 8)) := prv_line (k := k1x) hs1 (by omega)
                    have h4 : headL (seg p' 0 4) 8 ++ seg p' 4 8 = headL (prvC l (seg gth 0 8)) ((prvC l (seg gth 0 8)).length - 4) ++ (prvC l (seg gth 0 8)).drop 4 := prv_head h12
                    refine ⟨?_, ?_, hc_99, fun j hj => hfc_99 j (by omega), hse_140, hlv_140, hcn_140, hha_140, hs_140, fun j hj => hfb_140 j (by omega)⟩
                    · rw [hs_99, h4, chain3, prvC_drop, prvC_len, seg_len]
                      rw [List.append_assoc]
                    · rw [show (20 : Nat) = 12 + 8 from rfl, ← seg_0, seg_app, Nat.zero_add, seg_copy0 hs2 (by omega), seg_keep (g' := r') (g := p') (o := 0) (n := 12) (fun j hj => hs2.2 _ (by omega)), seg_0, h12, seg_0, seg_0]
                  exact hret (⟨(rk1_99), (ce1_99), (gm1_99), (mac1_99), (k11_99), (gbl1_99), (gco1_99), (gch1_99), (r'), (gbc1_140), (se1_140), (lv1_140), (cn1_140), (ha1_140), (mn1_99), (ar1_99)⟩ : (Nat → BitVec 8) × (Nat → BitVec 8) × (Nat → BitVec 8) × (Nat → BitVec 8) × (Nat → BitVec 8) × (Nat → BitVec 8) × (Nat → BitVec 8) × (Nat → BitVec 8) × (Nat → BitVec 8) × (Nat → BitVec 8) × (Nat → Nat) × (Nat → Nat) × (Nat → Nat) × (Nat → Bool) × Nat × Nat) _ _ _ _ dX10_prove_145 hq_5 (hP.sub [14, 1, 2, 3, 4, 5, 6, 7, 8, 20, 9, 10, 11, 12, 13, 0, 15, 16, 17, 18, 19] rfl) (hD.sub [14, 1, 2, 3, 4, 5, 6, 7, 8, 20, 9, 10, 11, 12, 13, 0, 15, 16, 17, 18, 19] (by decide) rfl) hS
                · skip
                  rw [nI_leI (by omega) (by omega)] at c_4
                  refine lv_aload_n (pc := 110) hx hb dX10_prove_110 rfl (lv_at hl 1 rfl) ?_
                  refine va_get (pc := 111) (D := D) (ci := 8) (v := .ref (a 31)) (C := RX10) (T := TX10) (N := 57) hx hb hts iu10 hown hK hP 6 rfl rfl 31 (by decide) (hts _ tw_1076) (fun _ h9 => h9) rfl dX10_prove_111 ?_
                  refine lv_bipush (pc := 114) (v := nI 12) hx hb dX10_prove_114 (by decide +kernel) ?_
                  refine lv_iload_n (pc := 116) hx hb dX10_prove_116 rfl (lv_at hl 0 rfl) ?_
                  refine lv_iadd (pc := 117) hx hb dX10_prove_117 ?_
                  refine q_top (y := nI (12 + k2x)) (nI_add 12 k2x) ?_
                  refine lv_aload_n (pc := 118) hx hb dX10_prove_118 rfl (lv_at hl 1 rfl) ?_
                  refine va_get (pc := 119) (D := D) (ci := 8) (v := .ref (a 55)) (C := RX10) (T := TX10) (N := 57) hx hb hts iu10 hown hK hP 6 rfl rfl 55 (by decide) (hts _ tw_1100) (fun _ h9 => h9) rfl dX10_prove_119 ?_
                  refine lv_iload_n (pc := 122) hx hb dX10_prove_122 rfl (lv_at hl 0 rfl) ?_
                  refine q_bald (pc := 123) hx hb hK hP 15 2 rfl rfl (k := k2x) (v := qs (gco1_99 k2x)) rfl (by omega) (by omega) rfl dX10_prove_123 ?_
                  refine q_bastS (pc := 124) hx hb hK hP hD hS 20 2 rfl rfl (k := 12 + k2x) rfl (by omega) (by omega) (b := gco1_99 k2x) (qlo_qs _) dX10_prove_124 (fun H locs hP hD hS => ?_)
                  have hP : va_P D vwCl [(a 43, aS ta 16 gth), (a 39, aK ta 2 se), (a 40, aK ta 2 lv), (a 47, aK ta 2 cn), (a 48, aT ta 2 ha), (a 46, aS ta 16 gbc), (h0, oM a ar1_99 mn1_99 tp osz lsz ns ct), (a 8, aZ ta 256 BOX), (a 9, aZ ta 256 UBOX), (a 16, aS ta 240 rk1_99), (a 18, aS ta 16 ce1_99), (a 22, aS ta 700 gm1_99), (a 24, aS ta 16 mac1_99), (a 25, aS ta 16 k11_99), (a 53, aS ta 16 gbl1_99), (a 55, aS ta 16 gco1_99), (a 45, aS ta 32 gch1_99), (a 41, aS ta 256 gke), (a 36, aK ta 2 ru), (a 37, aK ta 2 le), (a 31, aS ta 300 (qU r' (12 + k2x) (gco1_99 k2x)))] H := hP
                  have hD : va_D A [(a 43, aS ta 16 gth), (a 39, aK ta 2 se), (a 40, aK ta 2 lv), (a 47, aK ta 2 cn), (a 48, aT ta 2 ha), (a 46, aS ta 16 gbc), (h0, oM a ar1_99 mn1_99 tp osz lsz ns ct), (a 8, aZ ta 256 BOX), (a 9, aZ ta 256 UBOX), (a 16, aS ta 240 rk1_99), (a 18, aS ta 16 ce1_99), (a 22, aS ta 700 gm1_99), (a 24, aS ta 16 mac1_99), (a 25, aS ta 16 k11_99), (a 53, aS ta 16 gbl1_99), (a 55, aS ta 16 gco1_99), (a 45, aS ta 32 gch1_99), (a 41, aS ta 256 gke), (a 36, aK ta 2 ru), (a 37, aK ta 2 le), (a 31, aS ta 300 (qU r' (12 + k2x) (gco1_99 k2x)))] := hD
                  refine lv_iinc (pc := 125) (v := nI (k2x + 1)) (lv' := [(2, .int (nI (k2x + 1))), (0, .ref h0), (1, .int (nI l))]) hx hb dX10_prove_125 hl (k := 0) rfl (by first | exact nI_add k2x 1 | rfl) (by decide) rfl (fun ls hl => ?_)
                  refine lv_goto (pc := 128) (tgt := 104) hx hb dX10_prove_128 (by decide) ?_
                  exact ih104 (k2x + 1) (qU r' (12 + k2x) (gco1_99 k2x)) (by omega) (qSeg_s hs2 (by omega) (by first | rfl | (simp; done))) (by omega) _ _ (hP.sub [0, 1, 2, 3, 4, 5, 6, 7, 8, 9, 10, 11, 12, 13, 14, 15, 16, 17, 18, 19, 20] rfl) (hD.sub [0, 1, 2, 3, 4, 5, 6, 7, 8, 9, 10, 11, 12, 13, 14, 15, 16, 17, 18, 19, 20] (by decide) rfl) hS ls (lv_sub hl [0, 1, 2] rfl)
            exact LP104 _ 0 p' (by omega) (qSeg_0) (Nat.lt_succ_self _) _ _ (hP.sub [0, 1, 2, 3, 4, 5, 6, 7, 8, 9, 10, 11, 12, 13, 14, 15, 16, 17, 18, 19, 20] rfl) (hD.sub [0, 1, 2, 3, 4, 5, 6, 7, 8, 9, 10, 11, 12, 13, 14, 15, 16, 17, 18, 19, 20] (by decide) rfl) hS ls (lv_sub hl [0, 1, 2] rfl)
          · skip
            rw [nI_leI (by omega) (by omega)] at c_3
            refine lv_aload_n (pc := 64) hx hb dX10_prove_64 rfl (lv_at hl 1 rfl) ?_
            refine va_get (pc := 65) (D := D) (ci := 8) (v := .ref (a 31)) (C := RX10) (T := TX10) (N := 57) hx hb hts iu10 hown hK hP 0 rfl rfl 31 (by decide) (hts _ tw_1076) (fun _ h9 => h9) rfl dX10_prove_65 ?_
            refine lv_iconst (pc := 68) (v := nI 4) hx hb dX10_prove_68 (by decide +kernel) ?_
            refine lv_iload_n (pc := 69) hx hb dX10_prove_69 rfl (lv_at hl 0 rfl) ?_
            refine lv_iadd (pc := 70) hx hb dX10_prove_70 ?_
            refine q_top (y := nI (4 + k1x)) (nI_add 4 k1x) ?_
            refine lv_aload_n (pc := 71) hx hb dX10_prove_71 rfl (lv_at hl 1 rfl) ?_
            refine va_get (pc := 72) (D := D) (ci := 8) (v := .ref (a 43)) (C := RX10) (T := TX10) (N := 57) hx hb hts iu10 hown hK hP 0 rfl rfl 43 (by decide) (hts _ tw_1088) (fun _ h9 => h9) rfl dX10_prove_72 ?_
            refine lv_iload_n (pc := 75) hx hb dX10_prove_75 rfl (lv_at hl 0 rfl) ?_
            refine q_bald (pc := 76) hx hb hK hP 15 2 rfl rfl (k := k1x) (v := qs (gth k1x)) rfl (by omega) (by omega) rfl dX10_prove_76 ?_
            refine q_bastS (pc := 77) hx hb hK hP hD hS 14 2 rfl rfl (k := 4 + k1x) rfl (by omega) (by omega) (b := gth k1x) (qlo_qs _) dX10_prove_77 (fun H locs hP hD hS => ?_)
            have hP : va_P D vwCl [(h0, oM a ar mn tp osz lsz ns ct), (a 8, aZ ta 256 BOX), (a 9, aZ ta 256 UBOX), (a 16, aS ta 240 rk), (a 18, aS ta 16 ce), (a 22, aS ta 700 gm), (a 24, aS ta 16 mac), (a 25, aS ta 16 k1), (a 53, aS ta 16 gbl), (a 55, aS ta 16 gco), (a 45, aS ta 32 gch), (a 41, aS ta 256 gke), (a 36, aK ta 2 ru), (a 37, aK ta 2 le), (a 31, aS ta 300 (qU p' (4 + k1x) (gth k1x))), (a 43, aS ta 16 gth), (a 39, aK ta 2 se), (a 40, aK ta 2 lv), (a 47, aK ta 2 cn), (a 48, aT ta 2 ha), (a 46, aS ta 16 gbc)] H := hP
            have hD : va_D A [(h0, oM a ar mn tp osz lsz ns ct), (a 8, aZ ta 256 BOX), (a 9, aZ ta 256 UBOX), (a 16, aS ta 240 rk), (a 18, aS ta 16 ce), (a 22, aS ta 700 gm), (a 24, aS ta 16 mac), (a 25, aS ta 16 k1), (a 53, aS ta 16 gbl), (a 55, aS ta 16 gco), (a 45, aS ta 32 gch), (a 41, aS ta 256 gke), (a 36, aK ta 2 ru), (a 37, aK ta 2 le), (a 31, aS ta 300 (qU p' (4 + k1x) (gth k1x))), (a 43, aS ta 16 gth), (a 39, aK ta 2 se), (a 40, aK ta 2 lv), (a 47, aK ta 2 cn), (a 48, aT ta 2 ha), (a 46, aS ta 16 gbc)] := hD
            refine lv_iinc (pc := 78) (v := nI (k1x + 1)) (lv' := [(2, .int (nI (k1x + 1))), (0, .ref h0), (1, .int (nI l))]) hx hb dX10_prove_78 hl (k := 0) rfl (by first | exact nI_add k1x 1 | rfl) (by decide) rfl (fun ls hl => ?_)
            refine lv_goto (pc := 81) (tgt := 58) hx hb dX10_prove_81 (by decide) ?_
            exact ih58 (k1x + 1) (qU p' (4 + k1x) (gth k1x)) (by omega) (qSeg_s hs1 (by omega) (by first | rfl | (simp; done))) (by omega) _ _ (hP.sub [0, 1, 2, 3, 4, 5, 6, 7, 8, 9, 10, 11, 12, 13, 14, 15, 16, 17, 18, 19, 20] rfl) (hD.sub [0, 1, 2, 3, 4, 5, 6, 7, 8, 9, 10, 11, 12, 13, 14, 15, 16, 17, 18, 19, 20] (by decide) rfl) hS ls (lv_sub hl [0, 1, 2] rfl)
      exact LP58 _ 0 ((qU (qU (qU (qU gli 0 (qlo (-124))) 1 (qlo (-126))) 2 (qlo (nI l))) 3 (BitVec.ofNat 8 0))) (by omega) (qSeg_0) (Nat.lt_succ_self _) _ _ (hP.sub [0, 1, 2, 3, 4, 5, 6, 7, 8, 9, 10, 11, 12, 13, 14, 15, 16, 17, 18, 19, 20] rfl) (hD.sub [0, 1, 2, 3, 4, 5, 6, 7, 8, 9, 10, 11, 12, 13, 14, 15, 16, 17, 18, 19, 20] (by decide) rfl) hS ls (lv_sub hl [0, 1, 2] rfl)
    · skip
      rw [q_beq] at c_2
      try rw [Bool.not_eq_false] at c_2
      rw [hz_17, show decide (ru 0 = 3) = true by rw [hru]; rfl, hlev] at c_2; cases c_2
theorem hdX10_first : yX10_first.cls ≠ "java/lang/invoke/MethodHandle" ∧ yX10_first.cls ≠ "java/lang/invoke/VarHandle" ∧ (parseMethodDescriptor yX10_first.desc).map (fun d => d.parameters.length) = some 2 := ⟨by decide +kernel, by decide +kernel, by decide +kernel⟩
theorem dX10_first_0 : decode cX10_first 0 = .ok (.iconst 0, 1) := by decide +kernel
theorem dX10_first_1 : decode cX10_first 1 = .ok (.istore_n 3, 1) := by decide +kernel
theorem dX10_first_2 : decode cX10_first 2 = .ok (.iload_n 3, 1) := by decide +kernel
theorem dX10_first_3 : decode cX10_first 3 = .ok (.bipush 16, 2) := by decide +kernel
theorem dX10_first_5 : decode cX10_first 5 = .ok (.if_icmp .ge 16, 3) := by decide +kernel
theorem dX10_first_8 : decode cX10_first 8 = .ok (.aload_n 0, 1) := by decide +kernel
theorem dX10_first_9 : decode cX10_first 9 = .ok (.getfield 283, 3) := by decide +kernel
theorem dX10_first_12 : decode cX10_first 12 = .ok (.iload_n 3, 1) := by decide +kernel
theorem dX10_first_13 : decode cX10_first 13 = .ok (.iconst 0, 1) := by decide +kernel
theorem dX10_first_14 : decode cX10_first 14 = .ok (.bastore, 1) := by decide +kernel
theorem dX10_first_15 : decode cX10_first 15 = .ok (.iinc 3 1, 3) := by decide +kernel
theorem dX10_first_18 : decode cX10_first 18 = .ok (.goto (-16), 3) := by decide +kernel
theorem dX10_first_21 : decode cX10_first 21 = .ok (.aload_n 0, 1) := by decide +kernel
theorem dX10_first_22 : decode cX10_first 22 = .ok (.getfield 231, 3) := by decide +kernel
theorem dX10_first_25 : decode cX10_first 25 = .ok (.iload_n 1, 1) := by decide +kernel
theorem dX10_first_26 : decode cX10_first 26 = .ok (.iaload, 1) := by decide +kernel
theorem dX10_first_27 : decode cX10_first 27 = .ok (.iconst 2, 1) := by decide +kernel
theorem dX10_first_28 : decode cX10_first 28 = .ok (.if_icmp .ne 4, 3) := by decide +kernel
theorem dX10_first_31 : decode cX10_first 31 = .ok (.return_, 1) := by decide +kernel
theorem dX10_first_32 : decode cX10_first 32 = .ok (.aload_n 0, 1) := by decide +kernel
theorem dX10_first_33 : decode cX10_first 33 = .ok (.getfield 264, 3) := by decide +kernel
theorem dX10_first_36 : decode cX10_first 36 = .ok (.iload_n 1, 1) := by decide +kernel
theorem dX10_first_37 : decode cX10_first 37 = .ok (.iaload, 1) := by decide +kernel
theorem dX10_first_38 : decode cX10_first 38 = .ok (.istore_n 3, 1) := by decide +kernel
theorem dX10_first_39 : decode cX10_first 39 = .ok (.bipush 15, 2) := by decide +kernel
theorem dX10_first_41 : decode cX10_first 41 = .ok (.istore 4, 2) := by decide +kernel
theorem dX10_first_43 : decode cX10_first 43 = .ok (.iload 4, 2) := by decide +kernel
theorem dX10_first_45 : decode cX10_first 45 = .ok (.ifCond .lt 23, 3) := by decide +kernel
theorem dX10_first_48 : decode cX10_first 48 = .ok (.aload_n 0, 1) := by decide +kernel
theorem dX10_first_49 : decode cX10_first 49 = .ok (.getfield 283, 3) := by decide +kernel
theorem dX10_first_52 : decode cX10_first 52 = .ok (.iload 4, 2) := by decide +kernel
theorem dX10_first_54 : decode cX10_first 54 = .ok (.iload_n 3, 1) := by decide +kernel
theorem dX10_first_55 : decode cX10_first 55 = .ok (.i2b, 1) := by decide +kernel
theorem dX10_first_56 : decode cX10_first 56 = .ok (.bastore, 1) := by decide +kernel
theorem dX10_first_57 : decode cX10_first 57 = .ok (.iload_n 3, 1) := by decide +kernel
theorem dX10_first_58 : decode cX10_first 58 = .ok (.bipush 8, 2) := by decide +kernel
theorem dX10_first_60 : decode cX10_first 60 = .ok (.ishr, 1) := by decide +kernel
theorem dX10_first_61 : decode cX10_first 61 = .ok (.istore_n 3, 1) := by decide +kernel
theorem dX10_first_62 : decode cX10_first 62 = .ok (.iinc 4 (-1), 3) := by decide +kernel
theorem dX10_first_65 : decode cX10_first 65 = .ok (.goto (-22), 3) := by decide +kernel
theorem dX10_first_68 : decode cX10_first 68 = .ok (.iload_n 2, 1) := by decide +kernel
theorem dX10_first_69 : decode cX10_first 69 = .ok (.ifCond .eq 11, 3) := by decide +kernel
theorem dX10_first_72 : decode cX10_first 72 = .ok (.aload_n 0, 1) := by decide +kernel
theorem dX10_first_73 : decode cX10_first 73 = .ok (.getfield 283, 3) := by decide +kernel
theorem dX10_first_76 : decode cX10_first 76 = .ok (.iconst 0, 1) := by decide +kernel
theorem dX10_first_77 : decode cX10_first 77 = .ok (.bipush (-128), 2) := by decide +kernel
theorem dX10_first_79 : decode cX10_first 79 = .ok (.bastore, 1) := by decide +kernel
theorem dX10_first_80 : decode cX10_first 80 = .ok (.aload_n 0, 1) := by decide +kernel
theorem dX10_first_81 : decode cX10_first 81 = .ok (.aload_n 0, 1) := by decide +kernel
theorem dX10_first_82 : decode cX10_first 82 = .ok (.getfield 246, 3) := by decide +kernel
theorem dX10_first_85 : decode cX10_first 85 = .ok (.sipush 128, 3) := by decide +kernel
theorem dX10_first_88 : decode cX10_first 88 = .ok (.iload_n 1, 1) := by decide +kernel
theorem dX10_first_89 : decode cX10_first 89 = .ok (.imul, 1) := by decide +kernel
theorem dX10_first_90 : decode cX10_first 90 = .ok (.iconst 0, 1) := by decide +kernel
theorem dX10_first_91 : decode cX10_first 91 = .ok (.iadd, 1) := by decide +kernel
theorem dX10_first_92 : decode cX10_first 92 = .ok (.aload_n 0, 1) := by decide +kernel
theorem dX10_first_93 : decode cX10_first 93 = .ok (.getfield 234, 3) := by decide +kernel
theorem dX10_first_96 : decode cX10_first 96 = .ok (.iload_n 1, 1) := by decide +kernel
theorem dX10_first_97 : decode cX10_first 97 = .ok (.iaload, 1) := by decide +kernel
theorem dX10_first_98 : decode cX10_first 98 = .ok (.invokevirtual 100, 3) := by decide +kernel
theorem dX10_first_101 : decode cX10_first 101 = .ok (.aload_n 0, 1) := by decide +kernel
theorem dX10_first_102 : decode cX10_first 102 = .ok (.aload_n 0, 1) := by decide +kernel
theorem dX10_first_103 : decode cX10_first 103 = .ok (.getfield 283, 3) := by decide +kernel
theorem dX10_first_106 : decode cX10_first 106 = .ok (.iconst 0, 1) := by decide +kernel
theorem dX10_first_107 : decode cX10_first 107 = .ok (.iconst 0, 1) := by decide +kernel
theorem dX10_first_108 : decode cX10_first 108 = .ok (.invokevirtual 106, 3) := by decide +kernel
theorem dX10_first_111 : decode cX10_first 111 = .ok (.return_, 1) := by decide +kernel
set_option maxHeartbeats 4000000 in
set_option maxRecDepth 100000 in
theorem ct_X10_first_2 (ll : Launch) (D : va_G) (ta : Nat → ClassId) {G : (Nat → Prop) → State → Heap → Prop} (hGok : GOK G) (h0 : Nat) (a : Nat → Nat) (ar : Nat) (mn : Nat) (tp : Nat) (osz : Nat) (lsz : Nat) (ns : Nat) (ct : Nat) (gbl : Nat → BitVec 8) (ru : Nat → Nat) (sd : Nat) (hsd : sd ≤ 1) (hru : ru sd = 2) (sz : Nat) : CT ll yX10_first cX10_first 5 none ({ frames := 4, cells := 0, slots := 0, locals := 98 } : Room) D ta G [.ref h0, .int (nI sd), .int (nI 0)] [(h0, oM a ar mn tp osz lsz ns ct), (a 53, aS ta 16 gbl), (a 36, aK ta 2 ru)] sz (S := (Nat → BitVec 8)) (fun _ => none) (fun u => (qL u 16 = zeroL 16)) (fun u => [(h0, oM a ar mn tp osz lsz ns ct), (a 53, aS ta 16 u), (a 36, aK ta 2 ru)]) 0 0 := by
  refine CT.of_v rfl (by decide) (Nat.le_of_ble_eq_true rfl) ?_
  intro pp ee ss mm below meth kc A Q hx hb hml hown hin hts hK hA hsz hG hret H locs hP hD hS ls hl
  have hl : lv_has ls 5 [(0, .ref h0), (1, .int (nI sd)), (2, .int (nI 0))] := hl
  refine lv_iconst (pc := 0) (v := nI 0) hx hb dX10_first_0 (by decide +kernel) ?_
  refine lv_istore_n (pc := 1) (lv' := [(3, .int (nI 0)), (0, .ref h0), (1, .int (nI sd)), (2, .int (nI 0))]) hx hb dX10_first_1 rfl hl (by decide) rfl (fun ls hl => ?_)
  have LP2 : ∀ (nn2 : Nat) (k : Nat) (g' : Nat → BitVec 8), (k ≤ 16) → (qSeg g' gbl 0 k ((fun _ => 0#8))) → (16 - k < nn2) → ∀ (H : Heap) (locs : List Loc), va_P D vwCl [(h0, oM a ar mn tp osz lsz ns ct), (a 53, aS ta 16 g'), (a 36, aK ta 2 ru)] H → va_D A [(h0, oM a ar mn tp osz lsz ns ct), (a 53, aS ta 16 g'), (a 36, aK ta 2 ru)] → va_S A ss.heap H locs → ∀ ls : Array Slot, lv_has ls 5 [(3, .int (nI k)), (0, .ref h0), (1, .int (nI sd)), (2, .int (nI 0))] → W pp ll ee ({ frames := 4, cells := 0, slots := 0, locals := 98 } : Room) ss mm (([.ref h0, .int (nI sd), .int (nI 0)] : List Value).toArray) below meth kc H locs 0 0 Q (F0 mm 2 ls []) := by
    intro nn2
    induction nn2 with
    | zero => intro k g' hkk hs hmu; exact absurd hmu (Nat.not_lt_zero _)
    | succ nn2 ih2 =>
      intro k g' hkk hs hmu2 H locs hP hD hS ls hl
      refine lv_iload_n (pc := 2) hx hb dX10_first_2 rfl (lv_at hl 0 rfl) ?_
      refine lv_bipush (pc := 3) (v := nI 16) hx hb dX10_first_3 (by decide +kernel) ?_
      refine lv_icmp_ge (pc := 5) (tgt := 21) hx hb dX10_first_5 (by decide) (fun c_1 => ?_) (fun c_1 => ?_)
      · skip
        rw [nI_leI (by omega) (by omega)] at c_1
        refine lv_aload_n (pc := 21) hx hb dX10_first_21 rfl (lv_at hl 1 rfl) ?_
        refine va_get (pc := 22) (D := D) (ci := 8) (v := .ref (a 36)) (C := RX10) (T := TX10) (N := 57) hx hb hts iu10 hown hK hP 0 rfl rfl 36 (by decide) (hts _ tw_1081) (fun _ h9 => h9) rfl dX10_first_22 ?_
        refine lv_iload_n (pc := 25) hx hb dX10_first_25 rfl (lv_at hl 2 rfl) ?_
        refine q_iald (pc := 26) hx hb hK hP 2 0 rfl rfl (k := sd) (v := nI (ru sd)) rfl (by omega) (by omega) rfl dX10_first_26 ?_
        refine lv_iconst (pc := 27) (v := nI 2) hx hb dX10_first_27 (by decide +kernel) ?_
        refine lv_icmp_ne (pc := 28) (tgt := 32) hx hb dX10_first_28 (by decide) (fun c_2 => ?_) (fun c_2 => ?_)
        · skip
          rw [nI_eq (by omega) (by omega)] at c_2
          exfalso; omega
        · skip
          rw [nI_eq (by omega) (by omega)] at c_2
          have hq_3 : (qL g' 16 = zeroL 16) := by
            rw [← seg_0, zero_seg hs (by omega)]
          exact hret (g') _ _ _ _ dX10_first_31 hq_3 (hP.sub [0, 1, 2] rfl) (hD.sub [0, 1, 2] (by decide) rfl) hS
      · skip
        rw [nI_leI (by omega) (by omega)] at c_1
        refine lv_aload_n (pc := 8) hx hb dX10_first_8 rfl (lv_at hl 1 rfl) ?_
        refine va_get (pc := 9) (D := D) (ci := 8) (v := .ref (a 53)) (C := RX10) (T := TX10) (N := 57) hx hb hts iu10 hown hK hP 0 rfl rfl 53 (by decide) (hts _ tw_1098) (fun _ h9 => h9) rfl dX10_first_9 ?_
        refine lv_iload_n (pc := 12) hx hb dX10_first_12 rfl (lv_at hl 0 rfl) ?_
        refine lv_iconst (pc := 13) (v := nI 0) hx hb dX10_first_13 (by decide +kernel) ?_
        refine q_bastS (pc := 14) hx hb hK hP hD hS 1 2 rfl rfl (k := k) rfl (by omega) (by omega) (b := BitVec.ofNat 8 0) (qlo_nI _) dX10_first_14 (fun H locs hP hD hS => ?_)
        have hP : va_P D vwCl [(h0, oM a ar mn tp osz lsz ns ct), (a 53, aS ta 16 (qU g' k (BitVec.ofNat 8 0))), (a 36, aK ta 2 ru)] H := hP
        have hD : va_D A [(h0, oM a ar mn tp osz lsz ns ct), (a 53, aS ta 16 (qU g' k (BitVec.ofNat 8 0))), (a 36, aK ta 2 ru)] := hD
        refine lv_iinc (pc := 15) (v := nI (k + 1)) (lv' := [(3, .int (nI (k + 1))), (0, .ref h0), (1, .int (nI sd)), (2, .int (nI 0))]) hx hb dX10_first_15 hl (k := 0) rfl (by first | exact nI_add k 1 | rfl) (by decide) rfl (fun ls hl => ?_)
        refine lv_goto (pc := 18) (tgt := 2) hx hb dX10_first_18 (by decide) ?_
        exact ih2 (k + 1) (qU g' k (BitVec.ofNat 8 0)) (by omega) (qSeg_s hs (by omega) (by first | rfl | (simp; done))) (by omega) _ _ (hP.sub [0, 1, 2] rfl) (hD.sub [0, 1, 2] (by decide) rfl) hS ls (lv_sub hl [0, 1, 2, 3] rfl)
  exact LP2 _ 0 gbl (by omega) (qSeg_0) (Nat.lt_succ_self _) _ _ (hP.sub [0, 1, 2] rfl) (hD.sub [0, 1, 2] (by decide) rfl) hS ls (lv_sub hl [0, 1, 2, 3] rfl)
set_option maxHeartbeats 4000000 in
set_option maxRecDepth 100000 in
theorem ct_X10_first_30 (ll : Launch) (D : va_G) (ta : Nat → ClassId) {G : (Nat → Prop) → State → Heap → Prop} (hGok : GOK G) (h0 : Nat) (a : Nat → Nat) (ar : Nat) (mn : Nat) (tp : Nat) (osz : Nat) (lsz : Nat) (ns : Nat) (ct : Nat) (rk : Nat → BitVec 8) (ce : Nat → BitVec 8) (gbl : Nat → BitVec 8) (gke : Nat → BitVec 8) (ru : Nat → Nat) (le : Nat → Nat) (cn : Nat → Nat) (sd : Nat) (hsd : sd ≤ 1) (hru : ru sd = 3) (hle : le sd = 16 ∨ le sd = 24 ∨ le sd = 32) (hcn : cn sd < 2147483648) (sz : Nat) : CT ll yX10_first cX10_first 5 none ({ frames := 4, cells := 0, slots := 0, locals := 98 } : Room) D ta G [.ref h0, .int (nI sd), .int (nI 0)] [(h0, oM a ar mn tp osz lsz ns ct), (a 8, aZ ta 256 BOX), (a 9, aZ ta 256 UBOX), (a 16, aS ta 240 rk), (a 18, aS ta 16 ce), (a 53, aS ta 16 gbl), (a 41, aS ta 256 gke), (a 36, aK ta 2 ru), (a 37, aK ta 2 le), (a 47, aK ta 2 cn)] sz (S := (Nat → BitVec 8) × (Nat → BitVec 8) × (Nat → BitVec 8)) (fun _ => none) (fun u => (qL u.2.2 16 = firstL (seg gke (128 * sd) (le sd)) (cn sd) 0#8) ∧ (rkOK u.1 (seg gke (128 * sd) (le sd)))) (fun u => [(h0, oM a (le sd / 4 + 6) mn tp osz lsz ns ct), (a 8, aZ ta 256 BOX), (a 9, aZ ta 256 UBOX), (a 16, aS ta 240 u.1), (a 18, aS ta 16 u.2.1), (a 53, aS ta 16 u.2.2), (a 41, aS ta 256 gke), (a 36, aK ta 2 ru), (a 37, aK ta 2 le), (a 47, aK ta 2 cn)]) 0 0 := by
  refine CT.of_v rfl (by decide) (Nat.le_of_ble_eq_true rfl) ?_
  intro pp ee ss mm below meth kc A Q hx hb hml hown hin hts hK hA hsz hG hret H locs hP hD hS ls hl
  have hl : lv_has ls 5 [(0, .ref h0), (1, .int (nI sd)), (2, .int (nI 0))] := hl
  refine lv_iconst (pc := 0) (v := nI 0) hx hb dX10_first_0 (by decide +kernel) ?_
  refine lv_istore_n (pc := 1) (lv' := [(3, .int (nI 0)), (0, .ref h0), (1, .int (nI sd)), (2, .int (nI 0))]) hx hb dX10_first_1 rfl hl (by decide) rfl (fun ls hl => ?_)
  have LP2 : ∀ (nn2 : Nat) (k : Nat) (g' : Nat → BitVec 8), (k ≤ 16) → (qSeg g' gbl 0 k ((fun _ => 0#8))) → (16 - k < nn2) → ∀ (H : Heap) (locs : List Loc), va_P D vwCl [(h0, oM a ar mn tp osz lsz ns ct), (a 8, aZ ta 256 BOX), (a 9, aZ ta 256 UBOX), (a 16, aS ta 240 rk), (a 18, aS ta 16 ce), (a 53, aS ta 16 g'), (a 41, aS ta 256 gke), (a 36, aK ta 2 ru), (a 37, aK ta 2 le), (a 47, aK ta 2 cn)] H → va_D A [(h0, oM a ar mn tp osz lsz ns ct), (a 8, aZ ta 256 BOX), (a 9, aZ ta 256 UBOX), (a 16, aS ta 240 rk), (a 18, aS ta 16 ce), (a 53, aS ta 16 g'), (a 41, aS ta 256 gke), (a 36, aK ta 2 ru), (a 37, aK ta 2 le), (a 47, aK ta 2 cn)] → va_S A ss.heap H locs → ∀ ls : Array Slot, lv_has ls 5 [(3, .int (nI k)), (0, .ref h0), (1, .int (nI sd)), (2, .int (nI 0))] → W pp ll ee ({ frames := 4, cells := 0, slots := 0, locals := 98 } : Room) ss mm (([.ref h0, .int (nI sd), .int (nI 0)] : List Value).toArray) below meth kc H locs 0 0 Q (F0 mm 2 ls []) := by
    intro nn2
    induction nn2 with
    | zero => intro k g' hkk hs hmu; exact absurd hmu (Nat.not_lt_zero _)
    | succ nn2 ih2 =>
      intro k g' hkk hs hmu2 H locs hP hD hS ls hl
      refine lv_iload_n (pc := 2) hx hb dX10_first_2 rfl (lv_at hl 0 rfl) ?_
      refine lv_bipush (pc := 3) (v := nI 16) hx hb dX10_first_3 (by decide +kernel) ?_
      refine lv_icmp_ge (pc := 5) (tgt := 21) hx hb dX10_first_5 (by decide) (fun c_1 => ?_) (fun c_1 => ?_)
      · skip
        rw [nI_leI (by omega) (by omega)] at c_1
        refine lv_aload_n (pc := 21) hx hb dX10_first_21 rfl (lv_at hl 1 rfl) ?_
        refine va_get (pc := 22) (D := D) (ci := 8) (v := .ref (a 36)) (C := RX10) (T := TX10) (N := 57) hx hb hts iu10 hown hK hP 0 rfl rfl 36 (by decide) (hts _ tw_1081) (fun _ h9 => h9) rfl dX10_first_22 ?_
        refine lv_iload_n (pc := 25) hx hb dX10_first_25 rfl (lv_at hl 2 rfl) ?_
        refine q_iald (pc := 26) hx hb hK hP 7 0 rfl rfl (k := sd) (v := nI (ru sd)) rfl (by omega) (by omega) rfl dX10_first_26 ?_
        refine lv_iconst (pc := 27) (v := nI 2) hx hb dX10_first_27 (by decide +kernel) ?_
        refine lv_icmp_ne (pc := 28) (tgt := 32) hx hb dX10_first_28 (by decide) (fun c_2 => ?_) (fun c_2 => ?_)
        · skip
          rw [nI_eq (by omega) (by omega)] at c_2
          refine lv_aload_n (pc := 32) hx hb dX10_first_32 rfl (lv_at hl 1 rfl) ?_
          refine va_get (pc := 33) (D := D) (ci := 8) (v := .ref (a 47)) (C := RX10) (T := TX10) (N := 57) hx hb hts iu10 hown hK hP 0 rfl rfl 47 (by decide) (hts _ tw_1092) (fun _ h9 => h9) rfl dX10_first_33 ?_
          refine lv_iload_n (pc := 36) hx hb dX10_first_36 rfl (lv_at hl 2 rfl) ?_
          refine q_iald (pc := 37) hx hb hK hP 9 0 rfl rfl (k := sd) (v := nI (cn sd)) rfl (by omega) (by omega) rfl dX10_first_37 ?_
          refine lv_istore_n (pc := 38) (lv' := [(3, .int (nI (cn sd))), (0, .ref h0), (1, .int (nI sd)), (2, .int (nI 0))]) hx hb dX10_first_38 rfl hl (by decide) rfl (fun ls hl => ?_)
          refine lv_bipush (pc := 39) (v := nI 15) hx hb dX10_first_39 (by decide +kernel) ?_
          refine q_top (y := qI 16) rfl ?_
          refine lv_istore (pc := 41) (lv' := [(4, .int (qI 16)), (3, .int (nI (cn sd))), (0, .ref h0), (1, .int (nI sd)), (2, .int (nI 0))]) hx hb dX10_first_41 hl (by decide) rfl (fun ls hl => ?_)
          have LP43 : ∀ (nn43 : Nat) (c : Nat) (v9 : Nat) (b' : Nat → BitVec 8), (c ≤ 16) → (v9 = cn sd / 2 ^ (8 * (16 - c))) → (v9 < 2147483648) → (∀ j, c ≤ j → j < 16 → b' j = BitVec.ofNat 8 (cn sd / 2 ^ (8 * (15 - j)))) → (c < nn43) → ∀ (H : Heap) (locs : List Loc), va_P D vwCl [(h0, oM a ar mn tp osz lsz ns ct), (a 8, aZ ta 256 BOX), (a 9, aZ ta 256 UBOX), (a 16, aS ta 240 rk), (a 18, aS ta 16 ce), (a 53, aS ta 16 b'), (a 41, aS ta 256 gke), (a 36, aK ta 2 ru), (a 37, aK ta 2 le), (a 47, aK ta 2 cn)] H → va_D A [(h0, oM a ar mn tp osz lsz ns ct), (a 8, aZ ta 256 BOX), (a 9, aZ ta 256 UBOX), (a 16, aS ta 240 rk), (a 18, aS ta 16 ce), (a 53, aS ta 16 b'), (a 41, aS ta 256 gke), (a 36, aK ta 2 ru), (a 37, aK ta 2 le), (a 47, aK ta 2 cn)] → va_S A ss.heap H locs → ∀ ls : Array Slot, lv_has ls 5 [(4, .int (qI c)), (3, .int (nI v9)), (0, .ref h0), (1, .int (nI sd)), (2, .int (nI 0))] → W pp ll ee ({ frames := 4, cells := 0, slots := 0, locals := 98 } : Room) ss mm (([.ref h0, .int (nI sd), .int (nI 0)] : List Value).toArray) below meth kc H locs 0 0 Q (F0 mm 43 ls []) := by
            intro nn43
            induction nn43 with
            | zero => intro c v9 b' hcc hv hv2 hb9 hmu; exact absurd hmu (Nat.not_lt_zero _)
            | succ nn43 ih43 =>
              intro c v9 b' hcc hv hv2 hb9 hmu43 H locs hP hD hS ls hl
              refine lv_iload (pc := 43) hx hb dX10_first_43 (lv_at hl 0 rfl) ?_
              refine lv_if_lt (pc := 45) (tgt := 68) hx hb dX10_first_45 (by decide) (fun c_3 => ?_) (fun c_3 => ?_)
              · skip
                rw [qI_neg (by omega)] at c_3
                subst c_3
                refine lv_iload_n (pc := 68) hx hb dX10_first_68 rfl (lv_at hl 4 rfl) ?_
                refine lv_if_eq (pc := 69) (tgt := 80) hx hb dX10_first_69 (by decide) (fun _ => ?_) (fun c_4 => absurd (by decide) c_4)
                refine lv_aload_n (pc := 80) hx hb dX10_first_80 rfl (lv_at hl 2 rfl) ?_
                refine lv_aload_n (pc := 81) hx hb dX10_first_81 rfl (lv_at hl 2 rfl) ?_
                refine va_get (pc := 82) (D := D) (ci := 8) (v := .ref (a 41)) (C := RX10) (T := TX10) (N := 57) hx hb hts iu10 hown hK hP 0 rfl rfl 41 (by decide) (hts _ tw_1086) (fun _ h9 => h9) rfl dX10_first_82 ?_
                refine lv_sipush (pc := 85) (v := nI 128) hx hb dX10_first_85 (by decide +kernel) ?_
                refine lv_iload_n (pc := 88) hx hb dX10_first_88 rfl (lv_at hl 3 rfl) ?_
                refine lv_imul (pc := 89) hx hb dX10_first_89 ?_
                refine q_top (y := nI (128 * sd)) (pk_mul 128 sd) ?_
                refine lv_iconst (pc := 90) (v := nI 0) hx hb dX10_first_90 (by decide +kernel) ?_
                refine lv_iadd (pc := 91) hx hb dX10_first_91 ?_
                refine q_top (y := nI (128 * sd)) ((nI_add (128 * sd) 0).trans (congrArg nI (by omega))) ?_
                refine lv_aload_n (pc := 92) hx hb dX10_first_92 rfl (lv_at hl 2 rfl) ?_
                refine va_get (pc := 93) (D := D) (ci := 8) (v := .ref (a 37)) (C := RX10) (T := TX10) (N := 57) hx hb hts iu10 hown hK hP 0 rfl rfl 37 (by decide) (hts _ tw_1082) (fun _ h9 => h9) rfl dX10_first_93 ?_
                refine lv_iload_n (pc := 96) hx hb dX10_first_96 rfl (lv_at hl 3 rfl) ?_
                refine q_iald (pc := 97) hx hb hK hP 8 0 rfl rfl (k := sd) (v := nI (le sd)) rfl (by omega) (by omega) rfl dX10_first_97 ?_
                refine cs_V (pc := 98) (idx := 100) (n := 3) (wr := [(a 9, aZ ta 256 UBOX), (a 18, aS ta 16 ce), (a 53, aS ta 16 b'), (a 36, aK ta 2 ru), (a 37, aK ta 2 le), (a 47, aK ta 2 cn)]) (As := [.ref (a 41), .int (nI (128 * sd)), .int (nI (le sd))]) (rest := []) (ci := 8) hx hb hml hown hts hGok hK hA hG hl.1 hP hD hS (ct_X10_aesKeyL ll D ta hGok h0 a ar mn tp osz lsz ns ct (a 41) (128 * sd) 256 gke rk (le sd) (by first | assumption | omega | rfl | decide) (by first | assumption | omega | rfl | decide) (by first | assumption | omega | rfl | decide) H.size) tw_1338 tw_1335 tw_1337 tw_44 tw_75 hdX10_aesKey rfl ⟨rfl, rfl, Nat.le_of_ble_eq_true rfl, Nat.le_of_ble_eq_true rfl, Nat.le_of_ble_eq_true rfl, Nat.le_of_ble_eq_true rfl⟩ rfl rfl (q0 := 0) rfl [0, 1, 3, 6] [2, 4, 5, 7, 8, 9] rfl rfl (by decide) rfl (Nat.le_of_ble_eq_true rfl) dX10_first_98 (fun u H locs hq hP hD hS => ?_)
                generalize u = rk1_98 at hq hP hD ⊢
                have hq : (rkOK rk1_98 (seg gke (128 * sd) (le sd))) := hq
                have hs_98 := hq
                refine W.eq (g2 := F0 mm 101 ls []) rfl ?_
                have hP : va_P D vwCl [(a 9, aZ ta 256 UBOX), (a 18, aS ta 16 ce), (a 53, aS ta 16 b'), (a 36, aK ta 2 ru), (a 37, aK ta 2 le), (a 47, aK ta 2 cn), (h0, oM a ((le sd) / 4 + 6) mn tp osz lsz ns ct), (a 8, aZ ta 256 BOX), (a 16, aS ta 240 rk1_98), (a 41, aS ta 256 gke)] H := hP
                have hD : va_D A [(a 9, aZ ta 256 UBOX), (a 18, aS ta 16 ce), (a 53, aS ta 16 b'), (a 36, aK ta 2 ru), (a 37, aK ta 2 le), (a 47, aK ta 2 cn), (h0, oM a ((le sd) / 4 + 6) mn tp osz lsz ns ct), (a 8, aZ ta 256 BOX), (a 16, aS ta 240 rk1_98), (a 41, aS ta 256 gke)] := hD
                refine lv_aload_n (pc := 101) hx hb dX10_first_101 rfl (lv_at hl 2 rfl) ?_
                refine lv_aload_n (pc := 102) hx hb dX10_first_102 rfl (lv_at hl 2 rfl) ?_
                refine va_get (pc := 103) (D := D) (ci := 8) (v := .ref (a 53)) (C := RX10) (T := TX10) (N := 57) hx hb hts iu10 hown hK hP 6 rfl rfl 53 (by decide) (hts _ tw_1098) (fun _ h9 => h9) rfl dX10_first_103 ?_
                refine lv_iconst (pc := 106) (v := nI 0) hx hb dX10_first_106 (by decide +kernel) ?_
                refine lv_iconst (pc := 107) (v := nI 0) hx hb dX10_first_107 (by decide +kernel) ?_
                refine cs_V (pc := 108) (idx := 106) (n := 3) (wr := [(a 36, aK ta 2 ru), (a 37, aK ta 2 le), (a 47, aK ta 2 cn), (a 41, aS ta 256 gke)]) (As := [.ref (a 53), .int (nI 0), .int (nI 0)]) (rest := []) (ci := 8) hx hb hml hown hts hGok hK hA hG hl.1 hP hD hS (ct_X10_aes_fL ll D ta hGok h0 a mn tp osz lsz ns ct (a 53) 0 16 b' ce rk1_98 (le sd) ((seg gke (128 * sd) (le sd))) (by first | assumption | omega | rfl | decide) (by first | assumption | omega | rfl | decide) (hle) (seg_len) (hs_98) H.size) tw_1342 tw_1339 tw_1341 tw_45 tw_75 hdX10_aes rfl ⟨rfl, rfl, Nat.le_of_ble_eq_true rfl, Nat.le_of_ble_eq_true rfl, Nat.le_of_ble_eq_true rfl, Nat.le_of_ble_eq_true rfl⟩ rfl rfl (q0 := 6) rfl [6, 7, 0, 8, 1, 2] [3, 4, 5, 9] rfl rfl (by decide) rfl (Nat.le_of_ble_eq_true rfl) dX10_first_108 (fun u H locs hq hP hD hS => ?_)
                obtain ⟨gb1_108, ce1_108⟩ := u
                have hq : (seg gb1_108 0 16 = aesE ((seg gke (128 * sd) (le sd))) (seg b' 0 16)) ∧ (∀ jz, (jz < 0 ∨ 0 + 16 ≤ jz) → gb1_108 jz = b' jz) := hq
                obtain ⟨hs_108, hfr_108⟩ := hq
                refine W.eq (g2 := F0 mm 111 ls []) rfl ?_
                have hP : va_P D vwCl [(a 36, aK ta 2 ru), (a 37, aK ta 2 le), (a 47, aK ta 2 cn), (a 41, aS ta 256 gke), (h0, oM a ((le sd) / 4 + 6) mn tp osz lsz ns ct), (a 8, aZ ta 256 BOX), (a 9, aZ ta 256 UBOX), (a 16, aS ta 240 rk1_98), (a 18, aS ta 16 ce1_108), (a 53, aS ta 16 gb1_108)] H := hP
                have hD : va_D A [(a 36, aK ta 2 ru), (a 37, aK ta 2 le), (a 47, aK ta 2 cn), (a 41, aS ta 256 gke), (h0, oM a ((le sd) / 4 + 6) mn tp osz lsz ns ct), (a 8, aZ ta 256 BOX), (a 9, aZ ta 256 UBOX), (a 16, aS ta 240 rk1_98), (a 18, aS ta 16 ce1_108), (a 53, aS ta 16 gb1_108)] := hD
                have hq_5 : (qL gb1_108 16 = firstL (seg gke (128 * sd) (le sd)) (cn sd) 0#8) ∧ (rkOK rk1_98 (seg gke (128 * sd) (le sd))) := by
                  refine ⟨?_, hs_98⟩
                  have h9 := cnt_bytes (b0 := gbl) hcn (fun j hj => hb9 j (by omega) hj)
                  rw [← seg_0, hs_108, firstL, seg_0]
                  first | rw [h9.1] | rw [h9.2] | (rw [qlo_80, show (0x80#8) = BitVec.ofNat 8 128 from rfl, h9.2])
                exact hret (⟨(rk1_98), (ce1_108), (gb1_108)⟩ : (Nat → BitVec 8) × (Nat → BitVec 8) × (Nat → BitVec 8)) _ _ _ _ dX10_first_111 hq_5 (hP.sub [4, 5, 6, 7, 8, 9, 3, 0, 1, 2] rfl) (hD.sub [4, 5, 6, 7, 8, 9, 3, 0, 1, 2] (by decide) rfl) hS
              · skip
                rw [qI_neg (by omega)] at c_3
                obtain ⟨k9, rfl⟩ : ∃ k, c = k + 1 := ⟨c - 1, by omega⟩
                rw [qI_s] at hl
                refine lv_aload_n (pc := 48) hx hb dX10_first_48 rfl (lv_at hl 2 rfl) ?_
                refine va_get (pc := 49) (D := D) (ci := 8) (v := .ref (a 53)) (C := RX10) (T := TX10) (N := 57) hx hb hts iu10 hown hK hP 0 rfl rfl 53 (by decide) (hts _ tw_1098) (fun _ h9 => h9) rfl dX10_first_49 ?_
                refine lv_iload (pc := 52) hx hb dX10_first_52 (lv_at hl 0 rfl) ?_
                refine lv_iload_n (pc := 54) hx hb dX10_first_54 rfl (lv_at hl 1 rfl) ?_
                refine lv_i2b (pc := 55) (v := qs (qlo (nI v9))) hx hb dX10_first_55 (q_i2b _) ?_
                refine q_bastS (pc := 56) hx hb hK hP hD hS 5 2 rfl rfl (k := k9) rfl (by omega) (by omega) (b := qlo (nI v9)) (qlo_qs _) dX10_first_56 (fun H locs hP hD hS => ?_)
                have hP : va_P D vwCl [(h0, oM a ar mn tp osz lsz ns ct), (a 8, aZ ta 256 BOX), (a 9, aZ ta 256 UBOX), (a 16, aS ta 240 rk), (a 18, aS ta 16 ce), (a 53, aS ta 16 (qU b' k9 (qlo (nI v9)))), (a 41, aS ta 256 gke), (a 36, aK ta 2 ru), (a 37, aK ta 2 le), (a 47, aK ta 2 cn)] H := hP
                have hD : va_D A [(h0, oM a ar mn tp osz lsz ns ct), (a 8, aZ ta 256 BOX), (a 9, aZ ta 256 UBOX), (a 16, aS ta 240 rk), (a 18, aS ta 16 ce), (a 53, aS ta 16 (qU b' k9 (qlo (nI v9)))), (a 41, aS ta 256 gke), (a 36, aK ta 2 ru), (a 37, aK ta 2 le), (a 47, aK ta 2 cn)] := hD
                refine lv_iload_n (pc := 57) hx hb dX10_first_57 rfl (lv_at hl 1 rfl) ?_
                refine lv_bipush (pc := 58) (v := nI 8) hx hb dX10_first_58 (by decide +kernel) ?_
                refine lv_ishr (pc := 60) hx hb dX10_first_60 ?_
                refine q_top (y := nI (v9 / 256)) (q_shr (p := 256) (by decide) (by omega)) ?_
                refine lv_istore_n (pc := 61) (lv' := [(3, .int (nI (v9 / 256))), (4, .int (nI k9)), (0, .ref h0), (1, .int (nI sd)), (2, .int (nI 0))]) hx hb dX10_first_61 rfl hl (by decide) rfl (fun ls hl => ?_)
                refine lv_iinc (pc := 62) (v := qI k9) (lv' := [(4, .int (qI k9)), (3, .int (nI (v9 / 256))), (0, .ref h0), (1, .int (nI sd)), (2, .int (nI 0))]) hx hb dX10_first_62 hl (k := 1) rfl rfl (by decide) rfl (fun ls hl => ?_)
                refine lv_goto (pc := 65) (tgt := 43) hx hb dX10_first_65 (by decide) ?_
                exact ih43 k9 (v9 / 256) (qU b' k9 (qlo (nI v9))) (by omega) (by rw [hv, Nat.div_div_eq_div_mul, show 16 - k9 = (16 - (k9 + 1)) + 1 by omega, Nat.mul_add, Nat.pow_add]) (by omega) (by
                      intro j h1 h2
                      by_cases q : j = k9
                      · subst q
                        rw [qU_same, qlo_nI, hv, show 16 - (j + 1) = 15 - j by omega]
                      · rw [qU_ne q]
                        exact hb9 j (by omega) h2) (by omega) _ _ (hP.sub [0, 1, 2, 3, 4, 5, 6, 7, 8, 9] rfl) (hD.sub [0, 1, 2, 3, 4, 5, 6, 7, 8, 9] (by decide) rfl) hS ls (lv_sub hl [0, 1, 2, 3, 4] rfl)
          exact LP43 _ 16 (cn sd) g' (by omega) (by simp) (by omega) (fun j h1 h2 => absurd h1 (by omega)) (Nat.lt_succ_self _) _ _ (hP.sub [0, 1, 2, 3, 4, 5, 6, 7, 8, 9] rfl) (hD.sub [0, 1, 2, 3, 4, 5, 6, 7, 8, 9] (by decide) rfl) hS ls (lv_sub hl [0, 1, 2, 3, 4] rfl)
        · skip
          rw [nI_eq (by omega) (by omega)] at c_2
          exfalso; omega
      · skip
        rw [nI_leI (by omega) (by omega)] at c_1
        refine lv_aload_n (pc := 8) hx hb dX10_first_8 rfl (lv_at hl 1 rfl) ?_
        refine va_get (pc := 9) (D := D) (ci := 8) (v := .ref (a 53)) (C := RX10) (T := TX10) (N := 57) hx hb hts iu10 hown hK hP 0 rfl rfl 53 (by decide) (hts _ tw_1098) (fun _ h9 => h9) rfl dX10_first_9 ?_
        refine lv_iload_n (pc := 12) hx hb dX10_first_12 rfl (lv_at hl 0 rfl) ?_
        refine lv_iconst (pc := 13) (v := nI 0) hx hb dX10_first_13 (by decide +kernel) ?_
        refine q_bastS (pc := 14) hx hb hK hP hD hS 5 2 rfl rfl (k := k) rfl (by omega) (by omega) (b := BitVec.ofNat 8 0) (qlo_nI _) dX10_first_14 (fun H locs hP hD hS => ?_)
        have hP : va_P D vwCl [(h0, oM a ar mn tp osz lsz ns ct), (a 8, aZ ta 256 BOX), (a 9, aZ ta 256 UBOX), (a 16, aS ta 240 rk), (a 18, aS ta 16 ce), (a 53, aS ta 16 (qU g' k (BitVec.ofNat 8 0))), (a 41, aS ta 256 gke), (a 36, aK ta 2 ru), (a 37, aK ta 2 le), (a 47, aK ta 2 cn)] H := hP
        have hD : va_D A [(h0, oM a ar mn tp osz lsz ns ct), (a 8, aZ ta 256 BOX), (a 9, aZ ta 256 UBOX), (a 16, aS ta 240 rk), (a 18, aS ta 16 ce), (a 53, aS ta 16 (qU g' k (BitVec.ofNat 8 0))), (a 41, aS ta 256 gke), (a 36, aK ta 2 ru), (a 37, aK ta 2 le), (a 47, aK ta 2 cn)] := hD
        refine lv_iinc (pc := 15) (v := nI (k + 1)) (lv' := [(3, .int (nI (k + 1))), (0, .ref h0), (1, .int (nI sd)), (2, .int (nI 0))]) hx hb dX10_first_15 hl (k := 0) rfl (by first | exact nI_add k 1 | rfl) (by decide) rfl (fun ls hl => ?_)
        refine lv_goto (pc := 18) (tgt := 2) hx hb dX10_first_18 (by decide) ?_
        exact ih2 (k + 1) (qU g' k (BitVec.ofNat 8 0)) (by omega) (qSeg_s hs (by omega) (by first | rfl | (simp; done))) (by omega) _ _ (hP.sub [0, 1, 2, 3, 4, 5, 6, 7, 8, 9] rfl) (hD.sub [0, 1, 2, 3, 4, 5, 6, 7, 8, 9] (by decide) rfl) hS ls (lv_sub hl [0, 1, 2, 3] rfl)
  exact LP2 _ 0 gbl (by omega) (qSeg_0) (Nat.lt_succ_self _) _ _ (hP.sub [0, 1, 2, 3, 4, 5, 6, 7, 8, 9] rfl) (hD.sub [0, 1, 2, 3, 4, 5, 6, 7, 8, 9] (by decide) rfl) hS ls (lv_sub hl [0, 1, 2, 3] rfl)
set_option maxHeartbeats 4000000 in
set_option maxRecDepth 100000 in
theorem ct_X10_first_31 (ll : Launch) (D : va_G) (ta : Nat → ClassId) {G : (Nat → Prop) → State → Heap → Prop} (hGok : GOK G) (h0 : Nat) (a : Nat → Nat) (ar : Nat) (mn : Nat) (tp : Nat) (osz : Nat) (lsz : Nat) (ns : Nat) (ct : Nat) (rk : Nat → BitVec 8) (ce : Nat → BitVec 8) (gbl : Nat → BitVec 8) (gke : Nat → BitVec 8) (ru : Nat → Nat) (le : Nat → Nat) (cn : Nat → Nat) (sd : Nat) (hsd : sd ≤ 1) (hru : ru sd = 3) (hle : le sd = 16 ∨ le sd = 24 ∨ le sd = 32) (hcn : cn sd < 2147483648) (sz : Nat) : CT ll yX10_first cX10_first 5 none ({ frames := 4, cells := 0, slots := 0, locals := 98 } : Room) D ta G [.ref h0, .int (nI sd), .int (nI 1)] [(h0, oM a ar mn tp osz lsz ns ct), (a 8, aZ ta 256 BOX), (a 9, aZ ta 256 UBOX), (a 16, aS ta 240 rk), (a 18, aS ta 16 ce), (a 53, aS ta 16 gbl), (a 41, aS ta 256 gke), (a 36, aK ta 2 ru), (a 37, aK ta 2 le), (a 47, aK ta 2 cn)] sz (S := (Nat → BitVec 8) × (Nat → BitVec 8) × (Nat → BitVec 8)) (fun _ => none) (fun u => (qL u.2.2 16 = firstL (seg gke (128 * sd) (le sd)) (cn sd) 0x80#8) ∧ (rkOK u.1 (seg gke (128 * sd) (le sd)))) (fun u => [(h0, oM a (le sd / 4 + 6) mn tp osz lsz ns ct), (a 8, aZ ta 256 BOX), (a 9, aZ ta 256 UBOX), (a 16, aS ta 240 u.1), (a 18, aS ta 16 u.2.1), (a 53, aS ta 16 u.2.2), (a 41, aS ta 256 gke), (a 36, aK ta 2 ru), (a 37, aK ta 2 le), (a 47, aK ta 2 cn)]) 0 0 := by
  refine CT.of_v rfl (by decide) (Nat.le_of_ble_eq_true rfl) ?_
  intro pp ee ss mm below meth kc A Q hx hb hml hown hin hts hK hA hsz hG hret H locs hP hD hS ls hl
  have hl : lv_has ls 5 [(0, .ref h0), (1, .int (nI sd)), (2, .int (nI 1))] := hl
  refine lv_iconst (pc := 0) (v := nI 0) hx hb dX10_first_0 (by decide +kernel) ?_
  refine lv_istore_n (pc := 1) (lv' := [(3, .int (nI 0)), (0, .ref h0), (1, .int (nI sd)), (2, .int (nI 1))]) hx hb dX10_first_1 rfl hl (by decide) rfl (fun ls hl => ?_)
  have LP2 : ∀ (nn2 : Nat) (k : Nat) (g' : Nat → BitVec 8), (k ≤ 16) → (qSeg g' gbl 0 k ((fun _ => 0#8))) → (16 - k < nn2) → ∀ (H : Heap) (locs : List Loc), va_P D vwCl [(h0, oM a ar mn tp osz lsz ns ct), (a 8, aZ ta 256 BOX), (a 9, aZ ta 256 UBOX), (a 16, aS ta 240 rk), (a 18, aS ta 16 ce), (a 53, aS ta 16 g'), (a 41, aS ta 256 gke), (a 36, aK ta 2 ru), (a 37, aK ta 2 le), (a 47, aK ta 2 cn)] H → va_D A [(h0, oM a ar mn tp osz lsz ns ct), (a 8, aZ ta 256 BOX), (a 9, aZ ta 256 UBOX), (a 16, aS ta 240 rk), (a 18, aS ta 16 ce), (a 53, aS ta 16 g'), (a 41, aS ta 256 gke), (a 36, aK ta 2 ru), (a 37, aK ta 2 le), (a 47, aK ta 2 cn)] → va_S A ss.heap H locs → ∀ ls : Array Slot, lv_has ls 5 [(3, .int (nI k)), (0, .ref h0), (1, .int (nI sd)), (2, .int (nI 1))] → W pp ll ee ({ frames := 4, cells := 0, slots := 0, locals := 98 } : Room) ss mm (([.ref h0, .int (nI sd), .int (nI 1)] : List Value).toArray) below meth kc H locs 0 0 Q (F0 mm 2 ls []) := by
    intro nn2
    induction nn2 with
    | zero => intro k g' hkk hs hmu; exact absurd hmu (Nat.not_lt_zero _)
    | succ nn2 ih2 =>
      intro k g' hkk hs hmu2 H locs hP hD hS ls hl
      refine lv_iload_n (pc := 2) hx hb dX10_first_2 rfl (lv_at hl 0 rfl) ?_
      refine lv_bipush (pc := 3) (v := nI 16) hx hb dX10_first_3 (by decide +kernel) ?_
      refine lv_icmp_ge (pc := 5) (tgt := 21) hx hb dX10_first_5 (by decide) (fun c_1 => ?_) (fun c_1 => ?_)
      · skip
        rw [nI_leI (by omega) (by omega)] at c_1
        refine lv_aload_n (pc := 21) hx hb dX10_first_21 rfl (lv_at hl 1 rfl) ?_
        refine va_get (pc := 22) (D := D) (ci := 8) (v := .ref (a 36)) (C := RX10) (T := TX10) (N := 57) hx hb hts iu10 hown hK hP 0 rfl rfl 36 (by decide) (hts _ tw_1081) (fun _ h9 => h9) rfl dX10_first_22 ?_
        refine lv_iload_n (pc := 25) hx hb dX10_first_25 rfl (lv_at hl 2 rfl) ?_
        refine q_iald (pc := 26) hx hb hK hP 7 0 rfl rfl (k := sd) (v := nI (ru sd)) rfl (by omega) (by omega) rfl dX10_first_26 ?_
        refine lv_iconst (pc := 27) (v := nI 2) hx hb dX10_first_27 (by decide +kernel) ?_
        refine lv_icmp_ne (pc := 28) (tgt := 32) hx hb dX10_first_28 (by decide) (fun c_2 => ?_) (fun c_2 => ?_)
        · skip
          rw [nI_eq (by omega) (by omega)] at c_2
          refine lv_aload_n (pc := 32) hx hb dX10_first_32 rfl (lv_at hl 1 rfl) ?_
          refine va_get (pc := 33) (D := D) (ci := 8) (v := .ref (a 47)) (C := RX10) (T := TX10) (N := 57) hx hb hts iu10 hown hK hP 0 rfl rfl 47 (by decide) (hts _ tw_1092) (fun _ h9 => h9) rfl dX10_first_33 ?_
          refine lv_iload_n (pc := 36) hx hb dX10_first_36 rfl (lv_at hl 2 rfl) ?_
          refine q_iald (pc := 37) hx hb hK hP 9 0 rfl rfl (k := sd) (v := nI (cn sd)) rfl (by omega) (by omega) rfl dX10_first_37 ?_
          refine lv_istore_n (pc := 38) (lv' := [(3, .int (nI (cn sd))), (0, .ref h0), (1, .int (nI sd)), (2, .int (nI 1))]) hx hb dX10_first_38 rfl hl (by decide) rfl (fun ls hl => ?_)
          refine lv_bipush (pc := 39) (v := nI 15) hx hb dX10_first_39 (by decide +kernel) ?_
          refine q_top (y := qI 16) rfl ?_
          refine lv_istore (pc := 41) (lv' := [(4, .int (qI 16)), (3, .int (nI (cn sd))), (0, .ref h0), (1, .int (nI sd)), (2, .int (nI 1))]) hx hb dX10_first_41 hl (by decide) rfl (fun ls hl => ?_)
          have LP43 : ∀ (nn43 : Nat) (c : Nat) (v9 : Nat) (b' : Nat → BitVec 8), (c ≤ 16) → (v9 = cn sd / 2 ^ (8 * (16 - c))) → (v9 < 2147483648) → (∀ j, c ≤ j → j < 16 → b' j = BitVec.ofNat 8 (cn sd / 2 ^ (8 * (15 - j)))) → (c < nn43) → ∀ (H : Heap) (locs : List Loc), va_P D vwCl [(h0, oM a ar mn tp osz lsz ns ct), (a 8, aZ ta 256 BOX), (a 9, aZ ta 256 UBOX), (a 16, aS ta 240 rk), (a 18, aS ta 16 ce), (a 53, aS ta 16 b'), (a 41, aS ta 256 gke), (a 36, aK ta 2 ru), (a 37, aK ta 2 le), (a 47, aK ta 2 cn)] H → va_D A [(h0, oM a ar mn tp osz lsz ns ct), (a 8, aZ ta 256 BOX), (a 9, aZ ta 256 UBOX), (a 16, aS ta 240 rk), (a 18, aS ta 16 ce), (a 53, aS ta 16 b'), (a 41, aS ta 256 gke), (a 36, aK ta 2 ru), (a 37, aK ta 2 le), (a 47, aK ta 2 cn)] → va_S A ss.heap H locs → ∀ ls : Array Slot, lv_has ls 5 [(4, .int (qI c)), (3, .int (nI v9)), (0, .ref h0), (1, .int (nI sd)), (2, .int (nI 1))] → W pp ll ee ({ frames := 4, cells := 0, slots := 0, locals := 98 } : Room) ss mm (([.ref h0, .int (nI sd), .int (nI 1)] : List Value).toArray) below meth kc H locs 0 0 Q (F0 mm 43 ls []) := by
            intro nn43
            induction nn43 with
            | zero => intro c v9 b' hcc hv hv2 hb9 hmu; exact absurd hmu (Nat.not_lt_zero _)
            | succ nn43 ih43 =>
              intro c v9 b' hcc hv hv2 hb9 hmu43 H locs hP hD hS ls hl
              refine lv_iload (pc := 43) hx hb dX10_first_43 (lv_at hl 0 rfl) ?_
              refine lv_if_lt (pc := 45) (tgt := 68) hx hb dX10_first_45 (by decide) (fun c_3 => ?_) (fun c_3 => ?_)
              · skip
                rw [qI_neg (by omega)] at c_3
                subst c_3
                refine lv_iload_n (pc := 68) hx hb dX10_first_68 rfl (lv_at hl 4 rfl) ?_
                refine lv_if_eq (pc := 69) (tgt := 80) hx hb dX10_first_69 (by decide) (fun c_4 => absurd c_4 (by decide)) (fun _ => ?_)
                refine lv_aload_n (pc := 72) hx hb dX10_first_72 rfl (lv_at hl 2 rfl) ?_
                refine va_get (pc := 73) (D := D) (ci := 8) (v := .ref (a 53)) (C := RX10) (T := TX10) (N := 57) hx hb hts iu10 hown hK hP 0 rfl rfl 53 (by decide) (hts _ tw_1098) (fun _ h9 => h9) rfl dX10_first_73 ?_
                refine lv_iconst (pc := 76) (v := nI 0) hx hb dX10_first_76 (by decide +kernel) ?_
                refine lv_bipush (pc := 77) (v := (-128)) hx hb dX10_first_77 (by decide +kernel) ?_
                refine q_bastS (pc := 79) hx hb hK hP hD hS 5 2 rfl rfl (k := 0) rfl (by omega) (by omega) (b := qlo (-128)) rfl dX10_first_79 (fun H locs hP hD hS => ?_)
                have hP : va_P D vwCl [(h0, oM a ar mn tp osz lsz ns ct), (a 8, aZ ta 256 BOX), (a 9, aZ ta 256 UBOX), (a 16, aS ta 240 rk), (a 18, aS ta 16 ce), (a 53, aS ta 16 (qU b' 0 (qlo (-128)))), (a 41, aS ta 256 gke), (a 36, aK ta 2 ru), (a 37, aK ta 2 le), (a 47, aK ta 2 cn)] H := hP
                have hD : va_D A [(h0, oM a ar mn tp osz lsz ns ct), (a 8, aZ ta 256 BOX), (a 9, aZ ta 256 UBOX), (a 16, aS ta 240 rk), (a 18, aS ta 16 ce), (a 53, aS ta 16 (qU b' 0 (qlo (-128)))), (a 41, aS ta 256 gke), (a 36, aK ta 2 ru), (a 37, aK ta 2 le), (a 47, aK ta 2 cn)] := hD
                refine lv_aload_n (pc := 80) hx hb dX10_first_80 rfl (lv_at hl 2 rfl) ?_
                refine lv_aload_n (pc := 81) hx hb dX10_first_81 rfl (lv_at hl 2 rfl) ?_
                refine va_get (pc := 82) (D := D) (ci := 8) (v := .ref (a 41)) (C := RX10) (T := TX10) (N := 57) hx hb hts iu10 hown hK hP 0 rfl rfl 41 (by decide) (hts _ tw_1086) (fun _ h9 => h9) rfl dX10_first_82 ?_
                refine lv_sipush (pc := 85) (v := nI 128) hx hb dX10_first_85 (by decide +kernel) ?_
                refine lv_iload_n (pc := 88) hx hb dX10_first_88 rfl (lv_at hl 3 rfl) ?_
                refine lv_imul (pc := 89) hx hb dX10_first_89 ?_
                refine q_top (y := nI (128 * sd)) (pk_mul 128 sd) ?_
                refine lv_iconst (pc := 90) (v := nI 0) hx hb dX10_first_90 (by decide +kernel) ?_
                refine lv_iadd (pc := 91) hx hb dX10_first_91 ?_
                refine q_top (y := nI (128 * sd)) ((nI_add (128 * sd) 0).trans (congrArg nI (by omega))) ?_
                refine lv_aload_n (pc := 92) hx hb dX10_first_92 rfl (lv_at hl 2 rfl) ?_
                refine va_get (pc := 93) (D := D) (ci := 8) (v := .ref (a 37)) (C := RX10) (T := TX10) (N := 57) hx hb hts iu10 hown hK hP 0 rfl rfl 37 (by decide) (hts _ tw_1082) (fun _ h9 => h9) rfl dX10_first_93 ?_
                refine lv_iload_n (pc := 96) hx hb dX10_first_96 rfl (lv_at hl 3 rfl) ?_
                refine q_iald (pc := 97) hx hb hK hP 8 0 rfl rfl (k := sd) (v := nI (le sd)) rfl (by omega) (by omega) rfl dX10_first_97 ?_
                refine cs_V (pc := 98) (idx := 100) (n := 3) (wr := [(a 9, aZ ta 256 UBOX), (a 18, aS ta 16 ce), (a 53, aS ta 16 (qU b' 0 (qlo (-128)))), (a 36, aK ta 2 ru), (a 37, aK ta 2 le), (a 47, aK ta 2 cn)]) (As := [.ref (a 41), .int (nI (128 * sd)), .int (nI (le sd))]) (rest := []) (ci := 8) hx hb hml hown hts hGok hK hA hG hl.1 hP hD hS (ct_X10_aesKeyL ll D ta hGok h0 a ar mn tp osz lsz ns ct (a 41) (128 * sd) 256 gke rk (le sd) (by first | assumption | omega | rfl | decide) (by first | assumption | omega | rfl | decide) (by first | assumption | omega | rfl | decide) H.size) tw_1338 tw_1335 tw_1337 tw_44 tw_75 hdX10_aesKey rfl ⟨rfl, rfl, Nat.le_of_ble_eq_true rfl, Nat.le_of_ble_eq_true rfl, Nat.le_of_ble_eq_true rfl, Nat.le_of_ble_eq_true rfl⟩ rfl rfl (q0 := 0) rfl [0, 1, 3, 6] [2, 4, 5, 7, 8, 9] rfl rfl (by decide) rfl (Nat.le_of_ble_eq_true rfl) dX10_first_98 (fun u H locs hq hP hD hS => ?_)
                generalize u = rk1_98 at hq hP hD ⊢
                have hq : (rkOK rk1_98 (seg gke (128 * sd) (le sd))) := hq
                have hs_98 := hq
                refine W.eq (g2 := F0 mm 101 ls []) rfl ?_
                have hP : va_P D vwCl [(a 9, aZ ta 256 UBOX), (a 18, aS ta 16 ce), (a 53, aS ta 16 (qU b' 0 (qlo (-128)))), (a 36, aK ta 2 ru), (a 37, aK ta 2 le), (a 47, aK ta 2 cn), (h0, oM a ((le sd) / 4 + 6) mn tp osz lsz ns ct), (a 8, aZ ta 256 BOX), (a 16, aS ta 240 rk1_98), (a 41, aS ta 256 gke)] H := hP
                have hD : va_D A [(a 9, aZ ta 256 UBOX), (a 18, aS ta 16 ce), (a 53, aS ta 16 (qU b' 0 (qlo (-128)))), (a 36, aK ta 2 ru), (a 37, aK ta 2 le), (a 47, aK ta 2 cn), (h0, oM a ((le sd) / 4 + 6) mn tp osz lsz ns ct), (a 8, aZ ta 256 BOX), (a 16, aS ta 240 rk1_98), (a 41, aS ta 256 gke)] := hD
                refine lv_aload_n (pc := 101) hx hb dX10_first_101 rfl (lv_at hl 2 rfl) ?_
                refine lv_aload_n (pc := 102) hx hb dX10_first_102 rfl (lv_at hl 2 rfl) ?_
                refine va_get (pc := 103) (D := D) (ci := 8) (v := .ref (a 53)) (C := RX10) (T := TX10) (N := 57) hx hb hts iu10 hown hK hP 6 rfl rfl 53 (by decide) (hts _ tw_1098) (fun _ h9 => h9) rfl dX10_first_103 ?_
                refine lv_iconst (pc := 106) (v := nI 0) hx hb dX10_first_106 (by decide +kernel) ?_
                refine lv_iconst (pc := 107) (v := nI 0) hx hb dX10_first_107 (by decide +kernel) ?_
                refine cs_V (pc := 108) (idx := 106) (n := 3) (wr := [(a 36, aK ta 2 ru), (a 37, aK ta 2 le), (a 47, aK ta 2 cn), (a 41, aS ta 256 gke)]) (As := [.ref (a 53), .int (nI 0), .int (nI 0)]) (rest := []) (ci := 8) hx hb hml hown hts hGok hK hA hG hl.1 hP hD hS (ct_X10_aes_fL ll D ta hGok h0 a mn tp osz lsz ns ct (a 53) 0 16 (qU b' 0 (qlo (-128))) ce rk1_98 (le sd) ((seg gke (128 * sd) (le sd))) (by first | assumption | omega | rfl | decide) (by first | assumption | omega | rfl | decide) (hle) (seg_len) (hs_98) H.size) tw_1342 tw_1339 tw_1341 tw_45 tw_75 hdX10_aes rfl ⟨rfl, rfl, Nat.le_of_ble_eq_true rfl, Nat.le_of_ble_eq_true rfl, Nat.le_of_ble_eq_true rfl, Nat.le_of_ble_eq_true rfl⟩ rfl rfl (q0 := 6) rfl [6, 7, 0, 8, 1, 2] [3, 4, 5, 9] rfl rfl (by decide) rfl (Nat.le_of_ble_eq_true rfl) dX10_first_108 (fun u H locs hq hP hD hS => ?_)
                obtain ⟨gb1_108, ce1_108⟩ := u
                have hq : (seg gb1_108 0 16 = aesE ((seg gke (128 * sd) (le sd))) (seg (qU b' 0 (qlo (-128))) 0 16)) ∧ (∀ jz, (jz < 0 ∨ 0 + 16 ≤ jz) → gb1_108 jz = (qU b' 0 (qlo (-128))) jz) := hq
                obtain ⟨hs_108, hfr_108⟩ := hq
                refine W.eq (g2 := F0 mm 111 ls []) rfl ?_
                have hP : va_P D vwCl [(a 36, aK ta 2 ru), (a 37, aK ta 2 le), (a 47, aK ta 2 cn), (a 41, aS ta 256 gke), (h0, oM a ((le sd) / 4 + 6) mn tp osz lsz ns ct), (a 8, aZ ta 256 BOX), (a 9, aZ ta 256 UBOX), (a 16, aS ta 240 rk1_98), (a 18, aS ta 16 ce1_108), (a 53, aS ta 16 gb1_108)] H := hP
                have hD : va_D A [(a 36, aK ta 2 ru), (a 37, aK ta 2 le), (a 47, aK ta 2 cn), (a 41, aS ta 256 gke), (h0, oM a ((le sd) / 4 + 6) mn tp osz lsz ns ct), (a 8, aZ ta 256 BOX), (a 9, aZ ta 256 UBOX), (a 16, aS ta 240 rk1_98), (a 18, aS ta 16 ce1_108), (a 53, aS ta 16 gb1_108)] := hD
                have hq_5 : (qL gb1_108 16 = firstL (seg gke (128 * sd) (le sd)) (cn sd) 0x80#8) ∧ (rkOK rk1_98 (seg gke (128 * sd) (le sd))) := by
                  refine ⟨?_, hs_98⟩
                  have h9 := cnt_bytes (b0 := gbl) hcn (fun j hj => hb9 j (by omega) hj)
                  rw [← seg_0, hs_108, firstL, seg_0]
                  first | rw [h9.1] | rw [h9.2] | (rw [qlo_80, show (0x80#8) = BitVec.ofNat 8 128 from rfl, h9.2])
                exact hret (⟨(rk1_98), (ce1_108), (gb1_108)⟩ : (Nat → BitVec 8) × (Nat → BitVec 8) × (Nat → BitVec 8)) _ _ _ _ dX10_first_111 hq_5 (hP.sub [4, 5, 6, 7, 8, 9, 3, 0, 1, 2] rfl) (hD.sub [4, 5, 6, 7, 8, 9, 3, 0, 1, 2] (by decide) rfl) hS
              · skip
                rw [qI_neg (by omega)] at c_3
                obtain ⟨k9, rfl⟩ : ∃ k, c = k + 1 := ⟨c - 1, by omega⟩
                rw [qI_s] at hl
                refine lv_aload_n (pc := 48) hx hb dX10_first_48 rfl (lv_at hl 2 rfl) ?_
                refine va_get (pc := 49) (D := D) (ci := 8) (v := .ref (a 53)) (C := RX10) (T := TX10) (N := 57) hx hb hts iu10 hown hK hP 0 rfl rfl 53 (by decide) (hts _ tw_1098) (fun _ h9 => h9) rfl dX10_first_49 ?_
                refine lv_iload (pc := 52) hx hb dX10_first_52 (lv_at hl 0 rfl) ?_
                refine lv_iload_n (pc := 54) hx hb dX10_first_54 rfl (lv_at hl 1 rfl) ?_
                refine lv_i2b (pc := 55) (v := qs (qlo (nI v9))) hx hb dX10_first_55 (q_i2b _) ?_
                refine q_bastS (pc := 56) hx hb hK hP hD hS 5 2 rfl rfl (k := k9) rfl (by omega) (by omega) (b := qlo (nI v9)) (qlo_qs _) dX10_first_56 (fun H locs hP hD hS => ?_)
                have hP : va_P D vwCl [(h0, oM a ar mn tp osz lsz ns ct), (a 8, aZ ta 256 BOX), (a 9, aZ ta 256 UBOX), (a 16, aS ta 240 rk), (a 18, aS ta 16 ce), (a 53, aS ta 16 (qU b' k9 (qlo (nI v9)))), (a 41, aS ta 256 gke), (a 36, aK ta 2 ru), (a 37, aK ta 2 le), (a 47, aK ta 2 cn)] H := hP
                have hD : va_D A [(h0, oM a ar mn tp osz lsz ns ct), (a 8, aZ ta 256 BOX), (a 9, aZ ta 256 UBOX), (a 16, aS ta 240 rk), (a 18, aS ta 16 ce), (a 53, aS ta 16 (qU b' k9 (qlo (nI v9)))), (a 41, aS ta 256 gke), (a 36, aK ta 2 ru), (a 37, aK ta 2 le), (a 47, aK ta 2 cn)] := hD
                refine lv_iload_n (pc := 57) hx hb dX10_first_57 rfl (lv_at hl 1 rfl) ?_
                refine lv_bipush (pc := 58) (v := nI 8) hx hb dX10_first_58 (by decide +kernel) ?_
                refine lv_ishr (pc := 60) hx hb dX10_first_60 ?_
                refine q_top (y := nI (v9 / 256)) (q_shr (p := 256) (by decide) (by omega)) ?_
                refine lv_istore_n (pc := 61) (lv' := [(3, .int (nI (v9 / 256))), (4, .int (nI k9)), (0, .ref h0), (1, .int (nI sd)), (2, .int (nI 1))]) hx hb dX10_first_61 rfl hl (by decide) rfl (fun ls hl => ?_)
                refine lv_iinc (pc := 62) (v := qI k9) (lv' := [(4, .int (qI k9)), (3, .int (nI (v9 / 256))), (0, .ref h0), (1, .int (nI sd)), (2, .int (nI 1))]) hx hb dX10_first_62 hl (k := 1) rfl rfl (by decide) rfl (fun ls hl => ?_)
                refine lv_goto (pc := 65) (tgt := 43) hx hb dX10_first_65 (by decide) ?_
                exact ih43 k9 (v9 / 256) (qU b' k9 (qlo (nI v9))) (by omega) (by rw [hv, Nat.div_div_eq_div_mul, show 16 - k9 = (16 - (k9 + 1)) + 1 by omega, Nat.mul_add, Nat.pow_add]) (by omega) (by
                      intro j h1 h2
                      by_cases q : j = k9
                      · subst q
                        rw [qU_same, qlo_nI, hv, show 16 - (j + 1) = 15 - j by omega]
                      · rw [qU_ne q]
                        exact hb9 j (by omega) h2) (by omega) _ _ (hP.sub [0, 1, 2, 3, 4, 5, 6, 7, 8, 9] rfl) (hD.sub [0, 1, 2, 3, 4, 5, 6, 7, 8, 9] (by decide) rfl) hS ls (lv_sub hl [0, 1, 2, 3, 4] rfl)
          exact LP43 _ 16 (cn sd) g' (by omega) (by simp) (by omega) (fun j h1 h2 => absurd h1 (by omega)) (Nat.lt_succ_self _) _ _ (hP.sub [0, 1, 2, 3, 4, 5, 6, 7, 8, 9] rfl) (hD.sub [0, 1, 2, 3, 4, 5, 6, 7, 8, 9] (by decide) rfl) hS ls (lv_sub hl [0, 1, 2, 3, 4] rfl)
        · skip
          rw [nI_eq (by omega) (by omega)] at c_2
          exfalso; omega
      · skip
        rw [nI_leI (by omega) (by omega)] at c_1
        refine lv_aload_n (pc := 8) hx hb dX10_first_8 rfl (lv_at hl 1 rfl) ?_
        refine va_get (pc := 9) (D := D) (ci := 8) (v := .ref (a 53)) (C := RX10) (T := TX10) (N := 57) hx hb hts iu10 hown hK hP 0 rfl rfl 53 (by decide) (hts _ tw_1098) (fun _ h9 => h9) rfl dX10_first_9 ?_
        refine lv_iload_n (pc := 12) hx hb dX10_first_12 rfl (lv_at hl 0 rfl) ?_
        refine lv_iconst (pc := 13) (v := nI 0) hx hb dX10_first_13 (by decide +kernel) ?_
        refine q_bastS (pc := 14) hx hb hK hP hD hS 5 2 rfl rfl (k := k) rfl (by omega) (by omega) (b := BitVec.ofNat 8 0) (qlo_nI _) dX10_first_14 (fun H locs hP hD hS => ?_)
        have hP : va_P D vwCl [(h0, oM a ar mn tp osz lsz ns ct), (a 8, aZ ta 256 BOX), (a 9, aZ ta 256 UBOX), (a 16, aS ta 240 rk), (a 18, aS ta 16 ce), (a 53, aS ta 16 (qU g' k (BitVec.ofNat 8 0))), (a 41, aS ta 256 gke), (a 36, aK ta 2 ru), (a 37, aK ta 2 le), (a 47, aK ta 2 cn)] H := hP
        have hD : va_D A [(h0, oM a ar mn tp osz lsz ns ct), (a 8, aZ ta 256 BOX), (a 9, aZ ta 256 UBOX), (a 16, aS ta 240 rk), (a 18, aS ta 16 ce), (a 53, aS ta 16 (qU g' k (BitVec.ofNat 8 0))), (a 41, aS ta 256 gke), (a 36, aK ta 2 ru), (a 37, aK ta 2 le), (a 47, aK ta 2 cn)] := hD
        refine lv_iinc (pc := 15) (v := nI (k + 1)) (lv' := [(3, .int (nI (k + 1))), (0, .ref h0), (1, .int (nI sd)), (2, .int (nI 1))]) hx hb dX10_first_15 hl (k := 0) rfl (by first | exact nI_add k 1 | rfl) (by decide) rfl (fun ls hl => ?_)
        refine lv_goto (pc := 18) (tgt := 2) hx hb dX10_first_18 (by decide) ?_
        exact ih2 (k + 1) (qU g' k (BitVec.ofNat 8 0)) (by omega) (qSeg_s hs (by omega) (by first | rfl | (simp; done))) (by omega) _ _ (hP.sub [0, 1, 2, 3, 4, 5, 6, 7, 8, 9] rfl) (hD.sub [0, 1, 2, 3, 4, 5, 6, 7, 8, 9] (by decide) rfl) hS ls (lv_sub hl [0, 1, 2, 3] rfl)
  exact LP2 _ 0 gbl (by omega) (qSeg_0) (Nat.lt_succ_self _) _ _ (hP.sub [0, 1, 2, 3, 4, 5, 6, 7, 8, 9] rfl) (hD.sub [0, 1, 2, 3, 4, 5, 6, 7, 8, 9] (by decide) rfl) hS ls (lv_sub hl [0, 1, 2, 3] rfl)
theorem hdX10_one : yX10_one.cls ≠ "java/lang/invoke/MethodHandle" ∧ yX10_one.cls ≠ "java/lang/invoke/VarHandle" ∧ (parseMethodDescriptor yX10_one.desc).map (fun d => d.parameters.length) = some 4 := ⟨by decide +kernel, by decide +kernel, by decide +kernel⟩
theorem dX10_one_0 : decode cX10_one 0 = .ok (.aload_n 0, 1) := by decide +kernel
theorem dX10_one_1 : decode cX10_one 1 = .ok (.getfield 231, 3) := by decide +kernel
theorem dX10_one_4 : decode cX10_one 4 = .ok (.iload_n 1, 1) := by decide +kernel
theorem dX10_one_5 : decode cX10_one 5 = .ok (.iaload, 1) := by decide +kernel
theorem dX10_one_6 : decode cX10_one 6 = .ok (.iconst 2, 1) := by decide +kernel
theorem dX10_one_7 : decode cX10_one 7 = .ok (.if_icmp .ne 25, 3) := by decide +kernel
theorem dX10_one_10 : decode cX10_one 10 = .ok (.aload_n 0, 1) := by decide +kernel
theorem dX10_one_11 : decode cX10_one 11 = .ok (.aload_n 2, 1) := by decide +kernel
theorem dX10_one_12 : decode cX10_one 12 = .ok (.iload_n 3, 1) := by decide +kernel
theorem dX10_one_13 : decode cX10_one 13 = .ok (.aload_n 0, 1) := by decide +kernel
theorem dX10_one_14 : decode cX10_one 14 = .ok (.getfield 246, 3) := by decide +kernel
theorem dX10_one_17 : decode cX10_one 17 = .ok (.sipush 128, 3) := by decide +kernel
theorem dX10_one_20 : decode cX10_one 20 = .ok (.iload_n 1, 1) := by decide +kernel
theorem dX10_one_21 : decode cX10_one 21 = .ok (.imul, 1) := by decide +kernel
theorem dX10_one_22 : decode cX10_one 22 = .ok (.iconst 0, 1) := by decide +kernel
theorem dX10_one_23 : decode cX10_one 23 = .ok (.iadd, 1) := by decide +kernel
theorem dX10_one_24 : decode cX10_one 24 = .ok (.iload 4, 2) := by decide +kernel
theorem dX10_one_26 : decode cX10_one 26 = .ok (.invokevirtual 97, 3) := by decide +kernel
theorem dX10_one_29 : decode cX10_one 29 = .ok (.goto 11, 3) := by decide +kernel
theorem dX10_one_32 : decode cX10_one 32 = .ok (.aload_n 0, 1) := by decide +kernel
theorem dX10_one_33 : decode cX10_one 33 = .ok (.aload_n 2, 1) := by decide +kernel
theorem dX10_one_34 : decode cX10_one 34 = .ok (.iload_n 3, 1) := by decide +kernel
theorem dX10_one_35 : decode cX10_one 35 = .ok (.iload 4, 2) := by decide +kernel
theorem dX10_one_37 : decode cX10_one 37 = .ok (.invokevirtual 106, 3) := by decide +kernel
theorem dX10_one_40 : decode cX10_one 40 = .ok (.return_, 1) := by decide +kernel
set_option maxHeartbeats 4000000 in
set_option maxRecDepth 100000 in
theorem ct_X10_one_20 (ll : Launch) (D : va_G) (ta : Nat → ClassId) {G : (Nat → Prop) → State → Heap → Prop} (hGok : GOK G) (h0 : Nat) (a : Nat → Nat) (ar : Nat) (mn : Nat) (tp : Nat) (osz : Nat) (lsz : Nat) (ns : Nat) (ct : Nat) (bi : Nat → Bool) (tu : Nat → Bool) (cd : Nat → Bool) (sk : Nat → Bool) (hf : Nat → Bool) (wd : Nat → Bool) (gke : Nat → BitVec 8) (ru : Nat → Nat) (sd : Nat) (hb2 : Nat) (at0 : Nat) (capb : Nat) (gb : Nat → BitVec 8) (hsd : sd ≤ 1) (hru : ru sd = 2) (hat : at0 + 8 ≤ capb) (hcb : capb < 2147483648) (sz : Nat) : CT ll yX10_one cX10_one 5 none ({ frames := 4, cells := 0, slots := 0, locals := 98 } : Room) D ta G [.ref h0, .int (nI sd), .ref hb2, .int (nI at0), .int (nI 0)] [(h0, oM a ar mn tp osz lsz ns ct), (a 0, aK ta 64 tIP), (a 1, aK ta 48 tSPR), (a 2, aK ta 32 tMIX), (a 3, aK ta 56 tCH), (a 4, aK ta 48 tSEC), (a 5, aK ta 512 tSBX), (a 10, aB ta 64 bi), (a 11, aB ta 64 tu), (a 12, aB ta 56 cd), (a 13, aB ta 768 sk), (a 14, aB ta 32 hf), (a 15, aB ta 48 wd), (a 41, aS ta 256 gke), (a 36, aK ta 2 ru), (hb2, aS ta capb gb)] sz (S := (Nat → Bool) × (Nat → Bool) × (Nat → Bool) × (Nat → Bool) × (Nat → Bool) × (Nat → Bool) × (Nat → BitVec 8)) (fun _ => none) (fun u => (seg u.2.2.2.2.2.2 at0 8 = tdesL (seg gke (128 * sd) 16) false (seg gb at0 8)) ∧ (∀ j, (j < at0 ∨ at0 + 8 ≤ j) → u.2.2.2.2.2.2 j = gb j)) (fun u => [(h0, oM a ar mn tp osz lsz ns ct), (a 0, aK ta 64 tIP), (a 1, aK ta 48 tSPR), (a 2, aK ta 32 tMIX), (a 3, aK ta 56 tCH), (a 4, aK ta 48 tSEC), (a 5, aK ta 512 tSBX), (a 10, aB ta 64 u.1), (a 11, aB ta 64 u.2.1), (a 12, aB ta 56 u.2.2.1), (a 13, aB ta 768 u.2.2.2.1), (a 14, aB ta 32 u.2.2.2.2.1), (a 15, aB ta 48 u.2.2.2.2.2.1), (a 41, aS ta 256 gke), (a 36, aK ta 2 ru), (hb2, aS ta capb u.2.2.2.2.2.2)]) 0 0 := by
  refine CT.of_v rfl (by decide) (Nat.le_of_ble_eq_true rfl) ?_
  intro pp ee ss mm below meth kc A Q hx hb hml hown hin hts hK hA hsz hG hret H locs hP hD hS ls hl
  have hl : lv_has ls 5 [(0, .ref h0), (1, .int (nI sd)), (2, .ref hb2), (3, .int (nI at0)), (4, .int (nI 0))] := hl
  refine lv_aload_n (pc := 0) hx hb dX10_one_0 rfl (lv_at hl 0 rfl) ?_
  refine va_get (pc := 1) (D := D) (ci := 8) (v := .ref (a 36)) (C := RX10) (T := TX10) (N := 57) hx hb hts iu10 hown hK hP 0 rfl rfl 36 (by decide) (hts _ tw_1081) (fun _ h9 => h9) rfl dX10_one_1 ?_
  refine lv_iload_n (pc := 4) hx hb dX10_one_4 rfl (lv_at hl 1 rfl) ?_
  refine q_iald (pc := 5) hx hb hK hP 14 0 rfl rfl (k := sd) (v := nI (ru sd)) rfl (by omega) (by omega) rfl dX10_one_5 ?_
  refine lv_iconst (pc := 6) (v := nI 2) hx hb dX10_one_6 (by decide +kernel) ?_
  refine lv_icmp_ne (pc := 7) (tgt := 32) hx hb dX10_one_7 (by decide) (fun c_1 => ?_) (fun c_1 => ?_)
  · skip
    rw [nI_eq (by omega) (by omega)] at c_1
    exfalso; omega
  · skip
    rw [nI_eq (by omega) (by omega)] at c_1
    refine lv_aload_n (pc := 10) hx hb dX10_one_10 rfl (lv_at hl 0 rfl) ?_
    refine lv_aload_n (pc := 11) hx hb dX10_one_11 rfl (lv_at hl 2 rfl) ?_
    refine lv_iload_n (pc := 12) hx hb dX10_one_12 rfl (lv_at hl 3 rfl) ?_
    refine lv_aload_n (pc := 13) hx hb dX10_one_13 rfl (lv_at hl 0 rfl) ?_
    refine va_get (pc := 14) (D := D) (ci := 8) (v := .ref (a 41)) (C := RX10) (T := TX10) (N := 57) hx hb hts iu10 hown hK hP 0 rfl rfl 41 (by decide) (hts _ tw_1086) (fun _ h9 => h9) rfl dX10_one_14 ?_
    refine lv_sipush (pc := 17) (v := nI 128) hx hb dX10_one_17 (by decide +kernel) ?_
    refine lv_iload_n (pc := 20) hx hb dX10_one_20 rfl (lv_at hl 1 rfl) ?_
    refine lv_imul (pc := 21) hx hb dX10_one_21 ?_
    refine q_top (y := nI (128 * sd)) (pk_mul 128 sd) ?_
    refine lv_iconst (pc := 22) (v := nI 0) hx hb dX10_one_22 (by decide +kernel) ?_
    refine lv_iadd (pc := 23) hx hb dX10_one_23 ?_
    refine q_top (y := nI (128 * sd)) ((nI_add (128 * sd) 0).trans (congrArg nI (by omega))) ?_
    refine lv_iload (pc := 24) hx hb dX10_one_24 (lv_at hl 4 rfl) ?_
    refine cs_V (pc := 26) (idx := 97) (n := 5) (wr := [(a 36, aK ta 2 ru)]) (As := [.ref hb2, .int (nI at0), .ref (a 41), .int (nI (128 * sd)), .int (nI 0)]) (rest := []) (ci := 8) hx hb hml hown hts hGok hK hA hG hl.1 hP hD hS (ct_X10_des3_L ll D ta hGok h0 a ar mn tp osz lsz ns ct hb2 at0 capb gb (a 41) (128 * sd) 256 gke bi tu cd sk hf wd false (by first | assumption | omega | rfl | decide) (by first | assumption | omega | rfl | decide) (by first | assumption | omega | rfl | decide) (by first | assumption | omega | rfl | decide) H.size) tw_1290 tw_1287 tw_1289 tw_32 tw_75 hdX10_des3 rfl ⟨rfl, rfl, Nat.le_of_ble_eq_true rfl, Nat.le_of_ble_eq_true rfl, Nat.le_of_ble_eq_true rfl, Nat.le_of_ble_eq_true rfl⟩ rfl rfl (q0 := 0) rfl [0, 1, 2, 3, 4, 5, 6, 7, 8, 9, 10, 11, 12, 15, 13] [14] rfl rfl (by decide) rfl (Nat.le_of_ble_eq_true rfl) dX10_one_26 (fun u H locs hq hP hD hS => ?_)
    obtain ⟨gb1_26, bi1_26, tu1_26, cd1_26, sk1_26, hf1_26, wd1_26⟩ := u
    have hq : (seg gb1_26 at0 8 = tdesL (seg gke (128 * sd) 16) false (seg gb at0 8)) ∧ (∀ jz, (jz < at0 ∨ at0 + 8 ≤ jz) → gb1_26 jz = gb jz) := hq
    obtain ⟨hs_26, hfr_26⟩ := hq
    refine W.eq (g2 := F0 mm 29 ls []) rfl ?_
    have hP : va_P D vwCl [(a 36, aK ta 2 ru), (h0, oM a ar mn tp osz lsz ns ct), (a 0, aK ta 64 tIP), (a 1, aK ta 48 tSPR), (a 2, aK ta 32 tMIX), (a 3, aK ta 56 tCH), (a 4, aK ta 48 tSEC), (a 5, aK ta 512 tSBX), (a 10, aB ta 64 bi1_26), (a 11, aB ta 64 tu1_26), (a 12, aB ta 56 cd1_26), (a 13, aB ta 768 sk1_26), (a 14, aB ta 32 hf1_26), (a 15, aB ta 48 wd1_26), (hb2, aS ta capb gb1_26), (a 41, aS ta 256 gke)] H := hP
    have hD : va_D A [(a 36, aK ta 2 ru), (h0, oM a ar mn tp osz lsz ns ct), (a 0, aK ta 64 tIP), (a 1, aK ta 48 tSPR), (a 2, aK ta 32 tMIX), (a 3, aK ta 56 tCH), (a 4, aK ta 48 tSEC), (a 5, aK ta 512 tSBX), (a 10, aB ta 64 bi1_26), (a 11, aB ta 64 tu1_26), (a 12, aB ta 56 cd1_26), (a 13, aB ta 768 sk1_26), (a 14, aB ta 32 hf1_26), (a 15, aB ta 48 wd1_26), (hb2, aS ta capb gb1_26), (a 41, aS ta 256 gke)] := hD
    refine lv_goto (pc := 29) (tgt := 40) hx hb dX10_one_29 (by decide) ?_
    have hq_2 : (seg gb1_26 at0 8 = tdesL (seg gke (128 * sd) 16) false (seg gb at0 8)) ∧ (∀ j, (j < at0 ∨ at0 + 8 ≤ j) → gb1_26 j = gb j) := by
      exact ⟨hs_26, hfr_26⟩
    exact hret (⟨(bi1_26), (tu1_26), (cd1_26), (sk1_26), (hf1_26), (wd1_26), (gb1_26)⟩ : (Nat → Bool) × (Nat → Bool) × (Nat → Bool) × (Nat → Bool) × (Nat → Bool) × (Nat → Bool) × (Nat → BitVec 8)) _ _ _ _ dX10_one_40 hq_2 (hP.sub [1, 2, 3, 4, 5, 6, 7, 8, 9, 10, 11, 12, 13, 15, 0, 14] rfl) (hD.sub [1, 2, 3, 4, 5, 6, 7, 8, 9, 10, 11, 12, 13, 15, 0, 14] (by decide) rfl) hS
set_option maxHeartbeats 4000000 in
set_option maxRecDepth 100000 in
theorem ct_X10_one_30 (ll : Launch) (D : va_G) (ta : Nat → ClassId) {G : (Nat → Prop) → State → Heap → Prop} (hGok : GOK G) (h0 : Nat) (a : Nat → Nat) (mn : Nat) (tp : Nat) (osz : Nat) (lsz : Nat) (ns : Nat) (ct : Nat) (rk : Nat → BitVec 8) (ce : Nat → BitVec 8) (ru : Nat → Nat) (sd : Nat) (hb2 : Nat) (at0 : Nat) (capb : Nat) (gb : Nat → BitVec 8) (n : Nat) (K : Bytes) (hsd : sd ≤ 1) (hru : ru sd = 3) (hat : at0 + 16 ≤ capb) (hcb : capb < 2147483648) (hn : n = 16 ∨ n = 24 ∨ n = 32) (hKn : K.length = n) (hrk : rkOK rk K) (sz : Nat) : CT ll yX10_one cX10_one 5 none ({ frames := 4, cells := 0, slots := 0, locals := 98 } : Room) D ta G [.ref h0, .int (nI sd), .ref hb2, .int (nI at0), .int (nI 0)] [(h0, oM a (n / 4 + 6) mn tp osz lsz ns ct), (a 8, aZ ta 256 BOX), (a 9, aZ ta 256 UBOX), (a 16, aS ta 240 rk), (a 18, aS ta 16 ce), (a 36, aK ta 2 ru), (hb2, aS ta capb gb)] sz (S := (Nat → BitVec 8) × (Nat → BitVec 8)) (fun _ => none) (fun u => (seg u.2 at0 16 = aesE K (seg gb at0 16)) ∧ (∀ j, (j < at0 ∨ at0 + 16 ≤ j) → u.2 j = gb j)) (fun u => [(h0, oM a (n / 4 + 6) mn tp osz lsz ns ct), (a 8, aZ ta 256 BOX), (a 9, aZ ta 256 UBOX), (a 16, aS ta 240 rk), (a 18, aS ta 16 u.1), (a 36, aK ta 2 ru), (hb2, aS ta capb u.2)]) 0 0 := by
  refine CT.of_v rfl (by decide) (Nat.le_of_ble_eq_true rfl) ?_
  intro pp ee ss mm below meth kc A Q hx hb hml hown hin hts hK hA hsz hG hret H locs hP hD hS ls hl
  have hl : lv_has ls 5 [(0, .ref h0), (1, .int (nI sd)), (2, .ref hb2), (3, .int (nI at0)), (4, .int (nI 0))] := hl
  refine lv_aload_n (pc := 0) hx hb dX10_one_0 rfl (lv_at hl 0 rfl) ?_
  refine va_get (pc := 1) (D := D) (ci := 8) (v := .ref (a 36)) (C := RX10) (T := TX10) (N := 57) hx hb hts iu10 hown hK hP 0 rfl rfl 36 (by decide) (hts _ tw_1081) (fun _ h9 => h9) rfl dX10_one_1 ?_
  refine lv_iload_n (pc := 4) hx hb dX10_one_4 rfl (lv_at hl 1 rfl) ?_
  refine q_iald (pc := 5) hx hb hK hP 5 0 rfl rfl (k := sd) (v := nI (ru sd)) rfl (by omega) (by omega) rfl dX10_one_5 ?_
  refine lv_iconst (pc := 6) (v := nI 2) hx hb dX10_one_6 (by decide +kernel) ?_
  refine lv_icmp_ne (pc := 7) (tgt := 32) hx hb dX10_one_7 (by decide) (fun c_1 => ?_) (fun c_1 => ?_)
  · skip
    rw [nI_eq (by omega) (by omega)] at c_1
    refine lv_aload_n (pc := 32) hx hb dX10_one_32 rfl (lv_at hl 0 rfl) ?_
    refine lv_aload_n (pc := 33) hx hb dX10_one_33 rfl (lv_at hl 2 rfl) ?_
    refine lv_iload_n (pc := 34) hx hb dX10_one_34 rfl (lv_at hl 3 rfl) ?_
    refine lv_iload (pc := 35) hx hb dX10_one_35 (lv_at hl 4 rfl) ?_
    refine cs_V (pc := 37) (idx := 106) (n := 3) (wr := [(a 36, aK ta 2 ru)]) (As := [.ref hb2, .int (nI at0), .int (nI 0)]) (rest := []) (ci := 8) hx hb hml hown hts hGok hK hA hG hl.1 hP hD hS (ct_X10_aes_fL ll D ta hGok h0 a mn tp osz lsz ns ct hb2 at0 capb gb ce rk n K (by first | assumption | omega | rfl | decide) (by first | assumption | omega | rfl | decide) (by first | assumption | omega | rfl | decide) (by first | assumption | omega | rfl | decide) (by first | assumption | omega | rfl | decide) H.size) tw_1342 tw_1339 tw_1341 tw_45 tw_75 hdX10_aes rfl ⟨rfl, rfl, Nat.le_of_ble_eq_true rfl, Nat.le_of_ble_eq_true rfl, Nat.le_of_ble_eq_true rfl, Nat.le_of_ble_eq_true rfl⟩ rfl rfl (q0 := 0) rfl [0, 1, 2, 3, 4, 6] [5] rfl rfl (by decide) rfl (Nat.le_of_ble_eq_true rfl) dX10_one_37 (fun u H locs hq hP hD hS => ?_)
    obtain ⟨gb1_37, ce1_37⟩ := u
    have hq : (seg gb1_37 at0 16 = aesE K (seg gb at0 16)) ∧ (∀ jz, (jz < at0 ∨ at0 + 16 ≤ jz) → gb1_37 jz = gb jz) := hq
    obtain ⟨hs_37, hfr_37⟩ := hq
    refine W.eq (g2 := F0 mm 40 ls []) rfl ?_
    have hP : va_P D vwCl [(a 36, aK ta 2 ru), (h0, oM a (n / 4 + 6) mn tp osz lsz ns ct), (a 8, aZ ta 256 BOX), (a 9, aZ ta 256 UBOX), (a 16, aS ta 240 rk), (a 18, aS ta 16 ce1_37), (hb2, aS ta capb gb1_37)] H := hP
    have hD : va_D A [(a 36, aK ta 2 ru), (h0, oM a (n / 4 + 6) mn tp osz lsz ns ct), (a 8, aZ ta 256 BOX), (a 9, aZ ta 256 UBOX), (a 16, aS ta 240 rk), (a 18, aS ta 16 ce1_37), (hb2, aS ta capb gb1_37)] := hD
    have hq_2 : (seg gb1_37 at0 16 = aesE K (seg gb at0 16)) ∧ (∀ j, (j < at0 ∨ at0 + 16 ≤ j) → gb1_37 j = gb j) := by
      exact ⟨hs_37, hfr_37⟩
    exact hret (⟨(ce1_37), (gb1_37)⟩ : (Nat → BitVec 8) × (Nat → BitVec 8)) _ _ _ _ dX10_one_40 hq_2 (hP.sub [1, 2, 3, 4, 5, 0, 6] rfl) (hD.sub [1, 2, 3, 4, 5, 0, 6] (by decide) rfl) hS
  · skip
    rw [nI_eq (by omega) (by omega)] at c_1
    exfalso; omega
set_option maxHeartbeats 4000000 in
set_option maxRecDepth 100000 in
theorem ct_X10_one_21 (ll : Launch) (D : va_G) (ta : Nat → ClassId) {G : (Nat → Prop) → State → Heap → Prop} (hGok : GOK G) (h0 : Nat) (a : Nat → Nat) (ar : Nat) (mn : Nat) (tp : Nat) (osz : Nat) (lsz : Nat) (ns : Nat) (ct : Nat) (bi : Nat → Bool) (tu : Nat → Bool) (cd : Nat → Bool) (sk : Nat → Bool) (hf : Nat → Bool) (wd : Nat → Bool) (gke : Nat → BitVec 8) (ru : Nat → Nat) (sd : Nat) (hb2 : Nat) (at0 : Nat) (capb : Nat) (gb : Nat → BitVec 8) (hsd : sd ≤ 1) (hru : ru sd = 2) (hat : at0 + 8 ≤ capb) (hcb : capb < 2147483648) (sz : Nat) : CT ll yX10_one cX10_one 5 none ({ frames := 4, cells := 0, slots := 0, locals := 98 } : Room) D ta G [.ref h0, .int (nI sd), .ref hb2, .int (nI at0), .int (nI 1)] [(h0, oM a ar mn tp osz lsz ns ct), (a 0, aK ta 64 tIP), (a 1, aK ta 48 tSPR), (a 2, aK ta 32 tMIX), (a 3, aK ta 56 tCH), (a 4, aK ta 48 tSEC), (a 5, aK ta 512 tSBX), (a 10, aB ta 64 bi), (a 11, aB ta 64 tu), (a 12, aB ta 56 cd), (a 13, aB ta 768 sk), (a 14, aB ta 32 hf), (a 15, aB ta 48 wd), (a 41, aS ta 256 gke), (a 36, aK ta 2 ru), (hb2, aS ta capb gb)] sz (S := (Nat → Bool) × (Nat → Bool) × (Nat → Bool) × (Nat → Bool) × (Nat → Bool) × (Nat → Bool) × (Nat → BitVec 8)) (fun _ => none) (fun u => (seg u.2.2.2.2.2.2 at0 8 = tdesL (seg gke (128 * sd) 16) true (seg gb at0 8)) ∧ (∀ j, (j < at0 ∨ at0 + 8 ≤ j) → u.2.2.2.2.2.2 j = gb j)) (fun u => [(h0, oM a ar mn tp osz lsz ns ct), (a 0, aK ta 64 tIP), (a 1, aK ta 48 tSPR), (a 2, aK ta 32 tMIX), (a 3, aK ta 56 tCH), (a 4, aK ta 48 tSEC), (a 5, aK ta 512 tSBX), (a 10, aB ta 64 u.1), (a 11, aB ta 64 u.2.1), (a 12, aB ta 56 u.2.2.1), (a 13, aB ta 768 u.2.2.2.1), (a 14, aB ta 32 u.2.2.2.2.1), (a 15, aB ta 48 u.2.2.2.2.2.1), (a 41, aS ta 256 gke), (a 36, aK ta 2 ru), (hb2, aS ta capb u.2.2.2.2.2.2)]) 0 0 := by
  refine CT.of_v rfl (by decide) (Nat.le_of_ble_eq_true rfl) ?_
  intro pp ee ss mm below meth kc A Q hx hb hml hown hin hts hK hA hsz hG hret H locs hP hD hS ls hl
  have hl : lv_has ls 5 [(0, .ref h0), (1, .int (nI sd)), (2, .ref hb2), (3, .int (nI at0)), (4, .int (nI 1))] := hl
  refine lv_aload_n (pc := 0) hx hb dX10_one_0 rfl (lv_at hl 0 rfl) ?_
  refine va_get (pc := 1) (D := D) (ci := 8) (v := .ref (a 36)) (C := RX10) (T := TX10) (N := 57) hx hb hts iu10 hown hK hP 0 rfl rfl 36 (by decide) (hts _ tw_1081) (fun _ h9 => h9) rfl dX10_one_1 ?_
  refine lv_iload_n (pc := 4) hx hb dX10_one_4 rfl (lv_at hl 1 rfl) ?_
  refine q_iald (pc := 5) hx hb hK hP 14 0 rfl rfl (k := sd) (v := nI (ru sd)) rfl (by omega) (by omega) rfl dX10_one_5 ?_
  refine lv_iconst (pc := 6) (v := nI 2) hx hb dX10_one_6 (by decide +kernel) ?_
  refine lv_icmp_ne (pc := 7) (tgt := 32) hx hb dX10_one_7 (by decide) (fun c_1 => ?_) (fun c_1 => ?_)
  · skip
    rw [nI_eq (by omega) (by omega)] at c_1
    exfalso; omega
  · skip
    rw [nI_eq (by omega) (by omega)] at c_1
    refine lv_aload_n (pc := 10) hx hb dX10_one_10 rfl (lv_at hl 0 rfl) ?_
    refine lv_aload_n (pc := 11) hx hb dX10_one_11 rfl (lv_at hl 2 rfl) ?_
    refine lv_iload_n (pc := 12) hx hb dX10_one_12 rfl (lv_at hl 3 rfl) ?_
    refine lv_aload_n (pc := 13) hx hb dX10_one_13 rfl (lv_at hl 0 rfl) ?_
    refine va_get (pc := 14) (D := D) (ci := 8) (v := .ref (a 41)) (C := RX10) (T := TX10) (N := 57) hx hb hts iu10 hown hK hP 0 rfl rfl 41 (by decide) (hts _ tw_1086) (fun _ h9 => h9) rfl dX10_one_14 ?_
    refine lv_sipush (pc := 17) (v := nI 128) hx hb dX10_one_17 (by decide +kernel) ?_
    refine lv_iload_n (pc := 20) hx hb dX10_one_20 rfl (lv_at hl 1 rfl) ?_
    refine lv_imul (pc := 21) hx hb dX10_one_21 ?_
    refine q_top (y := nI (128 * sd)) (pk_mul 128 sd) ?_
    refine lv_iconst (pc := 22) (v := nI 0) hx hb dX10_one_22 (by decide +kernel) ?_
    refine lv_iadd (pc := 23) hx hb dX10_one_23 ?_
    refine q_top (y := nI (128 * sd)) ((nI_add (128 * sd) 0).trans (congrArg nI (by omega))) ?_
    refine lv_iload (pc := 24) hx hb dX10_one_24 (lv_at hl 4 rfl) ?_
    refine cs_V (pc := 26) (idx := 97) (n := 5) (wr := [(a 36, aK ta 2 ru)]) (As := [.ref hb2, .int (nI at0), .ref (a 41), .int (nI (128 * sd)), .int (nI 1)]) (rest := []) (ci := 8) hx hb hml hown hts hGok hK hA hG hl.1 hP hD hS (ct_X10_des3_L ll D ta hGok h0 a ar mn tp osz lsz ns ct hb2 at0 capb gb (a 41) (128 * sd) 256 gke bi tu cd sk hf wd true (by first | assumption | omega | rfl | decide) (by first | assumption | omega | rfl | decide) (by first | assumption | omega | rfl | decide) (by first | assumption | omega | rfl | decide) H.size) tw_1290 tw_1287 tw_1289 tw_32 tw_75 hdX10_des3 rfl ⟨rfl, rfl, Nat.le_of_ble_eq_true rfl, Nat.le_of_ble_eq_true rfl, Nat.le_of_ble_eq_true rfl, Nat.le_of_ble_eq_true rfl⟩ rfl rfl (q0 := 0) rfl [0, 1, 2, 3, 4, 5, 6, 7, 8, 9, 10, 11, 12, 15, 13] [14] rfl rfl (by decide) rfl (Nat.le_of_ble_eq_true rfl) dX10_one_26 (fun u H locs hq hP hD hS => ?_)
    obtain ⟨gb1_26, bi1_26, tu1_26, cd1_26, sk1_26, hf1_26, wd1_26⟩ := u
    have hq : (seg gb1_26 at0 8 = tdesL (seg gke (128 * sd) 16) true (seg gb at0 8)) ∧ (∀ jz, (jz < at0 ∨ at0 + 8 ≤ jz) → gb1_26 jz = gb jz) := hq
    obtain ⟨hs_26, hfr_26⟩ := hq
    refine W.eq (g2 := F0 mm 29 ls []) rfl ?_
    have hP : va_P D vwCl [(a 36, aK ta 2 ru), (h0, oM a ar mn tp osz lsz ns ct), (a 0, aK ta 64 tIP), (a 1, aK ta 48 tSPR), (a 2, aK ta 32 tMIX), (a 3, aK ta 56 tCH), (a 4, aK ta 48 tSEC), (a 5, aK ta 512 tSBX), (a 10, aB ta 64 bi1_26), (a 11, aB ta 64 tu1_26), (a 12, aB ta 56 cd1_26), (a 13, aB ta 768 sk1_26), (a 14, aB ta 32 hf1_26), (a 15, aB ta 48 wd1_26), (hb2, aS ta capb gb1_26), (a 41, aS ta 256 gke)] H := hP
    have hD : va_D A [(a 36, aK ta 2 ru), (h0, oM a ar mn tp osz lsz ns ct), (a 0, aK ta 64 tIP), (a 1, aK ta 48 tSPR), (a 2, aK ta 32 tMIX), (a 3, aK ta 56 tCH), (a 4, aK ta 48 tSEC), (a 5, aK ta 512 tSBX), (a 10, aB ta 64 bi1_26), (a 11, aB ta 64 tu1_26), (a 12, aB ta 56 cd1_26), (a 13, aB ta 768 sk1_26), (a 14, aB ta 32 hf1_26), (a 15, aB ta 48 wd1_26), (hb2, aS ta capb gb1_26), (a 41, aS ta 256 gke)] := hD
    refine lv_goto (pc := 29) (tgt := 40) hx hb dX10_one_29 (by decide) ?_
    have hq_2 : (seg gb1_26 at0 8 = tdesL (seg gke (128 * sd) 16) true (seg gb at0 8)) ∧ (∀ j, (j < at0 ∨ at0 + 8 ≤ j) → gb1_26 j = gb j) := by
      exact ⟨hs_26, hfr_26⟩
    exact hret (⟨(bi1_26), (tu1_26), (cd1_26), (sk1_26), (hf1_26), (wd1_26), (gb1_26)⟩ : (Nat → Bool) × (Nat → Bool) × (Nat → Bool) × (Nat → Bool) × (Nat → Bool) × (Nat → Bool) × (Nat → BitVec 8)) _ _ _ _ dX10_one_40 hq_2 (hP.sub [1, 2, 3, 4, 5, 6, 7, 8, 9, 10, 11, 12, 13, 15, 0, 14] rfl) (hD.sub [1, 2, 3, 4, 5, 6, 7, 8, 9, 10, 11, 12, 13, 15, 0, 14] (by decide) rfl) hS
set_option maxHeartbeats 4000000 in
set_option maxRecDepth 100000 in
theorem ct_X10_one_31 (ll : Launch) (D : va_G) (ta : Nat → ClassId) {G : (Nat → Prop) → State → Heap → Prop} (hGok : GOK G) (h0 : Nat) (a : Nat → Nat) (mn : Nat) (tp : Nat) (osz : Nat) (lsz : Nat) (ns : Nat) (ct : Nat) (rk : Nat → BitVec 8) (ce : Nat → BitVec 8) (ru : Nat → Nat) (sd : Nat) (hb2 : Nat) (at0 : Nat) (capb : Nat) (gb : Nat → BitVec 8) (n : Nat) (K : Bytes) (hsd : sd ≤ 1) (hru : ru sd = 3) (hat : at0 + 16 ≤ capb) (hcb : capb < 2147483648) (hn : n = 16 ∨ n = 24 ∨ n = 32) (hKn : K.length = n) (hrk : rkOK rk K) (sz : Nat) : CT ll yX10_one cX10_one 5 none ({ frames := 4, cells := 0, slots := 0, locals := 98 } : Room) D ta G [.ref h0, .int (nI sd), .ref hb2, .int (nI at0), .int (nI 1)] [(h0, oM a (n / 4 + 6) mn tp osz lsz ns ct), (a 8, aZ ta 256 BOX), (a 9, aZ ta 256 UBOX), (a 16, aS ta 240 rk), (a 18, aS ta 16 ce), (a 36, aK ta 2 ru), (hb2, aS ta capb gb)] sz (S := (Nat → BitVec 8) × (Nat → BitVec 8)) (fun _ => none) (fun u => (seg u.2 at0 16 = aesD K (seg gb at0 16)) ∧ (∀ j, (j < at0 ∨ at0 + 16 ≤ j) → u.2 j = gb j)) (fun u => [(h0, oM a (n / 4 + 6) mn tp osz lsz ns ct), (a 8, aZ ta 256 BOX), (a 9, aZ ta 256 UBOX), (a 16, aS ta 240 rk), (a 18, aS ta 16 u.1), (a 36, aK ta 2 ru), (hb2, aS ta capb u.2)]) 0 0 := by
  refine CT.of_v rfl (by decide) (Nat.le_of_ble_eq_true rfl) ?_
  intro pp ee ss mm below meth kc A Q hx hb hml hown hin hts hK hA hsz hG hret H locs hP hD hS ls hl
  have hl : lv_has ls 5 [(0, .ref h0), (1, .int (nI sd)), (2, .ref hb2), (3, .int (nI at0)), (4, .int (nI 1))] := hl
  refine lv_aload_n (pc := 0) hx hb dX10_one_0 rfl (lv_at hl 0 rfl) ?_
  refine va_get (pc := 1) (D := D) (ci := 8) (v := .ref (a 36)) (C := RX10) (T := TX10) (N := 57) hx hb hts iu10 hown hK hP 0 rfl rfl 36 (by decide) (hts _ tw_1081) (fun _ h9 => h9) rfl dX10_one_1 ?_
  refine lv_iload_n (pc := 4) hx hb dX10_one_4 rfl (lv_at hl 1 rfl) ?_
  refine q_iald (pc := 5) hx hb hK hP 5 0 rfl rfl (k := sd) (v := nI (ru sd)) rfl (by omega) (by omega) rfl dX10_one_5 ?_
  refine lv_iconst (pc := 6) (v := nI 2) hx hb dX10_one_6 (by decide +kernel) ?_
  refine lv_icmp_ne (pc := 7) (tgt := 32) hx hb dX10_one_7 (by decide) (fun c_1 => ?_) (fun c_1 => ?_)
  · skip
    rw [nI_eq (by omega) (by omega)] at c_1
    refine lv_aload_n (pc := 32) hx hb dX10_one_32 rfl (lv_at hl 0 rfl) ?_
    refine lv_aload_n (pc := 33) hx hb dX10_one_33 rfl (lv_at hl 2 rfl) ?_
    refine lv_iload_n (pc := 34) hx hb dX10_one_34 rfl (lv_at hl 3 rfl) ?_
    refine lv_iload (pc := 35) hx hb dX10_one_35 (lv_at hl 4 rfl) ?_
    refine cs_V (pc := 37) (idx := 106) (n := 3) (wr := [(a 36, aK ta 2 ru)]) (As := [.ref hb2, .int (nI at0), .int (nI 1)]) (rest := []) (ci := 8) hx hb hml hown hts hGok hK hA hG hl.1 hP hD hS (ct_X10_aes_bL ll D ta hGok h0 a mn tp osz lsz ns ct hb2 at0 capb gb ce rk n K (by first | assumption | omega | rfl | decide) (by first | assumption | omega | rfl | decide) (by first | assumption | omega | rfl | decide) (by first | assumption | omega | rfl | decide) (by first | assumption | omega | rfl | decide) H.size) tw_1342 tw_1339 tw_1341 tw_45 tw_75 hdX10_aes rfl ⟨rfl, rfl, Nat.le_of_ble_eq_true rfl, Nat.le_of_ble_eq_true rfl, Nat.le_of_ble_eq_true rfl, Nat.le_of_ble_eq_true rfl⟩ rfl rfl (q0 := 0) rfl [0, 1, 2, 3, 4, 6] [5] rfl rfl (by decide) rfl (Nat.le_of_ble_eq_true rfl) dX10_one_37 (fun u H locs hq hP hD hS => ?_)
    obtain ⟨gb1_37, ce1_37⟩ := u
    have hq : (seg gb1_37 at0 16 = aesD K (seg gb at0 16)) ∧ (∀ jz, (jz < at0 ∨ at0 + 16 ≤ jz) → gb1_37 jz = gb jz) := hq
    obtain ⟨hs_37, hfr_37⟩ := hq
    refine W.eq (g2 := F0 mm 40 ls []) rfl ?_
    have hP : va_P D vwCl [(a 36, aK ta 2 ru), (h0, oM a (n / 4 + 6) mn tp osz lsz ns ct), (a 8, aZ ta 256 BOX), (a 9, aZ ta 256 UBOX), (a 16, aS ta 240 rk), (a 18, aS ta 16 ce1_37), (hb2, aS ta capb gb1_37)] H := hP
    have hD : va_D A [(a 36, aK ta 2 ru), (h0, oM a (n / 4 + 6) mn tp osz lsz ns ct), (a 8, aZ ta 256 BOX), (a 9, aZ ta 256 UBOX), (a 16, aS ta 240 rk), (a 18, aS ta 16 ce1_37), (hb2, aS ta capb gb1_37)] := hD
    have hq_2 : (seg gb1_37 at0 16 = aesD K (seg gb at0 16)) ∧ (∀ j, (j < at0 ∨ at0 + 16 ≤ j) → gb1_37 j = gb j) := by
      exact ⟨hs_37, hfr_37⟩
    exact hret (⟨(ce1_37), (gb1_37)⟩ : (Nat → BitVec 8) × (Nat → BitVec 8)) _ _ _ _ dX10_one_40 hq_2 (hP.sub [1, 2, 3, 4, 5, 0, 6] rfl) (hD.sub [1, 2, 3, 4, 5, 0, 6] (by decide) rfl) hS
  · skip
    rw [nI_eq (by omega) (by omega)] at c_1
    exfalso; omega
theorem hdX10_keepCommand : yX10_keepCommand.cls ≠ "java/lang/invoke/MethodHandle" ∧ yX10_keepCommand.cls ≠ "java/lang/invoke/VarHandle" ∧ (parseMethodDescriptor yX10_keepCommand.desc).map (fun d => d.parameters.length) = some 3 := ⟨by decide +kernel, by decide +kernel, by decide +kernel⟩
theorem dX10_keepCommand_0 : decode cX10_keepCommand 0 = .ok (.aload_n 0, 1) := by decide +kernel
theorem dX10_keepCommand_1 : decode cX10_keepCommand 1 = .ok (.getfield 267, 3) := by decide +kernel
theorem dX10_keepCommand_4 : decode cX10_keepCommand 4 = .ok (.iload_n 1, 1) := by decide +kernel
theorem dX10_keepCommand_5 : decode cX10_keepCommand 5 = .ok (.iconst 1, 1) := by decide +kernel
theorem dX10_keepCommand_6 : decode cX10_keepCommand 6 = .ok (.bastore, 1) := by decide +kernel
theorem dX10_keepCommand_7 : decode cX10_keepCommand 7 = .ok (.aload_n 0, 1) := by decide +kernel
theorem dX10_keepCommand_8 : decode cX10_keepCommand 8 = .ok (.getfield 274, 3) := by decide +kernel
theorem dX10_keepCommand_11 : decode cX10_keepCommand 11 = .ok (.iload_n 1, 1) := by decide +kernel
theorem dX10_keepCommand_12 : decode cX10_keepCommand 12 = .ok (.iload_n 3, 1) := by decide +kernel
theorem dX10_keepCommand_13 : decode cX10_keepCommand 13 = .ok (.iastore, 1) := by decide +kernel
theorem dX10_keepCommand_14 : decode cX10_keepCommand 14 = .ok (.iconst 0, 1) := by decide +kernel
theorem dX10_keepCommand_15 : decode cX10_keepCommand 15 = .ok (.istore 4, 2) := by decide +kernel
theorem dX10_keepCommand_17 : decode cX10_keepCommand 17 = .ok (.iload 4, 2) := by decide +kernel
theorem dX10_keepCommand_19 : decode cX10_keepCommand 19 = .ok (.iload_n 3, 1) := by decide +kernel
theorem dX10_keepCommand_20 : decode cX10_keepCommand 20 = .ok (.if_icmp .ge 26, 3) := by decide +kernel
theorem dX10_keepCommand_23 : decode cX10_keepCommand 23 = .ok (.aload_n 0, 1) := by decide +kernel
theorem dX10_keepCommand_24 : decode cX10_keepCommand 24 = .ok (.getfield 271, 3) := by decide +kernel
theorem dX10_keepCommand_27 : decode cX10_keepCommand 27 = .ok (.sipush 204, 3) := by decide +kernel
theorem dX10_keepCommand_30 : decode cX10_keepCommand 30 = .ok (.iload_n 1, 1) := by decide +kernel
theorem dX10_keepCommand_31 : decode cX10_keepCommand 31 = .ok (.imul, 1) := by decide +kernel
theorem dX10_keepCommand_32 : decode cX10_keepCommand 32 = .ok (.iload 4, 2) := by decide +kernel
theorem dX10_keepCommand_34 : decode cX10_keepCommand 34 = .ok (.iadd, 1) := by decide +kernel
theorem dX10_keepCommand_35 : decode cX10_keepCommand 35 = .ok (.aload_n 2, 1) := by decide +kernel
theorem dX10_keepCommand_36 : decode cX10_keepCommand 36 = .ok (.iload 4, 2) := by decide +kernel
theorem dX10_keepCommand_38 : decode cX10_keepCommand 38 = .ok (.baload, 1) := by decide +kernel
theorem dX10_keepCommand_39 : decode cX10_keepCommand 39 = .ok (.bastore, 1) := by decide +kernel
theorem dX10_keepCommand_40 : decode cX10_keepCommand 40 = .ok (.iinc 4 1, 3) := by decide +kernel
theorem dX10_keepCommand_43 : decode cX10_keepCommand 43 = .ok (.goto (-26), 3) := by decide +kernel
theorem dX10_keepCommand_46 : decode cX10_keepCommand 46 = .ok (.return_, 1) := by decide +kernel
set_option maxHeartbeats 4000000 in
set_option maxRecDepth 100000 in
theorem ct_X10_keepCommand (ll : Launch) (D : va_G) (ta : Nat → ClassId) {G : (Nat → Prop) → State → Heap → Prop} (hGok : GOK G) (h0 : Nat) (a : Nat → Nat) (ar : Nat) (mn : Nat) (tp : Nat) (osz : Nat) (lsz : Nat) (ns : Nat) (ct : Nat) (ha : Nat → Bool) (cs : Nat → Nat) (gcm : Nat → BitVec 8) (sd : Nat) (hb2 : Nat) (capb : Nat) (gb : Nat → BitVec 8) (n8 : Nat) (hsd : sd ≤ 1) (hn8 : n8 ≤ 204 ∧ n8 ≤ capb ∧ capb < 2147483648) (sz : Nat) : CT ll yX10_keepCommand cX10_keepCommand 5 none ({ frames := 0, cells := 0, slots := 0, locals := 0 } : Room) D ta G [.ref h0, .int (nI sd), .ref hb2, .int (nI n8)] [(h0, oM a ar mn tp osz lsz ns ct), (a 48, aT ta 2 ha), (a 50, aK ta 2 cs), (a 49, aS ta 408 gcm), (hb2, aS ta capb gb)] sz (S := (Nat → Bool) × (Nat → Nat) × (Nat → BitVec 8)) (fun _ => none) (fun u => (u.1 = qU ha sd true) ∧ (u.2.1 = qU cs sd n8) ∧ (seg u.2.2 (204 * sd) n8 = qL gb n8) ∧ (∀ j, (j < 204 * sd ∨ 204 * sd + 204 ≤ j) → u.2.2 j = gcm j)) (fun u => [(h0, oM a ar mn tp osz lsz ns ct), (a 48, aT ta 2 u.1), (a 50, aK ta 2 u.2.1), (a 49, aS ta 408 u.2.2), (hb2, aS ta capb gb)]) 0 0 := by
  refine CT.of_v rfl (by decide) (Nat.le_of_ble_eq_true rfl) ?_
  intro pp ee ss mm below meth kc A Q hx hb hml hown hin hts hK hA hsz hG hret H locs hP hD hS ls hl
  have hl : lv_has ls 5 [(0, .ref h0), (1, .int (nI sd)), (2, .ref hb2), (3, .int (nI n8))] := hl
  refine lv_aload_n (pc := 0) hx hb dX10_keepCommand_0 rfl (lv_at hl 0 rfl) ?_
  refine va_get (pc := 1) (D := D) (ci := 8) (v := .ref (a 48)) (C := RX10) (T := TX10) (N := 57) hx hb hts iu10 hown hK hP 0 rfl rfl 48 (by decide) (hts _ tw_1093) (fun _ h9 => h9) rfl dX10_keepCommand_1 ?_
  refine lv_iload_n (pc := 4) hx hb dX10_keepCommand_4 rfl (lv_at hl 1 rfl) ?_
  refine lv_iconst (pc := 5) (v := nI 1) hx hb dX10_keepCommand_5 (by decide +kernel) ?_
  refine q_bastT (pc := 6) hx hb hK hP hD hS 1 3 rfl rfl (k := sd) rfl (by omega) (by omega) (b := true) rfl dX10_keepCommand_6 (fun H locs hP hD hS => ?_)
  have hP : va_P D vwCl [(h0, oM a ar mn tp osz lsz ns ct), (a 48, aT ta 2 (qU ha sd true)), (a 50, aK ta 2 cs), (a 49, aS ta 408 gcm), (hb2, aS ta capb gb)] H := hP
  have hD : va_D A [(h0, oM a ar mn tp osz lsz ns ct), (a 48, aT ta 2 (qU ha sd true)), (a 50, aK ta 2 cs), (a 49, aS ta 408 gcm), (hb2, aS ta capb gb)] := hD
  refine lv_aload_n (pc := 7) hx hb dX10_keepCommand_7 rfl (lv_at hl 0 rfl) ?_
  refine va_get (pc := 8) (D := D) (ci := 8) (v := .ref (a 50)) (C := RX10) (T := TX10) (N := 57) hx hb hts iu10 hown hK hP 0 rfl rfl 50 (by decide) (hts _ tw_1095) (fun _ h9 => h9) rfl dX10_keepCommand_8 ?_
  refine lv_iload_n (pc := 11) hx hb dX10_keepCommand_11 rfl (lv_at hl 1 rfl) ?_
  refine lv_iload_n (pc := 12) hx hb dX10_keepCommand_12 rfl (lv_at hl 3 rfl) ?_
  refine q_iastK (pc := 13) hx hb hK hP hD hS 2 0 rfl rfl (k := sd) rfl (by omega) (by omega) (b := n8) rfl dX10_keepCommand_13 (fun H locs hP hD hS => ?_)
  have hP : va_P D vwCl [(h0, oM a ar mn tp osz lsz ns ct), (a 48, aT ta 2 (qU ha sd true)), (a 50, aK ta 2 (qU cs sd n8)), (a 49, aS ta 408 gcm), (hb2, aS ta capb gb)] H := hP
  have hD : va_D A [(h0, oM a ar mn tp osz lsz ns ct), (a 48, aT ta 2 (qU ha sd true)), (a 50, aK ta 2 (qU cs sd n8)), (a 49, aS ta 408 gcm), (hb2, aS ta capb gb)] := hD
  refine lv_iconst (pc := 14) (v := nI 0) hx hb dX10_keepCommand_14 (by decide +kernel) ?_
  refine lv_istore (pc := 15) (lv' := [(4, .int (nI 0)), (0, .ref h0), (1, .int (nI sd)), (2, .ref hb2), (3, .int (nI n8))]) hx hb dX10_keepCommand_15 hl (by decide) rfl (fun ls hl => ?_)
  have LP17 : ∀ (nn17 : Nat) (k : Nat) (g' : Nat → BitVec 8), (k ≤ n8) → (qSeg g' gcm (204 * sd) k gb) → (n8 - k < nn17) → ∀ (H : Heap) (locs : List Loc), va_P D vwCl [(h0, oM a ar mn tp osz lsz ns ct), (a 48, aT ta 2 (qU ha sd true)), (a 50, aK ta 2 (qU cs sd n8)), (a 49, aS ta 408 g'), (hb2, aS ta capb gb)] H → va_D A [(h0, oM a ar mn tp osz lsz ns ct), (a 48, aT ta 2 (qU ha sd true)), (a 50, aK ta 2 (qU cs sd n8)), (a 49, aS ta 408 g'), (hb2, aS ta capb gb)] → va_S A ss.heap H locs → ∀ ls : Array Slot, lv_has ls 5 [(4, .int (nI k)), (0, .ref h0), (1, .int (nI sd)), (2, .ref hb2), (3, .int (nI n8))] → W pp ll ee ({ frames := 0, cells := 0, slots := 0, locals := 0 } : Room) ss mm (([.ref h0, .int (nI sd), .ref hb2, .int (nI n8)] : List Value).toArray) below meth kc H locs 0 0 Q (F0 mm 17 ls []) := by
    intro nn17
    induction nn17 with
    | zero => intro k g' hkk hs hmu; exact absurd hmu (Nat.not_lt_zero _)
    | succ nn17 ih17 =>
      intro k g' hkk hs hmu17 H locs hP hD hS ls hl
      refine lv_iload (pc := 17) hx hb dX10_keepCommand_17 (lv_at hl 0 rfl) ?_
      refine lv_iload_n (pc := 19) hx hb dX10_keepCommand_19 rfl (lv_at hl 4 rfl) ?_
      refine lv_icmp_ge (pc := 20) (tgt := 46) hx hb dX10_keepCommand_20 (by decide) (fun c_1 => ?_) (fun c_1 => ?_)
      · skip
        rw [nI_leI (by omega) (by omega)] at c_1
        have hq_2 : ((qU ha sd true) = qU ha sd true) ∧ ((qU cs sd n8) = qU cs sd n8) ∧ (seg g' (204 * sd) n8 = qL gb n8) ∧ (∀ j, (j < 204 * sd ∨ 204 * sd + 204 ≤ j) → g' j = gcm j) := by
          exact ⟨rfl, rfl, seg_copy0 hs (by omega), fun j hj => hs.2 j (by omega)⟩
        exact hret (⟨(qU ha sd true), (qU cs sd n8), (g')⟩ : (Nat → Bool) × (Nat → Nat) × (Nat → BitVec 8)) _ _ _ _ dX10_keepCommand_46 hq_2 (hP.sub [0, 1, 2, 3, 4] rfl) (hD.sub [0, 1, 2, 3, 4] (by decide) rfl) hS
      · skip
        rw [nI_leI (by omega) (by omega)] at c_1
        refine lv_aload_n (pc := 23) hx hb dX10_keepCommand_23 rfl (lv_at hl 1 rfl) ?_
        refine va_get (pc := 24) (D := D) (ci := 8) (v := .ref (a 49)) (C := RX10) (T := TX10) (N := 57) hx hb hts iu10 hown hK hP 0 rfl rfl 49 (by decide) (hts _ tw_1094) (fun _ h9 => h9) rfl dX10_keepCommand_24 ?_
        refine lv_sipush (pc := 27) (v := nI 204) hx hb dX10_keepCommand_27 (by decide +kernel) ?_
        refine lv_iload_n (pc := 30) hx hb dX10_keepCommand_30 rfl (lv_at hl 2 rfl) ?_
        refine lv_imul (pc := 31) hx hb dX10_keepCommand_31 ?_
        refine q_top (y := nI (204 * sd)) (pk_mul 204 sd) ?_
        refine lv_iload (pc := 32) hx hb dX10_keepCommand_32 (lv_at hl 0 rfl) ?_
        refine lv_iadd (pc := 34) hx hb dX10_keepCommand_34 ?_
        refine q_top (y := nI (204 * sd + k)) (nI_add (204 * sd) k) ?_
        refine lv_aload_n (pc := 35) hx hb dX10_keepCommand_35 rfl (lv_at hl 3 rfl) ?_
        refine lv_iload (pc := 36) hx hb dX10_keepCommand_36 (lv_at hl 0 rfl) ?_
        refine q_bald (pc := 38) hx hb hK hP 4 2 rfl rfl (k := k) (v := qs (gb k)) rfl (by omega) (by omega) rfl dX10_keepCommand_38 ?_
        refine q_bastS (pc := 39) hx hb hK hP hD hS 3 2 rfl rfl (k := 204 * sd + k) rfl (by omega) (by omega) (b := gb k) (qlo_qs _) dX10_keepCommand_39 (fun H locs hP hD hS => ?_)
        have hP : va_P D vwCl [(h0, oM a ar mn tp osz lsz ns ct), (a 48, aT ta 2 (qU ha sd true)), (a 50, aK ta 2 (qU cs sd n8)), (a 49, aS ta 408 (qU g' (204 * sd + k) (gb k))), (hb2, aS ta capb gb)] H := hP
        have hD : va_D A [(h0, oM a ar mn tp osz lsz ns ct), (a 48, aT ta 2 (qU ha sd true)), (a 50, aK ta 2 (qU cs sd n8)), (a 49, aS ta 408 (qU g' (204 * sd + k) (gb k))), (hb2, aS ta capb gb)] := hD
        refine lv_iinc (pc := 40) (v := nI (k + 1)) (lv' := [(4, .int (nI (k + 1))), (0, .ref h0), (1, .int (nI sd)), (2, .ref hb2), (3, .int (nI n8))]) hx hb dX10_keepCommand_40 hl (k := 0) rfl (by first | exact nI_add k 1 | rfl) (by decide) rfl (fun ls hl => ?_)
        refine lv_goto (pc := 43) (tgt := 17) hx hb dX10_keepCommand_43 (by decide) ?_
        exact ih17 (k + 1) (qU g' (204 * sd + k) (gb k)) (by omega) (qSeg_s hs (by omega) (by first | rfl | (simp; done))) (by omega) _ _ (hP.sub [0, 1, 2, 3, 4] rfl) (hD.sub [0, 1, 2, 3, 4] (by decide) rfl) hS ls (lv_sub hl [0, 1, 2, 3, 4] rfl)
  exact LP17 _ 0 gcm (by omega) (qSeg_0) (Nat.lt_succ_self _) _ _ (hP.sub [0, 1, 2, 3, 4] rfl) (hD.sub [0, 1, 2, 3, 4] (by decide) rfl) hS ls (lv_sub hl [0, 1, 2, 3, 4] rfl)
