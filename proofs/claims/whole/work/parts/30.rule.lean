theorem hdX5_width : yX5_width.cls ≠ "java/lang/invoke/MethodHandle" ∧ yX5_width.cls ≠ "java/lang/invoke/VarHandle" ∧ (parseMethodDescriptor yX5_width.desc).map (fun d => d.parameters.length) = some 0 := ⟨by decide +kernel, by decide +kernel, by decide +kernel⟩
theorem dX5_width_0 : decode cX5_width 0 = .ok (.bipush 8, 2) := by decide +kernel
theorem dX5_width_2 : decode cX5_width 2 = .ok (.ireturn, 1) := by decide +kernel
set_option maxHeartbeats 4000000 in
set_option maxRecDepth 100000 in
theorem ct_X5_width (ll : Launch) (D : va_G) (ta : Nat → ClassId) {G : (Nat → Prop) → State → Heap → Prop} (hGok : GOK G) (o : Nat → Nat)  (sz : Nat) : CT ll yX5_width cX5_width 1 (some .int) ({ frames := 0, cells := 0, slots := 0, locals := 0 } : Room) D ta G [.ref (o 0)] [(o 0, oO o)] sz (S := Unit) (fun u => some (.int (nI 8))) (fun u => True) (fun u => [(o 0, oO o)]) 0 0 := by
  refine CT.of_i (r := fun u => nI 8) rfl (by decide) (Nat.le_of_ble_eq_true rfl) ?_
  intro pp ee ss mm below meth kc A Q hx hb hml hown hin hts hK hA hsz hG hret H locs hP hD hS ls hl
  have hl : lv_has ls 1 [(0, .ref (o 0))] := hl
  refine lv_bipush (pc := 0) (v := nI 8) hx hb dX5_width_0 (by decide +kernel) ?_
  have hq_1 : True := trivial
  exact hret () _ _ _ _ dX5_width_2 hq_1 (hP.sub [0] rfl) (hD.sub [0] (by decide) rfl) hS
theorem hdX5_hidesAnswers : yX5_hidesAnswers.cls ≠ "java/lang/invoke/MethodHandle" ∧ yX5_hidesAnswers.cls ≠ "java/lang/invoke/VarHandle" ∧ (parseMethodDescriptor yX5_hidesAnswers.desc).map (fun d => d.parameters.length) = some 0 := ⟨by decide +kernel, by decide +kernel, by decide +kernel⟩
theorem dX5_hidesAnswers_0 : decode cX5_hidesAnswers 0 = .ok (.iconst 0, 1) := by decide +kernel
theorem dX5_hidesAnswers_1 : decode cX5_hidesAnswers 1 = .ok (.ireturn, 1) := by decide +kernel
set_option maxHeartbeats 4000000 in
set_option maxRecDepth 100000 in
theorem ct_X5_hidesAnswers (ll : Launch) (D : va_G) (ta : Nat → ClassId) {G : (Nat → Prop) → State → Heap → Prop} (hGok : GOK G) (o : Nat → Nat)  (sz : Nat) : CT ll yX5_hidesAnswers cX5_hidesAnswers 1 (some .boolean) ({ frames := 0, cells := 0, slots := 0, locals := 0 } : Room) D ta G [.ref (o 0)] [(o 0, oO o)] sz (S := Unit) (fun u => some (.int (qb false))) (fun u => True) (fun u => [(o 0, oO o)]) 0 0 := by
  refine CT.of_z (r := fun u => false) rfl (by decide) (Nat.le_of_ble_eq_true rfl) ?_
  intro pp ee ss mm below meth kc A Q hx hb hml hown hin hts hK hA hsz hG hret H locs hP hD hS ls hl
  have hl : lv_has ls 1 [(0, .ref (o 0))] := hl
  refine lv_iconst (pc := 0) (v := nI 0) hx hb dX5_hidesAnswers_0 (by decide +kernel) ?_
  refine q_top (y := qb false) (by first | rfl | decide +kernel | (simp; done)) ?_
  have hq_1 : True := trivial
  exact hret () _ _ _ _ dX5_hidesAnswers_1 hq_1 (hP.sub [0] rfl) (hD.sub [0] (by decide) rfl) hS
theorem hdX4_width : yX4_width.cls ≠ "java/lang/invoke/MethodHandle" ∧ yX4_width.cls ≠ "java/lang/invoke/VarHandle" ∧ (parseMethodDescriptor yX4_width.desc).map (fun d => d.parameters.length) = some 0 := ⟨by decide +kernel, by decide +kernel, by decide +kernel⟩
theorem dX4_width_0 : decode cX4_width 0 = .ok (.bipush 16, 2) := by decide +kernel
theorem dX4_width_2 : decode cX4_width 2 = .ok (.ireturn, 1) := by decide +kernel
set_option maxHeartbeats 4000000 in
set_option maxRecDepth 100000 in
theorem ct_X4_width (ll : Launch) (D : va_G) (ta : Nat → ClassId) {G : (Nat → Prop) → State → Heap → Prop} (hGok : GOK G) (v : Nat → Nat)  (sz : Nat) : CT ll yX4_width cX4_width 1 (some .int) ({ frames := 0, cells := 0, slots := 0, locals := 0 } : Room) D ta G [.ref (v 0)] [(v 0, oV v)] sz (S := Unit) (fun u => some (.int (nI 16))) (fun u => True) (fun u => [(v 0, oV v)]) 0 0 := by
  refine CT.of_i (r := fun u => nI 16) rfl (by decide) (Nat.le_of_ble_eq_true rfl) ?_
  intro pp ee ss mm below meth kc A Q hx hb hml hown hin hts hK hA hsz hG hret H locs hP hD hS ls hl
  have hl : lv_has ls 1 [(0, .ref (v 0))] := hl
  refine lv_bipush (pc := 0) (v := nI 16) hx hb dX4_width_0 (by decide +kernel) ?_
  have hq_1 : True := trivial
  exact hret () _ _ _ _ dX4_width_2 hq_1 (hP.sub [0] rfl) (hD.sub [0] (by decide) rfl) hS
theorem hdX4_hidesAnswers : yX4_hidesAnswers.cls ≠ "java/lang/invoke/MethodHandle" ∧ yX4_hidesAnswers.cls ≠ "java/lang/invoke/VarHandle" ∧ (parseMethodDescriptor yX4_hidesAnswers.desc).map (fun d => d.parameters.length) = some 0 := ⟨by decide +kernel, by decide +kernel, by decide +kernel⟩
theorem dX4_hidesAnswers_0 : decode cX4_hidesAnswers 0 = .ok (.iconst 1, 1) := by decide +kernel
theorem dX4_hidesAnswers_1 : decode cX4_hidesAnswers 1 = .ok (.ireturn, 1) := by decide +kernel
set_option maxHeartbeats 4000000 in
set_option maxRecDepth 100000 in
theorem ct_X4_hidesAnswers (ll : Launch) (D : va_G) (ta : Nat → ClassId) {G : (Nat → Prop) → State → Heap → Prop} (hGok : GOK G) (v : Nat → Nat)  (sz : Nat) : CT ll yX4_hidesAnswers cX4_hidesAnswers 1 (some .boolean) ({ frames := 0, cells := 0, slots := 0, locals := 0 } : Room) D ta G [.ref (v 0)] [(v 0, oV v)] sz (S := Unit) (fun u => some (.int (qb true))) (fun u => True) (fun u => [(v 0, oV v)]) 0 0 := by
  refine CT.of_z (r := fun u => true) rfl (by decide) (Nat.le_of_ble_eq_true rfl) ?_
  intro pp ee ss mm below meth kc A Q hx hb hml hown hin hts hK hA hsz hG hret H locs hP hD hS ls hl
  have hl : lv_has ls 1 [(0, .ref (v 0))] := hl
  refine lv_iconst (pc := 0) (v := nI 1) hx hb dX4_hidesAnswers_0 (by decide +kernel) ?_
  refine q_top (y := qb true) (by first | rfl | decide +kernel | (simp; done)) ?_
  have hq_1 : True := trivial
  exact hret () _ _ _ _ dX4_hidesAnswers_1 hq_1 (hP.sub [0] rfl) (hD.sub [0] (by decide) rfl) hS
theorem hdX7_isBlocks : yX7_isBlocks.cls ≠ "java/lang/invoke/MethodHandle" ∧ yX7_isBlocks.cls ≠ "java/lang/invoke/VarHandle" ∧ (parseMethodDescriptor yX7_isBlocks.desc).map (fun d => d.parameters.length) = some 1 := ⟨by decide +kernel, by decide +kernel, by decide +kernel⟩
theorem dX7_isBlocks_0 : decode cX7_isBlocks 0 = .ok (.iload_n 1, 1) := by decide +kernel
theorem dX7_isBlocks_1 : decode cX7_isBlocks 1 = .ok (.aload_n 0, 1) := by decide +kernel
theorem dX7_isBlocks_2 : decode cX7_isBlocks 2 = .ok (.invokevirtual 39, 3) := by decide +kernel
theorem dX7_isBlocks_5 : decode cX7_isBlocks 5 = .ok (.iconst 1, 1) := by decide +kernel
theorem dX7_isBlocks_6 : decode cX7_isBlocks 6 = .ok (.isub, 1) := by decide +kernel
theorem dX7_isBlocks_7 : decode cX7_isBlocks 7 = .ok (.iand, 1) := by decide +kernel
theorem dX7_isBlocks_8 : decode cX7_isBlocks 8 = .ok (.ifCond .ne 7, 3) := by decide +kernel
theorem dX7_isBlocks_11 : decode cX7_isBlocks 11 = .ok (.iconst 1, 1) := by decide +kernel
theorem dX7_isBlocks_12 : decode cX7_isBlocks 12 = .ok (.goto 4, 3) := by decide +kernel
theorem dX7_isBlocks_15 : decode cX7_isBlocks 15 = .ok (.iconst 0, 1) := by decide +kernel
theorem dX7_isBlocks_16 : decode cX7_isBlocks 16 = .ok (.ireturn, 1) := by decide +kernel
set_option maxHeartbeats 4000000 in
set_option maxRecDepth 100000 in
theorem ct_X7_isBlocks_O (ll : Launch) (D : va_G) (ta : Nat → ClassId) (gs : Nat → Nat) (o : Nat → Nat) (n : Nat) (hn : n < 2147483648) (sz : Nat) : CT ll yX7_isBlocks cX7_isBlocks 2 (some .boolean) ({ frames := 1, cells := 0, slots := 0, locals := 20 } : Room) D ta ((GC gs)) [.ref (o 0), .int (nI n)] [(o 0, oO o)] sz (S := Bool) (fun u => some (.int (qb u))) (fun u => (u = decide (n % 8 = 0))) (fun u => [(o 0, oO o)]) 0 0 := by
  refine CT.of_z (r := fun u => u) rfl (by decide) (Nat.le_of_ble_eq_true rfl) ?_
  have hGok := GC_ok gs
  intro pp ee ss mm below meth kc A Q hx hb hml hown hin hts hK hA hsz hG hret H locs hP hD hS ls hl
  have hl : lv_has ls 2 [(0, .ref (o 0)), (1, .int (nI n))] := hl
  refine lv_iload_n (pc := 0) hx hb dX7_isBlocks_0 rfl (lv_at hl 1 rfl) ?_
  refine lv_aload_n (pc := 1) hx hb dX7_isBlocks_1 rfl (lv_at hl 0 rfl) ?_
  refine cs_U (pc := 2) (idx := 39) (n := 0) (wr := []) (As := []) (rest := [.int (nI n)]) (ci := 4) (x := ⟨"LineGuard$Rule", "width", "()I"⟩) (owner := "LineGuard$Rule") hx hb hml hown hts hGok hK hA hG hl.1 hP hD hS (ct_X5_width ll D ta hGok o  H.size) tw_606 tw_598 tw_605 tw_604 tw_70 tw_600 (va_Decl.abs (GC_w599 hG)) ⟨by decide +kernel, by decide +kernel, by decide +kernel⟩ rfl ⟨rfl, rfl, Nat.le_of_ble_eq_true rfl, Nat.le_of_ble_eq_true rfl, Nat.le_of_ble_eq_true rfl, Nat.le_of_ble_eq_true rfl⟩ rfl (q0 := 0) rfl [0] [] rfl rfl (by decide) rfl (Nat.le_of_ble_eq_true rfl) dX7_isBlocks_2 (fun u H locs hq hP hD hS => ?_)
  refine W.eq (g2 := F0 mm 5 ls [.int (nI 8), .int (nI n)]) rfl ?_
  have hP : va_P D vwCl [(o 0, oO o)] H := hP
  have hD : va_D A [(o 0, oO o)] := hD
  refine lv_iconst (pc := 5) (v := nI 1) hx hb dX7_isBlocks_5 (by decide +kernel) ?_
  refine lv_isub (pc := 6) hx hb dX7_isBlocks_6 ?_
  refine q_top (y := nI 7) (by decide +kernel) ?_
  refine lv_iand (pc := 7) hx hb dX7_isBlocks_7 ?_
  refine q_top (y := nI (n % 8)) (q_andN (k := 3) (p := 8) (by decide) (by omega)) ?_
  refine lv_if_ne (pc := 8) (tgt := 15) hx hb dX7_isBlocks_8 (by decide) (fun c_1 => ?_) (fun c_1 => ?_)
  · skip
    rw [q_eq0 (by omega)] at c_1
    refine lv_iconst (pc := 15) (v := nI 0) hx hb dX7_isBlocks_15 (by decide +kernel) ?_
    refine q_top (y := qb false) (by first | rfl | decide +kernel | (simp; done)) ?_
    have hq_2 : (false = decide (n % 8 = 0)) := by
      symm; simp; omega
    exact hret (false) _ _ _ _ dX7_isBlocks_16 hq_2 (hP.sub [0] rfl) (hD.sub [0] (by decide) rfl) hS
  · skip
    rw [q_eq0 (by omega)] at c_1
    refine lv_iconst (pc := 11) (v := nI 1) hx hb dX7_isBlocks_11 (by decide +kernel) ?_
    refine lv_goto (pc := 12) (tgt := 16) hx hb dX7_isBlocks_12 (by decide) ?_
    refine q_top (y := qb true) (by first | rfl | decide +kernel | (simp; done)) ?_
    have hq_3 : (true = decide (n % 8 = 0)) := by
      symm; simp; omega
    exact hret (true) _ _ _ _ dX7_isBlocks_16 hq_3 (hP.sub [0] rfl) (hD.sub [0] (by decide) rfl) hS
theorem hdX7_hasLevel : yX7_hasLevel.cls ≠ "java/lang/invoke/MethodHandle" ∧ yX7_hasLevel.cls ≠ "java/lang/invoke/VarHandle" ∧ (parseMethodDescriptor yX7_hasLevel.desc).map (fun d => d.parameters.length) = some 1 := ⟨by decide +kernel, by decide +kernel, by decide +kernel⟩
theorem dX7_hasLevel_0 : decode cX7_hasLevel 0 = .ok (.iload_n 1, 1) := by decide +kernel
theorem dX7_hasLevel_1 : decode cX7_hasLevel 1 = .ok (.ifCond .eq 38, 3) := by decide +kernel
theorem dX7_hasLevel_4 : decode cX7_hasLevel 4 = .ok (.iload_n 1, 1) := by decide +kernel
theorem dX7_hasLevel_5 : decode cX7_hasLevel 5 = .ok (.iconst 1, 1) := by decide +kernel
theorem dX7_hasLevel_6 : decode cX7_hasLevel 6 = .ok (.if_icmp .eq 33, 3) := by decide +kernel
theorem dX7_hasLevel_9 : decode cX7_hasLevel 9 = .ok (.iload_n 1, 1) := by decide +kernel
theorem dX7_hasLevel_10 : decode cX7_hasLevel 10 = .ok (.iconst 3, 1) := by decide +kernel
theorem dX7_hasLevel_11 : decode cX7_hasLevel 11 = .ok (.if_icmp .eq 28, 3) := by decide +kernel
theorem dX7_hasLevel_14 : decode cX7_hasLevel 14 = .ok (.iload_n 1, 1) := by decide +kernel
theorem dX7_hasLevel_15 : decode cX7_hasLevel 15 = .ok (.bipush 17, 2) := by decide +kernel
theorem dX7_hasLevel_17 : decode cX7_hasLevel 17 = .ok (.if_icmp .eq 22, 3) := by decide +kernel
theorem dX7_hasLevel_20 : decode cX7_hasLevel 20 = .ok (.iload_n 1, 1) := by decide +kernel
theorem dX7_hasLevel_21 : decode cX7_hasLevel 21 = .ok (.bipush 19, 2) := by decide +kernel
theorem dX7_hasLevel_23 : decode cX7_hasLevel 23 = .ok (.if_icmp .eq 16, 3) := by decide +kernel
theorem dX7_hasLevel_26 : decode cX7_hasLevel 26 = .ok (.iload_n 1, 1) := by decide +kernel
theorem dX7_hasLevel_27 : decode cX7_hasLevel 27 = .ok (.bipush 51, 2) := by decide +kernel
theorem dX7_hasLevel_29 : decode cX7_hasLevel 29 = .ok (.if_icmp .ne 14, 3) := by decide +kernel
theorem dX7_hasLevel_32 : decode cX7_hasLevel 32 = .ok (.aload_n 0, 1) := by decide +kernel
theorem dX7_hasLevel_33 : decode cX7_hasLevel 33 = .ok (.invokevirtual 35, 3) := by decide +kernel
theorem dX7_hasLevel_36 : decode cX7_hasLevel 36 = .ok (.ifCond .eq 7, 3) := by decide +kernel
theorem dX7_hasLevel_39 : decode cX7_hasLevel 39 = .ok (.iconst 1, 1) := by decide +kernel
theorem dX7_hasLevel_40 : decode cX7_hasLevel 40 = .ok (.goto 4, 3) := by decide +kernel
theorem dX7_hasLevel_43 : decode cX7_hasLevel 43 = .ok (.iconst 0, 1) := by decide +kernel
theorem dX7_hasLevel_44 : decode cX7_hasLevel 44 = .ok (.ireturn, 1) := by decide +kernel
set_option maxHeartbeats 4000000 in
set_option maxRecDepth 100000 in
theorem ct_X7_hasLevel_O (ll : Launch) (D : va_G) (ta : Nat → ClassId) (gs : Nat → Nat) (o : Nat → Nat) (l : Int32)  (sz : Nat) : CT ll yX7_hasLevel cX7_hasLevel 2 (some .boolean) ({ frames := 1, cells := 0, slots := 0, locals := 20 } : Room) D ta ((GC gs)) [.ref (o 0), .int l] [(o 0, oO o)] sz (S := Bool) (fun u => some (.int (qb u))) (fun u => (u = levB l false)) (fun u => [(o 0, oO o)]) 0 0 := by
  refine CT.of_z (r := fun u => u) rfl (by decide) (Nat.le_of_ble_eq_true rfl) ?_
  have hGok := GC_ok gs
  intro pp ee ss mm below meth kc A Q hx hb hml hown hin hts hK hA hsz hG hret H locs hP hD hS ls hl
  have hl : lv_has ls 2 [(0, .ref (o 0)), (1, .int l)] := hl
  refine lv_iload_n (pc := 0) hx hb dX7_hasLevel_0 rfl (lv_at hl 1 rfl) ?_
  refine lv_if_eq (pc := 1) (tgt := 39) hx hb dX7_hasLevel_1 (by decide) (fun c_1 => ?_) (fun c_1 => ?_)
  · skip
    refine lv_iconst (pc := 39) (v := nI 1) hx hb dX7_hasLevel_39 (by decide +kernel) ?_
    refine lv_goto (pc := 40) (tgt := 44) hx hb dX7_hasLevel_40 (by decide) ?_
    refine q_top (y := qb true) (by first | rfl | decide +kernel | (simp; done)) ?_
    have hq_2 : (true = levB l false) := by
      first | (subst_vars; decide) | (simp_all [levB, nI]; done) | (simp_all [levB, nI]; decide)
    exact hret (true) _ _ _ _ dX7_hasLevel_44 hq_2 (hP.sub [0] rfl) (hD.sub [0] (by decide) rfl) hS
  · skip
    refine lv_iload_n (pc := 4) hx hb dX7_hasLevel_4 rfl (lv_at hl 1 rfl) ?_
    refine lv_iconst (pc := 5) (v := nI 1) hx hb dX7_hasLevel_5 (by decide +kernel) ?_
    refine lv_icmp_eq (pc := 6) (tgt := 39) hx hb dX7_hasLevel_6 (by decide) (fun c_3 => ?_) (fun c_3 => ?_)
    · skip
      refine lv_iconst (pc := 39) (v := nI 1) hx hb dX7_hasLevel_39 (by decide +kernel) ?_
      refine lv_goto (pc := 40) (tgt := 44) hx hb dX7_hasLevel_40 (by decide) ?_
      refine q_top (y := qb true) (by first | rfl | decide +kernel | (simp; done)) ?_
      have hq_4 : (true = levB l false) := by
        first | (subst_vars; decide) | (simp_all [levB, nI]; done) | (simp_all [levB, nI]; decide)
      exact hret (true) _ _ _ _ dX7_hasLevel_44 hq_4 (hP.sub [0] rfl) (hD.sub [0] (by decide) rfl) hS
    · skip
      refine lv_iload_n (pc := 9) hx hb dX7_hasLevel_9 rfl (lv_at hl 1 rfl) ?_
      refine lv_iconst (pc := 10) (v := nI 3) hx hb dX7_hasLevel_10 (by decide +kernel) ?_
      refine lv_icmp_eq (pc := 11) (tgt := 39) hx hb dX7_hasLevel_11 (by decide) (fun c_5 => ?_) (fun c_5 => ?_)
      · skip
        refine lv_iconst (pc := 39) (v := nI 1) hx hb dX7_hasLevel_39 (by decide +kernel) ?_
        refine lv_goto (pc := 40) (tgt := 44) hx hb dX7_hasLevel_40 (by decide) ?_
        refine q_top (y := qb true) (by first | rfl | decide +kernel | (simp; done)) ?_
        have hq_6 : (true = levB l false) := by
          first | (subst_vars; decide) | (simp_all [levB, nI]; done) | (simp_all [levB, nI]; decide)
        exact hret (true) _ _ _ _ dX7_hasLevel_44 hq_6 (hP.sub [0] rfl) (hD.sub [0] (by decide) rfl) hS
      · skip
        refine lv_iload_n (pc := 14) hx hb dX7_hasLevel_14 rfl (lv_at hl 1 rfl) ?_
        refine lv_bipush (pc := 15) (v := nI 17) hx hb dX7_hasLevel_15 (by decide +kernel) ?_
        refine lv_icmp_eq (pc := 17) (tgt := 39) hx hb dX7_hasLevel_17 (by decide) (fun c_7 => ?_) (fun c_7 => ?_)
        · skip
          refine lv_iconst (pc := 39) (v := nI 1) hx hb dX7_hasLevel_39 (by decide +kernel) ?_
          refine lv_goto (pc := 40) (tgt := 44) hx hb dX7_hasLevel_40 (by decide) ?_
          refine q_top (y := qb true) (by first | rfl | decide +kernel | (simp; done)) ?_
          have hq_8 : (true = levB l false) := by
            first | (subst_vars; decide) | (simp_all [levB, nI]; done) | (simp_all [levB, nI]; decide)
          exact hret (true) _ _ _ _ dX7_hasLevel_44 hq_8 (hP.sub [0] rfl) (hD.sub [0] (by decide) rfl) hS
        · skip
          refine lv_iload_n (pc := 20) hx hb dX7_hasLevel_20 rfl (lv_at hl 1 rfl) ?_
          refine lv_bipush (pc := 21) (v := nI 19) hx hb dX7_hasLevel_21 (by decide +kernel) ?_
          refine lv_icmp_eq (pc := 23) (tgt := 39) hx hb dX7_hasLevel_23 (by decide) (fun c_9 => ?_) (fun c_9 => ?_)
          · skip
            refine lv_iconst (pc := 39) (v := nI 1) hx hb dX7_hasLevel_39 (by decide +kernel) ?_
            refine lv_goto (pc := 40) (tgt := 44) hx hb dX7_hasLevel_40 (by decide) ?_
            refine q_top (y := qb true) (by first | rfl | decide +kernel | (simp; done)) ?_
            have hq_10 : (true = levB l false) := by
              first | (subst_vars; decide) | (simp_all [levB, nI]; done) | (simp_all [levB, nI]; decide)
            exact hret (true) _ _ _ _ dX7_hasLevel_44 hq_10 (hP.sub [0] rfl) (hD.sub [0] (by decide) rfl) hS
          · skip
            refine lv_iload_n (pc := 26) hx hb dX7_hasLevel_26 rfl (lv_at hl 1 rfl) ?_
            refine lv_bipush (pc := 27) (v := nI 51) hx hb dX7_hasLevel_27 (by decide +kernel) ?_
            refine lv_icmp_ne (pc := 29) (tgt := 43) hx hb dX7_hasLevel_29 (by decide) (fun c_11 => ?_) (fun c_11 => ?_)
            · skip
              refine lv_iconst (pc := 43) (v := nI 0) hx hb dX7_hasLevel_43 (by decide +kernel) ?_
              refine q_top (y := qb false) (by first | rfl | decide +kernel | (simp; done)) ?_
              have hq_12 : (false = levB l false) := by
                first | (subst_vars; decide) | (simp_all [levB, nI]; done) | (simp_all [levB, nI]; decide)
              exact hret (false) _ _ _ _ dX7_hasLevel_44 hq_12 (hP.sub [0] rfl) (hD.sub [0] (by decide) rfl) hS
            · skip
              refine lv_aload_n (pc := 32) hx hb dX7_hasLevel_32 rfl (lv_at hl 0 rfl) ?_
              refine cs_U (pc := 33) (idx := 35) (n := 0) (wr := []) (As := []) (rest := []) (ci := 4) (x := ⟨"LineGuard$Rule", "hidesAnswers", "()Z"⟩) (owner := "LineGuard$Rule") hx hb hml hown hts hGok hK hA hG hl.1 hP hD hS (ct_X5_hidesAnswers ll D ta hGok o  H.size) tw_707 tw_699 tw_706 tw_705 tw_70 tw_701 (va_Decl.abs (GC_w700 hG)) ⟨by decide +kernel, by decide +kernel, by decide +kernel⟩ rfl ⟨rfl, rfl, Nat.le_of_ble_eq_true rfl, Nat.le_of_ble_eq_true rfl, Nat.le_of_ble_eq_true rfl, Nat.le_of_ble_eq_true rfl⟩ rfl (q0 := 0) rfl [0] [] rfl rfl (by decide) rfl (Nat.le_of_ble_eq_true rfl) dX7_hasLevel_33 (fun u H locs hq hP hD hS => ?_)
              refine W.eq (g2 := F0 mm 36 ls [.int (qb false)]) rfl ?_
              have hP : va_P D vwCl [(o 0, oO o)] H := hP
              have hD : va_D A [(o 0, oO o)] := hD
              refine lv_if_eq (pc := 36) (tgt := 43) hx hb dX7_hasLevel_36 (by decide) (fun c_13 => ?_) (fun c_13 => ?_)
              · skip
                rw [q_beq] at c_13
                try rw [Bool.not_eq_false] at c_13
                refine lv_iconst (pc := 43) (v := nI 0) hx hb dX7_hasLevel_43 (by decide +kernel) ?_
                refine q_top (y := qb false) (by first | rfl | decide +kernel | (simp; done)) ?_
                have hq_14 : (false = levB l false) := by
                  first | (subst_vars; decide) | (simp_all [levB, nI]; done) | (simp_all [levB, nI]; decide)
                exact hret (false) _ _ _ _ dX7_hasLevel_44 hq_14 (hP.sub [0] rfl) (hD.sub [0] (by decide) rfl) hS
              · skip
                rw [q_beq] at c_13
                try rw [Bool.not_eq_false] at c_13
                refine lv_iconst (pc := 39) (v := nI 1) hx hb dX7_hasLevel_39 (by decide +kernel) ?_
                refine lv_goto (pc := 40) (tgt := 44) hx hb dX7_hasLevel_40 (by decide) ?_
                refine q_top (y := qb true) (by first | rfl | decide +kernel | (simp; done)) ?_
                have hq_15 : (true = levB l false) := by
                  first | (subst_vars; decide) | (simp_all [levB, nI]; done) | (simp_all [levB, nI]; decide)
                exact hret (true) _ _ _ _ dX7_hasLevel_44 hq_15 (hP.sub [0] rfl) (hD.sub [0] (by decide) rfl) hS
theorem hdX7_hides : yX7_hides.cls ≠ "java/lang/invoke/MethodHandle" ∧ yX7_hides.cls ≠ "java/lang/invoke/VarHandle" ∧ (parseMethodDescriptor yX7_hides.desc).map (fun d => d.parameters.length) = some 2 := ⟨by decide +kernel, by decide +kernel, by decide +kernel⟩
theorem dX7_hides_0 : decode cX7_hides 0 = .ok (.aload_n 1, 1) := by decide +kernel
theorem dX7_hides_1 : decode cX7_hides 1 = .ok (.getfield 43, 3) := by decide +kernel
theorem dX7_hides_4 : decode cX7_hides 4 = .ok (.iload_n 2, 1) := by decide +kernel
theorem dX7_hides_5 : decode cX7_hides 5 = .ok (.iand, 1) := by decide +kernel
theorem dX7_hides_6 : decode cX7_hides 6 = .ok (.ifCond .eq 17, 3) := by decide +kernel
theorem dX7_hides_9 : decode cX7_hides 9 = .ok (.aload_n 0, 1) := by decide +kernel
theorem dX7_hides_10 : decode cX7_hides 10 = .ok (.getfield 20, 3) := by decide +kernel
theorem dX7_hides_13 : decode cX7_hides 13 = .ok (.invokevirtual 49, 3) := by decide +kernel
theorem dX7_hides_16 : decode cX7_hides 16 = .ok (.ifCond .le 7, 3) := by decide +kernel
theorem dX7_hides_19 : decode cX7_hides 19 = .ok (.iconst 1, 1) := by decide +kernel
theorem dX7_hides_20 : decode cX7_hides 20 = .ok (.goto 4, 3) := by decide +kernel
theorem dX7_hides_23 : decode cX7_hides 23 = .ok (.iconst 0, 1) := by decide +kernel
theorem dX7_hides_24 : decode cX7_hides 24 = .ok (.ireturn, 1) := by decide +kernel
set_option maxHeartbeats 4000000 in
set_option maxRecDepth 100000 in
theorem ct_X7_hides_O (ll : Launch) (D : va_G) (ta : Nat → ClassId) (gs : Nat → Nat) (o : Nat → Nat) (w : Nat → Nat) (st : Nat) (lv : Nat) (cnt : Nat) (cm : Bool) (gd : Nat → BitVec 8) (nd : Nat) (mk : Nat) (hmk : mk < 2147483648) (hlv : lv < 256) (hnd : nd < 2147483648) (sz : Nat) : CT ll yX7_hides cX7_hides 3 (some .boolean) ({ frames := 1, cells := 0, slots := 0, locals := 20 } : Room) D ta ((GC gs)) [.ref (o 0), .ref (w 0), .int (nI mk)] [(o 0, oO o), (w 0, oW w st lv cnt cm), (o 3, oR (o 4) nd), (o 4, aZ ta 300 gd)] sz (S := Bool) (fun u => some (.int (qb u))) (fun u => (u = hidB lv mk (qL gd nd))) (fun u => [(o 0, oO o), (w 0, oW w st lv cnt cm), (o 3, oR (o 4) nd), (o 4, aZ ta 300 gd)]) 0 0 := by
  refine CT.of_z (r := fun u => u) rfl (by decide) (Nat.le_of_ble_eq_true rfl) ?_
  have hGok := GC_ok gs
  intro pp ee ss mm below meth kc A Q hx hb hml hown hin hts hK hA hsz hG hret H locs hP hD hS ls hl
  have hl : lv_has ls 3 [(0, .ref (o 0)), (1, .ref (w 0)), (2, .int (nI mk))] := hl
  refine lv_aload_n (pc := 0) hx hb dX7_hides_0 rfl (lv_at hl 1 rfl) ?_
  refine va_getN (pc := 1) (D := D) (ci := 6) (v := .int (nI lv)) (C := RX8) (T := TX8) (N := 14) hx hb hts iu8 hown hK hP 1 rfl rfl 1 (by decide) (va_Nw.use rfl (GC_w142 hG)) (fun _ h9 => h9) rfl dX7_hides_1 ?_
  refine lv_iload_n (pc := 4) hx hb dX7_hides_4 rfl (lv_at hl 2 rfl) ?_
  have hlm : lv &&& mk ≤ mk := Nat.and_le_right
  refine lv_iand (pc := 5) hx hb dX7_hides_5 ?_
  refine q_top (y := nI (lv &&& mk)) (nI_and (by omega) (by omega)) ?_
  refine lv_if_eq (pc := 6) (tgt := 23) hx hb dX7_hides_6 (by decide) (fun c_1 => ?_) (fun c_1 => ?_)
  · skip
    rw [q_eq0 (by omega)] at c_1
    refine lv_iconst (pc := 23) (v := nI 0) hx hb dX7_hides_23 (by decide +kernel) ?_
    refine q_top (y := qb false) (by first | rfl | decide +kernel | (simp; done)) ?_
    have hq_2 : (false = hidB lv mk (qL gd nd)) := by
      symm; rw [hidB, qL_len]; simp; omega
    exact hret (false) _ _ _ _ dX7_hides_24 hq_2 (hP.sub [0, 1, 2, 3] rfl) (hD.sub [0, 1, 2, 3] (by decide) rfl) hS
  · skip
    rw [q_eq0 (by omega)] at c_1
    refine lv_aload_n (pc := 9) hx hb dX7_hides_9 rfl (lv_at hl 0 rfl) ?_
    refine va_get (pc := 10) (D := D) (ci := 4) (v := .ref (o 3)) (C := RX5) (T := TX5) (N := 6) hx hb hts iu5 hown hK hP 0 rfl rfl 1 (by decide) (hts _ tw_275) (fun _ h9 => h9) rfl dX7_hides_10 ?_
    refine cs_V (pc := 13) (idx := 49) (n := 0) (wr := [(o 0, oO o), (w 0, oW w st lv cnt cm)]) (As := []) (rest := []) (ci := 5) hx hb hml hown hts hGok hK hA hG hl.1 hP hD hS (ct_X6_size ll D ta hGok (o 3) (o 4) 300 gd nd  H.size) tw_393 tw_722 tw_391 tw_392 tw_66 hdX6_size rfl ⟨rfl, rfl, Nat.le_of_ble_eq_true rfl, Nat.le_of_ble_eq_true rfl, Nat.le_of_ble_eq_true rfl, Nat.le_of_ble_eq_true rfl⟩ rfl rfl (q0 := 2) rfl [2, 3] [0, 1] rfl rfl (by decide) rfl (Nat.le_of_ble_eq_true rfl) dX7_hides_13 (fun u H locs hq hP hD hS => ?_)
    refine W.eq (g2 := F0 mm 16 ls [.int (nI nd)]) rfl ?_
    have hP : va_P D vwCl [(o 0, oO o), (w 0, oW w st lv cnt cm), (o 3, oR (o 4) nd), (o 4, aZ ta 300 gd)] H := hP
    have hD : va_D A [(o 0, oO o), (w 0, oW w st lv cnt cm), (o 3, oR (o 4) nd), (o 4, aZ ta 300 gd)] := hD
    refine lv_if_le (pc := 16) (tgt := 23) hx hb dX7_hides_16 (by decide) (fun c_3 => ?_) (fun c_3 => ?_)
    · skip
      rw [q_le0 (by omega)] at c_3
      refine lv_iconst (pc := 23) (v := nI 0) hx hb dX7_hides_23 (by decide +kernel) ?_
      refine q_top (y := qb false) (by first | rfl | decide +kernel | (simp; done)) ?_
      have hq_4 : (false = hidB lv mk (qL gd nd)) := by
        symm; rw [hidB, qL_len]; simp; omega
      exact hret (false) _ _ _ _ dX7_hides_24 hq_4 (hP.sub [0, 1, 2, 3] rfl) (hD.sub [0, 1, 2, 3] (by decide) rfl) hS
    · skip
      rw [q_le0 (by omega)] at c_3
      refine lv_iconst (pc := 19) (v := nI 1) hx hb dX7_hides_19 (by decide +kernel) ?_
      refine lv_goto (pc := 20) (tgt := 24) hx hb dX7_hides_20 (by decide) ?_
      refine q_top (y := qb true) (by first | rfl | decide +kernel | (simp; done)) ?_
      have hq_5 : (true = hidB lv mk (qL gd nd)) := by
        symm; rw [hidB, qL_len]; simp; omega
      exact hret (true) _ _ _ _ dX7_hides_24 hq_5 (hP.sub [0, 1, 2, 3] rfl) (hD.sub [0, 1, 2, 3] (by decide) rfl) hS
theorem hdX7_addHead : yX7_addHead.cls ≠ "java/lang/invoke/MethodHandle" ∧ yX7_addHead.cls ≠ "java/lang/invoke/VarHandle" ∧ (parseMethodDescriptor yX7_addHead.desc).map (fun d => d.parameters.length) = some 2 := ⟨by decide +kernel, by decide +kernel, by decide +kernel⟩
theorem dX7_addHead_0 : decode cX7_addHead 0 = .ok (.aload_n 0, 1) := by decide +kernel
theorem dX7_addHead_1 : decode cX7_addHead 1 = .ok (.getfield 16, 3) := by decide +kernel
theorem dX7_addHead_4 : decode cX7_addHead 4 = .ok (.aload_n 1, 1) := by decide +kernel
theorem dX7_addHead_5 : decode cX7_addHead 5 = .ok (.iconst 0, 1) := by decide +kernel
theorem dX7_addHead_6 : decode cX7_addHead 6 = .ok (.invokevirtual 52, 3) := by decide +kernel
theorem dX7_addHead_9 : decode cX7_addHead 9 = .ok (.bipush (-4), 2) := by decide +kernel
theorem dX7_addHead_11 : decode cX7_addHead 11 = .ok (.iand, 1) := by decide +kernel
theorem dX7_addHead_12 : decode cX7_addHead 12 = .ok (.iconst 4, 1) := by decide +kernel
theorem dX7_addHead_13 : decode cX7_addHead 13 = .ok (.ior, 1) := by decide +kernel
theorem dX7_addHead_14 : decode cX7_addHead 14 = .ok (.invokevirtual 56, 3) := by decide +kernel
theorem dX7_addHead_17 : decode cX7_addHead 17 = .ok (.aload_n 0, 1) := by decide +kernel
theorem dX7_addHead_18 : decode cX7_addHead 18 = .ok (.getfield 16, 3) := by decide +kernel
theorem dX7_addHead_21 : decode cX7_addHead 21 = .ok (.aload_n 1, 1) := by decide +kernel
theorem dX7_addHead_22 : decode cX7_addHead 22 = .ok (.iconst 1, 1) := by decide +kernel
theorem dX7_addHead_23 : decode cX7_addHead 23 = .ok (.iconst 4, 1) := by decide +kernel
theorem dX7_addHead_24 : decode cX7_addHead 24 = .ok (.invokevirtual 59, 3) := by decide +kernel
theorem dX7_addHead_27 : decode cX7_addHead 27 = .ok (.aload_n 0, 1) := by decide +kernel
theorem dX7_addHead_28 : decode cX7_addHead 28 = .ok (.getfield 16, 3) := by decide +kernel
theorem dX7_addHead_31 : decode cX7_addHead 31 = .ok (.iload_n 2, 1) := by decide +kernel
theorem dX7_addHead_32 : decode cX7_addHead 32 = .ok (.bipush 8, 2) := by decide +kernel
theorem dX7_addHead_34 : decode cX7_addHead 34 = .ok (.iadd, 1) := by decide +kernel
theorem dX7_addHead_35 : decode cX7_addHead 35 = .ok (.invokevirtual 56, 3) := by decide +kernel
theorem dX7_addHead_38 : decode cX7_addHead 38 = .ok (.return_, 1) := by decide +kernel
set_option maxHeartbeats 4000000 in
set_option maxRecDepth 100000 in
theorem ct_X7_addHead_O (ll : Launch) (D : va_G) (ta : Nat → ClassId) {G : (Nat → Prop) → State → Heap → Prop} (hGok : GOK G) (o : Nat → Nat) (gt : Nat → BitVec 8) (nt : Nat) (hc : Nat) (bc : Nat) (capc : Nat) (gc : Nat → BitVec 8) (nc : Nat) (n : Nat) (hnt : nt + 5 ≤ 528) (hnc : 4 ≤ nc ∧ nc ≤ capc ∧ capc < 2147483648) (hn : n < 2147483000) (sz : Nat) : CT ll yX7_addHead cX7_addHead 3 none ({ frames := 2, cells := 0, slots := 0, locals := 45 } : Room) D ta G [.ref (o 0), .ref hc, .int (nI n)] [(o 0, oO o), (o 1, oR (o 2) nt), (o 2, aZ ta 528 gt), (hc, oR bc nc), (bc, aZ ta capc gc)] sz (S := (Nat → BitVec 8)) (fun _ => none) (fun u => (qL u (nt + 5) = qL gt nt ++ headL (qL gc nc) n)) (fun u => [(o 0, oO o), (o 1, oR (o 2) (nt + 5)), (o 2, aZ ta 528 u), (hc, oR bc nc), (bc, aZ ta capc gc)]) 0 0 := by
  refine CT.of_v rfl (by decide) (Nat.le_of_ble_eq_true rfl) ?_
  intro pp ee ss mm below meth kc A Q hx hb hml hown hin hts hK hA hsz hG hret H locs hP hD hS ls hl
  have hl : lv_has ls 3 [(0, .ref (o 0)), (1, .ref hc), (2, .int (nI n))] := hl
  refine lv_aload_n (pc := 0) hx hb dX7_addHead_0 rfl (lv_at hl 0 rfl) ?_
  refine va_get (pc := 1) (D := D) (ci := 4) (v := .ref (o 1)) (C := RX5) (T := TX5) (N := 6) hx hb hts iu5 hown hK hP 0 rfl rfl 0 (by decide) (hts _ tw_270) (fun _ h9 => h9) rfl dX7_addHead_1 ?_
  refine lv_aload_n (pc := 4) hx hb dX7_addHead_4 rfl (lv_at hl 1 rfl) ?_
  refine lv_iconst (pc := 5) (v := nI 0) hx hb dX7_addHead_5 (by decide +kernel) ?_
  refine cs_V (pc := 6) (idx := 52) (n := 1) (wr := [(o 0, oO o), (o 1, oR (o 2) nt), (o 2, aZ ta 528 gt)]) (As := [.int (nI 0)]) (rest := [.ref (o 1)]) (ci := 5) hx hb hml hown hts hGok hK hA hG hl.1 hP hD hS (ct_X6_at_in ll D ta hGok hc bc capc gc nc 0 (by first | assumption | omega | rfl | decide) (by first | assumption | omega | rfl | decide) (by first | assumption | omega | rfl | decide) H.size) tw_413 tw_741 tw_411 tw_412 tw_66 hdX6_at rfl ⟨rfl, rfl, Nat.le_of_ble_eq_true rfl, Nat.le_of_ble_eq_true rfl, Nat.le_of_ble_eq_true rfl, Nat.le_of_ble_eq_true rfl⟩ rfl rfl (q0 := 3) rfl [3, 4] [0, 1, 2] rfl rfl (by decide) rfl (Nat.le_of_ble_eq_true rfl) dX7_addHead_6 (fun u H locs hq hP hD hS => ?_)
  refine W.eq (g2 := F0 mm 9 ls [.int (qz (gc 0)), .ref (o 1)]) rfl ?_
  have hP : va_P D vwCl [(o 0, oO o), (o 1, oR (o 2) nt), (o 2, aZ ta 528 gt), (hc, oR bc nc), (bc, aZ ta capc gc)] H := hP
  have hD : va_D A [(o 0, oO o), (o 1, oR (o 2) nt), (o 2, aZ ta 528 gt), (hc, oR bc nc), (bc, aZ ta capc gc)] := hD
  refine lv_bipush (pc := 9) (v := (-4)) hx hb dX7_addHead_9 (by decide +kernel) ?_
  refine lv_iand (pc := 11) hx hb dX7_addHead_11 ?_
  refine lv_iconst (pc := 12) (v := nI 4) hx hb dX7_addHead_12 (by decide +kernel) ?_
  refine lv_ior (pc := 13) hx hb dX7_addHead_13 ?_
  refine cs_V (pc := 14) (idx := 56) (n := 1) (wr := [(o 0, oO o), (hc, oR bc nc), (bc, aZ ta capc gc)]) (As := [.int (((qz (gc 0)) &&& (-4)) ||| (nI 4))]) (rest := []) (ci := 5) hx hb hml hown hts hGok hK hA hG hl.1 hP hD hS (ct_X6_add ll D ta hGok (o 1) (o 2) 528 gt nt (((qz (gc 0)) &&& (-4)) ||| (nI 4)) (by first | assumption | omega | rfl | decide) (by first | assumption | omega | rfl | decide) H.size) tw_231 tw_742 tw_229 tw_230 tw_66 hdX6_add rfl ⟨rfl, rfl, Nat.le_of_ble_eq_true rfl, Nat.le_of_ble_eq_true rfl, Nat.le_of_ble_eq_true rfl, Nat.le_of_ble_eq_true rfl⟩ rfl rfl (q0 := 1) rfl [1, 2] [0, 3, 4] rfl rfl (by decide) rfl (Nat.le_of_ble_eq_true rfl) dX7_addHead_14 (fun u H locs hq hP hD hS => ?_)
  generalize u = g1_14 at hq hP hD ⊢
  have hq : (qL g1_14 (nt + 1) = qL gt nt ++ [qlo (((qz (gc 0)) &&& (-4)) ||| (nI 4))]) := hq
  have hL_14 := hq
  refine W.eq (g2 := F0 mm 17 ls []) rfl ?_
  have hP : va_P D vwCl [(o 0, oO o), (hc, oR bc nc), (bc, aZ ta capc gc), (o 1, oR (o 2) (nt + 1)), (o 2, aZ ta 528 g1_14)] H := hP
  have hD : va_D A [(o 0, oO o), (hc, oR bc nc), (bc, aZ ta capc gc), (o 1, oR (o 2) (nt + 1)), (o 2, aZ ta 528 g1_14)] := hD
  refine lv_aload_n (pc := 17) hx hb dX7_addHead_17 rfl (lv_at hl 0 rfl) ?_
  refine va_get (pc := 18) (D := D) (ci := 4) (v := .ref (o 1)) (C := RX5) (T := TX5) (N := 6) hx hb hts iu5 hown hK hP 0 rfl rfl 0 (by decide) (hts _ tw_270) (fun _ h9 => h9) rfl dX7_addHead_18 ?_
  refine lv_aload_n (pc := 21) hx hb dX7_addHead_21 rfl (lv_at hl 1 rfl) ?_
  refine lv_iconst (pc := 22) (v := nI 1) hx hb dX7_addHead_22 (by decide +kernel) ?_
  refine lv_iconst (pc := 23) (v := nI 4) hx hb dX7_addHead_23 (by decide +kernel) ?_
  refine cs_V (pc := 24) (idx := 59) (n := 3) (wr := [(o 0, oO o)]) (As := [.ref hc, .int (nI 1), .int (nI 4)]) (rest := []) (ci := 5) hx hb hml hown hts hGok hK hA hG hl.1 hP hD hS (ct_X6_addPart ll D ta hGok (o 1) (o 2) 528 g1_14 (nt + 1) hc bc capc gc nc 1 4 (by first | assumption | omega | rfl | decide) (by first | assumption | omega | rfl | decide) (by first | assumption | omega | rfl | decide) (by first | assumption | omega | rfl | decide) (by first | assumption | omega | rfl | decide) (by first | assumption | omega | rfl | decide) H.size) tw_445 tw_743 tw_443 tw_444 tw_66 hdX6_addPart rfl ⟨rfl, rfl, Nat.le_of_ble_eq_true rfl, Nat.le_of_ble_eq_true rfl, Nat.le_of_ble_eq_true rfl, Nat.le_of_ble_eq_true rfl⟩ rfl rfl (q0 := 3) rfl [3, 4, 1, 2] [0] rfl rfl (by decide) rfl (Nat.le_of_ble_eq_true rfl) dX7_addHead_24 (fun u H locs hq hP hD hS => ?_)
  obtain ⟨g1_24, n1_24⟩ := u
  have hq : (n1_24 = (nt + 1) + (min 4 nc - 1)) ∧ (qL g1_24 n1_24 = qL g1_14 (nt + 1) ++ ((qL gc nc).take 4).drop 1) := hq
  obtain ⟨hm_24, hL_24⟩ := hq
  refine W.eq (g2 := F0 mm 27 ls []) rfl ?_
  have hP : va_P D vwCl [(o 0, oO o), (o 1, oR (o 2) n1_24), (o 2, aZ ta 528 g1_24), (hc, oR bc nc), (bc, aZ ta capc gc)] H := hP
  have hD : va_D A [(o 0, oO o), (o 1, oR (o 2) n1_24), (o 2, aZ ta 528 g1_24), (hc, oR bc nc), (bc, aZ ta capc gc)] := hD
  refine lv_aload_n (pc := 27) hx hb dX7_addHead_27 rfl (lv_at hl 0 rfl) ?_
  refine va_get (pc := 28) (D := D) (ci := 4) (v := .ref (o 1)) (C := RX5) (T := TX5) (N := 6) hx hb hts iu5 hown hK hP 0 rfl rfl 0 (by decide) (hts _ tw_270) (fun _ h9 => h9) rfl dX7_addHead_28 ?_
  refine lv_iload_n (pc := 31) hx hb dX7_addHead_31 rfl (lv_at hl 2 rfl) ?_
  refine lv_bipush (pc := 32) (v := nI 8) hx hb dX7_addHead_32 (by decide +kernel) ?_
  refine lv_iadd (pc := 34) hx hb dX7_addHead_34 ?_
  refine q_top (y := nI (n + 8)) (nI_add n 8) ?_
  refine cs_V (pc := 35) (idx := 56) (n := 1) (wr := [(o 0, oO o), (hc, oR bc nc), (bc, aZ ta capc gc)]) (As := [.int (nI (n + 8))]) (rest := []) (ci := 5) hx hb hml hown hts hGok hK hA hG hl.1 hP hD hS (ct_X6_add ll D ta hGok (o 1) (o 2) 528 g1_24 n1_24 (nI (n + 8)) (by first | assumption | omega | rfl | decide) (by first | assumption | omega | rfl | decide) H.size) tw_231 tw_742 tw_229 tw_230 tw_66 hdX6_add rfl ⟨rfl, rfl, Nat.le_of_ble_eq_true rfl, Nat.le_of_ble_eq_true rfl, Nat.le_of_ble_eq_true rfl, Nat.le_of_ble_eq_true rfl⟩ rfl rfl (q0 := 1) rfl [1, 2] [0, 3, 4] rfl rfl (by decide) rfl (Nat.le_of_ble_eq_true rfl) dX7_addHead_35 (fun u H locs hq hP hD hS => ?_)
  generalize u = g1_35 at hq hP hD ⊢
  have hq : (qL g1_35 (n1_24 + 1) = qL g1_24 n1_24 ++ [qlo (nI (n + 8))]) := hq
  have hL_35 := hq
  refine W.eq (g2 := F0 mm 38 ls []) rfl ?_
  have hP : va_P D vwCl [(o 0, oO o), (hc, oR bc nc), (bc, aZ ta capc gc), (o 1, oR (o 2) (n1_24 + 1)), (o 2, aZ ta 528 g1_35)] H := hP
  have hD : va_D A [(o 0, oO o), (hc, oR bc nc), (bc, aZ ta capc gc), (o 1, oR (o 2) (n1_24 + 1)), (o 2, aZ ta 528 g1_35)] := hD
  have en_1 : nt + 4 = n1_24 := by omega
  subst en_1
  have hq_2 : (qL g1_35 (nt + 5) = qL gt nt ++ headL (qL gc nc) n) := by
    rw [hL_35, hL_24, hL_14, qlo_head, qlo_nI, headL, qL_getD (by omega)]
    simp [List.append_assoc]
  exact hret (g1_35) _ _ _ _ dX7_addHead_38 hq_2 (hP.sub [0, 3, 4, 1, 2] rfl) (hD.sub [0, 3, 4, 1, 2] (by decide) rfl) hS
set_option maxHeartbeats 4000000 in
set_option maxRecDepth 100000 in
theorem ct_X7_isBlocks_N (ll : Launch) (D : va_G) (ta : Nat → ClassId) (gs : Nat → Nat) (v : Nat → Nat) (n : Nat) (hn : n < 2147483648) (sz : Nat) : CT ll yX7_isBlocks cX7_isBlocks 2 (some .boolean) ({ frames := 1, cells := 0, slots := 0, locals := 20 } : Room) D ta ((GC gs)) [.ref (v 0), .int (nI n)] [(v 0, oV v)] sz (S := Bool) (fun u => some (.int (qb u))) (fun u => (u = decide (n % 16 = 0))) (fun u => [(v 0, oV v)]) 0 0 := by
  refine CT.of_z (r := fun u => u) rfl (by decide) (Nat.le_of_ble_eq_true rfl) ?_
  have hGok := GC_ok gs
  intro pp ee ss mm below meth kc A Q hx hb hml hown hin hts hK hA hsz hG hret H locs hP hD hS ls hl
  have hl : lv_has ls 2 [(0, .ref (v 0)), (1, .int (nI n))] := hl
  refine lv_iload_n (pc := 0) hx hb dX7_isBlocks_0 rfl (lv_at hl 1 rfl) ?_
  refine lv_aload_n (pc := 1) hx hb dX7_isBlocks_1 rfl (lv_at hl 0 rfl) ?_
  refine cs_U (pc := 2) (idx := 39) (n := 0) (wr := []) (As := []) (rest := [.int (nI n)]) (ci := 3) (x := ⟨"LineGuard$Rule", "width", "()I"⟩) (owner := "LineGuard$Rule") hx hb hml hown hts hGok hK hA hG hl.1 hP hD hS (ct_X4_width ll D ta hGok v  H.size) tw_603 tw_598 tw_602 tw_601 tw_73 tw_600 (va_Decl.abs (GC_w599 hG)) ⟨by decide +kernel, by decide +kernel, by decide +kernel⟩ rfl ⟨rfl, rfl, Nat.le_of_ble_eq_true rfl, Nat.le_of_ble_eq_true rfl, Nat.le_of_ble_eq_true rfl, Nat.le_of_ble_eq_true rfl⟩ rfl (q0 := 0) rfl [0] [] rfl rfl (by decide) rfl (Nat.le_of_ble_eq_true rfl) dX7_isBlocks_2 (fun u H locs hq hP hD hS => ?_)
  refine W.eq (g2 := F0 mm 5 ls [.int (nI 16), .int (nI n)]) rfl ?_
  have hP : va_P D vwCl [(v 0, oV v)] H := hP
  have hD : va_D A [(v 0, oV v)] := hD
  refine lv_iconst (pc := 5) (v := nI 1) hx hb dX7_isBlocks_5 (by decide +kernel) ?_
  refine lv_isub (pc := 6) hx hb dX7_isBlocks_6 ?_
  refine q_top (y := nI 15) (by decide +kernel) ?_
  refine lv_iand (pc := 7) hx hb dX7_isBlocks_7 ?_
  refine q_top (y := nI (n % 16)) (q_andN (k := 4) (p := 16) (by decide) (by omega)) ?_
  refine lv_if_ne (pc := 8) (tgt := 15) hx hb dX7_isBlocks_8 (by decide) (fun c_1 => ?_) (fun c_1 => ?_)
  · skip
    rw [q_eq0 (by omega)] at c_1
    refine lv_iconst (pc := 15) (v := nI 0) hx hb dX7_isBlocks_15 (by decide +kernel) ?_
    refine q_top (y := qb false) (by first | rfl | decide +kernel | (simp; done)) ?_
    have hq_2 : (false = decide (n % 16 = 0)) := by
      symm; simp; omega
    exact hret (false) _ _ _ _ dX7_isBlocks_16 hq_2 (hP.sub [0] rfl) (hD.sub [0] (by decide) rfl) hS
  · skip
    rw [q_eq0 (by omega)] at c_1
    refine lv_iconst (pc := 11) (v := nI 1) hx hb dX7_isBlocks_11 (by decide +kernel) ?_
    refine lv_goto (pc := 12) (tgt := 16) hx hb dX7_isBlocks_12 (by decide) ?_
    refine q_top (y := qb true) (by first | rfl | decide +kernel | (simp; done)) ?_
    have hq_3 : (true = decide (n % 16 = 0)) := by
      symm; simp; omega
    exact hret (true) _ _ _ _ dX7_isBlocks_16 hq_3 (hP.sub [0] rfl) (hD.sub [0] (by decide) rfl) hS
set_option maxHeartbeats 4000000 in
set_option maxRecDepth 100000 in
theorem ct_X7_hasLevel_N (ll : Launch) (D : va_G) (ta : Nat → ClassId) (gs : Nat → Nat) (v : Nat → Nat) (l : Int32)  (sz : Nat) : CT ll yX7_hasLevel cX7_hasLevel 2 (some .boolean) ({ frames := 1, cells := 0, slots := 0, locals := 20 } : Room) D ta ((GC gs)) [.ref (v 0), .int l] [(v 0, oV v)] sz (S := Bool) (fun u => some (.int (qb u))) (fun u => (u = levB l true)) (fun u => [(v 0, oV v)]) 0 0 := by
  refine CT.of_z (r := fun u => u) rfl (by decide) (Nat.le_of_ble_eq_true rfl) ?_
  have hGok := GC_ok gs
  intro pp ee ss mm below meth kc A Q hx hb hml hown hin hts hK hA hsz hG hret H locs hP hD hS ls hl
  have hl : lv_has ls 2 [(0, .ref (v 0)), (1, .int l)] := hl
  refine lv_iload_n (pc := 0) hx hb dX7_hasLevel_0 rfl (lv_at hl 1 rfl) ?_
  refine lv_if_eq (pc := 1) (tgt := 39) hx hb dX7_hasLevel_1 (by decide) (fun c_1 => ?_) (fun c_1 => ?_)
  · skip
    refine lv_iconst (pc := 39) (v := nI 1) hx hb dX7_hasLevel_39 (by decide +kernel) ?_
    refine lv_goto (pc := 40) (tgt := 44) hx hb dX7_hasLevel_40 (by decide) ?_
    refine q_top (y := qb true) (by first | rfl | decide +kernel | (simp; done)) ?_
    have hq_2 : (true = levB l true) := by
      first | (subst_vars; decide) | (simp_all [levB, nI]; done) | (simp_all [levB, nI]; decide)
    exact hret (true) _ _ _ _ dX7_hasLevel_44 hq_2 (hP.sub [0] rfl) (hD.sub [0] (by decide) rfl) hS
  · skip
    refine lv_iload_n (pc := 4) hx hb dX7_hasLevel_4 rfl (lv_at hl 1 rfl) ?_
    refine lv_iconst (pc := 5) (v := nI 1) hx hb dX7_hasLevel_5 (by decide +kernel) ?_
    refine lv_icmp_eq (pc := 6) (tgt := 39) hx hb dX7_hasLevel_6 (by decide) (fun c_3 => ?_) (fun c_3 => ?_)
    · skip
      refine lv_iconst (pc := 39) (v := nI 1) hx hb dX7_hasLevel_39 (by decide +kernel) ?_
      refine lv_goto (pc := 40) (tgt := 44) hx hb dX7_hasLevel_40 (by decide) ?_
      refine q_top (y := qb true) (by first | rfl | decide +kernel | (simp; done)) ?_
      have hq_4 : (true = levB l true) := by
        first | (subst_vars; decide) | (simp_all [levB, nI]; done) | (simp_all [levB, nI]; decide)
      exact hret (true) _ _ _ _ dX7_hasLevel_44 hq_4 (hP.sub [0] rfl) (hD.sub [0] (by decide) rfl) hS
    · skip
      refine lv_iload_n (pc := 9) hx hb dX7_hasLevel_9 rfl (lv_at hl 1 rfl) ?_
      refine lv_iconst (pc := 10) (v := nI 3) hx hb dX7_hasLevel_10 (by decide +kernel) ?_
      refine lv_icmp_eq (pc := 11) (tgt := 39) hx hb dX7_hasLevel_11 (by decide) (fun c_5 => ?_) (fun c_5 => ?_)
      · skip
        refine lv_iconst (pc := 39) (v := nI 1) hx hb dX7_hasLevel_39 (by decide +kernel) ?_
        refine lv_goto (pc := 40) (tgt := 44) hx hb dX7_hasLevel_40 (by decide) ?_
        refine q_top (y := qb true) (by first | rfl | decide +kernel | (simp; done)) ?_
        have hq_6 : (true = levB l true) := by
          first | (subst_vars; decide) | (simp_all [levB, nI]; done) | (simp_all [levB, nI]; decide)
        exact hret (true) _ _ _ _ dX7_hasLevel_44 hq_6 (hP.sub [0] rfl) (hD.sub [0] (by decide) rfl) hS
      · skip
        refine lv_iload_n (pc := 14) hx hb dX7_hasLevel_14 rfl (lv_at hl 1 rfl) ?_
        refine lv_bipush (pc := 15) (v := nI 17) hx hb dX7_hasLevel_15 (by decide +kernel) ?_
        refine lv_icmp_eq (pc := 17) (tgt := 39) hx hb dX7_hasLevel_17 (by decide) (fun c_7 => ?_) (fun c_7 => ?_)
        · skip
          refine lv_iconst (pc := 39) (v := nI 1) hx hb dX7_hasLevel_39 (by decide +kernel) ?_
          refine lv_goto (pc := 40) (tgt := 44) hx hb dX7_hasLevel_40 (by decide) ?_
          refine q_top (y := qb true) (by first | rfl | decide +kernel | (simp; done)) ?_
          have hq_8 : (true = levB l true) := by
            first | (subst_vars; decide) | (simp_all [levB, nI]; done) | (simp_all [levB, nI]; decide)
          exact hret (true) _ _ _ _ dX7_hasLevel_44 hq_8 (hP.sub [0] rfl) (hD.sub [0] (by decide) rfl) hS
        · skip
          refine lv_iload_n (pc := 20) hx hb dX7_hasLevel_20 rfl (lv_at hl 1 rfl) ?_
          refine lv_bipush (pc := 21) (v := nI 19) hx hb dX7_hasLevel_21 (by decide +kernel) ?_
          refine lv_icmp_eq (pc := 23) (tgt := 39) hx hb dX7_hasLevel_23 (by decide) (fun c_9 => ?_) (fun c_9 => ?_)
          · skip
            refine lv_iconst (pc := 39) (v := nI 1) hx hb dX7_hasLevel_39 (by decide +kernel) ?_
            refine lv_goto (pc := 40) (tgt := 44) hx hb dX7_hasLevel_40 (by decide) ?_
            refine q_top (y := qb true) (by first | rfl | decide +kernel | (simp; done)) ?_
            have hq_10 : (true = levB l true) := by
              first | (subst_vars; decide) | (simp_all [levB, nI]; done) | (simp_all [levB, nI]; decide)
            exact hret (true) _ _ _ _ dX7_hasLevel_44 hq_10 (hP.sub [0] rfl) (hD.sub [0] (by decide) rfl) hS
          · skip
            refine lv_iload_n (pc := 26) hx hb dX7_hasLevel_26 rfl (lv_at hl 1 rfl) ?_
            refine lv_bipush (pc := 27) (v := nI 51) hx hb dX7_hasLevel_27 (by decide +kernel) ?_
            refine lv_icmp_ne (pc := 29) (tgt := 43) hx hb dX7_hasLevel_29 (by decide) (fun c_11 => ?_) (fun c_11 => ?_)
            · skip
              refine lv_iconst (pc := 43) (v := nI 0) hx hb dX7_hasLevel_43 (by decide +kernel) ?_
              refine q_top (y := qb false) (by first | rfl | decide +kernel | (simp; done)) ?_
              have hq_12 : (false = levB l true) := by
                first | (subst_vars; decide) | (simp_all [levB, nI]; done) | (simp_all [levB, nI]; decide)
              exact hret (false) _ _ _ _ dX7_hasLevel_44 hq_12 (hP.sub [0] rfl) (hD.sub [0] (by decide) rfl) hS
            · skip
              refine lv_aload_n (pc := 32) hx hb dX7_hasLevel_32 rfl (lv_at hl 0 rfl) ?_
              refine cs_U (pc := 33) (idx := 35) (n := 0) (wr := []) (As := []) (rest := []) (ci := 3) (x := ⟨"LineGuard$Rule", "hidesAnswers", "()Z"⟩) (owner := "LineGuard$Rule") hx hb hml hown hts hGok hK hA hG hl.1 hP hD hS (ct_X4_hidesAnswers ll D ta hGok v  H.size) tw_704 tw_699 tw_703 tw_702 tw_73 tw_701 (va_Decl.abs (GC_w700 hG)) ⟨by decide +kernel, by decide +kernel, by decide +kernel⟩ rfl ⟨rfl, rfl, Nat.le_of_ble_eq_true rfl, Nat.le_of_ble_eq_true rfl, Nat.le_of_ble_eq_true rfl, Nat.le_of_ble_eq_true rfl⟩ rfl (q0 := 0) rfl [0] [] rfl rfl (by decide) rfl (Nat.le_of_ble_eq_true rfl) dX7_hasLevel_33 (fun u H locs hq hP hD hS => ?_)
              refine W.eq (g2 := F0 mm 36 ls [.int (qb true)]) rfl ?_
              have hP : va_P D vwCl [(v 0, oV v)] H := hP
              have hD : va_D A [(v 0, oV v)] := hD
              refine lv_if_eq (pc := 36) (tgt := 43) hx hb dX7_hasLevel_36 (by decide) (fun c_13 => ?_) (fun c_13 => ?_)
              · skip
                rw [q_beq] at c_13
                try rw [Bool.not_eq_false] at c_13
                refine lv_iconst (pc := 43) (v := nI 0) hx hb dX7_hasLevel_43 (by decide +kernel) ?_
                refine q_top (y := qb false) (by first | rfl | decide +kernel | (simp; done)) ?_
                have hq_14 : (false = levB l true) := by
                  first | (subst_vars; decide) | (simp_all [levB, nI]; done) | (simp_all [levB, nI]; decide)
                exact hret (false) _ _ _ _ dX7_hasLevel_44 hq_14 (hP.sub [0] rfl) (hD.sub [0] (by decide) rfl) hS
              · skip
                rw [q_beq] at c_13
                try rw [Bool.not_eq_false] at c_13
                refine lv_iconst (pc := 39) (v := nI 1) hx hb dX7_hasLevel_39 (by decide +kernel) ?_
                refine lv_goto (pc := 40) (tgt := 44) hx hb dX7_hasLevel_40 (by decide) ?_
                refine q_top (y := qb true) (by first | rfl | decide +kernel | (simp; done)) ?_
                have hq_15 : (true = levB l true) := by
                  first | (subst_vars; decide) | (simp_all [levB, nI]; done) | (simp_all [levB, nI]; decide)
                exact hret (true) _ _ _ _ dX7_hasLevel_44 hq_15 (hP.sub [0] rfl) (hD.sub [0] (by decide) rfl) hS
set_option maxHeartbeats 4000000 in
set_option maxRecDepth 100000 in
theorem ct_X7_hides_N (ll : Launch) (D : va_G) (ta : Nat → ClassId) (gs : Nat → Nat) (v : Nat → Nat) (w : Nat → Nat) (st : Nat) (lv : Nat) (cnt : Nat) (cm : Bool) (gd : Nat → BitVec 8) (nd : Nat) (mk : Nat) (hmk : mk < 2147483648) (hlv : lv < 256) (hnd : nd < 2147483648) (sz : Nat) : CT ll yX7_hides cX7_hides 3 (some .boolean) ({ frames := 1, cells := 0, slots := 0, locals := 20 } : Room) D ta ((GC gs)) [.ref (v 0), .ref (w 0), .int (nI mk)] [(v 0, oV v), (w 0, oW w st lv cnt cm), (v 3, oR (v 4) nd), (v 4, aZ ta 300 gd)] sz (S := Bool) (fun u => some (.int (qb u))) (fun u => (u = hidB lv mk (qL gd nd))) (fun u => [(v 0, oV v), (w 0, oW w st lv cnt cm), (v 3, oR (v 4) nd), (v 4, aZ ta 300 gd)]) 0 0 := by
  refine CT.of_z (r := fun u => u) rfl (by decide) (Nat.le_of_ble_eq_true rfl) ?_
  have hGok := GC_ok gs
  intro pp ee ss mm below meth kc A Q hx hb hml hown hin hts hK hA hsz hG hret H locs hP hD hS ls hl
  have hl : lv_has ls 3 [(0, .ref (v 0)), (1, .ref (w 0)), (2, .int (nI mk))] := hl
  refine lv_aload_n (pc := 0) hx hb dX7_hides_0 rfl (lv_at hl 1 rfl) ?_
  refine va_getN (pc := 1) (D := D) (ci := 6) (v := .int (nI lv)) (C := RX8) (T := TX8) (N := 14) hx hb hts iu8 hown hK hP 1 rfl rfl 1 (by decide) (va_Nw.use rfl (GC_w142 hG)) (fun _ h9 => h9) rfl dX7_hides_1 ?_
  refine lv_iload_n (pc := 4) hx hb dX7_hides_4 rfl (lv_at hl 2 rfl) ?_
  have hlm : lv &&& mk ≤ mk := Nat.and_le_right
  refine lv_iand (pc := 5) hx hb dX7_hides_5 ?_
  refine q_top (y := nI (lv &&& mk)) (nI_and (by omega) (by omega)) ?_
  refine lv_if_eq (pc := 6) (tgt := 23) hx hb dX7_hides_6 (by decide) (fun c_1 => ?_) (fun c_1 => ?_)
  · skip
    rw [q_eq0 (by omega)] at c_1
    refine lv_iconst (pc := 23) (v := nI 0) hx hb dX7_hides_23 (by decide +kernel) ?_
    refine q_top (y := qb false) (by first | rfl | decide +kernel | (simp; done)) ?_
    have hq_2 : (false = hidB lv mk (qL gd nd)) := by
      symm; rw [hidB, qL_len]; simp; omega
    exact hret (false) _ _ _ _ dX7_hides_24 hq_2 (hP.sub [0, 1, 2, 3] rfl) (hD.sub [0, 1, 2, 3] (by decide) rfl) hS
  · skip
    rw [q_eq0 (by omega)] at c_1
    refine lv_aload_n (pc := 9) hx hb dX7_hides_9 rfl (lv_at hl 0 rfl) ?_
    refine va_get (pc := 10) (D := D) (ci := 3) (v := .ref (v 3)) (C := RX4) (T := TX4) (N := 7) hx hb hts iu4 hown hK hP 0 rfl rfl 1 (by decide) (hts _ tw_275) (fun _ h9 => h9) rfl dX7_hides_10 ?_
    refine cs_V (pc := 13) (idx := 49) (n := 0) (wr := [(v 0, oV v), (w 0, oW w st lv cnt cm)]) (As := []) (rest := []) (ci := 5) hx hb hml hown hts hGok hK hA hG hl.1 hP hD hS (ct_X6_size ll D ta hGok (v 3) (v 4) 300 gd nd  H.size) tw_393 tw_722 tw_391 tw_392 tw_66 hdX6_size rfl ⟨rfl, rfl, Nat.le_of_ble_eq_true rfl, Nat.le_of_ble_eq_true rfl, Nat.le_of_ble_eq_true rfl, Nat.le_of_ble_eq_true rfl⟩ rfl rfl (q0 := 2) rfl [2, 3] [0, 1] rfl rfl (by decide) rfl (Nat.le_of_ble_eq_true rfl) dX7_hides_13 (fun u H locs hq hP hD hS => ?_)
    refine W.eq (g2 := F0 mm 16 ls [.int (nI nd)]) rfl ?_
    have hP : va_P D vwCl [(v 0, oV v), (w 0, oW w st lv cnt cm), (v 3, oR (v 4) nd), (v 4, aZ ta 300 gd)] H := hP
    have hD : va_D A [(v 0, oV v), (w 0, oW w st lv cnt cm), (v 3, oR (v 4) nd), (v 4, aZ ta 300 gd)] := hD
    refine lv_if_le (pc := 16) (tgt := 23) hx hb dX7_hides_16 (by decide) (fun c_3 => ?_) (fun c_3 => ?_)
    · skip
      rw [q_le0 (by omega)] at c_3
      refine lv_iconst (pc := 23) (v := nI 0) hx hb dX7_hides_23 (by decide +kernel) ?_
      refine q_top (y := qb false) (by first | rfl | decide +kernel | (simp; done)) ?_
      have hq_4 : (false = hidB lv mk (qL gd nd)) := by
        symm; rw [hidB, qL_len]; simp; omega
      exact hret (false) _ _ _ _ dX7_hides_24 hq_4 (hP.sub [0, 1, 2, 3] rfl) (hD.sub [0, 1, 2, 3] (by decide) rfl) hS
    · skip
      rw [q_le0 (by omega)] at c_3
      refine lv_iconst (pc := 19) (v := nI 1) hx hb dX7_hides_19 (by decide +kernel) ?_
      refine lv_goto (pc := 20) (tgt := 24) hx hb dX7_hides_20 (by decide) ?_
      refine q_top (y := qb true) (by first | rfl | decide +kernel | (simp; done)) ?_
      have hq_5 : (true = hidB lv mk (qL gd nd)) := by
        symm; rw [hidB, qL_len]; simp; omega
      exact hret (true) _ _ _ _ dX7_hides_24 hq_5 (hP.sub [0, 1, 2, 3] rfl) (hD.sub [0, 1, 2, 3] (by decide) rfl) hS
set_option maxHeartbeats 4000000 in
set_option maxRecDepth 100000 in
theorem ct_X7_addHead_N (ll : Launch) (D : va_G) (ta : Nat → ClassId) {G : (Nat → Prop) → State → Heap → Prop} (hGok : GOK G) (v : Nat → Nat) (gt : Nat → BitVec 8) (nt : Nat) (hc : Nat) (bc : Nat) (capc : Nat) (gc : Nat → BitVec 8) (nc : Nat) (n : Nat) (hnt : nt + 5 ≤ 528) (hnc : 4 ≤ nc ∧ nc ≤ capc ∧ capc < 2147483648) (hn : n < 2147483000) (sz : Nat) : CT ll yX7_addHead cX7_addHead 3 none ({ frames := 2, cells := 0, slots := 0, locals := 45 } : Room) D ta G [.ref (v 0), .ref hc, .int (nI n)] [(v 0, oV v), (v 1, oR (v 2) nt), (v 2, aZ ta 528 gt), (hc, oR bc nc), (bc, aZ ta capc gc)] sz (S := (Nat → BitVec 8)) (fun _ => none) (fun u => (qL u (nt + 5) = qL gt nt ++ headL (qL gc nc) n)) (fun u => [(v 0, oV v), (v 1, oR (v 2) (nt + 5)), (v 2, aZ ta 528 u), (hc, oR bc nc), (bc, aZ ta capc gc)]) 0 0 := by
  refine CT.of_v rfl (by decide) (Nat.le_of_ble_eq_true rfl) ?_
  intro pp ee ss mm below meth kc A Q hx hb hml hown hin hts hK hA hsz hG hret H locs hP hD hS ls hl
  have hl : lv_has ls 3 [(0, .ref (v 0)), (1, .ref hc), (2, .int (nI n))] := hl
  refine lv_aload_n (pc := 0) hx hb dX7_addHead_0 rfl (lv_at hl 0 rfl) ?_
  refine va_get (pc := 1) (D := D) (ci := 3) (v := .ref (v 1)) (C := RX4) (T := TX4) (N := 7) hx hb hts iu4 hown hK hP 0 rfl rfl 0 (by decide) (hts _ tw_270) (fun _ h9 => h9) rfl dX7_addHead_1 ?_
  refine lv_aload_n (pc := 4) hx hb dX7_addHead_4 rfl (lv_at hl 1 rfl) ?_
  refine lv_iconst (pc := 5) (v := nI 0) hx hb dX7_addHead_5 (by decide +kernel) ?_
  refine cs_V (pc := 6) (idx := 52) (n := 1) (wr := [(v 0, oV v), (v 1, oR (v 2) nt), (v 2, aZ ta 528 gt)]) (As := [.int (nI 0)]) (rest := [.ref (v 1)]) (ci := 5) hx hb hml hown hts hGok hK hA hG hl.1 hP hD hS (ct_X6_at_in ll D ta hGok hc bc capc gc nc 0 (by first | assumption | omega | rfl | decide) (by first | assumption | omega | rfl | decide) (by first | assumption | omega | rfl | decide) H.size) tw_413 tw_741 tw_411 tw_412 tw_66 hdX6_at rfl ⟨rfl, rfl, Nat.le_of_ble_eq_true rfl, Nat.le_of_ble_eq_true rfl, Nat.le_of_ble_eq_true rfl, Nat.le_of_ble_eq_true rfl⟩ rfl rfl (q0 := 3) rfl [3, 4] [0, 1, 2] rfl rfl (by decide) rfl (Nat.le_of_ble_eq_true rfl) dX7_addHead_6 (fun u H locs hq hP hD hS => ?_)
  refine W.eq (g2 := F0 mm 9 ls [.int (qz (gc 0)), .ref (v 1)]) rfl ?_
  have hP : va_P D vwCl [(v 0, oV v), (v 1, oR (v 2) nt), (v 2, aZ ta 528 gt), (hc, oR bc nc), (bc, aZ ta capc gc)] H := hP
  have hD : va_D A [(v 0, oV v), (v 1, oR (v 2) nt), (v 2, aZ ta 528 gt), (hc, oR bc nc), (bc, aZ ta capc gc)] := hD
  refine lv_bipush (pc := 9) (v := (-4)) hx hb dX7_addHead_9 (by decide +kernel) ?_
  refine lv_iand (pc := 11) hx hb dX7_addHead_11 ?_
  refine lv_iconst (pc := 12) (v := nI 4) hx hb dX7_addHead_12 (by decide +kernel) ?_
  refine lv_ior (pc := 13) hx hb dX7_addHead_13 ?_
  refine cs_V (pc := 14) (idx := 56) (n := 1) (wr := [(v 0, oV v), (hc, oR bc nc), (bc, aZ ta capc gc)]) (As := [.int (((qz (gc 0)) &&& (-4)) ||| (nI 4))]) (rest := []) (ci := 5) hx hb hml hown hts hGok hK hA hG hl.1 hP hD hS (ct_X6_add ll D ta hGok (v 1) (v 2) 528 gt nt (((qz (gc 0)) &&& (-4)) ||| (nI 4)) (by first | assumption | omega | rfl | decide) (by first | assumption | omega | rfl | decide) H.size) tw_231 tw_742 tw_229 tw_230 tw_66 hdX6_add rfl ⟨rfl, rfl, Nat.le_of_ble_eq_true rfl, Nat.le_of_ble_eq_true rfl, Nat.le_of_ble_eq_true rfl, Nat.le_of_ble_eq_true rfl⟩ rfl rfl (q0 := 1) rfl [1, 2] [0, 3, 4] rfl rfl (by decide) rfl (Nat.le_of_ble_eq_true rfl) dX7_addHead_14 (fun u H locs hq hP hD hS => ?_)
  generalize u = g1_14 at hq hP hD ⊢
  have hq : (qL g1_14 (nt + 1) = qL gt nt ++ [qlo (((qz (gc 0)) &&& (-4)) ||| (nI 4))]) := hq
  have hL_14 := hq
  refine W.eq (g2 := F0 mm 17 ls []) rfl ?_
  have hP : va_P D vwCl [(v 0, oV v), (hc, oR bc nc), (bc, aZ ta capc gc), (v 1, oR (v 2) (nt + 1)), (v 2, aZ ta 528 g1_14)] H := hP
  have hD : va_D A [(v 0, oV v), (hc, oR bc nc), (bc, aZ ta capc gc), (v 1, oR (v 2) (nt + 1)), (v 2, aZ ta 528 g1_14)] := hD
  refine lv_aload_n (pc := 17) hx hb dX7_addHead_17 rfl (lv_at hl 0 rfl) ?_
  refine va_get (pc := 18) (D := D) (ci := 3) (v := .ref (v 1)) (C := RX4) (T := TX4) (N := 7) hx hb hts iu4 hown hK hP 0 rfl rfl 0 (by decide) (hts _ tw_270) (fun _ h9 => h9) rfl dX7_addHead_18 ?_
  refine lv_aload_n (pc := 21) hx hb dX7_addHead_21 rfl (lv_at hl 1 rfl) ?_
  refine lv_iconst (pc := 22) (v := nI 1) hx hb dX7_addHead_22 (by decide +kernel) ?_
  refine lv_iconst (pc := 23) (v := nI 4) hx hb dX7_addHead_23 (by decide +kernel) ?_
  refine cs_V (pc := 24) (idx := 59) (n := 3) (wr := [(v 0, oV v)]) (As := [.ref hc, .int (nI 1), .int (nI 4)]) (rest := []) (ci := 5) hx hb hml hown hts hGok hK hA hG hl.1 hP hD hS (ct_X6_addPart ll D ta hGok (v 1) (v 2) 528 g1_14 (nt + 1) hc bc capc gc nc 1 4 (by first | assumption | omega | rfl | decide) (by first | assumption | omega | rfl | decide) (by first | assumption | omega | rfl | decide) (by first | assumption | omega | rfl | decide) (by first | assumption | omega | rfl | decide) (by first | assumption | omega | rfl | decide) H.size) tw_445 tw_743 tw_443 tw_444 tw_66 hdX6_addPart rfl ⟨rfl, rfl, Nat.le_of_ble_eq_true rfl, Nat.le_of_ble_eq_true rfl, Nat.le_of_ble_eq_true rfl, Nat.le_of_ble_eq_true rfl⟩ rfl rfl (q0 := 3) rfl [3, 4, 1, 2] [0] rfl rfl (by decide) rfl (Nat.le_of_ble_eq_true rfl) dX7_addHead_24 (fun u H locs hq hP hD hS => ?_)
  obtain ⟨g1_24, n1_24⟩ := u
  have hq : (n1_24 = (nt + 1) + (min 4 nc - 1)) ∧ (qL g1_24 n1_24 = qL g1_14 (nt + 1) ++ ((qL gc nc).take 4).drop 1) := hq
  obtain ⟨hm_24, hL_24⟩ := hq
  refine W.eq (g2 := F0 mm 27 ls []) rfl ?_
  have hP : va_P D vwCl [(v 0, oV v), (v 1, oR (v 2) n1_24), (v 2, aZ ta 528 g1_24), (hc, oR bc nc), (bc, aZ ta capc gc)] H := hP
  have hD : va_D A [(v 0, oV v), (v 1, oR (v 2) n1_24), (v 2, aZ ta 528 g1_24), (hc, oR bc nc), (bc, aZ ta capc gc)] := hD
  refine lv_aload_n (pc := 27) hx hb dX7_addHead_27 rfl (lv_at hl 0 rfl) ?_
  refine va_get (pc := 28) (D := D) (ci := 3) (v := .ref (v 1)) (C := RX4) (T := TX4) (N := 7) hx hb hts iu4 hown hK hP 0 rfl rfl 0 (by decide) (hts _ tw_270) (fun _ h9 => h9) rfl dX7_addHead_28 ?_
  refine lv_iload_n (pc := 31) hx hb dX7_addHead_31 rfl (lv_at hl 2 rfl) ?_
  refine lv_bipush (pc := 32) (v := nI 8) hx hb dX7_addHead_32 (by decide +kernel) ?_
  refine lv_iadd (pc := 34) hx hb dX7_addHead_34 ?_
  refine q_top (y := nI (n + 8)) (nI_add n 8) ?_
  refine cs_V (pc := 35) (idx := 56) (n := 1) (wr := [(v 0, oV v), (hc, oR bc nc), (bc, aZ ta capc gc)]) (As := [.int (nI (n + 8))]) (rest := []) (ci := 5) hx hb hml hown hts hGok hK hA hG hl.1 hP hD hS (ct_X6_add ll D ta hGok (v 1) (v 2) 528 g1_24 n1_24 (nI (n + 8)) (by first | assumption | omega | rfl | decide) (by first | assumption | omega | rfl | decide) H.size) tw_231 tw_742 tw_229 tw_230 tw_66 hdX6_add rfl ⟨rfl, rfl, Nat.le_of_ble_eq_true rfl, Nat.le_of_ble_eq_true rfl, Nat.le_of_ble_eq_true rfl, Nat.le_of_ble_eq_true rfl⟩ rfl rfl (q0 := 1) rfl [1, 2] [0, 3, 4] rfl rfl (by decide) rfl (Nat.le_of_ble_eq_true rfl) dX7_addHead_35 (fun u H locs hq hP hD hS => ?_)
  generalize u = g1_35 at hq hP hD ⊢
  have hq : (qL g1_35 (n1_24 + 1) = qL g1_24 n1_24 ++ [qlo (nI (n + 8))]) := hq
  have hL_35 := hq
  refine W.eq (g2 := F0 mm 38 ls []) rfl ?_
  have hP : va_P D vwCl [(v 0, oV v), (hc, oR bc nc), (bc, aZ ta capc gc), (v 1, oR (v 2) (n1_24 + 1)), (v 2, aZ ta 528 g1_35)] H := hP
  have hD : va_D A [(v 0, oV v), (hc, oR bc nc), (bc, aZ ta capc gc), (v 1, oR (v 2) (n1_24 + 1)), (v 2, aZ ta 528 g1_35)] := hD
  have en_1 : nt + 4 = n1_24 := by omega
  subst en_1
  have hq_2 : (qL g1_35 (nt + 5) = qL gt nt ++ headL (qL gc nc) n) := by
    rw [hL_35, hL_24, hL_14, qlo_head, qlo_nI, headL, qL_getD (by omega)]
    simp [List.append_assoc]
  exact hret (g1_35) _ _ _ _ dX7_addHead_38 hq_2 (hP.sub [0, 3, 4, 1, 2] rfl) (hD.sub [0, 3, 4, 1, 2] (by decide) rfl) hS
set_option maxHeartbeats 4000000 in
set_option maxRecDepth 100000 in
theorem ct_X6_add_any (ll : Launch) (D : va_G) (ta : Nat → ClassId) {G : (Nat → Prop) → State → Heap → Prop} (hGok : GOK G) (h0 : Nat) (b0 : Nat) (cap : Nat) (g : Nat → BitVec 8) (n : Nat) (x : Int32) (hn : n ≤ cap) (hc : cap < 2147483648) (sz : Nat) : CT ll yX6_add cX6_add 2 none ({ frames := 0, cells := 0, slots := 0, locals := 0 } : Room) D ta G [.ref h0, .int x] [(h0, oR b0 n), (b0, aZ ta cap g)] sz (S := (Nat → BitVec 8) × Nat) (fun _ => none) (fun u => (u.2 ≤ cap)) (fun u => [(h0, oR b0 u.2), (b0, aZ ta cap u.1)]) 0 0 := by
  refine CT.of_v rfl (by decide) (Nat.le_of_ble_eq_true rfl) ?_
  intro pp ee ss mm below meth kc A Q hx hb hml hown hin hts hK hA hsz hG hret H locs hP hD hS ls hl
  have hl : lv_has ls 2 [(0, .ref h0), (1, .int x)] := hl
  refine lv_aload_n (pc := 0) hx hb dX6_add_0 rfl (lv_at hl 0 rfl) ?_
  refine va_get (pc := 1) (D := D) (ci := 5) (v := .int (nI n)) (C := RX6) (T := TX6) (N := 2) hx hb hts iu6 hown hK hP 0 rfl rfl 1 (by decide) (hts _ tw_91) (fun _ h9 => h9) rfl dX6_add_1 ?_
  refine lv_aload_n (pc := 4) hx hb dX6_add_4 rfl (lv_at hl 0 rfl) ?_
  refine va_get (pc := 5) (D := D) (ci := 5) (v := .ref b0) (C := RX6) (T := TX6) (N := 2) hx hb hts iu6 hown hK hP 0 rfl rfl 0 (by decide) (hts _ tw_90) (fun _ h9 => h9) rfl dX6_add_5 ?_
  refine va_alen (pc := 8) hx hb hK hP 1 0 rfl rfl (v := nI cap) rfl dX6_add_8 ?_
  refine lv_icmp_ge (pc := 9) (tgt := 36) hx hb dX6_add_9 (by decide) (fun c_1 => ?_) (fun c_1 => ?_)
  · skip
    rw [nI_leI (by omega) (by omega)] at c_1
    have hq_2 : (n ≤ cap) := by
      first | rfl | trivial | (refine ⟨?_, ?_⟩ <;> rfl) | (simp; done) | omega
    exact hret (⟨(g), (n)⟩ : (Nat → BitVec 8) × Nat) _ _ _ _ dX6_add_36 hq_2 (hP.sub [0, 1] rfl) (hD.sub [0, 1] (by decide) rfl) hS
  · skip
    rw [nI_leI (by omega) (by omega)] at c_1
    refine lv_aload_n (pc := 12) hx hb dX6_add_12 rfl (lv_at hl 0 rfl) ?_
    refine va_get (pc := 13) (D := D) (ci := 5) (v := .ref b0) (C := RX6) (T := TX6) (N := 2) hx hb hts iu6 hown hK hP 0 rfl rfl 0 (by decide) (hts _ tw_90) (fun _ h9 => h9) rfl dX6_add_13 ?_
    refine lv_aload_n (pc := 16) hx hb dX6_add_16 rfl (lv_at hl 0 rfl) ?_
    refine va_get (pc := 17) (D := D) (ci := 5) (v := .int (nI n)) (C := RX6) (T := TX6) (N := 2) hx hb hts iu6 hown hK hP 0 rfl rfl 1 (by decide) (hts _ tw_91) (fun _ h9 => h9) rfl dX6_add_17 ?_
    refine lv_iload_n (pc := 20) hx hb dX6_add_20 rfl (lv_at hl 1 rfl) ?_
    refine lv_sipush (pc := 21) (v := nI 255) hx hb dX6_add_21 (by decide +kernel) ?_
    refine lv_iand (pc := 24) hx hb dX6_add_24 ?_
    refine q_top (y := qz (qlo x)) (q_m255 _) ?_
    refine q_iastZ (pc := 25) hx hb hK hP hD hS 1 0 rfl rfl (k := n) rfl (by omega) (by omega) (b := qlo x) rfl dX6_add_25 (fun H locs hP hD hS => ?_)
    have hP : va_P D vwCl [(h0, oR b0 n), (b0, aZ ta cap (qU g n (qlo x)))] H := hP
    have hD : va_D A [(h0, oR b0 n), (b0, aZ ta cap (qU g n (qlo x)))] := hD
    refine lv_aload_n (pc := 26) hx hb dX6_add_26 rfl (lv_at hl 0 rfl) ?_
    refine lv_dup (pc := 27) hx hb dX6_add_27 rfl ?_
    refine va_get (pc := 28) (D := D) (ci := 5) (v := .int (nI n)) (C := RX6) (T := TX6) (N := 2) hx hb hts iu6 hown hK hP 0 rfl rfl 1 (by decide) (hts _ tw_91) (fun _ h9 => h9) rfl dX6_add_28 ?_
    refine lv_iconst (pc := 31) (v := nI 1) hx hb dX6_add_31 (by decide +kernel) ?_
    refine lv_iadd (pc := 32) hx hb dX6_add_32 ?_
    refine q_top (y := nI (n + 1)) (nI_add n 1) ?_
    refine va_put (pc := 33) (D := D) (ci := 5) (v := .int (nI (n + 1))) (ty := .int) (C := RX6) (T := TX6) (N := 2) hx hb hts iu6 tyX6 tyX6_ok nmX6 hown hK hP hD hS 0 rfl rfl 1 (by decide) (hts _ tw_91) (fun _ h9 => h9) rfl (by decide +kernel) rfl rfl (Nat.le_of_ble_eq_true rfl) dX6_add_33 (fun H locs hP hD hS => ?_)
    have hP : va_P D vwCl [(h0, oR b0 (n + 1)), (b0, aZ ta cap (qU g n (qlo x)))] H := hP
    have hD : va_D A [(h0, oR b0 (n + 1)), (b0, aZ ta cap (qU g n (qlo x)))] := hD
    have hq_3 : ((n + 1) ≤ cap) := by
      first | rfl | trivial | (refine ⟨?_, ?_⟩ <;> rfl) | (simp; done) | omega
    exact hret (⟨(qU g n (qlo x)), (n + 1)⟩ : (Nat → BitVec 8) × Nat) _ _ _ _ dX6_add_36 hq_3 (hP.sub [0, 1] rfl) (hD.sub [0, 1] (by decide) rfl) hS
set_option maxHeartbeats 4000000 in
set_option maxRecDepth 100000 in
theorem ct_X6_addPart_any (ll : Launch) (D : va_G) (ta : Nat → ClassId) {G : (Nat → Prop) → State → Heap → Prop} (hGok : GOK G) (h0 : Nat) (b0 : Nat) (cap : Nat) (g : Nat → BitVec 8) (n : Nat) (h2 : Nat) (b2 : Nat) (cap2 : Nat) (g2 : Nat → BitVec 8) (n2 : Nat) (f : Nat) (t : Nat) (hn : n ≤ cap) (hc : cap < 2147483648) (hn2 : n2 ≤ cap2) (hc2 : cap2 < 2147483648) (hf : f < 2147483648) (ht : t < 2147483648) (sz : Nat) : CT ll yX6_addPart cX6_addPart 5 none ({ frames := 1, cells := 0, slots := 0, locals := 21 } : Room) D ta G [.ref h0, .ref h2, .int (nI f), .int (nI t)] [(h0, oR b0 n), (b0, aZ ta cap g), (h2, oR b2 n2), (b2, aZ ta cap2 g2)] sz (S := (Nat → BitVec 8) × Nat) (fun _ => none) (fun u => (u.2 ≤ cap)) (fun u => [(h0, oR b0 u.2), (b0, aZ ta cap u.1), (h2, oR b2 n2), (b2, aZ ta cap2 g2)]) 0 0 := by
  refine CT.of_v rfl (by decide) (Nat.le_of_ble_eq_true rfl) ?_
  intro pp ee ss mm below meth kc A Q hx hb hml hown hin hts hK hA hsz hG hret H locs hP hD hS ls hl
  have hl : lv_has ls 5 [(0, .ref h0), (1, .ref h2), (2, .int (nI f)), (3, .int (nI t))] := hl
  refine lv_iload_n (pc := 0) hx hb dX6_addPart_0 rfl (lv_at hl 2 rfl) ?_
  refine lv_istore (pc := 1) (lv' := [(4, .int (nI f)), (0, .ref h0), (1, .ref h2), (2, .int (nI f)), (3, .int (nI t))]) hx hb dX6_addPart_1 hl (by decide) rfl (fun ls hl => ?_)
  have LP3 : ∀ (nn3 : Nat) (c : Nat) (m : Nat) (g' : Nat → BitVec 8), (f ≤ c ∧ (c = f ∨ c ≤ min t n2)) → (m ≤ cap) → (min t n2 - c < nn3) → ∀ (H : Heap) (locs : List Loc), va_P D vwCl [(h0, oR b0 m), (b0, aZ ta cap g'), (h2, oR b2 n2), (b2, aZ ta cap2 g2)] H → va_D A [(h0, oR b0 m), (b0, aZ ta cap g'), (h2, oR b2 n2), (b2, aZ ta cap2 g2)] → va_S A ss.heap H locs → ∀ ls : Array Slot, lv_has ls 5 [(4, .int (nI c)), (0, .ref h0), (1, .ref h2), (2, .int (nI f)), (3, .int (nI t))] → W pp ll ee ({ frames := 1, cells := 0, slots := 0, locals := 21 } : Room) ss mm (([.ref h0, .ref h2, .int (nI f), .int (nI t)] : List Value).toArray) below meth kc H locs 0 0 Q (F0 mm 3 ls []) := by
    intro nn3
    induction nn3 with
    | zero => intro c m g' hcc hm hmu; exact absurd hmu (Nat.not_lt_zero _)
    | succ nn3 ih3 =>
      intro c m g' hcc hm hmu3 H locs hP hD hS ls hl
      refine lv_iload (pc := 3) hx hb dX6_addPart_3 (lv_at hl 0 rfl) ?_
      refine lv_iload_n (pc := 5) hx hb dX6_addPart_5 rfl (lv_at hl 4 rfl) ?_
      refine lv_icmp_ge (pc := 6) (tgt := 34) hx hb dX6_addPart_6 (by decide) (fun c_1 => ?_) (fun c_1 => ?_)
      · skip
        rw [nI_leI (by omega) (by omega)] at c_1
        have hq_2 : (m ≤ cap) := by
          first | rfl | trivial | (refine ⟨?_, ?_⟩ <;> rfl) | (simp; done) | omega
        exact hret (⟨(g'), (m)⟩ : (Nat → BitVec 8) × Nat) _ _ _ _ dX6_addPart_34 hq_2 (hP.sub [0, 1, 2, 3] rfl) (hD.sub [0, 1, 2, 3] (by decide) rfl) hS
      · skip
        rw [nI_leI (by omega) (by omega)] at c_1
        refine lv_iload (pc := 9) hx hb dX6_addPart_9 (lv_at hl 0 rfl) ?_
        refine lv_aload_n (pc := 11) hx hb dX6_addPart_11 rfl (lv_at hl 2 rfl) ?_
        refine va_get (pc := 12) (D := D) (ci := 5) (v := .int (nI n2)) (C := RX6) (T := TX6) (N := 2) hx hb hts iu6 hown hK hP 2 rfl rfl 1 (by decide) (hts _ tw_91) (fun _ h9 => h9) rfl dX6_addPart_12 ?_
        refine lv_icmp_ge (pc := 15) (tgt := 34) hx hb dX6_addPart_15 (by decide) (fun c_3 => ?_) (fun c_3 => ?_)
        · skip
          rw [nI_leI (by omega) (by omega)] at c_3
          have hq_4 : (m ≤ cap) := by
            first | rfl | trivial | (refine ⟨?_, ?_⟩ <;> rfl) | (simp; done) | omega
          exact hret (⟨(g'), (m)⟩ : (Nat → BitVec 8) × Nat) _ _ _ _ dX6_addPart_34 hq_4 (hP.sub [0, 1, 2, 3] rfl) (hD.sub [0, 1, 2, 3] (by decide) rfl) hS
        · skip
          rw [nI_leI (by omega) (by omega)] at c_3
          refine lv_aload_n (pc := 18) hx hb dX6_addPart_18 rfl (lv_at hl 1 rfl) ?_
          refine lv_aload_n (pc := 19) hx hb dX6_addPart_19 rfl (lv_at hl 2 rfl) ?_
          refine lv_iload (pc := 20) hx hb dX6_addPart_20 (lv_at hl 0 rfl) ?_
          refine cs_V (pc := 22) (idx := 23) (n := 1) (wr := [(h0, oR b0 m), (b0, aZ ta cap g')]) (As := [.int (nI c)]) (rest := [.ref h0]) (ci := 5) hx hb hml hown hts hGok hK hA hG hl.1 hP hD hS (ct_X6_at_in ll D ta hGok h2 b2 cap2 g2 n2 c (by first | assumption | omega | rfl | decide) (by first | assumption | omega | rfl | decide) (by first | assumption | omega | rfl | decide) H.size) tw_413 tw_446 tw_411 tw_412 tw_66 hdX6_at rfl ⟨rfl, rfl, Nat.le_of_ble_eq_true rfl, Nat.le_of_ble_eq_true rfl, Nat.le_of_ble_eq_true rfl, Nat.le_of_ble_eq_true rfl⟩ rfl rfl (q0 := 2) rfl [2, 3] [0, 1] rfl rfl (by decide) rfl (Nat.le_of_ble_eq_true rfl) dX6_addPart_22 (fun u H locs hq hP hD hS => ?_)
          refine W.eq (g2 := F0 mm 25 ls [.int (qz (g2 c)), .ref h0]) rfl ?_
          have hP : va_P D vwCl [(h0, oR b0 m), (b0, aZ ta cap g'), (h2, oR b2 n2), (b2, aZ ta cap2 g2)] H := hP
          have hD : va_D A [(h0, oR b0 m), (b0, aZ ta cap g'), (h2, oR b2 n2), (b2, aZ ta cap2 g2)] := hD
          refine cs_V (pc := 25) (idx := 19) (n := 1) (wr := [(h2, oR b2 n2), (b2, aZ ta cap2 g2)]) (As := [.int (qz (g2 c))]) (rest := []) (ci := 5) hx hb hml hown hts hGok hK hA hG hl.1 hP hD hS (ct_X6_add_any ll D ta hGok h0 b0 cap g' m (qz (g2 c)) (by first | assumption | omega | rfl | decide) (by first | assumption | omega | rfl | decide) H.size) tw_231 tw_228 tw_229 tw_230 tw_66 hdX6_add rfl ⟨rfl, rfl, Nat.le_of_ble_eq_true rfl, Nat.le_of_ble_eq_true rfl, Nat.le_of_ble_eq_true rfl, Nat.le_of_ble_eq_true rfl⟩ rfl rfl (q0 := 0) rfl [0, 1] [2, 3] rfl rfl (by decide) rfl (Nat.le_of_ble_eq_true rfl) dX6_addPart_25 (fun u H locs hq hP hD hS => ?_)
          obtain ⟨g1_25, n1_25⟩ := u
          have hq : (n1_25 ≤ cap) := hq
          have hm_25 := hq
          refine W.eq (g2 := F0 mm 28 ls []) rfl ?_
          have hP : va_P D vwCl [(h2, oR b2 n2), (b2, aZ ta cap2 g2), (h0, oR b0 n1_25), (b0, aZ ta cap g1_25)] H := hP
          have hD : va_D A [(h2, oR b2 n2), (b2, aZ ta cap2 g2), (h0, oR b0 n1_25), (b0, aZ ta cap g1_25)] := hD
          refine lv_iinc (pc := 28) (v := nI (c + 1)) (lv' := [(4, .int (nI (c + 1))), (0, .ref h0), (1, .ref h2), (2, .int (nI f)), (3, .int (nI t))]) hx hb dX6_addPart_28 hl (k := 0) rfl (by first | exact nI_add c 1 | rfl) (by decide) rfl (fun ls hl => ?_)
          refine lv_goto (pc := 31) (tgt := 3) hx hb dX6_addPart_31 (by decide) ?_
          exact ih3 (c + 1) n1_25 g1_25 (by omega) (by omega) (by omega) _ _ (hP.sub [2, 3, 0, 1] rfl) (hD.sub [2, 3, 0, 1] (by decide) rfl) hS ls (lv_sub hl [0, 1, 2, 3, 4] rfl)
  exact LP3 _ f n g (by omega) (by omega) (Nat.lt_succ_self _) _ _ (hP.sub [0, 1, 2, 3] rfl) (hD.sub [0, 1, 2, 3] (by decide) rfl) hS ls (lv_sub hl [0, 1, 2, 3, 4] rfl)
set_option maxHeartbeats 4000000 in
set_option maxRecDepth 100000 in
theorem ct_X6_addAll_any (ll : Launch) (D : va_G) (ta : Nat → ClassId) {G : (Nat → Prop) → State → Heap → Prop} (hGok : GOK G) (h0 : Nat) (b0 : Nat) (cap : Nat) (g : Nat → BitVec 8) (n : Nat) (h2 : Nat) (b2 : Nat) (cap2 : Nat) (g2 : Nat → BitVec 8) (n2 : Nat) (hn : n ≤ cap) (hc : cap < 2147483648) (hn2 : n2 ≤ cap2) (hc2 : cap2 < 2147483648) (sz : Nat) : CT ll yX6_addAll cX6_addAll 2 none ({ frames := 2, cells := 0, slots := 0, locals := 45 } : Room) D ta G [.ref h0, .ref h2] [(h0, oR b0 n), (b0, aZ ta cap g), (h2, oR b2 n2), (b2, aZ ta cap2 g2)] sz (S := (Nat → BitVec 8) × Nat) (fun _ => none) (fun u => (u.2 ≤ cap)) (fun u => [(h0, oR b0 u.2), (b0, aZ ta cap u.1), (h2, oR b2 n2), (b2, aZ ta cap2 g2)]) 0 0 := by
  refine CT.of_v rfl (by decide) (Nat.le_of_ble_eq_true rfl) ?_
  intro pp ee ss mm below meth kc A Q hx hb hml hown hin hts hK hA hsz hG hret H locs hP hD hS ls hl
  have hl : lv_has ls 2 [(0, .ref h0), (1, .ref h2)] := hl
  refine lv_aload_n (pc := 0) hx hb dX6_addAll_0 rfl (lv_at hl 0 rfl) ?_
  refine lv_aload_n (pc := 1) hx hb dX6_addAll_1 rfl (lv_at hl 1 rfl) ?_
  refine lv_iconst (pc := 2) (v := nI 0) hx hb dX6_addAll_2 (by decide +kernel) ?_
  refine lv_aload_n (pc := 3) hx hb dX6_addAll_3 rfl (lv_at hl 1 rfl) ?_
  refine va_get (pc := 4) (D := D) (ci := 5) (v := .int (nI n2)) (C := RX6) (T := TX6) (N := 2) hx hb hts iu6 hown hK hP 2 rfl rfl 1 (by decide) (hts _ tw_91) (fun _ h9 => h9) rfl dX6_addAll_4 ?_
  refine cs_V (pc := 7) (idx := 27) (n := 3) (wr := []) (As := [.ref h2, .int (nI 0), .int (nI n2)]) (rest := []) (ci := 5) hx hb hml hown hts hGok hK hA hG hl.1 hP hD hS (ct_X6_addPart_any ll D ta hGok h0 b0 cap g n h2 b2 cap2 g2 n2 0 n2 (by first | assumption | omega | rfl | decide) (by first | assumption | omega | rfl | decide) (by first | assumption | omega | rfl | decide) (by first | assumption | omega | rfl | decide) (by first | assumption | omega | rfl | decide) (by first | assumption | omega | rfl | decide) H.size) tw_445 tw_442 tw_443 tw_444 tw_66 hdX6_addPart rfl ⟨rfl, rfl, Nat.le_of_ble_eq_true rfl, Nat.le_of_ble_eq_true rfl, Nat.le_of_ble_eq_true rfl, Nat.le_of_ble_eq_true rfl⟩ rfl rfl (q0 := 0) rfl [0, 1, 2, 3] [] rfl rfl (by decide) rfl (Nat.le_of_ble_eq_true rfl) dX6_addAll_7 (fun u H locs hq hP hD hS => ?_)
  obtain ⟨g1_7, n1_7⟩ := u
  have hq : (n1_7 ≤ cap) := hq
  have hm_7 := hq
  refine W.eq (g2 := F0 mm 10 ls []) rfl ?_
  have hP : va_P D vwCl [(h0, oR b0 n1_7), (b0, aZ ta cap g1_7), (h2, oR b2 n2), (b2, aZ ta cap2 g2)] H := hP
  have hD : va_D A [(h0, oR b0 n1_7), (b0, aZ ta cap g1_7), (h2, oR b2 n2), (b2, aZ ta cap2 g2)] := hD
  have hq_1 : (n1_7 ≤ cap) := by
    first | rfl | trivial | (refine ⟨?_, ?_⟩ <;> rfl) | (simp; done) | omega
  exact hret (⟨(g1_7), (n1_7)⟩ : (Nat → BitVec 8) × Nat) _ _ _ _ dX6_addAll_10 hq_1 (hP.sub [0, 1, 2, 3] rfl) (hD.sub [0, 1, 2, 3] (by decide) rfl) hS
theorem hdX7_putCommand : yX7_putCommand.cls ≠ "java/lang/invoke/MethodHandle" ∧ yX7_putCommand.cls ≠ "java/lang/invoke/VarHandle" ∧ (parseMethodDescriptor yX7_putCommand.desc).map (fun d => d.parameters.length) = some 3 := ⟨by decide +kernel, by decide +kernel, by decide +kernel⟩
theorem dX7_putCommand_0 : decode cX7_putCommand 0 = .ok (.aload_n 3, 1) := by decide +kernel
theorem dX7_putCommand_1 : decode cX7_putCommand 1 = .ok (.invokevirtual 63, 3) := by decide +kernel
theorem dX7_putCommand_4 : decode cX7_putCommand 4 = .ok (.aload_n 3, 1) := by decide +kernel
theorem dX7_putCommand_5 : decode cX7_putCommand 5 = .ok (.aload_n 1, 1) := by decide +kernel
theorem dX7_putCommand_6 : decode cX7_putCommand 6 = .ok (.iconst 0, 1) := by decide +kernel
theorem dX7_putCommand_7 : decode cX7_putCommand 7 = .ok (.invokevirtual 52, 3) := by decide +kernel
theorem dX7_putCommand_10 : decode cX7_putCommand 10 = .ok (.iconst 4, 1) := by decide +kernel
theorem dX7_putCommand_11 : decode cX7_putCommand 11 = .ok (.ior, 1) := by decide +kernel
theorem dX7_putCommand_12 : decode cX7_putCommand 12 = .ok (.invokevirtual 56, 3) := by decide +kernel
theorem dX7_putCommand_15 : decode cX7_putCommand 15 = .ok (.aload_n 3, 1) := by decide +kernel
theorem dX7_putCommand_16 : decode cX7_putCommand 16 = .ok (.aload_n 1, 1) := by decide +kernel
theorem dX7_putCommand_17 : decode cX7_putCommand 17 = .ok (.iconst 1, 1) := by decide +kernel
theorem dX7_putCommand_18 : decode cX7_putCommand 18 = .ok (.iconst 4, 1) := by decide +kernel
theorem dX7_putCommand_19 : decode cX7_putCommand 19 = .ok (.invokevirtual 59, 3) := by decide +kernel
theorem dX7_putCommand_22 : decode cX7_putCommand 22 = .ok (.aload_n 3, 1) := by decide +kernel
theorem dX7_putCommand_23 : decode cX7_putCommand 23 = .ok (.aload_n 0, 1) := by decide +kernel
theorem dX7_putCommand_24 : decode cX7_putCommand 24 = .ok (.getfield 20, 3) := by decide +kernel
theorem dX7_putCommand_27 : decode cX7_putCommand 27 = .ok (.invokevirtual 66, 3) := by decide +kernel
theorem dX7_putCommand_30 : decode cX7_putCommand 30 = .ok (.aload_n 3, 1) := by decide +kernel
theorem dX7_putCommand_31 : decode cX7_putCommand 31 = .ok (.aload_n 2, 1) := by decide +kernel
theorem dX7_putCommand_32 : decode cX7_putCommand 32 = .ok (.iconst 0, 1) := by decide +kernel
theorem dX7_putCommand_33 : decode cX7_putCommand 33 = .ok (.bipush 8, 2) := by decide +kernel
theorem dX7_putCommand_35 : decode cX7_putCommand 35 = .ok (.invokevirtual 59, 3) := by decide +kernel
theorem dX7_putCommand_38 : decode cX7_putCommand 38 = .ok (.return_, 1) := by decide +kernel
set_option maxHeartbeats 4000000 in
set_option maxRecDepth 100000 in
theorem ct_X7_putCommand_O (ll : Launch) (D : va_G) (ta : Nat → ClassId) {G : (Nat → Prop) → State → Heap → Prop} (hGok : GOK G) (o : Nat → Nat) (gd : Nat → BitVec 8) (nd : Nat) (hc : Nat) (bc : Nat) (capc : Nat) (gc : Nat → BitVec 8) (nc : Nat) (hi : Nat) (bi : Nat) (capi : Nat) (gi : Nat → BitVec 8) (ni : Nat) (hli : Nat) (bli : Nat) (capl : Nat) (gl : Nat → BitVec 8) (nl : Nat) (hnc : 4 ≤ nc ∧ nc ≤ capc ∧ capc < 2147483648) (hni : 8 ≤ ni ∧ ni ≤ capi ∧ capi < 2147483648) (hnd : nd ≤ 300) (hcl : nd + 12 ≤ capl ∧ capl < 2147483648) (sz : Nat) : CT ll yX7_putCommand cX7_putCommand 4 none ({ frames := 3, cells := 0, slots := 0, locals := 66 } : Room) D ta G [.ref (o 0), .ref hc, .ref hi, .ref hli] [(o 0, oO o), (o 3, oR (o 4) nd), (o 4, aZ ta 300 gd), (hc, oR bc nc), (bc, aZ ta capc gc), (hi, oR bi ni), (bi, aZ ta capi gi), (hli, oR bli nl), (bli, aZ ta capl gl)] sz (S := (Nat → BitVec 8)) (fun _ => none) (fun u => (qL u (nd + 12) = putC (qL gc nc) (qL gd nd) (qL gi ni))) (fun u => [(o 0, oO o), (o 3, oR (o 4) nd), (o 4, aZ ta 300 gd), (hc, oR bc nc), (bc, aZ ta capc gc), (hi, oR bi ni), (bi, aZ ta capi gi), (hli, oR bli (nd + 12)), (bli, aZ ta capl u)]) 0 0 := by
  refine CT.of_v rfl (by decide) (Nat.le_of_ble_eq_true rfl) ?_
  intro pp ee ss mm below meth kc A Q hx hb hml hown hin hts hK hA hsz hG hret H locs hP hD hS ls hl
  have hl : lv_has ls 4 [(0, .ref (o 0)), (1, .ref hc), (2, .ref hi), (3, .ref hli)] := hl
  refine lv_aload_n (pc := 0) hx hb dX7_putCommand_0 rfl (lv_at hl 3 rfl) ?_
  refine cs_V (pc := 1) (idx := 63) (n := 0) (wr := [(o 0, oO o), (o 3, oR (o 4) nd), (o 4, aZ ta 300 gd), (hc, oR bc nc), (bc, aZ ta capc gc), (hi, oR bi ni), (bi, aZ ta capi gi)]) (As := []) (rest := []) (ci := 5) hx hb hml hown hts hGok hK hA hG hl.1 hP hD hS (ct_X6_clear ll D ta hGok hli bli capl gl nl  H.size) tw_441 tw_750 tw_439 tw_440 tw_66 hdX6_clear rfl ⟨rfl, rfl, Nat.le_of_ble_eq_true rfl, Nat.le_of_ble_eq_true rfl, Nat.le_of_ble_eq_true rfl, Nat.le_of_ble_eq_true rfl⟩ rfl rfl (q0 := 7) rfl [7, 8] [0, 1, 2, 3, 4, 5, 6] rfl rfl (by decide) rfl (Nat.le_of_ble_eq_true rfl) dX7_putCommand_1 (fun u H locs hq hP hD hS => ?_)
  refine W.eq (g2 := F0 mm 4 ls []) rfl ?_
  have hP : va_P D vwCl [(o 0, oO o), (o 3, oR (o 4) nd), (o 4, aZ ta 300 gd), (hc, oR bc nc), (bc, aZ ta capc gc), (hi, oR bi ni), (bi, aZ ta capi gi), (hli, oR bli 0), (bli, aZ ta capl gl)] H := hP
  have hD : va_D A [(o 0, oO o), (o 3, oR (o 4) nd), (o 4, aZ ta 300 gd), (hc, oR bc nc), (bc, aZ ta capc gc), (hi, oR bi ni), (bi, aZ ta capi gi), (hli, oR bli 0), (bli, aZ ta capl gl)] := hD
  refine lv_aload_n (pc := 4) hx hb dX7_putCommand_4 rfl (lv_at hl 3 rfl) ?_
  refine lv_aload_n (pc := 5) hx hb dX7_putCommand_5 rfl (lv_at hl 1 rfl) ?_
  refine lv_iconst (pc := 6) (v := nI 0) hx hb dX7_putCommand_6 (by decide +kernel) ?_
  refine cs_V (pc := 7) (idx := 52) (n := 1) (wr := [(o 0, oO o), (o 3, oR (o 4) nd), (o 4, aZ ta 300 gd), (hi, oR bi ni), (bi, aZ ta capi gi), (hli, oR bli 0), (bli, aZ ta capl gl)]) (As := [.int (nI 0)]) (rest := [.ref hli]) (ci := 5) hx hb hml hown hts hGok hK hA hG hl.1 hP hD hS (ct_X6_at_in ll D ta hGok hc bc capc gc nc 0 (by first | assumption | omega | rfl | decide) (by first | assumption | omega | rfl | decide) (by first | assumption | omega | rfl | decide) H.size) tw_413 tw_741 tw_411 tw_412 tw_66 hdX6_at rfl ⟨rfl, rfl, Nat.le_of_ble_eq_true rfl, Nat.le_of_ble_eq_true rfl, Nat.le_of_ble_eq_true rfl, Nat.le_of_ble_eq_true rfl⟩ rfl rfl (q0 := 3) rfl [3, 4] [0, 1, 2, 5, 6, 7, 8] rfl rfl (by decide) rfl (Nat.le_of_ble_eq_true rfl) dX7_putCommand_7 (fun u H locs hq hP hD hS => ?_)
  refine W.eq (g2 := F0 mm 10 ls [.int (qz (gc 0)), .ref hli]) rfl ?_
  have hP : va_P D vwCl [(o 0, oO o), (o 3, oR (o 4) nd), (o 4, aZ ta 300 gd), (hi, oR bi ni), (bi, aZ ta capi gi), (hli, oR bli 0), (bli, aZ ta capl gl), (hc, oR bc nc), (bc, aZ ta capc gc)] H := hP
  have hD : va_D A [(o 0, oO o), (o 3, oR (o 4) nd), (o 4, aZ ta 300 gd), (hi, oR bi ni), (bi, aZ ta capi gi), (hli, oR bli 0), (bli, aZ ta capl gl), (hc, oR bc nc), (bc, aZ ta capc gc)] := hD
  refine lv_iconst (pc := 10) (v := nI 4) hx hb dX7_putCommand_10 (by decide +kernel) ?_
  refine lv_ior (pc := 11) hx hb dX7_putCommand_11 ?_
  refine cs_V (pc := 12) (idx := 56) (n := 1) (wr := [(o 0, oO o), (o 3, oR (o 4) nd), (o 4, aZ ta 300 gd), (hi, oR bi ni), (bi, aZ ta capi gi), (hc, oR bc nc), (bc, aZ ta capc gc)]) (As := [.int ((qz (gc 0)) ||| (nI 4))]) (rest := []) (ci := 5) hx hb hml hown hts hGok hK hA hG hl.1 hP hD hS (ct_X6_add ll D ta hGok hli bli capl gl 0 ((qz (gc 0)) ||| (nI 4)) (by first | assumption | omega | rfl | decide) (by first | assumption | omega | rfl | decide) H.size) tw_231 tw_742 tw_229 tw_230 tw_66 hdX6_add rfl ⟨rfl, rfl, Nat.le_of_ble_eq_true rfl, Nat.le_of_ble_eq_true rfl, Nat.le_of_ble_eq_true rfl, Nat.le_of_ble_eq_true rfl⟩ rfl rfl (q0 := 5) rfl [5, 6] [0, 1, 2, 3, 4, 7, 8] rfl rfl (by decide) rfl (Nat.le_of_ble_eq_true rfl) dX7_putCommand_12 (fun u H locs hq hP hD hS => ?_)
  generalize u = g1_12 at hq hP hD ⊢
  have hq : (qL g1_12 (0 + 1) = qL gl 0 ++ [qlo ((qz (gc 0)) ||| (nI 4))]) := hq
  have hL_12 := hq
  refine W.eq (g2 := F0 mm 15 ls []) rfl ?_
  have hP : va_P D vwCl [(o 0, oO o), (o 3, oR (o 4) nd), (o 4, aZ ta 300 gd), (hi, oR bi ni), (bi, aZ ta capi gi), (hc, oR bc nc), (bc, aZ ta capc gc), (hli, oR bli (0 + 1)), (bli, aZ ta capl g1_12)] H := hP
  have hD : va_D A [(o 0, oO o), (o 3, oR (o 4) nd), (o 4, aZ ta 300 gd), (hi, oR bi ni), (bi, aZ ta capi gi), (hc, oR bc nc), (bc, aZ ta capc gc), (hli, oR bli (0 + 1)), (bli, aZ ta capl g1_12)] := hD
  refine lv_aload_n (pc := 15) hx hb dX7_putCommand_15 rfl (lv_at hl 3 rfl) ?_
  refine lv_aload_n (pc := 16) hx hb dX7_putCommand_16 rfl (lv_at hl 1 rfl) ?_
  refine lv_iconst (pc := 17) (v := nI 1) hx hb dX7_putCommand_17 (by decide +kernel) ?_
  refine lv_iconst (pc := 18) (v := nI 4) hx hb dX7_putCommand_18 (by decide +kernel) ?_
  refine cs_V (pc := 19) (idx := 59) (n := 3) (wr := [(o 0, oO o), (o 3, oR (o 4) nd), (o 4, aZ ta 300 gd), (hi, oR bi ni), (bi, aZ ta capi gi)]) (As := [.ref hc, .int (nI 1), .int (nI 4)]) (rest := []) (ci := 5) hx hb hml hown hts hGok hK hA hG hl.1 hP hD hS (ct_X6_addPart ll D ta hGok hli bli capl g1_12 (0 + 1) hc bc capc gc nc 1 4 (by first | assumption | omega | rfl | decide) (by first | assumption | omega | rfl | decide) (by first | assumption | omega | rfl | decide) (by first | assumption | omega | rfl | decide) (by first | assumption | omega | rfl | decide) (by first | assumption | omega | rfl | decide) H.size) tw_445 tw_743 tw_443 tw_444 tw_66 hdX6_addPart rfl ⟨rfl, rfl, Nat.le_of_ble_eq_true rfl, Nat.le_of_ble_eq_true rfl, Nat.le_of_ble_eq_true rfl, Nat.le_of_ble_eq_true rfl⟩ rfl rfl (q0 := 7) rfl [7, 8, 5, 6] [0, 1, 2, 3, 4] rfl rfl (by decide) rfl (Nat.le_of_ble_eq_true rfl) dX7_putCommand_19 (fun u H locs hq hP hD hS => ?_)
  obtain ⟨g1_19, n1_19⟩ := u
  have hq : (n1_19 = (0 + 1) + (min 4 nc - 1)) ∧ (qL g1_19 n1_19 = qL g1_12 (0 + 1) ++ ((qL gc nc).take 4).drop 1) := hq
  obtain ⟨hm_19, hL_19⟩ := hq
  refine W.eq (g2 := F0 mm 22 ls []) rfl ?_
  have hP : va_P D vwCl [(o 0, oO o), (o 3, oR (o 4) nd), (o 4, aZ ta 300 gd), (hi, oR bi ni), (bi, aZ ta capi gi), (hli, oR bli n1_19), (bli, aZ ta capl g1_19), (hc, oR bc nc), (bc, aZ ta capc gc)] H := hP
  have hD : va_D A [(o 0, oO o), (o 3, oR (o 4) nd), (o 4, aZ ta 300 gd), (hi, oR bi ni), (bi, aZ ta capi gi), (hli, oR bli n1_19), (bli, aZ ta capl g1_19), (hc, oR bc nc), (bc, aZ ta capc gc)] := hD
  refine lv_aload_n (pc := 22) hx hb dX7_putCommand_22 rfl (lv_at hl 3 rfl) ?_
  refine lv_aload_n (pc := 23) hx hb dX7_putCommand_23 rfl (lv_at hl 0 rfl) ?_
  refine va_get (pc := 24) (D := D) (ci := 4) (v := .ref (o 3)) (C := RX5) (T := TX5) (N := 6) hx hb hts iu5 hown hK hP 0 rfl rfl 1 (by decide) (hts _ tw_275) (fun _ h9 => h9) rfl dX7_putCommand_24 ?_
  refine cs_V (pc := 27) (idx := 66) (n := 1) (wr := [(o 0, oO o), (hi, oR bi ni), (bi, aZ ta capi gi), (hc, oR bc nc), (bc, aZ ta capc gc)]) (As := [.ref (o 3)]) (rest := []) (ci := 5) hx hb hml hown hts hGok hK hA hG hl.1 hP hD hS (ct_X6_addAll ll D ta hGok hli bli capl g1_19 n1_19 (o 3) (o 4) 300 gd nd (by first | assumption | omega | rfl | decide) (by first | assumption | omega | rfl | decide) (by first | assumption | omega | rfl | decide) (by first | assumption | omega | rfl | decide) H.size) tw_501 tw_751 tw_499 tw_500 tw_66 hdX6_addAll rfl ⟨rfl, rfl, Nat.le_of_ble_eq_true rfl, Nat.le_of_ble_eq_true rfl, Nat.le_of_ble_eq_true rfl, Nat.le_of_ble_eq_true rfl⟩ rfl rfl (q0 := 5) rfl [5, 6, 1, 2] [0, 3, 4, 7, 8] rfl rfl (by decide) rfl (Nat.le_of_ble_eq_true rfl) dX7_putCommand_27 (fun u H locs hq hP hD hS => ?_)
  generalize u = g1_27 at hq hP hD ⊢
  have hq : (qL g1_27 (n1_19 + nd) = qL g1_19 n1_19 ++ qL gd nd) := hq
  have hL_27 := hq
  refine W.eq (g2 := F0 mm 30 ls []) rfl ?_
  have hP : va_P D vwCl [(o 0, oO o), (hi, oR bi ni), (bi, aZ ta capi gi), (hc, oR bc nc), (bc, aZ ta capc gc), (hli, oR bli (n1_19 + nd)), (bli, aZ ta capl g1_27), (o 3, oR (o 4) nd), (o 4, aZ ta 300 gd)] H := hP
  have hD : va_D A [(o 0, oO o), (hi, oR bi ni), (bi, aZ ta capi gi), (hc, oR bc nc), (bc, aZ ta capc gc), (hli, oR bli (n1_19 + nd)), (bli, aZ ta capl g1_27), (o 3, oR (o 4) nd), (o 4, aZ ta 300 gd)] := hD
  refine lv_aload_n (pc := 30) hx hb dX7_putCommand_30 rfl (lv_at hl 3 rfl) ?_
  refine lv_aload_n (pc := 31) hx hb dX7_putCommand_31 rfl (lv_at hl 2 rfl) ?_
  refine lv_iconst (pc := 32) (v := nI 0) hx hb dX7_putCommand_32 (by decide +kernel) ?_
  refine lv_bipush (pc := 33) (v := nI 8) hx hb dX7_putCommand_33 (by decide +kernel) ?_
  refine cs_V (pc := 35) (idx := 59) (n := 3) (wr := [(o 0, oO o), (hc, oR bc nc), (bc, aZ ta capc gc), (o 3, oR (o 4) nd), (o 4, aZ ta 300 gd)]) (As := [.ref hi, .int (nI 0), .int (nI 8)]) (rest := []) (ci := 5) hx hb hml hown hts hGok hK hA hG hl.1 hP hD hS (ct_X6_addPart ll D ta hGok hli bli capl g1_27 (n1_19 + nd) hi bi capi gi ni 0 8 (by first | assumption | omega | rfl | decide) (by first | assumption | omega | rfl | decide) (by first | assumption | omega | rfl | decide) (by first | assumption | omega | rfl | decide) (by first | assumption | omega | rfl | decide) (by first | assumption | omega | rfl | decide) H.size) tw_445 tw_743 tw_443 tw_444 tw_66 hdX6_addPart rfl ⟨rfl, rfl, Nat.le_of_ble_eq_true rfl, Nat.le_of_ble_eq_true rfl, Nat.le_of_ble_eq_true rfl, Nat.le_of_ble_eq_true rfl⟩ rfl rfl (q0 := 5) rfl [5, 6, 1, 2] [0, 3, 4, 7, 8] rfl rfl (by decide) rfl (Nat.le_of_ble_eq_true rfl) dX7_putCommand_35 (fun u H locs hq hP hD hS => ?_)
  obtain ⟨g1_35, n1_35⟩ := u
  have hq : (n1_35 = (n1_19 + nd) + (min 8 ni - 0)) ∧ (qL g1_35 n1_35 = qL g1_27 (n1_19 + nd) ++ ((qL gi ni).take 8).drop 0) := hq
  obtain ⟨hm_35, hL_35⟩ := hq
  refine W.eq (g2 := F0 mm 38 ls []) rfl ?_
  have hP : va_P D vwCl [(o 0, oO o), (hc, oR bc nc), (bc, aZ ta capc gc), (o 3, oR (o 4) nd), (o 4, aZ ta 300 gd), (hli, oR bli n1_35), (bli, aZ ta capl g1_35), (hi, oR bi ni), (bi, aZ ta capi gi)] H := hP
  have hD : va_D A [(o 0, oO o), (hc, oR bc nc), (bc, aZ ta capc gc), (o 3, oR (o 4) nd), (o 4, aZ ta 300 gd), (hli, oR bli n1_35), (bli, aZ ta capl g1_35), (hi, oR bi ni), (bi, aZ ta capi gi)] := hD
  have en_1 : 4 = n1_19 := by omega
  subst en_1
  have en_2 : nd + 12 = n1_35 := by omega
  subst en_2
  have hq_3 : (qL g1_35 (nd + 12) = putC (qL gc nc) (qL gd nd) (qL gi ni)) := by
    rw [hL_35, hL_27, hL_19, hL_12, qlo_or4, putC, qL_getD (by omega)]
    rfl
  exact hret (g1_35) _ _ _ _ dX7_putCommand_38 hq_3 (hP.sub [0, 3, 4, 1, 2, 7, 8, 5, 6] rfl) (hD.sub [0, 3, 4, 1, 2, 7, 8, 5, 6] (by decide) rfl) hS
theorem hdX7_splitCommand : yX7_splitCommand.cls ≠ "java/lang/invoke/MethodHandle" ∧ yX7_splitCommand.cls ≠ "java/lang/invoke/VarHandle" ∧ (parseMethodDescriptor yX7_splitCommand.desc).map (fun d => d.parameters.length) = some 1 := ⟨by decide +kernel, by decide +kernel, by decide +kernel⟩
theorem dX7_splitCommand_0 : decode cX7_splitCommand 0 = .ok (.aload_n 0, 1) := by decide +kernel
theorem dX7_splitCommand_1 : decode cX7_splitCommand 1 = .ok (.getfield 20, 3) := by decide +kernel
theorem dX7_splitCommand_4 : decode cX7_splitCommand 4 = .ok (.aload_n 1, 1) := by decide +kernel
theorem dX7_splitCommand_5 : decode cX7_splitCommand 5 = .ok (.iconst 4, 1) := by decide +kernel
theorem dX7_splitCommand_6 : decode cX7_splitCommand 6 = .ok (.aload_n 1, 1) := by decide +kernel
theorem dX7_splitCommand_7 : decode cX7_splitCommand 7 = .ok (.invokevirtual 49, 3) := by decide +kernel
theorem dX7_splitCommand_10 : decode cX7_splitCommand 10 = .ok (.bipush 8, 2) := by decide +kernel
theorem dX7_splitCommand_12 : decode cX7_splitCommand 12 = .ok (.isub, 1) := by decide +kernel
theorem dX7_splitCommand_13 : decode cX7_splitCommand 13 = .ok (.invokevirtual 70, 3) := by decide +kernel
theorem dX7_splitCommand_16 : decode cX7_splitCommand 16 = .ok (.aload_n 1, 1) := by decide +kernel
theorem dX7_splitCommand_17 : decode cX7_splitCommand 17 = .ok (.invokevirtual 49, 3) := by decide +kernel
theorem dX7_splitCommand_20 : decode cX7_splitCommand 20 = .ok (.bipush 12, 2) := by decide +kernel
theorem dX7_splitCommand_22 : decode cX7_splitCommand 22 = .ok (.if_icmp .lt 17, 3) := by decide +kernel
theorem dX7_splitCommand_25 : decode cX7_splitCommand 25 = .ok (.aload_n 1, 1) := by decide +kernel
theorem dX7_splitCommand_26 : decode cX7_splitCommand 26 = .ok (.iconst 0, 1) := by decide +kernel
theorem dX7_splitCommand_27 : decode cX7_splitCommand 27 = .ok (.invokevirtual 52, 3) := by decide +kernel
theorem dX7_splitCommand_30 : decode cX7_splitCommand 30 = .ok (.iconst 4, 1) := by decide +kernel
theorem dX7_splitCommand_31 : decode cX7_splitCommand 31 = .ok (.iand, 1) := by decide +kernel
theorem dX7_splitCommand_32 : decode cX7_splitCommand 32 = .ok (.ifCond .eq 7, 3) := by decide +kernel
theorem dX7_splitCommand_35 : decode cX7_splitCommand 35 = .ok (.iconst 1, 1) := by decide +kernel
theorem dX7_splitCommand_36 : decode cX7_splitCommand 36 = .ok (.goto 4, 3) := by decide +kernel
theorem dX7_splitCommand_39 : decode cX7_splitCommand 39 = .ok (.iconst 0, 1) := by decide +kernel
theorem dX7_splitCommand_40 : decode cX7_splitCommand 40 = .ok (.ireturn, 1) := by decide +kernel
set_option maxHeartbeats 4000000 in
set_option maxRecDepth 100000 in
theorem ct_X7_splitCommand_O (ll : Launch) (D : va_G) (ta : Nat → ClassId) {G : (Nat → Prop) → State → Heap → Prop} (hGok : GOK G) (o : Nat → Nat) (gd : Nat → BitVec 8) (nd : Nat) (hli : Nat) (bli : Nat) (capl : Nat) (gl : Nat → BitVec 8) (nl : Nat) (hnl : nl ≤ capl ∧ capl ≤ 300) (sz : Nat) : CT ll yX7_splitCommand cX7_splitCommand 2 (some .boolean) ({ frames := 3, cells := 0, slots := 0, locals := 68 } : Room) D ta G [.ref (o 0), .ref hli] [(o 0, oO o), (o 3, oR (o 4) nd), (o 4, aZ ta 300 gd), (hli, oR bli nl), (bli, aZ ta capl gl)] sz (S := Bool × (Nat → BitVec 8) × Nat) (fun u => some (.int (qb u.1))) (fun u => (u.1 = splB (qL gl nl)) ∧ (u.2.2 = nl - 12) ∧ (qL u.2.1 u.2.2 = midL (qL gl nl))) (fun u => [(o 0, oO o), (o 3, oR (o 4) u.2.2), (o 4, aZ ta 300 u.2.1), (hli, oR bli nl), (bli, aZ ta capl gl)]) 0 0 := by
  refine CT.of_z (r := fun u => u.1) rfl (by decide) (Nat.le_of_ble_eq_true rfl) ?_
  intro pp ee ss mm below meth kc A Q hx hb hml hown hin hts hK hA hsz hG hret H locs hP hD hS ls hl
  have hl : lv_has ls 2 [(0, .ref (o 0)), (1, .ref hli)] := hl
  refine lv_aload_n (pc := 0) hx hb dX7_splitCommand_0 rfl (lv_at hl 0 rfl) ?_
  refine va_get (pc := 1) (D := D) (ci := 4) (v := .ref (o 3)) (C := RX5) (T := TX5) (N := 6) hx hb hts iu5 hown hK hP 0 rfl rfl 1 (by decide) (hts _ tw_275) (fun _ h9 => h9) rfl dX7_splitCommand_1 ?_
  refine lv_aload_n (pc := 4) hx hb dX7_splitCommand_4 rfl (lv_at hl 1 rfl) ?_
  refine lv_iconst (pc := 5) (v := nI 4) hx hb dX7_splitCommand_5 (by decide +kernel) ?_
  refine lv_aload_n (pc := 6) hx hb dX7_splitCommand_6 rfl (lv_at hl 1 rfl) ?_
  refine cs_V (pc := 7) (idx := 49) (n := 0) (wr := [(o 0, oO o), (o 3, oR (o 4) nd), (o 4, aZ ta 300 gd)]) (As := []) (rest := [.int (nI 4), .ref hli, .ref (o 3)]) (ci := 5) hx hb hml hown hts hGok hK hA hG hl.1 hP hD hS (ct_X6_size ll D ta hGok hli bli capl gl nl  H.size) tw_393 tw_722 tw_391 tw_392 tw_66 hdX6_size rfl ⟨rfl, rfl, Nat.le_of_ble_eq_true rfl, Nat.le_of_ble_eq_true rfl, Nat.le_of_ble_eq_true rfl, Nat.le_of_ble_eq_true rfl⟩ rfl rfl (q0 := 3) rfl [3, 4] [0, 1, 2] rfl rfl (by decide) rfl (Nat.le_of_ble_eq_true rfl) dX7_splitCommand_7 (fun u H locs hq hP hD hS => ?_)
  refine W.eq (g2 := F0 mm 10 ls [.int (nI nl), .int (nI 4), .ref hli, .ref (o 3)]) rfl ?_
  have hP : va_P D vwCl [(o 0, oO o), (o 3, oR (o 4) nd), (o 4, aZ ta 300 gd), (hli, oR bli nl), (bli, aZ ta capl gl)] H := hP
  have hD : va_D A [(o 0, oO o), (o 3, oR (o 4) nd), (o 4, aZ ta 300 gd), (hli, oR bli nl), (bli, aZ ta capl gl)] := hD
  refine lv_bipush (pc := 10) (v := nI 8) hx hb dX7_splitCommand_10 (by decide +kernel) ?_
  by_cases h8 : 8 ≤ nl
  · skip
    refine lv_isub (pc := 12) hx hb dX7_splitCommand_12 ?_
    refine q_top (y := nI (nl - 8)) (pk_sub (a := nl) (b := 8) (by omega)) ?_
    refine cs_V (pc := 13) (idx := 70) (n := 3) (wr := [(o 0, oO o)]) (As := [.ref hli, .int (nI 4), .int (nI (nl - 8))]) (rest := []) (ci := 5) hx hb hml hown hts hGok hK hA hG hl.1 hP hD hS (ct_X6_copyPart ll D ta hGok (o 3) (o 4) 300 gd nd hli bli capl gl nl 4 (nl - 8) (by first | assumption | omega | rfl | decide) (by first | assumption | omega | rfl | decide) (by first | assumption | omega | rfl | decide) (by first | assumption | omega | rfl | decide) (by first | assumption | omega | rfl | decide) (by first | omega | exact nI_sub_neg (by omega) (by omega)) H.size) tw_464 tw_803 tw_462 tw_463 tw_66 hdX6_copyPart rfl ⟨rfl, rfl, Nat.le_of_ble_eq_true rfl, Nat.le_of_ble_eq_true rfl, Nat.le_of_ble_eq_true rfl, Nat.le_of_ble_eq_true rfl⟩ rfl rfl (q0 := 1) rfl [1, 2, 3, 4] [0] rfl rfl (by decide) rfl (Nat.le_of_ble_eq_true rfl) dX7_splitCommand_13 (fun u H locs hq hP hD hS => ?_)
    obtain ⟨g1_13, n1_13⟩ := u
    have hq : (n1_13 = min (nl - 8) nl - 4) ∧ (qL g1_13 n1_13 = ((qL gl nl).take (nl - 8)).drop 4) := hq
    obtain ⟨hm_13, hL_13⟩ := hq
    refine W.eq (g2 := F0 mm 16 ls []) rfl ?_
    have hP : va_P D vwCl [(o 0, oO o), (o 3, oR (o 4) n1_13), (o 4, aZ ta 300 g1_13), (hli, oR bli nl), (bli, aZ ta capl gl)] H := hP
    have hD : va_D A [(o 0, oO o), (o 3, oR (o 4) n1_13), (o 4, aZ ta 300 g1_13), (hli, oR bli nl), (bli, aZ ta capl gl)] := hD
    refine lv_aload_n (pc := 16) hx hb dX7_splitCommand_16 rfl (lv_at hl 1 rfl) ?_
    refine cs_V (pc := 17) (idx := 49) (n := 0) (wr := [(o 0, oO o), (o 3, oR (o 4) n1_13), (o 4, aZ ta 300 g1_13)]) (As := []) (rest := []) (ci := 5) hx hb hml hown hts hGok hK hA hG hl.1 hP hD hS (ct_X6_size ll D ta hGok hli bli capl gl nl  H.size) tw_393 tw_722 tw_391 tw_392 tw_66 hdX6_size rfl ⟨rfl, rfl, Nat.le_of_ble_eq_true rfl, Nat.le_of_ble_eq_true rfl, Nat.le_of_ble_eq_true rfl, Nat.le_of_ble_eq_true rfl⟩ rfl rfl (q0 := 3) rfl [3, 4] [0, 1, 2] rfl rfl (by decide) rfl (Nat.le_of_ble_eq_true rfl) dX7_splitCommand_17 (fun u H locs hq hP hD hS => ?_)
    refine W.eq (g2 := F0 mm 20 ls [.int (nI nl)]) rfl ?_
    have hP : va_P D vwCl [(o 0, oO o), (o 3, oR (o 4) n1_13), (o 4, aZ ta 300 g1_13), (hli, oR bli nl), (bli, aZ ta capl gl)] H := hP
    have hD : va_D A [(o 0, oO o), (o 3, oR (o 4) n1_13), (o 4, aZ ta 300 g1_13), (hli, oR bli nl), (bli, aZ ta capl gl)] := hD
    refine lv_bipush (pc := 20) (v := nI 12) hx hb dX7_splitCommand_20 (by decide +kernel) ?_
    refine lv_icmp_lt (pc := 22) (tgt := 39) hx hb dX7_splitCommand_22 (by decide) (fun c_1 => ?_) (fun c_1 => ?_)
    · skip
      rw [nI_ltI (by omega) (by omega)] at c_1
      refine lv_iconst (pc := 39) (v := nI 0) hx hb dX7_splitCommand_39 (by decide +kernel) ?_
      refine q_top (y := qb false) (by first | rfl | decide +kernel | (simp; done)) ?_
      have hq_2 : (false = splB (qL gl nl)) ∧ (n1_13 = nl - 12) ∧ (qL g1_13 n1_13 = midL (qL gl nl)) := by
        refine ⟨by by_cases q : 12 ≤ nl; (rw [splB_of q]; symm; simp; omega); (rw [splB_no q]; try (exfalso; omega)), by omega, ?_⟩
        first | (rw [hL_13]; exact mid_of) | (rw [midL, qL_len, show nl - 8 = 0 by omega]; rfl)
      exact hret (⟨(false), (g1_13), (n1_13)⟩ : Bool × (Nat → BitVec 8) × Nat) _ _ _ _ dX7_splitCommand_40 hq_2 (hP.sub [0, 1, 2, 3, 4] rfl) (hD.sub [0, 1, 2, 3, 4] (by decide) rfl) hS
    · skip
      rw [nI_ltI (by omega) (by omega)] at c_1
      refine lv_aload_n (pc := 25) hx hb dX7_splitCommand_25 rfl (lv_at hl 1 rfl) ?_
      refine lv_iconst (pc := 26) (v := nI 0) hx hb dX7_splitCommand_26 (by decide +kernel) ?_
      refine cs_V (pc := 27) (idx := 52) (n := 1) (wr := [(o 0, oO o), (o 3, oR (o 4) n1_13), (o 4, aZ ta 300 g1_13)]) (As := [.int (nI 0)]) (rest := []) (ci := 5) hx hb hml hown hts hGok hK hA hG hl.1 hP hD hS (ct_X6_at_in ll D ta hGok hli bli capl gl nl 0 (by first | assumption | omega | rfl | decide) (by first | assumption | omega | rfl | decide) (by first | assumption | omega | rfl | decide) H.size) tw_413 tw_741 tw_411 tw_412 tw_66 hdX6_at rfl ⟨rfl, rfl, Nat.le_of_ble_eq_true rfl, Nat.le_of_ble_eq_true rfl, Nat.le_of_ble_eq_true rfl, Nat.le_of_ble_eq_true rfl⟩ rfl rfl (q0 := 3) rfl [3, 4] [0, 1, 2] rfl rfl (by decide) rfl (Nat.le_of_ble_eq_true rfl) dX7_splitCommand_27 (fun u H locs hq hP hD hS => ?_)
      refine W.eq (g2 := F0 mm 30 ls [.int (qz (gl 0))]) rfl ?_
      have hP : va_P D vwCl [(o 0, oO o), (o 3, oR (o 4) n1_13), (o 4, aZ ta 300 g1_13), (hli, oR bli nl), (bli, aZ ta capl gl)] H := hP
      have hD : va_D A [(o 0, oO o), (o 3, oR (o 4) n1_13), (o 4, aZ ta 300 g1_13), (hli, oR bli nl), (bli, aZ ta capl gl)] := hD
      refine lv_iconst (pc := 30) (v := nI 4) hx hb dX7_splitCommand_30 (by decide +kernel) ?_
      have hlm : (gl 0).toNat &&& 4 ≤ 4 := Nat.and_le_right
      refine lv_iand (pc := 31) hx hb dX7_splitCommand_31 ?_
      refine q_top (y := nI ((gl 0).toNat &&& 4)) (qz_bit4 _) ?_
      refine lv_if_eq (pc := 32) (tgt := 39) hx hb dX7_splitCommand_32 (by decide) (fun c_3 => ?_) (fun c_3 => ?_)
      · skip
        rw [q_eq0 (by omega)] at c_3
        refine lv_iconst (pc := 39) (v := nI 0) hx hb dX7_splitCommand_39 (by decide +kernel) ?_
        refine q_top (y := qb false) (by first | rfl | decide +kernel | (simp; done)) ?_
        have hq_4 : (false = splB (qL gl nl)) ∧ (n1_13 = nl - 12) ∧ (qL g1_13 n1_13 = midL (qL gl nl)) := by
          refine ⟨by by_cases q : 12 ≤ nl; (rw [splB_of q]; symm; simp; omega); (rw [splB_no q]; try (exfalso; omega)), by omega, ?_⟩
          first | (rw [hL_13]; exact mid_of) | (rw [midL, qL_len, show nl - 8 = 0 by omega]; rfl)
        exact hret (⟨(false), (g1_13), (n1_13)⟩ : Bool × (Nat → BitVec 8) × Nat) _ _ _ _ dX7_splitCommand_40 hq_4 (hP.sub [0, 1, 2, 3, 4] rfl) (hD.sub [0, 1, 2, 3, 4] (by decide) rfl) hS
      · skip
        rw [q_eq0 (by omega)] at c_3
        refine lv_iconst (pc := 35) (v := nI 1) hx hb dX7_splitCommand_35 (by decide +kernel) ?_
        refine lv_goto (pc := 36) (tgt := 40) hx hb dX7_splitCommand_36 (by decide) ?_
        refine q_top (y := qb true) (by first | rfl | decide +kernel | (simp; done)) ?_
        have hq_5 : (true = splB (qL gl nl)) ∧ (n1_13 = nl - 12) ∧ (qL g1_13 n1_13 = midL (qL gl nl)) := by
          refine ⟨by by_cases q : 12 ≤ nl; (rw [splB_of q]; symm; simp; omega); (rw [splB_no q]; try (exfalso; omega)), by omega, ?_⟩
          first | (rw [hL_13]; exact mid_of) | (rw [midL, qL_len, show nl - 8 = 0 by omega]; rfl)
        exact hret (⟨(true), (g1_13), (n1_13)⟩ : Bool × (Nat → BitVec 8) × Nat) _ _ _ _ dX7_splitCommand_40 hq_5 (hP.sub [0, 1, 2, 3, 4] rfl) (hD.sub [0, 1, 2, 3, 4] (by decide) rfl) hS
  · skip
    refine lv_isub (pc := 12) hx hb dX7_splitCommand_12 ?_
    refine q_top (y := nI nl - nI 8) rfl ?_
    refine cs_V (pc := 13) (idx := 70) (n := 3) (wr := [(o 0, oO o)]) (As := [.ref hli, .int (nI 4), .int (nI nl - nI 8)]) (rest := []) (ci := 5) hx hb hml hown hts hGok hK hA hG hl.1 hP hD hS (ct_X6_copyPart_neg ll D ta hGok (o 3) (o 4) 300 gd nd hli bli capl gl nl 4 (nI nl - nI 8) (by first | assumption | omega | rfl | decide) (by first | omega | exact nI_sub_neg (by omega) (by omega)) H.size) tw_464 tw_803 tw_462 tw_463 tw_66 hdX6_copyPart rfl ⟨rfl, rfl, Nat.le_of_ble_eq_true rfl, Nat.le_of_ble_eq_true rfl, Nat.le_of_ble_eq_true rfl, Nat.le_of_ble_eq_true rfl⟩ rfl rfl (q0 := 1) rfl [1, 2, 3, 4] [0] rfl rfl (by decide) rfl (Nat.le_of_ble_eq_true rfl) dX7_splitCommand_13 (fun u H locs hq hP hD hS => ?_)
    refine W.eq (g2 := F0 mm 16 ls []) rfl ?_
    have hP : va_P D vwCl [(o 0, oO o), (o 3, oR (o 4) 0), (o 4, aZ ta 300 gd), (hli, oR bli nl), (bli, aZ ta capl gl)] H := hP
    have hD : va_D A [(o 0, oO o), (o 3, oR (o 4) 0), (o 4, aZ ta 300 gd), (hli, oR bli nl), (bli, aZ ta capl gl)] := hD
    refine lv_aload_n (pc := 16) hx hb dX7_splitCommand_16 rfl (lv_at hl 1 rfl) ?_
    refine cs_V (pc := 17) (idx := 49) (n := 0) (wr := [(o 0, oO o), (o 3, oR (o 4) 0), (o 4, aZ ta 300 gd)]) (As := []) (rest := []) (ci := 5) hx hb hml hown hts hGok hK hA hG hl.1 hP hD hS (ct_X6_size ll D ta hGok hli bli capl gl nl  H.size) tw_393 tw_722 tw_391 tw_392 tw_66 hdX6_size rfl ⟨rfl, rfl, Nat.le_of_ble_eq_true rfl, Nat.le_of_ble_eq_true rfl, Nat.le_of_ble_eq_true rfl, Nat.le_of_ble_eq_true rfl⟩ rfl rfl (q0 := 3) rfl [3, 4] [0, 1, 2] rfl rfl (by decide) rfl (Nat.le_of_ble_eq_true rfl) dX7_splitCommand_17 (fun u H locs hq hP hD hS => ?_)
    refine W.eq (g2 := F0 mm 20 ls [.int (nI nl)]) rfl ?_
    have hP : va_P D vwCl [(o 0, oO o), (o 3, oR (o 4) 0), (o 4, aZ ta 300 gd), (hli, oR bli nl), (bli, aZ ta capl gl)] H := hP
    have hD : va_D A [(o 0, oO o), (o 3, oR (o 4) 0), (o 4, aZ ta 300 gd), (hli, oR bli nl), (bli, aZ ta capl gl)] := hD
    refine lv_bipush (pc := 20) (v := nI 12) hx hb dX7_splitCommand_20 (by decide +kernel) ?_
    refine lv_icmp_lt (pc := 22) (tgt := 39) hx hb dX7_splitCommand_22 (by decide) (fun c_6 => ?_) (fun c_6 => ?_)
    · skip
      rw [nI_ltI (by omega) (by omega)] at c_6
      refine lv_iconst (pc := 39) (v := nI 0) hx hb dX7_splitCommand_39 (by decide +kernel) ?_
      refine q_top (y := qb false) (by first | rfl | decide +kernel | (simp; done)) ?_
      have hq_7 : (false = splB (qL gl nl)) ∧ (0 = nl - 12) ∧ (qL gd 0 = midL (qL gl nl)) := by
        refine ⟨by by_cases q : 12 ≤ nl; (rw [splB_of q]; symm; simp; omega); (rw [splB_no q]; try (exfalso; omega)), by omega, ?_⟩
        first | (rw [hL_13]; exact mid_of) | (rw [midL, qL_len, show nl - 8 = 0 by omega]; rfl)
      exact hret (⟨(false), (gd), (0)⟩ : Bool × (Nat → BitVec 8) × Nat) _ _ _ _ dX7_splitCommand_40 hq_7 (hP.sub [0, 1, 2, 3, 4] rfl) (hD.sub [0, 1, 2, 3, 4] (by decide) rfl) hS
    · skip
      rw [nI_ltI (by omega) (by omega)] at c_6
      refine lv_aload_n (pc := 25) hx hb dX7_splitCommand_25 rfl (lv_at hl 1 rfl) ?_
      refine lv_iconst (pc := 26) (v := nI 0) hx hb dX7_splitCommand_26 (by decide +kernel) ?_
      refine cs_V (pc := 27) (idx := 52) (n := 1) (wr := [(o 0, oO o), (o 3, oR (o 4) 0), (o 4, aZ ta 300 gd)]) (As := [.int (nI 0)]) (rest := []) (ci := 5) hx hb hml hown hts hGok hK hA hG hl.1 hP hD hS (ct_X6_at_in ll D ta hGok hli bli capl gl nl 0 (by first | assumption | omega | rfl | decide) (by first | assumption | omega | rfl | decide) (by first | assumption | omega | rfl | decide) H.size) tw_413 tw_741 tw_411 tw_412 tw_66 hdX6_at rfl ⟨rfl, rfl, Nat.le_of_ble_eq_true rfl, Nat.le_of_ble_eq_true rfl, Nat.le_of_ble_eq_true rfl, Nat.le_of_ble_eq_true rfl⟩ rfl rfl (q0 := 3) rfl [3, 4] [0, 1, 2] rfl rfl (by decide) rfl (Nat.le_of_ble_eq_true rfl) dX7_splitCommand_27 (fun u H locs hq hP hD hS => ?_)
      refine W.eq (g2 := F0 mm 30 ls [.int (qz (gl 0))]) rfl ?_
      have hP : va_P D vwCl [(o 0, oO o), (o 3, oR (o 4) 0), (o 4, aZ ta 300 gd), (hli, oR bli nl), (bli, aZ ta capl gl)] H := hP
      have hD : va_D A [(o 0, oO o), (o 3, oR (o 4) 0), (o 4, aZ ta 300 gd), (hli, oR bli nl), (bli, aZ ta capl gl)] := hD
      refine lv_iconst (pc := 30) (v := nI 4) hx hb dX7_splitCommand_30 (by decide +kernel) ?_
      have hlm : (gl 0).toNat &&& 4 ≤ 4 := Nat.and_le_right
      refine lv_iand (pc := 31) hx hb dX7_splitCommand_31 ?_
      refine q_top (y := nI ((gl 0).toNat &&& 4)) (qz_bit4 _) ?_
      refine lv_if_eq (pc := 32) (tgt := 39) hx hb dX7_splitCommand_32 (by decide) (fun c_8 => ?_) (fun c_8 => ?_)
      · skip
        rw [q_eq0 (by omega)] at c_8
        refine lv_iconst (pc := 39) (v := nI 0) hx hb dX7_splitCommand_39 (by decide +kernel) ?_
        refine q_top (y := qb false) (by first | rfl | decide +kernel | (simp; done)) ?_
        have hq_9 : (false = splB (qL gl nl)) ∧ (0 = nl - 12) ∧ (qL gd 0 = midL (qL gl nl)) := by
          refine ⟨by by_cases q : 12 ≤ nl; (rw [splB_of q]; symm; simp; omega); (rw [splB_no q]; try (exfalso; omega)), by omega, ?_⟩
          first | (rw [hL_13]; exact mid_of) | (rw [midL, qL_len, show nl - 8 = 0 by omega]; rfl)
        exact hret (⟨(false), (gd), (0)⟩ : Bool × (Nat → BitVec 8) × Nat) _ _ _ _ dX7_splitCommand_40 hq_9 (hP.sub [0, 1, 2, 3, 4] rfl) (hD.sub [0, 1, 2, 3, 4] (by decide) rfl) hS
      · skip
        rw [q_eq0 (by omega)] at c_8
        refine lv_iconst (pc := 35) (v := nI 1) hx hb dX7_splitCommand_35 (by decide +kernel) ?_
        refine lv_goto (pc := 36) (tgt := 40) hx hb dX7_splitCommand_36 (by decide) ?_
        refine q_top (y := qb true) (by first | rfl | decide +kernel | (simp; done)) ?_
        have hq_10 : (true = splB (qL gl nl)) ∧ (0 = nl - 12) ∧ (qL gd 0 = midL (qL gl nl)) := by
          refine ⟨by by_cases q : 12 ≤ nl; (rw [splB_of q]; symm; simp; omega); (rw [splB_no q]; try (exfalso; omega)), by omega, ?_⟩
          first | (rw [hL_13]; exact mid_of) | (rw [midL, qL_len, show nl - 8 = 0 by omega]; rfl)
        exact hret (⟨(true), (gd), (0)⟩ : Bool × (Nat → BitVec 8) × Nat) _ _ _ _ dX7_splitCommand_40 hq_10 (hP.sub [0, 1, 2, 3, 4] rfl) (hD.sub [0, 1, 2, 3, 4] (by decide) rfl) hS
theorem hdX7_joinCommand : yX7_joinCommand.cls ≠ "java/lang/invoke/MethodHandle" ∧ yX7_joinCommand.cls ≠ "java/lang/invoke/VarHandle" ∧ (parseMethodDescriptor yX7_joinCommand.desc).map (fun d => d.parameters.length) = some 2 := ⟨by decide +kernel, by decide +kernel, by decide +kernel⟩
theorem dX7_joinCommand_0 : decode cX7_joinCommand 0 = .ok (.aload_n 2, 1) := by decide +kernel
theorem dX7_joinCommand_1 : decode cX7_joinCommand 1 = .ok (.invokevirtual 63, 3) := by decide +kernel
theorem dX7_joinCommand_4 : decode cX7_joinCommand 4 = .ok (.aload_n 2, 1) := by decide +kernel
theorem dX7_joinCommand_5 : decode cX7_joinCommand 5 = .ok (.aload_n 1, 1) := by decide +kernel
theorem dX7_joinCommand_6 : decode cX7_joinCommand 6 = .ok (.iconst 0, 1) := by decide +kernel
theorem dX7_joinCommand_7 : decode cX7_joinCommand 7 = .ok (.invokevirtual 52, 3) := by decide +kernel
theorem dX7_joinCommand_10 : decode cX7_joinCommand 10 = .ok (.bipush (-5), 2) := by decide +kernel
theorem dX7_joinCommand_12 : decode cX7_joinCommand 12 = .ok (.iand, 1) := by decide +kernel
theorem dX7_joinCommand_13 : decode cX7_joinCommand 13 = .ok (.invokevirtual 56, 3) := by decide +kernel
theorem dX7_joinCommand_16 : decode cX7_joinCommand 16 = .ok (.aload_n 2, 1) := by decide +kernel
theorem dX7_joinCommand_17 : decode cX7_joinCommand 17 = .ok (.aload_n 1, 1) := by decide +kernel
theorem dX7_joinCommand_18 : decode cX7_joinCommand 18 = .ok (.iconst 1, 1) := by decide +kernel
theorem dX7_joinCommand_19 : decode cX7_joinCommand 19 = .ok (.iconst 4, 1) := by decide +kernel
theorem dX7_joinCommand_20 : decode cX7_joinCommand 20 = .ok (.invokevirtual 59, 3) := by decide +kernel
theorem dX7_joinCommand_23 : decode cX7_joinCommand 23 = .ok (.aload_n 2, 1) := by decide +kernel
theorem dX7_joinCommand_24 : decode cX7_joinCommand 24 = .ok (.aload_n 0, 1) := by decide +kernel
theorem dX7_joinCommand_25 : decode cX7_joinCommand 25 = .ok (.getfield 20, 3) := by decide +kernel
theorem dX7_joinCommand_28 : decode cX7_joinCommand 28 = .ok (.invokevirtual 66, 3) := by decide +kernel
theorem dX7_joinCommand_31 : decode cX7_joinCommand 31 = .ok (.aload_n 0, 1) := by decide +kernel
theorem dX7_joinCommand_32 : decode cX7_joinCommand 32 = .ok (.getfield 20, 3) := by decide +kernel
theorem dX7_joinCommand_35 : decode cX7_joinCommand 35 = .ok (.invokevirtual 49, 3) := by decide +kernel
theorem dX7_joinCommand_38 : decode cX7_joinCommand 38 = .ok (.sipush 200, 3) := by decide +kernel
theorem dX7_joinCommand_41 : decode cX7_joinCommand 41 = .ok (.if_icmp .gt 7, 3) := by decide +kernel
theorem dX7_joinCommand_44 : decode cX7_joinCommand 44 = .ok (.iconst 1, 1) := by decide +kernel
theorem dX7_joinCommand_45 : decode cX7_joinCommand 45 = .ok (.goto 4, 3) := by decide +kernel
theorem dX7_joinCommand_48 : decode cX7_joinCommand 48 = .ok (.iconst 0, 1) := by decide +kernel
theorem dX7_joinCommand_49 : decode cX7_joinCommand 49 = .ok (.ireturn, 1) := by decide +kernel
set_option maxHeartbeats 4000000 in
set_option maxRecDepth 100000 in
theorem ct_X7_joinCommand_O (ll : Launch) (D : va_G) (ta : Nat → ClassId) {G : (Nat → Prop) → State → Heap → Prop} (hGok : GOK G) (o : Nat → Nat) (gd : Nat → BitVec 8) (nd : Nat) (hli : Nat) (bli : Nat) (capl : Nat) (gl : Nat → BitVec 8) (nl : Nat) (hc : Nat) (bc : Nat) (capc : Nat) (gc : Nat → BitVec 8) (nc : Nat) (hnl : 4 ≤ nl ∧ nl ≤ capl ∧ capl < 2147483648) (hnd : nd ≤ 300) (hcc : 204 ≤ capc ∧ capc < 2147483648) (sz : Nat) : CT ll yX7_joinCommand cX7_joinCommand 3 (some .boolean) ({ frames := 3, cells := 0, slots := 0, locals := 66 } : Room) D ta G [.ref (o 0), .ref hli, .ref hc] [(o 0, oO o), (o 3, oR (o 4) nd), (o 4, aZ ta 300 gd), (hli, oR bli nl), (bli, aZ ta capl gl), (hc, oR bc nc), (bc, aZ ta capc gc)] sz (S := Bool × (Nat → BitVec 8) × Nat) (fun u => some (.int (qb u.1))) (fun u => (u.1 = decide (nd ≤ 200)) ∧ (u.2.2 ≤ capc) ∧ (u.1 = true → u.2.2 = nd + 4 ∧ qL u.2.1 u.2.2 = joinC (qL gl nl) (qL gd nd))) (fun u => [(o 0, oO o), (o 3, oR (o 4) nd), (o 4, aZ ta 300 gd), (hli, oR bli nl), (bli, aZ ta capl gl), (hc, oR bc u.2.2), (bc, aZ ta capc u.2.1)]) 0 0 := by
  refine CT.of_z (r := fun u => u.1) rfl (by decide) (Nat.le_of_ble_eq_true rfl) ?_
  intro pp ee ss mm below meth kc A Q hx hb hml hown hin hts hK hA hsz hG hret H locs hP hD hS ls hl
  have hl : lv_has ls 3 [(0, .ref (o 0)), (1, .ref hli), (2, .ref hc)] := hl
  refine lv_aload_n (pc := 0) hx hb dX7_joinCommand_0 rfl (lv_at hl 2 rfl) ?_
  refine cs_V (pc := 1) (idx := 63) (n := 0) (wr := [(o 0, oO o), (o 3, oR (o 4) nd), (o 4, aZ ta 300 gd), (hli, oR bli nl), (bli, aZ ta capl gl)]) (As := []) (rest := []) (ci := 5) hx hb hml hown hts hGok hK hA hG hl.1 hP hD hS (ct_X6_clear ll D ta hGok hc bc capc gc nc  H.size) tw_441 tw_750 tw_439 tw_440 tw_66 hdX6_clear rfl ⟨rfl, rfl, Nat.le_of_ble_eq_true rfl, Nat.le_of_ble_eq_true rfl, Nat.le_of_ble_eq_true rfl, Nat.le_of_ble_eq_true rfl⟩ rfl rfl (q0 := 5) rfl [5, 6] [0, 1, 2, 3, 4] rfl rfl (by decide) rfl (Nat.le_of_ble_eq_true rfl) dX7_joinCommand_1 (fun u H locs hq hP hD hS => ?_)
  refine W.eq (g2 := F0 mm 4 ls []) rfl ?_
  have hP : va_P D vwCl [(o 0, oO o), (o 3, oR (o 4) nd), (o 4, aZ ta 300 gd), (hli, oR bli nl), (bli, aZ ta capl gl), (hc, oR bc 0), (bc, aZ ta capc gc)] H := hP
  have hD : va_D A [(o 0, oO o), (o 3, oR (o 4) nd), (o 4, aZ ta 300 gd), (hli, oR bli nl), (bli, aZ ta capl gl), (hc, oR bc 0), (bc, aZ ta capc gc)] := hD
  refine lv_aload_n (pc := 4) hx hb dX7_joinCommand_4 rfl (lv_at hl 2 rfl) ?_
  refine lv_aload_n (pc := 5) hx hb dX7_joinCommand_5 rfl (lv_at hl 1 rfl) ?_
  refine lv_iconst (pc := 6) (v := nI 0) hx hb dX7_joinCommand_6 (by decide +kernel) ?_
  refine cs_V (pc := 7) (idx := 52) (n := 1) (wr := [(o 0, oO o), (o 3, oR (o 4) nd), (o 4, aZ ta 300 gd), (hc, oR bc 0), (bc, aZ ta capc gc)]) (As := [.int (nI 0)]) (rest := [.ref hc]) (ci := 5) hx hb hml hown hts hGok hK hA hG hl.1 hP hD hS (ct_X6_at_in ll D ta hGok hli bli capl gl nl 0 (by first | assumption | omega | rfl | decide) (by first | assumption | omega | rfl | decide) (by first | assumption | omega | rfl | decide) H.size) tw_413 tw_741 tw_411 tw_412 tw_66 hdX6_at rfl ⟨rfl, rfl, Nat.le_of_ble_eq_true rfl, Nat.le_of_ble_eq_true rfl, Nat.le_of_ble_eq_true rfl, Nat.le_of_ble_eq_true rfl⟩ rfl rfl (q0 := 3) rfl [3, 4] [0, 1, 2, 5, 6] rfl rfl (by decide) rfl (Nat.le_of_ble_eq_true rfl) dX7_joinCommand_7 (fun u H locs hq hP hD hS => ?_)
  refine W.eq (g2 := F0 mm 10 ls [.int (qz (gl 0)), .ref hc]) rfl ?_
  have hP : va_P D vwCl [(o 0, oO o), (o 3, oR (o 4) nd), (o 4, aZ ta 300 gd), (hc, oR bc 0), (bc, aZ ta capc gc), (hli, oR bli nl), (bli, aZ ta capl gl)] H := hP
  have hD : va_D A [(o 0, oO o), (o 3, oR (o 4) nd), (o 4, aZ ta 300 gd), (hc, oR bc 0), (bc, aZ ta capc gc), (hli, oR bli nl), (bli, aZ ta capl gl)] := hD
  refine lv_bipush (pc := 10) (v := (-5)) hx hb dX7_joinCommand_10 (by decide +kernel) ?_
  refine lv_iand (pc := 12) hx hb dX7_joinCommand_12 ?_
  refine cs_V (pc := 13) (idx := 56) (n := 1) (wr := [(o 0, oO o), (o 3, oR (o 4) nd), (o 4, aZ ta 300 gd), (hli, oR bli nl), (bli, aZ ta capl gl)]) (As := [.int ((qz (gl 0)) &&& (-5))]) (rest := []) (ci := 5) hx hb hml hown hts hGok hK hA hG hl.1 hP hD hS (ct_X6_add ll D ta hGok hc bc capc gc 0 ((qz (gl 0)) &&& (-5)) (by first | assumption | omega | rfl | decide) (by first | assumption | omega | rfl | decide) H.size) tw_231 tw_742 tw_229 tw_230 tw_66 hdX6_add rfl ⟨rfl, rfl, Nat.le_of_ble_eq_true rfl, Nat.le_of_ble_eq_true rfl, Nat.le_of_ble_eq_true rfl, Nat.le_of_ble_eq_true rfl⟩ rfl rfl (q0 := 3) rfl [3, 4] [0, 1, 2, 5, 6] rfl rfl (by decide) rfl (Nat.le_of_ble_eq_true rfl) dX7_joinCommand_13 (fun u H locs hq hP hD hS => ?_)
  generalize u = g1_13 at hq hP hD ⊢
  have hq : (qL g1_13 (0 + 1) = qL gc 0 ++ [qlo ((qz (gl 0)) &&& (-5))]) := hq
  have hL_13 := hq
  refine W.eq (g2 := F0 mm 16 ls []) rfl ?_
  have hP : va_P D vwCl [(o 0, oO o), (o 3, oR (o 4) nd), (o 4, aZ ta 300 gd), (hli, oR bli nl), (bli, aZ ta capl gl), (hc, oR bc (0 + 1)), (bc, aZ ta capc g1_13)] H := hP
  have hD : va_D A [(o 0, oO o), (o 3, oR (o 4) nd), (o 4, aZ ta 300 gd), (hli, oR bli nl), (bli, aZ ta capl gl), (hc, oR bc (0 + 1)), (bc, aZ ta capc g1_13)] := hD
  refine lv_aload_n (pc := 16) hx hb dX7_joinCommand_16 rfl (lv_at hl 2 rfl) ?_
  refine lv_aload_n (pc := 17) hx hb dX7_joinCommand_17 rfl (lv_at hl 1 rfl) ?_
  refine lv_iconst (pc := 18) (v := nI 1) hx hb dX7_joinCommand_18 (by decide +kernel) ?_
  refine lv_iconst (pc := 19) (v := nI 4) hx hb dX7_joinCommand_19 (by decide +kernel) ?_
  refine cs_V (pc := 20) (idx := 59) (n := 3) (wr := [(o 0, oO o), (o 3, oR (o 4) nd), (o 4, aZ ta 300 gd)]) (As := [.ref hli, .int (nI 1), .int (nI 4)]) (rest := []) (ci := 5) hx hb hml hown hts hGok hK hA hG hl.1 hP hD hS (ct_X6_addPart ll D ta hGok hc bc capc g1_13 (0 + 1) hli bli capl gl nl 1 4 (by first | assumption | omega | rfl | decide) (by first | assumption | omega | rfl | decide) (by first | assumption | omega | rfl | decide) (by first | assumption | omega | rfl | decide) (by first | assumption | omega | rfl | decide) (by first | assumption | omega | rfl | decide) H.size) tw_445 tw_743 tw_443 tw_444 tw_66 hdX6_addPart rfl ⟨rfl, rfl, Nat.le_of_ble_eq_true rfl, Nat.le_of_ble_eq_true rfl, Nat.le_of_ble_eq_true rfl, Nat.le_of_ble_eq_true rfl⟩ rfl rfl (q0 := 5) rfl [5, 6, 3, 4] [0, 1, 2] rfl rfl (by decide) rfl (Nat.le_of_ble_eq_true rfl) dX7_joinCommand_20 (fun u H locs hq hP hD hS => ?_)
  obtain ⟨g1_20, n1_20⟩ := u
  have hq : (n1_20 = (0 + 1) + (min 4 nl - 1)) ∧ (qL g1_20 n1_20 = qL g1_13 (0 + 1) ++ ((qL gl nl).take 4).drop 1) := hq
  obtain ⟨hm_20, hL_20⟩ := hq
  refine W.eq (g2 := F0 mm 23 ls []) rfl ?_
  have hP : va_P D vwCl [(o 0, oO o), (o 3, oR (o 4) nd), (o 4, aZ ta 300 gd), (hc, oR bc n1_20), (bc, aZ ta capc g1_20), (hli, oR bli nl), (bli, aZ ta capl gl)] H := hP
  have hD : va_D A [(o 0, oO o), (o 3, oR (o 4) nd), (o 4, aZ ta 300 gd), (hc, oR bc n1_20), (bc, aZ ta capc g1_20), (hli, oR bli nl), (bli, aZ ta capl gl)] := hD
  refine lv_aload_n (pc := 23) hx hb dX7_joinCommand_23 rfl (lv_at hl 2 rfl) ?_
  refine lv_aload_n (pc := 24) hx hb dX7_joinCommand_24 rfl (lv_at hl 0 rfl) ?_
  refine va_get (pc := 25) (D := D) (ci := 4) (v := .ref (o 3)) (C := RX5) (T := TX5) (N := 6) hx hb hts iu5 hown hK hP 0 rfl rfl 1 (by decide) (hts _ tw_275) (fun _ h9 => h9) rfl dX7_joinCommand_25 ?_
  have en_1 : 4 = n1_20 := by omega
  subst en_1
  by_cases h200 : nd ≤ 200
  · skip
    refine cs_V (pc := 28) (idx := 66) (n := 1) (wr := [(o 0, oO o), (hli, oR bli nl), (bli, aZ ta capl gl)]) (As := [.ref (o 3)]) (rest := []) (ci := 5) hx hb hml hown hts hGok hK hA hG hl.1 hP hD hS (ct_X6_addAll ll D ta hGok hc bc capc g1_20 4 (o 3) (o 4) 300 gd nd (by first | assumption | omega | rfl | decide) (by first | assumption | omega | rfl | decide) (by first | assumption | omega | rfl | decide) (by first | assumption | omega | rfl | decide) H.size) tw_501 tw_751 tw_499 tw_500 tw_66 hdX6_addAll rfl ⟨rfl, rfl, Nat.le_of_ble_eq_true rfl, Nat.le_of_ble_eq_true rfl, Nat.le_of_ble_eq_true rfl, Nat.le_of_ble_eq_true rfl⟩ rfl rfl (q0 := 3) rfl [3, 4, 1, 2] [0, 5, 6] rfl rfl (by decide) rfl (Nat.le_of_ble_eq_true rfl) dX7_joinCommand_28 (fun u H locs hq hP hD hS => ?_)
    generalize u = g1_28 at hq hP hD ⊢
    have hq : (qL g1_28 (4 + nd) = qL g1_20 4 ++ qL gd nd) := hq
    have hL_28 := hq
    refine W.eq (g2 := F0 mm 31 ls []) rfl ?_
    have hP : va_P D vwCl [(o 0, oO o), (hli, oR bli nl), (bli, aZ ta capl gl), (hc, oR bc (4 + nd)), (bc, aZ ta capc g1_28), (o 3, oR (o 4) nd), (o 4, aZ ta 300 gd)] H := hP
    have hD : va_D A [(o 0, oO o), (hli, oR bli nl), (bli, aZ ta capl gl), (hc, oR bc (4 + nd)), (bc, aZ ta capc g1_28), (o 3, oR (o 4) nd), (o 4, aZ ta 300 gd)] := hD
    refine lv_aload_n (pc := 31) hx hb dX7_joinCommand_31 rfl (lv_at hl 0 rfl) ?_
    refine va_get (pc := 32) (D := D) (ci := 4) (v := .ref (o 3)) (C := RX5) (T := TX5) (N := 6) hx hb hts iu5 hown hK hP 0 rfl rfl 1 (by decide) (hts _ tw_275) (fun _ h9 => h9) rfl dX7_joinCommand_32 ?_
    refine cs_V (pc := 35) (idx := 49) (n := 0) (wr := [(o 0, oO o), (hli, oR bli nl), (bli, aZ ta capl gl), (hc, oR bc (4 + nd)), (bc, aZ ta capc g1_28)]) (As := []) (rest := []) (ci := 5) hx hb hml hown hts hGok hK hA hG hl.1 hP hD hS (ct_X6_size ll D ta hGok (o 3) (o 4) 300 gd nd  H.size) tw_393 tw_722 tw_391 tw_392 tw_66 hdX6_size rfl ⟨rfl, rfl, Nat.le_of_ble_eq_true rfl, Nat.le_of_ble_eq_true rfl, Nat.le_of_ble_eq_true rfl, Nat.le_of_ble_eq_true rfl⟩ rfl rfl (q0 := 5) rfl [5, 6] [0, 1, 2, 3, 4] rfl rfl (by decide) rfl (Nat.le_of_ble_eq_true rfl) dX7_joinCommand_35 (fun u H locs hq hP hD hS => ?_)
    refine W.eq (g2 := F0 mm 38 ls [.int (nI nd)]) rfl ?_
    have hP : va_P D vwCl [(o 0, oO o), (hli, oR bli nl), (bli, aZ ta capl gl), (hc, oR bc (4 + nd)), (bc, aZ ta capc g1_28), (o 3, oR (o 4) nd), (o 4, aZ ta 300 gd)] H := hP
    have hD : va_D A [(o 0, oO o), (hli, oR bli nl), (bli, aZ ta capl gl), (hc, oR bc (4 + nd)), (bc, aZ ta capc g1_28), (o 3, oR (o 4) nd), (o 4, aZ ta 300 gd)] := hD
    refine lv_sipush (pc := 38) (v := nI 200) hx hb dX7_joinCommand_38 (by decide +kernel) ?_
    refine lv_icmp_gt (pc := 41) (tgt := 48) hx hb dX7_joinCommand_41 (by decide) (fun c_2 => ?_) (fun c_2 => ?_)
    · skip
      rw [nI_ltI (by omega) (by omega)] at c_2
      refine lv_iconst (pc := 48) (v := nI 0) hx hb dX7_joinCommand_48 (by decide +kernel) ?_
      refine q_top (y := qb false) (by first | rfl | decide +kernel | (simp; done)) ?_
      have hq_3 : (false = decide (nd ≤ 200)) ∧ ((4 + nd) ≤ capc) ∧ (false = true → (4 + nd) = nd + 4 ∧ qL g1_28 (4 + nd) = joinC (qL gl nl) (qL gd nd)) := by
        refine ⟨by symm; simp; omega, by omega, fun hh => ?_⟩
        first | (cases hh; done) | (exfalso; omega) | (refine ⟨by omega, ?_⟩; rw [hL_28, hL_20, hL_13, qlo_m5, joinC, qL_getD (by omega)]; rfl)
      exact hret (⟨(false), (g1_28), (4 + nd)⟩ : Bool × (Nat → BitVec 8) × Nat) _ _ _ _ dX7_joinCommand_49 hq_3 (hP.sub [0, 5, 6, 1, 2, 3, 4] rfl) (hD.sub [0, 5, 6, 1, 2, 3, 4] (by decide) rfl) hS
    · skip
      rw [nI_ltI (by omega) (by omega)] at c_2
      refine lv_iconst (pc := 44) (v := nI 1) hx hb dX7_joinCommand_44 (by decide +kernel) ?_
      refine lv_goto (pc := 45) (tgt := 49) hx hb dX7_joinCommand_45 (by decide) ?_
      refine q_top (y := qb true) (by first | rfl | decide +kernel | (simp; done)) ?_
      have hq_4 : (true = decide (nd ≤ 200)) ∧ ((4 + nd) ≤ capc) ∧ (true = true → (4 + nd) = nd + 4 ∧ qL g1_28 (4 + nd) = joinC (qL gl nl) (qL gd nd)) := by
        refine ⟨by symm; simp; omega, by omega, fun hh => ?_⟩
        first | (cases hh; done) | (exfalso; omega) | (refine ⟨by omega, ?_⟩; rw [hL_28, hL_20, hL_13, qlo_m5, joinC, qL_getD (by omega)]; rfl)
      exact hret (⟨(true), (g1_28), (4 + nd)⟩ : Bool × (Nat → BitVec 8) × Nat) _ _ _ _ dX7_joinCommand_49 hq_4 (hP.sub [0, 5, 6, 1, 2, 3, 4] rfl) (hD.sub [0, 5, 6, 1, 2, 3, 4] (by decide) rfl) hS
  · skip
    refine cs_V (pc := 28) (idx := 66) (n := 1) (wr := [(o 0, oO o), (hli, oR bli nl), (bli, aZ ta capl gl)]) (As := [.ref (o 3)]) (rest := []) (ci := 5) hx hb hml hown hts hGok hK hA hG hl.1 hP hD hS (ct_X6_addAll_any ll D ta hGok hc bc capc g1_20 4 (o 3) (o 4) 300 gd nd (by first | assumption | omega | rfl | decide) (by first | assumption | omega | rfl | decide) (by first | assumption | omega | rfl | decide) (by first | assumption | omega | rfl | decide) H.size) tw_501 tw_751 tw_499 tw_500 tw_66 hdX6_addAll rfl ⟨rfl, rfl, Nat.le_of_ble_eq_true rfl, Nat.le_of_ble_eq_true rfl, Nat.le_of_ble_eq_true rfl, Nat.le_of_ble_eq_true rfl⟩ rfl rfl (q0 := 3) rfl [3, 4, 1, 2] [0, 5, 6] rfl rfl (by decide) rfl (Nat.le_of_ble_eq_true rfl) dX7_joinCommand_28 (fun u H locs hq hP hD hS => ?_)
    obtain ⟨g1_28, n1_28⟩ := u
    have hq : (n1_28 ≤ capc) := hq
    have hm_28 := hq
    refine W.eq (g2 := F0 mm 31 ls []) rfl ?_
    have hP : va_P D vwCl [(o 0, oO o), (hli, oR bli nl), (bli, aZ ta capl gl), (hc, oR bc n1_28), (bc, aZ ta capc g1_28), (o 3, oR (o 4) nd), (o 4, aZ ta 300 gd)] H := hP
    have hD : va_D A [(o 0, oO o), (hli, oR bli nl), (bli, aZ ta capl gl), (hc, oR bc n1_28), (bc, aZ ta capc g1_28), (o 3, oR (o 4) nd), (o 4, aZ ta 300 gd)] := hD
    refine lv_aload_n (pc := 31) hx hb dX7_joinCommand_31 rfl (lv_at hl 0 rfl) ?_
    refine va_get (pc := 32) (D := D) (ci := 4) (v := .ref (o 3)) (C := RX5) (T := TX5) (N := 6) hx hb hts iu5 hown hK hP 0 rfl rfl 1 (by decide) (hts _ tw_275) (fun _ h9 => h9) rfl dX7_joinCommand_32 ?_
    refine cs_V (pc := 35) (idx := 49) (n := 0) (wr := [(o 0, oO o), (hli, oR bli nl), (bli, aZ ta capl gl), (hc, oR bc n1_28), (bc, aZ ta capc g1_28)]) (As := []) (rest := []) (ci := 5) hx hb hml hown hts hGok hK hA hG hl.1 hP hD hS (ct_X6_size ll D ta hGok (o 3) (o 4) 300 gd nd  H.size) tw_393 tw_722 tw_391 tw_392 tw_66 hdX6_size rfl ⟨rfl, rfl, Nat.le_of_ble_eq_true rfl, Nat.le_of_ble_eq_true rfl, Nat.le_of_ble_eq_true rfl, Nat.le_of_ble_eq_true rfl⟩ rfl rfl (q0 := 5) rfl [5, 6] [0, 1, 2, 3, 4] rfl rfl (by decide) rfl (Nat.le_of_ble_eq_true rfl) dX7_joinCommand_35 (fun u H locs hq hP hD hS => ?_)
    refine W.eq (g2 := F0 mm 38 ls [.int (nI nd)]) rfl ?_
    have hP : va_P D vwCl [(o 0, oO o), (hli, oR bli nl), (bli, aZ ta capl gl), (hc, oR bc n1_28), (bc, aZ ta capc g1_28), (o 3, oR (o 4) nd), (o 4, aZ ta 300 gd)] H := hP
    have hD : va_D A [(o 0, oO o), (hli, oR bli nl), (bli, aZ ta capl gl), (hc, oR bc n1_28), (bc, aZ ta capc g1_28), (o 3, oR (o 4) nd), (o 4, aZ ta 300 gd)] := hD
    refine lv_sipush (pc := 38) (v := nI 200) hx hb dX7_joinCommand_38 (by decide +kernel) ?_
    refine lv_icmp_gt (pc := 41) (tgt := 48) hx hb dX7_joinCommand_41 (by decide) (fun c_5 => ?_) (fun c_5 => ?_)
    · skip
      rw [nI_ltI (by omega) (by omega)] at c_5
      refine lv_iconst (pc := 48) (v := nI 0) hx hb dX7_joinCommand_48 (by decide +kernel) ?_
      refine q_top (y := qb false) (by first | rfl | decide +kernel | (simp; done)) ?_
      have hq_6 : (false = decide (nd ≤ 200)) ∧ (n1_28 ≤ capc) ∧ (false = true → n1_28 = nd + 4 ∧ qL g1_28 n1_28 = joinC (qL gl nl) (qL gd nd)) := by
        refine ⟨by symm; simp; omega, by omega, fun hh => ?_⟩
        first | (cases hh; done) | (exfalso; omega) | (refine ⟨by omega, ?_⟩; rw [hL_28, hL_20, hL_13, qlo_m5, joinC, qL_getD (by omega)]; rfl)
      exact hret (⟨(false), (g1_28), (n1_28)⟩ : Bool × (Nat → BitVec 8) × Nat) _ _ _ _ dX7_joinCommand_49 hq_6 (hP.sub [0, 5, 6, 1, 2, 3, 4] rfl) (hD.sub [0, 5, 6, 1, 2, 3, 4] (by decide) rfl) hS
    · skip
      rw [nI_ltI (by omega) (by omega)] at c_5
      refine lv_iconst (pc := 44) (v := nI 1) hx hb dX7_joinCommand_44 (by decide +kernel) ?_
      refine lv_goto (pc := 45) (tgt := 49) hx hb dX7_joinCommand_45 (by decide) ?_
      refine q_top (y := qb true) (by first | rfl | decide +kernel | (simp; done)) ?_
      have hq_7 : (true = decide (nd ≤ 200)) ∧ (n1_28 ≤ capc) ∧ (true = true → n1_28 = nd + 4 ∧ qL g1_28 n1_28 = joinC (qL gl nl) (qL gd nd)) := by
        refine ⟨by symm; simp; omega, by omega, fun hh => ?_⟩
        first | (cases hh; done) | (exfalso; omega) | (refine ⟨by omega, ?_⟩; rw [hL_28, hL_20, hL_13, qlo_m5, joinC, qL_getD (by omega)]; rfl)
      exact hret (⟨(true), (g1_28), (n1_28)⟩ : Bool × (Nat → BitVec 8) × Nat) _ _ _ _ dX7_joinCommand_49 hq_7 (hP.sub [0, 5, 6, 1, 2, 3, 4] rfl) (hD.sub [0, 5, 6, 1, 2, 3, 4] (by decide) rfl) hS
theorem hdX7_splitAnswer : yX7_splitAnswer.cls ≠ "java/lang/invoke/MethodHandle" ∧ yX7_splitAnswer.cls ≠ "java/lang/invoke/VarHandle" ∧ (parseMethodDescriptor yX7_splitAnswer.desc).map (fun d => d.parameters.length) = some 1 := ⟨by decide +kernel, by decide +kernel, by decide +kernel⟩
theorem dX7_splitAnswer_0 : decode cX7_splitAnswer 0 = .ok (.aload_n 0, 1) := by decide +kernel
theorem dX7_splitAnswer_1 : decode cX7_splitAnswer 1 = .ok (.getfield 20, 3) := by decide +kernel
theorem dX7_splitAnswer_4 : decode cX7_splitAnswer 4 = .ok (.aload_n 1, 1) := by decide +kernel
theorem dX7_splitAnswer_5 : decode cX7_splitAnswer 5 = .ok (.iconst 0, 1) := by decide +kernel
theorem dX7_splitAnswer_6 : decode cX7_splitAnswer 6 = .ok (.aload_n 1, 1) := by decide +kernel
theorem dX7_splitAnswer_7 : decode cX7_splitAnswer 7 = .ok (.invokevirtual 49, 3) := by decide +kernel
theorem dX7_splitAnswer_10 : decode cX7_splitAnswer 10 = .ok (.bipush 8, 2) := by decide +kernel
theorem dX7_splitAnswer_12 : decode cX7_splitAnswer 12 = .ok (.isub, 1) := by decide +kernel
theorem dX7_splitAnswer_13 : decode cX7_splitAnswer 13 = .ok (.invokevirtual 70, 3) := by decide +kernel
theorem dX7_splitAnswer_16 : decode cX7_splitAnswer 16 = .ok (.aload_n 1, 1) := by decide +kernel
theorem dX7_splitAnswer_17 : decode cX7_splitAnswer 17 = .ok (.invokevirtual 49, 3) := by decide +kernel
theorem dX7_splitAnswer_20 : decode cX7_splitAnswer 20 = .ok (.bipush 8, 2) := by decide +kernel
theorem dX7_splitAnswer_22 : decode cX7_splitAnswer 22 = .ok (.if_icmp .lt 7, 3) := by decide +kernel
theorem dX7_splitAnswer_25 : decode cX7_splitAnswer 25 = .ok (.iconst 1, 1) := by decide +kernel
theorem dX7_splitAnswer_26 : decode cX7_splitAnswer 26 = .ok (.goto 4, 3) := by decide +kernel
theorem dX7_splitAnswer_29 : decode cX7_splitAnswer 29 = .ok (.iconst 0, 1) := by decide +kernel
theorem dX7_splitAnswer_30 : decode cX7_splitAnswer 30 = .ok (.ireturn, 1) := by decide +kernel
set_option maxHeartbeats 4000000 in
set_option maxRecDepth 100000 in
theorem ct_X7_splitAnswer_O (ll : Launch) (D : va_G) (ta : Nat → ClassId) {G : (Nat → Prop) → State → Heap → Prop} (hGok : GOK G) (o : Nat → Nat) (gd : Nat → BitVec 8) (nd : Nat) (hli : Nat) (bli : Nat) (capl : Nat) (gl : Nat → BitVec 8) (nl : Nat) (hnl : nl ≤ capl ∧ capl ≤ 300) (sz : Nat) : CT ll yX7_splitAnswer cX7_splitAnswer 2 (some .boolean) ({ frames := 3, cells := 0, slots := 0, locals := 68 } : Room) D ta G [.ref (o 0), .ref hli] [(o 0, oO o), (o 3, oR (o 4) nd), (o 4, aZ ta 300 gd), (hli, oR bli nl), (bli, aZ ta capl gl)] sz (S := Bool × (Nat → BitVec 8) × Nat) (fun u => some (.int (qb u.1))) (fun u => (u.1 = decide (8 ≤ nl)) ∧ (u.2.2 = nl - 8) ∧ (qL u.2.1 u.2.2 = (qL gl nl).take (nl - 8))) (fun u => [(o 0, oO o), (o 3, oR (o 4) u.2.2), (o 4, aZ ta 300 u.2.1), (hli, oR bli nl), (bli, aZ ta capl gl)]) 0 0 := by
  refine CT.of_z (r := fun u => u.1) rfl (by decide) (Nat.le_of_ble_eq_true rfl) ?_
  intro pp ee ss mm below meth kc A Q hx hb hml hown hin hts hK hA hsz hG hret H locs hP hD hS ls hl
  have hl : lv_has ls 2 [(0, .ref (o 0)), (1, .ref hli)] := hl
  refine lv_aload_n (pc := 0) hx hb dX7_splitAnswer_0 rfl (lv_at hl 0 rfl) ?_
  refine va_get (pc := 1) (D := D) (ci := 4) (v := .ref (o 3)) (C := RX5) (T := TX5) (N := 6) hx hb hts iu5 hown hK hP 0 rfl rfl 1 (by decide) (hts _ tw_275) (fun _ h9 => h9) rfl dX7_splitAnswer_1 ?_
  refine lv_aload_n (pc := 4) hx hb dX7_splitAnswer_4 rfl (lv_at hl 1 rfl) ?_
  refine lv_iconst (pc := 5) (v := nI 0) hx hb dX7_splitAnswer_5 (by decide +kernel) ?_
  refine lv_aload_n (pc := 6) hx hb dX7_splitAnswer_6 rfl (lv_at hl 1 rfl) ?_
  refine cs_V (pc := 7) (idx := 49) (n := 0) (wr := [(o 0, oO o), (o 3, oR (o 4) nd), (o 4, aZ ta 300 gd)]) (As := []) (rest := [.int (nI 0), .ref hli, .ref (o 3)]) (ci := 5) hx hb hml hown hts hGok hK hA hG hl.1 hP hD hS (ct_X6_size ll D ta hGok hli bli capl gl nl  H.size) tw_393 tw_722 tw_391 tw_392 tw_66 hdX6_size rfl ⟨rfl, rfl, Nat.le_of_ble_eq_true rfl, Nat.le_of_ble_eq_true rfl, Nat.le_of_ble_eq_true rfl, Nat.le_of_ble_eq_true rfl⟩ rfl rfl (q0 := 3) rfl [3, 4] [0, 1, 2] rfl rfl (by decide) rfl (Nat.le_of_ble_eq_true rfl) dX7_splitAnswer_7 (fun u H locs hq hP hD hS => ?_)
  refine W.eq (g2 := F0 mm 10 ls [.int (nI nl), .int (nI 0), .ref hli, .ref (o 3)]) rfl ?_
  have hP : va_P D vwCl [(o 0, oO o), (o 3, oR (o 4) nd), (o 4, aZ ta 300 gd), (hli, oR bli nl), (bli, aZ ta capl gl)] H := hP
  have hD : va_D A [(o 0, oO o), (o 3, oR (o 4) nd), (o 4, aZ ta 300 gd), (hli, oR bli nl), (bli, aZ ta capl gl)] := hD
  refine lv_bipush (pc := 10) (v := nI 8) hx hb dX7_splitAnswer_10 (by decide +kernel) ?_
  by_cases h8 : 8 ≤ nl
  · skip
    refine lv_isub (pc := 12) hx hb dX7_splitAnswer_12 ?_
    refine q_top (y := nI (nl - 8)) (pk_sub (a := nl) (b := 8) (by omega)) ?_
    refine cs_V (pc := 13) (idx := 70) (n := 3) (wr := [(o 0, oO o)]) (As := [.ref hli, .int (nI 0), .int (nI (nl - 8))]) (rest := []) (ci := 5) hx hb hml hown hts hGok hK hA hG hl.1 hP hD hS (ct_X6_copyPart ll D ta hGok (o 3) (o 4) 300 gd nd hli bli capl gl nl 0 (nl - 8) (by first | assumption | omega | rfl | decide) (by first | assumption | omega | rfl | decide) (by first | assumption | omega | rfl | decide) (by first | assumption | omega | rfl | decide) (by first | assumption | omega | rfl | decide) (by first | omega | exact nI_sub_neg (by omega) (by omega)) H.size) tw_464 tw_803 tw_462 tw_463 tw_66 hdX6_copyPart rfl ⟨rfl, rfl, Nat.le_of_ble_eq_true rfl, Nat.le_of_ble_eq_true rfl, Nat.le_of_ble_eq_true rfl, Nat.le_of_ble_eq_true rfl⟩ rfl rfl (q0 := 1) rfl [1, 2, 3, 4] [0] rfl rfl (by decide) rfl (Nat.le_of_ble_eq_true rfl) dX7_splitAnswer_13 (fun u H locs hq hP hD hS => ?_)
    obtain ⟨g1_13, n1_13⟩ := u
    have hq : (n1_13 = min (nl - 8) nl - 0) ∧ (qL g1_13 n1_13 = ((qL gl nl).take (nl - 8)).drop 0) := hq
    obtain ⟨hm_13, hL_13⟩ := hq
    refine W.eq (g2 := F0 mm 16 ls []) rfl ?_
    have hP : va_P D vwCl [(o 0, oO o), (o 3, oR (o 4) n1_13), (o 4, aZ ta 300 g1_13), (hli, oR bli nl), (bli, aZ ta capl gl)] H := hP
    have hD : va_D A [(o 0, oO o), (o 3, oR (o 4) n1_13), (o 4, aZ ta 300 g1_13), (hli, oR bli nl), (bli, aZ ta capl gl)] := hD
    refine lv_aload_n (pc := 16) hx hb dX7_splitAnswer_16 rfl (lv_at hl 1 rfl) ?_
    refine cs_V (pc := 17) (idx := 49) (n := 0) (wr := [(o 0, oO o), (o 3, oR (o 4) n1_13), (o 4, aZ ta 300 g1_13)]) (As := []) (rest := []) (ci := 5) hx hb hml hown hts hGok hK hA hG hl.1 hP hD hS (ct_X6_size ll D ta hGok hli bli capl gl nl  H.size) tw_393 tw_722 tw_391 tw_392 tw_66 hdX6_size rfl ⟨rfl, rfl, Nat.le_of_ble_eq_true rfl, Nat.le_of_ble_eq_true rfl, Nat.le_of_ble_eq_true rfl, Nat.le_of_ble_eq_true rfl⟩ rfl rfl (q0 := 3) rfl [3, 4] [0, 1, 2] rfl rfl (by decide) rfl (Nat.le_of_ble_eq_true rfl) dX7_splitAnswer_17 (fun u H locs hq hP hD hS => ?_)
    refine W.eq (g2 := F0 mm 20 ls [.int (nI nl)]) rfl ?_
    have hP : va_P D vwCl [(o 0, oO o), (o 3, oR (o 4) n1_13), (o 4, aZ ta 300 g1_13), (hli, oR bli nl), (bli, aZ ta capl gl)] H := hP
    have hD : va_D A [(o 0, oO o), (o 3, oR (o 4) n1_13), (o 4, aZ ta 300 g1_13), (hli, oR bli nl), (bli, aZ ta capl gl)] := hD
    refine lv_bipush (pc := 20) (v := nI 8) hx hb dX7_splitAnswer_20 (by decide +kernel) ?_
    refine lv_icmp_lt (pc := 22) (tgt := 29) hx hb dX7_splitAnswer_22 (by decide) (fun c_1 => ?_) (fun c_1 => ?_)
    · skip
      rw [nI_ltI (by omega) (by omega)] at c_1
      refine lv_iconst (pc := 29) (v := nI 0) hx hb dX7_splitAnswer_29 (by decide +kernel) ?_
      refine q_top (y := qb false) (by first | rfl | decide +kernel | (simp; done)) ?_
      have hq_2 : (false = decide (8 ≤ nl)) ∧ (n1_13 = nl - 8) ∧ (qL g1_13 n1_13 = (qL gl nl).take (nl - 8)) := by
        refine ⟨by symm; simp; omega, by omega, ?_⟩
        first | (rw [hL_13]; rfl) | (rw [show nl - 8 = 0 by omega]; rfl)
      exact hret (⟨(false), (g1_13), (n1_13)⟩ : Bool × (Nat → BitVec 8) × Nat) _ _ _ _ dX7_splitAnswer_30 hq_2 (hP.sub [0, 1, 2, 3, 4] rfl) (hD.sub [0, 1, 2, 3, 4] (by decide) rfl) hS
    · skip
      rw [nI_ltI (by omega) (by omega)] at c_1
      refine lv_iconst (pc := 25) (v := nI 1) hx hb dX7_splitAnswer_25 (by decide +kernel) ?_
      refine lv_goto (pc := 26) (tgt := 30) hx hb dX7_splitAnswer_26 (by decide) ?_
      refine q_top (y := qb true) (by first | rfl | decide +kernel | (simp; done)) ?_
      have hq_3 : (true = decide (8 ≤ nl)) ∧ (n1_13 = nl - 8) ∧ (qL g1_13 n1_13 = (qL gl nl).take (nl - 8)) := by
        refine ⟨by symm; simp; omega, by omega, ?_⟩
        first | (rw [hL_13]; rfl) | (rw [show nl - 8 = 0 by omega]; rfl)
      exact hret (⟨(true), (g1_13), (n1_13)⟩ : Bool × (Nat → BitVec 8) × Nat) _ _ _ _ dX7_splitAnswer_30 hq_3 (hP.sub [0, 1, 2, 3, 4] rfl) (hD.sub [0, 1, 2, 3, 4] (by decide) rfl) hS
  · skip
    refine lv_isub (pc := 12) hx hb dX7_splitAnswer_12 ?_
    refine q_top (y := nI nl - nI 8) rfl ?_
    refine cs_V (pc := 13) (idx := 70) (n := 3) (wr := [(o 0, oO o)]) (As := [.ref hli, .int (nI 0), .int (nI nl - nI 8)]) (rest := []) (ci := 5) hx hb hml hown hts hGok hK hA hG hl.1 hP hD hS (ct_X6_copyPart_neg ll D ta hGok (o 3) (o 4) 300 gd nd hli bli capl gl nl 0 (nI nl - nI 8) (by first | assumption | omega | rfl | decide) (by first | omega | exact nI_sub_neg (by omega) (by omega)) H.size) tw_464 tw_803 tw_462 tw_463 tw_66 hdX6_copyPart rfl ⟨rfl, rfl, Nat.le_of_ble_eq_true rfl, Nat.le_of_ble_eq_true rfl, Nat.le_of_ble_eq_true rfl, Nat.le_of_ble_eq_true rfl⟩ rfl rfl (q0 := 1) rfl [1, 2, 3, 4] [0] rfl rfl (by decide) rfl (Nat.le_of_ble_eq_true rfl) dX7_splitAnswer_13 (fun u H locs hq hP hD hS => ?_)
    refine W.eq (g2 := F0 mm 16 ls []) rfl ?_
    have hP : va_P D vwCl [(o 0, oO o), (o 3, oR (o 4) 0), (o 4, aZ ta 300 gd), (hli, oR bli nl), (bli, aZ ta capl gl)] H := hP
    have hD : va_D A [(o 0, oO o), (o 3, oR (o 4) 0), (o 4, aZ ta 300 gd), (hli, oR bli nl), (bli, aZ ta capl gl)] := hD
    refine lv_aload_n (pc := 16) hx hb dX7_splitAnswer_16 rfl (lv_at hl 1 rfl) ?_
    refine cs_V (pc := 17) (idx := 49) (n := 0) (wr := [(o 0, oO o), (o 3, oR (o 4) 0), (o 4, aZ ta 300 gd)]) (As := []) (rest := []) (ci := 5) hx hb hml hown hts hGok hK hA hG hl.1 hP hD hS (ct_X6_size ll D ta hGok hli bli capl gl nl  H.size) tw_393 tw_722 tw_391 tw_392 tw_66 hdX6_size rfl ⟨rfl, rfl, Nat.le_of_ble_eq_true rfl, Nat.le_of_ble_eq_true rfl, Nat.le_of_ble_eq_true rfl, Nat.le_of_ble_eq_true rfl⟩ rfl rfl (q0 := 3) rfl [3, 4] [0, 1, 2] rfl rfl (by decide) rfl (Nat.le_of_ble_eq_true rfl) dX7_splitAnswer_17 (fun u H locs hq hP hD hS => ?_)
    refine W.eq (g2 := F0 mm 20 ls [.int (nI nl)]) rfl ?_
    have hP : va_P D vwCl [(o 0, oO o), (o 3, oR (o 4) 0), (o 4, aZ ta 300 gd), (hli, oR bli nl), (bli, aZ ta capl gl)] H := hP
    have hD : va_D A [(o 0, oO o), (o 3, oR (o 4) 0), (o 4, aZ ta 300 gd), (hli, oR bli nl), (bli, aZ ta capl gl)] := hD
    refine lv_bipush (pc := 20) (v := nI 8) hx hb dX7_splitAnswer_20 (by decide +kernel) ?_
    refine lv_icmp_lt (pc := 22) (tgt := 29) hx hb dX7_splitAnswer_22 (by decide) (fun c_4 => ?_) (fun c_4 => ?_)
    · skip
      rw [nI_ltI (by omega) (by omega)] at c_4
      refine lv_iconst (pc := 29) (v := nI 0) hx hb dX7_splitAnswer_29 (by decide +kernel) ?_
      refine q_top (y := qb false) (by first | rfl | decide +kernel | (simp; done)) ?_
      have hq_5 : (false = decide (8 ≤ nl)) ∧ (0 = nl - 8) ∧ (qL gd 0 = (qL gl nl).take (nl - 8)) := by
        refine ⟨by symm; simp; omega, by omega, ?_⟩
        first | (rw [hL_13]; rfl) | (rw [show nl - 8 = 0 by omega]; rfl)
      exact hret (⟨(false), (gd), (0)⟩ : Bool × (Nat → BitVec 8) × Nat) _ _ _ _ dX7_splitAnswer_30 hq_5 (hP.sub [0, 1, 2, 3, 4] rfl) (hD.sub [0, 1, 2, 3, 4] (by decide) rfl) hS
    · skip
      rw [nI_ltI (by omega) (by omega)] at c_4
      refine lv_iconst (pc := 25) (v := nI 1) hx hb dX7_splitAnswer_25 (by decide +kernel) ?_
      refine lv_goto (pc := 26) (tgt := 30) hx hb dX7_splitAnswer_26 (by decide) ?_
      refine q_top (y := qb true) (by first | rfl | decide +kernel | (simp; done)) ?_
      have hq_6 : (true = decide (8 ≤ nl)) ∧ (0 = nl - 8) ∧ (qL gd 0 = (qL gl nl).take (nl - 8)) := by
        refine ⟨by symm; simp; omega, by omega, ?_⟩
        first | (rw [hL_13]; rfl) | (rw [show nl - 8 = 0 by omega]; rfl)
      exact hret (⟨(true), (gd), (0)⟩ : Bool × (Nat → BitVec 8) × Nat) _ _ _ _ dX7_splitAnswer_30 hq_6 (hP.sub [0, 1, 2, 3, 4] rfl) (hD.sub [0, 1, 2, 3, 4] (by decide) rfl) hS
theorem hdX7_putAnswer : yX7_putAnswer.cls ≠ "java/lang/invoke/MethodHandle" ∧ yX7_putAnswer.cls ≠ "java/lang/invoke/VarHandle" ∧ (parseMethodDescriptor yX7_putAnswer.desc).map (fun d => d.parameters.length) = some 1 := ⟨by decide +kernel, by decide +kernel, by decide +kernel⟩
theorem dX7_putAnswer_0 : decode cX7_putAnswer 0 = .ok (.aload_n 1, 1) := by decide +kernel
theorem dX7_putAnswer_1 : decode cX7_putAnswer 1 = .ok (.aload_n 0, 1) := by decide +kernel
theorem dX7_putAnswer_2 : decode cX7_putAnswer 2 = .ok (.getfield 20, 3) := by decide +kernel
theorem dX7_putAnswer_5 : decode cX7_putAnswer 5 = .ok (.invokevirtual 73, 3) := by decide +kernel
theorem dX7_putAnswer_8 : decode cX7_putAnswer 8 = .ok (.aload_n 1, 1) := by decide +kernel
theorem dX7_putAnswer_9 : decode cX7_putAnswer 9 = .ok (.aload_n 0, 1) := by decide +kernel
theorem dX7_putAnswer_10 : decode cX7_putAnswer 10 = .ok (.getfield 23, 3) := by decide +kernel
theorem dX7_putAnswer_13 : decode cX7_putAnswer 13 = .ok (.iconst 0, 1) := by decide +kernel
theorem dX7_putAnswer_14 : decode cX7_putAnswer 14 = .ok (.bipush 8, 2) := by decide +kernel
theorem dX7_putAnswer_16 : decode cX7_putAnswer 16 = .ok (.invokevirtual 59, 3) := by decide +kernel
theorem dX7_putAnswer_19 : decode cX7_putAnswer 19 = .ok (.return_, 1) := by decide +kernel
set_option maxHeartbeats 4000000 in
set_option maxRecDepth 100000 in
theorem ct_X7_putAnswer_O (ll : Launch) (D : va_G) (ta : Nat → ClassId) {G : (Nat → Prop) → State → Heap → Prop} (hGok : GOK G) (o : Nat → Nat) (gd : Nat → BitVec 8) (nd : Nat) (gk : Nat → BitVec 8) (nk : Nat) (hli : Nat) (bli : Nat) (capl : Nat) (gl : Nat → BitVec 8) (nl : Nat) (hnd : nd ≤ 300) (hnk : 8 ≤ nk ∧ nk ≤ 16) (hcl : nd + 8 ≤ capl ∧ capl < 2147483648) (sz : Nat) : CT ll yX7_putAnswer cX7_putAnswer 2 none ({ frames := 3, cells := 0, slots := 0, locals := 66 } : Room) D ta G [.ref (o 0), .ref hli] [(o 0, oO o), (o 3, oR (o 4) nd), (o 4, aZ ta 300 gd), (o 5, oR (o 6) nk), (o 6, aZ ta 16 gk), (hli, oR bli nl), (bli, aZ ta capl gl)] sz (S := (Nat → BitVec 8)) (fun _ => none) (fun u => (qL u (nd + 8) = qL gd nd ++ (qL gk nk).take 8)) (fun u => [(o 0, oO o), (o 3, oR (o 4) nd), (o 4, aZ ta 300 gd), (o 5, oR (o 6) nk), (o 6, aZ ta 16 gk), (hli, oR bli (nd + 8)), (bli, aZ ta capl u)]) 0 0 := by
  refine CT.of_v rfl (by decide) (Nat.le_of_ble_eq_true rfl) ?_
  intro pp ee ss mm below meth kc A Q hx hb hml hown hin hts hK hA hsz hG hret H locs hP hD hS ls hl
  have hl : lv_has ls 2 [(0, .ref (o 0)), (1, .ref hli)] := hl
  refine lv_aload_n (pc := 0) hx hb dX7_putAnswer_0 rfl (lv_at hl 1 rfl) ?_
  refine lv_aload_n (pc := 1) hx hb dX7_putAnswer_1 rfl (lv_at hl 0 rfl) ?_
  refine va_get (pc := 2) (D := D) (ci := 4) (v := .ref (o 3)) (C := RX5) (T := TX5) (N := 6) hx hb hts iu5 hown hK hP 0 rfl rfl 1 (by decide) (hts _ tw_275) (fun _ h9 => h9) rfl dX7_putAnswer_2 ?_
  refine cs_V (pc := 5) (idx := 73) (n := 1) (wr := [(o 0, oO o), (o 5, oR (o 6) nk), (o 6, aZ ta 16 gk)]) (As := [.ref (o 3)]) (rest := []) (ci := 5) hx hb hml hown hts hGok hK hA hG hl.1 hP hD hS (ct_X6_copy ll D ta hGok hli bli capl gl nl (o 3) (o 4) 300 gd nd (by first | assumption | omega | rfl | decide) (by first | assumption | omega | rfl | decide) (by first | assumption | omega | rfl | decide) (by first | assumption | omega | rfl | decide) H.size) tw_437 tw_892 tw_435 tw_436 tw_66 hdX6_copy rfl ⟨rfl, rfl, Nat.le_of_ble_eq_true rfl, Nat.le_of_ble_eq_true rfl, Nat.le_of_ble_eq_true rfl, Nat.le_of_ble_eq_true rfl⟩ rfl rfl (q0 := 5) rfl [5, 6, 1, 2] [0, 3, 4] rfl rfl (by decide) rfl (Nat.le_of_ble_eq_true rfl) dX7_putAnswer_5 (fun u H locs hq hP hD hS => ?_)
  generalize u = g1_5 at hq hP hD ⊢
  have hq : (qL g1_5 nd = qL gd nd) := hq
  have hL_5 := hq
  refine W.eq (g2 := F0 mm 8 ls []) rfl ?_
  have hP : va_P D vwCl [(o 0, oO o), (o 5, oR (o 6) nk), (o 6, aZ ta 16 gk), (hli, oR bli nd), (bli, aZ ta capl g1_5), (o 3, oR (o 4) nd), (o 4, aZ ta 300 gd)] H := hP
  have hD : va_D A [(o 0, oO o), (o 5, oR (o 6) nk), (o 6, aZ ta 16 gk), (hli, oR bli nd), (bli, aZ ta capl g1_5), (o 3, oR (o 4) nd), (o 4, aZ ta 300 gd)] := hD
  refine lv_aload_n (pc := 8) hx hb dX7_putAnswer_8 rfl (lv_at hl 1 rfl) ?_
  refine lv_aload_n (pc := 9) hx hb dX7_putAnswer_9 rfl (lv_at hl 0 rfl) ?_
  refine va_get (pc := 10) (D := D) (ci := 4) (v := .ref (o 5)) (C := RX5) (T := TX5) (N := 6) hx hb hts iu5 hown hK hP 0 rfl rfl 2 (by decide) (hts _ tw_280) (fun _ h9 => h9) rfl dX7_putAnswer_10 ?_
  refine lv_iconst (pc := 13) (v := nI 0) hx hb dX7_putAnswer_13 (by decide +kernel) ?_
  refine lv_bipush (pc := 14) (v := nI 8) hx hb dX7_putAnswer_14 (by decide +kernel) ?_
  refine cs_V (pc := 16) (idx := 59) (n := 3) (wr := [(o 0, oO o), (o 3, oR (o 4) nd), (o 4, aZ ta 300 gd)]) (As := [.ref (o 5), .int (nI 0), .int (nI 8)]) (rest := []) (ci := 5) hx hb hml hown hts hGok hK hA hG hl.1 hP hD hS (ct_X6_addPart ll D ta hGok hli bli capl g1_5 nd (o 5) (o 6) 16 gk nk 0 8 (by first | assumption | omega | rfl | decide) (by first | assumption | omega | rfl | decide) (by first | assumption | omega | rfl | decide) (by first | assumption | omega | rfl | decide) (by first | assumption | omega | rfl | decide) (by first | assumption | omega | rfl | decide) H.size) tw_445 tw_743 tw_443 tw_444 tw_66 hdX6_addPart rfl ⟨rfl, rfl, Nat.le_of_ble_eq_true rfl, Nat.le_of_ble_eq_true rfl, Nat.le_of_ble_eq_true rfl, Nat.le_of_ble_eq_true rfl⟩ rfl rfl (q0 := 3) rfl [3, 4, 1, 2] [0, 5, 6] rfl rfl (by decide) rfl (Nat.le_of_ble_eq_true rfl) dX7_putAnswer_16 (fun u H locs hq hP hD hS => ?_)
  obtain ⟨g1_16, n1_16⟩ := u
  have hq : (n1_16 = nd + (min 8 nk - 0)) ∧ (qL g1_16 n1_16 = qL g1_5 nd ++ ((qL gk nk).take 8).drop 0) := hq
  obtain ⟨hm_16, hL_16⟩ := hq
  refine W.eq (g2 := F0 mm 19 ls []) rfl ?_
  have hP : va_P D vwCl [(o 0, oO o), (o 3, oR (o 4) nd), (o 4, aZ ta 300 gd), (hli, oR bli n1_16), (bli, aZ ta capl g1_16), (o 5, oR (o 6) nk), (o 6, aZ ta 16 gk)] H := hP
  have hD : va_D A [(o 0, oO o), (o 3, oR (o 4) nd), (o 4, aZ ta 300 gd), (hli, oR bli n1_16), (bli, aZ ta capl g1_16), (o 5, oR (o 6) nk), (o 6, aZ ta 16 gk)] := hD
  have en_1 : nd + 8 = n1_16 := by omega
  subst en_1
  have hq_2 : (qL g1_16 (nd + 8) = qL gd nd ++ (qL gk nk).take 8) := by
    rw [hL_16, hL_5]
    rfl
  exact hret (g1_16) _ _ _ _ dX7_putAnswer_19 hq_2 (hP.sub [0, 1, 2, 5, 6, 3, 4] rfl) (hD.sub [0, 1, 2, 5, 6, 3, 4] (by decide) rfl) hS
set_option maxHeartbeats 4000000 in
set_option maxRecDepth 100000 in
theorem ct_X7_putCommand_N (ll : Launch) (D : va_G) (ta : Nat → ClassId) {G : (Nat → Prop) → State → Heap → Prop} (hGok : GOK G) (v : Nat → Nat) (gd : Nat → BitVec 8) (nd : Nat) (hc : Nat) (bc : Nat) (capc : Nat) (gc : Nat → BitVec 8) (nc : Nat) (hi : Nat) (bi : Nat) (capi : Nat) (gi : Nat → BitVec 8) (ni : Nat) (hli : Nat) (bli : Nat) (capl : Nat) (gl : Nat → BitVec 8) (nl : Nat) (hnc : 4 ≤ nc ∧ nc ≤ capc ∧ capc < 2147483648) (hni : 8 ≤ ni ∧ ni ≤ capi ∧ capi < 2147483648) (hnd : nd ≤ 300) (hcl : nd + 12 ≤ capl ∧ capl < 2147483648) (sz : Nat) : CT ll yX7_putCommand cX7_putCommand 4 none ({ frames := 3, cells := 0, slots := 0, locals := 66 } : Room) D ta G [.ref (v 0), .ref hc, .ref hi, .ref hli] [(v 0, oV v), (v 3, oR (v 4) nd), (v 4, aZ ta 300 gd), (hc, oR bc nc), (bc, aZ ta capc gc), (hi, oR bi ni), (bi, aZ ta capi gi), (hli, oR bli nl), (bli, aZ ta capl gl)] sz (S := (Nat → BitVec 8)) (fun _ => none) (fun u => (qL u (nd + 12) = putC (qL gc nc) (qL gd nd) (qL gi ni))) (fun u => [(v 0, oV v), (v 3, oR (v 4) nd), (v 4, aZ ta 300 gd), (hc, oR bc nc), (bc, aZ ta capc gc), (hi, oR bi ni), (bi, aZ ta capi gi), (hli, oR bli (nd + 12)), (bli, aZ ta capl u)]) 0 0 := by
  refine CT.of_v rfl (by decide) (Nat.le_of_ble_eq_true rfl) ?_
  intro pp ee ss mm below meth kc A Q hx hb hml hown hin hts hK hA hsz hG hret H locs hP hD hS ls hl
  have hl : lv_has ls 4 [(0, .ref (v 0)), (1, .ref hc), (2, .ref hi), (3, .ref hli)] := hl
  refine lv_aload_n (pc := 0) hx hb dX7_putCommand_0 rfl (lv_at hl 3 rfl) ?_
  refine cs_V (pc := 1) (idx := 63) (n := 0) (wr := [(v 0, oV v), (v 3, oR (v 4) nd), (v 4, aZ ta 300 gd), (hc, oR bc nc), (bc, aZ ta capc gc), (hi, oR bi ni), (bi, aZ ta capi gi)]) (As := []) (rest := []) (ci := 5) hx hb hml hown hts hGok hK hA hG hl.1 hP hD hS (ct_X6_clear ll D ta hGok hli bli capl gl nl  H.size) tw_441 tw_750 tw_439 tw_440 tw_66 hdX6_clear rfl ⟨rfl, rfl, Nat.le_of_ble_eq_true rfl, Nat.le_of_ble_eq_true rfl, Nat.le_of_ble_eq_true rfl, Nat.le_of_ble_eq_true rfl⟩ rfl rfl (q0 := 7) rfl [7, 8] [0, 1, 2, 3, 4, 5, 6] rfl rfl (by decide) rfl (Nat.le_of_ble_eq_true rfl) dX7_putCommand_1 (fun u H locs hq hP hD hS => ?_)
  refine W.eq (g2 := F0 mm 4 ls []) rfl ?_
  have hP : va_P D vwCl [(v 0, oV v), (v 3, oR (v 4) nd), (v 4, aZ ta 300 gd), (hc, oR bc nc), (bc, aZ ta capc gc), (hi, oR bi ni), (bi, aZ ta capi gi), (hli, oR bli 0), (bli, aZ ta capl gl)] H := hP
  have hD : va_D A [(v 0, oV v), (v 3, oR (v 4) nd), (v 4, aZ ta 300 gd), (hc, oR bc nc), (bc, aZ ta capc gc), (hi, oR bi ni), (bi, aZ ta capi gi), (hli, oR bli 0), (bli, aZ ta capl gl)] := hD
  refine lv_aload_n (pc := 4) hx hb dX7_putCommand_4 rfl (lv_at hl 3 rfl) ?_
  refine lv_aload_n (pc := 5) hx hb dX7_putCommand_5 rfl (lv_at hl 1 rfl) ?_
  refine lv_iconst (pc := 6) (v := nI 0) hx hb dX7_putCommand_6 (by decide +kernel) ?_
  refine cs_V (pc := 7) (idx := 52) (n := 1) (wr := [(v 0, oV v), (v 3, oR (v 4) nd), (v 4, aZ ta 300 gd), (hi, oR bi ni), (bi, aZ ta capi gi), (hli, oR bli 0), (bli, aZ ta capl gl)]) (As := [.int (nI 0)]) (rest := [.ref hli]) (ci := 5) hx hb hml hown hts hGok hK hA hG hl.1 hP hD hS (ct_X6_at_in ll D ta hGok hc bc capc gc nc 0 (by first | assumption | omega | rfl | decide) (by first | assumption | omega | rfl | decide) (by first | assumption | omega | rfl | decide) H.size) tw_413 tw_741 tw_411 tw_412 tw_66 hdX6_at rfl ⟨rfl, rfl, Nat.le_of_ble_eq_true rfl, Nat.le_of_ble_eq_true rfl, Nat.le_of_ble_eq_true rfl, Nat.le_of_ble_eq_true rfl⟩ rfl rfl (q0 := 3) rfl [3, 4] [0, 1, 2, 5, 6, 7, 8] rfl rfl (by decide) rfl (Nat.le_of_ble_eq_true rfl) dX7_putCommand_7 (fun u H locs hq hP hD hS => ?_)
  refine W.eq (g2 := F0 mm 10 ls [.int (qz (gc 0)), .ref hli]) rfl ?_
  have hP : va_P D vwCl [(v 0, oV v), (v 3, oR (v 4) nd), (v 4, aZ ta 300 gd), (hi, oR bi ni), (bi, aZ ta capi gi), (hli, oR bli 0), (bli, aZ ta capl gl), (hc, oR bc nc), (bc, aZ ta capc gc)] H := hP
  have hD : va_D A [(v 0, oV v), (v 3, oR (v 4) nd), (v 4, aZ ta 300 gd), (hi, oR bi ni), (bi, aZ ta capi gi), (hli, oR bli 0), (bli, aZ ta capl gl), (hc, oR bc nc), (bc, aZ ta capc gc)] := hD
  refine lv_iconst (pc := 10) (v := nI 4) hx hb dX7_putCommand_10 (by decide +kernel) ?_
  refine lv_ior (pc := 11) hx hb dX7_putCommand_11 ?_
  refine cs_V (pc := 12) (idx := 56) (n := 1) (wr := [(v 0, oV v), (v 3, oR (v 4) nd), (v 4, aZ ta 300 gd), (hi, oR bi ni), (bi, aZ ta capi gi), (hc, oR bc nc), (bc, aZ ta capc gc)]) (As := [.int ((qz (gc 0)) ||| (nI 4))]) (rest := []) (ci := 5) hx hb hml hown hts hGok hK hA hG hl.1 hP hD hS (ct_X6_add ll D ta hGok hli bli capl gl 0 ((qz (gc 0)) ||| (nI 4)) (by first | assumption | omega | rfl | decide) (by first | assumption | omega | rfl | decide) H.size) tw_231 tw_742 tw_229 tw_230 tw_66 hdX6_add rfl ⟨rfl, rfl, Nat.le_of_ble_eq_true rfl, Nat.le_of_ble_eq_true rfl, Nat.le_of_ble_eq_true rfl, Nat.le_of_ble_eq_true rfl⟩ rfl rfl (q0 := 5) rfl [5, 6] [0, 1, 2, 3, 4, 7, 8] rfl rfl (by decide) rfl (Nat.le_of_ble_eq_true rfl) dX7_putCommand_12 (fun u H locs hq hP hD hS => ?_)
  generalize u = g1_12 at hq hP hD ⊢
  have hq : (qL g1_12 (0 + 1) = qL gl 0 ++ [qlo ((qz (gc 0)) ||| (nI 4))]) := hq
  have hL_12 := hq
  refine W.eq (g2 := F0 mm 15 ls []) rfl ?_
  have hP : va_P D vwCl [(v 0, oV v), (v 3, oR (v 4) nd), (v 4, aZ ta 300 gd), (hi, oR bi ni), (bi, aZ ta capi gi), (hc, oR bc nc), (bc, aZ ta capc gc), (hli, oR bli (0 + 1)), (bli, aZ ta capl g1_12)] H := hP
  have hD : va_D A [(v 0, oV v), (v 3, oR (v 4) nd), (v 4, aZ ta 300 gd), (hi, oR bi ni), (bi, aZ ta capi gi), (hc, oR bc nc), (bc, aZ ta capc gc), (hli, oR bli (0 + 1)), (bli, aZ ta capl g1_12)] := hD
  refine lv_aload_n (pc := 15) hx hb dX7_putCommand_15 rfl (lv_at hl 3 rfl) ?_
  refine lv_aload_n (pc := 16) hx hb dX7_putCommand_16 rfl (lv_at hl 1 rfl) ?_
  refine lv_iconst (pc := 17) (v := nI 1) hx hb dX7_putCommand_17 (by decide +kernel) ?_
  refine lv_iconst (pc := 18) (v := nI 4) hx hb dX7_putCommand_18 (by decide +kernel) ?_
  refine cs_V (pc := 19) (idx := 59) (n := 3) (wr := [(v 0, oV v), (v 3, oR (v 4) nd), (v 4, aZ ta 300 gd), (hi, oR bi ni), (bi, aZ ta capi gi)]) (As := [.ref hc, .int (nI 1), .int (nI 4)]) (rest := []) (ci := 5) hx hb hml hown hts hGok hK hA hG hl.1 hP hD hS (ct_X6_addPart ll D ta hGok hli bli capl g1_12 (0 + 1) hc bc capc gc nc 1 4 (by first | assumption | omega | rfl | decide) (by first | assumption | omega | rfl | decide) (by first | assumption | omega | rfl | decide) (by first | assumption | omega | rfl | decide) (by first | assumption | omega | rfl | decide) (by first | assumption | omega | rfl | decide) H.size) tw_445 tw_743 tw_443 tw_444 tw_66 hdX6_addPart rfl ⟨rfl, rfl, Nat.le_of_ble_eq_true rfl, Nat.le_of_ble_eq_true rfl, Nat.le_of_ble_eq_true rfl, Nat.le_of_ble_eq_true rfl⟩ rfl rfl (q0 := 7) rfl [7, 8, 5, 6] [0, 1, 2, 3, 4] rfl rfl (by decide) rfl (Nat.le_of_ble_eq_true rfl) dX7_putCommand_19 (fun u H locs hq hP hD hS => ?_)
  obtain ⟨g1_19, n1_19⟩ := u
  have hq : (n1_19 = (0 + 1) + (min 4 nc - 1)) ∧ (qL g1_19 n1_19 = qL g1_12 (0 + 1) ++ ((qL gc nc).take 4).drop 1) := hq
  obtain ⟨hm_19, hL_19⟩ := hq
  refine W.eq (g2 := F0 mm 22 ls []) rfl ?_
  have hP : va_P D vwCl [(v 0, oV v), (v 3, oR (v 4) nd), (v 4, aZ ta 300 gd), (hi, oR bi ni), (bi, aZ ta capi gi), (hli, oR bli n1_19), (bli, aZ ta capl g1_19), (hc, oR bc nc), (bc, aZ ta capc gc)] H := hP
  have hD : va_D A [(v 0, oV v), (v 3, oR (v 4) nd), (v 4, aZ ta 300 gd), (hi, oR bi ni), (bi, aZ ta capi gi), (hli, oR bli n1_19), (bli, aZ ta capl g1_19), (hc, oR bc nc), (bc, aZ ta capc gc)] := hD
  refine lv_aload_n (pc := 22) hx hb dX7_putCommand_22 rfl (lv_at hl 3 rfl) ?_
  refine lv_aload_n (pc := 23) hx hb dX7_putCommand_23 rfl (lv_at hl 0 rfl) ?_
  refine va_get (pc := 24) (D := D) (ci := 3) (v := .ref (v 3)) (C := RX4) (T := TX4) (N := 7) hx hb hts iu4 hown hK hP 0 rfl rfl 1 (by decide) (hts _ tw_275) (fun _ h9 => h9) rfl dX7_putCommand_24 ?_
  refine cs_V (pc := 27) (idx := 66) (n := 1) (wr := [(v 0, oV v), (hi, oR bi ni), (bi, aZ ta capi gi), (hc, oR bc nc), (bc, aZ ta capc gc)]) (As := [.ref (v 3)]) (rest := []) (ci := 5) hx hb hml hown hts hGok hK hA hG hl.1 hP hD hS (ct_X6_addAll ll D ta hGok hli bli capl g1_19 n1_19 (v 3) (v 4) 300 gd nd (by first | assumption | omega | rfl | decide) (by first | assumption | omega | rfl | decide) (by first | assumption | omega | rfl | decide) (by first | assumption | omega | rfl | decide) H.size) tw_501 tw_751 tw_499 tw_500 tw_66 hdX6_addAll rfl ⟨rfl, rfl, Nat.le_of_ble_eq_true rfl, Nat.le_of_ble_eq_true rfl, Nat.le_of_ble_eq_true rfl, Nat.le_of_ble_eq_true rfl⟩ rfl rfl (q0 := 5) rfl [5, 6, 1, 2] [0, 3, 4, 7, 8] rfl rfl (by decide) rfl (Nat.le_of_ble_eq_true rfl) dX7_putCommand_27 (fun u H locs hq hP hD hS => ?_)
  generalize u = g1_27 at hq hP hD ⊢
  have hq : (qL g1_27 (n1_19 + nd) = qL g1_19 n1_19 ++ qL gd nd) := hq
  have hL_27 := hq
  refine W.eq (g2 := F0 mm 30 ls []) rfl ?_
  have hP : va_P D vwCl [(v 0, oV v), (hi, oR bi ni), (bi, aZ ta capi gi), (hc, oR bc nc), (bc, aZ ta capc gc), (hli, oR bli (n1_19 + nd)), (bli, aZ ta capl g1_27), (v 3, oR (v 4) nd), (v 4, aZ ta 300 gd)] H := hP
  have hD : va_D A [(v 0, oV v), (hi, oR bi ni), (bi, aZ ta capi gi), (hc, oR bc nc), (bc, aZ ta capc gc), (hli, oR bli (n1_19 + nd)), (bli, aZ ta capl g1_27), (v 3, oR (v 4) nd), (v 4, aZ ta 300 gd)] := hD
  refine lv_aload_n (pc := 30) hx hb dX7_putCommand_30 rfl (lv_at hl 3 rfl) ?_
  refine lv_aload_n (pc := 31) hx hb dX7_putCommand_31 rfl (lv_at hl 2 rfl) ?_
  refine lv_iconst (pc := 32) (v := nI 0) hx hb dX7_putCommand_32 (by decide +kernel) ?_
  refine lv_bipush (pc := 33) (v := nI 8) hx hb dX7_putCommand_33 (by decide +kernel) ?_
  refine cs_V (pc := 35) (idx := 59) (n := 3) (wr := [(v 0, oV v), (hc, oR bc nc), (bc, aZ ta capc gc), (v 3, oR (v 4) nd), (v 4, aZ ta 300 gd)]) (As := [.ref hi, .int (nI 0), .int (nI 8)]) (rest := []) (ci := 5) hx hb hml hown hts hGok hK hA hG hl.1 hP hD hS (ct_X6_addPart ll D ta hGok hli bli capl g1_27 (n1_19 + nd) hi bi capi gi ni 0 8 (by first | assumption | omega | rfl | decide) (by first | assumption | omega | rfl | decide) (by first | assumption | omega | rfl | decide) (by first | assumption | omega | rfl | decide) (by first | assumption | omega | rfl | decide) (by first | assumption | omega | rfl | decide) H.size) tw_445 tw_743 tw_443 tw_444 tw_66 hdX6_addPart rfl ⟨rfl, rfl, Nat.le_of_ble_eq_true rfl, Nat.le_of_ble_eq_true rfl, Nat.le_of_ble_eq_true rfl, Nat.le_of_ble_eq_true rfl⟩ rfl rfl (q0 := 5) rfl [5, 6, 1, 2] [0, 3, 4, 7, 8] rfl rfl (by decide) rfl (Nat.le_of_ble_eq_true rfl) dX7_putCommand_35 (fun u H locs hq hP hD hS => ?_)
  obtain ⟨g1_35, n1_35⟩ := u
  have hq : (n1_35 = (n1_19 + nd) + (min 8 ni - 0)) ∧ (qL g1_35 n1_35 = qL g1_27 (n1_19 + nd) ++ ((qL gi ni).take 8).drop 0) := hq
  obtain ⟨hm_35, hL_35⟩ := hq
  refine W.eq (g2 := F0 mm 38 ls []) rfl ?_
  have hP : va_P D vwCl [(v 0, oV v), (hc, oR bc nc), (bc, aZ ta capc gc), (v 3, oR (v 4) nd), (v 4, aZ ta 300 gd), (hli, oR bli n1_35), (bli, aZ ta capl g1_35), (hi, oR bi ni), (bi, aZ ta capi gi)] H := hP
  have hD : va_D A [(v 0, oV v), (hc, oR bc nc), (bc, aZ ta capc gc), (v 3, oR (v 4) nd), (v 4, aZ ta 300 gd), (hli, oR bli n1_35), (bli, aZ ta capl g1_35), (hi, oR bi ni), (bi, aZ ta capi gi)] := hD
  have en_1 : 4 = n1_19 := by omega
  subst en_1
  have en_2 : nd + 12 = n1_35 := by omega
  subst en_2
  have hq_3 : (qL g1_35 (nd + 12) = putC (qL gc nc) (qL gd nd) (qL gi ni)) := by
    rw [hL_35, hL_27, hL_19, hL_12, qlo_or4, putC, qL_getD (by omega)]
    rfl
  exact hret (g1_35) _ _ _ _ dX7_putCommand_38 hq_3 (hP.sub [0, 3, 4, 1, 2, 7, 8, 5, 6] rfl) (hD.sub [0, 3, 4, 1, 2, 7, 8, 5, 6] (by decide) rfl) hS
set_option maxHeartbeats 4000000 in
set_option maxRecDepth 100000 in
theorem ct_X7_splitCommand_N (ll : Launch) (D : va_G) (ta : Nat → ClassId) {G : (Nat → Prop) → State → Heap → Prop} (hGok : GOK G) (v : Nat → Nat) (gd : Nat → BitVec 8) (nd : Nat) (hli : Nat) (bli : Nat) (capl : Nat) (gl : Nat → BitVec 8) (nl : Nat) (hnl : nl ≤ capl ∧ capl ≤ 300) (sz : Nat) : CT ll yX7_splitCommand cX7_splitCommand 2 (some .boolean) ({ frames := 3, cells := 0, slots := 0, locals := 68 } : Room) D ta G [.ref (v 0), .ref hli] [(v 0, oV v), (v 3, oR (v 4) nd), (v 4, aZ ta 300 gd), (hli, oR bli nl), (bli, aZ ta capl gl)] sz (S := Bool × (Nat → BitVec 8) × Nat) (fun u => some (.int (qb u.1))) (fun u => (u.1 = splB (qL gl nl)) ∧ (u.2.2 = nl - 12) ∧ (qL u.2.1 u.2.2 = midL (qL gl nl))) (fun u => [(v 0, oV v), (v 3, oR (v 4) u.2.2), (v 4, aZ ta 300 u.2.1), (hli, oR bli nl), (bli, aZ ta capl gl)]) 0 0 := by
  refine CT.of_z (r := fun u => u.1) rfl (by decide) (Nat.le_of_ble_eq_true rfl) ?_
  intro pp ee ss mm below meth kc A Q hx hb hml hown hin hts hK hA hsz hG hret H locs hP hD hS ls hl
  have hl : lv_has ls 2 [(0, .ref (v 0)), (1, .ref hli)] := hl
  refine lv_aload_n (pc := 0) hx hb dX7_splitCommand_0 rfl (lv_at hl 0 rfl) ?_
  refine va_get (pc := 1) (D := D) (ci := 3) (v := .ref (v 3)) (C := RX4) (T := TX4) (N := 7) hx hb hts iu4 hown hK hP 0 rfl rfl 1 (by decide) (hts _ tw_275) (fun _ h9 => h9) rfl dX7_splitCommand_1 ?_
  refine lv_aload_n (pc := 4) hx hb dX7_splitCommand_4 rfl (lv_at hl 1 rfl) ?_
  refine lv_iconst (pc := 5) (v := nI 4) hx hb dX7_splitCommand_5 (by decide +kernel) ?_
  refine lv_aload_n (pc := 6) hx hb dX7_splitCommand_6 rfl (lv_at hl 1 rfl) ?_
  refine cs_V (pc := 7) (idx := 49) (n := 0) (wr := [(v 0, oV v), (v 3, oR (v 4) nd), (v 4, aZ ta 300 gd)]) (As := []) (rest := [.int (nI 4), .ref hli, .ref (v 3)]) (ci := 5) hx hb hml hown hts hGok hK hA hG hl.1 hP hD hS (ct_X6_size ll D ta hGok hli bli capl gl nl  H.size) tw_393 tw_722 tw_391 tw_392 tw_66 hdX6_size rfl ⟨rfl, rfl, Nat.le_of_ble_eq_true rfl, Nat.le_of_ble_eq_true rfl, Nat.le_of_ble_eq_true rfl, Nat.le_of_ble_eq_true rfl⟩ rfl rfl (q0 := 3) rfl [3, 4] [0, 1, 2] rfl rfl (by decide) rfl (Nat.le_of_ble_eq_true rfl) dX7_splitCommand_7 (fun u H locs hq hP hD hS => ?_)
  refine W.eq (g2 := F0 mm 10 ls [.int (nI nl), .int (nI 4), .ref hli, .ref (v 3)]) rfl ?_
  have hP : va_P D vwCl [(v 0, oV v), (v 3, oR (v 4) nd), (v 4, aZ ta 300 gd), (hli, oR bli nl), (bli, aZ ta capl gl)] H := hP
  have hD : va_D A [(v 0, oV v), (v 3, oR (v 4) nd), (v 4, aZ ta 300 gd), (hli, oR bli nl), (bli, aZ ta capl gl)] := hD
  refine lv_bipush (pc := 10) (v := nI 8) hx hb dX7_splitCommand_10 (by decide +kernel) ?_
  by_cases h8 : 8 ≤ nl
  · skip
    refine lv_isub (pc := 12) hx hb dX7_splitCommand_12 ?_
    refine q_top (y := nI (nl - 8)) (pk_sub (a := nl) (b := 8) (by omega)) ?_
    refine cs_V (pc := 13) (idx := 70) (n := 3) (wr := [(v 0, oV v)]) (As := [.ref hli, .int (nI 4), .int (nI (nl - 8))]) (rest := []) (ci := 5) hx hb hml hown hts hGok hK hA hG hl.1 hP hD hS (ct_X6_copyPart ll D ta hGok (v 3) (v 4) 300 gd nd hli bli capl gl nl 4 (nl - 8) (by first | assumption | omega | rfl | decide) (by first | assumption | omega | rfl | decide) (by first | assumption | omega | rfl | decide) (by first | assumption | omega | rfl | decide) (by first | assumption | omega | rfl | decide) (by first | omega | exact nI_sub_neg (by omega) (by omega)) H.size) tw_464 tw_803 tw_462 tw_463 tw_66 hdX6_copyPart rfl ⟨rfl, rfl, Nat.le_of_ble_eq_true rfl, Nat.le_of_ble_eq_true rfl, Nat.le_of_ble_eq_true rfl, Nat.le_of_ble_eq_true rfl⟩ rfl rfl (q0 := 1) rfl [1, 2, 3, 4] [0] rfl rfl (by decide) rfl (Nat.le_of_ble_eq_true rfl) dX7_splitCommand_13 (fun u H locs hq hP hD hS => ?_)
    obtain ⟨g1_13, n1_13⟩ := u
    have hq : (n1_13 = min (nl - 8) nl - 4) ∧ (qL g1_13 n1_13 = ((qL gl nl).take (nl - 8)).drop 4) := hq
    obtain ⟨hm_13, hL_13⟩ := hq
    refine W.eq (g2 := F0 mm 16 ls []) rfl ?_
    have hP : va_P D vwCl [(v 0, oV v), (v 3, oR (v 4) n1_13), (v 4, aZ ta 300 g1_13), (hli, oR bli nl), (bli, aZ ta capl gl)] H := hP
    have hD : va_D A [(v 0, oV v), (v 3, oR (v 4) n1_13), (v 4, aZ ta 300 g1_13), (hli, oR bli nl), (bli, aZ ta capl gl)] := hD
    refine lv_aload_n (pc := 16) hx hb dX7_splitCommand_16 rfl (lv_at hl 1 rfl) ?_
    refine cs_V (pc := 17) (idx := 49) (n := 0) (wr := [(v 0, oV v), (v 3, oR (v 4) n1_13), (v 4, aZ ta 300 g1_13)]) (As := []) (rest := []) (ci := 5) hx hb hml hown hts hGok hK hA hG hl.1 hP hD hS (ct_X6_size ll D ta hGok hli bli capl gl nl  H.size) tw_393 tw_722 tw_391 tw_392 tw_66 hdX6_size rfl ⟨rfl, rfl, Nat.le_of_ble_eq_true rfl, Nat.le_of_ble_eq_true rfl, Nat.le_of_ble_eq_true rfl, Nat.le_of_ble_eq_true rfl⟩ rfl rfl (q0 := 3) rfl [3, 4] [0, 1, 2] rfl rfl (by decide) rfl (Nat.le_of_ble_eq_true rfl) dX7_splitCommand_17 (fun u H locs hq hP hD hS => ?_)
    refine W.eq (g2 := F0 mm 20 ls [.int (nI nl)]) rfl ?_
    have hP : va_P D vwCl [(v 0, oV v), (v 3, oR (v 4) n1_13), (v 4, aZ ta 300 g1_13), (hli, oR bli nl), (bli, aZ ta capl gl)] H := hP
    have hD : va_D A [(v 0, oV v), (v 3, oR (v 4) n1_13), (v 4, aZ ta 300 g1_13), (hli, oR bli nl), (bli, aZ ta capl gl)] := hD
    refine lv_bipush (pc := 20) (v := nI 12) hx hb dX7_splitCommand_20 (by decide +kernel) ?_
    refine lv_icmp_lt (pc := 22) (tgt := 39) hx hb dX7_splitCommand_22 (by decide) (fun c_1 => ?_) (fun c_1 => ?_)
    · skip
      rw [nI_ltI (by omega) (by omega)] at c_1
      refine lv_iconst (pc := 39) (v := nI 0) hx hb dX7_splitCommand_39 (by decide +kernel) ?_
      refine q_top (y := qb false) (by first | rfl | decide +kernel | (simp; done)) ?_
      have hq_2 : (false = splB (qL gl nl)) ∧ (n1_13 = nl - 12) ∧ (qL g1_13 n1_13 = midL (qL gl nl)) := by
        refine ⟨by by_cases q : 12 ≤ nl; (rw [splB_of q]; symm; simp; omega); (rw [splB_no q]; try (exfalso; omega)), by omega, ?_⟩
        first | (rw [hL_13]; exact mid_of) | (rw [midL, qL_len, show nl - 8 = 0 by omega]; rfl)
      exact hret (⟨(false), (g1_13), (n1_13)⟩ : Bool × (Nat → BitVec 8) × Nat) _ _ _ _ dX7_splitCommand_40 hq_2 (hP.sub [0, 1, 2, 3, 4] rfl) (hD.sub [0, 1, 2, 3, 4] (by decide) rfl) hS
    · skip
      rw [nI_ltI (by omega) (by omega)] at c_1
      refine lv_aload_n (pc := 25) hx hb dX7_splitCommand_25 rfl (lv_at hl 1 rfl) ?_
      refine lv_iconst (pc := 26) (v := nI 0) hx hb dX7_splitCommand_26 (by decide +kernel) ?_
      refine cs_V (pc := 27) (idx := 52) (n := 1) (wr := [(v 0, oV v), (v 3, oR (v 4) n1_13), (v 4, aZ ta 300 g1_13)]) (As := [.int (nI 0)]) (rest := []) (ci := 5) hx hb hml hown hts hGok hK hA hG hl.1 hP hD hS (ct_X6_at_in ll D ta hGok hli bli capl gl nl 0 (by first | assumption | omega | rfl | decide) (by first | assumption | omega | rfl | decide) (by first | assumption | omega | rfl | decide) H.size) tw_413 tw_741 tw_411 tw_412 tw_66 hdX6_at rfl ⟨rfl, rfl, Nat.le_of_ble_eq_true rfl, Nat.le_of_ble_eq_true rfl, Nat.le_of_ble_eq_true rfl, Nat.le_of_ble_eq_true rfl⟩ rfl rfl (q0 := 3) rfl [3, 4] [0, 1, 2] rfl rfl (by decide) rfl (Nat.le_of_ble_eq_true rfl) dX7_splitCommand_27 (fun u H locs hq hP hD hS => ?_)
      refine W.eq (g2 := F0 mm 30 ls [.int (qz (gl 0))]) rfl ?_
      have hP : va_P D vwCl [(v 0, oV v), (v 3, oR (v 4) n1_13), (v 4, aZ ta 300 g1_13), (hli, oR bli nl), (bli, aZ ta capl gl)] H := hP
      have hD : va_D A [(v 0, oV v), (v 3, oR (v 4) n1_13), (v 4, aZ ta 300 g1_13), (hli, oR bli nl), (bli, aZ ta capl gl)] := hD
      refine lv_iconst (pc := 30) (v := nI 4) hx hb dX7_splitCommand_30 (by decide +kernel) ?_
      have hlm : (gl 0).toNat &&& 4 ≤ 4 := Nat.and_le_right
      refine lv_iand (pc := 31) hx hb dX7_splitCommand_31 ?_
      refine q_top (y := nI ((gl 0).toNat &&& 4)) (qz_bit4 _) ?_
      refine lv_if_eq (pc := 32) (tgt := 39) hx hb dX7_splitCommand_32 (by decide) (fun c_3 => ?_) (fun c_3 => ?_)
      · skip
        rw [q_eq0 (by omega)] at c_3
        refine lv_iconst (pc := 39) (v := nI 0) hx hb dX7_splitCommand_39 (by decide +kernel) ?_
        refine q_top (y := qb false) (by first | rfl | decide +kernel | (simp; done)) ?_
        have hq_4 : (false = splB (qL gl nl)) ∧ (n1_13 = nl - 12) ∧ (qL g1_13 n1_13 = midL (qL gl nl)) := by
          refine ⟨by by_cases q : 12 ≤ nl; (rw [splB_of q]; symm; simp; omega); (rw [splB_no q]; try (exfalso; omega)), by omega, ?_⟩
          first | (rw [hL_13]; exact mid_of) | (rw [midL, qL_len, show nl - 8 = 0 by omega]; rfl)
        exact hret (⟨(false), (g1_13), (n1_13)⟩ : Bool × (Nat → BitVec 8) × Nat) _ _ _ _ dX7_splitCommand_40 hq_4 (hP.sub [0, 1, 2, 3, 4] rfl) (hD.sub [0, 1, 2, 3, 4] (by decide) rfl) hS
      · skip
        rw [q_eq0 (by omega)] at c_3
        refine lv_iconst (pc := 35) (v := nI 1) hx hb dX7_splitCommand_35 (by decide +kernel) ?_
        refine lv_goto (pc := 36) (tgt := 40) hx hb dX7_splitCommand_36 (by decide) ?_
        refine q_top (y := qb true) (by first | rfl | decide +kernel | (simp; done)) ?_
        have hq_5 : (true = splB (qL gl nl)) ∧ (n1_13 = nl - 12) ∧ (qL g1_13 n1_13 = midL (qL gl nl)) := by
          refine ⟨by by_cases q : 12 ≤ nl; (rw [splB_of q]; symm; simp; omega); (rw [splB_no q]; try (exfalso; omega)), by omega, ?_⟩
          first | (rw [hL_13]; exact mid_of) | (rw [midL, qL_len, show nl - 8 = 0 by omega]; rfl)
        exact hret (⟨(true), (g1_13), (n1_13)⟩ : Bool × (Nat → BitVec 8) × Nat) _ _ _ _ dX7_splitCommand_40 hq_5 (hP.sub [0, 1, 2, 3, 4] rfl) (hD.sub [0, 1, 2, 3, 4] (by decide) rfl) hS
  · skip
    refine lv_isub (pc := 12) hx hb dX7_splitCommand_12 ?_
    refine q_top (y := nI nl - nI 8) rfl ?_
    refine cs_V (pc := 13) (idx := 70) (n := 3) (wr := [(v 0, oV v)]) (As := [.ref hli, .int (nI 4), .int (nI nl - nI 8)]) (rest := []) (ci := 5) hx hb hml hown hts hGok hK hA hG hl.1 hP hD hS (ct_X6_copyPart_neg ll D ta hGok (v 3) (v 4) 300 gd nd hli bli capl gl nl 4 (nI nl - nI 8) (by first | assumption | omega | rfl | decide) (by first | omega | exact nI_sub_neg (by omega) (by omega)) H.size) tw_464 tw_803 tw_462 tw_463 tw_66 hdX6_copyPart rfl ⟨rfl, rfl, Nat.le_of_ble_eq_true rfl, Nat.le_of_ble_eq_true rfl, Nat.le_of_ble_eq_true rfl, Nat.le_of_ble_eq_true rfl⟩ rfl rfl (q0 := 1) rfl [1, 2, 3, 4] [0] rfl rfl (by decide) rfl (Nat.le_of_ble_eq_true rfl) dX7_splitCommand_13 (fun u H locs hq hP hD hS => ?_)
    refine W.eq (g2 := F0 mm 16 ls []) rfl ?_
    have hP : va_P D vwCl [(v 0, oV v), (v 3, oR (v 4) 0), (v 4, aZ ta 300 gd), (hli, oR bli nl), (bli, aZ ta capl gl)] H := hP
    have hD : va_D A [(v 0, oV v), (v 3, oR (v 4) 0), (v 4, aZ ta 300 gd), (hli, oR bli nl), (bli, aZ ta capl gl)] := hD
    refine lv_aload_n (pc := 16) hx hb dX7_splitCommand_16 rfl (lv_at hl 1 rfl) ?_
    refine cs_V (pc := 17) (idx := 49) (n := 0) (wr := [(v 0, oV v), (v 3, oR (v 4) 0), (v 4, aZ ta 300 gd)]) (As := []) (rest := []) (ci := 5) hx hb hml hown hts hGok hK hA hG hl.1 hP hD hS (ct_X6_size ll D ta hGok hli bli capl gl nl  H.size) tw_393 tw_722 tw_391 tw_392 tw_66 hdX6_size rfl ⟨rfl, rfl, Nat.le_of_ble_eq_true rfl, Nat.le_of_ble_eq_true rfl, Nat.le_of_ble_eq_true rfl, Nat.le_of_ble_eq_true rfl⟩ rfl rfl (q0 := 3) rfl [3, 4] [0, 1, 2] rfl rfl (by decide) rfl (Nat.le_of_ble_eq_true rfl) dX7_splitCommand_17 (fun u H locs hq hP hD hS => ?_)
    refine W.eq (g2 := F0 mm 20 ls [.int (nI nl)]) rfl ?_
    have hP : va_P D vwCl [(v 0, oV v), (v 3, oR (v 4) 0), (v 4, aZ ta 300 gd), (hli, oR bli nl), (bli, aZ ta capl gl)] H := hP
    have hD : va_D A [(v 0, oV v), (v 3, oR (v 4) 0), (v 4, aZ ta 300 gd), (hli, oR bli nl), (bli, aZ ta capl gl)] := hD
    refine lv_bipush (pc := 20) (v := nI 12) hx hb dX7_splitCommand_20 (by decide +kernel) ?_
    refine lv_icmp_lt (pc := 22) (tgt := 39) hx hb dX7_splitCommand_22 (by decide) (fun c_6 => ?_) (fun c_6 => ?_)
    · skip
      rw [nI_ltI (by omega) (by omega)] at c_6
      refine lv_iconst (pc := 39) (v := nI 0) hx hb dX7_splitCommand_39 (by decide +kernel) ?_
      refine q_top (y := qb false) (by first | rfl | decide +kernel | (simp; done)) ?_
      have hq_7 : (false = splB (qL gl nl)) ∧ (0 = nl - 12) ∧ (qL gd 0 = midL (qL gl nl)) := by
        refine ⟨by by_cases q : 12 ≤ nl; (rw [splB_of q]; symm; simp; omega); (rw [splB_no q]; try (exfalso; omega)), by omega, ?_⟩
        first | (rw [hL_13]; exact mid_of) | (rw [midL, qL_len, show nl - 8 = 0 by omega]; rfl)
      exact hret (⟨(false), (gd), (0)⟩ : Bool × (Nat → BitVec 8) × Nat) _ _ _ _ dX7_splitCommand_40 hq_7 (hP.sub [0, 1, 2, 3, 4] rfl) (hD.sub [0, 1, 2, 3, 4] (by decide) rfl) hS
    · skip
      rw [nI_ltI (by omega) (by omega)] at c_6
      refine lv_aload_n (pc := 25) hx hb dX7_splitCommand_25 rfl (lv_at hl 1 rfl) ?_
      refine lv_iconst (pc := 26) (v := nI 0) hx hb dX7_splitCommand_26 (by decide +kernel) ?_
      refine cs_V (pc := 27) (idx := 52) (n := 1) (wr := [(v 0, oV v), (v 3, oR (v 4) 0), (v 4, aZ ta 300 gd)]) (As := [.int (nI 0)]) (rest := []) (ci := 5) hx hb hml hown hts hGok hK hA hG hl.1 hP hD hS (ct_X6_at_in ll D ta hGok hli bli capl gl nl 0 (by first | assumption | omega | rfl | decide) (by first | assumption | omega | rfl | decide) (by first | assumption | omega | rfl | decide) H.size) tw_413 tw_741 tw_411 tw_412 tw_66 hdX6_at rfl ⟨rfl, rfl, Nat.le_of_ble_eq_true rfl, Nat.le_of_ble_eq_true rfl, Nat.le_of_ble_eq_true rfl, Nat.le_of_ble_eq_true rfl⟩ rfl rfl (q0 := 3) rfl [3, 4] [0, 1, 2] rfl rfl (by decide) rfl (Nat.le_of_ble_eq_true rfl) dX7_splitCommand_27 (fun u H locs hq hP hD hS => ?_)
      refine W.eq (g2 := F0 mm 30 ls [.int (qz (gl 0))]) rfl ?_
      have hP : va_P D vwCl [(v 0, oV v), (v 3, oR (v 4) 0), (v 4, aZ ta 300 gd), (hli, oR bli nl), (bli, aZ ta capl gl)] H := hP
      have hD : va_D A [(v 0, oV v), (v 3, oR (v 4) 0), (v 4, aZ ta 300 gd), (hli, oR bli nl), (bli, aZ ta capl gl)] := hD
      refine lv_iconst (pc := 30) (v := nI 4) hx hb dX7_splitCommand_30 (by decide +kernel) ?_
      have hlm : (gl 0).toNat &&& 4 ≤ 4 := Nat.and_le_right
      refine lv_iand (pc := 31) hx hb dX7_splitCommand_31 ?_
      refine q_top (y := nI ((gl 0).toNat &&& 4)) (qz_bit4 _) ?_
      refine lv_if_eq (pc := 32) (tgt := 39) hx hb dX7_splitCommand_32 (by decide) (fun c_8 => ?_) (fun c_8 => ?_)
      · skip
        rw [q_eq0 (by omega)] at c_8
        refine lv_iconst (pc := 39) (v := nI 0) hx hb dX7_splitCommand_39 (by decide +kernel) ?_
        refine q_top (y := qb false) (by first | rfl | decide +kernel | (simp; done)) ?_
        have hq_9 : (false = splB (qL gl nl)) ∧ (0 = nl - 12) ∧ (qL gd 0 = midL (qL gl nl)) := by
          refine ⟨by by_cases q : 12 ≤ nl; (rw [splB_of q]; symm; simp; omega); (rw [splB_no q]; try (exfalso; omega)), by omega, ?_⟩
          first | (rw [hL_13]; exact mid_of) | (rw [midL, qL_len, show nl - 8 = 0 by omega]; rfl)
        exact hret (⟨(false), (gd), (0)⟩ : Bool × (Nat → BitVec 8) × Nat) _ _ _ _ dX7_splitCommand_40 hq_9 (hP.sub [0, 1, 2, 3, 4] rfl) (hD.sub [0, 1, 2, 3, 4] (by decide) rfl) hS
      · skip
        rw [q_eq0 (by omega)] at c_8
        refine lv_iconst (pc := 35) (v := nI 1) hx hb dX7_splitCommand_35 (by decide +kernel) ?_
        refine lv_goto (pc := 36) (tgt := 40) hx hb dX7_splitCommand_36 (by decide) ?_
        refine q_top (y := qb true) (by first | rfl | decide +kernel | (simp; done)) ?_
        have hq_10 : (true = splB (qL gl nl)) ∧ (0 = nl - 12) ∧ (qL gd 0 = midL (qL gl nl)) := by
          refine ⟨by by_cases q : 12 ≤ nl; (rw [splB_of q]; symm; simp; omega); (rw [splB_no q]; try (exfalso; omega)), by omega, ?_⟩
          first | (rw [hL_13]; exact mid_of) | (rw [midL, qL_len, show nl - 8 = 0 by omega]; rfl)
        exact hret (⟨(true), (gd), (0)⟩ : Bool × (Nat → BitVec 8) × Nat) _ _ _ _ dX7_splitCommand_40 hq_10 (hP.sub [0, 1, 2, 3, 4] rfl) (hD.sub [0, 1, 2, 3, 4] (by decide) rfl) hS
set_option maxHeartbeats 4000000 in
set_option maxRecDepth 100000 in
theorem ct_X7_joinCommand_N (ll : Launch) (D : va_G) (ta : Nat → ClassId) {G : (Nat → Prop) → State → Heap → Prop} (hGok : GOK G) (v : Nat → Nat) (gd : Nat → BitVec 8) (nd : Nat) (hli : Nat) (bli : Nat) (capl : Nat) (gl : Nat → BitVec 8) (nl : Nat) (hc : Nat) (bc : Nat) (capc : Nat) (gc : Nat → BitVec 8) (nc : Nat) (hnl : 4 ≤ nl ∧ nl ≤ capl ∧ capl < 2147483648) (hnd : nd ≤ 300) (hcc : 204 ≤ capc ∧ capc < 2147483648) (sz : Nat) : CT ll yX7_joinCommand cX7_joinCommand 3 (some .boolean) ({ frames := 3, cells := 0, slots := 0, locals := 66 } : Room) D ta G [.ref (v 0), .ref hli, .ref hc] [(v 0, oV v), (v 3, oR (v 4) nd), (v 4, aZ ta 300 gd), (hli, oR bli nl), (bli, aZ ta capl gl), (hc, oR bc nc), (bc, aZ ta capc gc)] sz (S := Bool × (Nat → BitVec 8) × Nat) (fun u => some (.int (qb u.1))) (fun u => (u.1 = decide (nd ≤ 200)) ∧ (u.2.2 ≤ capc) ∧ (u.1 = true → u.2.2 = nd + 4 ∧ qL u.2.1 u.2.2 = joinC (qL gl nl) (qL gd nd))) (fun u => [(v 0, oV v), (v 3, oR (v 4) nd), (v 4, aZ ta 300 gd), (hli, oR bli nl), (bli, aZ ta capl gl), (hc, oR bc u.2.2), (bc, aZ ta capc u.2.1)]) 0 0 := by
  refine CT.of_z (r := fun u => u.1) rfl (by decide) (Nat.le_of_ble_eq_true rfl) ?_
  intro pp ee ss mm below meth kc A Q hx hb hml hown hin hts hK hA hsz hG hret H locs hP hD hS ls hl
  have hl : lv_has ls 3 [(0, .ref (v 0)), (1, .ref hli), (2, .ref hc)] := hl
  refine lv_aload_n (pc := 0) hx hb dX7_joinCommand_0 rfl (lv_at hl 2 rfl) ?_
  refine cs_V (pc := 1) (idx := 63) (n := 0) (wr := [(v 0, oV v), (v 3, oR (v 4) nd), (v 4, aZ ta 300 gd), (hli, oR bli nl), (bli, aZ ta capl gl)]) (As := []) (rest := []) (ci := 5) hx hb hml hown hts hGok hK hA hG hl.1 hP hD hS (ct_X6_clear ll D ta hGok hc bc capc gc nc  H.size) tw_441 tw_750 tw_439 tw_440 tw_66 hdX6_clear rfl ⟨rfl, rfl, Nat.le_of_ble_eq_true rfl, Nat.le_of_ble_eq_true rfl, Nat.le_of_ble_eq_true rfl, Nat.le_of_ble_eq_true rfl⟩ rfl rfl (q0 := 5) rfl [5, 6] [0, 1, 2, 3, 4] rfl rfl (by decide) rfl (Nat.le_of_ble_eq_true rfl) dX7_joinCommand_1 (fun u H locs hq hP hD hS => ?_)
  refine W.eq (g2 := F0 mm 4 ls []) rfl ?_
  have hP : va_P D vwCl [(v 0, oV v), (v 3, oR (v 4) nd), (v 4, aZ ta 300 gd), (hli, oR bli nl), (bli, aZ ta capl gl), (hc, oR bc 0), (bc, aZ ta capc gc)] H := hP
  have hD : va_D A [(v 0, oV v), (v 3, oR (v 4) nd), (v 4, aZ ta 300 gd), (hli, oR bli nl), (bli, aZ ta capl gl), (hc, oR bc 0), (bc, aZ ta capc gc)] := hD
  refine lv_aload_n (pc := 4) hx hb dX7_joinCommand_4 rfl (lv_at hl 2 rfl) ?_
  refine lv_aload_n (pc := 5) hx hb dX7_joinCommand_5 rfl (lv_at hl 1 rfl) ?_
  refine lv_iconst (pc := 6) (v := nI 0) hx hb dX7_joinCommand_6 (by decide +kernel) ?_
  refine cs_V (pc := 7) (idx := 52) (n := 1) (wr := [(v 0, oV v), (v 3, oR (v 4) nd), (v 4, aZ ta 300 gd), (hc, oR bc 0), (bc, aZ ta capc gc)]) (As := [.int (nI 0)]) (rest := [.ref hc]) (ci := 5) hx hb hml hown hts hGok hK hA hG hl.1 hP hD hS (ct_X6_at_in ll D ta hGok hli bli capl gl nl 0 (by first | assumption | omega | rfl | decide) (by first | assumption | omega | rfl | decide) (by first | assumption | omega | rfl | decide) H.size) tw_413 tw_741 tw_411 tw_412 tw_66 hdX6_at rfl ⟨rfl, rfl, Nat.le_of_ble_eq_true rfl, Nat.le_of_ble_eq_true rfl, Nat.le_of_ble_eq_true rfl, Nat.le_of_ble_eq_true rfl⟩ rfl rfl (q0 := 3) rfl [3, 4] [0, 1, 2, 5, 6] rfl rfl (by decide) rfl (Nat.le_of_ble_eq_true rfl) dX7_joinCommand_7 (fun u H locs hq hP hD hS => ?_)
  refine W.eq (g2 := F0 mm 10 ls [.int (qz (gl 0)), .ref hc]) rfl ?_
  have hP : va_P D vwCl [(v 0, oV v), (v 3, oR (v 4) nd), (v 4, aZ ta 300 gd), (hc, oR bc 0), (bc, aZ ta capc gc), (hli, oR bli nl), (bli, aZ ta capl gl)] H := hP
  have hD : va_D A [(v 0, oV v), (v 3, oR (v 4) nd), (v 4, aZ ta 300 gd), (hc, oR bc 0), (bc, aZ ta capc gc), (hli, oR bli nl), (bli, aZ ta capl gl)] := hD
  refine lv_bipush (pc := 10) (v := (-5)) hx hb dX7_joinCommand_10 (by decide +kernel) ?_
  refine lv_iand (pc := 12) hx hb dX7_joinCommand_12 ?_
  refine cs_V (pc := 13) (idx := 56) (n := 1) (wr := [(v 0, oV v), (v 3, oR (v 4) nd), (v 4, aZ ta 300 gd), (hli, oR bli nl), (bli, aZ ta capl gl)]) (As := [.int ((qz (gl 0)) &&& (-5))]) (rest := []) (ci := 5) hx hb hml hown hts hGok hK hA hG hl.1 hP hD hS (ct_X6_add ll D ta hGok hc bc capc gc 0 ((qz (gl 0)) &&& (-5)) (by first | assumption | omega | rfl | decide) (by first | assumption | omega | rfl | decide) H.size) tw_231 tw_742 tw_229 tw_230 tw_66 hdX6_add rfl ⟨rfl, rfl, Nat.le_of_ble_eq_true rfl, Nat.le_of_ble_eq_true rfl, Nat.le_of_ble_eq_true rfl, Nat.le_of_ble_eq_true rfl⟩ rfl rfl (q0 := 3) rfl [3, 4] [0, 1, 2, 5, 6] rfl rfl (by decide) rfl (Nat.le_of_ble_eq_true rfl) dX7_joinCommand_13 (fun u H locs hq hP hD hS => ?_)
  generalize u = g1_13 at hq hP hD ⊢
  have hq : (qL g1_13 (0 + 1) = qL gc 0 ++ [qlo ((qz (gl 0)) &&& (-5))]) := hq
  have hL_13 := hq
  refine W.eq (g2 := F0 mm 16 ls []) rfl ?_
  have hP : va_P D vwCl [(v 0, oV v), (v 3, oR (v 4) nd), (v 4, aZ ta 300 gd), (hli, oR bli nl), (bli, aZ ta capl gl), (hc, oR bc (0 + 1)), (bc, aZ ta capc g1_13)] H := hP
  have hD : va_D A [(v 0, oV v), (v 3, oR (v 4) nd), (v 4, aZ ta 300 gd), (hli, oR bli nl), (bli, aZ ta capl gl), (hc, oR bc (0 + 1)), (bc, aZ ta capc g1_13)] := hD
  refine lv_aload_n (pc := 16) hx hb dX7_joinCommand_16 rfl (lv_at hl 2 rfl) ?_
  refine lv_aload_n (pc := 17) hx hb dX7_joinCommand_17 rfl (lv_at hl 1 rfl) ?_
  refine lv_iconst (pc := 18) (v := nI 1) hx hb dX7_joinCommand_18 (by decide +kernel) ?_
  refine lv_iconst (pc := 19) (v := nI 4) hx hb dX7_joinCommand_19 (by decide +kernel) ?_
  refine cs_V (pc := 20) (idx := 59) (n := 3) (wr := [(v 0, oV v), (v 3, oR (v 4) nd), (v 4, aZ ta 300 gd)]) (As := [.ref hli, .int (nI 1), .int (nI 4)]) (rest := []) (ci := 5) hx hb hml hown hts hGok hK hA hG hl.1 hP hD hS (ct_X6_addPart ll D ta hGok hc bc capc g1_13 (0 + 1) hli bli capl gl nl 1 4 (by first | assumption | omega | rfl | decide) (by first | assumption | omega | rfl | decide) (by first | assumption | omega | rfl | decide) (by first | assumption | omega | rfl | decide) (by first | assumption | omega | rfl | decide) (by first | assumption | omega | rfl | decide) H.size) tw_445 tw_743 tw_443 tw_444 tw_66 hdX6_addPart rfl ⟨rfl, rfl, Nat.le_of_ble_eq_true rfl, Nat.le_of_ble_eq_true rfl, Nat.le_of_ble_eq_true rfl, Nat.le_of_ble_eq_true rfl⟩ rfl rfl (q0 := 5) rfl [5, 6, 3, 4] [0, 1, 2] rfl rfl (by decide) rfl (Nat.le_of_ble_eq_true rfl) dX7_joinCommand_20 (fun u H locs hq hP hD hS => ?_)
  obtain ⟨g1_20, n1_20⟩ := u
  have hq : (n1_20 = (0 + 1) + (min 4 nl - 1)) ∧ (qL g1_20 n1_20 = qL g1_13 (0 + 1) ++ ((qL gl nl).take 4).drop 1) := hq
  obtain ⟨hm_20, hL_20⟩ := hq
  refine W.eq (g2 := F0 mm 23 ls []) rfl ?_
  have hP : va_P D vwCl [(v 0, oV v), (v 3, oR (v 4) nd), (v 4, aZ ta 300 gd), (hc, oR bc n1_20), (bc, aZ ta capc g1_20), (hli, oR bli nl), (bli, aZ ta capl gl)] H := hP
  have hD : va_D A [(v 0, oV v), (v 3, oR (v 4) nd), (v 4, aZ ta 300 gd), (hc, oR bc n1_20), (bc, aZ ta capc g1_20), (hli, oR bli nl), (bli, aZ ta capl gl)] := hD
  refine lv_aload_n (pc := 23) hx hb dX7_joinCommand_23 rfl (lv_at hl 2 rfl) ?_
  refine lv_aload_n (pc := 24) hx hb dX7_joinCommand_24 rfl (lv_at hl 0 rfl) ?_
  refine va_get (pc := 25) (D := D) (ci := 3) (v := .ref (v 3)) (C := RX4) (T := TX4) (N := 7) hx hb hts iu4 hown hK hP 0 rfl rfl 1 (by decide) (hts _ tw_275) (fun _ h9 => h9) rfl dX7_joinCommand_25 ?_
  have en_1 : 4 = n1_20 := by omega
  subst en_1
  by_cases h200 : nd ≤ 200
  · skip
    refine cs_V (pc := 28) (idx := 66) (n := 1) (wr := [(v 0, oV v), (hli, oR bli nl), (bli, aZ ta capl gl)]) (As := [.ref (v 3)]) (rest := []) (ci := 5) hx hb hml hown hts hGok hK hA hG hl.1 hP hD hS (ct_X6_addAll ll D ta hGok hc bc capc g1_20 4 (v 3) (v 4) 300 gd nd (by first | assumption | omega | rfl | decide) (by first | assumption | omega | rfl | decide) (by first | assumption | omega | rfl | decide) (by first | assumption | omega | rfl | decide) H.size) tw_501 tw_751 tw_499 tw_500 tw_66 hdX6_addAll rfl ⟨rfl, rfl, Nat.le_of_ble_eq_true rfl, Nat.le_of_ble_eq_true rfl, Nat.le_of_ble_eq_true rfl, Nat.le_of_ble_eq_true rfl⟩ rfl rfl (q0 := 3) rfl [3, 4, 1, 2] [0, 5, 6] rfl rfl (by decide) rfl (Nat.le_of_ble_eq_true rfl) dX7_joinCommand_28 (fun u H locs hq hP hD hS => ?_)
    generalize u = g1_28 at hq hP hD ⊢
    have hq : (qL g1_28 (4 + nd) = qL g1_20 4 ++ qL gd nd) := hq
    have hL_28 := hq
    refine W.eq (g2 := F0 mm 31 ls []) rfl ?_
    have hP : va_P D vwCl [(v 0, oV v), (hli, oR bli nl), (bli, aZ ta capl gl), (hc, oR bc (4 + nd)), (bc, aZ ta capc g1_28), (v 3, oR (v 4) nd), (v 4, aZ ta 300 gd)] H := hP
    have hD : va_D A [(v 0, oV v), (hli, oR bli nl), (bli, aZ ta capl gl), (hc, oR bc (4 + nd)), (bc, aZ ta capc g1_28), (v 3, oR (v 4) nd), (v 4, aZ ta 300 gd)] := hD
    refine lv_aload_n (pc := 31) hx hb dX7_joinCommand_31 rfl (lv_at hl 0 rfl) ?_
    refine va_get (pc := 32) (D := D) (ci := 3) (v := .ref (v 3)) (C := RX4) (T := TX4) (N := 7) hx hb hts iu4 hown hK hP 0 rfl rfl 1 (by decide) (hts _ tw_275) (fun _ h9 => h9) rfl dX7_joinCommand_32 ?_
    refine cs_V (pc := 35) (idx := 49) (n := 0) (wr := [(v 0, oV v), (hli, oR bli nl), (bli, aZ ta capl gl), (hc, oR bc (4 + nd)), (bc, aZ ta capc g1_28)]) (As := []) (rest := []) (ci := 5) hx hb hml hown hts hGok hK hA hG hl.1 hP hD hS (ct_X6_size ll D ta hGok (v 3) (v 4) 300 gd nd  H.size) tw_393 tw_722 tw_391 tw_392 tw_66 hdX6_size rfl ⟨rfl, rfl, Nat.le_of_ble_eq_true rfl, Nat.le_of_ble_eq_true rfl, Nat.le_of_ble_eq_true rfl, Nat.le_of_ble_eq_true rfl⟩ rfl rfl (q0 := 5) rfl [5, 6] [0, 1, 2, 3, 4] rfl rfl (by decide) rfl (Nat.le_of_ble_eq_true rfl) dX7_joinCommand_35 (fun u H locs hq hP hD hS => ?_)
    refine W.eq (g2 := F0 mm 38 ls [.int (nI nd)]) rfl ?_
    have hP : va_P D vwCl [(v 0, oV v), (hli, oR bli nl), (bli, aZ ta capl gl), (hc, oR bc (4 + nd)), (bc, aZ ta capc g1_28), (v 3, oR (v 4) nd), (v 4, aZ ta 300 gd)] H := hP
    have hD : va_D A [(v 0, oV v), (hli, oR bli nl), (bli, aZ ta capl gl), (hc, oR bc (4 + nd)), (bc, aZ ta capc g1_28), (v 3, oR (v 4) nd), (v 4, aZ ta 300 gd)] := hD
    refine lv_sipush (pc := 38) (v := nI 200) hx hb dX7_joinCommand_38 (by decide +kernel) ?_
    refine lv_icmp_gt (pc := 41) (tgt := 48) hx hb dX7_joinCommand_41 (by decide) (fun c_2 => ?_) (fun c_2 => ?_)
    · skip
      rw [nI_ltI (by omega) (by omega)] at c_2
      refine lv_iconst (pc := 48) (v := nI 0) hx hb dX7_joinCommand_48 (by decide +kernel) ?_
      refine q_top (y := qb false) (by first | rfl | decide +kernel | (simp; done)) ?_
      have hq_3 : (false = decide (nd ≤ 200)) ∧ ((4 + nd) ≤ capc) ∧ (false = true → (4 + nd) = nd + 4 ∧ qL g1_28 (4 + nd) = joinC (qL gl nl) (qL gd nd)) := by
        refine ⟨by symm; simp; omega, by omega, fun hh => ?_⟩
        first | (cases hh; done) | (exfalso; omega) | (refine ⟨by omega, ?_⟩; rw [hL_28, hL_20, hL_13, qlo_m5, joinC, qL_getD (by omega)]; rfl)
      exact hret (⟨(false), (g1_28), (4 + nd)⟩ : Bool × (Nat → BitVec 8) × Nat) _ _ _ _ dX7_joinCommand_49 hq_3 (hP.sub [0, 5, 6, 1, 2, 3, 4] rfl) (hD.sub [0, 5, 6, 1, 2, 3, 4] (by decide) rfl) hS
    · skip
      rw [nI_ltI (by omega) (by omega)] at c_2
      refine lv_iconst (pc := 44) (v := nI 1) hx hb dX7_joinCommand_44 (by decide +kernel) ?_
      refine lv_goto (pc := 45) (tgt := 49) hx hb dX7_joinCommand_45 (by decide) ?_
      refine q_top (y := qb true) (by first | rfl | decide +kernel | (simp; done)) ?_
      have hq_4 : (true = decide (nd ≤ 200)) ∧ ((4 + nd) ≤ capc) ∧ (true = true → (4 + nd) = nd + 4 ∧ qL g1_28 (4 + nd) = joinC (qL gl nl) (qL gd nd)) := by
        refine ⟨by symm; simp; omega, by omega, fun hh => ?_⟩
        first | (cases hh; done) | (exfalso; omega) | (refine ⟨by omega, ?_⟩; rw [hL_28, hL_20, hL_13, qlo_m5, joinC, qL_getD (by omega)]; rfl)
      exact hret (⟨(true), (g1_28), (4 + nd)⟩ : Bool × (Nat → BitVec 8) × Nat) _ _ _ _ dX7_joinCommand_49 hq_4 (hP.sub [0, 5, 6, 1, 2, 3, 4] rfl) (hD.sub [0, 5, 6, 1, 2, 3, 4] (by decide) rfl) hS
  · skip
    refine cs_V (pc := 28) (idx := 66) (n := 1) (wr := [(v 0, oV v), (hli, oR bli nl), (bli, aZ ta capl gl)]) (As := [.ref (v 3)]) (rest := []) (ci := 5) hx hb hml hown hts hGok hK hA hG hl.1 hP hD hS (ct_X6_addAll_any ll D ta hGok hc bc capc g1_20 4 (v 3) (v 4) 300 gd nd (by first | assumption | omega | rfl | decide) (by first | assumption | omega | rfl | decide) (by first | assumption | omega | rfl | decide) (by first | assumption | omega | rfl | decide) H.size) tw_501 tw_751 tw_499 tw_500 tw_66 hdX6_addAll rfl ⟨rfl, rfl, Nat.le_of_ble_eq_true rfl, Nat.le_of_ble_eq_true rfl, Nat.le_of_ble_eq_true rfl, Nat.le_of_ble_eq_true rfl⟩ rfl rfl (q0 := 3) rfl [3, 4, 1, 2] [0, 5, 6] rfl rfl (by decide) rfl (Nat.le_of_ble_eq_true rfl) dX7_joinCommand_28 (fun u H locs hq hP hD hS => ?_)
    obtain ⟨g1_28, n1_28⟩ := u
    have hq : (n1_28 ≤ capc) := hq
    have hm_28 := hq
    refine W.eq (g2 := F0 mm 31 ls []) rfl ?_
    have hP : va_P D vwCl [(v 0, oV v), (hli, oR bli nl), (bli, aZ ta capl gl), (hc, oR bc n1_28), (bc, aZ ta capc g1_28), (v 3, oR (v 4) nd), (v 4, aZ ta 300 gd)] H := hP
    have hD : va_D A [(v 0, oV v), (hli, oR bli nl), (bli, aZ ta capl gl), (hc, oR bc n1_28), (bc, aZ ta capc g1_28), (v 3, oR (v 4) nd), (v 4, aZ ta 300 gd)] := hD
    refine lv_aload_n (pc := 31) hx hb dX7_joinCommand_31 rfl (lv_at hl 0 rfl) ?_
    refine va_get (pc := 32) (D := D) (ci := 3) (v := .ref (v 3)) (C := RX4) (T := TX4) (N := 7) hx hb hts iu4 hown hK hP 0 rfl rfl 1 (by decide) (hts _ tw_275) (fun _ h9 => h9) rfl dX7_joinCommand_32 ?_
    refine cs_V (pc := 35) (idx := 49) (n := 0) (wr := [(v 0, oV v), (hli, oR bli nl), (bli, aZ ta capl gl), (hc, oR bc n1_28), (bc, aZ ta capc g1_28)]) (As := []) (rest := []) (ci := 5) hx hb hml hown hts hGok hK hA hG hl.1 hP hD hS (ct_X6_size ll D ta hGok (v 3) (v 4) 300 gd nd  H.size) tw_393 tw_722 tw_391 tw_392 tw_66 hdX6_size rfl ⟨rfl, rfl, Nat.le_of_ble_eq_true rfl, Nat.le_of_ble_eq_true rfl, Nat.le_of_ble_eq_true rfl, Nat.le_of_ble_eq_true rfl⟩ rfl rfl (q0 := 5) rfl [5, 6] [0, 1, 2, 3, 4] rfl rfl (by decide) rfl (Nat.le_of_ble_eq_true rfl) dX7_joinCommand_35 (fun u H locs hq hP hD hS => ?_)
    refine W.eq (g2 := F0 mm 38 ls [.int (nI nd)]) rfl ?_
    have hP : va_P D vwCl [(v 0, oV v), (hli, oR bli nl), (bli, aZ ta capl gl), (hc, oR bc n1_28), (bc, aZ ta capc g1_28), (v 3, oR (v 4) nd), (v 4, aZ ta 300 gd)] H := hP
    have hD : va_D A [(v 0, oV v), (hli, oR bli nl), (bli, aZ ta capl gl), (hc, oR bc n1_28), (bc, aZ ta capc g1_28), (v 3, oR (v 4) nd), (v 4, aZ ta 300 gd)] := hD
    refine lv_sipush (pc := 38) (v := nI 200) hx hb dX7_joinCommand_38 (by decide +kernel) ?_
    refine lv_icmp_gt (pc := 41) (tgt := 48) hx hb dX7_joinCommand_41 (by decide) (fun c_5 => ?_) (fun c_5 => ?_)
    · skip
      rw [nI_ltI (by omega) (by omega)] at c_5
      refine lv_iconst (pc := 48) (v := nI 0) hx hb dX7_joinCommand_48 (by decide +kernel) ?_
      refine q_top (y := qb false) (by first | rfl | decide +kernel | (simp; done)) ?_
      have hq_6 : (false = decide (nd ≤ 200)) ∧ (n1_28 ≤ capc) ∧ (false = true → n1_28 = nd + 4 ∧ qL g1_28 n1_28 = joinC (qL gl nl) (qL gd nd)) := by
        refine ⟨by symm; simp; omega, by omega, fun hh => ?_⟩
        first | (cases hh; done) | (exfalso; omega) | (refine ⟨by omega, ?_⟩; rw [hL_28, hL_20, hL_13, qlo_m5, joinC, qL_getD (by omega)]; rfl)
      exact hret (⟨(false), (g1_28), (n1_28)⟩ : Bool × (Nat → BitVec 8) × Nat) _ _ _ _ dX7_joinCommand_49 hq_6 (hP.sub [0, 5, 6, 1, 2, 3, 4] rfl) (hD.sub [0, 5, 6, 1, 2, 3, 4] (by decide) rfl) hS
    · skip
      rw [nI_ltI (by omega) (by omega)] at c_5
      refine lv_iconst (pc := 44) (v := nI 1) hx hb dX7_joinCommand_44 (by decide +kernel) ?_
      refine lv_goto (pc := 45) (tgt := 49) hx hb dX7_joinCommand_45 (by decide) ?_
      refine q_top (y := qb true) (by first | rfl | decide +kernel | (simp; done)) ?_
      have hq_7 : (true = decide (nd ≤ 200)) ∧ (n1_28 ≤ capc) ∧ (true = true → n1_28 = nd + 4 ∧ qL g1_28 n1_28 = joinC (qL gl nl) (qL gd nd)) := by
        refine ⟨by symm; simp; omega, by omega, fun hh => ?_⟩
        first | (cases hh; done) | (exfalso; omega) | (refine ⟨by omega, ?_⟩; rw [hL_28, hL_20, hL_13, qlo_m5, joinC, qL_getD (by omega)]; rfl)
      exact hret (⟨(true), (g1_28), (n1_28)⟩ : Bool × (Nat → BitVec 8) × Nat) _ _ _ _ dX7_joinCommand_49 hq_7 (hP.sub [0, 5, 6, 1, 2, 3, 4] rfl) (hD.sub [0, 5, 6, 1, 2, 3, 4] (by decide) rfl) hS
set_option maxHeartbeats 4000000 in
set_option maxRecDepth 100000 in
theorem ct_X7_splitAnswer_N (ll : Launch) (D : va_G) (ta : Nat → ClassId) {G : (Nat → Prop) → State → Heap → Prop} (hGok : GOK G) (v : Nat → Nat) (gd : Nat → BitVec 8) (nd : Nat) (hli : Nat) (bli : Nat) (capl : Nat) (gl : Nat → BitVec 8) (nl : Nat) (hnl : nl ≤ capl ∧ capl ≤ 300) (sz : Nat) : CT ll yX7_splitAnswer cX7_splitAnswer 2 (some .boolean) ({ frames := 3, cells := 0, slots := 0, locals := 68 } : Room) D ta G [.ref (v 0), .ref hli] [(v 0, oV v), (v 3, oR (v 4) nd), (v 4, aZ ta 300 gd), (hli, oR bli nl), (bli, aZ ta capl gl)] sz (S := Bool × (Nat → BitVec 8) × Nat) (fun u => some (.int (qb u.1))) (fun u => (u.1 = decide (8 ≤ nl)) ∧ (u.2.2 = nl - 8) ∧ (qL u.2.1 u.2.2 = (qL gl nl).take (nl - 8))) (fun u => [(v 0, oV v), (v 3, oR (v 4) u.2.2), (v 4, aZ ta 300 u.2.1), (hli, oR bli nl), (bli, aZ ta capl gl)]) 0 0 := by
  refine CT.of_z (r := fun u => u.1) rfl (by decide) (Nat.le_of_ble_eq_true rfl) ?_
  intro pp ee ss mm below meth kc A Q hx hb hml hown hin hts hK hA hsz hG hret H locs hP hD hS ls hl
  have hl : lv_has ls 2 [(0, .ref (v 0)), (1, .ref hli)] := hl
  refine lv_aload_n (pc := 0) hx hb dX7_splitAnswer_0 rfl (lv_at hl 0 rfl) ?_
  refine va_get (pc := 1) (D := D) (ci := 3) (v := .ref (v 3)) (C := RX4) (T := TX4) (N := 7) hx hb hts iu4 hown hK hP 0 rfl rfl 1 (by decide) (hts _ tw_275) (fun _ h9 => h9) rfl dX7_splitAnswer_1 ?_
  refine lv_aload_n (pc := 4) hx hb dX7_splitAnswer_4 rfl (lv_at hl 1 rfl) ?_
  refine lv_iconst (pc := 5) (v := nI 0) hx hb dX7_splitAnswer_5 (by decide +kernel) ?_
  refine lv_aload_n (pc := 6) hx hb dX7_splitAnswer_6 rfl (lv_at hl 1 rfl) ?_
  refine cs_V (pc := 7) (idx := 49) (n := 0) (wr := [(v 0, oV v), (v 3, oR (v 4) nd), (v 4, aZ ta 300 gd)]) (As := []) (rest := [.int (nI 0), .ref hli, .ref (v 3)]) (ci := 5) hx hb hml hown hts hGok hK hA hG hl.1 hP hD hS (ct_X6_size ll D ta hGok hli bli capl gl nl  H.size) tw_393 tw_722 tw_391 tw_392 tw_66 hdX6_size rfl ⟨rfl, rfl, Nat.le_of_ble_eq_true rfl, Nat.le_of_ble_eq_true rfl, Nat.le_of_ble_eq_true rfl, Nat.le_of_ble_eq_true rfl⟩ rfl rfl (q0 := 3) rfl [3, 4] [0, 1, 2] rfl rfl (by decide) rfl (Nat.le_of_ble_eq_true rfl) dX7_splitAnswer_7 (fun u H locs hq hP hD hS => ?_)
  refine W.eq (g2 := F0 mm 10 ls [.int (nI nl), .int (nI 0), .ref hli, .ref (v 3)]) rfl ?_
  have hP : va_P D vwCl [(v 0, oV v), (v 3, oR (v 4) nd), (v 4, aZ ta 300 gd), (hli, oR bli nl), (bli, aZ ta capl gl)] H := hP
  have hD : va_D A [(v 0, oV v), (v 3, oR (v 4) nd), (v 4, aZ ta 300 gd), (hli, oR bli nl), (bli, aZ ta capl gl)] := hD
  refine lv_bipush (pc := 10) (v := nI 8) hx hb dX7_splitAnswer_10 (by decide +kernel) ?_
  by_cases h8 : 8 ≤ nl
  · skip
    refine lv_isub (pc := 12) hx hb dX7_splitAnswer_12 ?_
    refine q_top (y := nI (nl - 8)) (pk_sub (a := nl) (b := 8) (by omega)) ?_
    refine cs_V (pc := 13) (idx := 70) (n := 3) (wr := [(v 0, oV v)]) (As := [.ref hli, .int (nI 0), .int (nI (nl - 8))]) (rest := []) (ci := 5) hx hb hml hown hts hGok hK hA hG hl.1 hP hD hS (ct_X6_copyPart ll D ta hGok (v 3) (v 4) 300 gd nd hli bli capl gl nl 0 (nl - 8) (by first | assumption | omega | rfl | decide) (by first | assumption | omega | rfl | decide) (by first | assumption | omega | rfl | decide) (by first | assumption | omega | rfl | decide) (by first | assumption | omega | rfl | decide) (by first | omega | exact nI_sub_neg (by omega) (by omega)) H.size) tw_464 tw_803 tw_462 tw_463 tw_66 hdX6_copyPart rfl ⟨rfl, rfl, Nat.le_of_ble_eq_true rfl, Nat.le_of_ble_eq_true rfl, Nat.le_of_ble_eq_true rfl, Nat.le_of_ble_eq_true rfl⟩ rfl rfl (q0 := 1) rfl [1, 2, 3, 4] [0] rfl rfl (by decide) rfl (Nat.le_of_ble_eq_true rfl) dX7_splitAnswer_13 (fun u H locs hq hP hD hS => ?_)
    obtain ⟨g1_13, n1_13⟩ := u
    have hq : (n1_13 = min (nl - 8) nl - 0) ∧ (qL g1_13 n1_13 = ((qL gl nl).take (nl - 8)).drop 0) := hq
    obtain ⟨hm_13, hL_13⟩ := hq
    refine W.eq (g2 := F0 mm 16 ls []) rfl ?_
    have hP : va_P D vwCl [(v 0, oV v), (v 3, oR (v 4) n1_13), (v 4, aZ ta 300 g1_13), (hli, oR bli nl), (bli, aZ ta capl gl)] H := hP
    have hD : va_D A [(v 0, oV v), (v 3, oR (v 4) n1_13), (v 4, aZ ta 300 g1_13), (hli, oR bli nl), (bli, aZ ta capl gl)] := hD
    refine lv_aload_n (pc := 16) hx hb dX7_splitAnswer_16 rfl (lv_at hl 1 rfl) ?_
    refine cs_V (pc := 17) (idx := 49) (n := 0) (wr := [(v 0, oV v), (v 3, oR (v 4) n1_13), (v 4, aZ ta 300 g1_13)]) (As := []) (rest := []) (ci := 5) hx hb hml hown hts hGok hK hA hG hl.1 hP hD hS (ct_X6_size ll D ta hGok hli bli capl gl nl  H.size) tw_393 tw_722 tw_391 tw_392 tw_66 hdX6_size rfl ⟨rfl, rfl, Nat.le_of_ble_eq_true rfl, Nat.le_of_ble_eq_true rfl, Nat.le_of_ble_eq_true rfl, Nat.le_of_ble_eq_true rfl⟩ rfl rfl (q0 := 3) rfl [3, 4] [0, 1, 2] rfl rfl (by decide) rfl (Nat.le_of_ble_eq_true rfl) dX7_splitAnswer_17 (fun u H locs hq hP hD hS => ?_)
    refine W.eq (g2 := F0 mm 20 ls [.int (nI nl)]) rfl ?_
    have hP : va_P D vwCl [(v 0, oV v), (v 3, oR (v 4) n1_13), (v 4, aZ ta 300 g1_13), (hli, oR bli nl), (bli, aZ ta capl gl)] H := hP
    have hD : va_D A [(v 0, oV v), (v 3, oR (v 4) n1_13), (v 4, aZ ta 300 g1_13), (hli, oR bli nl), (bli, aZ ta capl gl)] := hD
    refine lv_bipush (pc := 20) (v := nI 8) hx hb dX7_splitAnswer_20 (by decide +kernel) ?_
    refine lv_icmp_lt (pc := 22) (tgt := 29) hx hb dX7_splitAnswer_22 (by decide) (fun c_1 => ?_) (fun c_1 => ?_)
    · skip
      rw [nI_ltI (by omega) (by omega)] at c_1
      refine lv_iconst (pc := 29) (v := nI 0) hx hb dX7_splitAnswer_29 (by decide +kernel) ?_
      refine q_top (y := qb false) (by first | rfl | decide +kernel | (simp; done)) ?_
      have hq_2 : (false = decide (8 ≤ nl)) ∧ (n1_13 = nl - 8) ∧ (qL g1_13 n1_13 = (qL gl nl).take (nl - 8)) := by
        refine ⟨by symm; simp; omega, by omega, ?_⟩
        first | (rw [hL_13]; rfl) | (rw [show nl - 8 = 0 by omega]; rfl)
      exact hret (⟨(false), (g1_13), (n1_13)⟩ : Bool × (Nat → BitVec 8) × Nat) _ _ _ _ dX7_splitAnswer_30 hq_2 (hP.sub [0, 1, 2, 3, 4] rfl) (hD.sub [0, 1, 2, 3, 4] (by decide) rfl) hS
    · skip
      rw [nI_ltI (by omega) (by omega)] at c_1
      refine lv_iconst (pc := 25) (v := nI 1) hx hb dX7_splitAnswer_25 (by decide +kernel) ?_
      refine lv_goto (pc := 26) (tgt := 30) hx hb dX7_splitAnswer_26 (by decide) ?_
      refine q_top (y := qb true) (by first | rfl | decide +kernel | (simp; done)) ?_
      have hq_3 : (true = decide (8 ≤ nl)) ∧ (n1_13 = nl - 8) ∧ (qL g1_13 n1_13 = (qL gl nl).take (nl - 8)) := by
        refine ⟨by symm; simp; omega, by omega, ?_⟩
        first | (rw [hL_13]; rfl) | (rw [show nl - 8 = 0 by omega]; rfl)
      exact hret (⟨(true), (g1_13), (n1_13)⟩ : Bool × (Nat → BitVec 8) × Nat) _ _ _ _ dX7_splitAnswer_30 hq_3 (hP.sub [0, 1, 2, 3, 4] rfl) (hD.sub [0, 1, 2, 3, 4] (by decide) rfl) hS
  · skip
    refine lv_isub (pc := 12) hx hb dX7_splitAnswer_12 ?_
    refine q_top (y := nI nl - nI 8) rfl ?_
    refine cs_V (pc := 13) (idx := 70) (n := 3) (wr := [(v 0, oV v)]) (As := [.ref hli, .int (nI 0), .int (nI nl - nI 8)]) (rest := []) (ci := 5) hx hb hml hown hts hGok hK hA hG hl.1 hP hD hS (ct_X6_copyPart_neg ll D ta hGok (v 3) (v 4) 300 gd nd hli bli capl gl nl 0 (nI nl - nI 8) (by first | assumption | omega | rfl | decide) (by first | omega | exact nI_sub_neg (by omega) (by omega)) H.size) tw_464 tw_803 tw_462 tw_463 tw_66 hdX6_copyPart rfl ⟨rfl, rfl, Nat.le_of_ble_eq_true rfl, Nat.le_of_ble_eq_true rfl, Nat.le_of_ble_eq_true rfl, Nat.le_of_ble_eq_true rfl⟩ rfl rfl (q0 := 1) rfl [1, 2, 3, 4] [0] rfl rfl (by decide) rfl (Nat.le_of_ble_eq_true rfl) dX7_splitAnswer_13 (fun u H locs hq hP hD hS => ?_)
    refine W.eq (g2 := F0 mm 16 ls []) rfl ?_
    have hP : va_P D vwCl [(v 0, oV v), (v 3, oR (v 4) 0), (v 4, aZ ta 300 gd), (hli, oR bli nl), (bli, aZ ta capl gl)] H := hP
    have hD : va_D A [(v 0, oV v), (v 3, oR (v 4) 0), (v 4, aZ ta 300 gd), (hli, oR bli nl), (bli, aZ ta capl gl)] := hD
    refine lv_aload_n (pc := 16) hx hb dX7_splitAnswer_16 rfl (lv_at hl 1 rfl) ?_
    refine cs_V (pc := 17) (idx := 49) (n := 0) (wr := [(v 0, oV v), (v 3, oR (v 4) 0), (v 4, aZ ta 300 gd)]) (As := []) (rest := []) (ci := 5) hx hb hml hown hts hGok hK hA hG hl.1 hP hD hS (ct_X6_size ll D ta hGok hli bli capl gl nl  H.size) tw_393 tw_722 tw_391 tw_392 tw_66 hdX6_size rfl ⟨rfl, rfl, Nat.le_of_ble_eq_true rfl, Nat.le_of_ble_eq_true rfl, Nat.le_of_ble_eq_true rfl, Nat.le_of_ble_eq_true rfl⟩ rfl rfl (q0 := 3) rfl [3, 4] [0, 1, 2] rfl rfl (by decide) rfl (Nat.le_of_ble_eq_true rfl) dX7_splitAnswer_17 (fun u H locs hq hP hD hS => ?_)
    refine W.eq (g2 := F0 mm 20 ls [.int (nI nl)]) rfl ?_
    have hP : va_P D vwCl [(v 0, oV v), (v 3, oR (v 4) 0), (v 4, aZ ta 300 gd), (hli, oR bli nl), (bli, aZ ta capl gl)] H := hP
    have hD : va_D A [(v 0, oV v), (v 3, oR (v 4) 0), (v 4, aZ ta 300 gd), (hli, oR bli nl), (bli, aZ ta capl gl)] := hD
    refine lv_bipush (pc := 20) (v := nI 8) hx hb dX7_splitAnswer_20 (by decide +kernel) ?_
    refine lv_icmp_lt (pc := 22) (tgt := 29) hx hb dX7_splitAnswer_22 (by decide) (fun c_4 => ?_) (fun c_4 => ?_)
    · skip
      rw [nI_ltI (by omega) (by omega)] at c_4
      refine lv_iconst (pc := 29) (v := nI 0) hx hb dX7_splitAnswer_29 (by decide +kernel) ?_
      refine q_top (y := qb false) (by first | rfl | decide +kernel | (simp; done)) ?_
      have hq_5 : (false = decide (8 ≤ nl)) ∧ (0 = nl - 8) ∧ (qL gd 0 = (qL gl nl).take (nl - 8)) := by
        refine ⟨by symm; simp; omega, by omega, ?_⟩
        first | (rw [hL_13]; rfl) | (rw [show nl - 8 = 0 by omega]; rfl)
      exact hret (⟨(false), (gd), (0)⟩ : Bool × (Nat → BitVec 8) × Nat) _ _ _ _ dX7_splitAnswer_30 hq_5 (hP.sub [0, 1, 2, 3, 4] rfl) (hD.sub [0, 1, 2, 3, 4] (by decide) rfl) hS
    · skip
      rw [nI_ltI (by omega) (by omega)] at c_4
      refine lv_iconst (pc := 25) (v := nI 1) hx hb dX7_splitAnswer_25 (by decide +kernel) ?_
      refine lv_goto (pc := 26) (tgt := 30) hx hb dX7_splitAnswer_26 (by decide) ?_
      refine q_top (y := qb true) (by first | rfl | decide +kernel | (simp; done)) ?_
      have hq_6 : (true = decide (8 ≤ nl)) ∧ (0 = nl - 8) ∧ (qL gd 0 = (qL gl nl).take (nl - 8)) := by
        refine ⟨by symm; simp; omega, by omega, ?_⟩
        first | (rw [hL_13]; rfl) | (rw [show nl - 8 = 0 by omega]; rfl)
      exact hret (⟨(true), (gd), (0)⟩ : Bool × (Nat → BitVec 8) × Nat) _ _ _ _ dX7_splitAnswer_30 hq_6 (hP.sub [0, 1, 2, 3, 4] rfl) (hD.sub [0, 1, 2, 3, 4] (by decide) rfl) hS
set_option maxHeartbeats 4000000 in
set_option maxRecDepth 100000 in
theorem ct_X7_putAnswer_N (ll : Launch) (D : va_G) (ta : Nat → ClassId) {G : (Nat → Prop) → State → Heap → Prop} (hGok : GOK G) (v : Nat → Nat) (gd : Nat → BitVec 8) (nd : Nat) (gk : Nat → BitVec 8) (nk : Nat) (hli : Nat) (bli : Nat) (capl : Nat) (gl : Nat → BitVec 8) (nl : Nat) (hnd : nd ≤ 300) (hnk : 8 ≤ nk ∧ nk ≤ 16) (hcl : nd + 8 ≤ capl ∧ capl < 2147483648) (sz : Nat) : CT ll yX7_putAnswer cX7_putAnswer 2 none ({ frames := 3, cells := 0, slots := 0, locals := 66 } : Room) D ta G [.ref (v 0), .ref hli] [(v 0, oV v), (v 3, oR (v 4) nd), (v 4, aZ ta 300 gd), (v 5, oR (v 6) nk), (v 6, aZ ta 16 gk), (hli, oR bli nl), (bli, aZ ta capl gl)] sz (S := (Nat → BitVec 8)) (fun _ => none) (fun u => (qL u (nd + 8) = qL gd nd ++ (qL gk nk).take 8)) (fun u => [(v 0, oV v), (v 3, oR (v 4) nd), (v 4, aZ ta 300 gd), (v 5, oR (v 6) nk), (v 6, aZ ta 16 gk), (hli, oR bli (nd + 8)), (bli, aZ ta capl u)]) 0 0 := by
  refine CT.of_v rfl (by decide) (Nat.le_of_ble_eq_true rfl) ?_
  intro pp ee ss mm below meth kc A Q hx hb hml hown hin hts hK hA hsz hG hret H locs hP hD hS ls hl
  have hl : lv_has ls 2 [(0, .ref (v 0)), (1, .ref hli)] := hl
  refine lv_aload_n (pc := 0) hx hb dX7_putAnswer_0 rfl (lv_at hl 1 rfl) ?_
  refine lv_aload_n (pc := 1) hx hb dX7_putAnswer_1 rfl (lv_at hl 0 rfl) ?_
  refine va_get (pc := 2) (D := D) (ci := 3) (v := .ref (v 3)) (C := RX4) (T := TX4) (N := 7) hx hb hts iu4 hown hK hP 0 rfl rfl 1 (by decide) (hts _ tw_275) (fun _ h9 => h9) rfl dX7_putAnswer_2 ?_
  refine cs_V (pc := 5) (idx := 73) (n := 1) (wr := [(v 0, oV v), (v 5, oR (v 6) nk), (v 6, aZ ta 16 gk)]) (As := [.ref (v 3)]) (rest := []) (ci := 5) hx hb hml hown hts hGok hK hA hG hl.1 hP hD hS (ct_X6_copy ll D ta hGok hli bli capl gl nl (v 3) (v 4) 300 gd nd (by first | assumption | omega | rfl | decide) (by first | assumption | omega | rfl | decide) (by first | assumption | omega | rfl | decide) (by first | assumption | omega | rfl | decide) H.size) tw_437 tw_892 tw_435 tw_436 tw_66 hdX6_copy rfl ⟨rfl, rfl, Nat.le_of_ble_eq_true rfl, Nat.le_of_ble_eq_true rfl, Nat.le_of_ble_eq_true rfl, Nat.le_of_ble_eq_true rfl⟩ rfl rfl (q0 := 5) rfl [5, 6, 1, 2] [0, 3, 4] rfl rfl (by decide) rfl (Nat.le_of_ble_eq_true rfl) dX7_putAnswer_5 (fun u H locs hq hP hD hS => ?_)
  generalize u = g1_5 at hq hP hD ⊢
  have hq : (qL g1_5 nd = qL gd nd) := hq
  have hL_5 := hq
  refine W.eq (g2 := F0 mm 8 ls []) rfl ?_
  have hP : va_P D vwCl [(v 0, oV v), (v 5, oR (v 6) nk), (v 6, aZ ta 16 gk), (hli, oR bli nd), (bli, aZ ta capl g1_5), (v 3, oR (v 4) nd), (v 4, aZ ta 300 gd)] H := hP
  have hD : va_D A [(v 0, oV v), (v 5, oR (v 6) nk), (v 6, aZ ta 16 gk), (hli, oR bli nd), (bli, aZ ta capl g1_5), (v 3, oR (v 4) nd), (v 4, aZ ta 300 gd)] := hD
  refine lv_aload_n (pc := 8) hx hb dX7_putAnswer_8 rfl (lv_at hl 1 rfl) ?_
  refine lv_aload_n (pc := 9) hx hb dX7_putAnswer_9 rfl (lv_at hl 0 rfl) ?_
  refine va_get (pc := 10) (D := D) (ci := 3) (v := .ref (v 5)) (C := RX4) (T := TX4) (N := 7) hx hb hts iu4 hown hK hP 0 rfl rfl 2 (by decide) (hts _ tw_280) (fun _ h9 => h9) rfl dX7_putAnswer_10 ?_
  refine lv_iconst (pc := 13) (v := nI 0) hx hb dX7_putAnswer_13 (by decide +kernel) ?_
  refine lv_bipush (pc := 14) (v := nI 8) hx hb dX7_putAnswer_14 (by decide +kernel) ?_
  refine cs_V (pc := 16) (idx := 59) (n := 3) (wr := [(v 0, oV v), (v 3, oR (v 4) nd), (v 4, aZ ta 300 gd)]) (As := [.ref (v 5), .int (nI 0), .int (nI 8)]) (rest := []) (ci := 5) hx hb hml hown hts hGok hK hA hG hl.1 hP hD hS (ct_X6_addPart ll D ta hGok hli bli capl g1_5 nd (v 5) (v 6) 16 gk nk 0 8 (by first | assumption | omega | rfl | decide) (by first | assumption | omega | rfl | decide) (by first | assumption | omega | rfl | decide) (by first | assumption | omega | rfl | decide) (by first | assumption | omega | rfl | decide) (by first | assumption | omega | rfl | decide) H.size) tw_445 tw_743 tw_443 tw_444 tw_66 hdX6_addPart rfl ⟨rfl, rfl, Nat.le_of_ble_eq_true rfl, Nat.le_of_ble_eq_true rfl, Nat.le_of_ble_eq_true rfl, Nat.le_of_ble_eq_true rfl⟩ rfl rfl (q0 := 3) rfl [3, 4, 1, 2] [0, 5, 6] rfl rfl (by decide) rfl (Nat.le_of_ble_eq_true rfl) dX7_putAnswer_16 (fun u H locs hq hP hD hS => ?_)
  obtain ⟨g1_16, n1_16⟩ := u
  have hq : (n1_16 = nd + (min 8 nk - 0)) ∧ (qL g1_16 n1_16 = qL g1_5 nd ++ ((qL gk nk).take 8).drop 0) := hq
  obtain ⟨hm_16, hL_16⟩ := hq
  refine W.eq (g2 := F0 mm 19 ls []) rfl ?_
  have hP : va_P D vwCl [(v 0, oV v), (v 3, oR (v 4) nd), (v 4, aZ ta 300 gd), (hli, oR bli n1_16), (bli, aZ ta capl g1_16), (v 5, oR (v 6) nk), (v 6, aZ ta 16 gk)] H := hP
  have hD : va_D A [(v 0, oV v), (v 3, oR (v 4) nd), (v 4, aZ ta 300 gd), (hli, oR bli n1_16), (bli, aZ ta capl g1_16), (v 5, oR (v 6) nk), (v 6, aZ ta 16 gk)] := hD
  have en_1 : nd + 8 = n1_16 := by omega
  subst en_1
  have hq_2 : (qL g1_16 (nd + 8) = qL gd nd ++ (qL gk nk).take 8) := by
    rw [hL_16, hL_5]
    rfl
  exact hret (g1_16) _ _ _ _ dX7_putAnswer_19 hq_2 (hP.sub [0, 1, 2, 5, 6, 3, 4] rfl) (hD.sub [0, 1, 2, 5, 6, 3, 4] (by decide) rfl) hS
