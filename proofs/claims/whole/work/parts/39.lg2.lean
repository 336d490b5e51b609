theorem hdX9_isProving : yX9_isProving.cls ≠ "java/lang/invoke/MethodHandle" ∧ yX9_isProving.cls ≠ "java/lang/invoke/VarHandle" ∧ (parseMethodDescriptor yX9_isProving.desc).map (fun d => d.parameters.length) = some 1 := ⟨by decide +kernel, by decide +kernel, by decide +kernel⟩
theorem dX9_isProving_0 : decode cX9_isProving 0 = .ok (.aload_n 0, 1) := by decide +kernel
theorem dX9_isProving_1 : decode cX9_isProving 1 = .ok (.getfield 21, 3) := by decide +kernel
theorem dX9_isProving_4 : decode cX9_isProving 4 = .ok (.invokevirtual 64, 3) := by decide +kernel
theorem dX9_isProving_7 : decode cX9_isProving 7 = .ok (.bipush 20, 2) := by decide +kernel
theorem dX9_isProving_9 : decode cX9_isProving 9 = .ok (.if_icmp .ne 81, 3) := by decide +kernel
theorem dX9_isProving_12 : decode cX9_isProving 12 = .ok (.aload_n 0, 1) := by decide +kernel
theorem dX9_isProving_13 : decode cX9_isProving 13 = .ok (.getfield 21, 3) := by decide +kernel
theorem dX9_isProving_16 : decode cX9_isProving 16 = .ok (.iconst 0, 1) := by decide +kernel
theorem dX9_isProving_17 : decode cX9_isProving 17 = .ok (.invokevirtual 76, 3) := by decide +kernel
theorem dX9_isProving_20 : decode cX9_isProving 20 = .ok (.sipush 132, 3) := by decide +kernel
theorem dX9_isProving_23 : decode cX9_isProving 23 = .ok (.if_icmp .ne 67, 3) := by decide +kernel
theorem dX9_isProving_26 : decode cX9_isProving 26 = .ok (.aload_n 0, 1) := by decide +kernel
theorem dX9_isProving_27 : decode cX9_isProving 27 = .ok (.getfield 21, 3) := by decide +kernel
theorem dX9_isProving_30 : decode cX9_isProving 30 = .ok (.iconst 1, 1) := by decide +kernel
theorem dX9_isProving_31 : decode cX9_isProving 31 = .ok (.invokevirtual 76, 3) := by decide +kernel
theorem dX9_isProving_34 : decode cX9_isProving 34 = .ok (.sipush 130, 3) := by decide +kernel
theorem dX9_isProving_37 : decode cX9_isProving 37 = .ok (.if_icmp .ne 53, 3) := by decide +kernel
theorem dX9_isProving_40 : decode cX9_isProving 40 = .ok (.aload_n 1, 1) := by decide +kernel
theorem dX9_isProving_41 : decode cX9_isProving 41 = .ok (.aload_n 0, 1) := by decide +kernel
theorem dX9_isProving_42 : decode cX9_isProving 42 = .ok (.getfield 21, 3) := by decide +kernel
theorem dX9_isProving_45 : decode cX9_isProving 45 = .ok (.iconst 2, 1) := by decide +kernel
theorem dX9_isProving_46 : decode cX9_isProving 46 = .ok (.invokevirtual 76, 3) := by decide +kernel
theorem dX9_isProving_49 : decode cX9_isProving 49 = .ok (.invokevirtual 142, 3) := by decide +kernel
theorem dX9_isProving_52 : decode cX9_isProving 52 = .ok (.ifCond .eq 38, 3) := by decide +kernel
theorem dX9_isProving_55 : decode cX9_isProving 55 = .ok (.aload_n 0, 1) := by decide +kernel
theorem dX9_isProving_56 : decode cX9_isProving 56 = .ok (.getfield 21, 3) := by decide +kernel
theorem dX9_isProving_59 : decode cX9_isProving 59 = .ok (.iconst 3, 1) := by decide +kernel
theorem dX9_isProving_60 : decode cX9_isProving 60 = .ok (.invokevirtual 76, 3) := by decide +kernel
theorem dX9_isProving_63 : decode cX9_isProving 63 = .ok (.ifCond .ne 27, 3) := by decide +kernel
theorem dX9_isProving_66 : decode cX9_isProving 66 = .ok (.aload_n 0, 1) := by decide +kernel
theorem dX9_isProving_67 : decode cX9_isProving 67 = .ok (.getfield 21, 3) := by decide +kernel
theorem dX9_isProving_70 : decode cX9_isProving 70 = .ok (.iconst 4, 1) := by decide +kernel
theorem dX9_isProving_71 : decode cX9_isProving 71 = .ok (.aload_n 0, 1) := by decide +kernel
theorem dX9_isProving_72 : decode cX9_isProving 72 = .ok (.getfield 44, 3) := by decide +kernel
theorem dX9_isProving_75 : decode cX9_isProving 75 = .ok (.getfield 151, 3) := by decide +kernel
theorem dX9_isProving_78 : decode cX9_isProving 78 = .ok (.bipush 8, 2) := by decide +kernel
theorem dX9_isProving_80 : decode cX9_isProving 80 = .ok (.invokevirtual 220, 3) := by decide +kernel
theorem dX9_isProving_83 : decode cX9_isProving 83 = .ok (.ifCond .eq 7, 3) := by decide +kernel
theorem dX9_isProving_86 : decode cX9_isProving 86 = .ok (.iconst 1, 1) := by decide +kernel
theorem dX9_isProving_87 : decode cX9_isProving 87 = .ok (.goto 4, 3) := by decide +kernel
theorem dX9_isProving_90 : decode cX9_isProving 90 = .ok (.iconst 0, 1) := by decide +kernel
theorem dX9_isProving_91 : decode cX9_isProving 91 = .ok (.ireturn, 1) := by decide +kernel
set_option maxHeartbeats 4000000 in
set_option maxRecDepth 100000 in
theorem ct_X9_isProving_N (ll : Launch) (D : va_G) (ta : Nat → ClassId) (gs : Nat → Nat) (lg : Nat → Nat) (ya : Nat → Nat) (yb : Nat → Nat) (wa : Nat → Nat) (wb : Nat → Nat) (o : Nat → Nat) (v : Nat → Nat) (ct : Nat) (gl : Nat → BitVec 8) (nl : Nat) (st : Nat) (lv : Nat) (cnt : Nat) (cm : Bool) (gcp : Nat → BitVec 8) (hli : nl ≤ 300) (sz : Nat) : CT ll yX9_isProving cX9_isProving 2 (some .boolean) ({ frames := 2, cells := 0, slots := 0, locals := 45 } : Room) D ta ((GC gs)) [.ref (lg 0), .ref (v 0)] [(lg 0, oG lg ya yb wa wb o v ct), (lg 5, oR (lg 6) nl), (lg 6, aZ ta 300 gl), (wb 0, oW wb st lv cnt cm), (wb 11, oR (wb 12) 8), (wb 12, aZ ta 8 gcp), (v 0, oV v)] sz (S := Bool) (fun u => some (.int (qb u))) (fun u => (u = provB (qL gl nl) (qL gcp 8) true)) (fun u => [(lg 0, oG lg ya yb wa wb o v ct), (lg 5, oR (lg 6) nl), (lg 6, aZ ta 300 gl), (wb 0, oW wb st lv cnt cm), (wb 11, oR (wb 12) 8), (wb 12, aZ ta 8 gcp), (v 0, oV v)]) 0 0 := by
  refine CT.of_z (r := fun u => u) rfl (by decide) (Nat.le_of_ble_eq_true rfl) ?_
  have hGok := GC_ok gs
  intro pp ee ss mm below meth kc A Q hx hb hml hown hin hts hK hA hsz hG hret H locs hP hD hS ls hl
  have hl : lv_has ls 2 [(0, .ref (lg 0)), (1, .ref (v 0))] := hl
  refine lv_aload_n (pc := 0) hx hb dX9_isProving_0 rfl (lv_at hl 0 rfl) ?_
  refine va_get (pc := 1) (D := D) (ci := 7) (v := .ref (lg 5)) (C := RX9) (T := TX9) (N := 11) hx hb hts iu9 hown hK hP 0 rfl rfl 2 (by decide) (hts _ tw_354) (fun _ h9 => h9) rfl dX9_isProving_1 ?_
  refine cs_V (pc := 4) (idx := 64) (n := 0) (wr := [(lg 0, oG lg ya yb wa wb o v ct), (wb 0, oW wb st lv cnt cm), (wb 11, oR (wb 12) 8), (wb 12, aZ ta 8 gcp), (v 0, oV v)]) (As := []) (rest := []) (ci := 5) hx hb hml hown hts hGok hK hA hG hl.1 hP hD hS (ct_X6_size ll D ta hGok (lg 5) (lg 6) 300 gl nl  H.size) tw_393 tw_390 tw_391 tw_392 tw_66 hdX6_size rfl ⟨rfl, rfl, Nat.le_of_ble_eq_true rfl, Nat.le_of_ble_eq_true rfl, Nat.le_of_ble_eq_true rfl, Nat.le_of_ble_eq_true rfl⟩ rfl rfl (q0 := 1) rfl [1, 2] [0, 3, 4, 5, 6] rfl rfl (by decide) rfl (Nat.le_of_ble_eq_true rfl) dX9_isProving_4 (fun u H locs hq hP hD hS => ?_)
  refine W.eq (g2 := F0 mm 7 ls [.int (nI nl)]) rfl ?_
  have hP : va_P D vwCl [(lg 0, oG lg ya yb wa wb o v ct), (wb 0, oW wb st lv cnt cm), (wb 11, oR (wb 12) 8), (wb 12, aZ ta 8 gcp), (v 0, oV v), (lg 5, oR (lg 6) nl), (lg 6, aZ ta 300 gl)] H := hP
  have hD : va_D A [(lg 0, oG lg ya yb wa wb o v ct), (wb 0, oW wb st lv cnt cm), (wb 11, oR (wb 12) 8), (wb 12, aZ ta 8 gcp), (v 0, oV v), (lg 5, oR (lg 6) nl), (lg 6, aZ ta 300 gl)] := hD
  refine lv_bipush (pc := 7) (v := nI 20) hx hb dX9_isProving_7 (by decide +kernel) ?_
  refine lv_icmp_ne (pc := 9) (tgt := 90) hx hb dX9_isProving_9 (by decide) (fun c_1 => ?_) (fun c_1 => ?_)
  · skip
    rw [nI_eq (by omega) (by omega)] at c_1
    have h20 := c_1
    refine lv_iconst (pc := 90) (v := nI 0) hx hb dX9_isProving_90 (by decide +kernel) ?_
    refine q_top (y := qb false) (by first | rfl | decide +kernel | (simp; done)) ?_
    have hq_2 : (false = provB (qL gl nl) (qL gcp 8) true) := by
      symm
      first | exact provB_no h20 | (rw [provB_qL h20]; first | (refine decide_eq_false (fun q => ?_); simp_all; done) | (refine decide_eq_true ?_; simp_all; done))
    exact hret (false) _ _ _ _ dX9_isProving_91 hq_2 (hP.sub [0, 5, 6, 1, 2, 3, 4] rfl) (hD.sub [0, 5, 6, 1, 2, 3, 4] (by decide) rfl) hS
  · skip
    rw [nI_eq (by omega) (by omega)] at c_1
    have h20 := c_1
    refine lv_aload_n (pc := 12) hx hb dX9_isProving_12 rfl (lv_at hl 0 rfl) ?_
    refine va_get (pc := 13) (D := D) (ci := 7) (v := .ref (lg 5)) (C := RX9) (T := TX9) (N := 11) hx hb hts iu9 hown hK hP 0 rfl rfl 2 (by decide) (hts _ tw_354) (fun _ h9 => h9) rfl dX9_isProving_13 ?_
    refine lv_iconst (pc := 16) (v := nI 0) hx hb dX9_isProving_16 (by decide +kernel) ?_
    refine cs_V (pc := 17) (idx := 76) (n := 1) (wr := [(lg 0, oG lg ya yb wa wb o v ct), (wb 0, oW wb st lv cnt cm), (wb 11, oR (wb 12) 8), (wb 12, aZ ta 8 gcp), (v 0, oV v)]) (As := [.int (nI 0)]) (rest := []) (ci := 5) hx hb hml hown hts hGok hK hA hG hl.1 hP hD hS (ct_X6_at_in ll D ta hGok (lg 5) (lg 6) 300 gl nl 0 (by first | assumption | omega | rfl | decide) (by first | assumption | omega | rfl | decide) (by first | assumption | omega | rfl | decide) H.size) tw_413 tw_410 tw_411 tw_412 tw_66 hdX6_at rfl ⟨rfl, rfl, Nat.le_of_ble_eq_true rfl, Nat.le_of_ble_eq_true rfl, Nat.le_of_ble_eq_true rfl, Nat.le_of_ble_eq_true rfl⟩ rfl rfl (q0 := 5) rfl [5, 6] [0, 1, 2, 3, 4] rfl rfl (by decide) rfl (Nat.le_of_ble_eq_true rfl) dX9_isProving_17 (fun u H locs hq hP hD hS => ?_)
    refine W.eq (g2 := F0 mm 20 ls [.int (qz (gl 0))]) rfl ?_
    have hP : va_P D vwCl [(lg 0, oG lg ya yb wa wb o v ct), (wb 0, oW wb st lv cnt cm), (wb 11, oR (wb 12) 8), (wb 12, aZ ta 8 gcp), (v 0, oV v), (lg 5, oR (lg 6) nl), (lg 6, aZ ta 300 gl)] H := hP
    have hD : va_D A [(lg 0, oG lg ya yb wa wb o v ct), (wb 0, oW wb st lv cnt cm), (wb 11, oR (wb 12) 8), (wb 12, aZ ta 8 gcp), (v 0, oV v), (lg 5, oR (lg 6) nl), (lg 6, aZ ta 300 gl)] := hD
    refine lv_sipush (pc := 20) (v := nI 132) hx hb dX9_isProving_20 (by decide +kernel) ?_
    refine lv_icmp_ne (pc := 23) (tgt := 90) hx hb dX9_isProving_23 (by decide) (fun c_3 => ?_) (fun c_3 => ?_)
    · skip
      rw [qz_lit (by decide)] at c_3
      refine lv_iconst (pc := 90) (v := nI 0) hx hb dX9_isProving_90 (by decide +kernel) ?_
      refine q_top (y := qb false) (by first | rfl | decide +kernel | (simp; done)) ?_
      have hq_4 : (false = provB (qL gl nl) (qL gcp 8) true) := by
        symm
        first | exact provB_no h20 | (rw [provB_qL h20]; first | (refine decide_eq_false (fun q => ?_); simp_all; done) | (refine decide_eq_true ?_; simp_all; done))
      exact hret (false) _ _ _ _ dX9_isProving_91 hq_4 (hP.sub [0, 5, 6, 1, 2, 3, 4] rfl) (hD.sub [0, 5, 6, 1, 2, 3, 4] (by decide) rfl) hS
    · skip
      rw [qz_lit (by decide)] at c_3
      have hb0 := c_3
      refine lv_aload_n (pc := 26) hx hb dX9_isProving_26 rfl (lv_at hl 0 rfl) ?_
      refine va_get (pc := 27) (D := D) (ci := 7) (v := .ref (lg 5)) (C := RX9) (T := TX9) (N := 11) hx hb hts iu9 hown hK hP 0 rfl rfl 2 (by decide) (hts _ tw_354) (fun _ h9 => h9) rfl dX9_isProving_27 ?_
      refine lv_iconst (pc := 30) (v := nI 1) hx hb dX9_isProving_30 (by decide +kernel) ?_
      refine cs_V (pc := 31) (idx := 76) (n := 1) (wr := [(lg 0, oG lg ya yb wa wb o v ct), (wb 0, oW wb st lv cnt cm), (wb 11, oR (wb 12) 8), (wb 12, aZ ta 8 gcp), (v 0, oV v)]) (As := [.int (nI 1)]) (rest := []) (ci := 5) hx hb hml hown hts hGok hK hA hG hl.1 hP hD hS (ct_X6_at_in ll D ta hGok (lg 5) (lg 6) 300 gl nl 1 (by first | assumption | omega | rfl | decide) (by first | assumption | omega | rfl | decide) (by first | assumption | omega | rfl | decide) H.size) tw_413 tw_410 tw_411 tw_412 tw_66 hdX6_at rfl ⟨rfl, rfl, Nat.le_of_ble_eq_true rfl, Nat.le_of_ble_eq_true rfl, Nat.le_of_ble_eq_true rfl, Nat.le_of_ble_eq_true rfl⟩ rfl rfl (q0 := 5) rfl [5, 6] [0, 1, 2, 3, 4] rfl rfl (by decide) rfl (Nat.le_of_ble_eq_true rfl) dX9_isProving_31 (fun u H locs hq hP hD hS => ?_)
      refine W.eq (g2 := F0 mm 34 ls [.int (qz (gl 1))]) rfl ?_
      have hP : va_P D vwCl [(lg 0, oG lg ya yb wa wb o v ct), (wb 0, oW wb st lv cnt cm), (wb 11, oR (wb 12) 8), (wb 12, aZ ta 8 gcp), (v 0, oV v), (lg 5, oR (lg 6) nl), (lg 6, aZ ta 300 gl)] H := hP
      have hD : va_D A [(lg 0, oG lg ya yb wa wb o v ct), (wb 0, oW wb st lv cnt cm), (wb 11, oR (wb 12) 8), (wb 12, aZ ta 8 gcp), (v 0, oV v), (lg 5, oR (lg 6) nl), (lg 6, aZ ta 300 gl)] := hD
      refine lv_sipush (pc := 34) (v := nI 130) hx hb dX9_isProving_34 (by decide +kernel) ?_
      refine lv_icmp_ne (pc := 37) (tgt := 90) hx hb dX9_isProving_37 (by decide) (fun c_5 => ?_) (fun c_5 => ?_)
      · skip
        rw [qz_lit (by decide)] at c_5
        refine lv_iconst (pc := 90) (v := nI 0) hx hb dX9_isProving_90 (by decide +kernel) ?_
        refine q_top (y := qb false) (by first | rfl | decide +kernel | (simp; done)) ?_
        have hq_6 : (false = provB (qL gl nl) (qL gcp 8) true) := by
          symm
          first | exact provB_no h20 | (rw [provB_qL h20]; first | (refine decide_eq_false (fun q => ?_); simp_all; done) | (refine decide_eq_true ?_; simp_all; done))
        exact hret (false) _ _ _ _ dX9_isProving_91 hq_6 (hP.sub [0, 5, 6, 1, 2, 3, 4] rfl) (hD.sub [0, 5, 6, 1, 2, 3, 4] (by decide) rfl) hS
      · skip
        rw [qz_lit (by decide)] at c_5
        have hb1 := c_5
        refine lv_aload_n (pc := 40) hx hb dX9_isProving_40 rfl (lv_at hl 1 rfl) ?_
        refine lv_aload_n (pc := 41) hx hb dX9_isProving_41 rfl (lv_at hl 0 rfl) ?_
        refine va_get (pc := 42) (D := D) (ci := 7) (v := .ref (lg 5)) (C := RX9) (T := TX9) (N := 11) hx hb hts iu9 hown hK hP 0 rfl rfl 2 (by decide) (hts _ tw_354) (fun _ h9 => h9) rfl dX9_isProving_42 ?_
        refine lv_iconst (pc := 45) (v := nI 2) hx hb dX9_isProving_45 (by decide +kernel) ?_
        refine cs_V (pc := 46) (idx := 76) (n := 1) (wr := [(lg 0, oG lg ya yb wa wb o v ct), (wb 0, oW wb st lv cnt cm), (wb 11, oR (wb 12) 8), (wb 12, aZ ta 8 gcp), (v 0, oV v)]) (As := [.int (nI 2)]) (rest := [.ref (v 0)]) (ci := 5) hx hb hml hown hts hGok hK hA hG hl.1 hP hD hS (ct_X6_at_in ll D ta hGok (lg 5) (lg 6) 300 gl nl 2 (by first | assumption | omega | rfl | decide) (by first | assumption | omega | rfl | decide) (by first | assumption | omega | rfl | decide) H.size) tw_413 tw_410 tw_411 tw_412 tw_66 hdX6_at rfl ⟨rfl, rfl, Nat.le_of_ble_eq_true rfl, Nat.le_of_ble_eq_true rfl, Nat.le_of_ble_eq_true rfl, Nat.le_of_ble_eq_true rfl⟩ rfl rfl (q0 := 5) rfl [5, 6] [0, 1, 2, 3, 4] rfl rfl (by decide) rfl (Nat.le_of_ble_eq_true rfl) dX9_isProving_46 (fun u H locs hq hP hD hS => ?_)
        refine W.eq (g2 := F0 mm 49 ls [.int (qz (gl 2)), .ref (v 0)]) rfl ?_
        have hP : va_P D vwCl [(lg 0, oG lg ya yb wa wb o v ct), (wb 0, oW wb st lv cnt cm), (wb 11, oR (wb 12) 8), (wb 12, aZ ta 8 gcp), (v 0, oV v), (lg 5, oR (lg 6) nl), (lg 6, aZ ta 300 gl)] H := hP
        have hD : va_D A [(lg 0, oG lg ya yb wa wb o v ct), (wb 0, oW wb st lv cnt cm), (wb 11, oR (wb 12) 8), (wb 12, aZ ta 8 gcp), (v 0, oV v), (lg 5, oR (lg 6) nl), (lg 6, aZ ta 300 gl)] := hD
        refine cs_U (pc := 49) (idx := 142) (n := 1) (wr := [(lg 0, oG lg ya yb wa wb o v ct), (wb 0, oW wb st lv cnt cm), (wb 11, oR (wb 12) 8), (wb 12, aZ ta 8 gcp), (lg 5, oR (lg 6) nl), (lg 6, aZ ta 300 gl)]) (As := [.int (qz (gl 2))]) (rest := []) (ci := 3) (x := ⟨"LineGuard$Rule", "hasLevel", "(I)Z"⟩) (owner := "LineGuard$Rule") hx hb hml hown hts hGok hK hA hG hl.1 hP hD hS (ct_X7_hasLevel_N ll D ta gs v (qz (gl 2))  H.size) tw_698 tw_693 tw_694 tw_696 tw_69 tw_695 (va_Decl.of (hts _ tw_694) (hts _ tw_698)) ⟨by decide +kernel, by decide +kernel, by decide +kernel⟩ rfl ⟨rfl, rfl, Nat.le_of_ble_eq_true rfl, Nat.le_of_ble_eq_true rfl, Nat.le_of_ble_eq_true rfl, Nat.le_of_ble_eq_true rfl⟩ rfl (q0 := 4) rfl [4] [0, 1, 2, 3, 5, 6] rfl rfl (by decide) rfl (Nat.le_of_ble_eq_true rfl) dX9_isProving_49 (fun u H locs hq hP hD hS => ?_)
        generalize u = z_49 at hq hP hD ⊢
        have hq : (z_49 = levB (qz (gl 2)) true) := hq
        have hz_49 := hq
        refine W.eq (g2 := F0 mm 52 ls [.int (qb z_49)]) rfl ?_
        have hP : va_P D vwCl [(lg 0, oG lg ya yb wa wb o v ct), (wb 0, oW wb st lv cnt cm), (wb 11, oR (wb 12) 8), (wb 12, aZ ta 8 gcp), (lg 5, oR (lg 6) nl), (lg 6, aZ ta 300 gl), (v 0, oV v)] H := hP
        have hD : va_D A [(lg 0, oG lg ya yb wa wb o v ct), (wb 0, oW wb st lv cnt cm), (wb 11, oR (wb 12) 8), (wb 12, aZ ta 8 gcp), (lg 5, oR (lg 6) nl), (lg 6, aZ ta 300 gl), (v 0, oV v)] := hD
        refine lv_if_eq (pc := 52) (tgt := 90) hx hb dX9_isProving_52 (by decide) (fun c_7 => ?_) (fun c_7 => ?_)
        · skip
          rw [q_beq] at c_7
          try rw [Bool.not_eq_false] at c_7
          have hlv9 := c_7
          refine lv_iconst (pc := 90) (v := nI 0) hx hb dX9_isProving_90 (by decide +kernel) ?_
          refine q_top (y := qb false) (by first | rfl | decide +kernel | (simp; done)) ?_
          have hq_8 : (false = provB (qL gl nl) (qL gcp 8) true) := by
            symm
            first | exact provB_no h20 | (rw [provB_qL h20]; first | (refine decide_eq_false (fun q => ?_); simp_all; done) | (refine decide_eq_true ?_; simp_all; done))
          exact hret (false) _ _ _ _ dX9_isProving_91 hq_8 (hP.sub [0, 4, 5, 1, 2, 3, 6] rfl) (hD.sub [0, 4, 5, 1, 2, 3, 6] (by decide) rfl) hS
        · skip
          rw [q_beq] at c_7
          try rw [Bool.not_eq_false] at c_7
          have hlv9 := c_7
          refine lv_aload_n (pc := 55) hx hb dX9_isProving_55 rfl (lv_at hl 0 rfl) ?_
          refine va_get (pc := 56) (D := D) (ci := 7) (v := .ref (lg 5)) (C := RX9) (T := TX9) (N := 11) hx hb hts iu9 hown hK hP 0 rfl rfl 2 (by decide) (hts _ tw_354) (fun _ h9 => h9) rfl dX9_isProving_56 ?_
          refine lv_iconst (pc := 59) (v := nI 3) hx hb dX9_isProving_59 (by decide +kernel) ?_
          refine cs_V (pc := 60) (idx := 76) (n := 1) (wr := [(lg 0, oG lg ya yb wa wb o v ct), (wb 0, oW wb st lv cnt cm), (wb 11, oR (wb 12) 8), (wb 12, aZ ta 8 gcp), (v 0, oV v)]) (As := [.int (nI 3)]) (rest := []) (ci := 5) hx hb hml hown hts hGok hK hA hG hl.1 hP hD hS (ct_X6_at_in ll D ta hGok (lg 5) (lg 6) 300 gl nl 3 (by first | assumption | omega | rfl | decide) (by first | assumption | omega | rfl | decide) (by first | assumption | omega | rfl | decide) H.size) tw_413 tw_410 tw_411 tw_412 tw_66 hdX6_at rfl ⟨rfl, rfl, Nat.le_of_ble_eq_true rfl, Nat.le_of_ble_eq_true rfl, Nat.le_of_ble_eq_true rfl, Nat.le_of_ble_eq_true rfl⟩ rfl rfl (q0 := 4) rfl [4, 5] [0, 1, 2, 3, 6] rfl rfl (by decide) rfl (Nat.le_of_ble_eq_true rfl) dX9_isProving_60 (fun u H locs hq hP hD hS => ?_)
          refine W.eq (g2 := F0 mm 63 ls [.int (qz (gl 3))]) rfl ?_
          have hP : va_P D vwCl [(lg 0, oG lg ya yb wa wb o v ct), (wb 0, oW wb st lv cnt cm), (wb 11, oR (wb 12) 8), (wb 12, aZ ta 8 gcp), (v 0, oV v), (lg 5, oR (lg 6) nl), (lg 6, aZ ta 300 gl)] H := hP
          have hD : va_D A [(lg 0, oG lg ya yb wa wb o v ct), (wb 0, oW wb st lv cnt cm), (wb 11, oR (wb 12) 8), (wb 12, aZ ta 8 gcp), (v 0, oV v), (lg 5, oR (lg 6) nl), (lg 6, aZ ta 300 gl)] := hD
          refine lv_if_ne (pc := 63) (tgt := 90) hx hb dX9_isProving_63 (by decide) (fun c_9 => ?_) (fun c_9 => ?_)
          · skip
            rw [qz_0] at c_9
            refine lv_iconst (pc := 90) (v := nI 0) hx hb dX9_isProving_90 (by decide +kernel) ?_
            refine q_top (y := qb false) (by first | rfl | decide +kernel | (simp; done)) ?_
            have hq_10 : (false = provB (qL gl nl) (qL gcp 8) true) := by
              symm
              first | exact provB_no h20 | (rw [provB_qL h20]; first | (refine decide_eq_false (fun q => ?_); simp_all; done) | (refine decide_eq_true ?_; simp_all; done))
            exact hret (false) _ _ _ _ dX9_isProving_91 hq_10 (hP.sub [0, 5, 6, 1, 2, 3, 4] rfl) (hD.sub [0, 5, 6, 1, 2, 3, 4] (by decide) rfl) hS
          · skip
            rw [qz_0] at c_9
            have hb3 := c_9
            refine lv_aload_n (pc := 66) hx hb dX9_isProving_66 rfl (lv_at hl 0 rfl) ?_
            refine va_get (pc := 67) (D := D) (ci := 7) (v := .ref (lg 5)) (C := RX9) (T := TX9) (N := 11) hx hb hts iu9 hown hK hP 0 rfl rfl 2 (by decide) (hts _ tw_354) (fun _ h9 => h9) rfl dX9_isProving_67 ?_
            refine lv_iconst (pc := 70) (v := nI 4) hx hb dX9_isProving_70 (by decide +kernel) ?_
            refine lv_aload_n (pc := 71) hx hb dX9_isProving_71 rfl (lv_at hl 0 rfl) ?_
            refine va_get (pc := 72) (D := D) (ci := 7) (v := .ref (wb 0)) (C := RX9) (T := TX9) (N := 11) hx hb hts iu9 hown hK hP 0 rfl rfl 7 (by decide) (hts _ tw_359) (fun _ h9 => h9) rfl dX9_isProving_72 ?_
            refine va_getN (pc := 75) (D := D) (ci := 6) (v := .ref (wb 11)) (C := RX8) (T := TX8) (N := 14) hx hb hts iu8 hown hK hP 1 rfl rfl 7 (by decide) (va_Nw.use rfl (GC_w164 hG)) (fun _ h9 => h9) rfl dX9_isProving_75 ?_
            refine lv_bipush (pc := 78) (v := nI 8) hx hb dX9_isProving_78 (by decide +kernel) ?_
            refine cs_V (pc := 80) (idx := 220) (n := 3) (wr := [(lg 0, oG lg ya yb wa wb o v ct), (wb 0, oW wb st lv cnt cm), (v 0, oV v)]) (As := [.int (nI 4), .ref (wb 11), .int (nI 8)]) (rest := []) (ci := 5) hx hb hml hown hts hGok hK hA hG hl.1 hP hD hS (ct_X6_hasAt ll D ta hGok (lg 5) (lg 6) 300 gl nl (wb 11) (wb 12) 8 gcp 8 4 8 (by first | assumption | omega | rfl | decide) (by first | assumption | omega | rfl | decide) (by first | assumption | omega | rfl | decide) (by first | assumption | omega | rfl | decide) (by first | assumption | omega | rfl | decide) (by first | assumption | omega | rfl | decide) H.size) tw_688 tw_790 tw_686 tw_687 tw_66 hdX6_hasAt rfl ⟨rfl, rfl, Nat.le_of_ble_eq_true rfl, Nat.le_of_ble_eq_true rfl, Nat.le_of_ble_eq_true rfl, Nat.le_of_ble_eq_true rfl⟩ rfl rfl (q0 := 5) rfl [5, 6, 2, 3] [0, 1, 4] rfl rfl (by decide) rfl (Nat.le_of_ble_eq_true rfl) dX9_isProving_80 (fun u H locs hq hP hD hS => ?_)
            generalize u = z_80 at hq hP hD ⊢
            have hq : (z_80 = qHas gl gcp 4 8) := hq
            have hz_80 := hq
            refine W.eq (g2 := F0 mm 83 ls [.int (qb z_80)]) rfl ?_
            have hP : va_P D vwCl [(lg 0, oG lg ya yb wa wb o v ct), (wb 0, oW wb st lv cnt cm), (v 0, oV v), (lg 5, oR (lg 6) nl), (lg 6, aZ ta 300 gl), (wb 11, oR (wb 12) 8), (wb 12, aZ ta 8 gcp)] H := hP
            have hD : va_D A [(lg 0, oG lg ya yb wa wb o v ct), (wb 0, oW wb st lv cnt cm), (v 0, oV v), (lg 5, oR (lg 6) nl), (lg 6, aZ ta 300 gl), (wb 11, oR (wb 12) 8), (wb 12, aZ ta 8 gcp)] := hD
            refine lv_if_eq (pc := 83) (tgt := 90) hx hb dX9_isProving_83 (by decide) (fun c_11 => ?_) (fun c_11 => ?_)
            · skip
              rw [q_beq] at c_11
              try rw [Bool.not_eq_false] at c_11
              have hh9 := c_11
              refine lv_iconst (pc := 90) (v := nI 0) hx hb dX9_isProving_90 (by decide +kernel) ?_
              refine q_top (y := qb false) (by first | rfl | decide +kernel | (simp; done)) ?_
              have hq_12 : (false = provB (qL gl nl) (qL gcp 8) true) := by
                symm
                first | exact provB_no h20 | (rw [provB_qL h20]; first | (refine decide_eq_false (fun q => ?_); simp_all; done) | (refine decide_eq_true ?_; simp_all; done))
              exact hret (false) _ _ _ _ dX9_isProving_91 hq_12 (hP.sub [0, 3, 4, 1, 5, 6, 2] rfl) (hD.sub [0, 3, 4, 1, 5, 6, 2] (by decide) rfl) hS
            · skip
              rw [q_beq] at c_11
              try rw [Bool.not_eq_false] at c_11
              have hh9 := c_11
              refine lv_iconst (pc := 86) (v := nI 1) hx hb dX9_isProving_86 (by decide +kernel) ?_
              refine lv_goto (pc := 87) (tgt := 91) hx hb dX9_isProving_87 (by decide) ?_
              refine q_top (y := qb true) (by first | rfl | decide +kernel | (simp; done)) ?_
              have hq_13 : (true = provB (qL gl nl) (qL gcp 8) true) := by
                symm
                first | exact provB_no h20 | (rw [provB_qL h20]; first | (refine decide_eq_false (fun q => ?_); simp_all; done) | (refine decide_eq_true ?_; simp_all; done))
              exact hret (true) _ _ _ _ dX9_isProving_91 hq_13 (hP.sub [0, 3, 4, 1, 5, 6, 2] rfl) (hD.sub [0, 3, 4, 1, 5, 6, 2] (by decide) rfl) hS
set_option maxHeartbeats 4000000 in
set_option maxRecDepth 100000 in
theorem ct_X9_isProving_O (ll : Launch) (D : va_G) (ta : Nat → ClassId) (gs : Nat → Nat) (lg : Nat → Nat) (ya : Nat → Nat) (yb : Nat → Nat) (wa : Nat → Nat) (wb : Nat → Nat) (o : Nat → Nat) (v : Nat → Nat) (ct : Nat) (gl : Nat → BitVec 8) (nl : Nat) (st : Nat) (lv : Nat) (cnt : Nat) (cm : Bool) (gcp : Nat → BitVec 8) (hli : nl ≤ 300) (sz : Nat) : CT ll yX9_isProving cX9_isProving 2 (some .boolean) ({ frames := 2, cells := 0, slots := 0, locals := 45 } : Room) D ta ((GC gs)) [.ref (lg 0), .ref (o 0)] [(lg 0, oG lg ya yb wa wb o v ct), (lg 5, oR (lg 6) nl), (lg 6, aZ ta 300 gl), (wb 0, oW wb st lv cnt cm), (wb 11, oR (wb 12) 8), (wb 12, aZ ta 8 gcp), (o 0, oO o)] sz (S := Bool) (fun u => some (.int (qb u))) (fun u => (u = provB (qL gl nl) (qL gcp 8) false)) (fun u => [(lg 0, oG lg ya yb wa wb o v ct), (lg 5, oR (lg 6) nl), (lg 6, aZ ta 300 gl), (wb 0, oW wb st lv cnt cm), (wb 11, oR (wb 12) 8), (wb 12, aZ ta 8 gcp), (o 0, oO o)]) 0 0 := by
  refine CT.of_z (r := fun u => u) rfl (by decide) (Nat.le_of_ble_eq_true rfl) ?_
  have hGok := GC_ok gs
  intro pp ee ss mm below meth kc A Q hx hb hml hown hin hts hK hA hsz hG hret H locs hP hD hS ls hl
  have hl : lv_has ls 2 [(0, .ref (lg 0)), (1, .ref (o 0))] := hl
  refine lv_aload_n (pc := 0) hx hb dX9_isProving_0 rfl (lv_at hl 0 rfl) ?_
  refine va_get (pc := 1) (D := D) (ci := 7) (v := .ref (lg 5)) (C := RX9) (T := TX9) (N := 11) hx hb hts iu9 hown hK hP 0 rfl rfl 2 (by decide) (hts _ tw_354) (fun _ h9 => h9) rfl dX9_isProving_1 ?_
  refine cs_V (pc := 4) (idx := 64) (n := 0) (wr := [(lg 0, oG lg ya yb wa wb o v ct), (wb 0, oW wb st lv cnt cm), (wb 11, oR (wb 12) 8), (wb 12, aZ ta 8 gcp), (o 0, oO o)]) (As := []) (rest := []) (ci := 5) hx hb hml hown hts hGok hK hA hG hl.1 hP hD hS (ct_X6_size ll D ta hGok (lg 5) (lg 6) 300 gl nl  H.size) tw_393 tw_390 tw_391 tw_392 tw_66 hdX6_size rfl ⟨rfl, rfl, Nat.le_of_ble_eq_true rfl, Nat.le_of_ble_eq_true rfl, Nat.le_of_ble_eq_true rfl, Nat.le_of_ble_eq_true rfl⟩ rfl rfl (q0 := 1) rfl [1, 2] [0, 3, 4, 5, 6] rfl rfl (by decide) rfl (Nat.le_of_ble_eq_true rfl) dX9_isProving_4 (fun u H locs hq hP hD hS => ?_)
  refine W.eq (g2 := F0 mm 7 ls [.int (nI nl)]) rfl ?_
  have hP : va_P D vwCl [(lg 0, oG lg ya yb wa wb o v ct), (wb 0, oW wb st lv cnt cm), (wb 11, oR (wb 12) 8), (wb 12, aZ ta 8 gcp), (o 0, oO o), (lg 5, oR (lg 6) nl), (lg 6, aZ ta 300 gl)] H := hP
  have hD : va_D A [(lg 0, oG lg ya yb wa wb o v ct), (wb 0, oW wb st lv cnt cm), (wb 11, oR (wb 12) 8), (wb 12, aZ ta 8 gcp), (o 0, oO o), (lg 5, oR (lg 6) nl), (lg 6, aZ ta 300 gl)] := hD
  refine lv_bipush (pc := 7) (v := nI 20) hx hb dX9_isProving_7 (by decide +kernel) ?_
  refine lv_icmp_ne (pc := 9) (tgt := 90) hx hb dX9_isProving_9 (by decide) (fun c_1 => ?_) (fun c_1 => ?_)
  · skip
    rw [nI_eq (by omega) (by omega)] at c_1
    have h20 := c_1
    refine lv_iconst (pc := 90) (v := nI 0) hx hb dX9_isProving_90 (by decide +kernel) ?_
    refine q_top (y := qb false) (by first | rfl | decide +kernel | (simp; done)) ?_
    have hq_2 : (false = provB (qL gl nl) (qL gcp 8) false) := by
      symm
      first | exact provB_no h20 | (rw [provB_qL h20]; first | (refine decide_eq_false (fun q => ?_); simp_all; done) | (refine decide_eq_true ?_; simp_all; done))
    exact hret (false) _ _ _ _ dX9_isProving_91 hq_2 (hP.sub [0, 5, 6, 1, 2, 3, 4] rfl) (hD.sub [0, 5, 6, 1, 2, 3, 4] (by decide) rfl) hS
  · skip
    rw [nI_eq (by omega) (by omega)] at c_1
    have h20 := c_1
    refine lv_aload_n (pc := 12) hx hb dX9_isProving_12 rfl (lv_at hl 0 rfl) ?_
    refine va_get (pc := 13) (D := D) (ci := 7) (v := .ref (lg 5)) (C := RX9) (T := TX9) (N := 11) hx hb hts iu9 hown hK hP 0 rfl rfl 2 (by decide) (hts _ tw_354) (fun _ h9 => h9) rfl dX9_isProving_13 ?_
    refine lv_iconst (pc := 16) (v := nI 0) hx hb dX9_isProving_16 (by decide +kernel) ?_
    refine cs_V (pc := 17) (idx := 76) (n := 1) (wr := [(lg 0, oG lg ya yb wa wb o v ct), (wb 0, oW wb st lv cnt cm), (wb 11, oR (wb 12) 8), (wb 12, aZ ta 8 gcp), (o 0, oO o)]) (As := [.int (nI 0)]) (rest := []) (ci := 5) hx hb hml hown hts hGok hK hA hG hl.1 hP hD hS (ct_X6_at_in ll D ta hGok (lg 5) (lg 6) 300 gl nl 0 (by first | assumption | omega | rfl | decide) (by first | assumption | omega | rfl | decide) (by first | assumption | omega | rfl | decide) H.size) tw_413 tw_410 tw_411 tw_412 tw_66 hdX6_at rfl ⟨rfl, rfl, Nat.le_of_ble_eq_true rfl, Nat.le_of_ble_eq_true rfl, Nat.le_of_ble_eq_true rfl, Nat.le_of_ble_eq_true rfl⟩ rfl rfl (q0 := 5) rfl [5, 6] [0, 1, 2, 3, 4] rfl rfl (by decide) rfl (Nat.le_of_ble_eq_true rfl) dX9_isProving_17 (fun u H locs hq hP hD hS => ?_)
    refine W.eq (g2 := F0 mm 20 ls [.int (qz (gl 0))]) rfl ?_
    have hP : va_P D vwCl [(lg 0, oG lg ya yb wa wb o v ct), (wb 0, oW wb st lv cnt cm), (wb 11, oR (wb 12) 8), (wb 12, aZ ta 8 gcp), (o 0, oO o), (lg 5, oR (lg 6) nl), (lg 6, aZ ta 300 gl)] H := hP
    have hD : va_D A [(lg 0, oG lg ya yb wa wb o v ct), (wb 0, oW wb st lv cnt cm), (wb 11, oR (wb 12) 8), (wb 12, aZ ta 8 gcp), (o 0, oO o), (lg 5, oR (lg 6) nl), (lg 6, aZ ta 300 gl)] := hD
    refine lv_sipush (pc := 20) (v := nI 132) hx hb dX9_isProving_20 (by decide +kernel) ?_
    refine lv_icmp_ne (pc := 23) (tgt := 90) hx hb dX9_isProving_23 (by decide) (fun c_3 => ?_) (fun c_3 => ?_)
    · skip
      rw [qz_lit (by decide)] at c_3
      refine lv_iconst (pc := 90) (v := nI 0) hx hb dX9_isProving_90 (by decide +kernel) ?_
      refine q_top (y := qb false) (by first | rfl | decide +kernel | (simp; done)) ?_
      have hq_4 : (false = provB (qL gl nl) (qL gcp 8) false) := by
        symm
        first | exact provB_no h20 | (rw [provB_qL h20]; first | (refine decide_eq_false (fun q => ?_); simp_all; done) | (refine decide_eq_true ?_; simp_all; done))
      exact hret (false) _ _ _ _ dX9_isProving_91 hq_4 (hP.sub [0, 5, 6, 1, 2, 3, 4] rfl) (hD.sub [0, 5, 6, 1, 2, 3, 4] (by decide) rfl) hS
    · skip
      rw [qz_lit (by decide)] at c_3
      have hb0 := c_3
      refine lv_aload_n (pc := 26) hx hb dX9_isProving_26 rfl (lv_at hl 0 rfl) ?_
      refine va_get (pc := 27) (D := D) (ci := 7) (v := .ref (lg 5)) (C := RX9) (T := TX9) (N := 11) hx hb hts iu9 hown hK hP 0 rfl rfl 2 (by decide) (hts _ tw_354) (fun _ h9 => h9) rfl dX9_isProving_27 ?_
      refine lv_iconst (pc := 30) (v := nI 1) hx hb dX9_isProving_30 (by decide +kernel) ?_
      refine cs_V (pc := 31) (idx := 76) (n := 1) (wr := [(lg 0, oG lg ya yb wa wb o v ct), (wb 0, oW wb st lv cnt cm), (wb 11, oR (wb 12) 8), (wb 12, aZ ta 8 gcp), (o 0, oO o)]) (As := [.int (nI 1)]) (rest := []) (ci := 5) hx hb hml hown hts hGok hK hA hG hl.1 hP hD hS (ct_X6_at_in ll D ta hGok (lg 5) (lg 6) 300 gl nl 1 (by first | assumption | omega | rfl | decide) (by first | assumption | omega | rfl | decide) (by first | assumption | omega | rfl | decide) H.size) tw_413 tw_410 tw_411 tw_412 tw_66 hdX6_at rfl ⟨rfl, rfl, Nat.le_of_ble_eq_true rfl, Nat.le_of_ble_eq_true rfl, Nat.le_of_ble_eq_true rfl, Nat.le_of_ble_eq_true rfl⟩ rfl rfl (q0 := 5) rfl [5, 6] [0, 1, 2, 3, 4] rfl rfl (by decide) rfl (Nat.le_of_ble_eq_true rfl) dX9_isProving_31 (fun u H locs hq hP hD hS => ?_)
      refine W.eq (g2 := F0 mm 34 ls [.int (qz (gl 1))]) rfl ?_
      have hP : va_P D vwCl [(lg 0, oG lg ya yb wa wb o v ct), (wb 0, oW wb st lv cnt cm), (wb 11, oR (wb 12) 8), (wb 12, aZ ta 8 gcp), (o 0, oO o), (lg 5, oR (lg 6) nl), (lg 6, aZ ta 300 gl)] H := hP
      have hD : va_D A [(lg 0, oG lg ya yb wa wb o v ct), (wb 0, oW wb st lv cnt cm), (wb 11, oR (wb 12) 8), (wb 12, aZ ta 8 gcp), (o 0, oO o), (lg 5, oR (lg 6) nl), (lg 6, aZ ta 300 gl)] := hD
      refine lv_sipush (pc := 34) (v := nI 130) hx hb dX9_isProving_34 (by decide +kernel) ?_
      refine lv_icmp_ne (pc := 37) (tgt := 90) hx hb dX9_isProving_37 (by decide) (fun c_5 => ?_) (fun c_5 => ?_)
      · skip
        rw [qz_lit (by decide)] at c_5
        refine lv_iconst (pc := 90) (v := nI 0) hx hb dX9_isProving_90 (by decide +kernel) ?_
        refine q_top (y := qb false) (by first | rfl | decide +kernel | (simp; done)) ?_
        have hq_6 : (false = provB (qL gl nl) (qL gcp 8) false) := by
          symm
          first | exact provB_no h20 | (rw [provB_qL h20]; first | (refine decide_eq_false (fun q => ?_); simp_all; done) | (refine decide_eq_true ?_; simp_all; done))
        exact hret (false) _ _ _ _ dX9_isProving_91 hq_6 (hP.sub [0, 5, 6, 1, 2, 3, 4] rfl) (hD.sub [0, 5, 6, 1, 2, 3, 4] (by decide) rfl) hS
      · skip
        rw [qz_lit (by decide)] at c_5
        have hb1 := c_5
        refine lv_aload_n (pc := 40) hx hb dX9_isProving_40 rfl (lv_at hl 1 rfl) ?_
        refine lv_aload_n (pc := 41) hx hb dX9_isProving_41 rfl (lv_at hl 0 rfl) ?_
        refine va_get (pc := 42) (D := D) (ci := 7) (v := .ref (lg 5)) (C := RX9) (T := TX9) (N := 11) hx hb hts iu9 hown hK hP 0 rfl rfl 2 (by decide) (hts _ tw_354) (fun _ h9 => h9) rfl dX9_isProving_42 ?_
        refine lv_iconst (pc := 45) (v := nI 2) hx hb dX9_isProving_45 (by decide +kernel) ?_
        refine cs_V (pc := 46) (idx := 76) (n := 1) (wr := [(lg 0, oG lg ya yb wa wb o v ct), (wb 0, oW wb st lv cnt cm), (wb 11, oR (wb 12) 8), (wb 12, aZ ta 8 gcp), (o 0, oO o)]) (As := [.int (nI 2)]) (rest := [.ref (o 0)]) (ci := 5) hx hb hml hown hts hGok hK hA hG hl.1 hP hD hS (ct_X6_at_in ll D ta hGok (lg 5) (lg 6) 300 gl nl 2 (by first | assumption | omega | rfl | decide) (by first | assumption | omega | rfl | decide) (by first | assumption | omega | rfl | decide) H.size) tw_413 tw_410 tw_411 tw_412 tw_66 hdX6_at rfl ⟨rfl, rfl, Nat.le_of_ble_eq_true rfl, Nat.le_of_ble_eq_true rfl, Nat.le_of_ble_eq_true rfl, Nat.le_of_ble_eq_true rfl⟩ rfl rfl (q0 := 5) rfl [5, 6] [0, 1, 2, 3, 4] rfl rfl (by decide) rfl (Nat.le_of_ble_eq_true rfl) dX9_isProving_46 (fun u H locs hq hP hD hS => ?_)
        refine W.eq (g2 := F0 mm 49 ls [.int (qz (gl 2)), .ref (o 0)]) rfl ?_
        have hP : va_P D vwCl [(lg 0, oG lg ya yb wa wb o v ct), (wb 0, oW wb st lv cnt cm), (wb 11, oR (wb 12) 8), (wb 12, aZ ta 8 gcp), (o 0, oO o), (lg 5, oR (lg 6) nl), (lg 6, aZ ta 300 gl)] H := hP
        have hD : va_D A [(lg 0, oG lg ya yb wa wb o v ct), (wb 0, oW wb st lv cnt cm), (wb 11, oR (wb 12) 8), (wb 12, aZ ta 8 gcp), (o 0, oO o), (lg 5, oR (lg 6) nl), (lg 6, aZ ta 300 gl)] := hD
        refine cs_U (pc := 49) (idx := 142) (n := 1) (wr := [(lg 0, oG lg ya yb wa wb o v ct), (wb 0, oW wb st lv cnt cm), (wb 11, oR (wb 12) 8), (wb 12, aZ ta 8 gcp), (lg 5, oR (lg 6) nl), (lg 6, aZ ta 300 gl)]) (As := [.int (qz (gl 2))]) (rest := []) (ci := 4) (x := ⟨"LineGuard$Rule", "hasLevel", "(I)Z"⟩) (owner := "LineGuard$Rule") hx hb hml hown hts hGok hK hA hG hl.1 hP hD hS (ct_X7_hasLevel_O ll D ta gs o (qz (gl 2))  H.size) tw_698 tw_693 tw_694 tw_697 tw_69 tw_695 (va_Decl.of (hts _ tw_694) (hts _ tw_698)) ⟨by decide +kernel, by decide +kernel, by decide +kernel⟩ rfl ⟨rfl, rfl, Nat.le_of_ble_eq_true rfl, Nat.le_of_ble_eq_true rfl, Nat.le_of_ble_eq_true rfl, Nat.le_of_ble_eq_true rfl⟩ rfl (q0 := 4) rfl [4] [0, 1, 2, 3, 5, 6] rfl rfl (by decide) rfl (Nat.le_of_ble_eq_true rfl) dX9_isProving_49 (fun u H locs hq hP hD hS => ?_)
        generalize u = z_49 at hq hP hD ⊢
        have hq : (z_49 = levB (qz (gl 2)) false) := hq
        have hz_49 := hq
        refine W.eq (g2 := F0 mm 52 ls [.int (qb z_49)]) rfl ?_
        have hP : va_P D vwCl [(lg 0, oG lg ya yb wa wb o v ct), (wb 0, oW wb st lv cnt cm), (wb 11, oR (wb 12) 8), (wb 12, aZ ta 8 gcp), (lg 5, oR (lg 6) nl), (lg 6, aZ ta 300 gl), (o 0, oO o)] H := hP
        have hD : va_D A [(lg 0, oG lg ya yb wa wb o v ct), (wb 0, oW wb st lv cnt cm), (wb 11, oR (wb 12) 8), (wb 12, aZ ta 8 gcp), (lg 5, oR (lg 6) nl), (lg 6, aZ ta 300 gl), (o 0, oO o)] := hD
        refine lv_if_eq (pc := 52) (tgt := 90) hx hb dX9_isProving_52 (by decide) (fun c_7 => ?_) (fun c_7 => ?_)
        · skip
          rw [q_beq] at c_7
          try rw [Bool.not_eq_false] at c_7
          have hlv9 := c_7
          refine lv_iconst (pc := 90) (v := nI 0) hx hb dX9_isProving_90 (by decide +kernel) ?_
          refine q_top (y := qb false) (by first | rfl | decide +kernel | (simp; done)) ?_
          have hq_8 : (false = provB (qL gl nl) (qL gcp 8) false) := by
            symm
            first | exact provB_no h20 | (rw [provB_qL h20]; first | (refine decide_eq_false (fun q => ?_); simp_all; done) | (refine decide_eq_true ?_; simp_all; done))
          exact hret (false) _ _ _ _ dX9_isProving_91 hq_8 (hP.sub [0, 4, 5, 1, 2, 3, 6] rfl) (hD.sub [0, 4, 5, 1, 2, 3, 6] (by decide) rfl) hS
        · skip
          rw [q_beq] at c_7
          try rw [Bool.not_eq_false] at c_7
          have hlv9 := c_7
          refine lv_aload_n (pc := 55) hx hb dX9_isProving_55 rfl (lv_at hl 0 rfl) ?_
          refine va_get (pc := 56) (D := D) (ci := 7) (v := .ref (lg 5)) (C := RX9) (T := TX9) (N := 11) hx hb hts iu9 hown hK hP 0 rfl rfl 2 (by decide) (hts _ tw_354) (fun _ h9 => h9) rfl dX9_isProving_56 ?_
          refine lv_iconst (pc := 59) (v := nI 3) hx hb dX9_isProving_59 (by decide +kernel) ?_
          refine cs_V (pc := 60) (idx := 76) (n := 1) (wr := [(lg 0, oG lg ya yb wa wb o v ct), (wb 0, oW wb st lv cnt cm), (wb 11, oR (wb 12) 8), (wb 12, aZ ta 8 gcp), (o 0, oO o)]) (As := [.int (nI 3)]) (rest := []) (ci := 5) hx hb hml hown hts hGok hK hA hG hl.1 hP hD hS (ct_X6_at_in ll D ta hGok (lg 5) (lg 6) 300 gl nl 3 (by first | assumption | omega | rfl | decide) (by first | assumption | omega | rfl | decide) (by first | assumption | omega | rfl | decide) H.size) tw_413 tw_410 tw_411 tw_412 tw_66 hdX6_at rfl ⟨rfl, rfl, Nat.le_of_ble_eq_true rfl, Nat.le_of_ble_eq_true rfl, Nat.le_of_ble_eq_true rfl, Nat.le_of_ble_eq_true rfl⟩ rfl rfl (q0 := 4) rfl [4, 5] [0, 1, 2, 3, 6] rfl rfl (by decide) rfl (Nat.le_of_ble_eq_true rfl) dX9_isProving_60 (fun u H locs hq hP hD hS => ?_)
          refine W.eq (g2 := F0 mm 63 ls [.int (qz (gl 3))]) rfl ?_
          have hP : va_P D vwCl [(lg 0, oG lg ya yb wa wb o v ct), (wb 0, oW wb st lv cnt cm), (wb 11, oR (wb 12) 8), (wb 12, aZ ta 8 gcp), (o 0, oO o), (lg 5, oR (lg 6) nl), (lg 6, aZ ta 300 gl)] H := hP
          have hD : va_D A [(lg 0, oG lg ya yb wa wb o v ct), (wb 0, oW wb st lv cnt cm), (wb 11, oR (wb 12) 8), (wb 12, aZ ta 8 gcp), (o 0, oO o), (lg 5, oR (lg 6) nl), (lg 6, aZ ta 300 gl)] := hD
          refine lv_if_ne (pc := 63) (tgt := 90) hx hb dX9_isProving_63 (by decide) (fun c_9 => ?_) (fun c_9 => ?_)
          · skip
            rw [qz_0] at c_9
            refine lv_iconst (pc := 90) (v := nI 0) hx hb dX9_isProving_90 (by decide +kernel) ?_
            refine q_top (y := qb false) (by first | rfl | decide +kernel | (simp; done)) ?_
            have hq_10 : (false = provB (qL gl nl) (qL gcp 8) false) := by
              symm
              first | exact provB_no h20 | (rw [provB_qL h20]; first | (refine decide_eq_false (fun q => ?_); simp_all; done) | (refine decide_eq_true ?_; simp_all; done))
            exact hret (false) _ _ _ _ dX9_isProving_91 hq_10 (hP.sub [0, 5, 6, 1, 2, 3, 4] rfl) (hD.sub [0, 5, 6, 1, 2, 3, 4] (by decide) rfl) hS
          · skip
            rw [qz_0] at c_9
            have hb3 := c_9
            refine lv_aload_n (pc := 66) hx hb dX9_isProving_66 rfl (lv_at hl 0 rfl) ?_
            refine va_get (pc := 67) (D := D) (ci := 7) (v := .ref (lg 5)) (C := RX9) (T := TX9) (N := 11) hx hb hts iu9 hown hK hP 0 rfl rfl 2 (by decide) (hts _ tw_354) (fun _ h9 => h9) rfl dX9_isProving_67 ?_
            refine lv_iconst (pc := 70) (v := nI 4) hx hb dX9_isProving_70 (by decide +kernel) ?_
            refine lv_aload_n (pc := 71) hx hb dX9_isProving_71 rfl (lv_at hl 0 rfl) ?_
            refine va_get (pc := 72) (D := D) (ci := 7) (v := .ref (wb 0)) (C := RX9) (T := TX9) (N := 11) hx hb hts iu9 hown hK hP 0 rfl rfl 7 (by decide) (hts _ tw_359) (fun _ h9 => h9) rfl dX9_isProving_72 ?_
            refine va_getN (pc := 75) (D := D) (ci := 6) (v := .ref (wb 11)) (C := RX8) (T := TX8) (N := 14) hx hb hts iu8 hown hK hP 1 rfl rfl 7 (by decide) (va_Nw.use rfl (GC_w164 hG)) (fun _ h9 => h9) rfl dX9_isProving_75 ?_
            refine lv_bipush (pc := 78) (v := nI 8) hx hb dX9_isProving_78 (by decide +kernel) ?_
            refine cs_V (pc := 80) (idx := 220) (n := 3) (wr := [(lg 0, oG lg ya yb wa wb o v ct), (wb 0, oW wb st lv cnt cm), (o 0, oO o)]) (As := [.int (nI 4), .ref (wb 11), .int (nI 8)]) (rest := []) (ci := 5) hx hb hml hown hts hGok hK hA hG hl.1 hP hD hS (ct_X6_hasAt ll D ta hGok (lg 5) (lg 6) 300 gl nl (wb 11) (wb 12) 8 gcp 8 4 8 (by first | assumption | omega | rfl | decide) (by first | assumption | omega | rfl | decide) (by first | assumption | omega | rfl | decide) (by first | assumption | omega | rfl | decide) (by first | assumption | omega | rfl | decide) (by first | assumption | omega | rfl | decide) H.size) tw_688 tw_790 tw_686 tw_687 tw_66 hdX6_hasAt rfl ⟨rfl, rfl, Nat.le_of_ble_eq_true rfl, Nat.le_of_ble_eq_true rfl, Nat.le_of_ble_eq_true rfl, Nat.le_of_ble_eq_true rfl⟩ rfl rfl (q0 := 5) rfl [5, 6, 2, 3] [0, 1, 4] rfl rfl (by decide) rfl (Nat.le_of_ble_eq_true rfl) dX9_isProving_80 (fun u H locs hq hP hD hS => ?_)
            generalize u = z_80 at hq hP hD ⊢
            have hq : (z_80 = qHas gl gcp 4 8) := hq
            have hz_80 := hq
            refine W.eq (g2 := F0 mm 83 ls [.int (qb z_80)]) rfl ?_
            have hP : va_P D vwCl [(lg 0, oG lg ya yb wa wb o v ct), (wb 0, oW wb st lv cnt cm), (o 0, oO o), (lg 5, oR (lg 6) nl), (lg 6, aZ ta 300 gl), (wb 11, oR (wb 12) 8), (wb 12, aZ ta 8 gcp)] H := hP
            have hD : va_D A [(lg 0, oG lg ya yb wa wb o v ct), (wb 0, oW wb st lv cnt cm), (o 0, oO o), (lg 5, oR (lg 6) nl), (lg 6, aZ ta 300 gl), (wb 11, oR (wb 12) 8), (wb 12, aZ ta 8 gcp)] := hD
            refine lv_if_eq (pc := 83) (tgt := 90) hx hb dX9_isProving_83 (by decide) (fun c_11 => ?_) (fun c_11 => ?_)
            · skip
              rw [q_beq] at c_11
              try rw [Bool.not_eq_false] at c_11
              have hh9 := c_11
              refine lv_iconst (pc := 90) (v := nI 0) hx hb dX9_isProving_90 (by decide +kernel) ?_
              refine q_top (y := qb false) (by first | rfl | decide +kernel | (simp; done)) ?_
              have hq_12 : (false = provB (qL gl nl) (qL gcp 8) false) := by
                symm
                first | exact provB_no h20 | (rw [provB_qL h20]; first | (refine decide_eq_false (fun q => ?_); simp_all; done) | (refine decide_eq_true ?_; simp_all; done))
              exact hret (false) _ _ _ _ dX9_isProving_91 hq_12 (hP.sub [0, 3, 4, 1, 5, 6, 2] rfl) (hD.sub [0, 3, 4, 1, 5, 6, 2] (by decide) rfl) hS
            · skip
              rw [q_beq] at c_11
              try rw [Bool.not_eq_false] at c_11
              have hh9 := c_11
              refine lv_iconst (pc := 86) (v := nI 1) hx hb dX9_isProving_86 (by decide +kernel) ?_
              refine lv_goto (pc := 87) (tgt := 91) hx hb dX9_isProving_87 (by decide) ?_
              refine q_top (y := qb true) (by first | rfl | decide +kernel | (simp; done)) ?_
              have hq_13 : (true = provB (qL gl nl) (qL gcp 8) false) := by
                symm
                first | exact provB_no h20 | (rw [provB_qL h20]; first | (refine decide_eq_false (fun q => ?_); simp_all; done) | (refine decide_eq_true ?_; simp_all; done))
              exact hret (true) _ _ _ _ dX9_isProving_91 hq_13 (hP.sub [0, 3, 4, 1, 5, 6, 2] rfl) (hD.sub [0, 3, 4, 1, 5, 6, 2] (by decide) rfl) hS
theorem hdX9_prove : yX9_prove.cls ≠ "java/lang/invoke/MethodHandle" ∧ yX9_prove.cls ≠ "java/lang/invoke/VarHandle" ∧ (parseMethodDescriptor yX9_prove.desc).map (fun d => d.parameters.length) = some 1 := ⟨by decide +kernel, by decide +kernel, by decide +kernel⟩
theorem dX9_prove_0 : decode cX9_prove 0 = .ok (.aload_n 0, 1) := by decide +kernel
theorem dX9_prove_1 : decode cX9_prove 1 = .ok (.aload_n 0, 1) := by decide +kernel
theorem dX9_prove_2 : decode cX9_prove 2 = .ok (.getfield 30, 3) := by decide +kernel
theorem dX9_prove_5 : decode cX9_prove 5 = .ok (.invokevirtual 109, 3) := by decide +kernel
theorem dX9_prove_8 : decode cX9_prove 8 = .ok (.astore_n 2, 1) := by decide +kernel
theorem dX9_prove_9 : decode cX9_prove 9 = .ok (.aload_n 0, 1) := by decide +kernel
theorem dX9_prove_10 : decode cX9_prove 10 = .ok (.getfield 40, 3) := by decide +kernel
theorem dX9_prove_13 : decode cX9_prove 13 = .ok (.getfield 139, 3) := by decide +kernel
theorem dX9_prove_16 : decode cX9_prove 16 = .ok (.iconst 1, 1) := by decide +kernel
theorem dX9_prove_17 : decode cX9_prove 17 = .ok (.if_icmp .ne 11, 3) := by decide +kernel
theorem dX9_prove_20 : decode cX9_prove 20 = .ok (.aload_n 2, 1) := by decide +kernel
theorem dX9_prove_21 : decode cX9_prove 21 = .ok (.iload_n 1, 1) := by decide +kernel
theorem dX9_prove_22 : decode cX9_prove 22 = .ok (.invokevirtual 142, 3) := by decide +kernel
theorem dX9_prove_25 : decode cX9_prove 25 = .ok (.ifCond .ne 5, 3) := by decide +kernel
theorem dX9_prove_28 : decode cX9_prove 28 = .ok (.iconst (-1), 1) := by decide +kernel
theorem dX9_prove_29 : decode cX9_prove 29 = .ok (.ireturn, 1) := by decide +kernel
theorem dX9_prove_30 : decode cX9_prove 30 = .ok (.aload_n 0, 1) := by decide +kernel
theorem dX9_prove_31 : decode cX9_prove 31 = .ok (.getfield 40, 3) := by decide +kernel
theorem dX9_prove_34 : decode cX9_prove 34 = .ok (.getfield 145, 3) := by decide +kernel
theorem dX9_prove_37 : decode cX9_prove 37 = .ok (.invokevirtual 88, 3) := by decide +kernel
theorem dX9_prove_40 : decode cX9_prove 40 = .ok (.aload_n 0, 1) := by decide +kernel
theorem dX9_prove_41 : decode cX9_prove 41 = .ok (.getfield 40, 3) := by decide +kernel
theorem dX9_prove_44 : decode cX9_prove 44 = .ok (.getfield 145, 3) := by decide +kernel
theorem dX9_prove_47 : decode cX9_prove 47 = .ok (.sipush 132, 3) := by decide +kernel
theorem dX9_prove_50 : decode cX9_prove 50 = .ok (.invokevirtual 148, 3) := by decide +kernel
theorem dX9_prove_53 : decode cX9_prove 53 = .ok (.aload_n 0, 1) := by decide +kernel
theorem dX9_prove_54 : decode cX9_prove 54 = .ok (.getfield 40, 3) := by decide +kernel
theorem dX9_prove_57 : decode cX9_prove 57 = .ok (.getfield 145, 3) := by decide +kernel
theorem dX9_prove_60 : decode cX9_prove 60 = .ok (.sipush 130, 3) := by decide +kernel
theorem dX9_prove_63 : decode cX9_prove 63 = .ok (.invokevirtual 148, 3) := by decide +kernel
theorem dX9_prove_66 : decode cX9_prove 66 = .ok (.aload_n 0, 1) := by decide +kernel
theorem dX9_prove_67 : decode cX9_prove 67 = .ok (.getfield 40, 3) := by decide +kernel
theorem dX9_prove_70 : decode cX9_prove 70 = .ok (.getfield 145, 3) := by decide +kernel
theorem dX9_prove_73 : decode cX9_prove 73 = .ok (.iload_n 1, 1) := by decide +kernel
theorem dX9_prove_74 : decode cX9_prove 74 = .ok (.invokevirtual 148, 3) := by decide +kernel
theorem dX9_prove_77 : decode cX9_prove 77 = .ok (.aload_n 0, 1) := by decide +kernel
theorem dX9_prove_78 : decode cX9_prove 78 = .ok (.getfield 40, 3) := by decide +kernel
theorem dX9_prove_81 : decode cX9_prove 81 = .ok (.getfield 145, 3) := by decide +kernel
theorem dX9_prove_84 : decode cX9_prove 84 = .ok (.iconst 0, 1) := by decide +kernel
theorem dX9_prove_85 : decode cX9_prove 85 = .ok (.invokevirtual 148, 3) := by decide +kernel
theorem dX9_prove_88 : decode cX9_prove 88 = .ok (.aload_n 0, 1) := by decide +kernel
theorem dX9_prove_89 : decode cX9_prove 89 = .ok (.getfield 40, 3) := by decide +kernel
theorem dX9_prove_92 : decode cX9_prove 92 = .ok (.getfield 145, 3) := by decide +kernel
theorem dX9_prove_95 : decode cX9_prove 95 = .ok (.aload_n 0, 1) := by decide +kernel
theorem dX9_prove_96 : decode cX9_prove 96 = .ok (.getfield 40, 3) := by decide +kernel
theorem dX9_prove_99 : decode cX9_prove 99 = .ok (.getfield 151, 3) := by decide +kernel
theorem dX9_prove_102 : decode cX9_prove 102 = .ok (.invokevirtual 154, 3) := by decide +kernel
theorem dX9_prove_105 : decode cX9_prove 105 = .ok (.aload_n 2, 1) := by decide +kernel
theorem dX9_prove_106 : decode cX9_prove 106 = .ok (.aload_n 0, 1) := by decide +kernel
theorem dX9_prove_107 : decode cX9_prove 107 = .ok (.getfield 40, 3) := by decide +kernel
theorem dX9_prove_110 : decode cX9_prove 110 = .ok (.aload_n 0, 1) := by decide +kernel
theorem dX9_prove_111 : decode cX9_prove 111 = .ok (.getfield 21, 3) := by decide +kernel
theorem dX9_prove_114 : decode cX9_prove 114 = .ok (.invokevirtual 157, 3) := by decide +kernel
theorem dX9_prove_117 : decode cX9_prove 117 = .ok (.aload_n 0, 1) := by decide +kernel
theorem dX9_prove_118 : decode cX9_prove 118 = .ok (.getfield 40, 3) := by decide +kernel
theorem dX9_prove_121 : decode cX9_prove 121 = .ok (.iload_n 1, 1) := by decide +kernel
theorem dX9_prove_122 : decode cX9_prove 122 = .ok (.invokevirtual 161, 3) := by decide +kernel
theorem dX9_prove_125 : decode cX9_prove 125 = .ok (.aload_n 0, 1) := by decide +kernel
theorem dX9_prove_126 : decode cX9_prove 126 = .ok (.getfield 21, 3) := by decide +kernel
theorem dX9_prove_129 : decode cX9_prove 129 = .ok (.invokevirtual 64, 3) := by decide +kernel
theorem dX9_prove_132 : decode cX9_prove 132 = .ok (.ireturn, 1) := by decide +kernel
set_option maxHeartbeats 4000000 in
set_option maxRecDepth 100000 in
theorem ct_X9_prove_no_N (ll : Launch) (D : va_G) (ta : Nat → ClassId) (gs : Nat → Nat) (lg : Nat → Nat) (ya : Nat → Nat) (yb : Nat → Nat) (wa : Nat → Nat) (wb : Nat → Nat) (o : Nat → Nat) (v : Nat → Nat) (ct : Nat) (ln : Nat) (st : Nat) (lv : Nat) (cnt : Nat) (cm : Bool) (l : Int32) (hst : st ≤ 2) (hno : st = 1 → levB l true = false) (sz : Nat) : CT ll yX9_prove cX9_prove 3 (some .int) ({ frames := 6, cells := 0, slots := 0, locals := 149 } : Room) D ta ((GC gs)) [.ref (lg 0), .int l] [(lg 0, oG lg ya yb wa wb o v ct), (ya 0, oK ya 3 ln), (wa 0, oW wa st lv cnt cm), (v 0, oV v)] sz (S := Int32) (fun u => some (.int u)) (fun u => ((u : Int32) = -1)) (fun u => [(lg 0, oG lg ya yb wa wb o v ct), (ya 0, oK ya 3 ln), (wa 0, oW wa st lv cnt cm), (v 0, oV v)]) 0 0 := by
  refine CT.of_i (r := fun u => u) rfl (by decide) (Nat.le_of_ble_eq_true rfl) ?_
  have hGok := GC_ok gs
  intro pp ee ss mm below meth kc A Q hx hb hml hown hin hts hK hA hsz hG hret H locs hP hD hS ls hl
  have hl : lv_has ls 3 [(0, .ref (lg 0)), (1, .int l)] := hl
  refine lv_aload_n (pc := 0) hx hb dX9_prove_0 rfl (lv_at hl 0 rfl) ?_
  refine lv_aload_n (pc := 1) hx hb dX9_prove_1 rfl (lv_at hl 0 rfl) ?_
  refine va_get (pc := 2) (D := D) (ci := 7) (v := .ref (ya 0)) (C := RX9) (T := TX9) (N := 11) hx hb hts iu9 hown hK hP 0 rfl rfl 4 (by decide) (hts _ tw_356) (fun _ h9 => h9) rfl dX9_prove_2 ?_
  refine cs_V (pc := 5) (idx := 109) (n := 1) (wr := [(wa 0, oW wa st lv cnt cm), (v 0, oV v)]) (As := [.ref (ya 0)]) (rest := []) (ci := 7) hx hb hml hown hts hGok hK hA hG hl.1 hP hD hS (ct_X9_ruleOf_3 ll D ta gs lg ya yb wa wb o v ct ya ln  H.size) tw_489 tw_486 tw_488 tw_2 tw_65 hdX9_ruleOf rfl ⟨rfl, rfl, Nat.le_of_ble_eq_true rfl, Nat.le_of_ble_eq_true rfl, Nat.le_of_ble_eq_true rfl, Nat.le_of_ble_eq_true rfl⟩ rfl rfl (q0 := 0) rfl [0, 1] [2, 3] rfl rfl (by decide) rfl (Nat.le_of_ble_eq_true rfl) dX9_prove_5 (fun u H locs hq hP hD hS => ?_)
  refine W.eq (g2 := F0 mm 8 ls [.ref (v 0)]) rfl ?_
  have hP : va_P D vwCl [(wa 0, oW wa st lv cnt cm), (v 0, oV v), (lg 0, oG lg ya yb wa wb o v ct), (ya 0, oK ya 3 ln)] H := hP
  have hD : va_D A [(wa 0, oW wa st lv cnt cm), (v 0, oV v), (lg 0, oG lg ya yb wa wb o v ct), (ya 0, oK ya 3 ln)] := hD
  refine lv_astore_n (pc := 8) (lv' := [(2, .ref (v 0)), (0, .ref (lg 0)), (1, .int l)]) hx hb dX9_prove_8 rfl hl (by decide) rfl (fun ls hl => ?_)
  refine lv_aload_n (pc := 9) hx hb dX9_prove_9 rfl (lv_at hl 1 rfl) ?_
  refine va_get (pc := 10) (D := D) (ci := 7) (v := .ref (wa 0)) (C := RX9) (T := TX9) (N := 11) hx hb hts iu9 hown hK hP 2 rfl rfl 6 (by decide) (hts _ tw_358) (fun _ h9 => h9) rfl dX9_prove_10 ?_
  refine va_getN (pc := 13) (D := D) (ci := 6) (v := .int (nI st)) (C := RX8) (T := TX8) (N := 14) hx hb hts iu8 hown hK hP 0 rfl rfl 0 (by decide) (va_Nw.use rfl (GC_w140 hG)) (fun _ h9 => h9) rfl dX9_prove_13 ?_
  refine lv_iconst (pc := 16) (v := nI 1) hx hb dX9_prove_16 (by decide +kernel) ?_
  refine lv_icmp_ne (pc := 17) (tgt := 28) hx hb dX9_prove_17 (by decide) (fun c_1 => ?_) (fun c_1 => ?_)
  · skip
    rw [nI_eq (by omega) (by omega)] at c_1
    have hs1 := c_1
    refine lv_iconst (pc := 28) (v := (-1)) hx hb dX9_prove_28 (by decide +kernel) ?_
    refine q_top (y := (-1)) (by first | rfl | decide +kernel | (simp; done)) ?_
    have hq_2 : (((-1) : Int32) = -1) := by
      first | rfl | trivial | (refine ⟨?_, ?_⟩ <;> rfl) | (simp; done) | omega
    exact hret (-1) _ _ _ _ dX9_prove_29 hq_2 (hP.sub [2, 3, 0, 1] rfl) (hD.sub [2, 3, 0, 1] (by decide) rfl) hS
  · skip
    rw [nI_eq (by omega) (by omega)] at c_1
    have hs1 := c_1
    refine lv_aload_n (pc := 20) hx hb dX9_prove_20 rfl (lv_at hl 0 rfl) ?_
    refine lv_iload_n (pc := 21) hx hb dX9_prove_21 rfl (lv_at hl 2 rfl) ?_
    refine cs_U (pc := 22) (idx := 142) (n := 1) (wr := [(wa 0, oW wa st lv cnt cm), (lg 0, oG lg ya yb wa wb o v ct), (ya 0, oK ya 3 ln)]) (As := [.int l]) (rest := []) (ci := 3) (x := ⟨"LineGuard$Rule", "hasLevel", "(I)Z"⟩) (owner := "LineGuard$Rule") hx hb hml hown hts hGok hK hA hG hl.1 hP hD hS (ct_X7_hasLevel_N ll D ta gs v l  H.size) tw_698 tw_693 tw_694 tw_696 tw_69 tw_695 (va_Decl.of (hts _ tw_694) (hts _ tw_698)) ⟨by decide +kernel, by decide +kernel, by decide +kernel⟩ rfl ⟨rfl, rfl, Nat.le_of_ble_eq_true rfl, Nat.le_of_ble_eq_true rfl, Nat.le_of_ble_eq_true rfl, Nat.le_of_ble_eq_true rfl⟩ rfl (q0 := 1) rfl [1] [0, 2, 3] rfl rfl (by decide) rfl (Nat.le_of_ble_eq_true rfl) dX9_prove_22 (fun u H locs hq hP hD hS => ?_)
    generalize u = z_22 at hq hP hD ⊢
    have hq : (z_22 = levB l true) := hq
    have hz_22 := hq
    refine W.eq (g2 := F0 mm 25 ls [.int (qb z_22)]) rfl ?_
    have hP : va_P D vwCl [(wa 0, oW wa st lv cnt cm), (lg 0, oG lg ya yb wa wb o v ct), (ya 0, oK ya 3 ln), (v 0, oV v)] H := hP
    have hD : va_D A [(wa 0, oW wa st lv cnt cm), (lg 0, oG lg ya yb wa wb o v ct), (ya 0, oK ya 3 ln), (v 0, oV v)] := hD
    refine lv_if_ne (pc := 25) (tgt := 30) hx hb dX9_prove_25 (by decide) (fun c_3 => ?_) (fun c_3 => ?_)
    · skip
      rw [q_beq] at c_3
      try rw [Bool.not_eq_false] at c_3
      rw [hz_22, hno hs1] at c_3; cases c_3
    · skip
      rw [q_beq] at c_3
      try rw [Bool.not_eq_false] at c_3
      refine lv_iconst (pc := 28) (v := (-1)) hx hb dX9_prove_28 (by decide +kernel) ?_
      refine q_top (y := (-1)) (by first | rfl | decide +kernel | (simp; done)) ?_
      have hq_4 : (((-1) : Int32) = -1) := by
        first | rfl | trivial | (refine ⟨?_, ?_⟩ <;> rfl) | (simp; done) | omega
      exact hret (-1) _ _ _ _ dX9_prove_29 hq_4 (hP.sub [1, 2, 0, 3] rfl) (hD.sub [1, 2, 0, 3] (by decide) rfl) hS
set_option maxHeartbeats 4000000 in
set_option maxRecDepth 100000 in
theorem ct_X9_prove_no_O (ll : Launch) (D : va_G) (ta : Nat → ClassId) (gs : Nat → Nat) (lg : Nat → Nat) (ya : Nat → Nat) (yb : Nat → Nat) (wa : Nat → Nat) (wb : Nat → Nat) (o : Nat → Nat) (v : Nat → Nat) (ct : Nat) (ru : Nat) (ln : Nat) (st : Nat) (lv : Nat) (cnt : Nat) (cm : Bool) (l : Int32) (hru : ¬ ru = 3 ∧ ru < 4) (hst : st ≤ 2) (hno : st = 1 → levB l false = false) (sz : Nat) : CT ll yX9_prove cX9_prove 3 (some .int) ({ frames := 6, cells := 0, slots := 0, locals := 149 } : Room) D ta ((GC gs)) [.ref (lg 0), .int l] [(lg 0, oG lg ya yb wa wb o v ct), (ya 0, oK ya ru ln), (wa 0, oW wa st lv cnt cm), (o 0, oO o)] sz (S := Int32) (fun u => some (.int u)) (fun u => ((u : Int32) = -1)) (fun u => [(lg 0, oG lg ya yb wa wb o v ct), (ya 0, oK ya ru ln), (wa 0, oW wa st lv cnt cm), (o 0, oO o)]) 0 0 := by
  refine CT.of_i (r := fun u => u) rfl (by decide) (Nat.le_of_ble_eq_true rfl) ?_
  have hGok := GC_ok gs
  intro pp ee ss mm below meth kc A Q hx hb hml hown hin hts hK hA hsz hG hret H locs hP hD hS ls hl
  have hl : lv_has ls 3 [(0, .ref (lg 0)), (1, .int l)] := hl
  refine lv_aload_n (pc := 0) hx hb dX9_prove_0 rfl (lv_at hl 0 rfl) ?_
  refine lv_aload_n (pc := 1) hx hb dX9_prove_1 rfl (lv_at hl 0 rfl) ?_
  refine va_get (pc := 2) (D := D) (ci := 7) (v := .ref (ya 0)) (C := RX9) (T := TX9) (N := 11) hx hb hts iu9 hown hK hP 0 rfl rfl 4 (by decide) (hts _ tw_356) (fun _ h9 => h9) rfl dX9_prove_2 ?_
  refine cs_V (pc := 5) (idx := 109) (n := 1) (wr := [(wa 0, oW wa st lv cnt cm), (o 0, oO o)]) (As := [.ref (ya 0)]) (rest := []) (ci := 7) hx hb hml hown hts hGok hK hA hG hl.1 hP hD hS (ct_X9_ruleOf_2 ll D ta gs lg ya yb wa wb o v ct ya ru ln (by first | assumption | omega | rfl | decide) H.size) tw_489 tw_486 tw_488 tw_2 tw_65 hdX9_ruleOf rfl ⟨rfl, rfl, Nat.le_of_ble_eq_true rfl, Nat.le_of_ble_eq_true rfl, Nat.le_of_ble_eq_true rfl, Nat.le_of_ble_eq_true rfl⟩ rfl rfl (q0 := 0) rfl [0, 1] [2, 3] rfl rfl (by decide) rfl (Nat.le_of_ble_eq_true rfl) dX9_prove_5 (fun u H locs hq hP hD hS => ?_)
  refine W.eq (g2 := F0 mm 8 ls [.ref (o 0)]) rfl ?_
  have hP : va_P D vwCl [(wa 0, oW wa st lv cnt cm), (o 0, oO o), (lg 0, oG lg ya yb wa wb o v ct), (ya 0, oK ya ru ln)] H := hP
  have hD : va_D A [(wa 0, oW wa st lv cnt cm), (o 0, oO o), (lg 0, oG lg ya yb wa wb o v ct), (ya 0, oK ya ru ln)] := hD
  refine lv_astore_n (pc := 8) (lv' := [(2, .ref (o 0)), (0, .ref (lg 0)), (1, .int l)]) hx hb dX9_prove_8 rfl hl (by decide) rfl (fun ls hl => ?_)
  refine lv_aload_n (pc := 9) hx hb dX9_prove_9 rfl (lv_at hl 1 rfl) ?_
  refine va_get (pc := 10) (D := D) (ci := 7) (v := .ref (wa 0)) (C := RX9) (T := TX9) (N := 11) hx hb hts iu9 hown hK hP 2 rfl rfl 6 (by decide) (hts _ tw_358) (fun _ h9 => h9) rfl dX9_prove_10 ?_
  refine va_getN (pc := 13) (D := D) (ci := 6) (v := .int (nI st)) (C := RX8) (T := TX8) (N := 14) hx hb hts iu8 hown hK hP 0 rfl rfl 0 (by decide) (va_Nw.use rfl (GC_w140 hG)) (fun _ h9 => h9) rfl dX9_prove_13 ?_
  refine lv_iconst (pc := 16) (v := nI 1) hx hb dX9_prove_16 (by decide +kernel) ?_
  refine lv_icmp_ne (pc := 17) (tgt := 28) hx hb dX9_prove_17 (by decide) (fun c_1 => ?_) (fun c_1 => ?_)
  · skip
    rw [nI_eq (by omega) (by omega)] at c_1
    have hs1 := c_1
    refine lv_iconst (pc := 28) (v := (-1)) hx hb dX9_prove_28 (by decide +kernel) ?_
    refine q_top (y := (-1)) (by first | rfl | decide +kernel | (simp; done)) ?_
    have hq_2 : (((-1) : Int32) = -1) := by
      first | rfl | trivial | (refine ⟨?_, ?_⟩ <;> rfl) | (simp; done) | omega
    exact hret (-1) _ _ _ _ dX9_prove_29 hq_2 (hP.sub [2, 3, 0, 1] rfl) (hD.sub [2, 3, 0, 1] (by decide) rfl) hS
  · skip
    rw [nI_eq (by omega) (by omega)] at c_1
    have hs1 := c_1
    refine lv_aload_n (pc := 20) hx hb dX9_prove_20 rfl (lv_at hl 0 rfl) ?_
    refine lv_iload_n (pc := 21) hx hb dX9_prove_21 rfl (lv_at hl 2 rfl) ?_
    refine cs_U (pc := 22) (idx := 142) (n := 1) (wr := [(wa 0, oW wa st lv cnt cm), (lg 0, oG lg ya yb wa wb o v ct), (ya 0, oK ya ru ln)]) (As := [.int l]) (rest := []) (ci := 4) (x := ⟨"LineGuard$Rule", "hasLevel", "(I)Z"⟩) (owner := "LineGuard$Rule") hx hb hml hown hts hGok hK hA hG hl.1 hP hD hS (ct_X7_hasLevel_O ll D ta gs o l  H.size) tw_698 tw_693 tw_694 tw_697 tw_69 tw_695 (va_Decl.of (hts _ tw_694) (hts _ tw_698)) ⟨by decide +kernel, by decide +kernel, by decide +kernel⟩ rfl ⟨rfl, rfl, Nat.le_of_ble_eq_true rfl, Nat.le_of_ble_eq_true rfl, Nat.le_of_ble_eq_true rfl, Nat.le_of_ble_eq_true rfl⟩ rfl (q0 := 1) rfl [1] [0, 2, 3] rfl rfl (by decide) rfl (Nat.le_of_ble_eq_true rfl) dX9_prove_22 (fun u H locs hq hP hD hS => ?_)
    generalize u = z_22 at hq hP hD ⊢
    have hq : (z_22 = levB l false) := hq
    have hz_22 := hq
    refine W.eq (g2 := F0 mm 25 ls [.int (qb z_22)]) rfl ?_
    have hP : va_P D vwCl [(wa 0, oW wa st lv cnt cm), (lg 0, oG lg ya yb wa wb o v ct), (ya 0, oK ya ru ln), (o 0, oO o)] H := hP
    have hD : va_D A [(wa 0, oW wa st lv cnt cm), (lg 0, oG lg ya yb wa wb o v ct), (ya 0, oK ya ru ln), (o 0, oO o)] := hD
    refine lv_if_ne (pc := 25) (tgt := 30) hx hb dX9_prove_25 (by decide) (fun c_3 => ?_) (fun c_3 => ?_)
    · skip
      rw [q_beq] at c_3
      try rw [Bool.not_eq_false] at c_3
      rw [hz_22, hno hs1] at c_3; cases c_3
    · skip
      rw [q_beq] at c_3
      try rw [Bool.not_eq_false] at c_3
      refine lv_iconst (pc := 28) (v := (-1)) hx hb dX9_prove_28 (by decide +kernel) ?_
      refine q_top (y := (-1)) (by first | rfl | decide +kernel | (simp; done)) ?_
      have hq_4 : (((-1) : Int32) = -1) := by
        first | rfl | trivial | (refine ⟨?_, ?_⟩ <;> rfl) | (simp; done) | omega
      exact hret (-1) _ _ _ _ dX9_prove_29 hq_4 (hP.sub [1, 2, 0, 3] rfl) (hD.sub [1, 2, 0, 3] (by decide) rfl) hS
set_option maxHeartbeats 4000000 in
set_option maxRecDepth 100000 in
theorem ct_X9_prove_N (ll : Launch) (D : va_G) (ta : Nat → ClassId) (gs : Nat → Nat) (lg : Nat → Nat) (ya : Nat → Nat) (yb : Nat → Nat) (wa : Nat → Nat) (wb : Nat → Nat) (o : Nat → Nat) (v : Nat → Nat) (ct : Nat) (gz : Nat → BitVec 8) (rd : Nat) (ab : Nat → BitVec 8) (af : Nat → BitVec 8) (kw : Nat → Int32) (sw : Nat → Int32) (xw : Nat → Int32) (tn : Nat → BitVec 8) (gt : Nat → BitVec 8) (nt : Nat) (gd : Nat → BitVec 8) (nd : Nat) (gv : Nat → BitVec 8) (nv : Nat) (ge : Nat → BitVec 8) (gm : Nat → BitVec 8) (len : Nat) (gh : Nat → BitVec 8) (gc : Nat → BitVec 8) (nc : Nat) (gl : Nat → BitVec 8) (nl : Nat) (ln : Nat) (gcp : Nat → BitVec 8) (gbc : Nat → BitVec 8) (nbc : Nat) (l : Nat) (hz : qL gz 16 = zeroL 16) (hln : len = 16 ∨ len = 24 ∨ len = 32) (hli : nl ≤ 300) (hl64 : l < 64) (hlev : levB (nI l) true = true) (sz : Nat) : CT ll yX9_prove cX9_prove 3 (some .int) ({ frames := 6, cells := 0, slots := 0, locals := 149 } : Room) D ta ((GC gs)) [.ref (lg 0), .int (nI l)] [(lg 0, oG lg ya yb wa wb o v ct), (ya 0, oK ya 3 ln), (wa 0, oW wa 1 0 0 false), (wa 1, oR (wa 2) len), (wa 2, aZ ta 32 ge), (wa 3, oR (wa 4) len), (wa 4, aZ ta 32 gm), (wa 15, oR (wa 16) 16), (wa 16, aZ ta 16 gh), (wa 19, oR (wa 20) nc), (wa 20, aZ ta 204 gc), (wa 11, oR (wa 12) 8), (wa 12, aZ ta 8 gcp), (wa 17, oR (wa 18) nbc), (wa 18, aZ ta 8 gbc), (lg 5, oR (lg 6) nl), (lg 6, aZ ta 300 gl), (v 0, oV v), (v 1, oR (v 2) nt), (v 2, aZ ta 528 gt), (v 3, oR (v 4) nd), (v 4, aZ ta 300 gd), (v 7, oR (v 8) nv), (v 8, aZ ta 16 gv), (v 9, oR (v 10) 16), (v 10, aZ ta 16 gz), (v 11, oA (v 12) (v 13) (v 14) (v 15) (v 16) (v 17) rd), (v 12, aZ ta 16 ab), (v 13, aZ ta 16 af), (v 14, aZ ta 256 UBOX), (v 15, aI ta 64 kw), (v 16, aI ta 4 sw), (v 17, aI ta 4 xw), (v 18, aZ ta 16 tn)] sz (S := (Nat → BitVec 8) × Nat × (Nat → BitVec 8) × Nat × (Nat → BitVec 8) × Nat × Nat × (Nat → BitVec 8) × (Nat → BitVec 8) × (Nat → Int32) × (Nat → Int32) × (Nat → Int32) × (Nat → BitVec 8) × (Nat → BitVec 8) × (Nat → BitVec 8) × (Nat → BitVec 8) × (Nat → BitVec 8)) (fun u => some (.int (nI 20))) (fun u => (qL u.2.2.2.2.2.2.2.2.2.2.2.2.2.1 16 = chain3 (qL gm len) (qL gh 16) (prvC l (qL gcp 8)) (qL gcp 8)) ∧ (qL u.2.2.2.2.2.2.2.2.2.2.2.2.2.2.2.2 20 = (prvC l (qL gcp 8)) ++ (qL u.2.2.2.2.2.2.2.2.2.2.2.2.2.1 16).take 8) ∧ (qL u.2.2.2.2.2.2.2.2.2.2.2.2.2.2.2.1 8 = (qL u.2.2.2.2.2.2.2.2.2.2.2.2.2.1 16).take 8)) (fun u => [(lg 0, oG lg ya yb wa wb o v ct), (ya 0, oK ya 3 ln), (wa 0, oW wa 2 l 0 false), (wa 1, oR (wa 2) len), (wa 2, aZ ta 32 ge), (wa 3, oR (wa 4) len), (wa 4, aZ ta 32 gm), (wa 15, oR (wa 16) 16), (wa 16, aZ ta 16 u.2.2.2.2.2.2.2.2.2.2.2.2.2.1), (wa 19, oR (wa 20) (0 + 1 + 1 + 1 + 1 + 8)), (wa 20, aZ ta 204 u.2.2.2.2.2.2.2.2.2.2.2.2.2.2.1), (wa 11, oR (wa 12) 8), (wa 12, aZ ta 8 gcp), (wa 17, oR (wa 18) 8), (wa 18, aZ ta 8 u.2.2.2.2.2.2.2.2.2.2.2.2.2.2.2.1), (lg 5, oR (lg 6) 20), (lg 6, aZ ta 300 u.2.2.2.2.2.2.2.2.2.2.2.2.2.2.2.2), (v 0, oV v), (v 1, oR (v 2) u.2.1), (v 2, aZ ta 528 u.1), (v 3, oR (v 4) u.2.2.2.1), (v 4, aZ ta 300 u.2.2.1), (v 7, oR (v 8) u.2.2.2.2.2.1), (v 8, aZ ta 16 u.2.2.2.2.1), (v 9, oR (v 10) 16), (v 10, aZ ta 16 gz), (v 11, oA (v 12) (v 13) (v 14) (v 15) (v 16) (v 17) u.2.2.2.2.2.2.1), (v 12, aZ ta 16 u.2.2.2.2.2.2.2.1), (v 13, aZ ta 16 u.2.2.2.2.2.2.2.2.1), (v 14, aZ ta 256 UBOX), (v 15, aI ta 64 u.2.2.2.2.2.2.2.2.2.1), (v 16, aI ta 4 u.2.2.2.2.2.2.2.2.2.2.1), (v 17, aI ta 4 u.2.2.2.2.2.2.2.2.2.2.2.1), (v 18, aZ ta 16 u.2.2.2.2.2.2.2.2.2.2.2.2.1)]) 0 0 := by
  refine CT.of_i (r := fun u => nI 20) rfl (by decide) (Nat.le_of_ble_eq_true rfl) ?_
  have hGok := GC_ok gs
  intro pp ee ss mm below meth kc A Q hx hb hml hown hin hts hK hA hsz hG hret H locs hP hD hS ls hl
  have hl : lv_has ls 3 [(0, .ref (lg 0)), (1, .int (nI l))] := hl
  refine lv_aload_n (pc := 0) hx hb dX9_prove_0 rfl (lv_at hl 0 rfl) ?_
  refine lv_aload_n (pc := 1) hx hb dX9_prove_1 rfl (lv_at hl 0 rfl) ?_
  refine va_get (pc := 2) (D := D) (ci := 7) (v := .ref (ya 0)) (C := RX9) (T := TX9) (N := 11) hx hb hts iu9 hown hK hP 0 rfl rfl 4 (by decide) (hts _ tw_356) (fun _ h9 => h9) rfl dX9_prove_2 ?_
  refine cs_V (pc := 5) (idx := 109) (n := 1) (wr := [(wa 0, oW wa 1 0 0 false), (wa 1, oR (wa 2) len), (wa 2, aZ ta 32 ge), (wa 3, oR (wa 4) len), (wa 4, aZ ta 32 gm), (wa 15, oR (wa 16) 16), (wa 16, aZ ta 16 gh), (wa 19, oR (wa 20) nc), (wa 20, aZ ta 204 gc), (wa 11, oR (wa 12) 8), (wa 12, aZ ta 8 gcp), (wa 17, oR (wa 18) nbc), (wa 18, aZ ta 8 gbc), (lg 5, oR (lg 6) nl), (lg 6, aZ ta 300 gl), (v 0, oV v), (v 1, oR (v 2) nt), (v 2, aZ ta 528 gt), (v 3, oR (v 4) nd), (v 4, aZ ta 300 gd), (v 7, oR (v 8) nv), (v 8, aZ ta 16 gv), (v 9, oR (v 10) 16), (v 10, aZ ta 16 gz), (v 11, oA (v 12) (v 13) (v 14) (v 15) (v 16) (v 17) rd), (v 12, aZ ta 16 ab), (v 13, aZ ta 16 af), (v 14, aZ ta 256 UBOX), (v 15, aI ta 64 kw), (v 16, aI ta 4 sw), (v 17, aI ta 4 xw), (v 18, aZ ta 16 tn)]) (As := [.ref (ya 0)]) (rest := []) (ci := 7) hx hb hml hown hts hGok hK hA hG hl.1 hP hD hS (ct_X9_ruleOf_3 ll D ta gs lg ya yb wa wb o v ct ya ln  H.size) tw_489 tw_486 tw_488 tw_2 tw_65 hdX9_ruleOf rfl ⟨rfl, rfl, Nat.le_of_ble_eq_true rfl, Nat.le_of_ble_eq_true rfl, Nat.le_of_ble_eq_true rfl, Nat.le_of_ble_eq_true rfl⟩ rfl rfl (q0 := 0) rfl [0, 1] [2, 3, 4, 5, 6, 7, 8, 9, 10, 11, 12, 13, 14, 15, 16, 17, 18, 19, 20, 21, 22, 23, 24, 25, 26, 27, 28, 29, 30, 31, 32, 33] rfl rfl (by decide) rfl (Nat.le_of_ble_eq_true rfl) dX9_prove_5 (fun u H locs hq hP hD hS => ?_)
  refine W.eq (g2 := F0 mm 8 ls [.ref (v 0)]) rfl ?_
  have hP : va_P D vwCl [(wa 0, oW wa 1 0 0 false), (wa 1, oR (wa 2) len), (wa 2, aZ ta 32 ge), (wa 3, oR (wa 4) len), (wa 4, aZ ta 32 gm), (wa 15, oR (wa 16) 16), (wa 16, aZ ta 16 gh), (wa 19, oR (wa 20) nc), (wa 20, aZ ta 204 gc), (wa 11, oR (wa 12) 8), (wa 12, aZ ta 8 gcp), (wa 17, oR (wa 18) nbc), (wa 18, aZ ta 8 gbc), (lg 5, oR (lg 6) nl), (lg 6, aZ ta 300 gl), (v 0, oV v), (v 1, oR (v 2) nt), (v 2, aZ ta 528 gt), (v 3, oR (v 4) nd), (v 4, aZ ta 300 gd), (v 7, oR (v 8) nv), (v 8, aZ ta 16 gv), (v 9, oR (v 10) 16), (v 10, aZ ta 16 gz), (v 11, oA (v 12) (v 13) (v 14) (v 15) (v 16) (v 17) rd), (v 12, aZ ta 16 ab), (v 13, aZ ta 16 af), (v 14, aZ ta 256 UBOX), (v 15, aI ta 64 kw), (v 16, aI ta 4 sw), (v 17, aI ta 4 xw), (v 18, aZ ta 16 tn), (lg 0, oG lg ya yb wa wb o v ct), (ya 0, oK ya 3 ln)] H := hP
  have hD : va_D A [(wa 0, oW wa 1 0 0 false), (wa 1, oR (wa 2) len), (wa 2, aZ ta 32 ge), (wa 3, oR (wa 4) len), (wa 4, aZ ta 32 gm), (wa 15, oR (wa 16) 16), (wa 16, aZ ta 16 gh), (wa 19, oR (wa 20) nc), (wa 20, aZ ta 204 gc), (wa 11, oR (wa 12) 8), (wa 12, aZ ta 8 gcp), (wa 17, oR (wa 18) nbc), (wa 18, aZ ta 8 gbc), (lg 5, oR (lg 6) nl), (lg 6, aZ ta 300 gl), (v 0, oV v), (v 1, oR (v 2) nt), (v 2, aZ ta 528 gt), (v 3, oR (v 4) nd), (v 4, aZ ta 300 gd), (v 7, oR (v 8) nv), (v 8, aZ ta 16 gv), (v 9, oR (v 10) 16), (v 10, aZ ta 16 gz), (v 11, oA (v 12) (v 13) (v 14) (v 15) (v 16) (v 17) rd), (v 12, aZ ta 16 ab), (v 13, aZ ta 16 af), (v 14, aZ ta 256 UBOX), (v 15, aI ta 64 kw), (v 16, aI ta 4 sw), (v 17, aI ta 4 xw), (v 18, aZ ta 16 tn), (lg 0, oG lg ya yb wa wb o v ct), (ya 0, oK ya 3 ln)] := hD
  refine lv_astore_n (pc := 8) (lv' := [(2, .ref (v 0)), (0, .ref (lg 0)), (1, .int (nI l))]) hx hb dX9_prove_8 rfl hl (by decide) rfl (fun ls hl => ?_)
  refine lv_aload_n (pc := 9) hx hb dX9_prove_9 rfl (lv_at hl 1 rfl) ?_
  refine va_get (pc := 10) (D := D) (ci := 7) (v := .ref (wa 0)) (C := RX9) (T := TX9) (N := 11) hx hb hts iu9 hown hK hP 32 rfl rfl 6 (by decide) (hts _ tw_358) (fun _ h9 => h9) rfl dX9_prove_10 ?_
  refine va_getN (pc := 13) (D := D) (ci := 6) (v := .int (nI 1)) (C := RX8) (T := TX8) (N := 14) hx hb hts iu8 hown hK hP 0 rfl rfl 0 (by decide) (va_Nw.use rfl (GC_w140 hG)) (fun _ h9 => h9) rfl dX9_prove_13 ?_
  refine lv_iconst (pc := 16) (v := nI 1) hx hb dX9_prove_16 (by decide +kernel) ?_
  refine lv_icmp_ne (pc := 17) (tgt := 28) hx hb dX9_prove_17 (by decide) (fun c_1 => absurd (by decide) c_1) (fun _ => ?_)
  refine lv_aload_n (pc := 20) hx hb dX9_prove_20 rfl (lv_at hl 0 rfl) ?_
  refine lv_iload_n (pc := 21) hx hb dX9_prove_21 rfl (lv_at hl 2 rfl) ?_
  refine cs_U (pc := 22) (idx := 142) (n := 1) (wr := [(wa 0, oW wa 1 0 0 false), (wa 1, oR (wa 2) len), (wa 2, aZ ta 32 ge), (wa 3, oR (wa 4) len), (wa 4, aZ ta 32 gm), (wa 15, oR (wa 16) 16), (wa 16, aZ ta 16 gh), (wa 19, oR (wa 20) nc), (wa 20, aZ ta 204 gc), (wa 11, oR (wa 12) 8), (wa 12, aZ ta 8 gcp), (wa 17, oR (wa 18) nbc), (wa 18, aZ ta 8 gbc), (lg 5, oR (lg 6) nl), (lg 6, aZ ta 300 gl), (v 1, oR (v 2) nt), (v 2, aZ ta 528 gt), (v 3, oR (v 4) nd), (v 4, aZ ta 300 gd), (v 7, oR (v 8) nv), (v 8, aZ ta 16 gv), (v 9, oR (v 10) 16), (v 10, aZ ta 16 gz), (v 11, oA (v 12) (v 13) (v 14) (v 15) (v 16) (v 17) rd), (v 12, aZ ta 16 ab), (v 13, aZ ta 16 af), (v 14, aZ ta 256 UBOX), (v 15, aI ta 64 kw), (v 16, aI ta 4 sw), (v 17, aI ta 4 xw), (v 18, aZ ta 16 tn), (lg 0, oG lg ya yb wa wb o v ct), (ya 0, oK ya 3 ln)]) (As := [.int (nI l)]) (rest := []) (ci := 3) (x := ⟨"LineGuard$Rule", "hasLevel", "(I)Z"⟩) (owner := "LineGuard$Rule") hx hb hml hown hts hGok hK hA hG hl.1 hP hD hS (ct_X7_hasLevel_N ll D ta gs v (nI l)  H.size) tw_698 tw_693 tw_694 tw_696 tw_69 tw_695 (va_Decl.of (hts _ tw_694) (hts _ tw_698)) ⟨by decide +kernel, by decide +kernel, by decide +kernel⟩ rfl ⟨rfl, rfl, Nat.le_of_ble_eq_true rfl, Nat.le_of_ble_eq_true rfl, Nat.le_of_ble_eq_true rfl, Nat.le_of_ble_eq_true rfl⟩ rfl (q0 := 15) rfl [15] [0, 1, 2, 3, 4, 5, 6, 7, 8, 9, 10, 11, 12, 13, 14, 16, 17, 18, 19, 20, 21, 22, 23, 24, 25, 26, 27, 28, 29, 30, 31, 32, 33] rfl rfl (by decide) rfl (Nat.le_of_ble_eq_true rfl) dX9_prove_22 (fun u H locs hq hP hD hS => ?_)
  generalize u = z_22 at hq hP hD ⊢
  have hq : (z_22 = levB (nI l) true) := hq
  have hz_22 := hq
  refine W.eq (g2 := F0 mm 25 ls [.int (qb z_22)]) rfl ?_
  have hP : va_P D vwCl [(wa 0, oW wa 1 0 0 false), (wa 1, oR (wa 2) len), (wa 2, aZ ta 32 ge), (wa 3, oR (wa 4) len), (wa 4, aZ ta 32 gm), (wa 15, oR (wa 16) 16), (wa 16, aZ ta 16 gh), (wa 19, oR (wa 20) nc), (wa 20, aZ ta 204 gc), (wa 11, oR (wa 12) 8), (wa 12, aZ ta 8 gcp), (wa 17, oR (wa 18) nbc), (wa 18, aZ ta 8 gbc), (lg 5, oR (lg 6) nl), (lg 6, aZ ta 300 gl), (v 1, oR (v 2) nt), (v 2, aZ ta 528 gt), (v 3, oR (v 4) nd), (v 4, aZ ta 300 gd), (v 7, oR (v 8) nv), (v 8, aZ ta 16 gv), (v 9, oR (v 10) 16), (v 10, aZ ta 16 gz), (v 11, oA (v 12) (v 13) (v 14) (v 15) (v 16) (v 17) rd), (v 12, aZ ta 16 ab), (v 13, aZ ta 16 af), (v 14, aZ ta 256 UBOX), (v 15, aI ta 64 kw), (v 16, aI ta 4 sw), (v 17, aI ta 4 xw), (v 18, aZ ta 16 tn), (lg 0, oG lg ya yb wa wb o v ct), (ya 0, oK ya 3 ln), (v 0, oV v)] H := hP
  have hD : va_D A [(wa 0, oW wa 1 0 0 false), (wa 1, oR (wa 2) len), (wa 2, aZ ta 32 ge), (wa 3, oR (wa 4) len), (wa 4, aZ ta 32 gm), (wa 15, oR (wa 16) 16), (wa 16, aZ ta 16 gh), (wa 19, oR (wa 20) nc), (wa 20, aZ ta 204 gc), (wa 11, oR (wa 12) 8), (wa 12, aZ ta 8 gcp), (wa 17, oR (wa 18) nbc), (wa 18, aZ ta 8 gbc), (lg 5, oR (lg 6) nl), (lg 6, aZ ta 300 gl), (v 1, oR (v 2) nt), (v 2, aZ ta 528 gt), (v 3, oR (v 4) nd), (v 4, aZ ta 300 gd), (v 7, oR (v 8) nv), (v 8, aZ ta 16 gv), (v 9, oR (v 10) 16), (v 10, aZ ta 16 gz), (v 11, oA (v 12) (v 13) (v 14) (v 15) (v 16) (v 17) rd), (v 12, aZ ta 16 ab), (v 13, aZ ta 16 af), (v 14, aZ ta 256 UBOX), (v 15, aI ta 64 kw), (v 16, aI ta 4 sw), (v 17, aI ta 4 xw), (v 18, aZ ta 16 tn), (lg 0, oG lg ya yb wa wb o v ct), (ya 0, oK ya 3 ln), (v 0, oV v)] := hD
  refine lv_if_ne (pc := 25) (tgt := 30) hx hb dX9_prove_25 (by decide) (fun c_2 => ?_) (fun c_2 => ?_)
  · skip
    rw [q_beq] at c_2
    try rw [Bool.not_eq_false] at c_2
    refine lv_aload_n (pc := 30) hx hb dX9_prove_30 rfl (lv_at hl 1 rfl) ?_
    refine va_get (pc := 31) (D := D) (ci := 7) (v := .ref (wa 0)) (C := RX9) (T := TX9) (N := 11) hx hb hts iu9 hown hK hP 31 rfl rfl 6 (by decide) (hts _ tw_358) (fun _ h9 => h9) rfl dX9_prove_31 ?_
    refine va_getN (pc := 34) (D := D) (ci := 6) (v := .ref (wa 19)) (C := RX8) (T := TX8) (N := 14) hx hb hts iu8 hown hK hP 0 rfl rfl 11 (by decide) (va_Nw.use rfl (GC_w177 hG)) (fun _ h9 => h9) rfl dX9_prove_34 ?_
    refine cs_V (pc := 37) (idx := 88) (n := 0) (wr := [(wa 0, oW wa 1 0 0 false), (wa 1, oR (wa 2) len), (wa 2, aZ ta 32 ge), (wa 3, oR (wa 4) len), (wa 4, aZ ta 32 gm), (wa 15, oR (wa 16) 16), (wa 16, aZ ta 16 gh), (wa 11, oR (wa 12) 8), (wa 12, aZ ta 8 gcp), (wa 17, oR (wa 18) nbc), (wa 18, aZ ta 8 gbc), (lg 5, oR (lg 6) nl), (lg 6, aZ ta 300 gl), (v 1, oR (v 2) nt), (v 2, aZ ta 528 gt), (v 3, oR (v 4) nd), (v 4, aZ ta 300 gd), (v 7, oR (v 8) nv), (v 8, aZ ta 16 gv), (v 9, oR (v 10) 16), (v 10, aZ ta 16 gz), (v 11, oA (v 12) (v 13) (v 14) (v 15) (v 16) (v 17) rd), (v 12, aZ ta 16 ab), (v 13, aZ ta 16 af), (v 14, aZ ta 256 UBOX), (v 15, aI ta 64 kw), (v 16, aI ta 4 sw), (v 17, aI ta 4 xw), (v 18, aZ ta 16 tn), (lg 0, oG lg ya yb wa wb o v ct), (ya 0, oK ya 3 ln), (v 0, oV v)]) (As := []) (rest := []) (ci := 5) hx hb hml hown hts hGok hK hA hG hl.1 hP hD hS (ct_X6_clear ll D ta hGok (wa 19) (wa 20) 204 gc nc  H.size) tw_441 tw_447 tw_439 tw_440 tw_66 hdX6_clear rfl ⟨rfl, rfl, Nat.le_of_ble_eq_true rfl, Nat.le_of_ble_eq_true rfl, Nat.le_of_ble_eq_true rfl, Nat.le_of_ble_eq_true rfl⟩ rfl rfl (q0 := 7) rfl [7, 8] [0, 1, 2, 3, 4, 5, 6, 9, 10, 11, 12, 13, 14, 15, 16, 17, 18, 19, 20, 21, 22, 23, 24, 25, 26, 27, 28, 29, 30, 31, 32, 33] rfl rfl (by decide) rfl (Nat.le_of_ble_eq_true rfl) dX9_prove_37 (fun u H locs hq hP hD hS => ?_)
    refine W.eq (g2 := F0 mm 40 ls []) rfl ?_
    have hP : va_P D vwCl [(wa 0, oW wa 1 0 0 false), (wa 1, oR (wa 2) len), (wa 2, aZ ta 32 ge), (wa 3, oR (wa 4) len), (wa 4, aZ ta 32 gm), (wa 15, oR (wa 16) 16), (wa 16, aZ ta 16 gh), (wa 11, oR (wa 12) 8), (wa 12, aZ ta 8 gcp), (wa 17, oR (wa 18) nbc), (wa 18, aZ ta 8 gbc), (lg 5, oR (lg 6) nl), (lg 6, aZ ta 300 gl), (v 1, oR (v 2) nt), (v 2, aZ ta 528 gt), (v 3, oR (v 4) nd), (v 4, aZ ta 300 gd), (v 7, oR (v 8) nv), (v 8, aZ ta 16 gv), (v 9, oR (v 10) 16), (v 10, aZ ta 16 gz), (v 11, oA (v 12) (v 13) (v 14) (v 15) (v 16) (v 17) rd), (v 12, aZ ta 16 ab), (v 13, aZ ta 16 af), (v 14, aZ ta 256 UBOX), (v 15, aI ta 64 kw), (v 16, aI ta 4 sw), (v 17, aI ta 4 xw), (v 18, aZ ta 16 tn), (lg 0, oG lg ya yb wa wb o v ct), (ya 0, oK ya 3 ln), (v 0, oV v), (wa 19, oR (wa 20) 0), (wa 20, aZ ta 204 gc)] H := hP
    have hD : va_D A [(wa 0, oW wa 1 0 0 false), (wa 1, oR (wa 2) len), (wa 2, aZ ta 32 ge), (wa 3, oR (wa 4) len), (wa 4, aZ ta 32 gm), (wa 15, oR (wa 16) 16), (wa 16, aZ ta 16 gh), (wa 11, oR (wa 12) 8), (wa 12, aZ ta 8 gcp), (wa 17, oR (wa 18) nbc), (wa 18, aZ ta 8 gbc), (lg 5, oR (lg 6) nl), (lg 6, aZ ta 300 gl), (v 1, oR (v 2) nt), (v 2, aZ ta 528 gt), (v 3, oR (v 4) nd), (v 4, aZ ta 300 gd), (v 7, oR (v 8) nv), (v 8, aZ ta 16 gv), (v 9, oR (v 10) 16), (v 10, aZ ta 16 gz), (v 11, oA (v 12) (v 13) (v 14) (v 15) (v 16) (v 17) rd), (v 12, aZ ta 16 ab), (v 13, aZ ta 16 af), (v 14, aZ ta 256 UBOX), (v 15, aI ta 64 kw), (v 16, aI ta 4 sw), (v 17, aI ta 4 xw), (v 18, aZ ta 16 tn), (lg 0, oG lg ya yb wa wb o v ct), (ya 0, oK ya 3 ln), (v 0, oV v), (wa 19, oR (wa 20) 0), (wa 20, aZ ta 204 gc)] := hD
    refine lv_aload_n (pc := 40) hx hb dX9_prove_40 rfl (lv_at hl 1 rfl) ?_
    refine va_get (pc := 41) (D := D) (ci := 7) (v := .ref (wa 0)) (C := RX9) (T := TX9) (N := 11) hx hb hts iu9 hown hK hP 29 rfl rfl 6 (by decide) (hts _ tw_358) (fun _ h9 => h9) rfl dX9_prove_41 ?_
    refine va_getN (pc := 44) (D := D) (ci := 6) (v := .ref (wa 19)) (C := RX8) (T := TX8) (N := 14) hx hb hts iu8 hown hK hP 0 rfl rfl 11 (by decide) (va_Nw.use rfl (GC_w177 hG)) (fun _ h9 => h9) rfl dX9_prove_44 ?_
    refine lv_sipush (pc := 47) (v := nI 132) hx hb dX9_prove_47 (by decide +kernel) ?_
    refine cs_V (pc := 50) (idx := 148) (n := 1) (wr := [(wa 0, oW wa 1 0 0 false), (wa 1, oR (wa 2) len), (wa 2, aZ ta 32 ge), (wa 3, oR (wa 4) len), (wa 4, aZ ta 32 gm), (wa 15, oR (wa 16) 16), (wa 16, aZ ta 16 gh), (wa 11, oR (wa 12) 8), (wa 12, aZ ta 8 gcp), (wa 17, oR (wa 18) nbc), (wa 18, aZ ta 8 gbc), (lg 5, oR (lg 6) nl), (lg 6, aZ ta 300 gl), (v 1, oR (v 2) nt), (v 2, aZ ta 528 gt), (v 3, oR (v 4) nd), (v 4, aZ ta 300 gd), (v 7, oR (v 8) nv), (v 8, aZ ta 16 gv), (v 9, oR (v 10) 16), (v 10, aZ ta 16 gz), (v 11, oA (v 12) (v 13) (v 14) (v 15) (v 16) (v 17) rd), (v 12, aZ ta 16 ab), (v 13, aZ ta 16 af), (v 14, aZ ta 256 UBOX), (v 15, aI ta 64 kw), (v 16, aI ta 4 sw), (v 17, aI ta 4 xw), (v 18, aZ ta 16 tn), (lg 0, oG lg ya yb wa wb o v ct), (ya 0, oK ya 3 ln), (v 0, oV v)]) (As := [.int (nI 132)]) (rest := []) (ci := 5) hx hb hml hown hts hGok hK hA hG hl.1 hP hD hS (ct_X6_add ll D ta hGok (wa 19) (wa 20) 204 gc 0 (nI 132) (by first | assumption | omega | rfl | decide) (by first | assumption | omega | rfl | decide) H.size) tw_231 tw_708 tw_229 tw_230 tw_66 hdX6_add rfl ⟨rfl, rfl, Nat.le_of_ble_eq_true rfl, Nat.le_of_ble_eq_true rfl, Nat.le_of_ble_eq_true rfl, Nat.le_of_ble_eq_true rfl⟩ rfl rfl (q0 := 32) rfl [32, 33] [0, 1, 2, 3, 4, 5, 6, 7, 8, 9, 10, 11, 12, 13, 14, 15, 16, 17, 18, 19, 20, 21, 22, 23, 24, 25, 26, 27, 28, 29, 30, 31] rfl rfl (by decide) rfl (Nat.le_of_ble_eq_true rfl) dX9_prove_50 (fun u H locs hq hP hD hS => ?_)
    generalize u = g1_50 at hq hP hD ⊢
    have hq : (qL g1_50 (0 + 1) = qL gc 0 ++ [qlo (nI 132)]) := hq
    have hL_50 := hq
    refine W.eq (g2 := F0 mm 53 ls []) rfl ?_
    have hP : va_P D vwCl [(wa 0, oW wa 1 0 0 false), (wa 1, oR (wa 2) len), (wa 2, aZ ta 32 ge), (wa 3, oR (wa 4) len), (wa 4, aZ ta 32 gm), (wa 15, oR (wa 16) 16), (wa 16, aZ ta 16 gh), (wa 11, oR (wa 12) 8), (wa 12, aZ ta 8 gcp), (wa 17, oR (wa 18) nbc), (wa 18, aZ ta 8 gbc), (lg 5, oR (lg 6) nl), (lg 6, aZ ta 300 gl), (v 1, oR (v 2) nt), (v 2, aZ ta 528 gt), (v 3, oR (v 4) nd), (v 4, aZ ta 300 gd), (v 7, oR (v 8) nv), (v 8, aZ ta 16 gv), (v 9, oR (v 10) 16), (v 10, aZ ta 16 gz), (v 11, oA (v 12) (v 13) (v 14) (v 15) (v 16) (v 17) rd), (v 12, aZ ta 16 ab), (v 13, aZ ta 16 af), (v 14, aZ ta 256 UBOX), (v 15, aI ta 64 kw), (v 16, aI ta 4 sw), (v 17, aI ta 4 xw), (v 18, aZ ta 16 tn), (lg 0, oG lg ya yb wa wb o v ct), (ya 0, oK ya 3 ln), (v 0, oV v), (wa 19, oR (wa 20) (0 + 1)), (wa 20, aZ ta 204 g1_50)] H := hP
    have hD : va_D A [(wa 0, oW wa 1 0 0 false), (wa 1, oR (wa 2) len), (wa 2, aZ ta 32 ge), (wa 3, oR (wa 4) len), (wa 4, aZ ta 32 gm), (wa 15, oR (wa 16) 16), (wa 16, aZ ta 16 gh), (wa 11, oR (wa 12) 8), (wa 12, aZ ta 8 gcp), (wa 17, oR (wa 18) nbc), (wa 18, aZ ta 8 gbc), (lg 5, oR (lg 6) nl), (lg 6, aZ ta 300 gl), (v 1, oR (v 2) nt), (v 2, aZ ta 528 gt), (v 3, oR (v 4) nd), (v 4, aZ ta 300 gd), (v 7, oR (v 8) nv), (v 8, aZ ta 16 gv), (v 9, oR (v 10) 16), (v 10, aZ ta 16 gz), (v 11, oA (v 12) (v 13) (v 14) (v 15) (v 16) (v 17) rd), (v 12, aZ ta 16 ab), (v 13, aZ ta 16 af), (v 14, aZ ta 256 UBOX), (v 15, aI ta 64 kw), (v 16, aI ta 4 sw), (v 17, aI ta 4 xw), (v 18, aZ ta 16 tn), (lg 0, oG lg ya yb wa wb o v ct), (ya 0, oK ya 3 ln), (v 0, oV v), (wa 19, oR (wa 20) (0 + 1)), (wa 20, aZ ta 204 g1_50)] := hD
    refine lv_aload_n (pc := 53) hx hb dX9_prove_53 rfl (lv_at hl 1 rfl) ?_
    refine va_get (pc := 54) (D := D) (ci := 7) (v := .ref (wa 0)) (C := RX9) (T := TX9) (N := 11) hx hb hts iu9 hown hK hP 29 rfl rfl 6 (by decide) (hts _ tw_358) (fun _ h9 => h9) rfl dX9_prove_54 ?_
    refine va_getN (pc := 57) (D := D) (ci := 6) (v := .ref (wa 19)) (C := RX8) (T := TX8) (N := 14) hx hb hts iu8 hown hK hP 0 rfl rfl 11 (by decide) (va_Nw.use rfl (GC_w177 hG)) (fun _ h9 => h9) rfl dX9_prove_57 ?_
    refine lv_sipush (pc := 60) (v := nI 130) hx hb dX9_prove_60 (by decide +kernel) ?_
    refine cs_V (pc := 63) (idx := 148) (n := 1) (wr := [(wa 0, oW wa 1 0 0 false), (wa 1, oR (wa 2) len), (wa 2, aZ ta 32 ge), (wa 3, oR (wa 4) len), (wa 4, aZ ta 32 gm), (wa 15, oR (wa 16) 16), (wa 16, aZ ta 16 gh), (wa 11, oR (wa 12) 8), (wa 12, aZ ta 8 gcp), (wa 17, oR (wa 18) nbc), (wa 18, aZ ta 8 gbc), (lg 5, oR (lg 6) nl), (lg 6, aZ ta 300 gl), (v 1, oR (v 2) nt), (v 2, aZ ta 528 gt), (v 3, oR (v 4) nd), (v 4, aZ ta 300 gd), (v 7, oR (v 8) nv), (v 8, aZ ta 16 gv), (v 9, oR (v 10) 16), (v 10, aZ ta 16 gz), (v 11, oA (v 12) (v 13) (v 14) (v 15) (v 16) (v 17) rd), (v 12, aZ ta 16 ab), (v 13, aZ ta 16 af), (v 14, aZ ta 256 UBOX), (v 15, aI ta 64 kw), (v 16, aI ta 4 sw), (v 17, aI ta 4 xw), (v 18, aZ ta 16 tn), (lg 0, oG lg ya yb wa wb o v ct), (ya 0, oK ya 3 ln), (v 0, oV v)]) (As := [.int (nI 130)]) (rest := []) (ci := 5) hx hb hml hown hts hGok hK hA hG hl.1 hP hD hS (ct_X6_add ll D ta hGok (wa 19) (wa 20) 204 g1_50 (0 + 1) (nI 130) (by first | assumption | omega | rfl | decide) (by first | assumption | omega | rfl | decide) H.size) tw_231 tw_708 tw_229 tw_230 tw_66 hdX6_add rfl ⟨rfl, rfl, Nat.le_of_ble_eq_true rfl, Nat.le_of_ble_eq_true rfl, Nat.le_of_ble_eq_true rfl, Nat.le_of_ble_eq_true rfl⟩ rfl rfl (q0 := 32) rfl [32, 33] [0, 1, 2, 3, 4, 5, 6, 7, 8, 9, 10, 11, 12, 13, 14, 15, 16, 17, 18, 19, 20, 21, 22, 23, 24, 25, 26, 27, 28, 29, 30, 31] rfl rfl (by decide) rfl (Nat.le_of_ble_eq_true rfl) dX9_prove_63 (fun u H locs hq hP hD hS => ?_)
    generalize u = g1_63 at hq hP hD ⊢
    have hq : (qL g1_63 ((0 + 1) + 1) = qL g1_50 (0 + 1) ++ [qlo (nI 130)]) := hq
    have hL_63 := hq
    refine W.eq (g2 := F0 mm 66 ls []) rfl ?_
    have hP : va_P D vwCl [(wa 0, oW wa 1 0 0 false), (wa 1, oR (wa 2) len), (wa 2, aZ ta 32 ge), (wa 3, oR (wa 4) len), (wa 4, aZ ta 32 gm), (wa 15, oR (wa 16) 16), (wa 16, aZ ta 16 gh), (wa 11, oR (wa 12) 8), (wa 12, aZ ta 8 gcp), (wa 17, oR (wa 18) nbc), (wa 18, aZ ta 8 gbc), (lg 5, oR (lg 6) nl), (lg 6, aZ ta 300 gl), (v 1, oR (v 2) nt), (v 2, aZ ta 528 gt), (v 3, oR (v 4) nd), (v 4, aZ ta 300 gd), (v 7, oR (v 8) nv), (v 8, aZ ta 16 gv), (v 9, oR (v 10) 16), (v 10, aZ ta 16 gz), (v 11, oA (v 12) (v 13) (v 14) (v 15) (v 16) (v 17) rd), (v 12, aZ ta 16 ab), (v 13, aZ ta 16 af), (v 14, aZ ta 256 UBOX), (v 15, aI ta 64 kw), (v 16, aI ta 4 sw), (v 17, aI ta 4 xw), (v 18, aZ ta 16 tn), (lg 0, oG lg ya yb wa wb o v ct), (ya 0, oK ya 3 ln), (v 0, oV v), (wa 19, oR (wa 20) ((0 + 1) + 1)), (wa 20, aZ ta 204 g1_63)] H := hP
    have hD : va_D A [(wa 0, oW wa 1 0 0 false), (wa 1, oR (wa 2) len), (wa 2, aZ ta 32 ge), (wa 3, oR (wa 4) len), (wa 4, aZ ta 32 gm), (wa 15, oR (wa 16) 16), (wa 16, aZ ta 16 gh), (wa 11, oR (wa 12) 8), (wa 12, aZ ta 8 gcp), (wa 17, oR (wa 18) nbc), (wa 18, aZ ta 8 gbc), (lg 5, oR (lg 6) nl), (lg 6, aZ ta 300 gl), (v 1, oR (v 2) nt), (v 2, aZ ta 528 gt), (v 3, oR (v 4) nd), (v 4, aZ ta 300 gd), (v 7, oR (v 8) nv), (v 8, aZ ta 16 gv), (v 9, oR (v 10) 16), (v 10, aZ ta 16 gz), (v 11, oA (v 12) (v 13) (v 14) (v 15) (v 16) (v 17) rd), (v 12, aZ ta 16 ab), (v 13, aZ ta 16 af), (v 14, aZ ta 256 UBOX), (v 15, aI ta 64 kw), (v 16, aI ta 4 sw), (v 17, aI ta 4 xw), (v 18, aZ ta 16 tn), (lg 0, oG lg ya yb wa wb o v ct), (ya 0, oK ya 3 ln), (v 0, oV v), (wa 19, oR (wa 20) ((0 + 1) + 1)), (wa 20, aZ ta 204 g1_63)] := hD
    refine lv_aload_n (pc := 66) hx hb dX9_prove_66 rfl (lv_at hl 1 rfl) ?_
    refine va_get (pc := 67) (D := D) (ci := 7) (v := .ref (wa 0)) (C := RX9) (T := TX9) (N := 11) hx hb hts iu9 hown hK hP 29 rfl rfl 6 (by decide) (hts _ tw_358) (fun _ h9 => h9) rfl dX9_prove_67 ?_
    refine va_getN (pc := 70) (D := D) (ci := 6) (v := .ref (wa 19)) (C := RX8) (T := TX8) (N := 14) hx hb hts iu8 hown hK hP 0 rfl rfl 11 (by decide) (va_Nw.use rfl (GC_w177 hG)) (fun _ h9 => h9) rfl dX9_prove_70 ?_
    refine lv_iload_n (pc := 73) hx hb dX9_prove_73 rfl (lv_at hl 2 rfl) ?_
    refine cs_V (pc := 74) (idx := 148) (n := 1) (wr := [(wa 0, oW wa 1 0 0 false), (wa 1, oR (wa 2) len), (wa 2, aZ ta 32 ge), (wa 3, oR (wa 4) len), (wa 4, aZ ta 32 gm), (wa 15, oR (wa 16) 16), (wa 16, aZ ta 16 gh), (wa 11, oR (wa 12) 8), (wa 12, aZ ta 8 gcp), (wa 17, oR (wa 18) nbc), (wa 18, aZ ta 8 gbc), (lg 5, oR (lg 6) nl), (lg 6, aZ ta 300 gl), (v 1, oR (v 2) nt), (v 2, aZ ta 528 gt), (v 3, oR (v 4) nd), (v 4, aZ ta 300 gd), (v 7, oR (v 8) nv), (v 8, aZ ta 16 gv), (v 9, oR (v 10) 16), (v 10, aZ ta 16 gz), (v 11, oA (v 12) (v 13) (v 14) (v 15) (v 16) (v 17) rd), (v 12, aZ ta 16 ab), (v 13, aZ ta 16 af), (v 14, aZ ta 256 UBOX), (v 15, aI ta 64 kw), (v 16, aI ta 4 sw), (v 17, aI ta 4 xw), (v 18, aZ ta 16 tn), (lg 0, oG lg ya yb wa wb o v ct), (ya 0, oK ya 3 ln), (v 0, oV v)]) (As := [.int (nI l)]) (rest := []) (ci := 5) hx hb hml hown hts hGok hK hA hG hl.1 hP hD hS (ct_X6_add ll D ta hGok (wa 19) (wa 20) 204 g1_63 ((0 + 1) + 1) (nI l) (by first | assumption | omega | rfl | decide) (by first | assumption | omega | rfl | decide) H.size) tw_231 tw_708 tw_229 tw_230 tw_66 hdX6_add rfl ⟨rfl, rfl, Nat.le_of_ble_eq_true rfl, Nat.le_of_ble_eq_true rfl, Nat.le_of_ble_eq_true rfl, Nat.le_of_ble_eq_true rfl⟩ rfl rfl (q0 := 32) rfl [32, 33] [0, 1, 2, 3, 4, 5, 6, 7, 8, 9, 10, 11, 12, 13, 14, 15, 16, 17, 18, 19, 20, 21, 22, 23, 24, 25, 26, 27, 28, 29, 30, 31] rfl rfl (by decide) rfl (Nat.le_of_ble_eq_true rfl) dX9_prove_74 (fun u H locs hq hP hD hS => ?_)
    generalize u = g1_74 at hq hP hD ⊢
    have hq : (qL g1_74 (((0 + 1) + 1) + 1) = qL g1_63 ((0 + 1) + 1) ++ [qlo (nI l)]) := hq
    have hL_74 := hq
    refine W.eq (g2 := F0 mm 77 ls []) rfl ?_
    have hP : va_P D vwCl [(wa 0, oW wa 1 0 0 false), (wa 1, oR (wa 2) len), (wa 2, aZ ta 32 ge), (wa 3, oR (wa 4) len), (wa 4, aZ ta 32 gm), (wa 15, oR (wa 16) 16), (wa 16, aZ ta 16 gh), (wa 11, oR (wa 12) 8), (wa 12, aZ ta 8 gcp), (wa 17, oR (wa 18) nbc), (wa 18, aZ ta 8 gbc), (lg 5, oR (lg 6) nl), (lg 6, aZ ta 300 gl), (v 1, oR (v 2) nt), (v 2, aZ ta 528 gt), (v 3, oR (v 4) nd), (v 4, aZ ta 300 gd), (v 7, oR (v 8) nv), (v 8, aZ ta 16 gv), (v 9, oR (v 10) 16), (v 10, aZ ta 16 gz), (v 11, oA (v 12) (v 13) (v 14) (v 15) (v 16) (v 17) rd), (v 12, aZ ta 16 ab), (v 13, aZ ta 16 af), (v 14, aZ ta 256 UBOX), (v 15, aI ta 64 kw), (v 16, aI ta 4 sw), (v 17, aI ta 4 xw), (v 18, aZ ta 16 tn), (lg 0, oG lg ya yb wa wb o v ct), (ya 0, oK ya 3 ln), (v 0, oV v), (wa 19, oR (wa 20) (((0 + 1) + 1) + 1)), (wa 20, aZ ta 204 g1_74)] H := hP
    have hD : va_D A [(wa 0, oW wa 1 0 0 false), (wa 1, oR (wa 2) len), (wa 2, aZ ta 32 ge), (wa 3, oR (wa 4) len), (wa 4, aZ ta 32 gm), (wa 15, oR (wa 16) 16), (wa 16, aZ ta 16 gh), (wa 11, oR (wa 12) 8), (wa 12, aZ ta 8 gcp), (wa 17, oR (wa 18) nbc), (wa 18, aZ ta 8 gbc), (lg 5, oR (lg 6) nl), (lg 6, aZ ta 300 gl), (v 1, oR (v 2) nt), (v 2, aZ ta 528 gt), (v 3, oR (v 4) nd), (v 4, aZ ta 300 gd), (v 7, oR (v 8) nv), (v 8, aZ ta 16 gv), (v 9, oR (v 10) 16), (v 10, aZ ta 16 gz), (v 11, oA (v 12) (v 13) (v 14) (v 15) (v 16) (v 17) rd), (v 12, aZ ta 16 ab), (v 13, aZ ta 16 af), (v 14, aZ ta 256 UBOX), (v 15, aI ta 64 kw), (v 16, aI ta 4 sw), (v 17, aI ta 4 xw), (v 18, aZ ta 16 tn), (lg 0, oG lg ya yb wa wb o v ct), (ya 0, oK ya 3 ln), (v 0, oV v), (wa 19, oR (wa 20) (((0 + 1) + 1) + 1)), (wa 20, aZ ta 204 g1_74)] := hD
    refine lv_aload_n (pc := 77) hx hb dX9_prove_77 rfl (lv_at hl 1 rfl) ?_
    refine va_get (pc := 78) (D := D) (ci := 7) (v := .ref (wa 0)) (C := RX9) (T := TX9) (N := 11) hx hb hts iu9 hown hK hP 29 rfl rfl 6 (by decide) (hts _ tw_358) (fun _ h9 => h9) rfl dX9_prove_78 ?_
    refine va_getN (pc := 81) (D := D) (ci := 6) (v := .ref (wa 19)) (C := RX8) (T := TX8) (N := 14) hx hb hts iu8 hown hK hP 0 rfl rfl 11 (by decide) (va_Nw.use rfl (GC_w177 hG)) (fun _ h9 => h9) rfl dX9_prove_81 ?_
    refine lv_iconst (pc := 84) (v := nI 0) hx hb dX9_prove_84 (by decide +kernel) ?_
    refine cs_V (pc := 85) (idx := 148) (n := 1) (wr := [(wa 0, oW wa 1 0 0 false), (wa 1, oR (wa 2) len), (wa 2, aZ ta 32 ge), (wa 3, oR (wa 4) len), (wa 4, aZ ta 32 gm), (wa 15, oR (wa 16) 16), (wa 16, aZ ta 16 gh), (wa 11, oR (wa 12) 8), (wa 12, aZ ta 8 gcp), (wa 17, oR (wa 18) nbc), (wa 18, aZ ta 8 gbc), (lg 5, oR (lg 6) nl), (lg 6, aZ ta 300 gl), (v 1, oR (v 2) nt), (v 2, aZ ta 528 gt), (v 3, oR (v 4) nd), (v 4, aZ ta 300 gd), (v 7, oR (v 8) nv), (v 8, aZ ta 16 gv), (v 9, oR (v 10) 16), (v 10, aZ ta 16 gz), (v 11, oA (v 12) (v 13) (v 14) (v 15) (v 16) (v 17) rd), (v 12, aZ ta 16 ab), (v 13, aZ ta 16 af), (v 14, aZ ta 256 UBOX), (v 15, aI ta 64 kw), (v 16, aI ta 4 sw), (v 17, aI ta 4 xw), (v 18, aZ ta 16 tn), (lg 0, oG lg ya yb wa wb o v ct), (ya 0, oK ya 3 ln), (v 0, oV v)]) (As := [.int (nI 0)]) (rest := []) (ci := 5) hx hb hml hown hts hGok hK hA hG hl.1 hP hD hS (ct_X6_add ll D ta hGok (wa 19) (wa 20) 204 g1_74 (((0 + 1) + 1) + 1) (nI 0) (by first | assumption | omega | rfl | decide) (by first | assumption | omega | rfl | decide) H.size) tw_231 tw_708 tw_229 tw_230 tw_66 hdX6_add rfl ⟨rfl, rfl, Nat.le_of_ble_eq_true rfl, Nat.le_of_ble_eq_true rfl, Nat.le_of_ble_eq_true rfl, Nat.le_of_ble_eq_true rfl⟩ rfl rfl (q0 := 32) rfl [32, 33] [0, 1, 2, 3, 4, 5, 6, 7, 8, 9, 10, 11, 12, 13, 14, 15, 16, 17, 18, 19, 20, 21, 22, 23, 24, 25, 26, 27, 28, 29, 30, 31] rfl rfl (by decide) rfl (Nat.le_of_ble_eq_true rfl) dX9_prove_85 (fun u H locs hq hP hD hS => ?_)
    generalize u = g1_85 at hq hP hD ⊢
    have hq : (qL g1_85 ((((0 + 1) + 1) + 1) + 1) = qL g1_74 (((0 + 1) + 1) + 1) ++ [qlo (nI 0)]) := hq
    have hL_85 := hq
    refine W.eq (g2 := F0 mm 88 ls []) rfl ?_
    have hP : va_P D vwCl [(wa 0, oW wa 1 0 0 false), (wa 1, oR (wa 2) len), (wa 2, aZ ta 32 ge), (wa 3, oR (wa 4) len), (wa 4, aZ ta 32 gm), (wa 15, oR (wa 16) 16), (wa 16, aZ ta 16 gh), (wa 11, oR (wa 12) 8), (wa 12, aZ ta 8 gcp), (wa 17, oR (wa 18) nbc), (wa 18, aZ ta 8 gbc), (lg 5, oR (lg 6) nl), (lg 6, aZ ta 300 gl), (v 1, oR (v 2) nt), (v 2, aZ ta 528 gt), (v 3, oR (v 4) nd), (v 4, aZ ta 300 gd), (v 7, oR (v 8) nv), (v 8, aZ ta 16 gv), (v 9, oR (v 10) 16), (v 10, aZ ta 16 gz), (v 11, oA (v 12) (v 13) (v 14) (v 15) (v 16) (v 17) rd), (v 12, aZ ta 16 ab), (v 13, aZ ta 16 af), (v 14, aZ ta 256 UBOX), (v 15, aI ta 64 kw), (v 16, aI ta 4 sw), (v 17, aI ta 4 xw), (v 18, aZ ta 16 tn), (lg 0, oG lg ya yb wa wb o v ct), (ya 0, oK ya 3 ln), (v 0, oV v), (wa 19, oR (wa 20) ((((0 + 1) + 1) + 1) + 1)), (wa 20, aZ ta 204 g1_85)] H := hP
    have hD : va_D A [(wa 0, oW wa 1 0 0 false), (wa 1, oR (wa 2) len), (wa 2, aZ ta 32 ge), (wa 3, oR (wa 4) len), (wa 4, aZ ta 32 gm), (wa 15, oR (wa 16) 16), (wa 16, aZ ta 16 gh), (wa 11, oR (wa 12) 8), (wa 12, aZ ta 8 gcp), (wa 17, oR (wa 18) nbc), (wa 18, aZ ta 8 gbc), (lg 5, oR (lg 6) nl), (lg 6, aZ ta 300 gl), (v 1, oR (v 2) nt), (v 2, aZ ta 528 gt), (v 3, oR (v 4) nd), (v 4, aZ ta 300 gd), (v 7, oR (v 8) nv), (v 8, aZ ta 16 gv), (v 9, oR (v 10) 16), (v 10, aZ ta 16 gz), (v 11, oA (v 12) (v 13) (v 14) (v 15) (v 16) (v 17) rd), (v 12, aZ ta 16 ab), (v 13, aZ ta 16 af), (v 14, aZ ta 256 UBOX), (v 15, aI ta 64 kw), (v 16, aI ta 4 sw), (v 17, aI ta 4 xw), (v 18, aZ ta 16 tn), (lg 0, oG lg ya yb wa wb o v ct), (ya 0, oK ya 3 ln), (v 0, oV v), (wa 19, oR (wa 20) ((((0 + 1) + 1) + 1) + 1)), (wa 20, aZ ta 204 g1_85)] := hD
    refine lv_aload_n (pc := 88) hx hb dX9_prove_88 rfl (lv_at hl 1 rfl) ?_
    refine va_get (pc := 89) (D := D) (ci := 7) (v := .ref (wa 0)) (C := RX9) (T := TX9) (N := 11) hx hb hts iu9 hown hK hP 29 rfl rfl 6 (by decide) (hts _ tw_358) (fun _ h9 => h9) rfl dX9_prove_89 ?_
    refine va_getN (pc := 92) (D := D) (ci := 6) (v := .ref (wa 19)) (C := RX8) (T := TX8) (N := 14) hx hb hts iu8 hown hK hP 0 rfl rfl 11 (by decide) (va_Nw.use rfl (GC_w177 hG)) (fun _ h9 => h9) rfl dX9_prove_92 ?_
    refine lv_aload_n (pc := 95) hx hb dX9_prove_95 rfl (lv_at hl 1 rfl) ?_
    refine va_get (pc := 96) (D := D) (ci := 7) (v := .ref (wa 0)) (C := RX9) (T := TX9) (N := 11) hx hb hts iu9 hown hK hP 29 rfl rfl 6 (by decide) (hts _ tw_358) (fun _ h9 => h9) rfl dX9_prove_96 ?_
    refine va_getN (pc := 99) (D := D) (ci := 6) (v := .ref (wa 11)) (C := RX8) (T := TX8) (N := 14) hx hb hts iu8 hown hK hP 0 rfl rfl 7 (by decide) (va_Nw.use rfl (GC_w164 hG)) (fun _ h9 => h9) rfl dX9_prove_99 ?_
    refine cs_V (pc := 102) (idx := 154) (n := 1) (wr := [(wa 0, oW wa 1 0 0 false), (wa 1, oR (wa 2) len), (wa 2, aZ ta 32 ge), (wa 3, oR (wa 4) len), (wa 4, aZ ta 32 gm), (wa 15, oR (wa 16) 16), (wa 16, aZ ta 16 gh), (wa 17, oR (wa 18) nbc), (wa 18, aZ ta 8 gbc), (lg 5, oR (lg 6) nl), (lg 6, aZ ta 300 gl), (v 1, oR (v 2) nt), (v 2, aZ ta 528 gt), (v 3, oR (v 4) nd), (v 4, aZ ta 300 gd), (v 7, oR (v 8) nv), (v 8, aZ ta 16 gv), (v 9, oR (v 10) 16), (v 10, aZ ta 16 gz), (v 11, oA (v 12) (v 13) (v 14) (v 15) (v 16) (v 17) rd), (v 12, aZ ta 16 ab), (v 13, aZ ta 16 af), (v 14, aZ ta 256 UBOX), (v 15, aI ta 64 kw), (v 16, aI ta 4 sw), (v 17, aI ta 4 xw), (v 18, aZ ta 16 tn), (lg 0, oG lg ya yb wa wb o v ct), (ya 0, oK ya 3 ln), (v 0, oV v)]) (As := [.ref (wa 11)]) (rest := []) (ci := 5) hx hb hml hown hts hGok hK hA hG hl.1 hP hD hS (ct_X6_addAll ll D ta hGok (wa 19) (wa 20) 204 g1_85 ((((0 + 1) + 1) + 1) + 1) (wa 11) (wa 12) 8 gcp 8 (by first | assumption | omega | rfl | decide) (by first | assumption | omega | rfl | decide) (by first | assumption | omega | rfl | decide) (by first | assumption | omega | rfl | decide) H.size) tw_501 tw_709 tw_499 tw_500 tw_66 hdX6_addAll rfl ⟨rfl, rfl, Nat.le_of_ble_eq_true rfl, Nat.le_of_ble_eq_true rfl, Nat.le_of_ble_eq_true rfl, Nat.le_of_ble_eq_true rfl⟩ rfl rfl (q0 := 32) rfl [32, 33, 7, 8] [0, 1, 2, 3, 4, 5, 6, 9, 10, 11, 12, 13, 14, 15, 16, 17, 18, 19, 20, 21, 22, 23, 24, 25, 26, 27, 28, 29, 30, 31] rfl rfl (by decide) rfl (Nat.le_of_ble_eq_true rfl) dX9_prove_102 (fun u H locs hq hP hD hS => ?_)
    generalize u = g1_102 at hq hP hD ⊢
    have hq : (qL g1_102 (((((0 + 1) + 1) + 1) + 1) + 8) = qL g1_85 ((((0 + 1) + 1) + 1) + 1) ++ qL gcp 8) := hq
    have hL_102 := hq
    refine W.eq (g2 := F0 mm 105 ls []) rfl ?_
    have hP : va_P D vwCl [(wa 0, oW wa 1 0 0 false), (wa 1, oR (wa 2) len), (wa 2, aZ ta 32 ge), (wa 3, oR (wa 4) len), (wa 4, aZ ta 32 gm), (wa 15, oR (wa 16) 16), (wa 16, aZ ta 16 gh), (wa 17, oR (wa 18) nbc), (wa 18, aZ ta 8 gbc), (lg 5, oR (lg 6) nl), (lg 6, aZ ta 300 gl), (v 1, oR (v 2) nt), (v 2, aZ ta 528 gt), (v 3, oR (v 4) nd), (v 4, aZ ta 300 gd), (v 7, oR (v 8) nv), (v 8, aZ ta 16 gv), (v 9, oR (v 10) 16), (v 10, aZ ta 16 gz), (v 11, oA (v 12) (v 13) (v 14) (v 15) (v 16) (v 17) rd), (v 12, aZ ta 16 ab), (v 13, aZ ta 16 af), (v 14, aZ ta 256 UBOX), (v 15, aI ta 64 kw), (v 16, aI ta 4 sw), (v 17, aI ta 4 xw), (v 18, aZ ta 16 tn), (lg 0, oG lg ya yb wa wb o v ct), (ya 0, oK ya 3 ln), (v 0, oV v), (wa 19, oR (wa 20) (((((0 + 1) + 1) + 1) + 1) + 8)), (wa 20, aZ ta 204 g1_102), (wa 11, oR (wa 12) 8), (wa 12, aZ ta 8 gcp)] H := hP
    have hD : va_D A [(wa 0, oW wa 1 0 0 false), (wa 1, oR (wa 2) len), (wa 2, aZ ta 32 ge), (wa 3, oR (wa 4) len), (wa 4, aZ ta 32 gm), (wa 15, oR (wa 16) 16), (wa 16, aZ ta 16 gh), (wa 17, oR (wa 18) nbc), (wa 18, aZ ta 8 gbc), (lg 5, oR (lg 6) nl), (lg 6, aZ ta 300 gl), (v 1, oR (v 2) nt), (v 2, aZ ta 528 gt), (v 3, oR (v 4) nd), (v 4, aZ ta 300 gd), (v 7, oR (v 8) nv), (v 8, aZ ta 16 gv), (v 9, oR (v 10) 16), (v 10, aZ ta 16 gz), (v 11, oA (v 12) (v 13) (v 14) (v 15) (v 16) (v 17) rd), (v 12, aZ ta 16 ab), (v 13, aZ ta 16 af), (v 14, aZ ta 256 UBOX), (v 15, aI ta 64 kw), (v 16, aI ta 4 sw), (v 17, aI ta 4 xw), (v 18, aZ ta 16 tn), (lg 0, oG lg ya yb wa wb o v ct), (ya 0, oK ya 3 ln), (v 0, oV v), (wa 19, oR (wa 20) (((((0 + 1) + 1) + 1) + 1) + 8)), (wa 20, aZ ta 204 g1_102), (wa 11, oR (wa 12) 8), (wa 12, aZ ta 8 gcp)] := hD
    refine lv_aload_n (pc := 105) hx hb dX9_prove_105 rfl (lv_at hl 0 rfl) ?_
    refine lv_aload_n (pc := 106) hx hb dX9_prove_106 rfl (lv_at hl 1 rfl) ?_
    refine va_get (pc := 107) (D := D) (ci := 7) (v := .ref (wa 0)) (C := RX9) (T := TX9) (N := 11) hx hb hts iu9 hown hK hP 27 rfl rfl 6 (by decide) (hts _ tw_358) (fun _ h9 => h9) rfl dX9_prove_107 ?_
    refine lv_aload_n (pc := 110) hx hb dX9_prove_110 rfl (lv_at hl 1 rfl) ?_
    refine va_get (pc := 111) (D := D) (ci := 7) (v := .ref (lg 5)) (C := RX9) (T := TX9) (N := 11) hx hb hts iu9 hown hK hP 27 rfl rfl 2 (by decide) (hts _ tw_354) (fun _ h9 => h9) rfl dX9_prove_111 ?_
    refine cs_U (pc := 114) (idx := 157) (n := 2) (wr := [(wa 17, oR (wa 18) nbc), (wa 18, aZ ta 8 gbc), (lg 0, oG lg ya yb wa wb o v ct), (ya 0, oK ya 3 ln), (wa 11, oR (wa 12) 8), (wa 12, aZ ta 8 gcp)]) (As := [.ref (wa 0), .ref (lg 5)]) (rest := []) (ci := 3) (x := ⟨"LineGuard$Rule", "secure", "(LLineGuard$Session;LLineGuard$Row;)V"⟩) (owner := "LineGuard$Rule") hx hb hml hown hts hGok hK hA hG hl.1 hP hD hS (ct_X4_secure ll D ta gs v gz rd ab af kw sw xw tn wa 1 0 0 false gt nt gd nd gv nv ge gm len gh g1_102 (((((0 + 1) + 1) + 1) + 1) + 8) (lg 5) (lg 6) 300 gl nl (by first | assumption | omega | rfl | decide) (by first | assumption | omega | rfl | decide) (by first | assumption | omega | rfl | decide) (by first | assumption | omega | rfl | decide) (by first | assumption | omega | rfl | decide) (by first | assumption | omega | rfl | decide) H.size) tw_715 tw_710 tw_714 tw_713 tw_73 tw_712 (va_Decl.abs (GC_w711 hG)) ⟨by decide +kernel, by decide +kernel, by decide +kernel⟩ rfl ⟨rfl, rfl, Nat.le_of_ble_eq_true rfl, Nat.le_of_ble_eq_true rfl, Nat.le_of_ble_eq_true rfl, Nat.le_of_ble_eq_true rfl⟩ rfl (q0 := 29) rfl [29, 11, 12, 13, 14, 15, 16, 17, 18, 19, 20, 21, 22, 23, 24, 25, 26, 0, 1, 2, 3, 4, 5, 6, 30, 31, 9, 10] [7, 8, 27, 28, 32, 33] rfl rfl (by decide) rfl (Nat.le_of_ble_eq_true rfl) dX9_prove_114 (fun u H locs hq hP hD hS => ?_)
    obtain ⟨gt1_114, nt1_114, gd1_114, nd1_114, gv1_114, nv1_114, rd1_114, ab1_114, af1_114, kw1_114, sw1_114, xw1_114, tn1_114, gh1_114, gl1_114, nl1_114⟩ := u
    have hq : (qL gh1_114 16 = chain3 (qL gm len) (qL gh 16) (qL g1_102 (((((0 + 1) + 1) + 1) + 1) + 8)) (secD3 (qL ge len) 0 0 (qL g1_102 (((((0 + 1) + 1) + 1) + 1) + 8)))) ∧ (qL gl1_114 nl1_114 = putC (qL g1_102 (((((0 + 1) + 1) + 1) + 1) + 8)) (secD3 (qL ge len) 0 0 (qL g1_102 (((((0 + 1) + 1) + 1) + 1) + 8))) (qL gh1_114 16)) ∧ (nl1_114 = (secD3 (qL ge len) 0 0 (qL g1_102 (((((0 + 1) + 1) + 1) + 1) + 8))).length + 12 ∧ nl1_114 ≤ 220) := hq
    obtain ⟨hch_114, hl9_114, hnl_114⟩ := hq
    refine W.eq (g2 := F0 mm 117 ls []) rfl ?_
    have hP : va_P D vwCl [(wa 17, oR (wa 18) nbc), (wa 18, aZ ta 8 gbc), (lg 0, oG lg ya yb wa wb o v ct), (ya 0, oK ya 3 ln), (wa 11, oR (wa 12) 8), (wa 12, aZ ta 8 gcp), (v 0, oV v), (v 1, oR (v 2) nt1_114), (v 2, aZ ta 528 gt1_114), (v 3, oR (v 4) nd1_114), (v 4, aZ ta 300 gd1_114), (v 7, oR (v 8) nv1_114), (v 8, aZ ta 16 gv1_114), (v 9, oR (v 10) 16), (v 10, aZ ta 16 gz), (v 11, oA (v 12) (v 13) (v 14) (v 15) (v 16) (v 17) rd1_114), (v 12, aZ ta 16 ab1_114), (v 13, aZ ta 16 af1_114), (v 14, aZ ta 256 UBOX), (v 15, aI ta 64 kw1_114), (v 16, aI ta 4 sw1_114), (v 17, aI ta 4 xw1_114), (v 18, aZ ta 16 tn1_114), (wa 0, oW wa 1 0 0 false), (wa 1, oR (wa 2) len), (wa 2, aZ ta 32 ge), (wa 3, oR (wa 4) len), (wa 4, aZ ta 32 gm), (wa 15, oR (wa 16) 16), (wa 16, aZ ta 16 gh1_114), (wa 19, oR (wa 20) (((((0 + 1) + 1) + 1) + 1) + 8)), (wa 20, aZ ta 204 g1_102), (lg 5, oR (lg 6) nl1_114), (lg 6, aZ ta 300 gl1_114)] H := hP
    have hD : va_D A [(wa 17, oR (wa 18) nbc), (wa 18, aZ ta 8 gbc), (lg 0, oG lg ya yb wa wb o v ct), (ya 0, oK ya 3 ln), (wa 11, oR (wa 12) 8), (wa 12, aZ ta 8 gcp), (v 0, oV v), (v 1, oR (v 2) nt1_114), (v 2, aZ ta 528 gt1_114), (v 3, oR (v 4) nd1_114), (v 4, aZ ta 300 gd1_114), (v 7, oR (v 8) nv1_114), (v 8, aZ ta 16 gv1_114), (v 9, oR (v 10) 16), (v 10, aZ ta 16 gz), (v 11, oA (v 12) (v 13) (v 14) (v 15) (v 16) (v 17) rd1_114), (v 12, aZ ta 16 ab1_114), (v 13, aZ ta 16 af1_114), (v 14, aZ ta 256 UBOX), (v 15, aI ta 64 kw1_114), (v 16, aI ta 4 sw1_114), (v 17, aI ta 4 xw1_114), (v 18, aZ ta 16 tn1_114), (wa 0, oW wa 1 0 0 false), (wa 1, oR (wa 2) len), (wa 2, aZ ta 32 ge), (wa 3, oR (wa 4) len), (wa 4, aZ ta 32 gm), (wa 15, oR (wa 16) 16), (wa 16, aZ ta 16 gh1_114), (wa 19, oR (wa 20) (((((0 + 1) + 1) + 1) + 1) + 8)), (wa 20, aZ ta 204 g1_102), (lg 5, oR (lg 6) nl1_114), (lg 6, aZ ta 300 gl1_114)] := hD
    have hC : qL g1_102 (0 + 1 + 1 + 1 + 1 + 8) = (prvC l (qL gcp 8)) := by
      rw [hL_102, hL_85, hL_74, hL_63, hL_50, qlo_nI, qlo_nI, qlo_nI, qlo_nI]
      rfl
    rw [hC, secD3_0, prvC_drop] at hch_114 hl9_114 hnl_114
    rw [qL_len] at hnl_114
    have en_3 : 20 = nl1_114 := by omega
    subst en_3
    refine lv_aload_n (pc := 117) hx hb dX9_prove_117 rfl (lv_at hl 1 rfl) ?_
    refine va_get (pc := 118) (D := D) (ci := 7) (v := .ref (wa 0)) (C := RX9) (T := TX9) (N := 11) hx hb hts iu9 hown hK hP 2 rfl rfl 6 (by decide) (hts _ tw_358) (fun _ h9 => h9) rfl dX9_prove_118 ?_
    refine lv_iload_n (pc := 121) hx hb dX9_prove_121 rfl (lv_at hl 2 rfl) ?_
    refine cs_V (pc := 122) (idx := 161) (n := 1) (wr := [(lg 0, oG lg ya yb wa wb o v ct), (ya 0, oK ya 3 ln), (wa 11, oR (wa 12) 8), (wa 12, aZ ta 8 gcp), (v 0, oV v), (v 1, oR (v 2) nt1_114), (v 2, aZ ta 528 gt1_114), (v 3, oR (v 4) nd1_114), (v 4, aZ ta 300 gd1_114), (v 7, oR (v 8) nv1_114), (v 8, aZ ta 16 gv1_114), (v 9, oR (v 10) 16), (v 10, aZ ta 16 gz), (v 11, oA (v 12) (v 13) (v 14) (v 15) (v 16) (v 17) rd1_114), (v 12, aZ ta 16 ab1_114), (v 13, aZ ta 16 af1_114), (v 14, aZ ta 256 UBOX), (v 15, aI ta 64 kw1_114), (v 16, aI ta 4 sw1_114), (v 17, aI ta 4 xw1_114), (v 18, aZ ta 16 tn1_114), (wa 1, oR (wa 2) len), (wa 2, aZ ta 32 ge), (wa 3, oR (wa 4) len), (wa 4, aZ ta 32 gm), (wa 19, oR (wa 20) (((((0 + 1) + 1) + 1) + 1) + 8)), (wa 20, aZ ta 204 g1_102), (lg 5, oR (lg 6) 20), (lg 6, aZ ta 300 gl1_114)]) (As := [.int (nI l)]) (rest := []) (ci := 6) hx hb hml hown hts hGok hK hA hG hl.1 hP hD hS (ct_X8_open ll D ta gs wa 1 0 0 false gh1_114 16 gbc nbc l (by first | assumption | omega | rfl | decide) H.size) tw_772 tw_769 tw_770 tw_771 tw_68 hdX8_open rfl ⟨rfl, rfl, Nat.le_of_ble_eq_true rfl, Nat.le_of_ble_eq_true rfl, Nat.le_of_ble_eq_true rfl, Nat.le_of_ble_eq_true rfl⟩ rfl rfl (q0 := 23) rfl [23, 28, 29, 0, 1] [2, 3, 4, 5, 6, 7, 8, 9, 10, 11, 12, 13, 14, 15, 16, 17, 18, 19, 20, 21, 22, 24, 25, 26, 27, 30, 31, 32, 33] rfl rfl (by decide) rfl (Nat.le_of_ble_eq_true rfl) dX9_prove_122 (fun u H locs hq hP hD hS => ?_)
    generalize u = gbc1_122 at hq hP hD ⊢
    have hq : (qL gbc1_122 8 = (qL gh1_114 16).take 8) := hq
    have hL_122 := hq
    refine W.eq (g2 := F0 mm 125 ls []) rfl ?_
    have hP : va_P D vwCl [(lg 0, oG lg ya yb wa wb o v ct), (ya 0, oK ya 3 ln), (wa 11, oR (wa 12) 8), (wa 12, aZ ta 8 gcp), (v 0, oV v), (v 1, oR (v 2) nt1_114), (v 2, aZ ta 528 gt1_114), (v 3, oR (v 4) nd1_114), (v 4, aZ ta 300 gd1_114), (v 7, oR (v 8) nv1_114), (v 8, aZ ta 16 gv1_114), (v 9, oR (v 10) 16), (v 10, aZ ta 16 gz), (v 11, oA (v 12) (v 13) (v 14) (v 15) (v 16) (v 17) rd1_114), (v 12, aZ ta 16 ab1_114), (v 13, aZ ta 16 af1_114), (v 14, aZ ta 256 UBOX), (v 15, aI ta 64 kw1_114), (v 16, aI ta 4 sw1_114), (v 17, aI ta 4 xw1_114), (v 18, aZ ta 16 tn1_114), (wa 1, oR (wa 2) len), (wa 2, aZ ta 32 ge), (wa 3, oR (wa 4) len), (wa 4, aZ ta 32 gm), (wa 19, oR (wa 20) (((((0 + 1) + 1) + 1) + 1) + 8)), (wa 20, aZ ta 204 g1_102), (lg 5, oR (lg 6) 20), (lg 6, aZ ta 300 gl1_114), (wa 0, oW wa 2 l 0 false), (wa 15, oR (wa 16) 16), (wa 16, aZ ta 16 gh1_114), (wa 17, oR (wa 18) 8), (wa 18, aZ ta 8 gbc1_122)] H := hP
    have hD : va_D A [(lg 0, oG lg ya yb wa wb o v ct), (ya 0, oK ya 3 ln), (wa 11, oR (wa 12) 8), (wa 12, aZ ta 8 gcp), (v 0, oV v), (v 1, oR (v 2) nt1_114), (v 2, aZ ta 528 gt1_114), (v 3, oR (v 4) nd1_114), (v 4, aZ ta 300 gd1_114), (v 7, oR (v 8) nv1_114), (v 8, aZ ta 16 gv1_114), (v 9, oR (v 10) 16), (v 10, aZ ta 16 gz), (v 11, oA (v 12) (v 13) (v 14) (v 15) (v 16) (v 17) rd1_114), (v 12, aZ ta 16 ab1_114), (v 13, aZ ta 16 af1_114), (v 14, aZ ta 256 UBOX), (v 15, aI ta 64 kw1_114), (v 16, aI ta 4 sw1_114), (v 17, aI ta 4 xw1_114), (v 18, aZ ta 16 tn1_114), (wa 1, oR (wa 2) len), (wa 2, aZ ta 32 ge), (wa 3, oR (wa 4) len), (wa 4, aZ ta 32 gm), (wa 19, oR (wa 20) (((((0 + 1) + 1) + 1) + 1) + 8)), (wa 20, aZ ta 204 g1_102), (lg 5, oR (lg 6) 20), (lg 6, aZ ta 300 gl1_114), (wa 0, oW wa 2 l 0 false), (wa 15, oR (wa 16) 16), (wa 16, aZ ta 16 gh1_114), (wa 17, oR (wa 18) 8), (wa 18, aZ ta 8 gbc1_122)] := hD
    refine lv_aload_n (pc := 125) hx hb dX9_prove_125 rfl (lv_at hl 1 rfl) ?_
    refine va_get (pc := 126) (D := D) (ci := 7) (v := .ref (lg 5)) (C := RX9) (T := TX9) (N := 11) hx hb hts iu9 hown hK hP 0 rfl rfl 2 (by decide) (hts _ tw_354) (fun _ h9 => h9) rfl dX9_prove_126 ?_
    refine cs_V (pc := 129) (idx := 64) (n := 0) (wr := [(lg 0, oG lg ya yb wa wb o v ct), (ya 0, oK ya 3 ln), (wa 11, oR (wa 12) 8), (wa 12, aZ ta 8 gcp), (v 0, oV v), (v 1, oR (v 2) nt1_114), (v 2, aZ ta 528 gt1_114), (v 3, oR (v 4) nd1_114), (v 4, aZ ta 300 gd1_114), (v 7, oR (v 8) nv1_114), (v 8, aZ ta 16 gv1_114), (v 9, oR (v 10) 16), (v 10, aZ ta 16 gz), (v 11, oA (v 12) (v 13) (v 14) (v 15) (v 16) (v 17) rd1_114), (v 12, aZ ta 16 ab1_114), (v 13, aZ ta 16 af1_114), (v 14, aZ ta 256 UBOX), (v 15, aI ta 64 kw1_114), (v 16, aI ta 4 sw1_114), (v 17, aI ta 4 xw1_114), (v 18, aZ ta 16 tn1_114), (wa 1, oR (wa 2) len), (wa 2, aZ ta 32 ge), (wa 3, oR (wa 4) len), (wa 4, aZ ta 32 gm), (wa 19, oR (wa 20) (((((0 + 1) + 1) + 1) + 1) + 8)), (wa 20, aZ ta 204 g1_102), (wa 0, oW wa 2 l 0 false), (wa 15, oR (wa 16) 16), (wa 16, aZ ta 16 gh1_114), (wa 17, oR (wa 18) 8), (wa 18, aZ ta 8 gbc1_122)]) (As := []) (rest := []) (ci := 5) hx hb hml hown hts hGok hK hA hG hl.1 hP hD hS (ct_X6_size ll D ta hGok (lg 5) (lg 6) 300 gl1_114 20  H.size) tw_393 tw_390 tw_391 tw_392 tw_66 hdX6_size rfl ⟨rfl, rfl, Nat.le_of_ble_eq_true rfl, Nat.le_of_ble_eq_true rfl, Nat.le_of_ble_eq_true rfl, Nat.le_of_ble_eq_true rfl⟩ rfl rfl (q0 := 27) rfl [27, 28] [0, 1, 2, 3, 4, 5, 6, 7, 8, 9, 10, 11, 12, 13, 14, 15, 16, 17, 18, 19, 20, 21, 22, 23, 24, 25, 26, 29, 30, 31, 32, 33] rfl rfl (by decide) rfl (Nat.le_of_ble_eq_true rfl) dX9_prove_129 (fun u H locs hq hP hD hS => ?_)
    refine W.eq (g2 := F0 mm 132 ls [.int (nI 20)]) rfl ?_
    have hP : va_P D vwCl [(lg 0, oG lg ya yb wa wb o v ct), (ya 0, oK ya 3 ln), (wa 11, oR (wa 12) 8), (wa 12, aZ ta 8 gcp), (v 0, oV v), (v 1, oR (v 2) nt1_114), (v 2, aZ ta 528 gt1_114), (v 3, oR (v 4) nd1_114), (v 4, aZ ta 300 gd1_114), (v 7, oR (v 8) nv1_114), (v 8, aZ ta 16 gv1_114), (v 9, oR (v 10) 16), (v 10, aZ ta 16 gz), (v 11, oA (v 12) (v 13) (v 14) (v 15) (v 16) (v 17) rd1_114), (v 12, aZ ta 16 ab1_114), (v 13, aZ ta 16 af1_114), (v 14, aZ ta 256 UBOX), (v 15, aI ta 64 kw1_114), (v 16, aI ta 4 sw1_114), (v 17, aI ta 4 xw1_114), (v 18, aZ ta 16 tn1_114), (wa 1, oR (wa 2) len), (wa 2, aZ ta 32 ge), (wa 3, oR (wa 4) len), (wa 4, aZ ta 32 gm), (wa 19, oR (wa 20) (((((0 + 1) + 1) + 1) + 1) + 8)), (wa 20, aZ ta 204 g1_102), (wa 0, oW wa 2 l 0 false), (wa 15, oR (wa 16) 16), (wa 16, aZ ta 16 gh1_114), (wa 17, oR (wa 18) 8), (wa 18, aZ ta 8 gbc1_122), (lg 5, oR (lg 6) 20), (lg 6, aZ ta 300 gl1_114)] H := hP
    have hD : va_D A [(lg 0, oG lg ya yb wa wb o v ct), (ya 0, oK ya 3 ln), (wa 11, oR (wa 12) 8), (wa 12, aZ ta 8 gcp), (v 0, oV v), (v 1, oR (v 2) nt1_114), (v 2, aZ ta 528 gt1_114), (v 3, oR (v 4) nd1_114), (v 4, aZ ta 300 gd1_114), (v 7, oR (v 8) nv1_114), (v 8, aZ ta 16 gv1_114), (v 9, oR (v 10) 16), (v 10, aZ ta 16 gz), (v 11, oA (v 12) (v 13) (v 14) (v 15) (v 16) (v 17) rd1_114), (v 12, aZ ta 16 ab1_114), (v 13, aZ ta 16 af1_114), (v 14, aZ ta 256 UBOX), (v 15, aI ta 64 kw1_114), (v 16, aI ta 4 sw1_114), (v 17, aI ta 4 xw1_114), (v 18, aZ ta 16 tn1_114), (wa 1, oR (wa 2) len), (wa 2, aZ ta 32 ge), (wa 3, oR (wa 4) len), (wa 4, aZ ta 32 gm), (wa 19, oR (wa 20) (((((0 + 1) + 1) + 1) + 1) + 8)), (wa 20, aZ ta 204 g1_102), (wa 0, oW wa 2 l 0 false), (wa 15, oR (wa 16) 16), (wa 16, aZ ta 16 gh1_114), (wa 17, oR (wa 18) 8), (wa 18, aZ ta 8 gbc1_122), (lg 5, oR (lg 6) 20), (lg 6, aZ ta 300 gl1_114)] := hD
    have hq_4 : (qL gh1_114 16 = chain3 (qL gm len) (qL gh 16) (prvC l (qL gcp 8)) (qL gcp 8)) ∧ (qL gl1_114 20 = (prvC l (qL gcp 8)) ++ (qL gh1_114 16).take 8) ∧ (qL gbc1_122 8 = (qL gh1_114 16).take 8) := by
      refine ⟨hch_114, ?_, hL_122⟩
      rw [hl9_114, prv_put]
    exact hret (⟨(gt1_114), (nt1_114), (gd1_114), (nd1_114), (gv1_114), (nv1_114), (rd1_114), (ab1_114), (af1_114), (kw1_114), (sw1_114), (xw1_114), (tn1_114), (gh1_114), (g1_102), (gbc1_122), (gl1_114)⟩ : (Nat → BitVec 8) × Nat × (Nat → BitVec 8) × Nat × (Nat → BitVec 8) × Nat × Nat × (Nat → BitVec 8) × (Nat → BitVec 8) × (Nat → Int32) × (Nat → Int32) × (Nat → Int32) × (Nat → BitVec 8) × (Nat → BitVec 8) × (Nat → BitVec 8) × (Nat → BitVec 8) × (Nat → BitVec 8)) _ _ _ _ dX9_prove_132 hq_4 (hP.sub [0, 1, 27, 21, 22, 23, 24, 28, 29, 25, 26, 2, 3, 30, 31, 32, 33, 4, 5, 6, 7, 8, 9, 10, 11, 12, 13, 14, 15, 16, 17, 18, 19, 20] rfl) (hD.sub [0, 1, 27, 21, 22, 23, 24, 28, 29, 25, 26, 2, 3, 30, 31, 32, 33, 4, 5, 6, 7, 8, 9, 10, 11, 12, 13, 14, 15, 16, 17, 18, 19, 20] (by decide) rfl) hS
  · skip
    rw [q_beq] at c_2
    try rw [Bool.not_eq_false] at c_2
    rw [hz_22, hlev] at c_2; cases c_2
theorem hdX9_send : yX9_send.cls ≠ "java/lang/invoke/MethodHandle" ∧ yX9_send.cls ≠ "java/lang/invoke/VarHandle" ∧ (parseMethodDescriptor yX9_send.desc).map (fun d => d.parameters.length) = some 0 := ⟨by decide +kernel, by decide +kernel, by decide +kernel⟩
theorem dX9_send_0 : decode cX9_send 0 = .ok (.aload_n 0, 1) := by decide +kernel
theorem dX9_send_1 : decode cX9_send 1 = .ok (.getfield 14, 3) := by decide +kernel
theorem dX9_send_4 : decode cX9_send 4 = .ok (.invokevirtual 64, 3) := by decide +kernel
theorem dX9_send_7 : decode cX9_send 7 = .ok (.istore_n 1, 1) := by decide +kernel
theorem dX9_send_8 : decode cX9_send 8 = .ok (.aload_n 0, 1) := by decide +kernel
theorem dX9_send_9 : decode cX9_send 9 = .ok (.getfield 40, 3) := by decide +kernel
theorem dX9_send_12 : decode cX9_send 12 = .ok (.iconst 1, 1) := by decide +kernel
theorem dX9_send_13 : decode cX9_send 13 = .ok (.invokevirtual 164, 3) := by decide +kernel
theorem dX9_send_16 : decode cX9_send 16 = .ok (.ifCond .eq 19, 3) := by decide +kernel
theorem dX9_send_19 : decode cX9_send 19 = .ok (.iload_n 1, 1) := by decide +kernel
theorem dX9_send_20 : decode cX9_send 20 = .ok (.iconst 4, 1) := by decide +kernel
theorem dX9_send_21 : decode cX9_send 21 = .ok (.if_icmp .lt 14, 3) := by decide +kernel
theorem dX9_send_24 : decode cX9_send 24 = .ok (.iload_n 1, 1) := by decide +kernel
theorem dX9_send_25 : decode cX9_send 25 = .ok (.sipush 204, 3) := by decide +kernel
theorem dX9_send_28 : decode cX9_send 28 = .ok (.if_icmp .gt 7, 3) := by decide +kernel
theorem dX9_send_31 : decode cX9_send 31 = .ok (.iconst 1, 1) := by decide +kernel
theorem dX9_send_32 : decode cX9_send 32 = .ok (.goto 4, 3) := by decide +kernel
theorem dX9_send_35 : decode cX9_send 35 = .ok (.iconst 0, 1) := by decide +kernel
theorem dX9_send_36 : decode cX9_send 36 = .ok (.istore_n 2, 1) := by decide +kernel
theorem dX9_send_37 : decode cX9_send 37 = .ok (.iload_n 2, 1) := by decide +kernel
theorem dX9_send_38 : decode cX9_send 38 = .ok (.ifCond .eq 57, 3) := by decide +kernel
theorem dX9_send_41 : decode cX9_send 41 = .ok (.aload_n 0, 1) := by decide +kernel
theorem dX9_send_42 : decode cX9_send 42 = .ok (.getfield 40, 3) := by decide +kernel
theorem dX9_send_45 : decode cX9_send 45 = .ok (.getfield 145, 3) := by decide +kernel
theorem dX9_send_48 : decode cX9_send 48 = .ok (.aload_n 0, 1) := by decide +kernel
theorem dX9_send_49 : decode cX9_send 49 = .ok (.getfield 14, 3) := by decide +kernel
theorem dX9_send_52 : decode cX9_send 52 = .ok (.invokevirtual 84, 3) := by decide +kernel
theorem dX9_send_55 : decode cX9_send 55 = .ok (.aload_n 0, 1) := by decide +kernel
theorem dX9_send_56 : decode cX9_send 56 = .ok (.getfield 40, 3) := by decide +kernel
theorem dX9_send_59 : decode cX9_send 59 = .ok (.dup, 1) := by decide +kernel
theorem dX9_send_60 : decode cX9_send 60 = .ok (.getfield 167, 3) := by decide +kernel
theorem dX9_send_63 : decode cX9_send 63 = .ok (.iconst 1, 1) := by decide +kernel
theorem dX9_send_64 : decode cX9_send 64 = .ok (.iadd, 1) := by decide +kernel
theorem dX9_send_65 : decode cX9_send 65 = .ok (.putfield 167, 3) := by decide +kernel
theorem dX9_send_68 : decode cX9_send 68 = .ok (.aload_n 0, 1) := by decide +kernel
theorem dX9_send_69 : decode cX9_send 69 = .ok (.getfield 40, 3) := by decide +kernel
theorem dX9_send_72 : decode cX9_send 72 = .ok (.iconst 1, 1) := by decide +kernel
theorem dX9_send_73 : decode cX9_send 73 = .ok (.putfield 170, 3) := by decide +kernel
theorem dX9_send_76 : decode cX9_send 76 = .ok (.aload_n 0, 1) := by decide +kernel
theorem dX9_send_77 : decode cX9_send 77 = .ok (.aload_n 0, 1) := by decide +kernel
theorem dX9_send_78 : decode cX9_send 78 = .ok (.getfield 30, 3) := by decide +kernel
theorem dX9_send_81 : decode cX9_send 81 = .ok (.invokevirtual 109, 3) := by decide +kernel
theorem dX9_send_84 : decode cX9_send 84 = .ok (.aload_n 0, 1) := by decide +kernel
theorem dX9_send_85 : decode cX9_send 85 = .ok (.getfield 40, 3) := by decide +kernel
theorem dX9_send_88 : decode cX9_send 88 = .ok (.aload_n 0, 1) := by decide +kernel
theorem dX9_send_89 : decode cX9_send 89 = .ok (.getfield 21, 3) := by decide +kernel
theorem dX9_send_92 : decode cX9_send 92 = .ok (.invokevirtual 157, 3) := by decide +kernel
theorem dX9_send_95 : decode cX9_send 95 = .ok (.aload_n 0, 1) := by decide +kernel
theorem dX9_send_96 : decode cX9_send 96 = .ok (.getfield 14, 3) := by decide +kernel
theorem dX9_send_99 : decode cX9_send 99 = .ok (.invokevirtual 88, 3) := by decide +kernel
theorem dX9_send_102 : decode cX9_send 102 = .ok (.iload_n 2, 1) := by decide +kernel
theorem dX9_send_103 : decode cX9_send 103 = .ok (.ifCond .eq 13, 3) := by decide +kernel
theorem dX9_send_106 : decode cX9_send 106 = .ok (.aload_n 0, 1) := by decide +kernel
theorem dX9_send_107 : decode cX9_send 107 = .ok (.getfield 21, 3) := by decide +kernel
theorem dX9_send_110 : decode cX9_send 110 = .ok (.invokevirtual 64, 3) := by decide +kernel
theorem dX9_send_113 : decode cX9_send 113 = .ok (.goto 4, 3) := by decide +kernel
theorem dX9_send_116 : decode cX9_send 116 = .ok (.iconst (-1), 1) := by decide +kernel
theorem dX9_send_117 : decode cX9_send 117 = .ok (.ireturn, 1) := by decide +kernel
set_option maxHeartbeats 4000000 in
set_option maxRecDepth 100000 in
theorem ct_X9_send_N (ll : Launch) (D : va_G) (ta : Nat → ClassId) (gs : Nat → Nat) (lg : Nat → Nat) (ya : Nat → Nat) (yb : Nat → Nat) (wa : Nat → Nat) (wb : Nat → Nat) (o : Nat → Nat) (v : Nat → Nat) (ct : Nat) (gz : Nat → BitVec 8) (rd : Nat) (ab : Nat → BitVec 8) (af : Nat → BitVec 8) (kw : Nat → Int32) (sw : Nat → Int32) (xw : Nat → Int32) (tn : Nat → BitVec 8) (gt : Nat → BitVec 8) (nt : Nat) (gd : Nat → BitVec 8) (nd : Nat) (gv : Nat → BitVec 8) (nv : Nat) (ge : Nat → BitVec 8) (gm : Nat → BitVec 8) (len : Nat) (gh : Nat → BitVec 8) (gc : Nat → BitVec 8) (nc : Nat) (gl : Nat → BitVec 8) (nl : Nat) (gta : Nat → BitVec 8) (nta : Nat) (ln : Nat) (lv : Nat) (cnt : Nat) (cm : Bool) (hz : qL gz 16 = zeroL 16) (hln : len = 16 ∨ len = 24 ∨ len = 32) (hli : nl ≤ 300) (hta : 4 ≤ nta ∧ nta ≤ 204) (hlv : lv < 256) (hl1 : lv &&& 1 ≠ 0) (hcnt : cnt + 1 < 2147483648) (sz : Nat) : CT ll yX9_send cX9_send 3 (some .int) ({ frames := 6, cells := 0, slots := 0, locals := 149 } : Room) D ta ((GC gs)) [.ref (lg 0)] [(lg 0, oG lg ya yb wa wb o v ct), (ya 0, oK ya 3 ln), (wa 0, oW wa 2 lv cnt cm), (wa 1, oR (wa 2) len), (wa 2, aZ ta 32 ge), (wa 3, oR (wa 4) len), (wa 4, aZ ta 32 gm), (wa 15, oR (wa 16) 16), (wa 16, aZ ta 16 gh), (wa 19, oR (wa 20) nc), (wa 20, aZ ta 204 gc), (lg 1, oR (lg 2) nta), (lg 2, aZ ta 400 gta), (lg 5, oR (lg 6) nl), (lg 6, aZ ta 300 gl), (v 0, oV v), (v 1, oR (v 2) nt), (v 2, aZ ta 528 gt), (v 3, oR (v 4) nd), (v 4, aZ ta 300 gd), (v 7, oR (v 8) nv), (v 8, aZ ta 16 gv), (v 9, oR (v 10) 16), (v 10, aZ ta 16 gz), (v 11, oA (v 12) (v 13) (v 14) (v 15) (v 16) (v 17) rd), (v 12, aZ ta 16 ab), (v 13, aZ ta 16 af), (v 14, aZ ta 256 UBOX), (v 15, aI ta 64 kw), (v 16, aI ta 4 sw), (v 17, aI ta 4 xw), (v 18, aZ ta 16 tn)] sz (S := (Nat → BitVec 8) × Nat × (Nat → BitVec 8) × Nat × (Nat → BitVec 8) × Nat × Nat × (Nat → BitVec 8) × (Nat → BitVec 8) × (Nat → Int32) × (Nat → Int32) × (Nat → Int32) × (Nat → BitVec 8) × (Nat → BitVec 8) × (Nat → BitVec 8) × (Nat → BitVec 8) × Nat) (fun u => some (.int (nI u.2.2.2.2.2.2.2.2.2.2.2.2.2.2.2.2))) (fun u => (qL u.2.2.2.2.2.2.2.2.2.2.2.2.2.1 16 = chain3 (qL gm len) (qL gh 16) (qL gta nta) (secD3 (qL ge len) (cnt + 1) lv (qL gta nta))) ∧ (qL u.2.2.2.2.2.2.2.2.2.2.2.2.2.2.2.1 u.2.2.2.2.2.2.2.2.2.2.2.2.2.2.2.2 = putC (qL gta nta) (secD3 (qL ge len) (cnt + 1) lv (qL gta nta)) (qL u.2.2.2.2.2.2.2.2.2.2.2.2.2.1 16)) ∧ (qL u.2.2.2.2.2.2.2.2.2.2.2.2.2.2.1 nta = qL gta nta) ∧ (u.2.2.2.2.2.2.2.2.2.2.2.2.2.2.2.2 = (secD3 (qL ge len) (cnt + 1) lv (qL gta nta)).length + 12 ∧ u.2.2.2.2.2.2.2.2.2.2.2.2.2.2.2.2 ≤ 220)) (fun u => [(lg 0, oG lg ya yb wa wb o v ct), (ya 0, oK ya 3 ln), (wa 0, oW wa 2 lv (cnt + 1) true), (wa 1, oR (wa 2) len), (wa 2, aZ ta 32 ge), (wa 3, oR (wa 4) len), (wa 4, aZ ta 32 gm), (wa 15, oR (wa 16) 16), (wa 16, aZ ta 16 u.2.2.2.2.2.2.2.2.2.2.2.2.2.1), (wa 19, oR (wa 20) nta), (wa 20, aZ ta 204 u.2.2.2.2.2.2.2.2.2.2.2.2.2.2.1), (lg 1, oR (lg 2) 0), (lg 2, aZ ta 400 gta), (lg 5, oR (lg 6) u.2.2.2.2.2.2.2.2.2.2.2.2.2.2.2.2), (lg 6, aZ ta 300 u.2.2.2.2.2.2.2.2.2.2.2.2.2.2.2.1), (v 0, oV v), (v 1, oR (v 2) u.2.1), (v 2, aZ ta 528 u.1), (v 3, oR (v 4) u.2.2.2.1), (v 4, aZ ta 300 u.2.2.1), (v 7, oR (v 8) u.2.2.2.2.2.1), (v 8, aZ ta 16 u.2.2.2.2.1), (v 9, oR (v 10) 16), (v 10, aZ ta 16 gz), (v 11, oA (v 12) (v 13) (v 14) (v 15) (v 16) (v 17) u.2.2.2.2.2.2.1), (v 12, aZ ta 16 u.2.2.2.2.2.2.2.1), (v 13, aZ ta 16 u.2.2.2.2.2.2.2.2.1), (v 14, aZ ta 256 UBOX), (v 15, aI ta 64 u.2.2.2.2.2.2.2.2.2.1), (v 16, aI ta 4 u.2.2.2.2.2.2.2.2.2.2.1), (v 17, aI ta 4 u.2.2.2.2.2.2.2.2.2.2.2.1), (v 18, aZ ta 16 u.2.2.2.2.2.2.2.2.2.2.2.2.1)]) 0 0 := by
  refine CT.of_i (r := fun u => nI u.2.2.2.2.2.2.2.2.2.2.2.2.2.2.2.2) rfl (by decide) (Nat.le_of_ble_eq_true rfl) ?_
  have hGok := GC_ok gs
  intro pp ee ss mm below meth kc A Q hx hb hml hown hin hts hK hA hsz hG hret H locs hP hD hS ls hl
  have hl : lv_has ls 3 [(0, .ref (lg 0))] := hl
  refine lv_aload_n (pc := 0) hx hb dX9_send_0 rfl (lv_at hl 0 rfl) ?_
  refine va_get (pc := 1) (D := D) (ci := 7) (v := .ref (lg 1)) (C := RX9) (T := TX9) (N := 11) hx hb hts iu9 hown hK hP 0 rfl rfl 0 (by decide) (hts _ tw_352) (fun _ h9 => h9) rfl dX9_send_1 ?_
  refine cs_V (pc := 4) (idx := 64) (n := 0) (wr := [(lg 0, oG lg ya yb wa wb o v ct), (ya 0, oK ya 3 ln), (wa 0, oW wa 2 lv cnt cm), (wa 1, oR (wa 2) len), (wa 2, aZ ta 32 ge), (wa 3, oR (wa 4) len), (wa 4, aZ ta 32 gm), (wa 15, oR (wa 16) 16), (wa 16, aZ ta 16 gh), (wa 19, oR (wa 20) nc), (wa 20, aZ ta 204 gc), (lg 5, oR (lg 6) nl), (lg 6, aZ ta 300 gl), (v 0, oV v), (v 1, oR (v 2) nt), (v 2, aZ ta 528 gt), (v 3, oR (v 4) nd), (v 4, aZ ta 300 gd), (v 7, oR (v 8) nv), (v 8, aZ ta 16 gv), (v 9, oR (v 10) 16), (v 10, aZ ta 16 gz), (v 11, oA (v 12) (v 13) (v 14) (v 15) (v 16) (v 17) rd), (v 12, aZ ta 16 ab), (v 13, aZ ta 16 af), (v 14, aZ ta 256 UBOX), (v 15, aI ta 64 kw), (v 16, aI ta 4 sw), (v 17, aI ta 4 xw), (v 18, aZ ta 16 tn)]) (As := []) (rest := []) (ci := 5) hx hb hml hown hts hGok hK hA hG hl.1 hP hD hS (ct_X6_size ll D ta hGok (lg 1) (lg 2) 400 gta nta  H.size) tw_393 tw_390 tw_391 tw_392 tw_66 hdX6_size rfl ⟨rfl, rfl, Nat.le_of_ble_eq_true rfl, Nat.le_of_ble_eq_true rfl, Nat.le_of_ble_eq_true rfl, Nat.le_of_ble_eq_true rfl⟩ rfl rfl (q0 := 11) rfl [11, 12] [0, 1, 2, 3, 4, 5, 6, 7, 8, 9, 10, 13, 14, 15, 16, 17, 18, 19, 20, 21, 22, 23, 24, 25, 26, 27, 28, 29, 30, 31] rfl rfl (by decide) rfl (Nat.le_of_ble_eq_true rfl) dX9_send_4 (fun u H locs hq hP hD hS => ?_)
  refine W.eq (g2 := F0 mm 7 ls [.int (nI nta)]) rfl ?_
  have hP : va_P D vwCl [(lg 0, oG lg ya yb wa wb o v ct), (ya 0, oK ya 3 ln), (wa 0, oW wa 2 lv cnt cm), (wa 1, oR (wa 2) len), (wa 2, aZ ta 32 ge), (wa 3, oR (wa 4) len), (wa 4, aZ ta 32 gm), (wa 15, oR (wa 16) 16), (wa 16, aZ ta 16 gh), (wa 19, oR (wa 20) nc), (wa 20, aZ ta 204 gc), (lg 5, oR (lg 6) nl), (lg 6, aZ ta 300 gl), (v 0, oV v), (v 1, oR (v 2) nt), (v 2, aZ ta 528 gt), (v 3, oR (v 4) nd), (v 4, aZ ta 300 gd), (v 7, oR (v 8) nv), (v 8, aZ ta 16 gv), (v 9, oR (v 10) 16), (v 10, aZ ta 16 gz), (v 11, oA (v 12) (v 13) (v 14) (v 15) (v 16) (v 17) rd), (v 12, aZ ta 16 ab), (v 13, aZ ta 16 af), (v 14, aZ ta 256 UBOX), (v 15, aI ta 64 kw), (v 16, aI ta 4 sw), (v 17, aI ta 4 xw), (v 18, aZ ta 16 tn), (lg 1, oR (lg 2) nta), (lg 2, aZ ta 400 gta)] H := hP
  have hD : va_D A [(lg 0, oG lg ya yb wa wb o v ct), (ya 0, oK ya 3 ln), (wa 0, oW wa 2 lv cnt cm), (wa 1, oR (wa 2) len), (wa 2, aZ ta 32 ge), (wa 3, oR (wa 4) len), (wa 4, aZ ta 32 gm), (wa 15, oR (wa 16) 16), (wa 16, aZ ta 16 gh), (wa 19, oR (wa 20) nc), (wa 20, aZ ta 204 gc), (lg 5, oR (lg 6) nl), (lg 6, aZ ta 300 gl), (v 0, oV v), (v 1, oR (v 2) nt), (v 2, aZ ta 528 gt), (v 3, oR (v 4) nd), (v 4, aZ ta 300 gd), (v 7, oR (v 8) nv), (v 8, aZ ta 16 gv), (v 9, oR (v 10) 16), (v 10, aZ ta 16 gz), (v 11, oA (v 12) (v 13) (v 14) (v 15) (v 16) (v 17) rd), (v 12, aZ ta 16 ab), (v 13, aZ ta 16 af), (v 14, aZ ta 256 UBOX), (v 15, aI ta 64 kw), (v 16, aI ta 4 sw), (v 17, aI ta 4 xw), (v 18, aZ ta 16 tn), (lg 1, oR (lg 2) nta), (lg 2, aZ ta 400 gta)] := hD
  refine lv_istore_n (pc := 7) (lv' := [(1, .int (nI nta)), (0, .ref (lg 0))]) hx hb dX9_send_7 rfl hl (by decide) rfl (fun ls hl => ?_)
  refine lv_aload_n (pc := 8) hx hb dX9_send_8 rfl (lv_at hl 1 rfl) ?_
  refine va_get (pc := 9) (D := D) (ci := 7) (v := .ref (wa 0)) (C := RX9) (T := TX9) (N := 11) hx hb hts iu9 hown hK hP 0 rfl rfl 6 (by decide) (hts _ tw_358) (fun _ h9 => h9) rfl dX9_send_9 ?_
  refine lv_iconst (pc := 12) (v := nI 1) hx hb dX9_send_12 (by decide +kernel) ?_
  refine cs_V (pc := 13) (idx := 164) (n := 1) (wr := [(lg 0, oG lg ya yb wa wb o v ct), (ya 0, oK ya 3 ln), (wa 1, oR (wa 2) len), (wa 2, aZ ta 32 ge), (wa 3, oR (wa 4) len), (wa 4, aZ ta 32 gm), (wa 15, oR (wa 16) 16), (wa 16, aZ ta 16 gh), (wa 19, oR (wa 20) nc), (wa 20, aZ ta 204 gc), (lg 5, oR (lg 6) nl), (lg 6, aZ ta 300 gl), (v 0, oV v), (v 1, oR (v 2) nt), (v 2, aZ ta 528 gt), (v 3, oR (v 4) nd), (v 4, aZ ta 300 gd), (v 7, oR (v 8) nv), (v 8, aZ ta 16 gv), (v 9, oR (v 10) 16), (v 10, aZ ta 16 gz), (v 11, oA (v 12) (v 13) (v 14) (v 15) (v 16) (v 17) rd), (v 12, aZ ta 16 ab), (v 13, aZ ta 16 af), (v 14, aZ ta 256 UBOX), (v 15, aI ta 64 kw), (v 16, aI ta 4 sw), (v 17, aI ta 4 xw), (v 18, aZ ta 16 tn), (lg 1, oR (lg 2) nta), (lg 2, aZ ta 400 gta)]) (As := [.int (nI 1)]) (rest := []) (ci := 6) hx hb hml hown hts hGok hK hA hG hl.1 hP hD hS (ct_X8_isOpenWith ll D ta gs wa 2 lv cnt cm 1 (by first | assumption | omega | rfl | decide) (by first | assumption | omega | rfl | decide) (by first | assumption | omega | rfl | decide) H.size) tw_781 tw_778 tw_779 tw_780 tw_68 hdX8_isOpenWith rfl ⟨rfl, rfl, Nat.le_of_ble_eq_true rfl, Nat.le_of_ble_eq_true rfl, Nat.le_of_ble_eq_true rfl, Nat.le_of_ble_eq_true rfl⟩ rfl rfl (q0 := 2) rfl [2] [0, 1, 3, 4, 5, 6, 7, 8, 9, 10, 11, 12, 13, 14, 15, 16, 17, 18, 19, 20, 21, 22, 23, 24, 25, 26, 27, 28, 29, 30, 31] rfl rfl (by decide) rfl (Nat.le_of_ble_eq_true rfl) dX9_send_13 (fun u H locs hq hP hD hS => ?_)
  generalize u = z_13 at hq hP hD ⊢
  have hq : (z_13 = decide (2 = 2 ∧ lv &&& 1 ≠ 0)) := hq
  have hz_13 := hq
  refine W.eq (g2 := F0 mm 16 ls [.int (qb z_13)]) rfl ?_
  have hP : va_P D vwCl [(lg 0, oG lg ya yb wa wb o v ct), (ya 0, oK ya 3 ln), (wa 1, oR (wa 2) len), (wa 2, aZ ta 32 ge), (wa 3, oR (wa 4) len), (wa 4, aZ ta 32 gm), (wa 15, oR (wa 16) 16), (wa 16, aZ ta 16 gh), (wa 19, oR (wa 20) nc), (wa 20, aZ ta 204 gc), (lg 5, oR (lg 6) nl), (lg 6, aZ ta 300 gl), (v 0, oV v), (v 1, oR (v 2) nt), (v 2, aZ ta 528 gt), (v 3, oR (v 4) nd), (v 4, aZ ta 300 gd), (v 7, oR (v 8) nv), (v 8, aZ ta 16 gv), (v 9, oR (v 10) 16), (v 10, aZ ta 16 gz), (v 11, oA (v 12) (v 13) (v 14) (v 15) (v 16) (v 17) rd), (v 12, aZ ta 16 ab), (v 13, aZ ta 16 af), (v 14, aZ ta 256 UBOX), (v 15, aI ta 64 kw), (v 16, aI ta 4 sw), (v 17, aI ta 4 xw), (v 18, aZ ta 16 tn), (lg 1, oR (lg 2) nta), (lg 2, aZ ta 400 gta), (wa 0, oW wa 2 lv cnt cm)] H := hP
  have hD : va_D A [(lg 0, oG lg ya yb wa wb o v ct), (ya 0, oK ya 3 ln), (wa 1, oR (wa 2) len), (wa 2, aZ ta 32 ge), (wa 3, oR (wa 4) len), (wa 4, aZ ta 32 gm), (wa 15, oR (wa 16) 16), (wa 16, aZ ta 16 gh), (wa 19, oR (wa 20) nc), (wa 20, aZ ta 204 gc), (lg 5, oR (lg 6) nl), (lg 6, aZ ta 300 gl), (v 0, oV v), (v 1, oR (v 2) nt), (v 2, aZ ta 528 gt), (v 3, oR (v 4) nd), (v 4, aZ ta 300 gd), (v 7, oR (v 8) nv), (v 8, aZ ta 16 gv), (v 9, oR (v 10) 16), (v 10, aZ ta 16 gz), (v 11, oA (v 12) (v 13) (v 14) (v 15) (v 16) (v 17) rd), (v 12, aZ ta 16 ab), (v 13, aZ ta 16 af), (v 14, aZ ta 256 UBOX), (v 15, aI ta 64 kw), (v 16, aI ta 4 sw), (v 17, aI ta 4 xw), (v 18, aZ ta 16 tn), (lg 1, oR (lg 2) nta), (lg 2, aZ ta 400 gta), (wa 0, oW wa 2 lv cnt cm)] := hD
  refine lv_if_eq (pc := 16) (tgt := 35) hx hb dX9_send_16 (by decide) (fun c_1 => ?_) (fun c_1 => ?_)
  · skip
    rw [q_beq] at c_1
    try rw [Bool.not_eq_false] at c_1
    rw [hz_13, decide_eq_true ⟨rfl, hl1⟩] at c_1; cases c_1
  · skip
    rw [q_beq] at c_1
    try rw [Bool.not_eq_false] at c_1
    refine lv_iload_n (pc := 19) hx hb dX9_send_19 rfl (lv_at hl 0 rfl) ?_
    refine lv_iconst (pc := 20) (v := nI 4) hx hb dX9_send_20 (by decide +kernel) ?_
    refine lv_icmp_lt (pc := 21) (tgt := 35) hx hb dX9_send_21 (by decide) (fun c_2 => ?_) (fun c_2 => ?_)
    · skip
      rw [nI_ltI (by omega) (by omega)] at c_2
      exfalso; omega
    · skip
      rw [nI_ltI (by omega) (by omega)] at c_2
      refine lv_iload_n (pc := 24) hx hb dX9_send_24 rfl (lv_at hl 0 rfl) ?_
      refine lv_sipush (pc := 25) (v := nI 204) hx hb dX9_send_25 (by decide +kernel) ?_
      refine lv_icmp_gt (pc := 28) (tgt := 35) hx hb dX9_send_28 (by decide) (fun c_3 => ?_) (fun c_3 => ?_)
      · skip
        rw [nI_ltI (by omega) (by omega)] at c_3
        exfalso; omega
      · skip
        rw [nI_ltI (by omega) (by omega)] at c_3
        refine lv_iconst (pc := 31) (v := nI 1) hx hb dX9_send_31 (by decide +kernel) ?_
        refine lv_goto (pc := 32) (tgt := 36) hx hb dX9_send_32 (by decide) ?_
        refine lv_istore_n (pc := 36) (lv' := [(2, .int (nI 1)), (1, .int (nI nta)), (0, .ref (lg 0))]) hx hb dX9_send_36 rfl hl (by decide) rfl (fun ls hl => ?_)
        refine lv_iload_n (pc := 37) hx hb dX9_send_37 rfl (lv_at hl 0 rfl) ?_
        refine lv_if_eq (pc := 38) (tgt := 95) hx hb dX9_send_38 (by decide) (fun c_4 => absurd c_4 (by decide)) (fun _ => ?_)
        refine lv_aload_n (pc := 41) hx hb dX9_send_41 rfl (lv_at hl 2 rfl) ?_
        refine va_get (pc := 42) (D := D) (ci := 7) (v := .ref (wa 0)) (C := RX9) (T := TX9) (N := 11) hx hb hts iu9 hown hK hP 0 rfl rfl 6 (by decide) (hts _ tw_358) (fun _ h9 => h9) rfl dX9_send_42 ?_
        refine va_getN (pc := 45) (D := D) (ci := 6) (v := .ref (wa 19)) (C := RX8) (T := TX8) (N := 14) hx hb hts iu8 hown hK hP 31 rfl rfl 11 (by decide) (va_Nw.use rfl (GC_w177 hG)) (fun _ h9 => h9) rfl dX9_send_45 ?_
        refine lv_aload_n (pc := 48) hx hb dX9_send_48 rfl (lv_at hl 2 rfl) ?_
        refine va_get (pc := 49) (D := D) (ci := 7) (v := .ref (lg 1)) (C := RX9) (T := TX9) (N := 11) hx hb hts iu9 hown hK hP 0 rfl rfl 0 (by decide) (hts _ tw_352) (fun _ h9 => h9) rfl dX9_send_49 ?_
        refine cs_V (pc := 52) (idx := 84) (n := 1) (wr := [(lg 0, oG lg ya yb wa wb o v ct), (ya 0, oK ya 3 ln), (wa 1, oR (wa 2) len), (wa 2, aZ ta 32 ge), (wa 3, oR (wa 4) len), (wa 4, aZ ta 32 gm), (wa 15, oR (wa 16) 16), (wa 16, aZ ta 16 gh), (lg 5, oR (lg 6) nl), (lg 6, aZ ta 300 gl), (v 0, oV v), (v 1, oR (v 2) nt), (v 2, aZ ta 528 gt), (v 3, oR (v 4) nd), (v 4, aZ ta 300 gd), (v 7, oR (v 8) nv), (v 8, aZ ta 16 gv), (v 9, oR (v 10) 16), (v 10, aZ ta 16 gz), (v 11, oA (v 12) (v 13) (v 14) (v 15) (v 16) (v 17) rd), (v 12, aZ ta 16 ab), (v 13, aZ ta 16 af), (v 14, aZ ta 256 UBOX), (v 15, aI ta 64 kw), (v 16, aI ta 4 sw), (v 17, aI ta 4 xw), (v 18, aZ ta 16 tn), (wa 0, oW wa 2 lv cnt cm)]) (As := [.ref (lg 1)]) (rest := []) (ci := 5) hx hb hml hown hts hGok hK hA hG hl.1 hP hD hS (ct_X6_copy ll D ta hGok (wa 19) (wa 20) 204 gc nc (lg 1) (lg 2) 400 gta nta (by first | assumption | omega | rfl | decide) (by first | assumption | omega | rfl | decide) (by first | assumption | omega | rfl | decide) (by first | assumption | omega | rfl | decide) H.size) tw_437 tw_434 tw_435 tw_436 tw_66 hdX6_copy rfl ⟨rfl, rfl, Nat.le_of_ble_eq_true rfl, Nat.le_of_ble_eq_true rfl, Nat.le_of_ble_eq_true rfl, Nat.le_of_ble_eq_true rfl⟩ rfl rfl (q0 := 8) rfl [8, 9, 29, 30] [0, 1, 2, 3, 4, 5, 6, 7, 10, 11, 12, 13, 14, 15, 16, 17, 18, 19, 20, 21, 22, 23, 24, 25, 26, 27, 28, 31] rfl rfl (by decide) rfl (Nat.le_of_ble_eq_true rfl) dX9_send_52 (fun u H locs hq hP hD hS => ?_)
        generalize u = g1_52 at hq hP hD ⊢
        have hq : (qL g1_52 nta = qL gta nta) := hq
        have hL_52 := hq
        refine W.eq (g2 := F0 mm 55 ls []) rfl ?_
        have hP : va_P D vwCl [(lg 0, oG lg ya yb wa wb o v ct), (ya 0, oK ya 3 ln), (wa 1, oR (wa 2) len), (wa 2, aZ ta 32 ge), (wa 3, oR (wa 4) len), (wa 4, aZ ta 32 gm), (wa 15, oR (wa 16) 16), (wa 16, aZ ta 16 gh), (lg 5, oR (lg 6) nl), (lg 6, aZ ta 300 gl), (v 0, oV v), (v 1, oR (v 2) nt), (v 2, aZ ta 528 gt), (v 3, oR (v 4) nd), (v 4, aZ ta 300 gd), (v 7, oR (v 8) nv), (v 8, aZ ta 16 gv), (v 9, oR (v 10) 16), (v 10, aZ ta 16 gz), (v 11, oA (v 12) (v 13) (v 14) (v 15) (v 16) (v 17) rd), (v 12, aZ ta 16 ab), (v 13, aZ ta 16 af), (v 14, aZ ta 256 UBOX), (v 15, aI ta 64 kw), (v 16, aI ta 4 sw), (v 17, aI ta 4 xw), (v 18, aZ ta 16 tn), (wa 0, oW wa 2 lv cnt cm), (wa 19, oR (wa 20) nta), (wa 20, aZ ta 204 g1_52), (lg 1, oR (lg 2) nta), (lg 2, aZ ta 400 gta)] H := hP
        have hD : va_D A [(lg 0, oG lg ya yb wa wb o v ct), (ya 0, oK ya 3 ln), (wa 1, oR (wa 2) len), (wa 2, aZ ta 32 ge), (wa 3, oR (wa 4) len), (wa 4, aZ ta 32 gm), (wa 15, oR (wa 16) 16), (wa 16, aZ ta 16 gh), (lg 5, oR (lg 6) nl), (lg 6, aZ ta 300 gl), (v 0, oV v), (v 1, oR (v 2) nt), (v 2, aZ ta 528 gt), (v 3, oR (v 4) nd), (v 4, aZ ta 300 gd), (v 7, oR (v 8) nv), (v 8, aZ ta 16 gv), (v 9, oR (v 10) 16), (v 10, aZ ta 16 gz), (v 11, oA (v 12) (v 13) (v 14) (v 15) (v 16) (v 17) rd), (v 12, aZ ta 16 ab), (v 13, aZ ta 16 af), (v 14, aZ ta 256 UBOX), (v 15, aI ta 64 kw), (v 16, aI ta 4 sw), (v 17, aI ta 4 xw), (v 18, aZ ta 16 tn), (wa 0, oW wa 2 lv cnt cm), (wa 19, oR (wa 20) nta), (wa 20, aZ ta 204 g1_52), (lg 1, oR (lg 2) nta), (lg 2, aZ ta 400 gta)] := hD
        refine lv_aload_n (pc := 55) hx hb dX9_send_55 rfl (lv_at hl 2 rfl) ?_
        refine va_get (pc := 56) (D := D) (ci := 7) (v := .ref (wa 0)) (C := RX9) (T := TX9) (N := 11) hx hb hts iu9 hown hK hP 0 rfl rfl 6 (by decide) (hts _ tw_358) (fun _ h9 => h9) rfl dX9_send_56 ?_
        refine lv_dup (pc := 59) hx hb dX9_send_59 rfl ?_
        refine va_getN (pc := 60) (D := D) (ci := 6) (v := .int (nI cnt)) (C := RX8) (T := TX8) (N := 14) hx hb hts iu8 hown hK hP 27 rfl rfl 12 (by decide) (va_Nw.use rfl (GC_w180 hG)) (fun _ h9 => h9) rfl dX9_send_60 ?_
        refine lv_iconst (pc := 63) (v := nI 1) hx hb dX9_send_63 (by decide +kernel) ?_
        refine lv_iadd (pc := 64) hx hb dX9_send_64 ?_
        refine q_top (y := nI (cnt + 1)) (nI_add cnt 1) ?_
        refine va_putN (pc := 65) (D := D) (ci := 6) (v := .int (nI (cnt + 1))) (ty := .int) (C := RX8) (T := TX8) (N := 14) hx hb hts iu8 tyX8 tyX8_ok nmX8 hown hK hP hD hS 27 rfl rfl 12 (by decide) (va_Nw.use rfl (GC_w180 hG)) (fun _ h9 => h9) rfl (by decide +kernel) rfl rfl (Nat.le_of_ble_eq_true rfl) dX9_send_65 (fun H locs hP hD hS => ?_)
        have hP : va_P D vwCl [(lg 0, oG lg ya yb wa wb o v ct), (ya 0, oK ya 3 ln), (wa 1, oR (wa 2) len), (wa 2, aZ ta 32 ge), (wa 3, oR (wa 4) len), (wa 4, aZ ta 32 gm), (wa 15, oR (wa 16) 16), (wa 16, aZ ta 16 gh), (lg 5, oR (lg 6) nl), (lg 6, aZ ta 300 gl), (v 0, oV v), (v 1, oR (v 2) nt), (v 2, aZ ta 528 gt), (v 3, oR (v 4) nd), (v 4, aZ ta 300 gd), (v 7, oR (v 8) nv), (v 8, aZ ta 16 gv), (v 9, oR (v 10) 16), (v 10, aZ ta 16 gz), (v 11, oA (v 12) (v 13) (v 14) (v 15) (v 16) (v 17) rd), (v 12, aZ ta 16 ab), (v 13, aZ ta 16 af), (v 14, aZ ta 256 UBOX), (v 15, aI ta 64 kw), (v 16, aI ta 4 sw), (v 17, aI ta 4 xw), (v 18, aZ ta 16 tn), (wa 0, oW wa 2 lv (cnt + 1) cm), (wa 19, oR (wa 20) nta), (wa 20, aZ ta 204 g1_52), (lg 1, oR (lg 2) nta), (lg 2, aZ ta 400 gta)] H := hP
        have hD : va_D A [(lg 0, oG lg ya yb wa wb o v ct), (ya 0, oK ya 3 ln), (wa 1, oR (wa 2) len), (wa 2, aZ ta 32 ge), (wa 3, oR (wa 4) len), (wa 4, aZ ta 32 gm), (wa 15, oR (wa 16) 16), (wa 16, aZ ta 16 gh), (lg 5, oR (lg 6) nl), (lg 6, aZ ta 300 gl), (v 0, oV v), (v 1, oR (v 2) nt), (v 2, aZ ta 528 gt), (v 3, oR (v 4) nd), (v 4, aZ ta 300 gd), (v 7, oR (v 8) nv), (v 8, aZ ta 16 gv), (v 9, oR (v 10) 16), (v 10, aZ ta 16 gz), (v 11, oA (v 12) (v 13) (v 14) (v 15) (v 16) (v 17) rd), (v 12, aZ ta 16 ab), (v 13, aZ ta 16 af), (v 14, aZ ta 256 UBOX), (v 15, aI ta 64 kw), (v 16, aI ta 4 sw), (v 17, aI ta 4 xw), (v 18, aZ ta 16 tn), (wa 0, oW wa 2 lv (cnt + 1) cm), (wa 19, oR (wa 20) nta), (wa 20, aZ ta 204 g1_52), (lg 1, oR (lg 2) nta), (lg 2, aZ ta 400 gta)] := hD
        refine lv_aload_n (pc := 68) hx hb dX9_send_68 rfl (lv_at hl 2 rfl) ?_
        refine va_get (pc := 69) (D := D) (ci := 7) (v := .ref (wa 0)) (C := RX9) (T := TX9) (N := 11) hx hb hts iu9 hown hK hP 0 rfl rfl 6 (by decide) (hts _ tw_358) (fun _ h9 => h9) rfl dX9_send_69 ?_
        refine lv_iconst (pc := 72) (v := nI 1) hx hb dX9_send_72 (by decide +kernel) ?_
        refine q_tops (y := qb true) rfl ?_
        refine va_putN (pc := 73) (D := D) (ci := 6) (v := .int (qb true)) (ty := .boolean) (C := RX8) (T := TX8) (N := 14) hx hb hts iu8 tyX8 tyX8_ok nmX8 hown hK hP hD hS 27 rfl rfl 13 (by decide) (va_Nw.use rfl (GC_w183 hG)) (fun _ h9 => h9) rfl (by decide +kernel) (q_nbo _) (q_fbo _) (Nat.le_of_ble_eq_true rfl) dX9_send_73 (fun H locs hP hD hS => ?_)
        have hP : va_P D vwCl [(lg 0, oG lg ya yb wa wb o v ct), (ya 0, oK ya 3 ln), (wa 1, oR (wa 2) len), (wa 2, aZ ta 32 ge), (wa 3, oR (wa 4) len), (wa 4, aZ ta 32 gm), (wa 15, oR (wa 16) 16), (wa 16, aZ ta 16 gh), (lg 5, oR (lg 6) nl), (lg 6, aZ ta 300 gl), (v 0, oV v), (v 1, oR (v 2) nt), (v 2, aZ ta 528 gt), (v 3, oR (v 4) nd), (v 4, aZ ta 300 gd), (v 7, oR (v 8) nv), (v 8, aZ ta 16 gv), (v 9, oR (v 10) 16), (v 10, aZ ta 16 gz), (v 11, oA (v 12) (v 13) (v 14) (v 15) (v 16) (v 17) rd), (v 12, aZ ta 16 ab), (v 13, aZ ta 16 af), (v 14, aZ ta 256 UBOX), (v 15, aI ta 64 kw), (v 16, aI ta 4 sw), (v 17, aI ta 4 xw), (v 18, aZ ta 16 tn), (wa 0, oW wa 2 lv (cnt + 1) true), (wa 19, oR (wa 20) nta), (wa 20, aZ ta 204 g1_52), (lg 1, oR (lg 2) nta), (lg 2, aZ ta 400 gta)] H := hP
        have hD : va_D A [(lg 0, oG lg ya yb wa wb o v ct), (ya 0, oK ya 3 ln), (wa 1, oR (wa 2) len), (wa 2, aZ ta 32 ge), (wa 3, oR (wa 4) len), (wa 4, aZ ta 32 gm), (wa 15, oR (wa 16) 16), (wa 16, aZ ta 16 gh), (lg 5, oR (lg 6) nl), (lg 6, aZ ta 300 gl), (v 0, oV v), (v 1, oR (v 2) nt), (v 2, aZ ta 528 gt), (v 3, oR (v 4) nd), (v 4, aZ ta 300 gd), (v 7, oR (v 8) nv), (v 8, aZ ta 16 gv), (v 9, oR (v 10) 16), (v 10, aZ ta 16 gz), (v 11, oA (v 12) (v 13) (v 14) (v 15) (v 16) (v 17) rd), (v 12, aZ ta 16 ab), (v 13, aZ ta 16 af), (v 14, aZ ta 256 UBOX), (v 15, aI ta 64 kw), (v 16, aI ta 4 sw), (v 17, aI ta 4 xw), (v 18, aZ ta 16 tn), (wa 0, oW wa 2 lv (cnt + 1) true), (wa 19, oR (wa 20) nta), (wa 20, aZ ta 204 g1_52), (lg 1, oR (lg 2) nta), (lg 2, aZ ta 400 gta)] := hD
        refine lv_aload_n (pc := 76) hx hb dX9_send_76 rfl (lv_at hl 2 rfl) ?_
        refine lv_aload_n (pc := 77) hx hb dX9_send_77 rfl (lv_at hl 2 rfl) ?_
        refine va_get (pc := 78) (D := D) (ci := 7) (v := .ref (ya 0)) (C := RX9) (T := TX9) (N := 11) hx hb hts iu9 hown hK hP 0 rfl rfl 4 (by decide) (hts _ tw_356) (fun _ h9 => h9) rfl dX9_send_78 ?_
        refine cs_V (pc := 81) (idx := 109) (n := 1) (wr := [(wa 1, oR (wa 2) len), (wa 2, aZ ta 32 ge), (wa 3, oR (wa 4) len), (wa 4, aZ ta 32 gm), (wa 15, oR (wa 16) 16), (wa 16, aZ ta 16 gh), (lg 5, oR (lg 6) nl), (lg 6, aZ ta 300 gl), (v 0, oV v), (v 1, oR (v 2) nt), (v 2, aZ ta 528 gt), (v 3, oR (v 4) nd), (v 4, aZ ta 300 gd), (v 7, oR (v 8) nv), (v 8, aZ ta 16 gv), (v 9, oR (v 10) 16), (v 10, aZ ta 16 gz), (v 11, oA (v 12) (v 13) (v 14) (v 15) (v 16) (v 17) rd), (v 12, aZ ta 16 ab), (v 13, aZ ta 16 af), (v 14, aZ ta 256 UBOX), (v 15, aI ta 64 kw), (v 16, aI ta 4 sw), (v 17, aI ta 4 xw), (v 18, aZ ta 16 tn), (wa 0, oW wa 2 lv (cnt + 1) true), (wa 19, oR (wa 20) nta), (wa 20, aZ ta 204 g1_52), (lg 1, oR (lg 2) nta), (lg 2, aZ ta 400 gta)]) (As := [.ref (ya 0)]) (rest := []) (ci := 7) hx hb hml hown hts hGok hK hA hG hl.1 hP hD hS (ct_X9_ruleOf_3 ll D ta gs lg ya yb wa wb o v ct ya ln  H.size) tw_489 tw_486 tw_488 tw_2 tw_65 hdX9_ruleOf rfl ⟨rfl, rfl, Nat.le_of_ble_eq_true rfl, Nat.le_of_ble_eq_true rfl, Nat.le_of_ble_eq_true rfl, Nat.le_of_ble_eq_true rfl⟩ rfl rfl (q0 := 0) rfl [0, 1] [2, 3, 4, 5, 6, 7, 8, 9, 10, 11, 12, 13, 14, 15, 16, 17, 18, 19, 20, 21, 22, 23, 24, 25, 26, 27, 28, 29, 30, 31] rfl rfl (by decide) rfl (Nat.le_of_ble_eq_true rfl) dX9_send_81 (fun u H locs hq hP hD hS => ?_)
        refine W.eq (g2 := F0 mm 84 ls [.ref (v 0)]) rfl ?_
        have hP : va_P D vwCl [(wa 1, oR (wa 2) len), (wa 2, aZ ta 32 ge), (wa 3, oR (wa 4) len), (wa 4, aZ ta 32 gm), (wa 15, oR (wa 16) 16), (wa 16, aZ ta 16 gh), (lg 5, oR (lg 6) nl), (lg 6, aZ ta 300 gl), (v 0, oV v), (v 1, oR (v 2) nt), (v 2, aZ ta 528 gt), (v 3, oR (v 4) nd), (v 4, aZ ta 300 gd), (v 7, oR (v 8) nv), (v 8, aZ ta 16 gv), (v 9, oR (v 10) 16), (v 10, aZ ta 16 gz), (v 11, oA (v 12) (v 13) (v 14) (v 15) (v 16) (v 17) rd), (v 12, aZ ta 16 ab), (v 13, aZ ta 16 af), (v 14, aZ ta 256 UBOX), (v 15, aI ta 64 kw), (v 16, aI ta 4 sw), (v 17, aI ta 4 xw), (v 18, aZ ta 16 tn), (wa 0, oW wa 2 lv (cnt + 1) true), (wa 19, oR (wa 20) nta), (wa 20, aZ ta 204 g1_52), (lg 1, oR (lg 2) nta), (lg 2, aZ ta 400 gta), (lg 0, oG lg ya yb wa wb o v ct), (ya 0, oK ya 3 ln)] H := hP
        have hD : va_D A [(wa 1, oR (wa 2) len), (wa 2, aZ ta 32 ge), (wa 3, oR (wa 4) len), (wa 4, aZ ta 32 gm), (wa 15, oR (wa 16) 16), (wa 16, aZ ta 16 gh), (lg 5, oR (lg 6) nl), (lg 6, aZ ta 300 gl), (v 0, oV v), (v 1, oR (v 2) nt), (v 2, aZ ta 528 gt), (v 3, oR (v 4) nd), (v 4, aZ ta 300 gd), (v 7, oR (v 8) nv), (v 8, aZ ta 16 gv), (v 9, oR (v 10) 16), (v 10, aZ ta 16 gz), (v 11, oA (v 12) (v 13) (v 14) (v 15) (v 16) (v 17) rd), (v 12, aZ ta 16 ab), (v 13, aZ ta 16 af), (v 14, aZ ta 256 UBOX), (v 15, aI ta 64 kw), (v 16, aI ta 4 sw), (v 17, aI ta 4 xw), (v 18, aZ ta 16 tn), (wa 0, oW wa 2 lv (cnt + 1) true), (wa 19, oR (wa 20) nta), (wa 20, aZ ta 204 g1_52), (lg 1, oR (lg 2) nta), (lg 2, aZ ta 400 gta), (lg 0, oG lg ya yb wa wb o v ct), (ya 0, oK ya 3 ln)] := hD
        refine lv_aload_n (pc := 84) hx hb dX9_send_84 rfl (lv_at hl 2 rfl) ?_
        refine va_get (pc := 85) (D := D) (ci := 7) (v := .ref (wa 0)) (C := RX9) (T := TX9) (N := 11) hx hb hts iu9 hown hK hP 30 rfl rfl 6 (by decide) (hts _ tw_358) (fun _ h9 => h9) rfl dX9_send_85 ?_
        refine lv_aload_n (pc := 88) hx hb dX9_send_88 rfl (lv_at hl 2 rfl) ?_
        refine va_get (pc := 89) (D := D) (ci := 7) (v := .ref (lg 5)) (C := RX9) (T := TX9) (N := 11) hx hb hts iu9 hown hK hP 30 rfl rfl 2 (by decide) (hts _ tw_354) (fun _ h9 => h9) rfl dX9_send_89 ?_
        refine cs_U (pc := 92) (idx := 157) (n := 2) (wr := [(lg 1, oR (lg 2) nta), (lg 2, aZ ta 400 gta), (lg 0, oG lg ya yb wa wb o v ct), (ya 0, oK ya 3 ln)]) (As := [.ref (wa 0), .ref (lg 5)]) (rest := []) (ci := 3) (x := ⟨"LineGuard$Rule", "secure", "(LLineGuard$Session;LLineGuard$Row;)V"⟩) (owner := "LineGuard$Rule") hx hb hml hown hts hGok hK hA hG hl.1 hP hD hS (ct_X4_secure ll D ta gs v gz rd ab af kw sw xw tn wa 2 lv (cnt + 1) true gt nt gd nd gv nv ge gm len gh g1_52 nta (lg 5) (lg 6) 300 gl nl (by first | assumption | omega | rfl | decide) (by first | assumption | omega | rfl | decide) (by first | assumption | omega | rfl | decide) (by first | assumption | omega | rfl | decide) (by first | assumption | omega | rfl | decide) (by first | assumption | omega | rfl | decide) H.size) tw_715 tw_710 tw_714 tw_713 tw_73 tw_712 (va_Decl.abs (GC_w711 hG)) ⟨by decide +kernel, by decide +kernel, by decide +kernel⟩ rfl ⟨rfl, rfl, Nat.le_of_ble_eq_true rfl, Nat.le_of_ble_eq_true rfl, Nat.le_of_ble_eq_true rfl, Nat.le_of_ble_eq_true rfl⟩ rfl (q0 := 8) rfl [8, 9, 10, 11, 12, 13, 14, 15, 16, 17, 18, 19, 20, 21, 22, 23, 24, 25, 0, 1, 2, 3, 4, 5, 26, 27, 6, 7] [28, 29, 30, 31] rfl rfl (by decide) rfl (Nat.le_of_ble_eq_true rfl) dX9_send_92 (fun u H locs hq hP hD hS => ?_)
        obtain ⟨gt1_92, nt1_92, gd1_92, nd1_92, gv1_92, nv1_92, rd1_92, ab1_92, af1_92, kw1_92, sw1_92, xw1_92, tn1_92, gh1_92, gl1_92, nl1_92⟩ := u
        have hq : (qL gh1_92 16 = chain3 (qL gm len) (qL gh 16) (qL g1_52 nta) (secD3 (qL ge len) (cnt + 1) lv (qL g1_52 nta))) ∧ (qL gl1_92 nl1_92 = putC (qL g1_52 nta) (secD3 (qL ge len) (cnt + 1) lv (qL g1_52 nta)) (qL gh1_92 16)) ∧ (nl1_92 = (secD3 (qL ge len) (cnt + 1) lv (qL g1_52 nta)).length + 12 ∧ nl1_92 ≤ 220) := hq
        obtain ⟨hch_92, hl9_92, hnl_92⟩ := hq
        refine W.eq (g2 := F0 mm 95 ls []) rfl ?_
        have hP : va_P D vwCl [(lg 1, oR (lg 2) nta), (lg 2, aZ ta 400 gta), (lg 0, oG lg ya yb wa wb o v ct), (ya 0, oK ya 3 ln), (v 0, oV v), (v 1, oR (v 2) nt1_92), (v 2, aZ ta 528 gt1_92), (v 3, oR (v 4) nd1_92), (v 4, aZ ta 300 gd1_92), (v 7, oR (v 8) nv1_92), (v 8, aZ ta 16 gv1_92), (v 9, oR (v 10) 16), (v 10, aZ ta 16 gz), (v 11, oA (v 12) (v 13) (v 14) (v 15) (v 16) (v 17) rd1_92), (v 12, aZ ta 16 ab1_92), (v 13, aZ ta 16 af1_92), (v 14, aZ ta 256 UBOX), (v 15, aI ta 64 kw1_92), (v 16, aI ta 4 sw1_92), (v 17, aI ta 4 xw1_92), (v 18, aZ ta 16 tn1_92), (wa 0, oW wa 2 lv (cnt + 1) true), (wa 1, oR (wa 2) len), (wa 2, aZ ta 32 ge), (wa 3, oR (wa 4) len), (wa 4, aZ ta 32 gm), (wa 15, oR (wa 16) 16), (wa 16, aZ ta 16 gh1_92), (wa 19, oR (wa 20) nta), (wa 20, aZ ta 204 g1_52), (lg 5, oR (lg 6) nl1_92), (lg 6, aZ ta 300 gl1_92)] H := hP
        have hD : va_D A [(lg 1, oR (lg 2) nta), (lg 2, aZ ta 400 gta), (lg 0, oG lg ya yb wa wb o v ct), (ya 0, oK ya 3 ln), (v 0, oV v), (v 1, oR (v 2) nt1_92), (v 2, aZ ta 528 gt1_92), (v 3, oR (v 4) nd1_92), (v 4, aZ ta 300 gd1_92), (v 7, oR (v 8) nv1_92), (v 8, aZ ta 16 gv1_92), (v 9, oR (v 10) 16), (v 10, aZ ta 16 gz), (v 11, oA (v 12) (v 13) (v 14) (v 15) (v 16) (v 17) rd1_92), (v 12, aZ ta 16 ab1_92), (v 13, aZ ta 16 af1_92), (v 14, aZ ta 256 UBOX), (v 15, aI ta 64 kw1_92), (v 16, aI ta 4 sw1_92), (v 17, aI ta 4 xw1_92), (v 18, aZ ta 16 tn1_92), (wa 0, oW wa 2 lv (cnt + 1) true), (wa 1, oR (wa 2) len), (wa 2, aZ ta 32 ge), (wa 3, oR (wa 4) len), (wa 4, aZ ta 32 gm), (wa 15, oR (wa 16) 16), (wa 16, aZ ta 16 gh1_92), (wa 19, oR (wa 20) nta), (wa 20, aZ ta 204 g1_52), (lg 5, oR (lg 6) nl1_92), (lg 6, aZ ta 300 gl1_92)] := hD
        rw [hL_52] at hch_92 hl9_92 hnl_92
        refine lv_aload_n (pc := 95) hx hb dX9_send_95 rfl (lv_at hl 2 rfl) ?_
        refine va_get (pc := 96) (D := D) (ci := 7) (v := .ref (lg 1)) (C := RX9) (T := TX9) (N := 11) hx hb hts iu9 hown hK hP 2 rfl rfl 0 (by decide) (hts _ tw_352) (fun _ h9 => h9) rfl dX9_send_96 ?_
        refine cs_V (pc := 99) (idx := 88) (n := 0) (wr := [(lg 0, oG lg ya yb wa wb o v ct), (ya 0, oK ya 3 ln), (v 0, oV v), (v 1, oR (v 2) nt1_92), (v 2, aZ ta 528 gt1_92), (v 3, oR (v 4) nd1_92), (v 4, aZ ta 300 gd1_92), (v 7, oR (v 8) nv1_92), (v 8, aZ ta 16 gv1_92), (v 9, oR (v 10) 16), (v 10, aZ ta 16 gz), (v 11, oA (v 12) (v 13) (v 14) (v 15) (v 16) (v 17) rd1_92), (v 12, aZ ta 16 ab1_92), (v 13, aZ ta 16 af1_92), (v 14, aZ ta 256 UBOX), (v 15, aI ta 64 kw1_92), (v 16, aI ta 4 sw1_92), (v 17, aI ta 4 xw1_92), (v 18, aZ ta 16 tn1_92), (wa 0, oW wa 2 lv (cnt + 1) true), (wa 1, oR (wa 2) len), (wa 2, aZ ta 32 ge), (wa 3, oR (wa 4) len), (wa 4, aZ ta 32 gm), (wa 15, oR (wa 16) 16), (wa 16, aZ ta 16 gh1_92), (wa 19, oR (wa 20) nta), (wa 20, aZ ta 204 g1_52), (lg 5, oR (lg 6) nl1_92), (lg 6, aZ ta 300 gl1_92)]) (As := []) (rest := []) (ci := 5) hx hb hml hown hts hGok hK hA hG hl.1 hP hD hS (ct_X6_clear ll D ta hGok (lg 1) (lg 2) 400 gta nta  H.size) tw_441 tw_447 tw_439 tw_440 tw_66 hdX6_clear rfl ⟨rfl, rfl, Nat.le_of_ble_eq_true rfl, Nat.le_of_ble_eq_true rfl, Nat.le_of_ble_eq_true rfl, Nat.le_of_ble_eq_true rfl⟩ rfl rfl (q0 := 0) rfl [0, 1] [2, 3, 4, 5, 6, 7, 8, 9, 10, 11, 12, 13, 14, 15, 16, 17, 18, 19, 20, 21, 22, 23, 24, 25, 26, 27, 28, 29, 30, 31] rfl rfl (by decide) rfl (Nat.le_of_ble_eq_true rfl) dX9_send_99 (fun u H locs hq hP hD hS => ?_)
        refine W.eq (g2 := F0 mm 102 ls []) rfl ?_
        have hP : va_P D vwCl [(lg 0, oG lg ya yb wa wb o v ct), (ya 0, oK ya 3 ln), (v 0, oV v), (v 1, oR (v 2) nt1_92), (v 2, aZ ta 528 gt1_92), (v 3, oR (v 4) nd1_92), (v 4, aZ ta 300 gd1_92), (v 7, oR (v 8) nv1_92), (v 8, aZ ta 16 gv1_92), (v 9, oR (v 10) 16), (v 10, aZ ta 16 gz), (v 11, oA (v 12) (v 13) (v 14) (v 15) (v 16) (v 17) rd1_92), (v 12, aZ ta 16 ab1_92), (v 13, aZ ta 16 af1_92), (v 14, aZ ta 256 UBOX), (v 15, aI ta 64 kw1_92), (v 16, aI ta 4 sw1_92), (v 17, aI ta 4 xw1_92), (v 18, aZ ta 16 tn1_92), (wa 0, oW wa 2 lv (cnt + 1) true), (wa 1, oR (wa 2) len), (wa 2, aZ ta 32 ge), (wa 3, oR (wa 4) len), (wa 4, aZ ta 32 gm), (wa 15, oR (wa 16) 16), (wa 16, aZ ta 16 gh1_92), (wa 19, oR (wa 20) nta), (wa 20, aZ ta 204 g1_52), (lg 5, oR (lg 6) nl1_92), (lg 6, aZ ta 300 gl1_92), (lg 1, oR (lg 2) 0), (lg 2, aZ ta 400 gta)] H := hP
        have hD : va_D A [(lg 0, oG lg ya yb wa wb o v ct), (ya 0, oK ya 3 ln), (v 0, oV v), (v 1, oR (v 2) nt1_92), (v 2, aZ ta 528 gt1_92), (v 3, oR (v 4) nd1_92), (v 4, aZ ta 300 gd1_92), (v 7, oR (v 8) nv1_92), (v 8, aZ ta 16 gv1_92), (v 9, oR (v 10) 16), (v 10, aZ ta 16 gz), (v 11, oA (v 12) (v 13) (v 14) (v 15) (v 16) (v 17) rd1_92), (v 12, aZ ta 16 ab1_92), (v 13, aZ ta 16 af1_92), (v 14, aZ ta 256 UBOX), (v 15, aI ta 64 kw1_92), (v 16, aI ta 4 sw1_92), (v 17, aI ta 4 xw1_92), (v 18, aZ ta 16 tn1_92), (wa 0, oW wa 2 lv (cnt + 1) true), (wa 1, oR (wa 2) len), (wa 2, aZ ta 32 ge), (wa 3, oR (wa 4) len), (wa 4, aZ ta 32 gm), (wa 15, oR (wa 16) 16), (wa 16, aZ ta 16 gh1_92), (wa 19, oR (wa 20) nta), (wa 20, aZ ta 204 g1_52), (lg 5, oR (lg 6) nl1_92), (lg 6, aZ ta 300 gl1_92), (lg 1, oR (lg 2) 0), (lg 2, aZ ta 400 gta)] := hD
        refine lv_iload_n (pc := 102) hx hb dX9_send_102 rfl (lv_at hl 0 rfl) ?_
        refine lv_if_eq (pc := 103) (tgt := 116) hx hb dX9_send_103 (by decide) (fun c_5 => absurd c_5 (by decide)) (fun _ => ?_)
        refine lv_aload_n (pc := 106) hx hb dX9_send_106 rfl (lv_at hl 2 rfl) ?_
        refine va_get (pc := 107) (D := D) (ci := 7) (v := .ref (lg 5)) (C := RX9) (T := TX9) (N := 11) hx hb hts iu9 hown hK hP 0 rfl rfl 2 (by decide) (hts _ tw_354) (fun _ h9 => h9) rfl dX9_send_107 ?_
        refine cs_V (pc := 110) (idx := 64) (n := 0) (wr := [(lg 0, oG lg ya yb wa wb o v ct), (ya 0, oK ya 3 ln), (v 0, oV v), (v 1, oR (v 2) nt1_92), (v 2, aZ ta 528 gt1_92), (v 3, oR (v 4) nd1_92), (v 4, aZ ta 300 gd1_92), (v 7, oR (v 8) nv1_92), (v 8, aZ ta 16 gv1_92), (v 9, oR (v 10) 16), (v 10, aZ ta 16 gz), (v 11, oA (v 12) (v 13) (v 14) (v 15) (v 16) (v 17) rd1_92), (v 12, aZ ta 16 ab1_92), (v 13, aZ ta 16 af1_92), (v 14, aZ ta 256 UBOX), (v 15, aI ta 64 kw1_92), (v 16, aI ta 4 sw1_92), (v 17, aI ta 4 xw1_92), (v 18, aZ ta 16 tn1_92), (wa 0, oW wa 2 lv (cnt + 1) true), (wa 1, oR (wa 2) len), (wa 2, aZ ta 32 ge), (wa 3, oR (wa 4) len), (wa 4, aZ ta 32 gm), (wa 15, oR (wa 16) 16), (wa 16, aZ ta 16 gh1_92), (wa 19, oR (wa 20) nta), (wa 20, aZ ta 204 g1_52), (lg 1, oR (lg 2) 0), (lg 2, aZ ta 400 gta)]) (As := []) (rest := []) (ci := 5) hx hb hml hown hts hGok hK hA hG hl.1 hP hD hS (ct_X6_size ll D ta hGok (lg 5) (lg 6) 300 gl1_92 nl1_92  H.size) tw_393 tw_390 tw_391 tw_392 tw_66 hdX6_size rfl ⟨rfl, rfl, Nat.le_of_ble_eq_true rfl, Nat.le_of_ble_eq_true rfl, Nat.le_of_ble_eq_true rfl, Nat.le_of_ble_eq_true rfl⟩ rfl rfl (q0 := 28) rfl [28, 29] [0, 1, 2, 3, 4, 5, 6, 7, 8, 9, 10, 11, 12, 13, 14, 15, 16, 17, 18, 19, 20, 21, 22, 23, 24, 25, 26, 27, 30, 31] rfl rfl (by decide) rfl (Nat.le_of_ble_eq_true rfl) dX9_send_110 (fun u H locs hq hP hD hS => ?_)
        refine W.eq (g2 := F0 mm 113 ls [.int (nI nl1_92)]) rfl ?_
        have hP : va_P D vwCl [(lg 0, oG lg ya yb wa wb o v ct), (ya 0, oK ya 3 ln), (v 0, oV v), (v 1, oR (v 2) nt1_92), (v 2, aZ ta 528 gt1_92), (v 3, oR (v 4) nd1_92), (v 4, aZ ta 300 gd1_92), (v 7, oR (v 8) nv1_92), (v 8, aZ ta 16 gv1_92), (v 9, oR (v 10) 16), (v 10, aZ ta 16 gz), (v 11, oA (v 12) (v 13) (v 14) (v 15) (v 16) (v 17) rd1_92), (v 12, aZ ta 16 ab1_92), (v 13, aZ ta 16 af1_92), (v 14, aZ ta 256 UBOX), (v 15, aI ta 64 kw1_92), (v 16, aI ta 4 sw1_92), (v 17, aI ta 4 xw1_92), (v 18, aZ ta 16 tn1_92), (wa 0, oW wa 2 lv (cnt + 1) true), (wa 1, oR (wa 2) len), (wa 2, aZ ta 32 ge), (wa 3, oR (wa 4) len), (wa 4, aZ ta 32 gm), (wa 15, oR (wa 16) 16), (wa 16, aZ ta 16 gh1_92), (wa 19, oR (wa 20) nta), (wa 20, aZ ta 204 g1_52), (lg 1, oR (lg 2) 0), (lg 2, aZ ta 400 gta), (lg 5, oR (lg 6) nl1_92), (lg 6, aZ ta 300 gl1_92)] H := hP
        have hD : va_D A [(lg 0, oG lg ya yb wa wb o v ct), (ya 0, oK ya 3 ln), (v 0, oV v), (v 1, oR (v 2) nt1_92), (v 2, aZ ta 528 gt1_92), (v 3, oR (v 4) nd1_92), (v 4, aZ ta 300 gd1_92), (v 7, oR (v 8) nv1_92), (v 8, aZ ta 16 gv1_92), (v 9, oR (v 10) 16), (v 10, aZ ta 16 gz), (v 11, oA (v 12) (v 13) (v 14) (v 15) (v 16) (v 17) rd1_92), (v 12, aZ ta 16 ab1_92), (v 13, aZ ta 16 af1_92), (v 14, aZ ta 256 UBOX), (v 15, aI ta 64 kw1_92), (v 16, aI ta 4 sw1_92), (v 17, aI ta 4 xw1_92), (v 18, aZ ta 16 tn1_92), (wa 0, oW wa 2 lv (cnt + 1) true), (wa 1, oR (wa 2) len), (wa 2, aZ ta 32 ge), (wa 3, oR (wa 4) len), (wa 4, aZ ta 32 gm), (wa 15, oR (wa 16) 16), (wa 16, aZ ta 16 gh1_92), (wa 19, oR (wa 20) nta), (wa 20, aZ ta 204 g1_52), (lg 1, oR (lg 2) 0), (lg 2, aZ ta 400 gta), (lg 5, oR (lg 6) nl1_92), (lg 6, aZ ta 300 gl1_92)] := hD
        refine lv_goto (pc := 113) (tgt := 117) hx hb dX9_send_113 (by decide) ?_
        have hq_6 : (qL gh1_92 16 = chain3 (qL gm len) (qL gh 16) (qL gta nta) (secD3 (qL ge len) (cnt + 1) lv (qL gta nta))) ∧ (qL gl1_92 nl1_92 = putC (qL gta nta) (secD3 (qL ge len) (cnt + 1) lv (qL gta nta)) (qL gh1_92 16)) ∧ (qL g1_52 nta = qL gta nta) ∧ (nl1_92 = (secD3 (qL ge len) (cnt + 1) lv (qL gta nta)).length + 12 ∧ nl1_92 ≤ 220) := by
          exact ⟨hch_92, hl9_92, hL_52, hnl_92⟩
        exact hret (⟨(gt1_92), (nt1_92), (gd1_92), (nd1_92), (gv1_92), (nv1_92), (rd1_92), (ab1_92), (af1_92), (kw1_92), (sw1_92), (xw1_92), (tn1_92), (gh1_92), (g1_52), (gl1_92), (nl1_92)⟩ : (Nat → BitVec 8) × Nat × (Nat → BitVec 8) × Nat × (Nat → BitVec 8) × Nat × Nat × (Nat → BitVec 8) × (Nat → BitVec 8) × (Nat → Int32) × (Nat → Int32) × (Nat → Int32) × (Nat → BitVec 8) × (Nat → BitVec 8) × (Nat → BitVec 8) × (Nat → BitVec 8) × Nat) _ _ _ _ dX9_send_117 hq_6 (hP.sub [0, 1, 19, 20, 21, 22, 23, 24, 25, 26, 27, 28, 29, 30, 31, 2, 3, 4, 5, 6, 7, 8, 9, 10, 11, 12, 13, 14, 15, 16, 17, 18] rfl) (hD.sub [0, 1, 19, 20, 21, 22, 23, 24, 25, 26, 27, 28, 29, 30, 31, 2, 3, 4, 5, 6, 7, 8, 9, 10, 11, 12, 13, 14, 15, 16, 17, 18] (by decide) rfl) hS
set_option maxHeartbeats 4000000 in
set_option maxRecDepth 100000 in
theorem ct_X9_prove_O (ll : Launch) (D : va_G) (ta : Nat → ClassId) (gs : Nat → Nat) (lg : Nat → Nat) (ya : Nat → Nat) (yb : Nat → Nat) (wa : Nat → Nat) (wb : Nat → Nat) (o : Nat → Nat) (v : Nat → Nat) (ct : Nat) (gz : Nat → BitVec 8) (tri : Bool) (gb : Nat → BitVec 8) (bf : Nat → BitVec 8) (f : Nat → Int64) (s : Nat → Int64) (spb : Nat → Int32) (gt : Nat → BitVec 8) (nt : Nat) (gd : Nat → BitVec 8) (nd : Nat) (gv : Nat → BitVec 8) (nv : Nat) (ge : Nat → BitVec 8) (gm : Nat → BitVec 8) (gh : Nat → BitVec 8) (nh : Nat) (gc : Nat → BitVec 8) (nc : Nat) (gl : Nat → BitVec 8) (nl : Nat) (ln : Nat) (gcp : Nat → BitVec 8) (gbc : Nat → BitVec 8) (nbc : Nat) (l : Nat) (hz : qL gz 16 = zeroL 16) (hsp : spbOK spb) (hnh : 8 ≤ nh ∧ nh ≤ 16) (hli : nl ≤ 300) (hl64 : l < 64) (hlev : levB (nI l) false = true) (sz : Nat) : CT ll yX9_prove cX9_prove 3 (some .int) ({ frames := 6, cells := 0, slots := 0, locals := 149 } : Room) D ta ((GC gs)) [.ref (lg 0), .int (nI l)] [(lg 0, oG lg ya yb wa wb o v ct), (ya 0, oK ya 2 ln), (wa 0, oW wa 1 0 0 false), (wa 1, oR (wa 2) 16), (wa 2, aZ ta 32 ge), (wa 3, oR (wa 4) 16), (wa 4, aZ ta 32 gm), (wa 15, oR (wa 16) nh), (wa 16, aZ ta 16 gh), (wa 19, oR (wa 20) nc), (wa 20, aZ ta 204 gc), (wa 11, oR (wa 12) 8), (wa 12, aZ ta 8 gcp), (wa 17, oR (wa 18) nbc), (wa 18, aZ ta 8 gbc), (lg 5, oR (lg 6) nl), (lg 6, aZ ta 300 gl), (o 0, oO o), (o 1, oR (o 2) nt), (o 2, aZ ta 528 gt), (o 3, oR (o 4) nd), (o 4, aZ ta 300 gd), (o 7, oR (o 8) nv), (o 8, aZ ta 16 gv), (o 9, oR (o 10) 16), (o 10, aZ ta 16 gz), (o 11, oD (o 12) (o 13) (o 14) (o 15) (o 16) tri), (o 12, aZ ta 8 gb), (o 13, aZ ta 8 bf), (o 14, aI ta 512 spb), (o 15, aJ ta 16 f), (o 16, aJ ta 16 s)] sz (S := (Nat → BitVec 8) × Nat × (Nat → BitVec 8) × Nat × (Nat → BitVec 8) × Nat × Bool × (Nat → BitVec 8) × (Nat → BitVec 8) × (Nat → Int64) × (Nat → Int64) × (Nat → BitVec 8) × (Nat → BitVec 8) × (Nat → BitVec 8) × (Nat → BitVec 8)) (fun u => some (.int (nI 20))) (fun u => (qL u.2.2.2.2.2.2.2.2.2.2.2.1 8 = chain2 (qL gm 16) 0 (qL gh nh) (prvC l (qL gcp 8))) ∧ (qL u.2.2.2.2.2.2.2.2.2.2.2.2.2.2 20 = (prvC l (qL gcp 8)) ++ (qL u.2.2.2.2.2.2.2.2.2.2.2.1 8).take 8) ∧ (qL u.2.2.2.2.2.2.2.2.2.2.2.2.2.1 8 = (qL u.2.2.2.2.2.2.2.2.2.2.2.1 8).take 8)) (fun u => [(lg 0, oG lg ya yb wa wb o v ct), (ya 0, oK ya 2 ln), (wa 0, oW wa 2 l 0 false), (wa 1, oR (wa 2) 16), (wa 2, aZ ta 32 ge), (wa 3, oR (wa 4) 16), (wa 4, aZ ta 32 gm), (wa 15, oR (wa 16) 8), (wa 16, aZ ta 16 u.2.2.2.2.2.2.2.2.2.2.2.1), (wa 19, oR (wa 20) (0 + 1 + 1 + 1 + 1 + 8)), (wa 20, aZ ta 204 u.2.2.2.2.2.2.2.2.2.2.2.2.1), (wa 11, oR (wa 12) 8), (wa 12, aZ ta 8 gcp), (wa 17, oR (wa 18) 8), (wa 18, aZ ta 8 u.2.2.2.2.2.2.2.2.2.2.2.2.2.1), (lg 5, oR (lg 6) 20), (lg 6, aZ ta 300 u.2.2.2.2.2.2.2.2.2.2.2.2.2.2), (o 0, oO o), (o 1, oR (o 2) u.2.1), (o 2, aZ ta 528 u.1), (o 3, oR (o 4) u.2.2.2.1), (o 4, aZ ta 300 u.2.2.1), (o 7, oR (o 8) u.2.2.2.2.2.1), (o 8, aZ ta 16 u.2.2.2.2.1), (o 9, oR (o 10) 16), (o 10, aZ ta 16 gz), (o 11, oD (o 12) (o 13) (o 14) (o 15) (o 16) u.2.2.2.2.2.2.1), (o 12, aZ ta 8 u.2.2.2.2.2.2.2.1), (o 13, aZ ta 8 u.2.2.2.2.2.2.2.2.1), (o 14, aI ta 512 spb), (o 15, aJ ta 16 u.2.2.2.2.2.2.2.2.2.1), (o 16, aJ ta 16 u.2.2.2.2.2.2.2.2.2.2.1)]) 0 0 := by
  refine CT.of_i (r := fun u => nI 20) rfl (by decide) (Nat.le_of_ble_eq_true rfl) ?_
  have hGok := GC_ok gs
  intro pp ee ss mm below meth kc A Q hx hb hml hown hin hts hK hA hsz hG hret H locs hP hD hS ls hl
  have hl : lv_has ls 3 [(0, .ref (lg 0)), (1, .int (nI l))] := hl
  refine lv_aload_n (pc := 0) hx hb dX9_prove_0 rfl (lv_at hl 0 rfl) ?_
  refine lv_aload_n (pc := 1) hx hb dX9_prove_1 rfl (lv_at hl 0 rfl) ?_
  refine va_get (pc := 2) (D := D) (ci := 7) (v := .ref (ya 0)) (C := RX9) (T := TX9) (N := 11) hx hb hts iu9 hown hK hP 0 rfl rfl 4 (by decide) (hts _ tw_356) (fun _ h9 => h9) rfl dX9_prove_2 ?_
  refine cs_V (pc := 5) (idx := 109) (n := 1) (wr := [(wa 0, oW wa 1 0 0 false), (wa 1, oR (wa 2) 16), (wa 2, aZ ta 32 ge), (wa 3, oR (wa 4) 16), (wa 4, aZ ta 32 gm), (wa 15, oR (wa 16) nh), (wa 16, aZ ta 16 gh), (wa 19, oR (wa 20) nc), (wa 20, aZ ta 204 gc), (wa 11, oR (wa 12) 8), (wa 12, aZ ta 8 gcp), (wa 17, oR (wa 18) nbc), (wa 18, aZ ta 8 gbc), (lg 5, oR (lg 6) nl), (lg 6, aZ ta 300 gl), (o 0, oO o), (o 1, oR (o 2) nt), (o 2, aZ ta 528 gt), (o 3, oR (o 4) nd), (o 4, aZ ta 300 gd), (o 7, oR (o 8) nv), (o 8, aZ ta 16 gv), (o 9, oR (o 10) 16), (o 10, aZ ta 16 gz), (o 11, oD (o 12) (o 13) (o 14) (o 15) (o 16) tri), (o 12, aZ ta 8 gb), (o 13, aZ ta 8 bf), (o 14, aI ta 512 spb), (o 15, aJ ta 16 f), (o 16, aJ ta 16 s)]) (As := [.ref (ya 0)]) (rest := []) (ci := 7) hx hb hml hown hts hGok hK hA hG hl.1 hP hD hS (ct_X9_ruleOf_2 ll D ta gs lg ya yb wa wb o v ct ya 2 ln (by first | assumption | omega | rfl | decide) H.size) tw_489 tw_486 tw_488 tw_2 tw_65 hdX9_ruleOf rfl ⟨rfl, rfl, Nat.le_of_ble_eq_true rfl, Nat.le_of_ble_eq_true rfl, Nat.le_of_ble_eq_true rfl, Nat.le_of_ble_eq_true rfl⟩ rfl rfl (q0 := 0) rfl [0, 1] [2, 3, 4, 5, 6, 7, 8, 9, 10, 11, 12, 13, 14, 15, 16, 17, 18, 19, 20, 21, 22, 23, 24, 25, 26, 27, 28, 29, 30, 31] rfl rfl (by decide) rfl (Nat.le_of_ble_eq_true rfl) dX9_prove_5 (fun u H locs hq hP hD hS => ?_)
  refine W.eq (g2 := F0 mm 8 ls [.ref (o 0)]) rfl ?_
  have hP : va_P D vwCl [(wa 0, oW wa 1 0 0 false), (wa 1, oR (wa 2) 16), (wa 2, aZ ta 32 ge), (wa 3, oR (wa 4) 16), (wa 4, aZ ta 32 gm), (wa 15, oR (wa 16) nh), (wa 16, aZ ta 16 gh), (wa 19, oR (wa 20) nc), (wa 20, aZ ta 204 gc), (wa 11, oR (wa 12) 8), (wa 12, aZ ta 8 gcp), (wa 17, oR (wa 18) nbc), (wa 18, aZ ta 8 gbc), (lg 5, oR (lg 6) nl), (lg 6, aZ ta 300 gl), (o 0, oO o), (o 1, oR (o 2) nt), (o 2, aZ ta 528 gt), (o 3, oR (o 4) nd), (o 4, aZ ta 300 gd), (o 7, oR (o 8) nv), (o 8, aZ ta 16 gv), (o 9, oR (o 10) 16), (o 10, aZ ta 16 gz), (o 11, oD (o 12) (o 13) (o 14) (o 15) (o 16) tri), (o 12, aZ ta 8 gb), (o 13, aZ ta 8 bf), (o 14, aI ta 512 spb), (o 15, aJ ta 16 f), (o 16, aJ ta 16 s), (lg 0, oG lg ya yb wa wb o v ct), (ya 0, oK ya 2 ln)] H := hP
  have hD : va_D A [(wa 0, oW wa 1 0 0 false), (wa 1, oR (wa 2) 16), (wa 2, aZ ta 32 ge), (wa 3, oR (wa 4) 16), (wa 4, aZ ta 32 gm), (wa 15, oR (wa 16) nh), (wa 16, aZ ta 16 gh), (wa 19, oR (wa 20) nc), (wa 20, aZ ta 204 gc), (wa 11, oR (wa 12) 8), (wa 12, aZ ta 8 gcp), (wa 17, oR (wa 18) nbc), (wa 18, aZ ta 8 gbc), (lg 5, oR (lg 6) nl), (lg 6, aZ ta 300 gl), (o 0, oO o), (o 1, oR (o 2) nt), (o 2, aZ ta 528 gt), (o 3, oR (o 4) nd), (o 4, aZ ta 300 gd), (o 7, oR (o 8) nv), (o 8, aZ ta 16 gv), (o 9, oR (o 10) 16), (o 10, aZ ta 16 gz), (o 11, oD (o 12) (o 13) (o 14) (o 15) (o 16) tri), (o 12, aZ ta 8 gb), (o 13, aZ ta 8 bf), (o 14, aI ta 512 spb), (o 15, aJ ta 16 f), (o 16, aJ ta 16 s), (lg 0, oG lg ya yb wa wb o v ct), (ya 0, oK ya 2 ln)] := hD
  refine lv_astore_n (pc := 8) (lv' := [(2, .ref (o 0)), (0, .ref (lg 0)), (1, .int (nI l))]) hx hb dX9_prove_8 rfl hl (by decide) rfl (fun ls hl => ?_)
  refine lv_aload_n (pc := 9) hx hb dX9_prove_9 rfl (lv_at hl 1 rfl) ?_
  refine va_get (pc := 10) (D := D) (ci := 7) (v := .ref (wa 0)) (C := RX9) (T := TX9) (N := 11) hx hb hts iu9 hown hK hP 30 rfl rfl 6 (by decide) (hts _ tw_358) (fun _ h9 => h9) rfl dX9_prove_10 ?_
  refine va_getN (pc := 13) (D := D) (ci := 6) (v := .int (nI 1)) (C := RX8) (T := TX8) (N := 14) hx hb hts iu8 hown hK hP 0 rfl rfl 0 (by decide) (va_Nw.use rfl (GC_w140 hG)) (fun _ h9 => h9) rfl dX9_prove_13 ?_
  refine lv_iconst (pc := 16) (v := nI 1) hx hb dX9_prove_16 (by decide +kernel) ?_
  refine lv_icmp_ne (pc := 17) (tgt := 28) hx hb dX9_prove_17 (by decide) (fun c_1 => absurd (by decide) c_1) (fun _ => ?_)
  refine lv_aload_n (pc := 20) hx hb dX9_prove_20 rfl (lv_at hl 0 rfl) ?_
  refine lv_iload_n (pc := 21) hx hb dX9_prove_21 rfl (lv_at hl 2 rfl) ?_
  refine cs_U (pc := 22) (idx := 142) (n := 1) (wr := [(wa 0, oW wa 1 0 0 false), (wa 1, oR (wa 2) 16), (wa 2, aZ ta 32 ge), (wa 3, oR (wa 4) 16), (wa 4, aZ ta 32 gm), (wa 15, oR (wa 16) nh), (wa 16, aZ ta 16 gh), (wa 19, oR (wa 20) nc), (wa 20, aZ ta 204 gc), (wa 11, oR (wa 12) 8), (wa 12, aZ ta 8 gcp), (wa 17, oR (wa 18) nbc), (wa 18, aZ ta 8 gbc), (lg 5, oR (lg 6) nl), (lg 6, aZ ta 300 gl), (o 1, oR (o 2) nt), (o 2, aZ ta 528 gt), (o 3, oR (o 4) nd), (o 4, aZ ta 300 gd), (o 7, oR (o 8) nv), (o 8, aZ ta 16 gv), (o 9, oR (o 10) 16), (o 10, aZ ta 16 gz), (o 11, oD (o 12) (o 13) (o 14) (o 15) (o 16) tri), (o 12, aZ ta 8 gb), (o 13, aZ ta 8 bf), (o 14, aI ta 512 spb), (o 15, aJ ta 16 f), (o 16, aJ ta 16 s), (lg 0, oG lg ya yb wa wb o v ct), (ya 0, oK ya 2 ln)]) (As := [.int (nI l)]) (rest := []) (ci := 4) (x := ⟨"LineGuard$Rule", "hasLevel", "(I)Z"⟩) (owner := "LineGuard$Rule") hx hb hml hown hts hGok hK hA hG hl.1 hP hD hS (ct_X7_hasLevel_O ll D ta gs o (nI l)  H.size) tw_698 tw_693 tw_694 tw_697 tw_69 tw_695 (va_Decl.of (hts _ tw_694) (hts _ tw_698)) ⟨by decide +kernel, by decide +kernel, by decide +kernel⟩ rfl ⟨rfl, rfl, Nat.le_of_ble_eq_true rfl, Nat.le_of_ble_eq_true rfl, Nat.le_of_ble_eq_true rfl, Nat.le_of_ble_eq_true rfl⟩ rfl (q0 := 15) rfl [15] [0, 1, 2, 3, 4, 5, 6, 7, 8, 9, 10, 11, 12, 13, 14, 16, 17, 18, 19, 20, 21, 22, 23, 24, 25, 26, 27, 28, 29, 30, 31] rfl rfl (by decide) rfl (Nat.le_of_ble_eq_true rfl) dX9_prove_22 (fun u H locs hq hP hD hS => ?_)
  generalize u = z_22 at hq hP hD ⊢
  have hq : (z_22 = levB (nI l) false) := hq
  have hz_22 := hq
  refine W.eq (g2 := F0 mm 25 ls [.int (qb z_22)]) rfl ?_
  have hP : va_P D vwCl [(wa 0, oW wa 1 0 0 false), (wa 1, oR (wa 2) 16), (wa 2, aZ ta 32 ge), (wa 3, oR (wa 4) 16), (wa 4, aZ ta 32 gm), (wa 15, oR (wa 16) nh), (wa 16, aZ ta 16 gh), (wa 19, oR (wa 20) nc), (wa 20, aZ ta 204 gc), (wa 11, oR (wa 12) 8), (wa 12, aZ ta 8 gcp), (wa 17, oR (wa 18) nbc), (wa 18, aZ ta 8 gbc), (lg 5, oR (lg 6) nl), (lg 6, aZ ta 300 gl), (o 1, oR (o 2) nt), (o 2, aZ ta 528 gt), (o 3, oR (o 4) nd), (o 4, aZ ta 300 gd), (o 7, oR (o 8) nv), (o 8, aZ ta 16 gv), (o 9, oR (o 10) 16), (o 10, aZ ta 16 gz), (o 11, oD (o 12) (o 13) (o 14) (o 15) (o 16) tri), (o 12, aZ ta 8 gb), (o 13, aZ ta 8 bf), (o 14, aI ta 512 spb), (o 15, aJ ta 16 f), (o 16, aJ ta 16 s), (lg 0, oG lg ya yb wa wb o v ct), (ya 0, oK ya 2 ln), (o 0, oO o)] H := hP
  have hD : va_D A [(wa 0, oW wa 1 0 0 false), (wa 1, oR (wa 2) 16), (wa 2, aZ ta 32 ge), (wa 3, oR (wa 4) 16), (wa 4, aZ ta 32 gm), (wa 15, oR (wa 16) nh), (wa 16, aZ ta 16 gh), (wa 19, oR (wa 20) nc), (wa 20, aZ ta 204 gc), (wa 11, oR (wa 12) 8), (wa 12, aZ ta 8 gcp), (wa 17, oR (wa 18) nbc), (wa 18, aZ ta 8 gbc), (lg 5, oR (lg 6) nl), (lg 6, aZ ta 300 gl), (o 1, oR (o 2) nt), (o 2, aZ ta 528 gt), (o 3, oR (o 4) nd), (o 4, aZ ta 300 gd), (o 7, oR (o 8) nv), (o 8, aZ ta 16 gv), (o 9, oR (o 10) 16), (o 10, aZ ta 16 gz), (o 11, oD (o 12) (o 13) (o 14) (o 15) (o 16) tri), (o 12, aZ ta 8 gb), (o 13, aZ ta 8 bf), (o 14, aI ta 512 spb), (o 15, aJ ta 16 f), (o 16, aJ ta 16 s), (lg 0, oG lg ya yb wa wb o v ct), (ya 0, oK ya 2 ln), (o 0, oO o)] := hD
  refine lv_if_ne (pc := 25) (tgt := 30) hx hb dX9_prove_25 (by decide) (fun c_2 => ?_) (fun c_2 => ?_)
  · skip
    rw [q_beq] at c_2
    try rw [Bool.not_eq_false] at c_2
    refine lv_aload_n (pc := 30) hx hb dX9_prove_30 rfl (lv_at hl 1 rfl) ?_
    refine va_get (pc := 31) (D := D) (ci := 7) (v := .ref (wa 0)) (C := RX9) (T := TX9) (N := 11) hx hb hts iu9 hown hK hP 29 rfl rfl 6 (by decide) (hts _ tw_358) (fun _ h9 => h9) rfl dX9_prove_31 ?_
    refine va_getN (pc := 34) (D := D) (ci := 6) (v := .ref (wa 19)) (C := RX8) (T := TX8) (N := 14) hx hb hts iu8 hown hK hP 0 rfl rfl 11 (by decide) (va_Nw.use rfl (GC_w177 hG)) (fun _ h9 => h9) rfl dX9_prove_34 ?_
    refine cs_V (pc := 37) (idx := 88) (n := 0) (wr := [(wa 0, oW wa 1 0 0 false), (wa 1, oR (wa 2) 16), (wa 2, aZ ta 32 ge), (wa 3, oR (wa 4) 16), (wa 4, aZ ta 32 gm), (wa 15, oR (wa 16) nh), (wa 16, aZ ta 16 gh), (wa 11, oR (wa 12) 8), (wa 12, aZ ta 8 gcp), (wa 17, oR (wa 18) nbc), (wa 18, aZ ta 8 gbc), (lg 5, oR (lg 6) nl), (lg 6, aZ ta 300 gl), (o 1, oR (o 2) nt), (o 2, aZ ta 528 gt), (o 3, oR (o 4) nd), (o 4, aZ ta 300 gd), (o 7, oR (o 8) nv), (o 8, aZ ta 16 gv), (o 9, oR (o 10) 16), (o 10, aZ ta 16 gz), (o 11, oD (o 12) (o 13) (o 14) (o 15) (o 16) tri), (o 12, aZ ta 8 gb), (o 13, aZ ta 8 bf), (o 14, aI ta 512 spb), (o 15, aJ ta 16 f), (o 16, aJ ta 16 s), (lg 0, oG lg ya yb wa wb o v ct), (ya 0, oK ya 2 ln), (o 0, oO o)]) (As := []) (rest := []) (ci := 5) hx hb hml hown hts hGok hK hA hG hl.1 hP hD hS (ct_X6_clear ll D ta hGok (wa 19) (wa 20) 204 gc nc  H.size) tw_441 tw_447 tw_439 tw_440 tw_66 hdX6_clear rfl ⟨rfl, rfl, Nat.le_of_ble_eq_true rfl, Nat.le_of_ble_eq_true rfl, Nat.le_of_ble_eq_true rfl, Nat.le_of_ble_eq_true rfl⟩ rfl rfl (q0 := 7) rfl [7, 8] [0, 1, 2, 3, 4, 5, 6, 9, 10, 11, 12, 13, 14, 15, 16, 17, 18, 19, 20, 21, 22, 23, 24, 25, 26, 27, 28, 29, 30, 31] rfl rfl (by decide) rfl (Nat.le_of_ble_eq_true rfl) dX9_prove_37 (fun u H locs hq hP hD hS => ?_)
    refine W.eq (g2 := F0 mm 40 ls []) rfl ?_
    have hP : va_P D vwCl [(wa 0, oW wa 1 0 0 false), (wa 1, oR (wa 2) 16), (wa 2, aZ ta 32 ge), (wa 3, oR (wa 4) 16), (wa 4, aZ ta 32 gm), (wa 15, oR (wa 16) nh), (wa 16, aZ ta 16 gh), (wa 11, oR (wa 12) 8), (wa 12, aZ ta 8 gcp), (wa 17, oR (wa 18) nbc), (wa 18, aZ ta 8 gbc), (lg 5, oR (lg 6) nl), (lg 6, aZ ta 300 gl), (o 1, oR (o 2) nt), (o 2, aZ ta 528 gt), (o 3, oR (o 4) nd), (o 4, aZ ta 300 gd), (o 7, oR (o 8) nv), (o 8, aZ ta 16 gv), (o 9, oR (o 10) 16), (o 10, aZ ta 16 gz), (o 11, oD (o 12) (o 13) (o 14) (o 15) (o 16) tri), (o 12, aZ ta 8 gb), (o 13, aZ ta 8 bf), (o 14, aI ta 512 spb), (o 15, aJ ta 16 f), (o 16, aJ ta 16 s), (lg 0, oG lg ya yb wa wb o v ct), (ya 0, oK ya 2 ln), (o 0, oO o), (wa 19, oR (wa 20) 0), (wa 20, aZ ta 204 gc)] H := hP
    have hD : va_D A [(wa 0, oW wa 1 0 0 false), (wa 1, oR (wa 2) 16), (wa 2, aZ ta 32 ge), (wa 3, oR (wa 4) 16), (wa 4, aZ ta 32 gm), (wa 15, oR (wa 16) nh), (wa 16, aZ ta 16 gh), (wa 11, oR (wa 12) 8), (wa 12, aZ ta 8 gcp), (wa 17, oR (wa 18) nbc), (wa 18, aZ ta 8 gbc), (lg 5, oR (lg 6) nl), (lg 6, aZ ta 300 gl), (o 1, oR (o 2) nt), (o 2, aZ ta 528 gt), (o 3, oR (o 4) nd), (o 4, aZ ta 300 gd), (o 7, oR (o 8) nv), (o 8, aZ ta 16 gv), (o 9, oR (o 10) 16), (o 10, aZ ta 16 gz), (o 11, oD (o 12) (o 13) (o 14) (o 15) (o 16) tri), (o 12, aZ ta 8 gb), (o 13, aZ ta 8 bf), (o 14, aI ta 512 spb), (o 15, aJ ta 16 f), (o 16, aJ ta 16 s), (lg 0, oG lg ya yb wa wb o v ct), (ya 0, oK ya 2 ln), (o 0, oO o), (wa 19, oR (wa 20) 0), (wa 20, aZ ta 204 gc)] := hD
    refine lv_aload_n (pc := 40) hx hb dX9_prove_40 rfl (lv_at hl 1 rfl) ?_
    refine va_get (pc := 41) (D := D) (ci := 7) (v := .ref (wa 0)) (C := RX9) (T := TX9) (N := 11) hx hb hts iu9 hown hK hP 27 rfl rfl 6 (by decide) (hts _ tw_358) (fun _ h9 => h9) rfl dX9_prove_41 ?_
    refine va_getN (pc := 44) (D := D) (ci := 6) (v := .ref (wa 19)) (C := RX8) (T := TX8) (N := 14) hx hb hts iu8 hown hK hP 0 rfl rfl 11 (by decide) (va_Nw.use rfl (GC_w177 hG)) (fun _ h9 => h9) rfl dX9_prove_44 ?_
    refine lv_sipush (pc := 47) (v := nI 132) hx hb dX9_prove_47 (by decide +kernel) ?_
    refine cs_V (pc := 50) (idx := 148) (n := 1) (wr := [(wa 0, oW wa 1 0 0 false), (wa 1, oR (wa 2) 16), (wa 2, aZ ta 32 ge), (wa 3, oR (wa 4) 16), (wa 4, aZ ta 32 gm), (wa 15, oR (wa 16) nh), (wa 16, aZ ta 16 gh), (wa 11, oR (wa 12) 8), (wa 12, aZ ta 8 gcp), (wa 17, oR (wa 18) nbc), (wa 18, aZ ta 8 gbc), (lg 5, oR (lg 6) nl), (lg 6, aZ ta 300 gl), (o 1, oR (o 2) nt), (o 2, aZ ta 528 gt), (o 3, oR (o 4) nd), (o 4, aZ ta 300 gd), (o 7, oR (o 8) nv), (o 8, aZ ta 16 gv), (o 9, oR (o 10) 16), (o 10, aZ ta 16 gz), (o 11, oD (o 12) (o 13) (o 14) (o 15) (o 16) tri), (o 12, aZ ta 8 gb), (o 13, aZ ta 8 bf), (o 14, aI ta 512 spb), (o 15, aJ ta 16 f), (o 16, aJ ta 16 s), (lg 0, oG lg ya yb wa wb o v ct), (ya 0, oK ya 2 ln), (o 0, oO o)]) (As := [.int (nI 132)]) (rest := []) (ci := 5) hx hb hml hown hts hGok hK hA hG hl.1 hP hD hS (ct_X6_add ll D ta hGok (wa 19) (wa 20) 204 gc 0 (nI 132) (by first | assumption | omega | rfl | decide) (by first | assumption | omega | rfl | decide) H.size) tw_231 tw_708 tw_229 tw_230 tw_66 hdX6_add rfl ⟨rfl, rfl, Nat.le_of_ble_eq_true rfl, Nat.le_of_ble_eq_true rfl, Nat.le_of_ble_eq_true rfl, Nat.le_of_ble_eq_true rfl⟩ rfl rfl (q0 := 30) rfl [30, 31] [0, 1, 2, 3, 4, 5, 6, 7, 8, 9, 10, 11, 12, 13, 14, 15, 16, 17, 18, 19, 20, 21, 22, 23, 24, 25, 26, 27, 28, 29] rfl rfl (by decide) rfl (Nat.le_of_ble_eq_true rfl) dX9_prove_50 (fun u H locs hq hP hD hS => ?_)
    generalize u = g1_50 at hq hP hD ⊢
    have hq : (qL g1_50 (0 + 1) = qL gc 0 ++ [qlo (nI 132)]) := hq
    have hL_50 := hq
    refine W.eq (g2 := F0 mm 53 ls []) rfl ?_
    have hP : va_P D vwCl [(wa 0, oW wa 1 0 0 false), (wa 1, oR (wa 2) 16), (wa 2, aZ ta 32 ge), (wa 3, oR (wa 4) 16), (wa 4, aZ ta 32 gm), (wa 15, oR (wa 16) nh), (wa 16, aZ ta 16 gh), (wa 11, oR (wa 12) 8), (wa 12, aZ ta 8 gcp), (wa 17, oR (wa 18) nbc), (wa 18, aZ ta 8 gbc), (lg 5, oR (lg 6) nl), (lg 6, aZ ta 300 gl), (o 1, oR (o 2) nt), (o 2, aZ ta 528 gt), (o 3, oR (o 4) nd), (o 4, aZ ta 300 gd), (o 7, oR (o 8) nv), (o 8, aZ ta 16 gv), (o 9, oR (o 10) 16), (o 10, aZ ta 16 gz), (o 11, oD (o 12) (o 13) (o 14) (o 15) (o 16) tri), (o 12, aZ ta 8 gb), (o 13, aZ ta 8 bf), (o 14, aI ta 512 spb), (o 15, aJ ta 16 f), (o 16, aJ ta 16 s), (lg 0, oG lg ya yb wa wb o v ct), (ya 0, oK ya 2 ln), (o 0, oO o), (wa 19, oR (wa 20) (0 + 1)), (wa 20, aZ ta 204 g1_50)] H := hP
    have hD : va_D A [(wa 0, oW wa 1 0 0 false), (wa 1, oR (wa 2) 16), (wa 2, aZ ta 32 ge), (wa 3, oR (wa 4) 16), (wa 4, aZ ta 32 gm), (wa 15, oR (wa 16) nh), (wa 16, aZ ta 16 gh), (wa 11, oR (wa 12) 8), (wa 12, aZ ta 8 gcp), (wa 17, oR (wa 18) nbc), (wa 18, aZ ta 8 gbc), (lg 5, oR (lg 6) nl), (lg 6, aZ ta 300 gl), (o 1, oR (o 2) nt), (o 2, aZ ta 528 gt), (o 3, oR (o 4) nd), (o 4, aZ ta 300 gd), (o 7, oR (o 8) nv), (o 8, aZ ta 16 gv), (o 9, oR (o 10) 16), (o 10, aZ ta 16 gz), (o 11, oD (o 12) (o 13) (o 14) (o 15) (o 16) tri), (o 12, aZ ta 8 gb), (o 13, aZ ta 8 bf), (o 14, aI ta 512 spb), (o 15, aJ ta 16 f), (o 16, aJ ta 16 s), (lg 0, oG lg ya yb wa wb o v ct), (ya 0, oK ya 2 ln), (o 0, oO o), (wa 19, oR (wa 20) (0 + 1)), (wa 20, aZ ta 204 g1_50)] := hD
    refine lv_aload_n (pc := 53) hx hb dX9_prove_53 rfl (lv_at hl 1 rfl) ?_
    refine va_get (pc := 54) (D := D) (ci := 7) (v := .ref (wa 0)) (C := RX9) (T := TX9) (N := 11) hx hb hts iu9 hown hK hP 27 rfl rfl 6 (by decide) (hts _ tw_358) (fun _ h9 => h9) rfl dX9_prove_54 ?_
    refine va_getN (pc := 57) (D := D) (ci := 6) (v := .ref (wa 19)) (C := RX8) (T := TX8) (N := 14) hx hb hts iu8 hown hK hP 0 rfl rfl 11 (by decide) (va_Nw.use rfl (GC_w177 hG)) (fun _ h9 => h9) rfl dX9_prove_57 ?_
    refine lv_sipush (pc := 60) (v := nI 130) hx hb dX9_prove_60 (by decide +kernel) ?_
    refine cs_V (pc := 63) (idx := 148) (n := 1) (wr := [(wa 0, oW wa 1 0 0 false), (wa 1, oR (wa 2) 16), (wa 2, aZ ta 32 ge), (wa 3, oR (wa 4) 16), (wa 4, aZ ta 32 gm), (wa 15, oR (wa 16) nh), (wa 16, aZ ta 16 gh), (wa 11, oR (wa 12) 8), (wa 12, aZ ta 8 gcp), (wa 17, oR (wa 18) nbc), (wa 18, aZ ta 8 gbc), (lg 5, oR (lg 6) nl), (lg 6, aZ ta 300 gl), (o 1, oR (o 2) nt), (o 2, aZ ta 528 gt), (o 3, oR (o 4) nd), (o 4, aZ ta 300 gd), (o 7, oR (o 8) nv), (o 8, aZ ta 16 gv), (o 9, oR (o 10) 16), (o 10, aZ ta 16 gz), (o 11, oD (o 12) (o 13) (o 14) (o 15) (o 16) tri), (o 12, aZ ta 8 gb), (o 13, aZ ta 8 bf), (o 14, aI ta 512 spb), (o 15, aJ ta 16 f), (o 16, aJ ta 16 s), (lg 0, oG lg ya yb wa wb o v ct), (ya 0, oK ya 2 ln), (o 0, oO o)]) (As := [.int (nI 130)]) (rest := []) (ci := 5) hx hb hml hown hts hGok hK hA hG hl.1 hP hD hS (ct_X6_add ll D ta hGok (wa 19) (wa 20) 204 g1_50 (0 + 1) (nI 130) (by first | assumption | omega | rfl | decide) (by first | assumption | omega | rfl | decide) H.size) tw_231 tw_708 tw_229 tw_230 tw_66 hdX6_add rfl ⟨rfl, rfl, Nat.le_of_ble_eq_true rfl, Nat.le_of_ble_eq_true rfl, Nat.le_of_ble_eq_true rfl, Nat.le_of_ble_eq_true rfl⟩ rfl rfl (q0 := 30) rfl [30, 31] [0, 1, 2, 3, 4, 5, 6, 7, 8, 9, 10, 11, 12, 13, 14, 15, 16, 17, 18, 19, 20, 21, 22, 23, 24, 25, 26, 27, 28, 29] rfl rfl (by decide) rfl (Nat.le_of_ble_eq_true rfl) dX9_prove_63 (fun u H locs hq hP hD hS => ?_)
    generalize u = g1_63 at hq hP hD ⊢
    have hq : (qL g1_63 ((0 + 1) + 1) = qL g1_50 (0 + 1) ++ [qlo (nI 130)]) := hq
    have hL_63 := hq
    refine W.eq (g2 := F0 mm 66 ls []) rfl ?_
    have hP : va_P D vwCl [(wa 0, oW wa 1 0 0 false), (wa 1, oR (wa 2) 16), (wa 2, aZ ta 32 ge), (wa 3, oR (wa 4) 16), (wa 4, aZ ta 32 gm), (wa 15, oR (wa 16) nh), (wa 16, aZ ta 16 gh), (wa 11, oR (wa 12) 8), (wa 12, aZ ta 8 gcp), (wa 17, oR (wa 18) nbc), (wa 18, aZ ta 8 gbc), (lg 5, oR (lg 6) nl), (lg 6, aZ ta 300 gl), (o 1, oR (o 2) nt), (o 2, aZ ta 528 gt), (o 3, oR (o 4) nd), (o 4, aZ ta 300 gd), (o 7, oR (o 8) nv), (o 8, aZ ta 16 gv), (o 9, oR (o 10) 16), (o 10, aZ ta 16 gz), (o 11, oD (o 12) (o 13) (o 14) (o 15) (o 16) tri), (o 12, aZ ta 8 gb), (o 13, aZ ta 8 bf), (o 14, aI ta 512 spb), (o 15, aJ ta 16 f), (o 16, aJ ta 16 s), (lg 0, oG lg ya yb wa wb o v ct), (ya 0, oK ya 2 ln), (o 0, oO o), (wa 19, oR (wa 20) ((0 + 1) + 1)), (wa 20, aZ ta 204 g1_63)] H := hP
    have hD : va_D A [(wa 0, oW wa 1 0 0 false), (wa 1, oR (wa 2) 16), (wa 2, aZ ta 32 ge), (wa 3, oR (wa 4) 16), (wa 4, aZ ta 32 gm), (wa 15, oR (wa 16) nh), (wa 16, aZ ta 16 gh), (wa 11, oR (wa 12) 8), (wa 12, aZ ta 8 gcp), (wa 17, oR (wa 18) nbc), (wa 18, aZ ta 8 gbc), (lg 5, oR (lg 6) nl), (lg 6, aZ ta 300 gl), (o 1, oR (o 2) nt), (o 2, aZ ta 528 gt), (o 3, oR (o 4) nd), (o 4, aZ ta 300 gd), (o 7, oR (o 8) nv), (o 8, aZ ta 16 gv), (o 9, oR (o 10) 16), (o 10, aZ ta 16 gz), (o 11, oD (o 12) (o 13) (o 14) (o 15) (o 16) tri), (o 12, aZ ta 8 gb), (o 13, aZ ta 8 bf), (o 14, aI ta 512 spb), (o 15, aJ ta 16 f), (o 16, aJ ta 16 s), (lg 0, oG lg ya yb wa wb o v ct), (ya 0, oK ya 2 ln), (o 0, oO o), (wa 19, oR (wa 20) ((0 + 1) + 1)), (wa 20, aZ ta 204 g1_63)] := hD
    refine lv_aload_n (pc := 66) hx hb dX9_prove_66 rfl (lv_at hl 1 rfl) ?_
    refine va_get (pc := 67) (D := D) (ci := 7) (v := .ref (wa 0)) (C := RX9) (T := TX9) (N := 11) hx hb hts iu9 hown hK hP 27 rfl rfl 6 (by decide) (hts _ tw_358) (fun _ h9 => h9) rfl dX9_prove_67 ?_
    refine va_getN (pc := 70) (D := D) (ci := 6) (v := .ref (wa 19)) (C := RX8) (T := TX8) (N := 14) hx hb hts iu8 hown hK hP 0 rfl rfl 11 (by decide) (va_Nw.use rfl (GC_w177 hG)) (fun _ h9 => h9) rfl dX9_prove_70 ?_
    refine lv_iload_n (pc := 73) hx hb dX9_prove_73 rfl (lv_at hl 2 rfl) ?_
    refine cs_V (pc := 74) (idx := 148) (n := 1) (wr := [(wa 0, oW wa 1 0 0 false), (wa 1, oR (wa 2) 16), (wa 2, aZ ta 32 ge), (wa 3, oR (wa 4) 16), (wa 4, aZ ta 32 gm), (wa 15, oR (wa 16) nh), (wa 16, aZ ta 16 gh), (wa 11, oR (wa 12) 8), (wa 12, aZ ta 8 gcp), (wa 17, oR (wa 18) nbc), (wa 18, aZ ta 8 gbc), (lg 5, oR (lg 6) nl), (lg 6, aZ ta 300 gl), (o 1, oR (o 2) nt), (o 2, aZ ta 528 gt), (o 3, oR (o 4) nd), (o 4, aZ ta 300 gd), (o 7, oR (o 8) nv), (o 8, aZ ta 16 gv), (o 9, oR (o 10) 16), (o 10, aZ ta 16 gz), (o 11, oD (o 12) (o 13) (o 14) (o 15) (o 16) tri), (o 12, aZ ta 8 gb), (o 13, aZ ta 8 bf), (o 14, aI ta 512 spb), (o 15, aJ ta 16 f), (o 16, aJ ta 16 s), (lg 0, oG lg ya yb wa wb o v ct), (ya 0, oK ya 2 ln), (o 0, oO o)]) (As := [.int (nI l)]) (rest := []) (ci := 5) hx hb hml hown hts hGok hK hA hG hl.1 hP hD hS (ct_X6_add ll D ta hGok (wa 19) (wa 20) 204 g1_63 ((0 + 1) + 1) (nI l) (by first | assumption | omega | rfl | decide) (by first | assumption | omega | rfl | decide) H.size) tw_231 tw_708 tw_229 tw_230 tw_66 hdX6_add rfl ⟨rfl, rfl, Nat.le_of_ble_eq_true rfl, Nat.le_of_ble_eq_true rfl, Nat.le_of_ble_eq_true rfl, Nat.le_of_ble_eq_true rfl⟩ rfl rfl (q0 := 30) rfl [30, 31] [0, 1, 2, 3, 4, 5, 6, 7, 8, 9, 10, 11, 12, 13, 14, 15, 16, 17, 18, 19, 20, 21, 22, 23, 24, 25, 26, 27, 28, 29] rfl rfl (by decide) rfl (Nat.le_of_ble_eq_true rfl) dX9_prove_74 (fun u H locs hq hP hD hS => ?_)
    generalize u = g1_74 at hq hP hD ⊢
    have hq : (qL g1_74 (((0 + 1) + 1) + 1) = qL g1_63 ((0 + 1) + 1) ++ [qlo (nI l)]) := hq
    have hL_74 := hq
    refine W.eq (g2 := F0 mm 77 ls []) rfl ?_
    have hP : va_P D vwCl [(wa 0, oW wa 1 0 0 false), (wa 1, oR (wa 2) 16), (wa 2, aZ ta 32 ge), (wa 3, oR (wa 4) 16), (wa 4, aZ ta 32 gm), (wa 15, oR (wa 16) nh), (wa 16, aZ ta 16 gh), (wa 11, oR (wa 12) 8), (wa 12, aZ ta 8 gcp), (wa 17, oR (wa 18) nbc), (wa 18, aZ ta 8 gbc), (lg 5, oR (lg 6) nl), (lg 6, aZ ta 300 gl), (o 1, oR (o 2) nt), (o 2, aZ ta 528 gt), (o 3, oR (o 4) nd), (o 4, aZ ta 300 gd), (o 7, oR (o 8) nv), (o 8, aZ ta 16 gv), (o 9, oR (o 10) 16), (o 10, aZ ta 16 gz), (o 11, oD (o 12) (o 13) (o 14) (o 15) (o 16) tri), (o 12, aZ ta 8 gb), (o 13, aZ ta 8 bf), (o 14, aI ta 512 spb), (o 15, aJ ta 16 f), (o 16, aJ ta 16 s), (lg 0, oG lg ya yb wa wb o v ct), (ya 0, oK ya 2 ln), (o 0, oO o), (wa 19, oR (wa 20) (((0 + 1) + 1) + 1)), (wa 20, aZ ta 204 g1_74)] H := hP
    have hD : va_D A [(wa 0, oW wa 1 0 0 false), (wa 1, oR (wa 2) 16), (wa 2, aZ ta 32 ge), (wa 3, oR (wa 4) 16), (wa 4, aZ ta 32 gm), (wa 15, oR (wa 16) nh), (wa 16, aZ ta 16 gh), (wa 11, oR (wa 12) 8), (wa 12, aZ ta 8 gcp), (wa 17, oR (wa 18) nbc), (wa 18, aZ ta 8 gbc), (lg 5, oR (lg 6) nl), (lg 6, aZ ta 300 gl), (o 1, oR (o 2) nt), (o 2, aZ ta 528 gt), (o 3, oR (o 4) nd), (o 4, aZ ta 300 gd), (o 7, oR (o 8) nv), (o 8, aZ ta 16 gv), (o 9, oR (o 10) 16), (o 10, aZ ta 16 gz), (o 11, oD (o 12) (o 13) (o 14) (o 15) (o 16) tri), (o 12, aZ ta 8 gb), (o 13, aZ ta 8 bf), (o 14, aI ta 512 spb), (o 15, aJ ta 16 f), (o 16, aJ ta 16 s), (lg 0, oG lg ya yb wa wb o v ct), (ya 0, oK ya 2 ln), (o 0, oO o), (wa 19, oR (wa 20) (((0 + 1) + 1) + 1)), (wa 20, aZ ta 204 g1_74)] := hD
    refine lv_aload_n (pc := 77) hx hb dX9_prove_77 rfl (lv_at hl 1 rfl) ?_
    refine va_get (pc := 78) (D := D) (ci := 7) (v := .ref (wa 0)) (C := RX9) (T := TX9) (N := 11) hx hb hts iu9 hown hK hP 27 rfl rfl 6 (by decide) (hts _ tw_358) (fun _ h9 => h9) rfl dX9_prove_78 ?_
    refine va_getN (pc := 81) (D := D) (ci := 6) (v := .ref (wa 19)) (C := RX8) (T := TX8) (N := 14) hx hb hts iu8 hown hK hP 0 rfl rfl 11 (by decide) (va_Nw.use rfl (GC_w177 hG)) (fun _ h9 => h9) rfl dX9_prove_81 ?_
    refine lv_iconst (pc := 84) (v := nI 0) hx hb dX9_prove_84 (by decide +kernel) ?_
    refine cs_V (pc := 85) (idx := 148) (n := 1) (wr := [(wa 0, oW wa 1 0 0 false), (wa 1, oR (wa 2) 16), (wa 2, aZ ta 32 ge), (wa 3, oR (wa 4) 16), (wa 4, aZ ta 32 gm), (wa 15, oR (wa 16) nh), (wa 16, aZ ta 16 gh), (wa 11, oR (wa 12) 8), (wa 12, aZ ta 8 gcp), (wa 17, oR (wa 18) nbc), (wa 18, aZ ta 8 gbc), (lg 5, oR (lg 6) nl), (lg 6, aZ ta 300 gl), (o 1, oR (o 2) nt), (o 2, aZ ta 528 gt), (o 3, oR (o 4) nd), (o 4, aZ ta 300 gd), (o 7, oR (o 8) nv), (o 8, aZ ta 16 gv), (o 9, oR (o 10) 16), (o 10, aZ ta 16 gz), (o 11, oD (o 12) (o 13) (o 14) (o 15) (o 16) tri), (o 12, aZ ta 8 gb), (o 13, aZ ta 8 bf), (o 14, aI ta 512 spb), (o 15, aJ ta 16 f), (o 16, aJ ta 16 s), (lg 0, oG lg ya yb wa wb o v ct), (ya 0, oK ya 2 ln), (o 0, oO o)]) (As := [.int (nI 0)]) (rest := []) (ci := 5) hx hb hml hown hts hGok hK hA hG hl.1 hP hD hS (ct_X6_add ll D ta hGok (wa 19) (wa 20) 204 g1_74 (((0 + 1) + 1) + 1) (nI 0) (by first | assumption | omega | rfl | decide) (by first | assumption | omega | rfl | decide) H.size) tw_231 tw_708 tw_229 tw_230 tw_66 hdX6_add rfl ⟨rfl, rfl, Nat.le_of_ble_eq_true rfl, Nat.le_of_ble_eq_true rfl, Nat.le_of_ble_eq_true rfl, Nat.le_of_ble_eq_true rfl⟩ rfl rfl (q0 := 30) rfl [30, 31] [0, 1, 2, 3, 4, 5, 6, 7, 8, 9, 10, 11, 12, 13, 14, 15, 16, 17, 18, 19, 20, 21, 22, 23, 24, 25, 26, 27, 28, 29] rfl rfl (by decide) rfl (Nat.le_of_ble_eq_true rfl) dX9_prove_85 (fun u H locs hq hP hD hS => ?_)
    generalize u = g1_85 at hq hP hD ⊢
    have hq : (qL g1_85 ((((0 + 1) + 1) + 1) + 1) = qL g1_74 (((0 + 1) + 1) + 1) ++ [qlo (nI 0)]) := hq
    have hL_85 := hq
    refine W.eq (g2 := F0 mm 88 ls []) rfl ?_
    have hP : va_P D vwCl [(wa 0, oW wa 1 0 0 false), (wa 1, oR (wa 2) 16), (wa 2, aZ ta 32 ge), (wa 3, oR (wa 4) 16), (wa 4, aZ ta 32 gm), (wa 15, oR (wa 16) nh), (wa 16, aZ ta 16 gh), (wa 11, oR (wa 12) 8), (wa 12, aZ ta 8 gcp), (wa 17, oR (wa 18) nbc), (wa 18, aZ ta 8 gbc), (lg 5, oR (lg 6) nl), (lg 6, aZ ta 300 gl), (o 1, oR (o 2) nt), (o 2, aZ ta 528 gt), (o 3, oR (o 4) nd), (o 4, aZ ta 300 gd), (o 7, oR (o 8) nv), (o 8, aZ ta 16 gv), (o 9, oR (o 10) 16), (o 10, aZ ta 16 gz), (o 11, oD (o 12) (o 13) (o 14) (o 15) (o 16) tri), (o 12, aZ ta 8 gb), (o 13, aZ ta 8 bf), (o 14, aI ta 512 spb), (o 15, aJ ta 16 f), (o 16, aJ ta 16 s), (lg 0, oG lg ya yb wa wb o v ct), (ya 0, oK ya 2 ln), (o 0, oO o), (wa 19, oR (wa 20) ((((0 + 1) + 1) + 1) + 1)), (wa 20, aZ ta 204 g1_85)] H := hP
    have hD : va_D A [(wa 0, oW wa 1 0 0 false), (wa 1, oR (wa 2) 16), (wa 2, aZ ta 32 ge), (wa 3, oR (wa 4) 16), (wa 4, aZ ta 32 gm), (wa 15, oR (wa 16) nh), (wa 16, aZ ta 16 gh), (wa 11, oR (wa 12) 8), (wa 12, aZ ta 8 gcp), (wa 17, oR (wa 18) nbc), (wa 18, aZ ta 8 gbc), (lg 5, oR (lg 6) nl), (lg 6, aZ ta 300 gl), (o 1, oR (o 2) nt), (o 2, aZ ta 528 gt), (o 3, oR (o 4) nd), (o 4, aZ ta 300 gd), (o 7, oR (o 8) nv), (o 8, aZ ta 16 gv), (o 9, oR (o 10) 16), (o 10, aZ ta 16 gz), (o 11, oD (o 12) (o 13) (o 14) (o 15) (o 16) tri), (o 12, aZ ta 8 gb), (o 13, aZ ta 8 bf), (o 14, aI ta 512 spb), (o 15, aJ ta 16 f), (o 16, aJ ta 16 s), (lg 0, oG lg ya yb wa wb o v ct), (ya 0, oK ya 2 ln), (o 0, oO o), (wa 19, oR (wa 20) ((((0 + 1) + 1) + 1) + 1)), (wa 20, aZ ta 204 g1_85)] := hD
    refine lv_aload_n (pc := 88) hx hb dX9_prove_88 rfl (lv_at hl 1 rfl) ?_
    refine va_get (pc := 89) (D := D) (ci := 7) (v := .ref (wa 0)) (C := RX9) (T := TX9) (N := 11) hx hb hts iu9 hown hK hP 27 rfl rfl 6 (by decide) (hts _ tw_358) (fun _ h9 => h9) rfl dX9_prove_89 ?_
    refine va_getN (pc := 92) (D := D) (ci := 6) (v := .ref (wa 19)) (C := RX8) (T := TX8) (N := 14) hx hb hts iu8 hown hK hP 0 rfl rfl 11 (by decide) (va_Nw.use rfl (GC_w177 hG)) (fun _ h9 => h9) rfl dX9_prove_92 ?_
    refine lv_aload_n (pc := 95) hx hb dX9_prove_95 rfl (lv_at hl 1 rfl) ?_
    refine va_get (pc := 96) (D := D) (ci := 7) (v := .ref (wa 0)) (C := RX9) (T := TX9) (N := 11) hx hb hts iu9 hown hK hP 27 rfl rfl 6 (by decide) (hts _ tw_358) (fun _ h9 => h9) rfl dX9_prove_96 ?_
    refine va_getN (pc := 99) (D := D) (ci := 6) (v := .ref (wa 11)) (C := RX8) (T := TX8) (N := 14) hx hb hts iu8 hown hK hP 0 rfl rfl 7 (by decide) (va_Nw.use rfl (GC_w164 hG)) (fun _ h9 => h9) rfl dX9_prove_99 ?_
    refine cs_V (pc := 102) (idx := 154) (n := 1) (wr := [(wa 0, oW wa 1 0 0 false), (wa 1, oR (wa 2) 16), (wa 2, aZ ta 32 ge), (wa 3, oR (wa 4) 16), (wa 4, aZ ta 32 gm), (wa 15, oR (wa 16) nh), (wa 16, aZ ta 16 gh), (wa 17, oR (wa 18) nbc), (wa 18, aZ ta 8 gbc), (lg 5, oR (lg 6) nl), (lg 6, aZ ta 300 gl), (o 1, oR (o 2) nt), (o 2, aZ ta 528 gt), (o 3, oR (o 4) nd), (o 4, aZ ta 300 gd), (o 7, oR (o 8) nv), (o 8, aZ ta 16 gv), (o 9, oR (o 10) 16), (o 10, aZ ta 16 gz), (o 11, oD (o 12) (o 13) (o 14) (o 15) (o 16) tri), (o 12, aZ ta 8 gb), (o 13, aZ ta 8 bf), (o 14, aI ta 512 spb), (o 15, aJ ta 16 f), (o 16, aJ ta 16 s), (lg 0, oG lg ya yb wa wb o v ct), (ya 0, oK ya 2 ln), (o 0, oO o)]) (As := [.ref (wa 11)]) (rest := []) (ci := 5) hx hb hml hown hts hGok hK hA hG hl.1 hP hD hS (ct_X6_addAll ll D ta hGok (wa 19) (wa 20) 204 g1_85 ((((0 + 1) + 1) + 1) + 1) (wa 11) (wa 12) 8 gcp 8 (by first | assumption | omega | rfl | decide) (by first | assumption | omega | rfl | decide) (by first | assumption | omega | rfl | decide) (by first | assumption | omega | rfl | decide) H.size) tw_501 tw_709 tw_499 tw_500 tw_66 hdX6_addAll rfl ⟨rfl, rfl, Nat.le_of_ble_eq_true rfl, Nat.le_of_ble_eq_true rfl, Nat.le_of_ble_eq_true rfl, Nat.le_of_ble_eq_true rfl⟩ rfl rfl (q0 := 30) rfl [30, 31, 7, 8] [0, 1, 2, 3, 4, 5, 6, 9, 10, 11, 12, 13, 14, 15, 16, 17, 18, 19, 20, 21, 22, 23, 24, 25, 26, 27, 28, 29] rfl rfl (by decide) rfl (Nat.le_of_ble_eq_true rfl) dX9_prove_102 (fun u H locs hq hP hD hS => ?_)
    generalize u = g1_102 at hq hP hD ⊢
    have hq : (qL g1_102 (((((0 + 1) + 1) + 1) + 1) + 8) = qL g1_85 ((((0 + 1) + 1) + 1) + 1) ++ qL gcp 8) := hq
    have hL_102 := hq
    refine W.eq (g2 := F0 mm 105 ls []) rfl ?_
    have hP : va_P D vwCl [(wa 0, oW wa 1 0 0 false), (wa 1, oR (wa 2) 16), (wa 2, aZ ta 32 ge), (wa 3, oR (wa 4) 16), (wa 4, aZ ta 32 gm), (wa 15, oR (wa 16) nh), (wa 16, aZ ta 16 gh), (wa 17, oR (wa 18) nbc), (wa 18, aZ ta 8 gbc), (lg 5, oR (lg 6) nl), (lg 6, aZ ta 300 gl), (o 1, oR (o 2) nt), (o 2, aZ ta 528 gt), (o 3, oR (o 4) nd), (o 4, aZ ta 300 gd), (o 7, oR (o 8) nv), (o 8, aZ ta 16 gv), (o 9, oR (o 10) 16), (o 10, aZ ta 16 gz), (o 11, oD (o 12) (o 13) (o 14) (o 15) (o 16) tri), (o 12, aZ ta 8 gb), (o 13, aZ ta 8 bf), (o 14, aI ta 512 spb), (o 15, aJ ta 16 f), (o 16, aJ ta 16 s), (lg 0, oG lg ya yb wa wb o v ct), (ya 0, oK ya 2 ln), (o 0, oO o), (wa 19, oR (wa 20) (((((0 + 1) + 1) + 1) + 1) + 8)), (wa 20, aZ ta 204 g1_102), (wa 11, oR (wa 12) 8), (wa 12, aZ ta 8 gcp)] H := hP
    have hD : va_D A [(wa 0, oW wa 1 0 0 false), (wa 1, oR (wa 2) 16), (wa 2, aZ ta 32 ge), (wa 3, oR (wa 4) 16), (wa 4, aZ ta 32 gm), (wa 15, oR (wa 16) nh), (wa 16, aZ ta 16 gh), (wa 17, oR (wa 18) nbc), (wa 18, aZ ta 8 gbc), (lg 5, oR (lg 6) nl), (lg 6, aZ ta 300 gl), (o 1, oR (o 2) nt), (o 2, aZ ta 528 gt), (o 3, oR (o 4) nd), (o 4, aZ ta 300 gd), (o 7, oR (o 8) nv), (o 8, aZ ta 16 gv), (o 9, oR (o 10) 16), (o 10, aZ ta 16 gz), (o 11, oD (o 12) (o 13) (o 14) (o 15) (o 16) tri), (o 12, aZ ta 8 gb), (o 13, aZ ta 8 bf), (o 14, aI ta 512 spb), (o 15, aJ ta 16 f), (o 16, aJ ta 16 s), (lg 0, oG lg ya yb wa wb o v ct), (ya 0, oK ya 2 ln), (o 0, oO o), (wa 19, oR (wa 20) (((((0 + 1) + 1) + 1) + 1) + 8)), (wa 20, aZ ta 204 g1_102), (wa 11, oR (wa 12) 8), (wa 12, aZ ta 8 gcp)] := hD
    refine lv_aload_n (pc := 105) hx hb dX9_prove_105 rfl (lv_at hl 0 rfl) ?_
    refine lv_aload_n (pc := 106) hx hb dX9_prove_106 rfl (lv_at hl 1 rfl) ?_
    refine va_get (pc := 107) (D := D) (ci := 7) (v := .ref (wa 0)) (C := RX9) (T := TX9) (N := 11) hx hb hts iu9 hown hK hP 25 rfl rfl 6 (by decide) (hts _ tw_358) (fun _ h9 => h9) rfl dX9_prove_107 ?_
    refine lv_aload_n (pc := 110) hx hb dX9_prove_110 rfl (lv_at hl 1 rfl) ?_
    refine va_get (pc := 111) (D := D) (ci := 7) (v := .ref (lg 5)) (C := RX9) (T := TX9) (N := 11) hx hb hts iu9 hown hK hP 25 rfl rfl 2 (by decide) (hts _ tw_354) (fun _ h9 => h9) rfl dX9_prove_111 ?_
    refine cs_U (pc := 114) (idx := 157) (n := 2) (wr := [(wa 17, oR (wa 18) nbc), (wa 18, aZ ta 8 gbc), (lg 0, oG lg ya yb wa wb o v ct), (ya 0, oK ya 2 ln), (wa 11, oR (wa 12) 8), (wa 12, aZ ta 8 gcp)]) (As := [.ref (wa 0), .ref (lg 5)]) (rest := []) (ci := 4) (x := ⟨"LineGuard$Rule", "secure", "(LLineGuard$Session;LLineGuard$Row;)V"⟩) (owner := "LineGuard$Rule") hx hb hml hown hts hGok hK hA hG hl.1 hP hD hS (ct_X5_secure ll D ta gs o gz tri gb bf f s spb wa 1 0 0 false gt nt gd nd gv nv ge gm gh nh g1_102 (((((0 + 1) + 1) + 1) + 1) + 8) (lg 5) (lg 6) 300 gl nl (by first | assumption | omega | rfl | decide) (by first | assumption | omega | rfl | decide) (by first | assumption | omega | rfl | decide) (by first | assumption | omega | rfl | decide) (by first | assumption | omega | rfl | decide) (by first | assumption | omega | rfl | decide) (by first | assumption | omega | rfl | decide) H.size) tw_754 tw_710 tw_753 tw_752 tw_70 tw_712 (va_Decl.abs (GC_w711 hG)) ⟨by decide +kernel, by decide +kernel, by decide +kernel⟩ rfl ⟨rfl, rfl, Nat.le_of_ble_eq_true rfl, Nat.le_of_ble_eq_true rfl, Nat.le_of_ble_eq_true rfl, Nat.le_of_ble_eq_true rfl⟩ rfl (q0 := 27) rfl [27, 11, 12, 13, 14, 15, 16, 17, 18, 19, 20, 21, 22, 23, 24, 0, 1, 2, 3, 4, 5, 6, 28, 29, 9, 10] [7, 8, 25, 26, 30, 31] rfl rfl (by decide) rfl (Nat.le_of_ble_eq_true rfl) dX9_prove_114 (fun u H locs hq hP hD hS => ?_)
    obtain ⟨gt1_114, nt1_114, gd1_114, nd1_114, gv1_114, nv1_114, tri1_114, gb1_114, bf1_114, f1_114, s1_114, gh1_114, gl1_114, nl1_114⟩ := u
    have hq : (qL gh1_114 8 = chain2 (qL gm 16) 0 (qL gh nh) (qL g1_102 (((((0 + 1) + 1) + 1) + 1) + 8))) ∧ (qL gl1_114 nl1_114 = putC (qL g1_102 (((((0 + 1) + 1) + 1) + 1) + 8)) (secD2 (qL ge 16) 0 (qL g1_102 (((((0 + 1) + 1) + 1) + 1) + 8))) (qL gh1_114 8)) ∧ (nl1_114 = (secD2 (qL ge 16) 0 (qL g1_102 (((((0 + 1) + 1) + 1) + 1) + 8))).length + 12 ∧ nl1_114 ≤ 220) := hq
    obtain ⟨hch_114, hl9_114, hnl_114⟩ := hq
    refine W.eq (g2 := F0 mm 117 ls []) rfl ?_
    have hP : va_P D vwCl [(wa 17, oR (wa 18) nbc), (wa 18, aZ ta 8 gbc), (lg 0, oG lg ya yb wa wb o v ct), (ya 0, oK ya 2 ln), (wa 11, oR (wa 12) 8), (wa 12, aZ ta 8 gcp), (o 0, oO o), (o 1, oR (o 2) nt1_114), (o 2, aZ ta 528 gt1_114), (o 3, oR (o 4) nd1_114), (o 4, aZ ta 300 gd1_114), (o 7, oR (o 8) nv1_114), (o 8, aZ ta 16 gv1_114), (o 9, oR (o 10) 16), (o 10, aZ ta 16 gz), (o 11, oD (o 12) (o 13) (o 14) (o 15) (o 16) tri1_114), (o 12, aZ ta 8 gb1_114), (o 13, aZ ta 8 bf1_114), (o 14, aI ta 512 spb), (o 15, aJ ta 16 f1_114), (o 16, aJ ta 16 s1_114), (wa 0, oW wa 1 0 0 false), (wa 1, oR (wa 2) 16), (wa 2, aZ ta 32 ge), (wa 3, oR (wa 4) 16), (wa 4, aZ ta 32 gm), (wa 15, oR (wa 16) 8), (wa 16, aZ ta 16 gh1_114), (wa 19, oR (wa 20) (((((0 + 1) + 1) + 1) + 1) + 8)), (wa 20, aZ ta 204 g1_102), (lg 5, oR (lg 6) nl1_114), (lg 6, aZ ta 300 gl1_114)] H := hP
    have hD : va_D A [(wa 17, oR (wa 18) nbc), (wa 18, aZ ta 8 gbc), (lg 0, oG lg ya yb wa wb o v ct), (ya 0, oK ya 2 ln), (wa 11, oR (wa 12) 8), (wa 12, aZ ta 8 gcp), (o 0, oO o), (o 1, oR (o 2) nt1_114), (o 2, aZ ta 528 gt1_114), (o 3, oR (o 4) nd1_114), (o 4, aZ ta 300 gd1_114), (o 7, oR (o 8) nv1_114), (o 8, aZ ta 16 gv1_114), (o 9, oR (o 10) 16), (o 10, aZ ta 16 gz), (o 11, oD (o 12) (o 13) (o 14) (o 15) (o 16) tri1_114), (o 12, aZ ta 8 gb1_114), (o 13, aZ ta 8 bf1_114), (o 14, aI ta 512 spb), (o 15, aJ ta 16 f1_114), (o 16, aJ ta 16 s1_114), (wa 0, oW wa 1 0 0 false), (wa 1, oR (wa 2) 16), (wa 2, aZ ta 32 ge), (wa 3, oR (wa 4) 16), (wa 4, aZ ta 32 gm), (wa 15, oR (wa 16) 8), (wa 16, aZ ta 16 gh1_114), (wa 19, oR (wa 20) (((((0 + 1) + 1) + 1) + 1) + 8)), (wa 20, aZ ta 204 g1_102), (lg 5, oR (lg 6) nl1_114), (lg 6, aZ ta 300 gl1_114)] := hD
    have hC : qL g1_102 (0 + 1 + 1 + 1 + 1 + 8) = (prvC l (qL gcp 8)) := by
      rw [hL_102, hL_85, hL_74, hL_63, hL_50, qlo_nI, qlo_nI, qlo_nI, qlo_nI]
      rfl
    rw [hC] at hch_114
    rw [hC, secD2_0, prvC_drop] at hl9_114 hnl_114
    rw [qL_len] at hnl_114
    have en_3 : 20 = nl1_114 := by omega
    subst en_3
    refine lv_aload_n (pc := 117) hx hb dX9_prove_117 rfl (lv_at hl 1 rfl) ?_
    refine va_get (pc := 118) (D := D) (ci := 7) (v := .ref (wa 0)) (C := RX9) (T := TX9) (N := 11) hx hb hts iu9 hown hK hP 2 rfl rfl 6 (by decide) (hts _ tw_358) (fun _ h9 => h9) rfl dX9_prove_118 ?_
    refine lv_iload_n (pc := 121) hx hb dX9_prove_121 rfl (lv_at hl 2 rfl) ?_
    refine cs_V (pc := 122) (idx := 161) (n := 1) (wr := [(lg 0, oG lg ya yb wa wb o v ct), (ya 0, oK ya 2 ln), (wa 11, oR (wa 12) 8), (wa 12, aZ ta 8 gcp), (o 0, oO o), (o 1, oR (o 2) nt1_114), (o 2, aZ ta 528 gt1_114), (o 3, oR (o 4) nd1_114), (o 4, aZ ta 300 gd1_114), (o 7, oR (o 8) nv1_114), (o 8, aZ ta 16 gv1_114), (o 9, oR (o 10) 16), (o 10, aZ ta 16 gz), (o 11, oD (o 12) (o 13) (o 14) (o 15) (o 16) tri1_114), (o 12, aZ ta 8 gb1_114), (o 13, aZ ta 8 bf1_114), (o 14, aI ta 512 spb), (o 15, aJ ta 16 f1_114), (o 16, aJ ta 16 s1_114), (wa 1, oR (wa 2) 16), (wa 2, aZ ta 32 ge), (wa 3, oR (wa 4) 16), (wa 4, aZ ta 32 gm), (wa 19, oR (wa 20) (((((0 + 1) + 1) + 1) + 1) + 8)), (wa 20, aZ ta 204 g1_102), (lg 5, oR (lg 6) 20), (lg 6, aZ ta 300 gl1_114)]) (As := [.int (nI l)]) (rest := []) (ci := 6) hx hb hml hown hts hGok hK hA hG hl.1 hP hD hS (ct_X8_open ll D ta gs wa 1 0 0 false gh1_114 8 gbc nbc l (by first | assumption | omega | rfl | decide) H.size) tw_772 tw_769 tw_770 tw_771 tw_68 hdX8_open rfl ⟨rfl, rfl, Nat.le_of_ble_eq_true rfl, Nat.le_of_ble_eq_true rfl, Nat.le_of_ble_eq_true rfl, Nat.le_of_ble_eq_true rfl⟩ rfl rfl (q0 := 21) rfl [21, 26, 27, 0, 1] [2, 3, 4, 5, 6, 7, 8, 9, 10, 11, 12, 13, 14, 15, 16, 17, 18, 19, 20, 22, 23, 24, 25, 28, 29, 30, 31] rfl rfl (by decide) rfl (Nat.le_of_ble_eq_true rfl) dX9_prove_122 (fun u H locs hq hP hD hS => ?_)
    generalize u = gbc1_122 at hq hP hD ⊢
    have hq : (qL gbc1_122 8 = (qL gh1_114 8).take 8) := hq
    have hL_122 := hq
    refine W.eq (g2 := F0 mm 125 ls []) rfl ?_
    have hP : va_P D vwCl [(lg 0, oG lg ya yb wa wb o v ct), (ya 0, oK ya 2 ln), (wa 11, oR (wa 12) 8), (wa 12, aZ ta 8 gcp), (o 0, oO o), (o 1, oR (o 2) nt1_114), (o 2, aZ ta 528 gt1_114), (o 3, oR (o 4) nd1_114), (o 4, aZ ta 300 gd1_114), (o 7, oR (o 8) nv1_114), (o 8, aZ ta 16 gv1_114), (o 9, oR (o 10) 16), (o 10, aZ ta 16 gz), (o 11, oD (o 12) (o 13) (o 14) (o 15) (o 16) tri1_114), (o 12, aZ ta 8 gb1_114), (o 13, aZ ta 8 bf1_114), (o 14, aI ta 512 spb), (o 15, aJ ta 16 f1_114), (o 16, aJ ta 16 s1_114), (wa 1, oR (wa 2) 16), (wa 2, aZ ta 32 ge), (wa 3, oR (wa 4) 16), (wa 4, aZ ta 32 gm), (wa 19, oR (wa 20) (((((0 + 1) + 1) + 1) + 1) + 8)), (wa 20, aZ ta 204 g1_102), (lg 5, oR (lg 6) 20), (lg 6, aZ ta 300 gl1_114), (wa 0, oW wa 2 l 0 false), (wa 15, oR (wa 16) 8), (wa 16, aZ ta 16 gh1_114), (wa 17, oR (wa 18) 8), (wa 18, aZ ta 8 gbc1_122)] H := hP
    have hD : va_D A [(lg 0, oG lg ya yb wa wb o v ct), (ya 0, oK ya 2 ln), (wa 11, oR (wa 12) 8), (wa 12, aZ ta 8 gcp), (o 0, oO o), (o 1, oR (o 2) nt1_114), (o 2, aZ ta 528 gt1_114), (o 3, oR (o 4) nd1_114), (o 4, aZ ta 300 gd1_114), (o 7, oR (o 8) nv1_114), (o 8, aZ ta 16 gv1_114), (o 9, oR (o 10) 16), (o 10, aZ ta 16 gz), (o 11, oD (o 12) (o 13) (o 14) (o 15) (o 16) tri1_114), (o 12, aZ ta 8 gb1_114), (o 13, aZ ta 8 bf1_114), (o 14, aI ta 512 spb), (o 15, aJ ta 16 f1_114), (o 16, aJ ta 16 s1_114), (wa 1, oR (wa 2) 16), (wa 2, aZ ta 32 ge), (wa 3, oR (wa 4) 16), (wa 4, aZ ta 32 gm), (wa 19, oR (wa 20) (((((0 + 1) + 1) + 1) + 1) + 8)), (wa 20, aZ ta 204 g1_102), (lg 5, oR (lg 6) 20), (lg 6, aZ ta 300 gl1_114), (wa 0, oW wa 2 l 0 false), (wa 15, oR (wa 16) 8), (wa 16, aZ ta 16 gh1_114), (wa 17, oR (wa 18) 8), (wa 18, aZ ta 8 gbc1_122)] := hD
    refine lv_aload_n (pc := 125) hx hb dX9_prove_125 rfl (lv_at hl 1 rfl) ?_
    refine va_get (pc := 126) (D := D) (ci := 7) (v := .ref (lg 5)) (C := RX9) (T := TX9) (N := 11) hx hb hts iu9 hown hK hP 0 rfl rfl 2 (by decide) (hts _ tw_354) (fun _ h9 => h9) rfl dX9_prove_126 ?_
    refine cs_V (pc := 129) (idx := 64) (n := 0) (wr := [(lg 0, oG lg ya yb wa wb o v ct), (ya 0, oK ya 2 ln), (wa 11, oR (wa 12) 8), (wa 12, aZ ta 8 gcp), (o 0, oO o), (o 1, oR (o 2) nt1_114), (o 2, aZ ta 528 gt1_114), (o 3, oR (o 4) nd1_114), (o 4, aZ ta 300 gd1_114), (o 7, oR (o 8) nv1_114), (o 8, aZ ta 16 gv1_114), (o 9, oR (o 10) 16), (o 10, aZ ta 16 gz), (o 11, oD (o 12) (o 13) (o 14) (o 15) (o 16) tri1_114), (o 12, aZ ta 8 gb1_114), (o 13, aZ ta 8 bf1_114), (o 14, aI ta 512 spb), (o 15, aJ ta 16 f1_114), (o 16, aJ ta 16 s1_114), (wa 1, oR (wa 2) 16), (wa 2, aZ ta 32 ge), (wa 3, oR (wa 4) 16), (wa 4, aZ ta 32 gm), (wa 19, oR (wa 20) (((((0 + 1) + 1) + 1) + 1) + 8)), (wa 20, aZ ta 204 g1_102), (wa 0, oW wa 2 l 0 false), (wa 15, oR (wa 16) 8), (wa 16, aZ ta 16 gh1_114), (wa 17, oR (wa 18) 8), (wa 18, aZ ta 8 gbc1_122)]) (As := []) (rest := []) (ci := 5) hx hb hml hown hts hGok hK hA hG hl.1 hP hD hS (ct_X6_size ll D ta hGok (lg 5) (lg 6) 300 gl1_114 20  H.size) tw_393 tw_390 tw_391 tw_392 tw_66 hdX6_size rfl ⟨rfl, rfl, Nat.le_of_ble_eq_true rfl, Nat.le_of_ble_eq_true rfl, Nat.le_of_ble_eq_true rfl, Nat.le_of_ble_eq_true rfl⟩ rfl rfl (q0 := 25) rfl [25, 26] [0, 1, 2, 3, 4, 5, 6, 7, 8, 9, 10, 11, 12, 13, 14, 15, 16, 17, 18, 19, 20, 21, 22, 23, 24, 27, 28, 29, 30, 31] rfl rfl (by decide) rfl (Nat.le_of_ble_eq_true rfl) dX9_prove_129 (fun u H locs hq hP hD hS => ?_)
    refine W.eq (g2 := F0 mm 132 ls [.int (nI 20)]) rfl ?_
    have hP : va_P D vwCl [(lg 0, oG lg ya yb wa wb o v ct), (ya 0, oK ya 2 ln), (wa 11, oR (wa 12) 8), (wa 12, aZ ta 8 gcp), (o 0, oO o), (o 1, oR (o 2) nt1_114), (o 2, aZ ta 528 gt1_114), (o 3, oR (o 4) nd1_114), (o 4, aZ ta 300 gd1_114), (o 7, oR (o 8) nv1_114), (o 8, aZ ta 16 gv1_114), (o 9, oR (o 10) 16), (o 10, aZ ta 16 gz), (o 11, oD (o 12) (o 13) (o 14) (o 15) (o 16) tri1_114), (o 12, aZ ta 8 gb1_114), (o 13, aZ ta 8 bf1_114), (o 14, aI ta 512 spb), (o 15, aJ ta 16 f1_114), (o 16, aJ ta 16 s1_114), (wa 1, oR (wa 2) 16), (wa 2, aZ ta 32 ge), (wa 3, oR (wa 4) 16), (wa 4, aZ ta 32 gm), (wa 19, oR (wa 20) (((((0 + 1) + 1) + 1) + 1) + 8)), (wa 20, aZ ta 204 g1_102), (wa 0, oW wa 2 l 0 false), (wa 15, oR (wa 16) 8), (wa 16, aZ ta 16 gh1_114), (wa 17, oR (wa 18) 8), (wa 18, aZ ta 8 gbc1_122), (lg 5, oR (lg 6) 20), (lg 6, aZ ta 300 gl1_114)] H := hP
    have hD : va_D A [(lg 0, oG lg ya yb wa wb o v ct), (ya 0, oK ya 2 ln), (wa 11, oR (wa 12) 8), (wa 12, aZ ta 8 gcp), (o 0, oO o), (o 1, oR (o 2) nt1_114), (o 2, aZ ta 528 gt1_114), (o 3, oR (o 4) nd1_114), (o 4, aZ ta 300 gd1_114), (o 7, oR (o 8) nv1_114), (o 8, aZ ta 16 gv1_114), (o 9, oR (o 10) 16), (o 10, aZ ta 16 gz), (o 11, oD (o 12) (o 13) (o 14) (o 15) (o 16) tri1_114), (o 12, aZ ta 8 gb1_114), (o 13, aZ ta 8 bf1_114), (o 14, aI ta 512 spb), (o 15, aJ ta 16 f1_114), (o 16, aJ ta 16 s1_114), (wa 1, oR (wa 2) 16), (wa 2, aZ ta 32 ge), (wa 3, oR (wa 4) 16), (wa 4, aZ ta 32 gm), (wa 19, oR (wa 20) (((((0 + 1) + 1) + 1) + 1) + 8)), (wa 20, aZ ta 204 g1_102), (wa 0, oW wa 2 l 0 false), (wa 15, oR (wa 16) 8), (wa 16, aZ ta 16 gh1_114), (wa 17, oR (wa 18) 8), (wa 18, aZ ta 8 gbc1_122), (lg 5, oR (lg 6) 20), (lg 6, aZ ta 300 gl1_114)] := hD
    have hq_4 : (qL gh1_114 8 = chain2 (qL gm 16) 0 (qL gh nh) (prvC l (qL gcp 8))) ∧ (qL gl1_114 20 = (prvC l (qL gcp 8)) ++ (qL gh1_114 8).take 8) ∧ (qL gbc1_122 8 = (qL gh1_114 8).take 8) := by
      refine ⟨hch_114, ?_, hL_122⟩
      rw [hl9_114, prv_put]
    exact hret (⟨(gt1_114), (nt1_114), (gd1_114), (nd1_114), (gv1_114), (nv1_114), (tri1_114), (gb1_114), (bf1_114), (f1_114), (s1_114), (gh1_114), (g1_102), (gbc1_122), (gl1_114)⟩ : (Nat → BitVec 8) × Nat × (Nat → BitVec 8) × Nat × (Nat → BitVec 8) × Nat × Bool × (Nat → BitVec 8) × (Nat → BitVec 8) × (Nat → Int64) × (Nat → Int64) × (Nat → BitVec 8) × (Nat → BitVec 8) × (Nat → BitVec 8) × (Nat → BitVec 8)) _ _ _ _ dX9_prove_132 hq_4 (hP.sub [0, 1, 25, 19, 20, 21, 22, 26, 27, 23, 24, 2, 3, 28, 29, 30, 31, 4, 5, 6, 7, 8, 9, 10, 11, 12, 13, 14, 15, 16, 17, 18] rfl) (hD.sub [0, 1, 25, 19, 20, 21, 22, 26, 27, 23, 24, 2, 3, 28, 29, 30, 31, 4, 5, 6, 7, 8, 9, 10, 11, 12, 13, 14, 15, 16, 17, 18] (by decide) rfl) hS
  · skip
    rw [q_beq] at c_2
    try rw [Bool.not_eq_false] at c_2
    rw [hz_22, hlev] at c_2; cases c_2
set_option maxHeartbeats 4000000 in
set_option maxRecDepth 100000 in
theorem ct_X9_send_O (ll : Launch) (D : va_G) (ta : Nat → ClassId) (gs : Nat → Nat) (lg : Nat → Nat) (ya : Nat → Nat) (yb : Nat → Nat) (wa : Nat → Nat) (wb : Nat → Nat) (o : Nat → Nat) (v : Nat → Nat) (ct : Nat) (gz : Nat → BitVec 8) (tri : Bool) (gb : Nat → BitVec 8) (bf : Nat → BitVec 8) (f : Nat → Int64) (s : Nat → Int64) (spb : Nat → Int32) (gt : Nat → BitVec 8) (nt : Nat) (gd : Nat → BitVec 8) (nd : Nat) (gv : Nat → BitVec 8) (nv : Nat) (ge : Nat → BitVec 8) (gm : Nat → BitVec 8) (gh : Nat → BitVec 8) (nh : Nat) (gc : Nat → BitVec 8) (nc : Nat) (gl : Nat → BitVec 8) (nl : Nat) (gta : Nat → BitVec 8) (nta : Nat) (ln : Nat) (lv : Nat) (cnt : Nat) (cm : Bool) (hz : qL gz 16 = zeroL 16) (hsp : spbOK spb) (hnh : 8 ≤ nh ∧ nh ≤ 16) (hli : nl ≤ 300) (hta : 4 ≤ nta ∧ nta ≤ 204) (hlv : lv < 256) (hl1 : lv &&& 1 ≠ 0) (hcnt : cnt + 1 < 2147483648) (sz : Nat) : CT ll yX9_send cX9_send 3 (some .int) ({ frames := 6, cells := 0, slots := 0, locals := 149 } : Room) D ta ((GC gs)) [.ref (lg 0)] [(lg 0, oG lg ya yb wa wb o v ct), (ya 0, oK ya 2 ln), (wa 0, oW wa 2 lv cnt cm), (wa 1, oR (wa 2) 16), (wa 2, aZ ta 32 ge), (wa 3, oR (wa 4) 16), (wa 4, aZ ta 32 gm), (wa 15, oR (wa 16) nh), (wa 16, aZ ta 16 gh), (wa 19, oR (wa 20) nc), (wa 20, aZ ta 204 gc), (lg 1, oR (lg 2) nta), (lg 2, aZ ta 400 gta), (lg 5, oR (lg 6) nl), (lg 6, aZ ta 300 gl), (o 0, oO o), (o 1, oR (o 2) nt), (o 2, aZ ta 528 gt), (o 3, oR (o 4) nd), (o 4, aZ ta 300 gd), (o 7, oR (o 8) nv), (o 8, aZ ta 16 gv), (o 9, oR (o 10) 16), (o 10, aZ ta 16 gz), (o 11, oD (o 12) (o 13) (o 14) (o 15) (o 16) tri), (o 12, aZ ta 8 gb), (o 13, aZ ta 8 bf), (o 14, aI ta 512 spb), (o 15, aJ ta 16 f), (o 16, aJ ta 16 s)] sz (S := (Nat → BitVec 8) × Nat × (Nat → BitVec 8) × Nat × (Nat → BitVec 8) × Nat × Bool × (Nat → BitVec 8) × (Nat → BitVec 8) × (Nat → Int64) × (Nat → Int64) × (Nat → BitVec 8) × (Nat → BitVec 8) × (Nat → BitVec 8) × Nat) (fun u => some (.int (nI u.2.2.2.2.2.2.2.2.2.2.2.2.2.2))) (fun u => (qL u.2.2.2.2.2.2.2.2.2.2.2.1 8 = chain2 (qL gm 16) (cnt + 1) (qL gh nh) (qL gta nta)) ∧ (qL u.2.2.2.2.2.2.2.2.2.2.2.2.2.1 u.2.2.2.2.2.2.2.2.2.2.2.2.2.2 = putC (qL gta nta) (secD2 (qL ge 16) lv (qL gta nta)) (qL u.2.2.2.2.2.2.2.2.2.2.2.1 8)) ∧ (qL u.2.2.2.2.2.2.2.2.2.2.2.2.1 nta = qL gta nta) ∧ (u.2.2.2.2.2.2.2.2.2.2.2.2.2.2 = (secD2 (qL ge 16) lv (qL gta nta)).length + 12 ∧ u.2.2.2.2.2.2.2.2.2.2.2.2.2.2 ≤ 220)) (fun u => [(lg 0, oG lg ya yb wa wb o v ct), (ya 0, oK ya 2 ln), (wa 0, oW wa 2 lv (cnt + 1) true), (wa 1, oR (wa 2) 16), (wa 2, aZ ta 32 ge), (wa 3, oR (wa 4) 16), (wa 4, aZ ta 32 gm), (wa 15, oR (wa 16) 8), (wa 16, aZ ta 16 u.2.2.2.2.2.2.2.2.2.2.2.1), (wa 19, oR (wa 20) nta), (wa 20, aZ ta 204 u.2.2.2.2.2.2.2.2.2.2.2.2.1), (lg 1, oR (lg 2) 0), (lg 2, aZ ta 400 gta), (lg 5, oR (lg 6) u.2.2.2.2.2.2.2.2.2.2.2.2.2.2), (lg 6, aZ ta 300 u.2.2.2.2.2.2.2.2.2.2.2.2.2.1), (o 0, oO o), (o 1, oR (o 2) u.2.1), (o 2, aZ ta 528 u.1), (o 3, oR (o 4) u.2.2.2.1), (o 4, aZ ta 300 u.2.2.1), (o 7, oR (o 8) u.2.2.2.2.2.1), (o 8, aZ ta 16 u.2.2.2.2.1), (o 9, oR (o 10) 16), (o 10, aZ ta 16 gz), (o 11, oD (o 12) (o 13) (o 14) (o 15) (o 16) u.2.2.2.2.2.2.1), (o 12, aZ ta 8 u.2.2.2.2.2.2.2.1), (o 13, aZ ta 8 u.2.2.2.2.2.2.2.2.1), (o 14, aI ta 512 spb), (o 15, aJ ta 16 u.2.2.2.2.2.2.2.2.2.1), (o 16, aJ ta 16 u.2.2.2.2.2.2.2.2.2.2.1)]) 0 0 := by
  refine CT.of_i (r := fun u => nI u.2.2.2.2.2.2.2.2.2.2.2.2.2.2) rfl (by decide) (Nat.le_of_ble_eq_true rfl) ?_
  have hGok := GC_ok gs
  intro pp ee ss mm below meth kc A Q hx hb hml hown hin hts hK hA hsz hG hret H locs hP hD hS ls hl
  have hl : lv_has ls 3 [(0, .ref (lg 0))] := hl
  refine lv_aload_n (pc := 0) hx hb dX9_send_0 rfl (lv_at hl 0 rfl) ?_
  refine va_get (pc := 1) (D := D) (ci := 7) (v := .ref (lg 1)) (C := RX9) (T := TX9) (N := 11) hx hb hts iu9 hown hK hP 0 rfl rfl 0 (by decide) (hts _ tw_352) (fun _ h9 => h9) rfl dX9_send_1 ?_
  refine cs_V (pc := 4) (idx := 64) (n := 0) (wr := [(lg 0, oG lg ya yb wa wb o v ct), (ya 0, oK ya 2 ln), (wa 0, oW wa 2 lv cnt cm), (wa 1, oR (wa 2) 16), (wa 2, aZ ta 32 ge), (wa 3, oR (wa 4) 16), (wa 4, aZ ta 32 gm), (wa 15, oR (wa 16) nh), (wa 16, aZ ta 16 gh), (wa 19, oR (wa 20) nc), (wa 20, aZ ta 204 gc), (lg 5, oR (lg 6) nl), (lg 6, aZ ta 300 gl), (o 0, oO o), (o 1, oR (o 2) nt), (o 2, aZ ta 528 gt), (o 3, oR (o 4) nd), (o 4, aZ ta 300 gd), (o 7, oR (o 8) nv), (o 8, aZ ta 16 gv), (o 9, oR (o 10) 16), (o 10, aZ ta 16 gz), (o 11, oD (o 12) (o 13) (o 14) (o 15) (o 16) tri), (o 12, aZ ta 8 gb), (o 13, aZ ta 8 bf), (o 14, aI ta 512 spb), (o 15, aJ ta 16 f), (o 16, aJ ta 16 s)]) (As := []) (rest := []) (ci := 5) hx hb hml hown hts hGok hK hA hG hl.1 hP hD hS (ct_X6_size ll D ta hGok (lg 1) (lg 2) 400 gta nta  H.size) tw_393 tw_390 tw_391 tw_392 tw_66 hdX6_size rfl ⟨rfl, rfl, Nat.le_of_ble_eq_true rfl, Nat.le_of_ble_eq_true rfl, Nat.le_of_ble_eq_true rfl, Nat.le_of_ble_eq_true rfl⟩ rfl rfl (q0 := 11) rfl [11, 12] [0, 1, 2, 3, 4, 5, 6, 7, 8, 9, 10, 13, 14, 15, 16, 17, 18, 19, 20, 21, 22, 23, 24, 25, 26, 27, 28, 29] rfl rfl (by decide) rfl (Nat.le_of_ble_eq_true rfl) dX9_send_4 (fun u H locs hq hP hD hS => ?_)
  refine W.eq (g2 := F0 mm 7 ls [.int (nI nta)]) rfl ?_
  have hP : va_P D vwCl [(lg 0, oG lg ya yb wa wb o v ct), (ya 0, oK ya 2 ln), (wa 0, oW wa 2 lv cnt cm), (wa 1, oR (wa 2) 16), (wa 2, aZ ta 32 ge), (wa 3, oR (wa 4) 16), (wa 4, aZ ta 32 gm), (wa 15, oR (wa 16) nh), (wa 16, aZ ta 16 gh), (wa 19, oR (wa 20) nc), (wa 20, aZ ta 204 gc), (lg 5, oR (lg 6) nl), (lg 6, aZ ta 300 gl), (o 0, oO o), (o 1, oR (o 2) nt), (o 2, aZ ta 528 gt), (o 3, oR (o 4) nd), (o 4, aZ ta 300 gd), (o 7, oR (o 8) nv), (o 8, aZ ta 16 gv), (o 9, oR (o 10) 16), (o 10, aZ ta 16 gz), (o 11, oD (o 12) (o 13) (o 14) (o 15) (o 16) tri), (o 12, aZ ta 8 gb), (o 13, aZ ta 8 bf), (o 14, aI ta 512 spb), (o 15, aJ ta 16 f), (o 16, aJ ta 16 s), (lg 1, oR (lg 2) nta), (lg 2, aZ ta 400 gta)] H := hP
  have hD : va_D A [(lg 0, oG lg ya yb wa wb o v ct), (ya 0, oK ya 2 ln), (wa 0, oW wa 2 lv cnt cm), (wa 1, oR (wa 2) 16), (wa 2, aZ ta 32 ge), (wa 3, oR (wa 4) 16), (wa 4, aZ ta 32 gm), (wa 15, oR (wa 16) nh), (wa 16, aZ ta 16 gh), (wa 19, oR (wa 20) nc), (wa 20, aZ ta 204 gc), (lg 5, oR (lg 6) nl), (lg 6, aZ ta 300 gl), (o 0, oO o), (o 1, oR (o 2) nt), (o 2, aZ ta 528 gt), (o 3, oR (o 4) nd), (o 4, aZ ta 300 gd), (o 7, oR (o 8) nv), (o 8, aZ ta 16 gv), (o 9, oR (o 10) 16), (o 10, aZ ta 16 gz), (o 11, oD (o 12) (o 13) (o 14) (o 15) (o 16) tri), (o 12, aZ ta 8 gb), (o 13, aZ ta 8 bf), (o 14, aI ta 512 spb), (o 15, aJ ta 16 f), (o 16, aJ ta 16 s), (lg 1, oR (lg 2) nta), (lg 2, aZ ta 400 gta)] := hD
  refine lv_istore_n (pc := 7) (lv' := [(1, .int (nI nta)), (0, .ref (lg 0))]) hx hb dX9_send_7 rfl hl (by decide) rfl (fun ls hl => ?_)
  refine lv_aload_n (pc := 8) hx hb dX9_send_8 rfl (lv_at hl 1 rfl) ?_
  refine va_get (pc := 9) (D := D) (ci := 7) (v := .ref (wa 0)) (C := RX9) (T := TX9) (N := 11) hx hb hts iu9 hown hK hP 0 rfl rfl 6 (by decide) (hts _ tw_358) (fun _ h9 => h9) rfl dX9_send_9 ?_
  refine lv_iconst (pc := 12) (v := nI 1) hx hb dX9_send_12 (by decide +kernel) ?_
  refine cs_V (pc := 13) (idx := 164) (n := 1) (wr := [(lg 0, oG lg ya yb wa wb o v ct), (ya 0, oK ya 2 ln), (wa 1, oR (wa 2) 16), (wa 2, aZ ta 32 ge), (wa 3, oR (wa 4) 16), (wa 4, aZ ta 32 gm), (wa 15, oR (wa 16) nh), (wa 16, aZ ta 16 gh), (wa 19, oR (wa 20) nc), (wa 20, aZ ta 204 gc), (lg 5, oR (lg 6) nl), (lg 6, aZ ta 300 gl), (o 0, oO o), (o 1, oR (o 2) nt), (o 2, aZ ta 528 gt), (o 3, oR (o 4) nd), (o 4, aZ ta 300 gd), (o 7, oR (o 8) nv), (o 8, aZ ta 16 gv), (o 9, oR (o 10) 16), (o 10, aZ ta 16 gz), (o 11, oD (o 12) (o 13) (o 14) (o 15) (o 16) tri), (o 12, aZ ta 8 gb), (o 13, aZ ta 8 bf), (o 14, aI ta 512 spb), (o 15, aJ ta 16 f), (o 16, aJ ta 16 s), (lg 1, oR (lg 2) nta), (lg 2, aZ ta 400 gta)]) (As := [.int (nI 1)]) (rest := []) (ci := 6) hx hb hml hown hts hGok hK hA hG hl.1 hP hD hS (ct_X8_isOpenWith ll D ta gs wa 2 lv cnt cm 1 (by first | assumption | omega | rfl | decide) (by first | assumption | omega | rfl | decide) (by first | assumption | omega | rfl | decide) H.size) tw_781 tw_778 tw_779 tw_780 tw_68 hdX8_isOpenWith rfl ⟨rfl, rfl, Nat.le_of_ble_eq_true rfl, Nat.le_of_ble_eq_true rfl, Nat.le_of_ble_eq_true rfl, Nat.le_of_ble_eq_true rfl⟩ rfl rfl (q0 := 2) rfl [2] [0, 1, 3, 4, 5, 6, 7, 8, 9, 10, 11, 12, 13, 14, 15, 16, 17, 18, 19, 20, 21, 22, 23, 24, 25, 26, 27, 28, 29] rfl rfl (by decide) rfl (Nat.le_of_ble_eq_true rfl) dX9_send_13 (fun u H locs hq hP hD hS => ?_)
  generalize u = z_13 at hq hP hD ⊢
  have hq : (z_13 = decide (2 = 2 ∧ lv &&& 1 ≠ 0)) := hq
  have hz_13 := hq
  refine W.eq (g2 := F0 mm 16 ls [.int (qb z_13)]) rfl ?_
  have hP : va_P D vwCl [(lg 0, oG lg ya yb wa wb o v ct), (ya 0, oK ya 2 ln), (wa 1, oR (wa 2) 16), (wa 2, aZ ta 32 ge), (wa 3, oR (wa 4) 16), (wa 4, aZ ta 32 gm), (wa 15, oR (wa 16) nh), (wa 16, aZ ta 16 gh), (wa 19, oR (wa 20) nc), (wa 20, aZ ta 204 gc), (lg 5, oR (lg 6) nl), (lg 6, aZ ta 300 gl), (o 0, oO o), (o 1, oR (o 2) nt), (o 2, aZ ta 528 gt), (o 3, oR (o 4) nd), (o 4, aZ ta 300 gd), (o 7, oR (o 8) nv), (o 8, aZ ta 16 gv), (o 9, oR (o 10) 16), (o 10, aZ ta 16 gz), (o 11, oD (o 12) (o 13) (o 14) (o 15) (o 16) tri), (o 12, aZ ta 8 gb), (o 13, aZ ta 8 bf), (o 14, aI ta 512 spb), (o 15, aJ ta 16 f), (o 16, aJ ta 16 s), (lg 1, oR (lg 2) nta), (lg 2, aZ ta 400 gta), (wa 0, oW wa 2 lv cnt cm)] H := hP
  have hD : va_D A [(lg 0, oG lg ya yb wa wb o v ct), (ya 0, oK ya 2 ln), (wa 1, oR (wa 2) 16), (wa 2, aZ ta 32 ge), (wa 3, oR (wa 4) 16), (wa 4, aZ ta 32 gm), (wa 15, oR (wa 16) nh), (wa 16, aZ ta 16 gh), (wa 19, oR (wa 20) nc), (wa 20, aZ ta 204 gc), (lg 5, oR (lg 6) nl), (lg 6, aZ ta 300 gl), (o 0, oO o), (o 1, oR (o 2) nt), (o 2, aZ ta 528 gt), (o 3, oR (o 4) nd), (o 4, aZ ta 300 gd), (o 7, oR (o 8) nv), (o 8, aZ ta 16 gv), (o 9, oR (o 10) 16), (o 10, aZ ta 16 gz), (o 11, oD (o 12) (o 13) (o 14) (o 15) (o 16) tri), (o 12, aZ ta 8 gb), (o 13, aZ ta 8 bf), (o 14, aI ta 512 spb), (o 15, aJ ta 16 f), (o 16, aJ ta 16 s), (lg 1, oR (lg 2) nta), (lg 2, aZ ta 400 gta), (wa 0, oW wa 2 lv cnt cm)] := hD
  refine lv_if_eq (pc := 16) (tgt := 35) hx hb dX9_send_16 (by decide) (fun c_1 => ?_) (fun c_1 => ?_)
  · skip
    rw [q_beq] at c_1
    try rw [Bool.not_eq_false] at c_1
    rw [hz_13, decide_eq_true ⟨rfl, hl1⟩] at c_1; cases c_1
  · skip
    rw [q_beq] at c_1
    try rw [Bool.not_eq_false] at c_1
    refine lv_iload_n (pc := 19) hx hb dX9_send_19 rfl (lv_at hl 0 rfl) ?_
    refine lv_iconst (pc := 20) (v := nI 4) hx hb dX9_send_20 (by decide +kernel) ?_
    refine lv_icmp_lt (pc := 21) (tgt := 35) hx hb dX9_send_21 (by decide) (fun c_2 => ?_) (fun c_2 => ?_)
    · skip
      rw [nI_ltI (by omega) (by omega)] at c_2
      exfalso; omega
    · skip
      rw [nI_ltI (by omega) (by omega)] at c_2
      refine lv_iload_n (pc := 24) hx hb dX9_send_24 rfl (lv_at hl 0 rfl) ?_
      refine lv_sipush (pc := 25) (v := nI 204) hx hb dX9_send_25 (by decide +kernel) ?_
      refine lv_icmp_gt (pc := 28) (tgt := 35) hx hb dX9_send_28 (by decide) (fun c_3 => ?_) (fun c_3 => ?_)
      · skip
        rw [nI_ltI (by omega) (by omega)] at c_3
        exfalso; omega
      · skip
        rw [nI_ltI (by omega) (by omega)] at c_3
        refine lv_iconst (pc := 31) (v := nI 1) hx hb dX9_send_31 (by decide +kernel) ?_
        refine lv_goto (pc := 32) (tgt := 36) hx hb dX9_send_32 (by decide) ?_
        refine lv_istore_n (pc := 36) (lv' := [(2, .int (nI 1)), (1, .int (nI nta)), (0, .ref (lg 0))]) hx hb dX9_send_36 rfl hl (by decide) rfl (fun ls hl => ?_)
        refine lv_iload_n (pc := 37) hx hb dX9_send_37 rfl (lv_at hl 0 rfl) ?_
        refine lv_if_eq (pc := 38) (tgt := 95) hx hb dX9_send_38 (by decide) (fun c_4 => absurd c_4 (by decide)) (fun _ => ?_)
        refine lv_aload_n (pc := 41) hx hb dX9_send_41 rfl (lv_at hl 2 rfl) ?_
        refine va_get (pc := 42) (D := D) (ci := 7) (v := .ref (wa 0)) (C := RX9) (T := TX9) (N := 11) hx hb hts iu9 hown hK hP 0 rfl rfl 6 (by decide) (hts _ tw_358) (fun _ h9 => h9) rfl dX9_send_42 ?_
        refine va_getN (pc := 45) (D := D) (ci := 6) (v := .ref (wa 19)) (C := RX8) (T := TX8) (N := 14) hx hb hts iu8 hown hK hP 29 rfl rfl 11 (by decide) (va_Nw.use rfl (GC_w177 hG)) (fun _ h9 => h9) rfl dX9_send_45 ?_
        refine lv_aload_n (pc := 48) hx hb dX9_send_48 rfl (lv_at hl 2 rfl) ?_
        refine va_get (pc := 49) (D := D) (ci := 7) (v := .ref (lg 1)) (C := RX9) (T := TX9) (N := 11) hx hb hts iu9 hown hK hP 0 rfl rfl 0 (by decide) (hts _ tw_352) (fun _ h9 => h9) rfl dX9_send_49 ?_
        refine cs_V (pc := 52) (idx := 84) (n := 1) (wr := [(lg 0, oG lg ya yb wa wb o v ct), (ya 0, oK ya 2 ln), (wa 1, oR (wa 2) 16), (wa 2, aZ ta 32 ge), (wa 3, oR (wa 4) 16), (wa 4, aZ ta 32 gm), (wa 15, oR (wa 16) nh), (wa 16, aZ ta 16 gh), (lg 5, oR (lg 6) nl), (lg 6, aZ ta 300 gl), (o 0, oO o), (o 1, oR (o 2) nt), (o 2, aZ ta 528 gt), (o 3, oR (o 4) nd), (o 4, aZ ta 300 gd), (o 7, oR (o 8) nv), (o 8, aZ ta 16 gv), (o 9, oR (o 10) 16), (o 10, aZ ta 16 gz), (o 11, oD (o 12) (o 13) (o 14) (o 15) (o 16) tri), (o 12, aZ ta 8 gb), (o 13, aZ ta 8 bf), (o 14, aI ta 512 spb), (o 15, aJ ta 16 f), (o 16, aJ ta 16 s), (wa 0, oW wa 2 lv cnt cm)]) (As := [.ref (lg 1)]) (rest := []) (ci := 5) hx hb hml hown hts hGok hK hA hG hl.1 hP hD hS (ct_X6_copy ll D ta hGok (wa 19) (wa 20) 204 gc nc (lg 1) (lg 2) 400 gta nta (by first | assumption | omega | rfl | decide) (by first | assumption | omega | rfl | decide) (by first | assumption | omega | rfl | decide) (by first | assumption | omega | rfl | decide) H.size) tw_437 tw_434 tw_435 tw_436 tw_66 hdX6_copy rfl ⟨rfl, rfl, Nat.le_of_ble_eq_true rfl, Nat.le_of_ble_eq_true rfl, Nat.le_of_ble_eq_true rfl, Nat.le_of_ble_eq_true rfl⟩ rfl rfl (q0 := 8) rfl [8, 9, 27, 28] [0, 1, 2, 3, 4, 5, 6, 7, 10, 11, 12, 13, 14, 15, 16, 17, 18, 19, 20, 21, 22, 23, 24, 25, 26, 29] rfl rfl (by decide) rfl (Nat.le_of_ble_eq_true rfl) dX9_send_52 (fun u H locs hq hP hD hS => ?_)
        generalize u = g1_52 at hq hP hD ⊢
        have hq : (qL g1_52 nta = qL gta nta) := hq
        have hL_52 := hq
        refine W.eq (g2 := F0 mm 55 ls []) rfl ?_
        have hP : va_P D vwCl [(lg 0, oG lg ya yb wa wb o v ct), (ya 0, oK ya 2 ln), (wa 1, oR (wa 2) 16), (wa 2, aZ ta 32 ge), (wa 3, oR (wa 4) 16), (wa 4, aZ ta 32 gm), (wa 15, oR (wa 16) nh), (wa 16, aZ ta 16 gh), (lg 5, oR (lg 6) nl), (lg 6, aZ ta 300 gl), (o 0, oO o), (o 1, oR (o 2) nt), (o 2, aZ ta 528 gt), (o 3, oR (o 4) nd), (o 4, aZ ta 300 gd), (o 7, oR (o 8) nv), (o 8, aZ ta 16 gv), (o 9, oR (o 10) 16), (o 10, aZ ta 16 gz), (o 11, oD (o 12) (o 13) (o 14) (o 15) (o 16) tri), (o 12, aZ ta 8 gb), (o 13, aZ ta 8 bf), (o 14, aI ta 512 spb), (o 15, aJ ta 16 f), (o 16, aJ ta 16 s), (wa 0, oW wa 2 lv cnt cm), (wa 19, oR (wa 20) nta), (wa 20, aZ ta 204 g1_52), (lg 1, oR (lg 2) nta), (lg 2, aZ ta 400 gta)] H := hP
        have hD : va_D A [(lg 0, oG lg ya yb wa wb o v ct), (ya 0, oK ya 2 ln), (wa 1, oR (wa 2) 16), (wa 2, aZ ta 32 ge), (wa 3, oR (wa 4) 16), (wa 4, aZ ta 32 gm), (wa 15, oR (wa 16) nh), (wa 16, aZ ta 16 gh), (lg 5, oR (lg 6) nl), (lg 6, aZ ta 300 gl), (o 0, oO o), (o 1, oR (o 2) nt), (o 2, aZ ta 528 gt), (o 3, oR (o 4) nd), (o 4, aZ ta 300 gd), (o 7, oR (o 8) nv), (o 8, aZ ta 16 gv), (o 9, oR (o 10) 16), (o 10, aZ ta 16 gz), (o 11, oD (o 12) (o 13) (o 14) (o 15) (o 16) tri), (o 12, aZ ta 8 gb), (o 13, aZ ta 8 bf), (o 14, aI ta 512 spb), (o 15, aJ ta 16 f), (o 16, aJ ta 16 s), (wa 0, oW wa 2 lv cnt cm), (wa 19, oR (wa 20) nta), (wa 20, aZ ta 204 g1_52), (lg 1, oR (lg 2) nta), (lg 2, aZ ta 400 gta)] := hD
        refine lv_aload_n (pc := 55) hx hb dX9_send_55 rfl (lv_at hl 2 rfl) ?_
        refine va_get (pc := 56) (D := D) (ci := 7) (v := .ref (wa 0)) (C := RX9) (T := TX9) (N := 11) hx hb hts iu9 hown hK hP 0 rfl rfl 6 (by decide) (hts _ tw_358) (fun _ h9 => h9) rfl dX9_send_56 ?_
        refine lv_dup (pc := 59) hx hb dX9_send_59 rfl ?_
        refine va_getN (pc := 60) (D := D) (ci := 6) (v := .int (nI cnt)) (C := RX8) (T := TX8) (N := 14) hx hb hts iu8 hown hK hP 25 rfl rfl 12 (by decide) (va_Nw.use rfl (GC_w180 hG)) (fun _ h9 => h9) rfl dX9_send_60 ?_
        refine lv_iconst (pc := 63) (v := nI 1) hx hb dX9_send_63 (by decide +kernel) ?_
        refine lv_iadd (pc := 64) hx hb dX9_send_64 ?_
        refine q_top (y := nI (cnt + 1)) (nI_add cnt 1) ?_
        refine va_putN (pc := 65) (D := D) (ci := 6) (v := .int (nI (cnt + 1))) (ty := .int) (C := RX8) (T := TX8) (N := 14) hx hb hts iu8 tyX8 tyX8_ok nmX8 hown hK hP hD hS 25 rfl rfl 12 (by decide) (va_Nw.use rfl (GC_w180 hG)) (fun _ h9 => h9) rfl (by decide +kernel) rfl rfl (Nat.le_of_ble_eq_true rfl) dX9_send_65 (fun H locs hP hD hS => ?_)
        have hP : va_P D vwCl [(lg 0, oG lg ya yb wa wb o v ct), (ya 0, oK ya 2 ln), (wa 1, oR (wa 2) 16), (wa 2, aZ ta 32 ge), (wa 3, oR (wa 4) 16), (wa 4, aZ ta 32 gm), (wa 15, oR (wa 16) nh), (wa 16, aZ ta 16 gh), (lg 5, oR (lg 6) nl), (lg 6, aZ ta 300 gl), (o 0, oO o), (o 1, oR (o 2) nt), (o 2, aZ ta 528 gt), (o 3, oR (o 4) nd), (o 4, aZ ta 300 gd), (o 7, oR (o 8) nv), (o 8, aZ ta 16 gv), (o 9, oR (o 10) 16), (o 10, aZ ta 16 gz), (o 11, oD (o 12) (o 13) (o 14) (o 15) (o 16) tri), (o 12, aZ ta 8 gb), (o 13, aZ ta 8 bf), (o 14, aI ta 512 spb), (o 15, aJ ta 16 f), (o 16, aJ ta 16 s), (wa 0, oW wa 2 lv (cnt + 1) cm), (wa 19, oR (wa 20) nta), (wa 20, aZ ta 204 g1_52), (lg 1, oR (lg 2) nta), (lg 2, aZ ta 400 gta)] H := hP
        have hD : va_D A [(lg 0, oG lg ya yb wa wb o v ct), (ya 0, oK ya 2 ln), (wa 1, oR (wa 2) 16), (wa 2, aZ ta 32 ge), (wa 3, oR (wa 4) 16), (wa 4, aZ ta 32 gm), (wa 15, oR (wa 16) nh), (wa 16, aZ ta 16 gh), (lg 5, oR (lg 6) nl), (lg 6, aZ ta 300 gl), (o 0, oO o), (o 1, oR (o 2) nt), (o 2, aZ ta 528 gt), (o 3, oR (o 4) nd), (o 4, aZ ta 300 gd), (o 7, oR (o 8) nv), (o 8, aZ ta 16 gv), (o 9, oR (o 10) 16), (o 10, aZ ta 16 gz), (o 11, oD (o 12) (o 13) (o 14) (o 15) (o 16) tri), (o 12, aZ ta 8 gb), (o 13, aZ ta 8 bf), (o 14, aI ta 512 spb), (o 15, aJ ta 16 f), (o 16, aJ ta 16 s), (wa 0, oW wa 2 lv (cnt + 1) cm), (wa 19, oR (wa 20) nta), (wa 20, aZ ta 204 g1_52), (lg 1, oR (lg 2) nta), (lg 2, aZ ta 400 gta)] := hD
        refine lv_aload_n (pc := 68) hx hb dX9_send_68 rfl (lv_at hl 2 rfl) ?_
        refine va_get (pc := 69) (D := D) (ci := 7) (v := .ref (wa 0)) (C := RX9) (T := TX9) (N := 11) hx hb hts iu9 hown hK hP 0 rfl rfl 6 (by decide) (hts _ tw_358) (fun _ h9 => h9) rfl dX9_send_69 ?_
        refine lv_iconst (pc := 72) (v := nI 1) hx hb dX9_send_72 (by decide +kernel) ?_
        refine q_tops (y := qb true) rfl ?_
        refine va_putN (pc := 73) (D := D) (ci := 6) (v := .int (qb true)) (ty := .boolean) (C := RX8) (T := TX8) (N := 14) hx hb hts iu8 tyX8 tyX8_ok nmX8 hown hK hP hD hS 25 rfl rfl 13 (by decide) (va_Nw.use rfl (GC_w183 hG)) (fun _ h9 => h9) rfl (by decide +kernel) (q_nbo _) (q_fbo _) (Nat.le_of_ble_eq_true rfl) dX9_send_73 (fun H locs hP hD hS => ?_)
        have hP : va_P D vwCl [(lg 0, oG lg ya yb wa wb o v ct), (ya 0, oK ya 2 ln), (wa 1, oR (wa 2) 16), (wa 2, aZ ta 32 ge), (wa 3, oR (wa 4) 16), (wa 4, aZ ta 32 gm), (wa 15, oR (wa 16) nh), (wa 16, aZ ta 16 gh), (lg 5, oR (lg 6) nl), (lg 6, aZ ta 300 gl), (o 0, oO o), (o 1, oR (o 2) nt), (o 2, aZ ta 528 gt), (o 3, oR (o 4) nd), (o 4, aZ ta 300 gd), (o 7, oR (o 8) nv), (o 8, aZ ta 16 gv), (o 9, oR (o 10) 16), (o 10, aZ ta 16 gz), (o 11, oD (o 12) (o 13) (o 14) (o 15) (o 16) tri), (o 12, aZ ta 8 gb), (o 13, aZ ta 8 bf), (o 14, aI ta 512 spb), (o 15, aJ ta 16 f), (o 16, aJ ta 16 s), (wa 0, oW wa 2 lv (cnt + 1) true), (wa 19, oR (wa 20) nta), (wa 20, aZ ta 204 g1_52), (lg 1, oR (lg 2) nta), (lg 2, aZ ta 400 gta)] H := hP
        have hD : va_D A [(lg 0, oG lg ya yb wa wb o v ct), (ya 0, oK ya 2 ln), (wa 1, oR (wa 2) 16), (wa 2, aZ ta 32 ge), (wa 3, oR (wa 4) 16), (wa 4, aZ ta 32 gm), (wa 15, oR (wa 16) nh), (wa 16, aZ ta 16 gh), (lg 5, oR (lg 6) nl), (lg 6, aZ ta 300 gl), (o 0, oO o), (o 1, oR (o 2) nt), (o 2, aZ ta 528 gt), (o 3, oR (o 4) nd), (o 4, aZ ta 300 gd), (o 7, oR (o 8) nv), (o 8, aZ ta 16 gv), (o 9, oR (o 10) 16), (o 10, aZ ta 16 gz), (o 11, oD (o 12) (o 13) (o 14) (o 15) (o 16) tri), (o 12, aZ ta 8 gb), (o 13, aZ ta 8 bf), (o 14, aI ta 512 spb), (o 15, aJ ta 16 f), (o 16, aJ ta 16 s), (wa 0, oW wa 2 lv (cnt + 1) true), (wa 19, oR (wa 20) nta), (wa 20, aZ ta 204 g1_52), (lg 1, oR (lg 2) nta), (lg 2, aZ ta 400 gta)] := hD
        refine lv_aload_n (pc := 76) hx hb dX9_send_76 rfl (lv_at hl 2 rfl) ?_
        refine lv_aload_n (pc := 77) hx hb dX9_send_77 rfl (lv_at hl 2 rfl) ?_
        refine va_get (pc := 78) (D := D) (ci := 7) (v := .ref (ya 0)) (C := RX9) (T := TX9) (N := 11) hx hb hts iu9 hown hK hP 0 rfl rfl 4 (by decide) (hts _ tw_356) (fun _ h9 => h9) rfl dX9_send_78 ?_
        refine cs_V (pc := 81) (idx := 109) (n := 1) (wr := [(wa 1, oR (wa 2) 16), (wa 2, aZ ta 32 ge), (wa 3, oR (wa 4) 16), (wa 4, aZ ta 32 gm), (wa 15, oR (wa 16) nh), (wa 16, aZ ta 16 gh), (lg 5, oR (lg 6) nl), (lg 6, aZ ta 300 gl), (o 0, oO o), (o 1, oR (o 2) nt), (o 2, aZ ta 528 gt), (o 3, oR (o 4) nd), (o 4, aZ ta 300 gd), (o 7, oR (o 8) nv), (o 8, aZ ta 16 gv), (o 9, oR (o 10) 16), (o 10, aZ ta 16 gz), (o 11, oD (o 12) (o 13) (o 14) (o 15) (o 16) tri), (o 12, aZ ta 8 gb), (o 13, aZ ta 8 bf), (o 14, aI ta 512 spb), (o 15, aJ ta 16 f), (o 16, aJ ta 16 s), (wa 0, oW wa 2 lv (cnt + 1) true), (wa 19, oR (wa 20) nta), (wa 20, aZ ta 204 g1_52), (lg 1, oR (lg 2) nta), (lg 2, aZ ta 400 gta)]) (As := [.ref (ya 0)]) (rest := []) (ci := 7) hx hb hml hown hts hGok hK hA hG hl.1 hP hD hS (ct_X9_ruleOf_2 ll D ta gs lg ya yb wa wb o v ct ya 2 ln (by first | assumption | omega | rfl | decide) H.size) tw_489 tw_486 tw_488 tw_2 tw_65 hdX9_ruleOf rfl ⟨rfl, rfl, Nat.le_of_ble_eq_true rfl, Nat.le_of_ble_eq_true rfl, Nat.le_of_ble_eq_true rfl, Nat.le_of_ble_eq_true rfl⟩ rfl rfl (q0 := 0) rfl [0, 1] [2, 3, 4, 5, 6, 7, 8, 9, 10, 11, 12, 13, 14, 15, 16, 17, 18, 19, 20, 21, 22, 23, 24, 25, 26, 27, 28, 29] rfl rfl (by decide) rfl (Nat.le_of_ble_eq_true rfl) dX9_send_81 (fun u H locs hq hP hD hS => ?_)
        refine W.eq (g2 := F0 mm 84 ls [.ref (o 0)]) rfl ?_
        have hP : va_P D vwCl [(wa 1, oR (wa 2) 16), (wa 2, aZ ta 32 ge), (wa 3, oR (wa 4) 16), (wa 4, aZ ta 32 gm), (wa 15, oR (wa 16) nh), (wa 16, aZ ta 16 gh), (lg 5, oR (lg 6) nl), (lg 6, aZ ta 300 gl), (o 0, oO o), (o 1, oR (o 2) nt), (o 2, aZ ta 528 gt), (o 3, oR (o 4) nd), (o 4, aZ ta 300 gd), (o 7, oR (o 8) nv), (o 8, aZ ta 16 gv), (o 9, oR (o 10) 16), (o 10, aZ ta 16 gz), (o 11, oD (o 12) (o 13) (o 14) (o 15) (o 16) tri), (o 12, aZ ta 8 gb), (o 13, aZ ta 8 bf), (o 14, aI ta 512 spb), (o 15, aJ ta 16 f), (o 16, aJ ta 16 s), (wa 0, oW wa 2 lv (cnt + 1) true), (wa 19, oR (wa 20) nta), (wa 20, aZ ta 204 g1_52), (lg 1, oR (lg 2) nta), (lg 2, aZ ta 400 gta), (lg 0, oG lg ya yb wa wb o v ct), (ya 0, oK ya 2 ln)] H := hP
        have hD : va_D A [(wa 1, oR (wa 2) 16), (wa 2, aZ ta 32 ge), (wa 3, oR (wa 4) 16), (wa 4, aZ ta 32 gm), (wa 15, oR (wa 16) nh), (wa 16, aZ ta 16 gh), (lg 5, oR (lg 6) nl), (lg 6, aZ ta 300 gl), (o 0, oO o), (o 1, oR (o 2) nt), (o 2, aZ ta 528 gt), (o 3, oR (o 4) nd), (o 4, aZ ta 300 gd), (o 7, oR (o 8) nv), (o 8, aZ ta 16 gv), (o 9, oR (o 10) 16), (o 10, aZ ta 16 gz), (o 11, oD (o 12) (o 13) (o 14) (o 15) (o 16) tri), (o 12, aZ ta 8 gb), (o 13, aZ ta 8 bf), (o 14, aI ta 512 spb), (o 15, aJ ta 16 f), (o 16, aJ ta 16 s), (wa 0, oW wa 2 lv (cnt + 1) true), (wa 19, oR (wa 20) nta), (wa 20, aZ ta 204 g1_52), (lg 1, oR (lg 2) nta), (lg 2, aZ ta 400 gta), (lg 0, oG lg ya yb wa wb o v ct), (ya 0, oK ya 2 ln)] := hD
        refine lv_aload_n (pc := 84) hx hb dX9_send_84 rfl (lv_at hl 2 rfl) ?_
        refine va_get (pc := 85) (D := D) (ci := 7) (v := .ref (wa 0)) (C := RX9) (T := TX9) (N := 11) hx hb hts iu9 hown hK hP 28 rfl rfl 6 (by decide) (hts _ tw_358) (fun _ h9 => h9) rfl dX9_send_85 ?_
        refine lv_aload_n (pc := 88) hx hb dX9_send_88 rfl (lv_at hl 2 rfl) ?_
        refine va_get (pc := 89) (D := D) (ci := 7) (v := .ref (lg 5)) (C := RX9) (T := TX9) (N := 11) hx hb hts iu9 hown hK hP 28 rfl rfl 2 (by decide) (hts _ tw_354) (fun _ h9 => h9) rfl dX9_send_89 ?_
        refine cs_U (pc := 92) (idx := 157) (n := 2) (wr := [(lg 1, oR (lg 2) nta), (lg 2, aZ ta 400 gta), (lg 0, oG lg ya yb wa wb o v ct), (ya 0, oK ya 2 ln)]) (As := [.ref (wa 0), .ref (lg 5)]) (rest := []) (ci := 4) (x := ⟨"LineGuard$Rule", "secure", "(LLineGuard$Session;LLineGuard$Row;)V"⟩) (owner := "LineGuard$Rule") hx hb hml hown hts hGok hK hA hG hl.1 hP hD hS (ct_X5_secure ll D ta gs o gz tri gb bf f s spb wa 2 lv (cnt + 1) true gt nt gd nd gv nv ge gm gh nh g1_52 nta (lg 5) (lg 6) 300 gl nl (by first | assumption | omega | rfl | decide) (by first | assumption | omega | rfl | decide) (by first | assumption | omega | rfl | decide) (by first | assumption | omega | rfl | decide) (by first | assumption | omega | rfl | decide) (by first | assumption | omega | rfl | decide) (by first | assumption | omega | rfl | decide) H.size) tw_754 tw_710 tw_753 tw_752 tw_70 tw_712 (va_Decl.abs (GC_w711 hG)) ⟨by decide +kernel, by decide +kernel, by decide +kernel⟩ rfl ⟨rfl, rfl, Nat.le_of_ble_eq_true rfl, Nat.le_of_ble_eq_true rfl, Nat.le_of_ble_eq_true rfl, Nat.le_of_ble_eq_true rfl⟩ rfl (q0 := 8) rfl [8, 9, 10, 11, 12, 13, 14, 15, 16, 17, 18, 19, 20, 21, 22, 23, 0, 1, 2, 3, 4, 5, 24, 25, 6, 7] [26, 27, 28, 29] rfl rfl (by decide) rfl (Nat.le_of_ble_eq_true rfl) dX9_send_92 (fun u H locs hq hP hD hS => ?_)
        obtain ⟨gt1_92, nt1_92, gd1_92, nd1_92, gv1_92, nv1_92, tri1_92, gb1_92, bf1_92, f1_92, s1_92, gh1_92, gl1_92, nl1_92⟩ := u
        have hq : (qL gh1_92 8 = chain2 (qL gm 16) (cnt + 1) (qL gh nh) (qL g1_52 nta)) ∧ (qL gl1_92 nl1_92 = putC (qL g1_52 nta) (secD2 (qL ge 16) lv (qL g1_52 nta)) (qL gh1_92 8)) ∧ (nl1_92 = (secD2 (qL ge 16) lv (qL g1_52 nta)).length + 12 ∧ nl1_92 ≤ 220) := hq
        obtain ⟨hch_92, hl9_92, hnl_92⟩ := hq
        refine W.eq (g2 := F0 mm 95 ls []) rfl ?_
        have hP : va_P D vwCl [(lg 1, oR (lg 2) nta), (lg 2, aZ ta 400 gta), (lg 0, oG lg ya yb wa wb o v ct), (ya 0, oK ya 2 ln), (o 0, oO o), (o 1, oR (o 2) nt1_92), (o 2, aZ ta 528 gt1_92), (o 3, oR (o 4) nd1_92), (o 4, aZ ta 300 gd1_92), (o 7, oR (o 8) nv1_92), (o 8, aZ ta 16 gv1_92), (o 9, oR (o 10) 16), (o 10, aZ ta 16 gz), (o 11, oD (o 12) (o 13) (o 14) (o 15) (o 16) tri1_92), (o 12, aZ ta 8 gb1_92), (o 13, aZ ta 8 bf1_92), (o 14, aI ta 512 spb), (o 15, aJ ta 16 f1_92), (o 16, aJ ta 16 s1_92), (wa 0, oW wa 2 lv (cnt + 1) true), (wa 1, oR (wa 2) 16), (wa 2, aZ ta 32 ge), (wa 3, oR (wa 4) 16), (wa 4, aZ ta 32 gm), (wa 15, oR (wa 16) 8), (wa 16, aZ ta 16 gh1_92), (wa 19, oR (wa 20) nta), (wa 20, aZ ta 204 g1_52), (lg 5, oR (lg 6) nl1_92), (lg 6, aZ ta 300 gl1_92)] H := hP
        have hD : va_D A [(lg 1, oR (lg 2) nta), (lg 2, aZ ta 400 gta), (lg 0, oG lg ya yb wa wb o v ct), (ya 0, oK ya 2 ln), (o 0, oO o), (o 1, oR (o 2) nt1_92), (o 2, aZ ta 528 gt1_92), (o 3, oR (o 4) nd1_92), (o 4, aZ ta 300 gd1_92), (o 7, oR (o 8) nv1_92), (o 8, aZ ta 16 gv1_92), (o 9, oR (o 10) 16), (o 10, aZ ta 16 gz), (o 11, oD (o 12) (o 13) (o 14) (o 15) (o 16) tri1_92), (o 12, aZ ta 8 gb1_92), (o 13, aZ ta 8 bf1_92), (o 14, aI ta 512 spb), (o 15, aJ ta 16 f1_92), (o 16, aJ ta 16 s1_92), (wa 0, oW wa 2 lv (cnt + 1) true), (wa 1, oR (wa 2) 16), (wa 2, aZ ta 32 ge), (wa 3, oR (wa 4) 16), (wa 4, aZ ta 32 gm), (wa 15, oR (wa 16) 8), (wa 16, aZ ta 16 gh1_92), (wa 19, oR (wa 20) nta), (wa 20, aZ ta 204 g1_52), (lg 5, oR (lg 6) nl1_92), (lg 6, aZ ta 300 gl1_92)] := hD
        rw [hL_52] at hch_92 hl9_92 hnl_92
        refine lv_aload_n (pc := 95) hx hb dX9_send_95 rfl (lv_at hl 2 rfl) ?_
        refine va_get (pc := 96) (D := D) (ci := 7) (v := .ref (lg 1)) (C := RX9) (T := TX9) (N := 11) hx hb hts iu9 hown hK hP 2 rfl rfl 0 (by decide) (hts _ tw_352) (fun _ h9 => h9) rfl dX9_send_96 ?_
        refine cs_V (pc := 99) (idx := 88) (n := 0) (wr := [(lg 0, oG lg ya yb wa wb o v ct), (ya 0, oK ya 2 ln), (o 0, oO o), (o 1, oR (o 2) nt1_92), (o 2, aZ ta 528 gt1_92), (o 3, oR (o 4) nd1_92), (o 4, aZ ta 300 gd1_92), (o 7, oR (o 8) nv1_92), (o 8, aZ ta 16 gv1_92), (o 9, oR (o 10) 16), (o 10, aZ ta 16 gz), (o 11, oD (o 12) (o 13) (o 14) (o 15) (o 16) tri1_92), (o 12, aZ ta 8 gb1_92), (o 13, aZ ta 8 bf1_92), (o 14, aI ta 512 spb), (o 15, aJ ta 16 f1_92), (o 16, aJ ta 16 s1_92), (wa 0, oW wa 2 lv (cnt + 1) true), (wa 1, oR (wa 2) 16), (wa 2, aZ ta 32 ge), (wa 3, oR (wa 4) 16), (wa 4, aZ ta 32 gm), (wa 15, oR (wa 16) 8), (wa 16, aZ ta 16 gh1_92), (wa 19, oR (wa 20) nta), (wa 20, aZ ta 204 g1_52), (lg 5, oR (lg 6) nl1_92), (lg 6, aZ ta 300 gl1_92)]) (As := []) (rest := []) (ci := 5) hx hb hml hown hts hGok hK hA hG hl.1 hP hD hS (ct_X6_clear ll D ta hGok (lg 1) (lg 2) 400 gta nta  H.size) tw_441 tw_447 tw_439 tw_440 tw_66 hdX6_clear rfl ⟨rfl, rfl, Nat.le_of_ble_eq_true rfl, Nat.le_of_ble_eq_true rfl, Nat.le_of_ble_eq_true rfl, Nat.le_of_ble_eq_true rfl⟩ rfl rfl (q0 := 0) rfl [0, 1] [2, 3, 4, 5, 6, 7, 8, 9, 10, 11, 12, 13, 14, 15, 16, 17, 18, 19, 20, 21, 22, 23, 24, 25, 26, 27, 28, 29] rfl rfl (by decide) rfl (Nat.le_of_ble_eq_true rfl) dX9_send_99 (fun u H locs hq hP hD hS => ?_)
        refine W.eq (g2 := F0 mm 102 ls []) rfl ?_
        have hP : va_P D vwCl [(lg 0, oG lg ya yb wa wb o v ct), (ya 0, oK ya 2 ln), (o 0, oO o), (o 1, oR (o 2) nt1_92), (o 2, aZ ta 528 gt1_92), (o 3, oR (o 4) nd1_92), (o 4, aZ ta 300 gd1_92), (o 7, oR (o 8) nv1_92), (o 8, aZ ta 16 gv1_92), (o 9, oR (o 10) 16), (o 10, aZ ta 16 gz), (o 11, oD (o 12) (o 13) (o 14) (o 15) (o 16) tri1_92), (o 12, aZ ta 8 gb1_92), (o 13, aZ ta 8 bf1_92), (o 14, aI ta 512 spb), (o 15, aJ ta 16 f1_92), (o 16, aJ ta 16 s1_92), (wa 0, oW wa 2 lv (cnt + 1) true), (wa 1, oR (wa 2) 16), (wa 2, aZ ta 32 ge), (wa 3, oR (wa 4) 16), (wa 4, aZ ta 32 gm), (wa 15, oR (wa 16) 8), (wa 16, aZ ta 16 gh1_92), (wa 19, oR (wa 20) nta), (wa 20, aZ ta 204 g1_52), (lg 5, oR (lg 6) nl1_92), (lg 6, aZ ta 300 gl1_92), (lg 1, oR (lg 2) 0), (lg 2, aZ ta 400 gta)] H := hP
        have hD : va_D A [(lg 0, oG lg ya yb wa wb o v ct), (ya 0, oK ya 2 ln), (o 0, oO o), (o 1, oR (o 2) nt1_92), (o 2, aZ ta 528 gt1_92), (o 3, oR (o 4) nd1_92), (o 4, aZ ta 300 gd1_92), (o 7, oR (o 8) nv1_92), (o 8, aZ ta 16 gv1_92), (o 9, oR (o 10) 16), (o 10, aZ ta 16 gz), (o 11, oD (o 12) (o 13) (o 14) (o 15) (o 16) tri1_92), (o 12, aZ ta 8 gb1_92), (o 13, aZ ta 8 bf1_92), (o 14, aI ta 512 spb), (o 15, aJ ta 16 f1_92), (o 16, aJ ta 16 s1_92), (wa 0, oW wa 2 lv (cnt + 1) true), (wa 1, oR (wa 2) 16), (wa 2, aZ ta 32 ge), (wa 3, oR (wa 4) 16), (wa 4, aZ ta 32 gm), (wa 15, oR (wa 16) 8), (wa 16, aZ ta 16 gh1_92), (wa 19, oR (wa 20) nta), (wa 20, aZ ta 204 g1_52), (lg 5, oR (lg 6) nl1_92), (lg 6, aZ ta 300 gl1_92), (lg 1, oR (lg 2) 0), (lg 2, aZ ta 400 gta)] := hD
        refine lv_iload_n (pc := 102) hx hb dX9_send_102 rfl (lv_at hl 0 rfl) ?_
        refine lv_if_eq (pc := 103) (tgt := 116) hx hb dX9_send_103 (by decide) (fun c_5 => absurd c_5 (by decide)) (fun _ => ?_)
        refine lv_aload_n (pc := 106) hx hb dX9_send_106 rfl (lv_at hl 2 rfl) ?_
        refine va_get (pc := 107) (D := D) (ci := 7) (v := .ref (lg 5)) (C := RX9) (T := TX9) (N := 11) hx hb hts iu9 hown hK hP 0 rfl rfl 2 (by decide) (hts _ tw_354) (fun _ h9 => h9) rfl dX9_send_107 ?_
        refine cs_V (pc := 110) (idx := 64) (n := 0) (wr := [(lg 0, oG lg ya yb wa wb o v ct), (ya 0, oK ya 2 ln), (o 0, oO o), (o 1, oR (o 2) nt1_92), (o 2, aZ ta 528 gt1_92), (o 3, oR (o 4) nd1_92), (o 4, aZ ta 300 gd1_92), (o 7, oR (o 8) nv1_92), (o 8, aZ ta 16 gv1_92), (o 9, oR (o 10) 16), (o 10, aZ ta 16 gz), (o 11, oD (o 12) (o 13) (o 14) (o 15) (o 16) tri1_92), (o 12, aZ ta 8 gb1_92), (o 13, aZ ta 8 bf1_92), (o 14, aI ta 512 spb), (o 15, aJ ta 16 f1_92), (o 16, aJ ta 16 s1_92), (wa 0, oW wa 2 lv (cnt + 1) true), (wa 1, oR (wa 2) 16), (wa 2, aZ ta 32 ge), (wa 3, oR (wa 4) 16), (wa 4, aZ ta 32 gm), (wa 15, oR (wa 16) 8), (wa 16, aZ ta 16 gh1_92), (wa 19, oR (wa 20) nta), (wa 20, aZ ta 204 g1_52), (lg 1, oR (lg 2) 0), (lg 2, aZ ta 400 gta)]) (As := []) (rest := []) (ci := 5) hx hb hml hown hts hGok hK hA hG hl.1 hP hD hS (ct_X6_size ll D ta hGok (lg 5) (lg 6) 300 gl1_92 nl1_92  H.size) tw_393 tw_390 tw_391 tw_392 tw_66 hdX6_size rfl ⟨rfl, rfl, Nat.le_of_ble_eq_true rfl, Nat.le_of_ble_eq_true rfl, Nat.le_of_ble_eq_true rfl, Nat.le_of_ble_eq_true rfl⟩ rfl rfl (q0 := 26) rfl [26, 27] [0, 1, 2, 3, 4, 5, 6, 7, 8, 9, 10, 11, 12, 13, 14, 15, 16, 17, 18, 19, 20, 21, 22, 23, 24, 25, 28, 29] rfl rfl (by decide) rfl (Nat.le_of_ble_eq_true rfl) dX9_send_110 (fun u H locs hq hP hD hS => ?_)
        refine W.eq (g2 := F0 mm 113 ls [.int (nI nl1_92)]) rfl ?_
        have hP : va_P D vwCl [(lg 0, oG lg ya yb wa wb o v ct), (ya 0, oK ya 2 ln), (o 0, oO o), (o 1, oR (o 2) nt1_92), (o 2, aZ ta 528 gt1_92), (o 3, oR (o 4) nd1_92), (o 4, aZ ta 300 gd1_92), (o 7, oR (o 8) nv1_92), (o 8, aZ ta 16 gv1_92), (o 9, oR (o 10) 16), (o 10, aZ ta 16 gz), (o 11, oD (o 12) (o 13) (o 14) (o 15) (o 16) tri1_92), (o 12, aZ ta 8 gb1_92), (o 13, aZ ta 8 bf1_92), (o 14, aI ta 512 spb), (o 15, aJ ta 16 f1_92), (o 16, aJ ta 16 s1_92), (wa 0, oW wa 2 lv (cnt + 1) true), (wa 1, oR (wa 2) 16), (wa 2, aZ ta 32 ge), (wa 3, oR (wa 4) 16), (wa 4, aZ ta 32 gm), (wa 15, oR (wa 16) 8), (wa 16, aZ ta 16 gh1_92), (wa 19, oR (wa 20) nta), (wa 20, aZ ta 204 g1_52), (lg 1, oR (lg 2) 0), (lg 2, aZ ta 400 gta), (lg 5, oR (lg 6) nl1_92), (lg 6, aZ ta 300 gl1_92)] H := hP
        have hD : va_D A [(lg 0, oG lg ya yb wa wb o v ct), (ya 0, oK ya 2 ln), (o 0, oO o), (o 1, oR (o 2) nt1_92), (o 2, aZ ta 528 gt1_92), (o 3, oR (o 4) nd1_92), (o 4, aZ ta 300 gd1_92), (o 7, oR (o 8) nv1_92), (o 8, aZ ta 16 gv1_92), (o 9, oR (o 10) 16), (o 10, aZ ta 16 gz), (o 11, oD (o 12) (o 13) (o 14) (o 15) (o 16) tri1_92), (o 12, aZ ta 8 gb1_92), (o 13, aZ ta 8 bf1_92), (o 14, aI ta 512 spb), (o 15, aJ ta 16 f1_92), (o 16, aJ ta 16 s1_92), (wa 0, oW wa 2 lv (cnt + 1) true), (wa 1, oR (wa 2) 16), (wa 2, aZ ta 32 ge), (wa 3, oR (wa 4) 16), (wa 4, aZ ta 32 gm), (wa 15, oR (wa 16) 8), (wa 16, aZ ta 16 gh1_92), (wa 19, oR (wa 20) nta), (wa 20, aZ ta 204 g1_52), (lg 1, oR (lg 2) 0), (lg 2, aZ ta 400 gta), (lg 5, oR (lg 6) nl1_92), (lg 6, aZ ta 300 gl1_92)] := hD
        refine lv_goto (pc := 113) (tgt := 117) hx hb dX9_send_113 (by decide) ?_
        have hq_6 : (qL gh1_92 8 = chain2 (qL gm 16) (cnt + 1) (qL gh nh) (qL gta nta)) ∧ (qL gl1_92 nl1_92 = putC (qL gta nta) (secD2 (qL ge 16) lv (qL gta nta)) (qL gh1_92 8)) ∧ (qL g1_52 nta = qL gta nta) ∧ (nl1_92 = (secD2 (qL ge 16) lv (qL gta nta)).length + 12 ∧ nl1_92 ≤ 220) := by
          exact ⟨hch_92, hl9_92, hL_52, hnl_92⟩
        exact hret (⟨(gt1_92), (nt1_92), (gd1_92), (nd1_92), (gv1_92), (nv1_92), (tri1_92), (gb1_92), (bf1_92), (f1_92), (s1_92), (gh1_92), (g1_52), (gl1_92), (nl1_92)⟩ : (Nat → BitVec 8) × Nat × (Nat → BitVec 8) × Nat × (Nat → BitVec 8) × Nat × Bool × (Nat → BitVec 8) × (Nat → BitVec 8) × (Nat → Int64) × (Nat → Int64) × (Nat → BitVec 8) × (Nat → BitVec 8) × (Nat → BitVec 8) × Nat) _ _ _ _ dX9_send_117 hq_6 (hP.sub [0, 1, 17, 18, 19, 20, 21, 22, 23, 24, 25, 26, 27, 28, 29, 2, 3, 4, 5, 6, 7, 8, 9, 10, 11, 12, 13, 14, 15, 16] rfl) (hD.sub [0, 1, 17, 18, 19, 20, 21, 22, 23, 24, 25, 26, 27, 28, 29, 2, 3, 4, 5, 6, 7, 8, 9, 10, 11, 12, 13, 14, 15, 16] (by decide) rfl) hS
set_option maxHeartbeats 4000000 in
set_option maxRecDepth 100000 in
theorem ct_X9_send_no (ll : Launch) (D : va_G) (ta : Nat → ClassId) (gs : Nat → Nat) (lg : Nat → Nat) (ya : Nat → Nat) (yb : Nat → Nat) (wa : Nat → Nat) (wb : Nat → Nat) (o : Nat → Nat) (v : Nat → Nat) (ct : Nat) (gta : Nat → BitVec 8) (nta : Nat) (st : Nat) (lv : Nat) (cnt : Nat) (cm : Bool) (hta : nta ≤ 400) (hst : st ≤ 2) (hlv : lv < 256) (hno : ¬ ((st = 2 ∧ lv &&& 1 ≠ 0) ∧ 4 ≤ nta ∧ nta ≤ 204)) (sz : Nat) : CT ll yX9_send cX9_send 3 (some .int) ({ frames := 6, cells := 0, slots := 0, locals := 149 } : Room) D ta ((GC gs)) [.ref (lg 0)] [(lg 0, oG lg ya yb wa wb o v ct), (wa 0, oW wa st lv cnt cm), (lg 1, oR (lg 2) nta), (lg 2, aZ ta 400 gta)] sz (S := Int32) (fun u => some (.int u)) (fun u => ((u : Int32) = -1)) (fun u => [(lg 0, oG lg ya yb wa wb o v ct), (wa 0, oW wa st lv cnt cm), (lg 1, oR (lg 2) 0), (lg 2, aZ ta 400 gta)]) 0 0 := by
  refine CT.of_i (r := fun u => u) rfl (by decide) (Nat.le_of_ble_eq_true rfl) ?_
  have hGok := GC_ok gs
  intro pp ee ss mm below meth kc A Q hx hb hml hown hin hts hK hA hsz hG hret H locs hP hD hS ls hl
  have hl : lv_has ls 3 [(0, .ref (lg 0))] := hl
  refine lv_aload_n (pc := 0) hx hb dX9_send_0 rfl (lv_at hl 0 rfl) ?_
  refine va_get (pc := 1) (D := D) (ci := 7) (v := .ref (lg 1)) (C := RX9) (T := TX9) (N := 11) hx hb hts iu9 hown hK hP 0 rfl rfl 0 (by decide) (hts _ tw_352) (fun _ h9 => h9) rfl dX9_send_1 ?_
  refine cs_V (pc := 4) (idx := 64) (n := 0) (wr := [(lg 0, oG lg ya yb wa wb o v ct), (wa 0, oW wa st lv cnt cm)]) (As := []) (rest := []) (ci := 5) hx hb hml hown hts hGok hK hA hG hl.1 hP hD hS (ct_X6_size ll D ta hGok (lg 1) (lg 2) 400 gta nta  H.size) tw_393 tw_390 tw_391 tw_392 tw_66 hdX6_size rfl ⟨rfl, rfl, Nat.le_of_ble_eq_true rfl, Nat.le_of_ble_eq_true rfl, Nat.le_of_ble_eq_true rfl, Nat.le_of_ble_eq_true rfl⟩ rfl rfl (q0 := 2) rfl [2, 3] [0, 1] rfl rfl (by decide) rfl (Nat.le_of_ble_eq_true rfl) dX9_send_4 (fun u H locs hq hP hD hS => ?_)
  refine W.eq (g2 := F0 mm 7 ls [.int (nI nta)]) rfl ?_
  have hP : va_P D vwCl [(lg 0, oG lg ya yb wa wb o v ct), (wa 0, oW wa st lv cnt cm), (lg 1, oR (lg 2) nta), (lg 2, aZ ta 400 gta)] H := hP
  have hD : va_D A [(lg 0, oG lg ya yb wa wb o v ct), (wa 0, oW wa st lv cnt cm), (lg 1, oR (lg 2) nta), (lg 2, aZ ta 400 gta)] := hD
  refine lv_istore_n (pc := 7) (lv' := [(1, .int (nI nta)), (0, .ref (lg 0))]) hx hb dX9_send_7 rfl hl (by decide) rfl (fun ls hl => ?_)
  refine lv_aload_n (pc := 8) hx hb dX9_send_8 rfl (lv_at hl 1 rfl) ?_
  refine va_get (pc := 9) (D := D) (ci := 7) (v := .ref (wa 0)) (C := RX9) (T := TX9) (N := 11) hx hb hts iu9 hown hK hP 0 rfl rfl 6 (by decide) (hts _ tw_358) (fun _ h9 => h9) rfl dX9_send_9 ?_
  refine lv_iconst (pc := 12) (v := nI 1) hx hb dX9_send_12 (by decide +kernel) ?_
  refine cs_V (pc := 13) (idx := 164) (n := 1) (wr := [(lg 0, oG lg ya yb wa wb o v ct), (lg 1, oR (lg 2) nta), (lg 2, aZ ta 400 gta)]) (As := [.int (nI 1)]) (rest := []) (ci := 6) hx hb hml hown hts hGok hK hA hG hl.1 hP hD hS (ct_X8_isOpenWith ll D ta gs wa st lv cnt cm 1 (by first | assumption | omega | rfl | decide) (by first | assumption | omega | rfl | decide) (by first | assumption | omega | rfl | decide) H.size) tw_781 tw_778 tw_779 tw_780 tw_68 hdX8_isOpenWith rfl ⟨rfl, rfl, Nat.le_of_ble_eq_true rfl, Nat.le_of_ble_eq_true rfl, Nat.le_of_ble_eq_true rfl, Nat.le_of_ble_eq_true rfl⟩ rfl rfl (q0 := 1) rfl [1] [0, 2, 3] rfl rfl (by decide) rfl (Nat.le_of_ble_eq_true rfl) dX9_send_13 (fun u H locs hq hP hD hS => ?_)
  generalize u = z_13 at hq hP hD ⊢
  have hq : (z_13 = decide (st = 2 ∧ lv &&& 1 ≠ 0)) := hq
  have hz_13 := hq
  refine W.eq (g2 := F0 mm 16 ls [.int (qb z_13)]) rfl ?_
  have hP : va_P D vwCl [(lg 0, oG lg ya yb wa wb o v ct), (lg 1, oR (lg 2) nta), (lg 2, aZ ta 400 gta), (wa 0, oW wa st lv cnt cm)] H := hP
  have hD : va_D A [(lg 0, oG lg ya yb wa wb o v ct), (lg 1, oR (lg 2) nta), (lg 2, aZ ta 400 gta), (wa 0, oW wa st lv cnt cm)] := hD
  refine lv_if_eq (pc := 16) (tgt := 35) hx hb dX9_send_16 (by decide) (fun c_1 => ?_) (fun c_1 => ?_)
  · skip
    rw [q_beq] at c_1
    try rw [Bool.not_eq_false] at c_1
    have hzb := c_1
    refine lv_iconst (pc := 35) (v := nI 0) hx hb dX9_send_35 (by decide +kernel) ?_
    refine lv_istore_n (pc := 36) (lv' := [(2, .int (nI 0)), (1, .int (nI nta)), (0, .ref (lg 0))]) hx hb dX9_send_36 rfl hl (by decide) rfl (fun ls hl => ?_)
    refine lv_iload_n (pc := 37) hx hb dX9_send_37 rfl (lv_at hl 0 rfl) ?_
    refine lv_if_eq (pc := 38) (tgt := 95) hx hb dX9_send_38 (by decide) (fun _ => ?_) (fun c_2 => absurd (by decide) c_2)
    refine lv_aload_n (pc := 95) hx hb dX9_send_95 rfl (lv_at hl 2 rfl) ?_
    refine va_get (pc := 96) (D := D) (ci := 7) (v := .ref (lg 1)) (C := RX9) (T := TX9) (N := 11) hx hb hts iu9 hown hK hP 0 rfl rfl 0 (by decide) (hts _ tw_352) (fun _ h9 => h9) rfl dX9_send_96 ?_
    refine cs_V (pc := 99) (idx := 88) (n := 0) (wr := [(lg 0, oG lg ya yb wa wb o v ct), (wa 0, oW wa st lv cnt cm)]) (As := []) (rest := []) (ci := 5) hx hb hml hown hts hGok hK hA hG hl.1 hP hD hS (ct_X6_clear ll D ta hGok (lg 1) (lg 2) 400 gta nta  H.size) tw_441 tw_447 tw_439 tw_440 tw_66 hdX6_clear rfl ⟨rfl, rfl, Nat.le_of_ble_eq_true rfl, Nat.le_of_ble_eq_true rfl, Nat.le_of_ble_eq_true rfl, Nat.le_of_ble_eq_true rfl⟩ rfl rfl (q0 := 1) rfl [1, 2] [0, 3] rfl rfl (by decide) rfl (Nat.le_of_ble_eq_true rfl) dX9_send_99 (fun u H locs hq hP hD hS => ?_)
    refine W.eq (g2 := F0 mm 102 ls []) rfl ?_
    have hP : va_P D vwCl [(lg 0, oG lg ya yb wa wb o v ct), (wa 0, oW wa st lv cnt cm), (lg 1, oR (lg 2) 0), (lg 2, aZ ta 400 gta)] H := hP
    have hD : va_D A [(lg 0, oG lg ya yb wa wb o v ct), (wa 0, oW wa st lv cnt cm), (lg 1, oR (lg 2) 0), (lg 2, aZ ta 400 gta)] := hD
    refine lv_iload_n (pc := 102) hx hb dX9_send_102 rfl (lv_at hl 0 rfl) ?_
    refine lv_if_eq (pc := 103) (tgt := 116) hx hb dX9_send_103 (by decide) (fun _ => ?_) (fun c_3 => absurd (by decide) c_3)
    refine lv_iconst (pc := 116) (v := (-1)) hx hb dX9_send_116 (by decide +kernel) ?_
    refine q_top (y := (-1)) (by first | rfl | decide +kernel | (simp; done)) ?_
    have hq_4 : (((-1) : Int32) = -1) := by
      first | rfl | trivial | (refine ⟨?_, ?_⟩ <;> rfl) | (simp; done) | omega
    exact hret (-1) _ _ _ _ dX9_send_117 hq_4 (hP.sub [0, 1, 2, 3] rfl) (hD.sub [0, 1, 2, 3] (by decide) rfl) hS
  · skip
    rw [q_beq] at c_1
    try rw [Bool.not_eq_false] at c_1
    have hzb := c_1
    refine lv_iload_n (pc := 19) hx hb dX9_send_19 rfl (lv_at hl 0 rfl) ?_
    refine lv_iconst (pc := 20) (v := nI 4) hx hb dX9_send_20 (by decide +kernel) ?_
    refine lv_icmp_lt (pc := 21) (tgt := 35) hx hb dX9_send_21 (by decide) (fun c_5 => ?_) (fun c_5 => ?_)
    · skip
      rw [nI_ltI (by omega) (by omega)] at c_5
      refine lv_iconst (pc := 35) (v := nI 0) hx hb dX9_send_35 (by decide +kernel) ?_
      refine lv_istore_n (pc := 36) (lv' := [(2, .int (nI 0)), (1, .int (nI nta)), (0, .ref (lg 0))]) hx hb dX9_send_36 rfl hl (by decide) rfl (fun ls hl => ?_)
      refine lv_iload_n (pc := 37) hx hb dX9_send_37 rfl (lv_at hl 0 rfl) ?_
      refine lv_if_eq (pc := 38) (tgt := 95) hx hb dX9_send_38 (by decide) (fun _ => ?_) (fun c_6 => absurd (by decide) c_6)
      refine lv_aload_n (pc := 95) hx hb dX9_send_95 rfl (lv_at hl 2 rfl) ?_
      refine va_get (pc := 96) (D := D) (ci := 7) (v := .ref (lg 1)) (C := RX9) (T := TX9) (N := 11) hx hb hts iu9 hown hK hP 0 rfl rfl 0 (by decide) (hts _ tw_352) (fun _ h9 => h9) rfl dX9_send_96 ?_
      refine cs_V (pc := 99) (idx := 88) (n := 0) (wr := [(lg 0, oG lg ya yb wa wb o v ct), (wa 0, oW wa st lv cnt cm)]) (As := []) (rest := []) (ci := 5) hx hb hml hown hts hGok hK hA hG hl.1 hP hD hS (ct_X6_clear ll D ta hGok (lg 1) (lg 2) 400 gta nta  H.size) tw_441 tw_447 tw_439 tw_440 tw_66 hdX6_clear rfl ⟨rfl, rfl, Nat.le_of_ble_eq_true rfl, Nat.le_of_ble_eq_true rfl, Nat.le_of_ble_eq_true rfl, Nat.le_of_ble_eq_true rfl⟩ rfl rfl (q0 := 1) rfl [1, 2] [0, 3] rfl rfl (by decide) rfl (Nat.le_of_ble_eq_true rfl) dX9_send_99 (fun u H locs hq hP hD hS => ?_)
      refine W.eq (g2 := F0 mm 102 ls []) rfl ?_
      have hP : va_P D vwCl [(lg 0, oG lg ya yb wa wb o v ct), (wa 0, oW wa st lv cnt cm), (lg 1, oR (lg 2) 0), (lg 2, aZ ta 400 gta)] H := hP
      have hD : va_D A [(lg 0, oG lg ya yb wa wb o v ct), (wa 0, oW wa st lv cnt cm), (lg 1, oR (lg 2) 0), (lg 2, aZ ta 400 gta)] := hD
      refine lv_iload_n (pc := 102) hx hb dX9_send_102 rfl (lv_at hl 0 rfl) ?_
      refine lv_if_eq (pc := 103) (tgt := 116) hx hb dX9_send_103 (by decide) (fun _ => ?_) (fun c_7 => absurd (by decide) c_7)
      refine lv_iconst (pc := 116) (v := (-1)) hx hb dX9_send_116 (by decide +kernel) ?_
      refine q_top (y := (-1)) (by first | rfl | decide +kernel | (simp; done)) ?_
      have hq_8 : (((-1) : Int32) = -1) := by
        first | rfl | trivial | (refine ⟨?_, ?_⟩ <;> rfl) | (simp; done) | omega
      exact hret (-1) _ _ _ _ dX9_send_117 hq_8 (hP.sub [0, 1, 2, 3] rfl) (hD.sub [0, 1, 2, 3] (by decide) rfl) hS
    · skip
      rw [nI_ltI (by omega) (by omega)] at c_5
      refine lv_iload_n (pc := 24) hx hb dX9_send_24 rfl (lv_at hl 0 rfl) ?_
      refine lv_sipush (pc := 25) (v := nI 204) hx hb dX9_send_25 (by decide +kernel) ?_
      refine lv_icmp_gt (pc := 28) (tgt := 35) hx hb dX9_send_28 (by decide) (fun c_9 => ?_) (fun c_9 => ?_)
      · skip
        rw [nI_ltI (by omega) (by omega)] at c_9
        refine lv_iconst (pc := 35) (v := nI 0) hx hb dX9_send_35 (by decide +kernel) ?_
        refine lv_istore_n (pc := 36) (lv' := [(2, .int (nI 0)), (1, .int (nI nta)), (0, .ref (lg 0))]) hx hb dX9_send_36 rfl hl (by decide) rfl (fun ls hl => ?_)
        refine lv_iload_n (pc := 37) hx hb dX9_send_37 rfl (lv_at hl 0 rfl) ?_
        refine lv_if_eq (pc := 38) (tgt := 95) hx hb dX9_send_38 (by decide) (fun _ => ?_) (fun c_10 => absurd (by decide) c_10)
        refine lv_aload_n (pc := 95) hx hb dX9_send_95 rfl (lv_at hl 2 rfl) ?_
        refine va_get (pc := 96) (D := D) (ci := 7) (v := .ref (lg 1)) (C := RX9) (T := TX9) (N := 11) hx hb hts iu9 hown hK hP 0 rfl rfl 0 (by decide) (hts _ tw_352) (fun _ h9 => h9) rfl dX9_send_96 ?_
        refine cs_V (pc := 99) (idx := 88) (n := 0) (wr := [(lg 0, oG lg ya yb wa wb o v ct), (wa 0, oW wa st lv cnt cm)]) (As := []) (rest := []) (ci := 5) hx hb hml hown hts hGok hK hA hG hl.1 hP hD hS (ct_X6_clear ll D ta hGok (lg 1) (lg 2) 400 gta nta  H.size) tw_441 tw_447 tw_439 tw_440 tw_66 hdX6_clear rfl ⟨rfl, rfl, Nat.le_of_ble_eq_true rfl, Nat.le_of_ble_eq_true rfl, Nat.le_of_ble_eq_true rfl, Nat.le_of_ble_eq_true rfl⟩ rfl rfl (q0 := 1) rfl [1, 2] [0, 3] rfl rfl (by decide) rfl (Nat.le_of_ble_eq_true rfl) dX9_send_99 (fun u H locs hq hP hD hS => ?_)
        refine W.eq (g2 := F0 mm 102 ls []) rfl ?_
        have hP : va_P D vwCl [(lg 0, oG lg ya yb wa wb o v ct), (wa 0, oW wa st lv cnt cm), (lg 1, oR (lg 2) 0), (lg 2, aZ ta 400 gta)] H := hP
        have hD : va_D A [(lg 0, oG lg ya yb wa wb o v ct), (wa 0, oW wa st lv cnt cm), (lg 1, oR (lg 2) 0), (lg 2, aZ ta 400 gta)] := hD
        refine lv_iload_n (pc := 102) hx hb dX9_send_102 rfl (lv_at hl 0 rfl) ?_
        refine lv_if_eq (pc := 103) (tgt := 116) hx hb dX9_send_103 (by decide) (fun _ => ?_) (fun c_11 => absurd (by decide) c_11)
        refine lv_iconst (pc := 116) (v := (-1)) hx hb dX9_send_116 (by decide +kernel) ?_
        refine q_top (y := (-1)) (by first | rfl | decide +kernel | (simp; done)) ?_
        have hq_12 : (((-1) : Int32) = -1) := by
          first | rfl | trivial | (refine ⟨?_, ?_⟩ <;> rfl) | (simp; done) | omega
        exact hret (-1) _ _ _ _ dX9_send_117 hq_12 (hP.sub [0, 1, 2, 3] rfl) (hD.sub [0, 1, 2, 3] (by decide) rfl) hS
      · skip
        rw [nI_ltI (by omega) (by omega)] at c_9
        exact absurd ⟨of_decide_eq_true (hz_13.symm.trans hzb), by omega, by omega⟩ hno
theorem hdX9_answer : yX9_answer.cls ≠ "java/lang/invoke/MethodHandle" ∧ yX9_answer.cls ≠ "java/lang/invoke/VarHandle" ∧ (parseMethodDescriptor yX9_answer.desc).map (fun d => d.parameters.length) = some 1 := ⟨by decide +kernel, by decide +kernel, by decide +kernel⟩
theorem dX9_answer_0 : decode cX9_answer 0 = .ok (.aload_n 0, 1) := by decide +kernel
theorem dX9_answer_1 : decode cX9_answer 1 = .ok (.getfield 44, 3) := by decide +kernel
theorem dX9_answer_4 : decode cX9_answer 4 = .ok (.invokevirtual 183, 3) := by decide +kernel
theorem dX9_answer_7 : decode cX9_answer 7 = .ok (.ifCond .eq 27, 3) := by decide +kernel
theorem dX9_answer_10 : decode cX9_answer 10 = .ok (.iload_n 1, 1) := by decide +kernel
theorem dX9_answer_11 : decode cX9_answer 11 = .ok (.invokestatic 187, 3) := by decide +kernel
theorem dX9_answer_14 : decode cX9_answer 14 = .ok (.ifCond .eq 20, 3) := by decide +kernel
theorem dX9_answer_17 : decode cX9_answer 17 = .ok (.aload_n 0, 1) := by decide +kernel
theorem dX9_answer_18 : decode cX9_answer 18 = .ok (.getfield 14, 3) := by decide +kernel
theorem dX9_answer_21 : decode cX9_answer 21 = .ok (.invokevirtual 64, 3) := by decide +kernel
theorem dX9_answer_24 : decode cX9_answer 24 = .ok (.sipush 200, 3) := by decide +kernel
theorem dX9_answer_27 : decode cX9_answer 27 = .ok (.if_icmp .gt 7, 3) := by decide +kernel
theorem dX9_answer_30 : decode cX9_answer 30 = .ok (.iconst 1, 1) := by decide +kernel
theorem dX9_answer_31 : decode cX9_answer 31 = .ok (.goto 4, 3) := by decide +kernel
theorem dX9_answer_34 : decode cX9_answer 34 = .ok (.iconst 0, 1) := by decide +kernel
theorem dX9_answer_35 : decode cX9_answer 35 = .ok (.istore_n 2, 1) := by decide +kernel
theorem dX9_answer_36 : decode cX9_answer 36 = .ok (.iload_n 2, 1) := by decide +kernel
theorem dX9_answer_37 : decode cX9_answer 37 = .ok (.ifCond .eq 27, 3) := by decide +kernel
theorem dX9_answer_40 : decode cX9_answer 40 = .ok (.aload_n 0, 1) := by decide +kernel
theorem dX9_answer_41 : decode cX9_answer 41 = .ok (.aload_n 0, 1) := by decide +kernel
theorem dX9_answer_42 : decode cX9_answer 42 = .ok (.getfield 34, 3) := by decide +kernel
theorem dX9_answer_45 : decode cX9_answer 45 = .ok (.invokevirtual 109, 3) := by decide +kernel
theorem dX9_answer_48 : decode cX9_answer 48 = .ok (.aload_n 0, 1) := by decide +kernel
theorem dX9_answer_49 : decode cX9_answer 49 = .ok (.getfield 44, 3) := by decide +kernel
theorem dX9_answer_52 : decode cX9_answer 52 = .ok (.aload_n 0, 1) := by decide +kernel
theorem dX9_answer_53 : decode cX9_answer 53 = .ok (.getfield 14, 3) := by decide +kernel
theorem dX9_answer_56 : decode cX9_answer 56 = .ok (.iload_n 1, 1) := by decide +kernel
theorem dX9_answer_57 : decode cX9_answer 57 = .ok (.aload_n 0, 1) := by decide +kernel
theorem dX9_answer_58 : decode cX9_answer 58 = .ok (.getfield 21, 3) := by decide +kernel
theorem dX9_answer_61 : decode cX9_answer 61 = .ok (.invokevirtual 190, 3) := by decide +kernel
theorem dX9_answer_64 : decode cX9_answer 64 = .ok (.aload_n 0, 1) := by decide +kernel
theorem dX9_answer_65 : decode cX9_answer 65 = .ok (.getfield 14, 3) := by decide +kernel
theorem dX9_answer_68 : decode cX9_answer 68 = .ok (.invokevirtual 88, 3) := by decide +kernel
theorem dX9_answer_71 : decode cX9_answer 71 = .ok (.iload_n 2, 1) := by decide +kernel
theorem dX9_answer_72 : decode cX9_answer 72 = .ok (.ifCond .eq 13, 3) := by decide +kernel
theorem dX9_answer_75 : decode cX9_answer 75 = .ok (.aload_n 0, 1) := by decide +kernel
theorem dX9_answer_76 : decode cX9_answer 76 = .ok (.getfield 21, 3) := by decide +kernel
theorem dX9_answer_79 : decode cX9_answer 79 = .ok (.invokevirtual 64, 3) := by decide +kernel
theorem dX9_answer_82 : decode cX9_answer 82 = .ok (.goto 4, 3) := by decide +kernel
theorem dX9_answer_85 : decode cX9_answer 85 = .ok (.iconst (-1), 1) := by decide +kernel
theorem dX9_answer_86 : decode cX9_answer 86 = .ok (.ireturn, 1) := by decide +kernel
set_option maxHeartbeats 4000000 in
set_option maxRecDepth 100000 in
theorem ct_X9_answer_no (ll : Launch) (D : va_G) (ta : Nat → ClassId) (gs : Nat → Nat) (lg : Nat → Nat) (ya : Nat → Nat) (yb : Nat → Nat) (wa : Nat → Nat) (wb : Nat → Nat) (o : Nat → Nat) (v : Nat → Nat) (ct : Nat) (gta : Nat → BitVec 8) (nta : Nat) (st : Nat) (lv : Nat) (cnt : Nat) (cm : Bool) (i : Int32) (hta : nta ≤ 400) (hst : st ≤ 2) (hlv : lv < 256) (hno : ¬ ((st = 2 ∧ lv &&& 16 ≠ 0 ∧ cm = true) ∧ swB i = true ∧ nta ≤ 200)) (sz : Nat) : CT ll yX9_answer cX9_answer 3 (some .int) ({ frames := 6, cells := 0, slots := 0, locals := 151 } : Room) D ta ((GC gs)) [.ref (lg 0), .int i] [(lg 0, oG lg ya yb wa wb o v ct), (wb 0, oW wb st lv cnt cm), (lg 1, oR (lg 2) nta), (lg 2, aZ ta 400 gta)] sz (S := Int32) (fun u => some (.int u)) (fun u => ((u : Int32) = -1)) (fun u => [(lg 0, oG lg ya yb wa wb o v ct), (wb 0, oW wb st lv cnt cm), (lg 1, oR (lg 2) 0), (lg 2, aZ ta 400 gta)]) 0 0 := by
  refine CT.of_i (r := fun u => u) rfl (by decide) (Nat.le_of_ble_eq_true rfl) ?_
  have hGok := GC_ok gs
  intro pp ee ss mm below meth kc A Q hx hb hml hown hin hts hK hA hsz hG hret H locs hP hD hS ls hl
  have hl : lv_has ls 3 [(0, .ref (lg 0)), (1, .int i)] := hl
  refine lv_aload_n (pc := 0) hx hb dX9_answer_0 rfl (lv_at hl 0 rfl) ?_
  refine va_get (pc := 1) (D := D) (ci := 7) (v := .ref (wb 0)) (C := RX9) (T := TX9) (N := 11) hx hb hts iu9 hown hK hP 0 rfl rfl 7 (by decide) (hts _ tw_359) (fun _ h9 => h9) rfl dX9_answer_1 ?_
  refine cs_V (pc := 4) (idx := 183) (n := 0) (wr := [(lg 0, oG lg ya yb wa wb o v ct), (lg 1, oR (lg 2) nta), (lg 2, aZ ta 400 gta)]) (As := []) (rest := []) (ci := 6) hx hb hml hown hts hGok hK hA hG hl.1 hP hD hS (ct_X8_isAnswerable ll D ta gs wb st lv cnt cm (by first | assumption | omega | rfl | decide) (by first | assumption | omega | rfl | decide) H.size) tw_870 tw_867 tw_868 tw_869 tw_68 hdX8_isAnswerable rfl ⟨rfl, rfl, Nat.le_of_ble_eq_true rfl, Nat.le_of_ble_eq_true rfl, Nat.le_of_ble_eq_true rfl, Nat.le_of_ble_eq_true rfl⟩ rfl rfl (q0 := 1) rfl [1] [0, 2, 3] rfl rfl (by decide) rfl (Nat.le_of_ble_eq_true rfl) dX9_answer_4 (fun u H locs hq hP hD hS => ?_)
  generalize u = z_4 at hq hP hD ⊢
  have hq : (z_4 = decide (st = 2 ∧ lv &&& 16 ≠ 0 ∧ cm = true)) := hq
  have hz_4 := hq
  refine W.eq (g2 := F0 mm 7 ls [.int (qb z_4)]) rfl ?_
  have hP : va_P D vwCl [(lg 0, oG lg ya yb wa wb o v ct), (lg 1, oR (lg 2) nta), (lg 2, aZ ta 400 gta), (wb 0, oW wb st lv cnt cm)] H := hP
  have hD : va_D A [(lg 0, oG lg ya yb wa wb o v ct), (lg 1, oR (lg 2) nta), (lg 2, aZ ta 400 gta), (wb 0, oW wb st lv cnt cm)] := hD
  refine lv_if_eq (pc := 7) (tgt := 34) hx hb dX9_answer_7 (by decide) (fun c_1 => ?_) (fun c_1 => ?_)
  · skip
    rw [q_beq] at c_1
    try rw [Bool.not_eq_false] at c_1
    have hzb := c_1
    refine lv_iconst (pc := 34) (v := nI 0) hx hb dX9_answer_34 (by decide +kernel) ?_
    refine lv_istore_n (pc := 35) (lv' := [(2, .int (nI 0)), (0, .ref (lg 0)), (1, .int i)]) hx hb dX9_answer_35 rfl hl (by decide) rfl (fun ls hl => ?_)
    refine lv_iload_n (pc := 36) hx hb dX9_answer_36 rfl (lv_at hl 0 rfl) ?_
    refine lv_if_eq (pc := 37) (tgt := 64) hx hb dX9_answer_37 (by decide) (fun _ => ?_) (fun c_2 => absurd (by decide) c_2)
    refine lv_aload_n (pc := 64) hx hb dX9_answer_64 rfl (lv_at hl 1 rfl) ?_
    refine va_get (pc := 65) (D := D) (ci := 7) (v := .ref (lg 1)) (C := RX9) (T := TX9) (N := 11) hx hb hts iu9 hown hK hP 0 rfl rfl 0 (by decide) (hts _ tw_352) (fun _ h9 => h9) rfl dX9_answer_65 ?_
    refine cs_V (pc := 68) (idx := 88) (n := 0) (wr := [(lg 0, oG lg ya yb wa wb o v ct), (wb 0, oW wb st lv cnt cm)]) (As := []) (rest := []) (ci := 5) hx hb hml hown hts hGok hK hA hG hl.1 hP hD hS (ct_X6_clear ll D ta hGok (lg 1) (lg 2) 400 gta nta  H.size) tw_441 tw_447 tw_439 tw_440 tw_66 hdX6_clear rfl ⟨rfl, rfl, Nat.le_of_ble_eq_true rfl, Nat.le_of_ble_eq_true rfl, Nat.le_of_ble_eq_true rfl, Nat.le_of_ble_eq_true rfl⟩ rfl rfl (q0 := 1) rfl [1, 2] [0, 3] rfl rfl (by decide) rfl (Nat.le_of_ble_eq_true rfl) dX9_answer_68 (fun u H locs hq hP hD hS => ?_)
    refine W.eq (g2 := F0 mm 71 ls []) rfl ?_
    have hP : va_P D vwCl [(lg 0, oG lg ya yb wa wb o v ct), (wb 0, oW wb st lv cnt cm), (lg 1, oR (lg 2) 0), (lg 2, aZ ta 400 gta)] H := hP
    have hD : va_D A [(lg 0, oG lg ya yb wa wb o v ct), (wb 0, oW wb st lv cnt cm), (lg 1, oR (lg 2) 0), (lg 2, aZ ta 400 gta)] := hD
    refine lv_iload_n (pc := 71) hx hb dX9_answer_71 rfl (lv_at hl 0 rfl) ?_
    refine lv_if_eq (pc := 72) (tgt := 85) hx hb dX9_answer_72 (by decide) (fun _ => ?_) (fun c_3 => absurd (by decide) c_3)
    refine lv_iconst (pc := 85) (v := (-1)) hx hb dX9_answer_85 (by decide +kernel) ?_
    refine q_top (y := (-1)) (by first | rfl | decide +kernel | (simp; done)) ?_
    have hq_4 : (((-1) : Int32) = -1) := by
      first | rfl | trivial | (refine ⟨?_, ?_⟩ <;> rfl) | (simp; done) | omega
    exact hret (-1) _ _ _ _ dX9_answer_86 hq_4 (hP.sub [0, 1, 2, 3] rfl) (hD.sub [0, 1, 2, 3] (by decide) rfl) hS
  · skip
    rw [q_beq] at c_1
    try rw [Bool.not_eq_false] at c_1
    have hzb := c_1
    refine lv_iload_n (pc := 10) hx hb dX9_answer_10 rfl (lv_at hl 1 rfl) ?_
    refine cs_S (pc := 11) (idx := 187) (n := 1) (wr := [(lg 0, oG lg ya yb wa wb o v ct), (lg 1, oR (lg 2) nta), (lg 2, aZ ta 400 gta), (wb 0, oW wb st lv cnt cm)]) (As := [.int i]) (rest := []) hx hb hml hown hts hGok hK hA hG hl.1 hP hD hS (ct_X9_isSw ll D ta hGok i  H.size) tw_874 tw_872 tw_873 tw_65 hdX9_isSw rfl ⟨rfl, rfl, Nat.le_of_ble_eq_true rfl, Nat.le_of_ble_eq_true rfl, Nat.le_of_ble_eq_true rfl, Nat.le_of_ble_eq_true rfl⟩ [] [0, 1, 2, 3] rfl rfl (by decide) rfl (Nat.le_of_ble_eq_true rfl) dX9_answer_11 (fun u H locs hq hP hD hS => ?_)
    generalize u = z_11 at hq hP hD ⊢
    have hq : (z_11 = swB i) := hq
    have hz_11 := hq
    refine W.eq (g2 := F0 mm 14 ls [.int (qb z_11)]) rfl ?_
    have hP : va_P D vwCl [(lg 0, oG lg ya yb wa wb o v ct), (lg 1, oR (lg 2) nta), (lg 2, aZ ta 400 gta), (wb 0, oW wb st lv cnt cm)] H := hP
    have hD : va_D A [(lg 0, oG lg ya yb wa wb o v ct), (lg 1, oR (lg 2) nta), (lg 2, aZ ta 400 gta), (wb 0, oW wb st lv cnt cm)] := hD
    refine lv_if_eq (pc := 14) (tgt := 34) hx hb dX9_answer_14 (by decide) (fun c_5 => ?_) (fun c_5 => ?_)
    · skip
      rw [q_beq] at c_5
      try rw [Bool.not_eq_false] at c_5
      have hzc := c_5
      refine lv_iconst (pc := 34) (v := nI 0) hx hb dX9_answer_34 (by decide +kernel) ?_
      refine lv_istore_n (pc := 35) (lv' := [(2, .int (nI 0)), (0, .ref (lg 0)), (1, .int i)]) hx hb dX9_answer_35 rfl hl (by decide) rfl (fun ls hl => ?_)
      refine lv_iload_n (pc := 36) hx hb dX9_answer_36 rfl (lv_at hl 0 rfl) ?_
      refine lv_if_eq (pc := 37) (tgt := 64) hx hb dX9_answer_37 (by decide) (fun _ => ?_) (fun c_6 => absurd (by decide) c_6)
      refine lv_aload_n (pc := 64) hx hb dX9_answer_64 rfl (lv_at hl 1 rfl) ?_
      refine va_get (pc := 65) (D := D) (ci := 7) (v := .ref (lg 1)) (C := RX9) (T := TX9) (N := 11) hx hb hts iu9 hown hK hP 0 rfl rfl 0 (by decide) (hts _ tw_352) (fun _ h9 => h9) rfl dX9_answer_65 ?_
      refine cs_V (pc := 68) (idx := 88) (n := 0) (wr := [(lg 0, oG lg ya yb wa wb o v ct), (wb 0, oW wb st lv cnt cm)]) (As := []) (rest := []) (ci := 5) hx hb hml hown hts hGok hK hA hG hl.1 hP hD hS (ct_X6_clear ll D ta hGok (lg 1) (lg 2) 400 gta nta  H.size) tw_441 tw_447 tw_439 tw_440 tw_66 hdX6_clear rfl ⟨rfl, rfl, Nat.le_of_ble_eq_true rfl, Nat.le_of_ble_eq_true rfl, Nat.le_of_ble_eq_true rfl, Nat.le_of_ble_eq_true rfl⟩ rfl rfl (q0 := 1) rfl [1, 2] [0, 3] rfl rfl (by decide) rfl (Nat.le_of_ble_eq_true rfl) dX9_answer_68 (fun u H locs hq hP hD hS => ?_)
      refine W.eq (g2 := F0 mm 71 ls []) rfl ?_
      have hP : va_P D vwCl [(lg 0, oG lg ya yb wa wb o v ct), (wb 0, oW wb st lv cnt cm), (lg 1, oR (lg 2) 0), (lg 2, aZ ta 400 gta)] H := hP
      have hD : va_D A [(lg 0, oG lg ya yb wa wb o v ct), (wb 0, oW wb st lv cnt cm), (lg 1, oR (lg 2) 0), (lg 2, aZ ta 400 gta)] := hD
      refine lv_iload_n (pc := 71) hx hb dX9_answer_71 rfl (lv_at hl 0 rfl) ?_
      refine lv_if_eq (pc := 72) (tgt := 85) hx hb dX9_answer_72 (by decide) (fun _ => ?_) (fun c_7 => absurd (by decide) c_7)
      refine lv_iconst (pc := 85) (v := (-1)) hx hb dX9_answer_85 (by decide +kernel) ?_
      refine q_top (y := (-1)) (by first | rfl | decide +kernel | (simp; done)) ?_
      have hq_8 : (((-1) : Int32) = -1) := by
        first | rfl | trivial | (refine ⟨?_, ?_⟩ <;> rfl) | (simp; done) | omega
      exact hret (-1) _ _ _ _ dX9_answer_86 hq_8 (hP.sub [0, 1, 2, 3] rfl) (hD.sub [0, 1, 2, 3] (by decide) rfl) hS
    · skip
      rw [q_beq] at c_5
      try rw [Bool.not_eq_false] at c_5
      have hzc := c_5
      refine lv_aload_n (pc := 17) hx hb dX9_answer_17 rfl (lv_at hl 0 rfl) ?_
      refine va_get (pc := 18) (D := D) (ci := 7) (v := .ref (lg 1)) (C := RX9) (T := TX9) (N := 11) hx hb hts iu9 hown hK hP 0 rfl rfl 0 (by decide) (hts _ tw_352) (fun _ h9 => h9) rfl dX9_answer_18 ?_
      refine cs_V (pc := 21) (idx := 64) (n := 0) (wr := [(lg 0, oG lg ya yb wa wb o v ct), (wb 0, oW wb st lv cnt cm)]) (As := []) (rest := []) (ci := 5) hx hb hml hown hts hGok hK hA hG hl.1 hP hD hS (ct_X6_size ll D ta hGok (lg 1) (lg 2) 400 gta nta  H.size) tw_393 tw_390 tw_391 tw_392 tw_66 hdX6_size rfl ⟨rfl, rfl, Nat.le_of_ble_eq_true rfl, Nat.le_of_ble_eq_true rfl, Nat.le_of_ble_eq_true rfl, Nat.le_of_ble_eq_true rfl⟩ rfl rfl (q0 := 1) rfl [1, 2] [0, 3] rfl rfl (by decide) rfl (Nat.le_of_ble_eq_true rfl) dX9_answer_21 (fun u H locs hq hP hD hS => ?_)
      refine W.eq (g2 := F0 mm 24 ls [.int (nI nta)]) rfl ?_
      have hP : va_P D vwCl [(lg 0, oG lg ya yb wa wb o v ct), (wb 0, oW wb st lv cnt cm), (lg 1, oR (lg 2) nta), (lg 2, aZ ta 400 gta)] H := hP
      have hD : va_D A [(lg 0, oG lg ya yb wa wb o v ct), (wb 0, oW wb st lv cnt cm), (lg 1, oR (lg 2) nta), (lg 2, aZ ta 400 gta)] := hD
      refine lv_sipush (pc := 24) (v := nI 200) hx hb dX9_answer_24 (by decide +kernel) ?_
      refine lv_icmp_gt (pc := 27) (tgt := 34) hx hb dX9_answer_27 (by decide) (fun c_9 => ?_) (fun c_9 => ?_)
      · skip
        rw [nI_ltI (by omega) (by omega)] at c_9
        refine lv_iconst (pc := 34) (v := nI 0) hx hb dX9_answer_34 (by decide +kernel) ?_
        refine lv_istore_n (pc := 35) (lv' := [(2, .int (nI 0)), (0, .ref (lg 0)), (1, .int i)]) hx hb dX9_answer_35 rfl hl (by decide) rfl (fun ls hl => ?_)
        refine lv_iload_n (pc := 36) hx hb dX9_answer_36 rfl (lv_at hl 0 rfl) ?_
        refine lv_if_eq (pc := 37) (tgt := 64) hx hb dX9_answer_37 (by decide) (fun _ => ?_) (fun c_10 => absurd (by decide) c_10)
        refine lv_aload_n (pc := 64) hx hb dX9_answer_64 rfl (lv_at hl 1 rfl) ?_
        refine va_get (pc := 65) (D := D) (ci := 7) (v := .ref (lg 1)) (C := RX9) (T := TX9) (N := 11) hx hb hts iu9 hown hK hP 0 rfl rfl 0 (by decide) (hts _ tw_352) (fun _ h9 => h9) rfl dX9_answer_65 ?_
        refine cs_V (pc := 68) (idx := 88) (n := 0) (wr := [(lg 0, oG lg ya yb wa wb o v ct), (wb 0, oW wb st lv cnt cm)]) (As := []) (rest := []) (ci := 5) hx hb hml hown hts hGok hK hA hG hl.1 hP hD hS (ct_X6_clear ll D ta hGok (lg 1) (lg 2) 400 gta nta  H.size) tw_441 tw_447 tw_439 tw_440 tw_66 hdX6_clear rfl ⟨rfl, rfl, Nat.le_of_ble_eq_true rfl, Nat.le_of_ble_eq_true rfl, Nat.le_of_ble_eq_true rfl, Nat.le_of_ble_eq_true rfl⟩ rfl rfl (q0 := 2) rfl [2, 3] [0, 1] rfl rfl (by decide) rfl (Nat.le_of_ble_eq_true rfl) dX9_answer_68 (fun u H locs hq hP hD hS => ?_)
        refine W.eq (g2 := F0 mm 71 ls []) rfl ?_
        have hP : va_P D vwCl [(lg 0, oG lg ya yb wa wb o v ct), (wb 0, oW wb st lv cnt cm), (lg 1, oR (lg 2) 0), (lg 2, aZ ta 400 gta)] H := hP
        have hD : va_D A [(lg 0, oG lg ya yb wa wb o v ct), (wb 0, oW wb st lv cnt cm), (lg 1, oR (lg 2) 0), (lg 2, aZ ta 400 gta)] := hD
        refine lv_iload_n (pc := 71) hx hb dX9_answer_71 rfl (lv_at hl 0 rfl) ?_
        refine lv_if_eq (pc := 72) (tgt := 85) hx hb dX9_answer_72 (by decide) (fun _ => ?_) (fun c_11 => absurd (by decide) c_11)
        refine lv_iconst (pc := 85) (v := (-1)) hx hb dX9_answer_85 (by decide +kernel) ?_
        refine q_top (y := (-1)) (by first | rfl | decide +kernel | (simp; done)) ?_
        have hq_12 : (((-1) : Int32) = -1) := by
          first | rfl | trivial | (refine ⟨?_, ?_⟩ <;> rfl) | (simp; done) | omega
        exact hret (-1) _ _ _ _ dX9_answer_86 hq_12 (hP.sub [0, 1, 2, 3] rfl) (hD.sub [0, 1, 2, 3] (by decide) rfl) hS
      · skip
        rw [nI_ltI (by omega) (by omega)] at c_9
        exact absurd ⟨of_decide_eq_true (hz_4.symm.trans hzb), hz_11.symm.trans hzc, by omega⟩ hno
theorem hdX9_accept : yX9_accept.cls ≠ "java/lang/invoke/MethodHandle" ∧ yX9_accept.cls ≠ "java/lang/invoke/VarHandle" ∧ (parseMethodDescriptor yX9_accept.desc).map (fun d => d.parameters.length) = some 1 := ⟨by decide +kernel, by decide +kernel, by decide +kernel⟩
theorem dX9_accept_0 : decode cX9_accept 0 = .ok (.aload_n 0, 1) := by decide +kernel
theorem dX9_accept_1 : decode cX9_accept 1 = .ok (.getfield 40, 3) := by decide +kernel
theorem dX9_accept_4 : decode cX9_accept 4 = .ok (.invokevirtual 183, 3) := by decide +kernel
theorem dX9_accept_7 : decode cX9_accept 7 = .ok (.ifCond .eq 10, 3) := by decide +kernel
theorem dX9_accept_10 : decode cX9_accept 10 = .ok (.iload_n 1, 1) := by decide +kernel
theorem dX9_accept_11 : decode cX9_accept 11 = .ok (.invokestatic 187, 3) := by decide +kernel
theorem dX9_accept_14 : decode cX9_accept 14 = .ok (.ifCond .ne 5, 3) := by decide +kernel
theorem dX9_accept_17 : decode cX9_accept 17 = .ok (.iconst (-1), 1) := by decide +kernel
theorem dX9_accept_18 : decode cX9_accept 18 = .ok (.ireturn, 1) := by decide +kernel
theorem dX9_accept_19 : decode cX9_accept 19 = .ok (.aload_n 0, 1) := by decide +kernel
theorem dX9_accept_20 : decode cX9_accept 20 = .ok (.aload_n 0, 1) := by decide +kernel
theorem dX9_accept_21 : decode cX9_accept 21 = .ok (.getfield 30, 3) := by decide +kernel
theorem dX9_accept_24 : decode cX9_accept 24 = .ok (.invokevirtual 109, 3) := by decide +kernel
theorem dX9_accept_27 : decode cX9_accept 27 = .ok (.aload_n 0, 1) := by decide +kernel
theorem dX9_accept_28 : decode cX9_accept 28 = .ok (.getfield 40, 3) := by decide +kernel
theorem dX9_accept_31 : decode cX9_accept 31 = .ok (.aload_n 0, 1) := by decide +kernel
theorem dX9_accept_32 : decode cX9_accept 32 = .ok (.getfield 21, 3) := by decide +kernel
theorem dX9_accept_35 : decode cX9_accept 35 = .ok (.iload_n 1, 1) := by decide +kernel
theorem dX9_accept_36 : decode cX9_accept 36 = .ok (.aload_n 0, 1) := by decide +kernel
theorem dX9_accept_37 : decode cX9_accept 37 = .ok (.getfield 18, 3) := by decide +kernel
theorem dX9_accept_40 : decode cX9_accept 40 = .ok (.invokevirtual 194, 3) := by decide +kernel
theorem dX9_accept_43 : decode cX9_accept 43 = .ok (.istore_n 2, 1) := by decide +kernel
theorem dX9_accept_44 : decode cX9_accept 44 = .ok (.aload_n 0, 1) := by decide +kernel
theorem dX9_accept_45 : decode cX9_accept 45 = .ok (.getfield 21, 3) := by decide +kernel
theorem dX9_accept_48 : decode cX9_accept 48 = .ok (.invokevirtual 88, 3) := by decide +kernel
theorem dX9_accept_51 : decode cX9_accept 51 = .ok (.iload_n 2, 1) := by decide +kernel
theorem dX9_accept_52 : decode cX9_accept 52 = .ok (.ifCond .eq 7, 3) := by decide +kernel
theorem dX9_accept_55 : decode cX9_accept 55 = .ok (.iconst 1, 1) := by decide +kernel
theorem dX9_accept_56 : decode cX9_accept 56 = .ok (.goto 4, 3) := by decide +kernel
theorem dX9_accept_59 : decode cX9_accept 59 = .ok (.iconst 0, 1) := by decide +kernel
theorem dX9_accept_60 : decode cX9_accept 60 = .ok (.ireturn, 1) := by decide +kernel
set_option maxHeartbeats 4000000 in
set_option maxRecDepth 100000 in
theorem ct_X9_accept_no (ll : Launch) (D : va_G) (ta : Nat → ClassId) (gs : Nat → Nat) (lg : Nat → Nat) (ya : Nat → Nat) (yb : Nat → Nat) (wa : Nat → Nat) (wb : Nat → Nat) (o : Nat → Nat) (v : Nat → Nat) (ct : Nat) (st : Nat) (lv : Nat) (cnt : Nat) (cm : Bool) (i : Int32) (hst : st ≤ 2) (hlv : lv < 256) (hno : ¬ ((st = 2 ∧ lv &&& 16 ≠ 0 ∧ cm = true) ∧ swB i = true)) (sz : Nat) : CT ll yX9_accept cX9_accept 3 (some .int) ({ frames := 6, cells := 0, slots := 0, locals := 151 } : Room) D ta ((GC gs)) [.ref (lg 0), .int i] [(lg 0, oG lg ya yb wa wb o v ct), (wa 0, oW wa st lv cnt cm)] sz (S := Int32) (fun u => some (.int u)) (fun u => ((u : Int32) = -1)) (fun u => [(lg 0, oG lg ya yb wa wb o v ct), (wa 0, oW wa st lv cnt cm)]) 0 0 := by
  refine CT.of_i (r := fun u => u) rfl (by decide) (Nat.le_of_ble_eq_true rfl) ?_
  have hGok := GC_ok gs
  intro pp ee ss mm below meth kc A Q hx hb hml hown hin hts hK hA hsz hG hret H locs hP hD hS ls hl
  have hl : lv_has ls 3 [(0, .ref (lg 0)), (1, .int i)] := hl
  refine lv_aload_n (pc := 0) hx hb dX9_accept_0 rfl (lv_at hl 0 rfl) ?_
  refine va_get (pc := 1) (D := D) (ci := 7) (v := .ref (wa 0)) (C := RX9) (T := TX9) (N := 11) hx hb hts iu9 hown hK hP 0 rfl rfl 6 (by decide) (hts _ tw_358) (fun _ h9 => h9) rfl dX9_accept_1 ?_
  refine cs_V (pc := 4) (idx := 183) (n := 0) (wr := [(lg 0, oG lg ya yb wa wb o v ct)]) (As := []) (rest := []) (ci := 6) hx hb hml hown hts hGok hK hA hG hl.1 hP hD hS (ct_X8_isAnswerable ll D ta gs wa st lv cnt cm (by first | assumption | omega | rfl | decide) (by first | assumption | omega | rfl | decide) H.size) tw_870 tw_867 tw_868 tw_869 tw_68 hdX8_isAnswerable rfl ⟨rfl, rfl, Nat.le_of_ble_eq_true rfl, Nat.le_of_ble_eq_true rfl, Nat.le_of_ble_eq_true rfl, Nat.le_of_ble_eq_true rfl⟩ rfl rfl (q0 := 1) rfl [1] [0] rfl rfl (by decide) rfl (Nat.le_of_ble_eq_true rfl) dX9_accept_4 (fun u H locs hq hP hD hS => ?_)
  generalize u = z_4 at hq hP hD ⊢
  have hq : (z_4 = decide (st = 2 ∧ lv &&& 16 ≠ 0 ∧ cm = true)) := hq
  have hz_4 := hq
  refine W.eq (g2 := F0 mm 7 ls [.int (qb z_4)]) rfl ?_
  have hP : va_P D vwCl [(lg 0, oG lg ya yb wa wb o v ct), (wa 0, oW wa st lv cnt cm)] H := hP
  have hD : va_D A [(lg 0, oG lg ya yb wa wb o v ct), (wa 0, oW wa st lv cnt cm)] := hD
  refine lv_if_eq (pc := 7) (tgt := 17) hx hb dX9_accept_7 (by decide) (fun c_1 => ?_) (fun c_1 => ?_)
  · skip
    rw [q_beq] at c_1
    try rw [Bool.not_eq_false] at c_1
    have hzb := c_1
    refine lv_iconst (pc := 17) (v := (-1)) hx hb dX9_accept_17 (by decide +kernel) ?_
    refine q_top (y := (-1)) (by first | rfl | decide +kernel | (simp; done)) ?_
    have hq_2 : (((-1) : Int32) = -1) := by
      first | rfl | trivial | (refine ⟨?_, ?_⟩ <;> rfl) | (simp; done) | omega
    exact hret (-1) _ _ _ _ dX9_accept_18 hq_2 (hP.sub [0, 1] rfl) (hD.sub [0, 1] (by decide) rfl) hS
  · skip
    rw [q_beq] at c_1
    try rw [Bool.not_eq_false] at c_1
    have hzb := c_1
    refine lv_iload_n (pc := 10) hx hb dX9_accept_10 rfl (lv_at hl 1 rfl) ?_
    refine cs_S (pc := 11) (idx := 187) (n := 1) (wr := [(lg 0, oG lg ya yb wa wb o v ct), (wa 0, oW wa st lv cnt cm)]) (As := [.int i]) (rest := []) hx hb hml hown hts hGok hK hA hG hl.1 hP hD hS (ct_X9_isSw ll D ta hGok i  H.size) tw_874 tw_872 tw_873 tw_65 hdX9_isSw rfl ⟨rfl, rfl, Nat.le_of_ble_eq_true rfl, Nat.le_of_ble_eq_true rfl, Nat.le_of_ble_eq_true rfl, Nat.le_of_ble_eq_true rfl⟩ [] [0, 1] rfl rfl (by decide) rfl (Nat.le_of_ble_eq_true rfl) dX9_accept_11 (fun u H locs hq hP hD hS => ?_)
    generalize u = z_11 at hq hP hD ⊢
    have hq : (z_11 = swB i) := hq
    have hz_11 := hq
    refine W.eq (g2 := F0 mm 14 ls [.int (qb z_11)]) rfl ?_
    have hP : va_P D vwCl [(lg 0, oG lg ya yb wa wb o v ct), (wa 0, oW wa st lv cnt cm)] H := hP
    have hD : va_D A [(lg 0, oG lg ya yb wa wb o v ct), (wa 0, oW wa st lv cnt cm)] := hD
    refine lv_if_ne (pc := 14) (tgt := 19) hx hb dX9_accept_14 (by decide) (fun c_3 => ?_) (fun c_3 => ?_)
    · skip
      rw [q_beq] at c_3
      try rw [Bool.not_eq_false] at c_3
      have hzc := c_3
      exact absurd ⟨of_decide_eq_true (hz_4.symm.trans hzb), hz_11.symm.trans hzc⟩ hno
    · skip
      rw [q_beq] at c_3
      try rw [Bool.not_eq_false] at c_3
      have hzc := c_3
      refine lv_iconst (pc := 17) (v := (-1)) hx hb dX9_accept_17 (by decide +kernel) ?_
      refine q_top (y := (-1)) (by first | rfl | decide +kernel | (simp; done)) ?_
      have hq_4 : (((-1) : Int32) = -1) := by
        first | rfl | trivial | (refine ⟨?_, ?_⟩ <;> rfl) | (simp; done) | omega
      exact hret (-1) _ _ _ _ dX9_accept_18 hq_4 (hP.sub [0, 1] rfl) (hD.sub [0, 1] (by decide) rfl) hS
set_option maxHeartbeats 4000000 in
set_option maxRecDepth 100000 in
theorem ct_X9_answer_N (ll : Launch) (D : va_G) (ta : Nat → ClassId) (gs : Nat → Nat) (lg : Nat → Nat) (ya : Nat → Nat) (yb : Nat → Nat) (wa : Nat → Nat) (wb : Nat → Nat) (o : Nat → Nat) (v : Nat → Nat) (ct : Nat) (gz : Nat → BitVec 8) (rd : Nat) (ab : Nat → BitVec 8) (af : Nat → BitVec 8) (kw : Nat → Int32) (sw : Nat → Int32) (xw : Nat → Int32) (tn : Nat → BitVec 8) (gt : Nat → BitVec 8) (nt : Nat) (gd : Nat → BitVec 8) (nd : Nat) (gk0 : Nat → BitVec 8) (nk0 : Nat) (gv : Nat → BitVec 8) (nv : Nat) (ge : Nat → BitVec 8) (gb9 : Nat → BitVec 8) (len : Nat) (gh : Nat → BitVec 8) (gta : Nat → BitVec 8) (nta : Nat) (gl : Nat → BitVec 8) (nl : Nat) (lv : Nat) (cnt : Nat) (ln : Nat) (sw9 : Nat) (hz : qL gz 16 = zeroL 16) (hln : len = 16 ∨ len = 24 ∨ len = 32) (hcnt : cnt < 2147483648) (hsw : sw9 < 65536) (hlv : lv < 256) (hl16 : lv &&& 16 ≠ 0) (hta : nta ≤ 200) (hli : nl ≤ 300) (sz : Nat) : CT ll yX9_answer cX9_answer 3 (some .int) ({ frames := 6, cells := 0, slots := 0, locals := 151 } : Room) D ta ((GC gs)) [.ref (lg 0), .int (nI sw9)] [(lg 0, oG lg ya yb wa wb o v ct), (yb 0, oK yb 3 ln), (wb 0, oW wb 2 lv cnt true), (wb 1, oR (wb 2) len), (wb 2, aZ ta 32 ge), (wb 5, oR (wb 6) len), (wb 6, aZ ta 32 gb9), (wb 15, oR (wb 16) 16), (wb 16, aZ ta 16 gh), (lg 1, oR (lg 2) nta), (lg 2, aZ ta 400 gta), (lg 5, oR (lg 6) nl), (lg 6, aZ ta 300 gl), (v 0, oV v), (v 1, oR (v 2) nt), (v 2, aZ ta 528 gt), (v 3, oR (v 4) nd), (v 4, aZ ta 300 gd), (v 5, oR (v 6) nk0), (v 6, aZ ta 16 gk0), (v 7, oR (v 8) nv), (v 8, aZ ta 16 gv), (v 9, oR (v 10) 16), (v 10, aZ ta 16 gz), (v 11, oA (v 12) (v 13) (v 14) (v 15) (v 16) (v 17) rd), (v 12, aZ ta 16 ab), (v 13, aZ ta 16 af), (v 14, aZ ta 256 UBOX), (v 15, aI ta 64 kw), (v 16, aI ta 4 sw), (v 17, aI ta 4 xw), (v 18, aZ ta 16 tn)] sz (S := (Nat → BitVec 8) × Nat × (Nat → BitVec 8) × Nat × (Nat → BitVec 8) × Nat × (Nat → BitVec 8) × Nat × Nat × (Nat → BitVec 8) × (Nat → BitVec 8) × (Nat → Int32) × (Nat → Int32) × (Nat → Int32) × (Nat → BitVec 8) × (Nat → BitVec 8) × Nat) (fun u => some (.int (nI u.2.2.2.2.2.2.2.2.2.2.2.2.2.2.2.2))) (fun u => (qL u.2.2.2.2.2.2.2.2.2.2.2.2.2.2.2.1 u.2.2.2.2.2.2.2.2.2.2.2.2.2.2.2.2 = (ansD3 (qL ge len) cnt lv (qL gta nta)) ++ (ansCode3 (qL gb9 len) (qL gh 16) (ansD3 (qL ge len) cnt lv (qL gta nta)) sw9).take 8) ∧ (u.2.2.2.2.2.2.2.2.2.2.2.2.2.2.2.2 = (ansD3 (qL ge len) cnt lv (qL gta nta)).length + 8 ∧ u.2.2.2.2.2.2.2.2.2.2.2.2.2.2.2.2 ≤ 216)) (fun u => [(lg 0, oG lg ya yb wa wb o v ct), (yb 0, oK yb 3 ln), (wb 0, oW wb 2 lv cnt true), (wb 1, oR (wb 2) len), (wb 2, aZ ta 32 ge), (wb 5, oR (wb 6) len), (wb 6, aZ ta 32 gb9), (wb 15, oR (wb 16) 16), (wb 16, aZ ta 16 gh), (lg 1, oR (lg 2) 0), (lg 2, aZ ta 400 gta), (lg 5, oR (lg 6) u.2.2.2.2.2.2.2.2.2.2.2.2.2.2.2.2), (lg 6, aZ ta 300 u.2.2.2.2.2.2.2.2.2.2.2.2.2.2.2.1), (v 0, oV v), (v 1, oR (v 2) u.2.1), (v 2, aZ ta 528 u.1), (v 3, oR (v 4) u.2.2.2.1), (v 4, aZ ta 300 u.2.2.1), (v 5, oR (v 6) u.2.2.2.2.2.1), (v 6, aZ ta 16 u.2.2.2.2.1), (v 7, oR (v 8) u.2.2.2.2.2.2.2.1), (v 8, aZ ta 16 u.2.2.2.2.2.2.1), (v 9, oR (v 10) 16), (v 10, aZ ta 16 gz), (v 11, oA (v 12) (v 13) (v 14) (v 15) (v 16) (v 17) u.2.2.2.2.2.2.2.2.1), (v 12, aZ ta 16 u.2.2.2.2.2.2.2.2.2.1), (v 13, aZ ta 16 u.2.2.2.2.2.2.2.2.2.2.1), (v 14, aZ ta 256 UBOX), (v 15, aI ta 64 u.2.2.2.2.2.2.2.2.2.2.2.1), (v 16, aI ta 4 u.2.2.2.2.2.2.2.2.2.2.2.2.1), (v 17, aI ta 4 u.2.2.2.2.2.2.2.2.2.2.2.2.2.1), (v 18, aZ ta 16 u.2.2.2.2.2.2.2.2.2.2.2.2.2.2.1)]) 0 0 := by
  refine CT.of_i (r := fun u => nI u.2.2.2.2.2.2.2.2.2.2.2.2.2.2.2.2) rfl (by decide) (Nat.le_of_ble_eq_true rfl) ?_
  have hGok := GC_ok gs
  intro pp ee ss mm below meth kc A Q hx hb hml hown hin hts hK hA hsz hG hret H locs hP hD hS ls hl
  have hl : lv_has ls 3 [(0, .ref (lg 0)), (1, .int (nI sw9))] := hl
  refine lv_aload_n (pc := 0) hx hb dX9_answer_0 rfl (lv_at hl 0 rfl) ?_
  refine va_get (pc := 1) (D := D) (ci := 7) (v := .ref (wb 0)) (C := RX9) (T := TX9) (N := 11) hx hb hts iu9 hown hK hP 0 rfl rfl 7 (by decide) (hts _ tw_359) (fun _ h9 => h9) rfl dX9_answer_1 ?_
  refine cs_V (pc := 4) (idx := 183) (n := 0) (wr := [(lg 0, oG lg ya yb wa wb o v ct), (yb 0, oK yb 3 ln), (wb 1, oR (wb 2) len), (wb 2, aZ ta 32 ge), (wb 5, oR (wb 6) len), (wb 6, aZ ta 32 gb9), (wb 15, oR (wb 16) 16), (wb 16, aZ ta 16 gh), (lg 1, oR (lg 2) nta), (lg 2, aZ ta 400 gta), (lg 5, oR (lg 6) nl), (lg 6, aZ ta 300 gl), (v 0, oV v), (v 1, oR (v 2) nt), (v 2, aZ ta 528 gt), (v 3, oR (v 4) nd), (v 4, aZ ta 300 gd), (v 5, oR (v 6) nk0), (v 6, aZ ta 16 gk0), (v 7, oR (v 8) nv), (v 8, aZ ta 16 gv), (v 9, oR (v 10) 16), (v 10, aZ ta 16 gz), (v 11, oA (v 12) (v 13) (v 14) (v 15) (v 16) (v 17) rd), (v 12, aZ ta 16 ab), (v 13, aZ ta 16 af), (v 14, aZ ta 256 UBOX), (v 15, aI ta 64 kw), (v 16, aI ta 4 sw), (v 17, aI ta 4 xw), (v 18, aZ ta 16 tn)]) (As := []) (rest := []) (ci := 6) hx hb hml hown hts hGok hK hA hG hl.1 hP hD hS (ct_X8_isAnswerable ll D ta gs wb 2 lv cnt true (by first | assumption | omega | rfl | decide) (by first | assumption | omega | rfl | decide) H.size) tw_870 tw_867 tw_868 tw_869 tw_68 hdX8_isAnswerable rfl ⟨rfl, rfl, Nat.le_of_ble_eq_true rfl, Nat.le_of_ble_eq_true rfl, Nat.le_of_ble_eq_true rfl, Nat.le_of_ble_eq_true rfl⟩ rfl rfl (q0 := 2) rfl [2] [0, 1, 3, 4, 5, 6, 7, 8, 9, 10, 11, 12, 13, 14, 15, 16, 17, 18, 19, 20, 21, 22, 23, 24, 25, 26, 27, 28, 29, 30, 31] rfl rfl (by decide) rfl (Nat.le_of_ble_eq_true rfl) dX9_answer_4 (fun u H locs hq hP hD hS => ?_)
  generalize u = z_4 at hq hP hD ⊢
  have hq : (z_4 = decide (2 = 2 ∧ lv &&& 16 ≠ 0 ∧ true = true)) := hq
  have hz_4 := hq
  refine W.eq (g2 := F0 mm 7 ls [.int (qb z_4)]) rfl ?_
  have hP : va_P D vwCl [(lg 0, oG lg ya yb wa wb o v ct), (yb 0, oK yb 3 ln), (wb 1, oR (wb 2) len), (wb 2, aZ ta 32 ge), (wb 5, oR (wb 6) len), (wb 6, aZ ta 32 gb9), (wb 15, oR (wb 16) 16), (wb 16, aZ ta 16 gh), (lg 1, oR (lg 2) nta), (lg 2, aZ ta 400 gta), (lg 5, oR (lg 6) nl), (lg 6, aZ ta 300 gl), (v 0, oV v), (v 1, oR (v 2) nt), (v 2, aZ ta 528 gt), (v 3, oR (v 4) nd), (v 4, aZ ta 300 gd), (v 5, oR (v 6) nk0), (v 6, aZ ta 16 gk0), (v 7, oR (v 8) nv), (v 8, aZ ta 16 gv), (v 9, oR (v 10) 16), (v 10, aZ ta 16 gz), (v 11, oA (v 12) (v 13) (v 14) (v 15) (v 16) (v 17) rd), (v 12, aZ ta 16 ab), (v 13, aZ ta 16 af), (v 14, aZ ta 256 UBOX), (v 15, aI ta 64 kw), (v 16, aI ta 4 sw), (v 17, aI ta 4 xw), (v 18, aZ ta 16 tn), (wb 0, oW wb 2 lv cnt true)] H := hP
  have hD : va_D A [(lg 0, oG lg ya yb wa wb o v ct), (yb 0, oK yb 3 ln), (wb 1, oR (wb 2) len), (wb 2, aZ ta 32 ge), (wb 5, oR (wb 6) len), (wb 6, aZ ta 32 gb9), (wb 15, oR (wb 16) 16), (wb 16, aZ ta 16 gh), (lg 1, oR (lg 2) nta), (lg 2, aZ ta 400 gta), (lg 5, oR (lg 6) nl), (lg 6, aZ ta 300 gl), (v 0, oV v), (v 1, oR (v 2) nt), (v 2, aZ ta 528 gt), (v 3, oR (v 4) nd), (v 4, aZ ta 300 gd), (v 5, oR (v 6) nk0), (v 6, aZ ta 16 gk0), (v 7, oR (v 8) nv), (v 8, aZ ta 16 gv), (v 9, oR (v 10) 16), (v 10, aZ ta 16 gz), (v 11, oA (v 12) (v 13) (v 14) (v 15) (v 16) (v 17) rd), (v 12, aZ ta 16 ab), (v 13, aZ ta 16 af), (v 14, aZ ta 256 UBOX), (v 15, aI ta 64 kw), (v 16, aI ta 4 sw), (v 17, aI ta 4 xw), (v 18, aZ ta 16 tn), (wb 0, oW wb 2 lv cnt true)] := hD
  refine lv_if_eq (pc := 7) (tgt := 34) hx hb dX9_answer_7 (by decide) (fun c_1 => ?_) (fun c_1 => ?_)
  · skip
    rw [q_beq] at c_1
    try rw [Bool.not_eq_false] at c_1
    rw [hz_4, decide_eq_true ⟨rfl, hl16, rfl⟩] at c_1; cases c_1
  · skip
    rw [q_beq] at c_1
    try rw [Bool.not_eq_false] at c_1
    refine lv_iload_n (pc := 10) hx hb dX9_answer_10 rfl (lv_at hl 1 rfl) ?_
    refine cs_S (pc := 11) (idx := 187) (n := 1) (wr := [(lg 0, oG lg ya yb wa wb o v ct), (yb 0, oK yb 3 ln), (wb 1, oR (wb 2) len), (wb 2, aZ ta 32 ge), (wb 5, oR (wb 6) len), (wb 6, aZ ta 32 gb9), (wb 15, oR (wb 16) 16), (wb 16, aZ ta 16 gh), (lg 1, oR (lg 2) nta), (lg 2, aZ ta 400 gta), (lg 5, oR (lg 6) nl), (lg 6, aZ ta 300 gl), (v 0, oV v), (v 1, oR (v 2) nt), (v 2, aZ ta 528 gt), (v 3, oR (v 4) nd), (v 4, aZ ta 300 gd), (v 5, oR (v 6) nk0), (v 6, aZ ta 16 gk0), (v 7, oR (v 8) nv), (v 8, aZ ta 16 gv), (v 9, oR (v 10) 16), (v 10, aZ ta 16 gz), (v 11, oA (v 12) (v 13) (v 14) (v 15) (v 16) (v 17) rd), (v 12, aZ ta 16 ab), (v 13, aZ ta 16 af), (v 14, aZ ta 256 UBOX), (v 15, aI ta 64 kw), (v 16, aI ta 4 sw), (v 17, aI ta 4 xw), (v 18, aZ ta 16 tn), (wb 0, oW wb 2 lv cnt true)]) (As := [.int (nI sw9)]) (rest := []) hx hb hml hown hts hGok hK hA hG hl.1 hP hD hS (ct_X9_isSw ll D ta hGok (nI sw9)  H.size) tw_874 tw_872 tw_873 tw_65 hdX9_isSw rfl ⟨rfl, rfl, Nat.le_of_ble_eq_true rfl, Nat.le_of_ble_eq_true rfl, Nat.le_of_ble_eq_true rfl, Nat.le_of_ble_eq_true rfl⟩ [] [0, 1, 2, 3, 4, 5, 6, 7, 8, 9, 10, 11, 12, 13, 14, 15, 16, 17, 18, 19, 20, 21, 22, 23, 24, 25, 26, 27, 28, 29, 30, 31] rfl rfl (by decide) rfl (Nat.le_of_ble_eq_true rfl) dX9_answer_11 (fun u H locs hq hP hD hS => ?_)
    generalize u = z_11 at hq hP hD ⊢
    have hq : (z_11 = swB (nI sw9)) := hq
    have hz_11 := hq
    refine W.eq (g2 := F0 mm 14 ls [.int (qb z_11)]) rfl ?_
    have hP : va_P D vwCl [(lg 0, oG lg ya yb wa wb o v ct), (yb 0, oK yb 3 ln), (wb 1, oR (wb 2) len), (wb 2, aZ ta 32 ge), (wb 5, oR (wb 6) len), (wb 6, aZ ta 32 gb9), (wb 15, oR (wb 16) 16), (wb 16, aZ ta 16 gh), (lg 1, oR (lg 2) nta), (lg 2, aZ ta 400 gta), (lg 5, oR (lg 6) nl), (lg 6, aZ ta 300 gl), (v 0, oV v), (v 1, oR (v 2) nt), (v 2, aZ ta 528 gt), (v 3, oR (v 4) nd), (v 4, aZ ta 300 gd), (v 5, oR (v 6) nk0), (v 6, aZ ta 16 gk0), (v 7, oR (v 8) nv), (v 8, aZ ta 16 gv), (v 9, oR (v 10) 16), (v 10, aZ ta 16 gz), (v 11, oA (v 12) (v 13) (v 14) (v 15) (v 16) (v 17) rd), (v 12, aZ ta 16 ab), (v 13, aZ ta 16 af), (v 14, aZ ta 256 UBOX), (v 15, aI ta 64 kw), (v 16, aI ta 4 sw), (v 17, aI ta 4 xw), (v 18, aZ ta 16 tn), (wb 0, oW wb 2 lv cnt true)] H := hP
    have hD : va_D A [(lg 0, oG lg ya yb wa wb o v ct), (yb 0, oK yb 3 ln), (wb 1, oR (wb 2) len), (wb 2, aZ ta 32 ge), (wb 5, oR (wb 6) len), (wb 6, aZ ta 32 gb9), (wb 15, oR (wb 16) 16), (wb 16, aZ ta 16 gh), (lg 1, oR (lg 2) nta), (lg 2, aZ ta 400 gta), (lg 5, oR (lg 6) nl), (lg 6, aZ ta 300 gl), (v 0, oV v), (v 1, oR (v 2) nt), (v 2, aZ ta 528 gt), (v 3, oR (v 4) nd), (v 4, aZ ta 300 gd), (v 5, oR (v 6) nk0), (v 6, aZ ta 16 gk0), (v 7, oR (v 8) nv), (v 8, aZ ta 16 gv), (v 9, oR (v 10) 16), (v 10, aZ ta 16 gz), (v 11, oA (v 12) (v 13) (v 14) (v 15) (v 16) (v 17) rd), (v 12, aZ ta 16 ab), (v 13, aZ ta 16 af), (v 14, aZ ta 256 UBOX), (v 15, aI ta 64 kw), (v 16, aI ta 4 sw), (v 17, aI ta 4 xw), (v 18, aZ ta 16 tn), (wb 0, oW wb 2 lv cnt true)] := hD
    refine lv_if_eq (pc := 14) (tgt := 34) hx hb dX9_answer_14 (by decide) (fun c_2 => ?_) (fun c_2 => ?_)
    · skip
      rw [q_beq] at c_2
      try rw [Bool.not_eq_false] at c_2
      rw [hz_11, sw_nI hsw] at c_2; cases c_2
    · skip
      rw [q_beq] at c_2
      try rw [Bool.not_eq_false] at c_2
      refine lv_aload_n (pc := 17) hx hb dX9_answer_17 rfl (lv_at hl 0 rfl) ?_
      refine va_get (pc := 18) (D := D) (ci := 7) (v := .ref (lg 1)) (C := RX9) (T := TX9) (N := 11) hx hb hts iu9 hown hK hP 0 rfl rfl 0 (by decide) (hts _ tw_352) (fun _ h9 => h9) rfl dX9_answer_18 ?_
      refine cs_V (pc := 21) (idx := 64) (n := 0) (wr := [(lg 0, oG lg ya yb wa wb o v ct), (yb 0, oK yb 3 ln), (wb 1, oR (wb 2) len), (wb 2, aZ ta 32 ge), (wb 5, oR (wb 6) len), (wb 6, aZ ta 32 gb9), (wb 15, oR (wb 16) 16), (wb 16, aZ ta 16 gh), (lg 5, oR (lg 6) nl), (lg 6, aZ ta 300 gl), (v 0, oV v), (v 1, oR (v 2) nt), (v 2, aZ ta 528 gt), (v 3, oR (v 4) nd), (v 4, aZ ta 300 gd), (v 5, oR (v 6) nk0), (v 6, aZ ta 16 gk0), (v 7, oR (v 8) nv), (v 8, aZ ta 16 gv), (v 9, oR (v 10) 16), (v 10, aZ ta 16 gz), (v 11, oA (v 12) (v 13) (v 14) (v 15) (v 16) (v 17) rd), (v 12, aZ ta 16 ab), (v 13, aZ ta 16 af), (v 14, aZ ta 256 UBOX), (v 15, aI ta 64 kw), (v 16, aI ta 4 sw), (v 17, aI ta 4 xw), (v 18, aZ ta 16 tn), (wb 0, oW wb 2 lv cnt true)]) (As := []) (rest := []) (ci := 5) hx hb hml hown hts hGok hK hA hG hl.1 hP hD hS (ct_X6_size ll D ta hGok (lg 1) (lg 2) 400 gta nta  H.size) tw_393 tw_390 tw_391 tw_392 tw_66 hdX6_size rfl ⟨rfl, rfl, Nat.le_of_ble_eq_true rfl, Nat.le_of_ble_eq_true rfl, Nat.le_of_ble_eq_true rfl, Nat.le_of_ble_eq_true rfl⟩ rfl rfl (q0 := 8) rfl [8, 9] [0, 1, 2, 3, 4, 5, 6, 7, 10, 11, 12, 13, 14, 15, 16, 17, 18, 19, 20, 21, 22, 23, 24, 25, 26, 27, 28, 29, 30, 31] rfl rfl (by decide) rfl (Nat.le_of_ble_eq_true rfl) dX9_answer_21 (fun u H locs hq hP hD hS => ?_)
      refine W.eq (g2 := F0 mm 24 ls [.int (nI nta)]) rfl ?_
      have hP : va_P D vwCl [(lg 0, oG lg ya yb wa wb o v ct), (yb 0, oK yb 3 ln), (wb 1, oR (wb 2) len), (wb 2, aZ ta 32 ge), (wb 5, oR (wb 6) len), (wb 6, aZ ta 32 gb9), (wb 15, oR (wb 16) 16), (wb 16, aZ ta 16 gh), (lg 5, oR (lg 6) nl), (lg 6, aZ ta 300 gl), (v 0, oV v), (v 1, oR (v 2) nt), (v 2, aZ ta 528 gt), (v 3, oR (v 4) nd), (v 4, aZ ta 300 gd), (v 5, oR (v 6) nk0), (v 6, aZ ta 16 gk0), (v 7, oR (v 8) nv), (v 8, aZ ta 16 gv), (v 9, oR (v 10) 16), (v 10, aZ ta 16 gz), (v 11, oA (v 12) (v 13) (v 14) (v 15) (v 16) (v 17) rd), (v 12, aZ ta 16 ab), (v 13, aZ ta 16 af), (v 14, aZ ta 256 UBOX), (v 15, aI ta 64 kw), (v 16, aI ta 4 sw), (v 17, aI ta 4 xw), (v 18, aZ ta 16 tn), (wb 0, oW wb 2 lv cnt true), (lg 1, oR (lg 2) nta), (lg 2, aZ ta 400 gta)] H := hP
      have hD : va_D A [(lg 0, oG lg ya yb wa wb o v ct), (yb 0, oK yb 3 ln), (wb 1, oR (wb 2) len), (wb 2, aZ ta 32 ge), (wb 5, oR (wb 6) len), (wb 6, aZ ta 32 gb9), (wb 15, oR (wb 16) 16), (wb 16, aZ ta 16 gh), (lg 5, oR (lg 6) nl), (lg 6, aZ ta 300 gl), (v 0, oV v), (v 1, oR (v 2) nt), (v 2, aZ ta 528 gt), (v 3, oR (v 4) nd), (v 4, aZ ta 300 gd), (v 5, oR (v 6) nk0), (v 6, aZ ta 16 gk0), (v 7, oR (v 8) nv), (v 8, aZ ta 16 gv), (v 9, oR (v 10) 16), (v 10, aZ ta 16 gz), (v 11, oA (v 12) (v 13) (v 14) (v 15) (v 16) (v 17) rd), (v 12, aZ ta 16 ab), (v 13, aZ ta 16 af), (v 14, aZ ta 256 UBOX), (v 15, aI ta 64 kw), (v 16, aI ta 4 sw), (v 17, aI ta 4 xw), (v 18, aZ ta 16 tn), (wb 0, oW wb 2 lv cnt true), (lg 1, oR (lg 2) nta), (lg 2, aZ ta 400 gta)] := hD
      refine lv_sipush (pc := 24) (v := nI 200) hx hb dX9_answer_24 (by decide +kernel) ?_
      refine lv_icmp_gt (pc := 27) (tgt := 34) hx hb dX9_answer_27 (by decide) (fun c_3 => ?_) (fun c_3 => ?_)
      · skip
        rw [nI_ltI (by omega) (by omega)] at c_3
        exfalso; omega
      · skip
        rw [nI_ltI (by omega) (by omega)] at c_3
        refine lv_iconst (pc := 30) (v := nI 1) hx hb dX9_answer_30 (by decide +kernel) ?_
        refine lv_goto (pc := 31) (tgt := 35) hx hb dX9_answer_31 (by decide) ?_
        refine lv_istore_n (pc := 35) (lv' := [(2, .int (nI 1)), (0, .ref (lg 0)), (1, .int (nI sw9))]) hx hb dX9_answer_35 rfl hl (by decide) rfl (fun ls hl => ?_)
        refine lv_iload_n (pc := 36) hx hb dX9_answer_36 rfl (lv_at hl 0 rfl) ?_
        refine lv_if_eq (pc := 37) (tgt := 64) hx hb dX9_answer_37 (by decide) (fun c_4 => absurd c_4 (by decide)) (fun _ => ?_)
        refine lv_aload_n (pc := 40) hx hb dX9_answer_40 rfl (lv_at hl 1 rfl) ?_
        refine lv_aload_n (pc := 41) hx hb dX9_answer_41 rfl (lv_at hl 1 rfl) ?_
        refine va_get (pc := 42) (D := D) (ci := 7) (v := .ref (yb 0)) (C := RX9) (T := TX9) (N := 11) hx hb hts iu9 hown hK hP 0 rfl rfl 5 (by decide) (hts _ tw_357) (fun _ h9 => h9) rfl dX9_answer_42 ?_
        refine cs_V (pc := 45) (idx := 109) (n := 1) (wr := [(wb 1, oR (wb 2) len), (wb 2, aZ ta 32 ge), (wb 5, oR (wb 6) len), (wb 6, aZ ta 32 gb9), (wb 15, oR (wb 16) 16), (wb 16, aZ ta 16 gh), (lg 5, oR (lg 6) nl), (lg 6, aZ ta 300 gl), (v 0, oV v), (v 1, oR (v 2) nt), (v 2, aZ ta 528 gt), (v 3, oR (v 4) nd), (v 4, aZ ta 300 gd), (v 5, oR (v 6) nk0), (v 6, aZ ta 16 gk0), (v 7, oR (v 8) nv), (v 8, aZ ta 16 gv), (v 9, oR (v 10) 16), (v 10, aZ ta 16 gz), (v 11, oA (v 12) (v 13) (v 14) (v 15) (v 16) (v 17) rd), (v 12, aZ ta 16 ab), (v 13, aZ ta 16 af), (v 14, aZ ta 256 UBOX), (v 15, aI ta 64 kw), (v 16, aI ta 4 sw), (v 17, aI ta 4 xw), (v 18, aZ ta 16 tn), (wb 0, oW wb 2 lv cnt true), (lg 1, oR (lg 2) nta), (lg 2, aZ ta 400 gta)]) (As := [.ref (yb 0)]) (rest := []) (ci := 7) hx hb hml hown hts hGok hK hA hG hl.1 hP hD hS (ct_X9_ruleOf_3 ll D ta gs lg ya yb wa wb o v ct yb ln  H.size) tw_489 tw_486 tw_488 tw_2 tw_65 hdX9_ruleOf rfl ⟨rfl, rfl, Nat.le_of_ble_eq_true rfl, Nat.le_of_ble_eq_true rfl, Nat.le_of_ble_eq_true rfl, Nat.le_of_ble_eq_true rfl⟩ rfl rfl (q0 := 0) rfl [0, 1] [2, 3, 4, 5, 6, 7, 8, 9, 10, 11, 12, 13, 14, 15, 16, 17, 18, 19, 20, 21, 22, 23, 24, 25, 26, 27, 28, 29, 30, 31] rfl rfl (by decide) rfl (Nat.le_of_ble_eq_true rfl) dX9_answer_45 (fun u H locs hq hP hD hS => ?_)
        refine W.eq (g2 := F0 mm 48 ls [.ref (v 0)]) rfl ?_
        have hP : va_P D vwCl [(wb 1, oR (wb 2) len), (wb 2, aZ ta 32 ge), (wb 5, oR (wb 6) len), (wb 6, aZ ta 32 gb9), (wb 15, oR (wb 16) 16), (wb 16, aZ ta 16 gh), (lg 5, oR (lg 6) nl), (lg 6, aZ ta 300 gl), (v 0, oV v), (v 1, oR (v 2) nt), (v 2, aZ ta 528 gt), (v 3, oR (v 4) nd), (v 4, aZ ta 300 gd), (v 5, oR (v 6) nk0), (v 6, aZ ta 16 gk0), (v 7, oR (v 8) nv), (v 8, aZ ta 16 gv), (v 9, oR (v 10) 16), (v 10, aZ ta 16 gz), (v 11, oA (v 12) (v 13) (v 14) (v 15) (v 16) (v 17) rd), (v 12, aZ ta 16 ab), (v 13, aZ ta 16 af), (v 14, aZ ta 256 UBOX), (v 15, aI ta 64 kw), (v 16, aI ta 4 sw), (v 17, aI ta 4 xw), (v 18, aZ ta 16 tn), (wb 0, oW wb 2 lv cnt true), (lg 1, oR (lg 2) nta), (lg 2, aZ ta 400 gta), (lg 0, oG lg ya yb wa wb o v ct), (yb 0, oK yb 3 ln)] H := hP
        have hD : va_D A [(wb 1, oR (wb 2) len), (wb 2, aZ ta 32 ge), (wb 5, oR (wb 6) len), (wb 6, aZ ta 32 gb9), (wb 15, oR (wb 16) 16), (wb 16, aZ ta 16 gh), (lg 5, oR (lg 6) nl), (lg 6, aZ ta 300 gl), (v 0, oV v), (v 1, oR (v 2) nt), (v 2, aZ ta 528 gt), (v 3, oR (v 4) nd), (v 4, aZ ta 300 gd), (v 5, oR (v 6) nk0), (v 6, aZ ta 16 gk0), (v 7, oR (v 8) nv), (v 8, aZ ta 16 gv), (v 9, oR (v 10) 16), (v 10, aZ ta 16 gz), (v 11, oA (v 12) (v 13) (v 14) (v 15) (v 16) (v 17) rd), (v 12, aZ ta 16 ab), (v 13, aZ ta 16 af), (v 14, aZ ta 256 UBOX), (v 15, aI ta 64 kw), (v 16, aI ta 4 sw), (v 17, aI ta 4 xw), (v 18, aZ ta 16 tn), (wb 0, oW wb 2 lv cnt true), (lg 1, oR (lg 2) nta), (lg 2, aZ ta 400 gta), (lg 0, oG lg ya yb wa wb o v ct), (yb 0, oK yb 3 ln)] := hD
        refine lv_aload_n (pc := 48) hx hb dX9_answer_48 rfl (lv_at hl 1 rfl) ?_
        refine va_get (pc := 49) (D := D) (ci := 7) (v := .ref (wb 0)) (C := RX9) (T := TX9) (N := 11) hx hb hts iu9 hown hK hP 30 rfl rfl 7 (by decide) (hts _ tw_359) (fun _ h9 => h9) rfl dX9_answer_49 ?_
        refine lv_aload_n (pc := 52) hx hb dX9_answer_52 rfl (lv_at hl 1 rfl) ?_
        refine va_get (pc := 53) (D := D) (ci := 7) (v := .ref (lg 1)) (C := RX9) (T := TX9) (N := 11) hx hb hts iu9 hown hK hP 30 rfl rfl 0 (by decide) (hts _ tw_352) (fun _ h9 => h9) rfl dX9_answer_53 ?_
        refine lv_iload_n (pc := 56) hx hb dX9_answer_56 rfl (lv_at hl 2 rfl) ?_
        refine lv_aload_n (pc := 57) hx hb dX9_answer_57 rfl (lv_at hl 1 rfl) ?_
        refine va_get (pc := 58) (D := D) (ci := 7) (v := .ref (lg 5)) (C := RX9) (T := TX9) (N := 11) hx hb hts iu9 hown hK hP 30 rfl rfl 2 (by decide) (hts _ tw_354) (fun _ h9 => h9) rfl dX9_answer_58 ?_
        refine cs_U (pc := 61) (idx := 190) (n := 4) (wr := [(lg 0, oG lg ya yb wa wb o v ct), (yb 0, oK yb 3 ln)]) (As := [.ref (wb 0), .ref (lg 1), .int (nI sw9), .ref (lg 5)]) (rest := []) (ci := 3) (x := ⟨"LineGuard$Rule", "secureAnswer", "(LLineGuard$Session;LLineGuard$Row;ILLineGuard$Row;)V"⟩) (owner := "LineGuard$Rule") hx hb hml hown hts hGok hK hA hG hl.1 hP hD hS (ct_X4_secureAnswer ll D ta gs v gz rd ab af kw sw xw tn wb 2 lv cnt true gt nt gd nd gk0 nk0 gv nv ge gb9 len gh (lg 1) (lg 2) 400 gta nta sw9 (lg 5) (lg 6) 300 gl nl (by first | assumption | omega | rfl | decide) (by first | assumption | omega | rfl | decide) (by first | assumption | omega | rfl | decide) (by first | assumption | omega | rfl | decide) (by first | assumption | omega | rfl | decide) (by first | assumption | omega | rfl | decide) (by first | assumption | omega | rfl | decide) H.size) tw_881 tw_876 tw_880 tw_879 tw_73 tw_878 (va_Decl.abs (GC_w877 hG)) ⟨by decide +kernel, by decide +kernel, by decide +kernel⟩ rfl ⟨rfl, rfl, Nat.le_of_ble_eq_true rfl, Nat.le_of_ble_eq_true rfl, Nat.le_of_ble_eq_true rfl, Nat.le_of_ble_eq_true rfl⟩ rfl (q0 := 8) rfl [8, 9, 10, 11, 12, 13, 14, 15, 16, 17, 18, 19, 20, 21, 22, 23, 24, 25, 26, 27, 0, 1, 2, 3, 4, 5, 28, 29, 6, 7] [30, 31] rfl rfl (by decide) rfl (Nat.le_of_ble_eq_true rfl) dX9_answer_61 (fun u H locs hq hP hD hS => ?_)
        obtain ⟨gt1_61, nt1_61, gd1_61, nd1_61, gk1_61, nk1_61, gv1_61, nv1_61, rd1_61, ab1_61, af1_61, kw1_61, sw1_61, xw1_61, tn1_61, gl1_61, nl1_61⟩ := u
        have hq : (qL gl1_61 nl1_61 = ansD3 (qL ge len) cnt lv (qL gta nta) ++ (ansCode3 (qL gb9 len) (qL gh 16) (ansD3 (qL ge len) cnt lv (qL gta nta)) sw9).take 8) ∧ (nl1_61 = (ansD3 (qL ge len) cnt lv (qL gta nta)).length + 8 ∧ nl1_61 ≤ 216) := hq
        obtain ⟨hl9_61, hnl_61⟩ := hq
        refine W.eq (g2 := F0 mm 64 ls []) rfl ?_
        have hP : va_P D vwCl [(lg 0, oG lg ya yb wa wb o v ct), (yb 0, oK yb 3 ln), (v 0, oV v), (v 1, oR (v 2) nt1_61), (v 2, aZ ta 528 gt1_61), (v 3, oR (v 4) nd1_61), (v 4, aZ ta 300 gd1_61), (v 5, oR (v 6) nk1_61), (v 6, aZ ta 16 gk1_61), (v 7, oR (v 8) nv1_61), (v 8, aZ ta 16 gv1_61), (v 9, oR (v 10) 16), (v 10, aZ ta 16 gz), (v 11, oA (v 12) (v 13) (v 14) (v 15) (v 16) (v 17) rd1_61), (v 12, aZ ta 16 ab1_61), (v 13, aZ ta 16 af1_61), (v 14, aZ ta 256 UBOX), (v 15, aI ta 64 kw1_61), (v 16, aI ta 4 sw1_61), (v 17, aI ta 4 xw1_61), (v 18, aZ ta 16 tn1_61), (wb 0, oW wb 2 lv cnt true), (wb 1, oR (wb 2) len), (wb 2, aZ ta 32 ge), (wb 5, oR (wb 6) len), (wb 6, aZ ta 32 gb9), (wb 15, oR (wb 16) 16), (wb 16, aZ ta 16 gh), (lg 1, oR (lg 2) nta), (lg 2, aZ ta 400 gta), (lg 5, oR (lg 6) nl1_61), (lg 6, aZ ta 300 gl1_61)] H := hP
        have hD : va_D A [(lg 0, oG lg ya yb wa wb o v ct), (yb 0, oK yb 3 ln), (v 0, oV v), (v 1, oR (v 2) nt1_61), (v 2, aZ ta 528 gt1_61), (v 3, oR (v 4) nd1_61), (v 4, aZ ta 300 gd1_61), (v 5, oR (v 6) nk1_61), (v 6, aZ ta 16 gk1_61), (v 7, oR (v 8) nv1_61), (v 8, aZ ta 16 gv1_61), (v 9, oR (v 10) 16), (v 10, aZ ta 16 gz), (v 11, oA (v 12) (v 13) (v 14) (v 15) (v 16) (v 17) rd1_61), (v 12, aZ ta 16 ab1_61), (v 13, aZ ta 16 af1_61), (v 14, aZ ta 256 UBOX), (v 15, aI ta 64 kw1_61), (v 16, aI ta 4 sw1_61), (v 17, aI ta 4 xw1_61), (v 18, aZ ta 16 tn1_61), (wb 0, oW wb 2 lv cnt true), (wb 1, oR (wb 2) len), (wb 2, aZ ta 32 ge), (wb 5, oR (wb 6) len), (wb 6, aZ ta 32 gb9), (wb 15, oR (wb 16) 16), (wb 16, aZ ta 16 gh), (lg 1, oR (lg 2) nta), (lg 2, aZ ta 400 gta), (lg 5, oR (lg 6) nl1_61), (lg 6, aZ ta 300 gl1_61)] := hD
        refine lv_aload_n (pc := 64) hx hb dX9_answer_64 rfl (lv_at hl 1 rfl) ?_
        refine va_get (pc := 65) (D := D) (ci := 7) (v := .ref (lg 1)) (C := RX9) (T := TX9) (N := 11) hx hb hts iu9 hown hK hP 0 rfl rfl 0 (by decide) (hts _ tw_352) (fun _ h9 => h9) rfl dX9_answer_65 ?_
        refine cs_V (pc := 68) (idx := 88) (n := 0) (wr := [(lg 0, oG lg ya yb wa wb o v ct), (yb 0, oK yb 3 ln), (v 0, oV v), (v 1, oR (v 2) nt1_61), (v 2, aZ ta 528 gt1_61), (v 3, oR (v 4) nd1_61), (v 4, aZ ta 300 gd1_61), (v 5, oR (v 6) nk1_61), (v 6, aZ ta 16 gk1_61), (v 7, oR (v 8) nv1_61), (v 8, aZ ta 16 gv1_61), (v 9, oR (v 10) 16), (v 10, aZ ta 16 gz), (v 11, oA (v 12) (v 13) (v 14) (v 15) (v 16) (v 17) rd1_61), (v 12, aZ ta 16 ab1_61), (v 13, aZ ta 16 af1_61), (v 14, aZ ta 256 UBOX), (v 15, aI ta 64 kw1_61), (v 16, aI ta 4 sw1_61), (v 17, aI ta 4 xw1_61), (v 18, aZ ta 16 tn1_61), (wb 0, oW wb 2 lv cnt true), (wb 1, oR (wb 2) len), (wb 2, aZ ta 32 ge), (wb 5, oR (wb 6) len), (wb 6, aZ ta 32 gb9), (wb 15, oR (wb 16) 16), (wb 16, aZ ta 16 gh), (lg 5, oR (lg 6) nl1_61), (lg 6, aZ ta 300 gl1_61)]) (As := []) (rest := []) (ci := 5) hx hb hml hown hts hGok hK hA hG hl.1 hP hD hS (ct_X6_clear ll D ta hGok (lg 1) (lg 2) 400 gta nta  H.size) tw_441 tw_447 tw_439 tw_440 tw_66 hdX6_clear rfl ⟨rfl, rfl, Nat.le_of_ble_eq_true rfl, Nat.le_of_ble_eq_true rfl, Nat.le_of_ble_eq_true rfl, Nat.le_of_ble_eq_true rfl⟩ rfl rfl (q0 := 28) rfl [28, 29] [0, 1, 2, 3, 4, 5, 6, 7, 8, 9, 10, 11, 12, 13, 14, 15, 16, 17, 18, 19, 20, 21, 22, 23, 24, 25, 26, 27, 30, 31] rfl rfl (by decide) rfl (Nat.le_of_ble_eq_true rfl) dX9_answer_68 (fun u H locs hq hP hD hS => ?_)
        refine W.eq (g2 := F0 mm 71 ls []) rfl ?_
        have hP : va_P D vwCl [(lg 0, oG lg ya yb wa wb o v ct), (yb 0, oK yb 3 ln), (v 0, oV v), (v 1, oR (v 2) nt1_61), (v 2, aZ ta 528 gt1_61), (v 3, oR (v 4) nd1_61), (v 4, aZ ta 300 gd1_61), (v 5, oR (v 6) nk1_61), (v 6, aZ ta 16 gk1_61), (v 7, oR (v 8) nv1_61), (v 8, aZ ta 16 gv1_61), (v 9, oR (v 10) 16), (v 10, aZ ta 16 gz), (v 11, oA (v 12) (v 13) (v 14) (v 15) (v 16) (v 17) rd1_61), (v 12, aZ ta 16 ab1_61), (v 13, aZ ta 16 af1_61), (v 14, aZ ta 256 UBOX), (v 15, aI ta 64 kw1_61), (v 16, aI ta 4 sw1_61), (v 17, aI ta 4 xw1_61), (v 18, aZ ta 16 tn1_61), (wb 0, oW wb 2 lv cnt true), (wb 1, oR (wb 2) len), (wb 2, aZ ta 32 ge), (wb 5, oR (wb 6) len), (wb 6, aZ ta 32 gb9), (wb 15, oR (wb 16) 16), (wb 16, aZ ta 16 gh), (lg 5, oR (lg 6) nl1_61), (lg 6, aZ ta 300 gl1_61), (lg 1, oR (lg 2) 0), (lg 2, aZ ta 400 gta)] H := hP
        have hD : va_D A [(lg 0, oG lg ya yb wa wb o v ct), (yb 0, oK yb 3 ln), (v 0, oV v), (v 1, oR (v 2) nt1_61), (v 2, aZ ta 528 gt1_61), (v 3, oR (v 4) nd1_61), (v 4, aZ ta 300 gd1_61), (v 5, oR (v 6) nk1_61), (v 6, aZ ta 16 gk1_61), (v 7, oR (v 8) nv1_61), (v 8, aZ ta 16 gv1_61), (v 9, oR (v 10) 16), (v 10, aZ ta 16 gz), (v 11, oA (v 12) (v 13) (v 14) (v 15) (v 16) (v 17) rd1_61), (v 12, aZ ta 16 ab1_61), (v 13, aZ ta 16 af1_61), (v 14, aZ ta 256 UBOX), (v 15, aI ta 64 kw1_61), (v 16, aI ta 4 sw1_61), (v 17, aI ta 4 xw1_61), (v 18, aZ ta 16 tn1_61), (wb 0, oW wb 2 lv cnt true), (wb 1, oR (wb 2) len), (wb 2, aZ ta 32 ge), (wb 5, oR (wb 6) len), (wb 6, aZ ta 32 gb9), (wb 15, oR (wb 16) 16), (wb 16, aZ ta 16 gh), (lg 5, oR (lg 6) nl1_61), (lg 6, aZ ta 300 gl1_61), (lg 1, oR (lg 2) 0), (lg 2, aZ ta 400 gta)] := hD
        refine lv_iload_n (pc := 71) hx hb dX9_answer_71 rfl (lv_at hl 0 rfl) ?_
        refine lv_if_eq (pc := 72) (tgt := 85) hx hb dX9_answer_72 (by decide) (fun c_5 => absurd c_5 (by decide)) (fun _ => ?_)
        refine lv_aload_n (pc := 75) hx hb dX9_answer_75 rfl (lv_at hl 1 rfl) ?_
        refine va_get (pc := 76) (D := D) (ci := 7) (v := .ref (lg 5)) (C := RX9) (T := TX9) (N := 11) hx hb hts iu9 hown hK hP 0 rfl rfl 2 (by decide) (hts _ tw_354) (fun _ h9 => h9) rfl dX9_answer_76 ?_
        refine cs_V (pc := 79) (idx := 64) (n := 0) (wr := [(lg 0, oG lg ya yb wa wb o v ct), (yb 0, oK yb 3 ln), (v 0, oV v), (v 1, oR (v 2) nt1_61), (v 2, aZ ta 528 gt1_61), (v 3, oR (v 4) nd1_61), (v 4, aZ ta 300 gd1_61), (v 5, oR (v 6) nk1_61), (v 6, aZ ta 16 gk1_61), (v 7, oR (v 8) nv1_61), (v 8, aZ ta 16 gv1_61), (v 9, oR (v 10) 16), (v 10, aZ ta 16 gz), (v 11, oA (v 12) (v 13) (v 14) (v 15) (v 16) (v 17) rd1_61), (v 12, aZ ta 16 ab1_61), (v 13, aZ ta 16 af1_61), (v 14, aZ ta 256 UBOX), (v 15, aI ta 64 kw1_61), (v 16, aI ta 4 sw1_61), (v 17, aI ta 4 xw1_61), (v 18, aZ ta 16 tn1_61), (wb 0, oW wb 2 lv cnt true), (wb 1, oR (wb 2) len), (wb 2, aZ ta 32 ge), (wb 5, oR (wb 6) len), (wb 6, aZ ta 32 gb9), (wb 15, oR (wb 16) 16), (wb 16, aZ ta 16 gh), (lg 1, oR (lg 2) 0), (lg 2, aZ ta 400 gta)]) (As := []) (rest := []) (ci := 5) hx hb hml hown hts hGok hK hA hG hl.1 hP hD hS (ct_X6_size ll D ta hGok (lg 5) (lg 6) 300 gl1_61 nl1_61  H.size) tw_393 tw_390 tw_391 tw_392 tw_66 hdX6_size rfl ⟨rfl, rfl, Nat.le_of_ble_eq_true rfl, Nat.le_of_ble_eq_true rfl, Nat.le_of_ble_eq_true rfl, Nat.le_of_ble_eq_true rfl⟩ rfl rfl (q0 := 28) rfl [28, 29] [0, 1, 2, 3, 4, 5, 6, 7, 8, 9, 10, 11, 12, 13, 14, 15, 16, 17, 18, 19, 20, 21, 22, 23, 24, 25, 26, 27, 30, 31] rfl rfl (by decide) rfl (Nat.le_of_ble_eq_true rfl) dX9_answer_79 (fun u H locs hq hP hD hS => ?_)
        refine W.eq (g2 := F0 mm 82 ls [.int (nI nl1_61)]) rfl ?_
        have hP : va_P D vwCl [(lg 0, oG lg ya yb wa wb o v ct), (yb 0, oK yb 3 ln), (v 0, oV v), (v 1, oR (v 2) nt1_61), (v 2, aZ ta 528 gt1_61), (v 3, oR (v 4) nd1_61), (v 4, aZ ta 300 gd1_61), (v 5, oR (v 6) nk1_61), (v 6, aZ ta 16 gk1_61), (v 7, oR (v 8) nv1_61), (v 8, aZ ta 16 gv1_61), (v 9, oR (v 10) 16), (v 10, aZ ta 16 gz), (v 11, oA (v 12) (v 13) (v 14) (v 15) (v 16) (v 17) rd1_61), (v 12, aZ ta 16 ab1_61), (v 13, aZ ta 16 af1_61), (v 14, aZ ta 256 UBOX), (v 15, aI ta 64 kw1_61), (v 16, aI ta 4 sw1_61), (v 17, aI ta 4 xw1_61), (v 18, aZ ta 16 tn1_61), (wb 0, oW wb 2 lv cnt true), (wb 1, oR (wb 2) len), (wb 2, aZ ta 32 ge), (wb 5, oR (wb 6) len), (wb 6, aZ ta 32 gb9), (wb 15, oR (wb 16) 16), (wb 16, aZ ta 16 gh), (lg 1, oR (lg 2) 0), (lg 2, aZ ta 400 gta), (lg 5, oR (lg 6) nl1_61), (lg 6, aZ ta 300 gl1_61)] H := hP
        have hD : va_D A [(lg 0, oG lg ya yb wa wb o v ct), (yb 0, oK yb 3 ln), (v 0, oV v), (v 1, oR (v 2) nt1_61), (v 2, aZ ta 528 gt1_61), (v 3, oR (v 4) nd1_61), (v 4, aZ ta 300 gd1_61), (v 5, oR (v 6) nk1_61), (v 6, aZ ta 16 gk1_61), (v 7, oR (v 8) nv1_61), (v 8, aZ ta 16 gv1_61), (v 9, oR (v 10) 16), (v 10, aZ ta 16 gz), (v 11, oA (v 12) (v 13) (v 14) (v 15) (v 16) (v 17) rd1_61), (v 12, aZ ta 16 ab1_61), (v 13, aZ ta 16 af1_61), (v 14, aZ ta 256 UBOX), (v 15, aI ta 64 kw1_61), (v 16, aI ta 4 sw1_61), (v 17, aI ta 4 xw1_61), (v 18, aZ ta 16 tn1_61), (wb 0, oW wb 2 lv cnt true), (wb 1, oR (wb 2) len), (wb 2, aZ ta 32 ge), (wb 5, oR (wb 6) len), (wb 6, aZ ta 32 gb9), (wb 15, oR (wb 16) 16), (wb 16, aZ ta 16 gh), (lg 1, oR (lg 2) 0), (lg 2, aZ ta 400 gta), (lg 5, oR (lg 6) nl1_61), (lg 6, aZ ta 300 gl1_61)] := hD
        refine lv_goto (pc := 82) (tgt := 86) hx hb dX9_answer_82 (by decide) ?_
        have hq_6 : (qL gl1_61 nl1_61 = (ansD3 (qL ge len) cnt lv (qL gta nta)) ++ (ansCode3 (qL gb9 len) (qL gh 16) (ansD3 (qL ge len) cnt lv (qL gta nta)) sw9).take 8) ∧ (nl1_61 = (ansD3 (qL ge len) cnt lv (qL gta nta)).length + 8 ∧ nl1_61 ≤ 216) := by
          exact ⟨hl9_61, hnl_61⟩
        exact hret (⟨(gt1_61), (nt1_61), (gd1_61), (nd1_61), (gk1_61), (nk1_61), (gv1_61), (nv1_61), (rd1_61), (ab1_61), (af1_61), (kw1_61), (sw1_61), (xw1_61), (tn1_61), (gl1_61), (nl1_61)⟩ : (Nat → BitVec 8) × Nat × (Nat → BitVec 8) × Nat × (Nat → BitVec 8) × Nat × (Nat → BitVec 8) × Nat × Nat × (Nat → BitVec 8) × (Nat → BitVec 8) × (Nat → Int32) × (Nat → Int32) × (Nat → Int32) × (Nat → BitVec 8) × (Nat → BitVec 8) × Nat) _ _ _ _ dX9_answer_86 hq_6 (hP.sub [0, 1, 21, 22, 23, 24, 25, 26, 27, 28, 29, 30, 31, 2, 3, 4, 5, 6, 7, 8, 9, 10, 11, 12, 13, 14, 15, 16, 17, 18, 19, 20] rfl) (hD.sub [0, 1, 21, 22, 23, 24, 25, 26, 27, 28, 29, 30, 31, 2, 3, 4, 5, 6, 7, 8, 9, 10, 11, 12, 13, 14, 15, 16, 17, 18, 19, 20] (by decide) rfl) hS
set_option maxHeartbeats 4000000 in
set_option maxRecDepth 100000 in
theorem ct_X9_accept_N (ll : Launch) (D : va_G) (ta : Nat → ClassId) (gs : Nat → Nat) (lg : Nat → Nat) (ya : Nat → Nat) (yb : Nat → Nat) (wa : Nat → Nat) (wb : Nat → Nat) (o : Nat → Nat) (v : Nat → Nat) (ct : Nat) (gz : Nat → BitVec 8) (rd : Nat) (ab : Nat → BitVec 8) (af : Nat → BitVec 8) (kw : Nat → Int32) (sw : Nat → Int32) (xw : Nat → Int32) (tn : Nat → BitVec 8) (gt : Nat → BitVec 8) (nt : Nat) (gd : Nat → BitVec 8) (nd : Nat) (gk0 : Nat → BitVec 8) (nk0 : Nat) (gv : Nat → BitVec 8) (nv : Nat) (ge : Nat → BitVec 8) (gb9 : Nat → BitVec 8) (len : Nat) (gh : Nat → BitVec 8) (gl : Nat → BitVec 8) (nl : Nat) (gou : Nat → BitVec 8) (nou : Nat) (lv : Nat) (cnt : Nat) (ln : Nat) (sw9 : Nat) (hz : qL gz 16 = zeroL 16) (hln : len = 16 ∨ len = 24 ∨ len = 32) (hcnt : cnt < 2147483648) (hsw : sw9 < 65536) (hlv : lv < 256) (hl16 : lv &&& 16 ≠ 0) (hli : nl ≤ 300) (hou : nou ≤ 400) (sz : Nat) : CT ll yX9_accept cX9_accept 3 (some .int) ({ frames := 6, cells := 0, slots := 0, locals := 151 } : Room) D ta ((GC gs)) [.ref (lg 0), .int (nI sw9)] [(lg 0, oG lg ya yb wa wb o v ct), (ya 0, oK ya 3 ln), (wa 0, oW wa 2 lv cnt true), (wa 1, oR (wa 2) len), (wa 2, aZ ta 32 ge), (wa 5, oR (wa 6) len), (wa 6, aZ ta 32 gb9), (wa 15, oR (wa 16) 16), (wa 16, aZ ta 16 gh), (lg 5, oR (lg 6) nl), (lg 6, aZ ta 300 gl), (lg 3, oR (lg 4) nou), (lg 4, aZ ta 400 gou), (v 0, oV v), (v 1, oR (v 2) nt), (v 2, aZ ta 528 gt), (v 3, oR (v 4) nd), (v 4, aZ ta 300 gd), (v 5, oR (v 6) nk0), (v 6, aZ ta 16 gk0), (v 7, oR (v 8) nv), (v 8, aZ ta 16 gv), (v 9, oR (v 10) 16), (v 10, aZ ta 16 gz), (v 11, oA (v 12) (v 13) (v 14) (v 15) (v 16) (v 17) rd), (v 12, aZ ta 16 ab), (v 13, aZ ta 16 af), (v 14, aZ ta 256 UBOX), (v 15, aI ta 64 kw), (v 16, aI ta 4 sw), (v 17, aI ta 4 xw), (v 18, aZ ta 16 tn)] sz (S := Bool × (Nat → BitVec 8) × Nat × (Nat → BitVec 8) × Nat × (Nat → BitVec 8) × Nat × (Nat → BitVec 8) × Nat × Nat × (Nat → BitVec 8) × (Nat → BitVec 8) × (Nat → Int32) × (Nat → Int32) × (Nat → Int32) × (Nat → BitVec 8) × (Nat → BitVec 8) × Nat) (fun u => some (.int (qb u.1))) (fun u => (openA3 (qL ge len) (qL gb9 len) cnt lv (qL gh 16) (qL gl nl) sw9 = if u.1 then some (qL u.2.2.2.2.2.2.2.2.2.2.2.2.2.2.2.2.1 u.2.2.2.2.2.2.2.2.2.2.2.2.2.2.2.2.2) else none) ∧ (u.1 = false → u.2.2.2.2.2.2.2.2.2.2.2.2.2.2.2.2.1 = gou ∧ u.2.2.2.2.2.2.2.2.2.2.2.2.2.2.2.2.2 = nou) ∧ (u.1 = true → u.2.2.2.2.2.2.2.2.2.2.2.2.2.2.2.2.2 ≤ 292)) (fun u => [(lg 0, oG lg ya yb wa wb o v ct), (ya 0, oK ya 3 ln), (wa 0, oW wa 2 lv cnt true), (wa 1, oR (wa 2) len), (wa 2, aZ ta 32 ge), (wa 5, oR (wa 6) len), (wa 6, aZ ta 32 gb9), (wa 15, oR (wa 16) 16), (wa 16, aZ ta 16 gh), (lg 5, oR (lg 6) 0), (lg 6, aZ ta 300 gl), (lg 3, oR (lg 4) u.2.2.2.2.2.2.2.2.2.2.2.2.2.2.2.2.2), (lg 4, aZ ta 400 u.2.2.2.2.2.2.2.2.2.2.2.2.2.2.2.2.1), (v 0, oV v), (v 1, oR (v 2) u.2.2.1), (v 2, aZ ta 528 u.2.1), (v 3, oR (v 4) u.2.2.2.2.1), (v 4, aZ ta 300 u.2.2.2.1), (v 5, oR (v 6) u.2.2.2.2.2.2.1), (v 6, aZ ta 16 u.2.2.2.2.2.1), (v 7, oR (v 8) u.2.2.2.2.2.2.2.2.1), (v 8, aZ ta 16 u.2.2.2.2.2.2.2.1), (v 9, oR (v 10) 16), (v 10, aZ ta 16 gz), (v 11, oA (v 12) (v 13) (v 14) (v 15) (v 16) (v 17) u.2.2.2.2.2.2.2.2.2.1), (v 12, aZ ta 16 u.2.2.2.2.2.2.2.2.2.2.1), (v 13, aZ ta 16 u.2.2.2.2.2.2.2.2.2.2.2.1), (v 14, aZ ta 256 UBOX), (v 15, aI ta 64 u.2.2.2.2.2.2.2.2.2.2.2.2.1), (v 16, aI ta 4 u.2.2.2.2.2.2.2.2.2.2.2.2.2.1), (v 17, aI ta 4 u.2.2.2.2.2.2.2.2.2.2.2.2.2.2.1), (v 18, aZ ta 16 u.2.2.2.2.2.2.2.2.2.2.2.2.2.2.2.1)]) 0 0 := by
  refine CT.of_i (r := fun u => qb u.1) rfl (by decide) (Nat.le_of_ble_eq_true rfl) ?_
  have hGok := GC_ok gs
  intro pp ee ss mm below meth kc A Q hx hb hml hown hin hts hK hA hsz hG hret H locs hP hD hS ls hl
  have hl : lv_has ls 3 [(0, .ref (lg 0)), (1, .int (nI sw9))] := hl
  refine lv_aload_n (pc := 0) hx hb dX9_accept_0 rfl (lv_at hl 0 rfl) ?_
  refine va_get (pc := 1) (D := D) (ci := 7) (v := .ref (wa 0)) (C := RX9) (T := TX9) (N := 11) hx hb hts iu9 hown hK hP 0 rfl rfl 6 (by decide) (hts _ tw_358) (fun _ h9 => h9) rfl dX9_accept_1 ?_
  refine cs_V (pc := 4) (idx := 183) (n := 0) (wr := [(lg 0, oG lg ya yb wa wb o v ct), (ya 0, oK ya 3 ln), (wa 1, oR (wa 2) len), (wa 2, aZ ta 32 ge), (wa 5, oR (wa 6) len), (wa 6, aZ ta 32 gb9), (wa 15, oR (wa 16) 16), (wa 16, aZ ta 16 gh), (lg 5, oR (lg 6) nl), (lg 6, aZ ta 300 gl), (lg 3, oR (lg 4) nou), (lg 4, aZ ta 400 gou), (v 0, oV v), (v 1, oR (v 2) nt), (v 2, aZ ta 528 gt), (v 3, oR (v 4) nd), (v 4, aZ ta 300 gd), (v 5, oR (v 6) nk0), (v 6, aZ ta 16 gk0), (v 7, oR (v 8) nv), (v 8, aZ ta 16 gv), (v 9, oR (v 10) 16), (v 10, aZ ta 16 gz), (v 11, oA (v 12) (v 13) (v 14) (v 15) (v 16) (v 17) rd), (v 12, aZ ta 16 ab), (v 13, aZ ta 16 af), (v 14, aZ ta 256 UBOX), (v 15, aI ta 64 kw), (v 16, aI ta 4 sw), (v 17, aI ta 4 xw), (v 18, aZ ta 16 tn)]) (As := []) (rest := []) (ci := 6) hx hb hml hown hts hGok hK hA hG hl.1 hP hD hS (ct_X8_isAnswerable ll D ta gs wa 2 lv cnt true (by first | assumption | omega | rfl | decide) (by first | assumption | omega | rfl | decide) H.size) tw_870 tw_867 tw_868 tw_869 tw_68 hdX8_isAnswerable rfl ⟨rfl, rfl, Nat.le_of_ble_eq_true rfl, Nat.le_of_ble_eq_true rfl, Nat.le_of_ble_eq_true rfl, Nat.le_of_ble_eq_true rfl⟩ rfl rfl (q0 := 2) rfl [2] [0, 1, 3, 4, 5, 6, 7, 8, 9, 10, 11, 12, 13, 14, 15, 16, 17, 18, 19, 20, 21, 22, 23, 24, 25, 26, 27, 28, 29, 30, 31] rfl rfl (by decide) rfl (Nat.le_of_ble_eq_true rfl) dX9_accept_4 (fun u H locs hq hP hD hS => ?_)
  generalize u = z_4 at hq hP hD ⊢
  have hq : (z_4 = decide (2 = 2 ∧ lv &&& 16 ≠ 0 ∧ true = true)) := hq
  have hz_4 := hq
  refine W.eq (g2 := F0 mm 7 ls [.int (qb z_4)]) rfl ?_
  have hP : va_P D vwCl [(lg 0, oG lg ya yb wa wb o v ct), (ya 0, oK ya 3 ln), (wa 1, oR (wa 2) len), (wa 2, aZ ta 32 ge), (wa 5, oR (wa 6) len), (wa 6, aZ ta 32 gb9), (wa 15, oR (wa 16) 16), (wa 16, aZ ta 16 gh), (lg 5, oR (lg 6) nl), (lg 6, aZ ta 300 gl), (lg 3, oR (lg 4) nou), (lg 4, aZ ta 400 gou), (v 0, oV v), (v 1, oR (v 2) nt), (v 2, aZ ta 528 gt), (v 3, oR (v 4) nd), (v 4, aZ ta 300 gd), (v 5, oR (v 6) nk0), (v 6, aZ ta 16 gk0), (v 7, oR (v 8) nv), (v 8, aZ ta 16 gv), (v 9, oR (v 10) 16), (v 10, aZ ta 16 gz), (v 11, oA (v 12) (v 13) (v 14) (v 15) (v 16) (v 17) rd), (v 12, aZ ta 16 ab), (v 13, aZ ta 16 af), (v 14, aZ ta 256 UBOX), (v 15, aI ta 64 kw), (v 16, aI ta 4 sw), (v 17, aI ta 4 xw), (v 18, aZ ta 16 tn), (wa 0, oW wa 2 lv cnt true)] H := hP
  have hD : va_D A [(lg 0, oG lg ya yb wa wb o v ct), (ya 0, oK ya 3 ln), (wa 1, oR (wa 2) len), (wa 2, aZ ta 32 ge), (wa 5, oR (wa 6) len), (wa 6, aZ ta 32 gb9), (wa 15, oR (wa 16) 16), (wa 16, aZ ta 16 gh), (lg 5, oR (lg 6) nl), (lg 6, aZ ta 300 gl), (lg 3, oR (lg 4) nou), (lg 4, aZ ta 400 gou), (v 0, oV v), (v 1, oR (v 2) nt), (v 2, aZ ta 528 gt), (v 3, oR (v 4) nd), (v 4, aZ ta 300 gd), (v 5, oR (v 6) nk0), (v 6, aZ ta 16 gk0), (v 7, oR (v 8) nv), (v 8, aZ ta 16 gv), (v 9, oR (v 10) 16), (v 10, aZ ta 16 gz), (v 11, oA (v 12) (v 13) (v 14) (v 15) (v 16) (v 17) rd), (v 12, aZ ta 16 ab), (v 13, aZ ta 16 af), (v 14, aZ ta 256 UBOX), (v 15, aI ta 64 kw), (v 16, aI ta 4 sw), (v 17, aI ta 4 xw), (v 18, aZ ta 16 tn), (wa 0, oW wa 2 lv cnt true)] := hD
  refine lv_if_eq (pc := 7) (tgt := 17) hx hb dX9_accept_7 (by decide) (fun c_1 => ?_) (fun c_1 => ?_)
  · skip
    rw [q_beq] at c_1
    try rw [Bool.not_eq_false] at c_1
    rw [hz_4, decide_eq_true ⟨rfl, hl16, rfl⟩] at c_1; cases c_1
  · skip
    rw [q_beq] at c_1
    try rw [Bool.not_eq_false] at c_1
    refine lv_iload_n (pc := 10) hx hb dX9_accept_10 rfl (lv_at hl 1 rfl) ?_
    refine cs_S (pc := 11) (idx := 187) (n := 1) (wr := [(lg 0, oG lg ya yb wa wb o v ct), (ya 0, oK ya 3 ln), (wa 1, oR (wa 2) len), (wa 2, aZ ta 32 ge), (wa 5, oR (wa 6) len), (wa 6, aZ ta 32 gb9), (wa 15, oR (wa 16) 16), (wa 16, aZ ta 16 gh), (lg 5, oR (lg 6) nl), (lg 6, aZ ta 300 gl), (lg 3, oR (lg 4) nou), (lg 4, aZ ta 400 gou), (v 0, oV v), (v 1, oR (v 2) nt), (v 2, aZ ta 528 gt), (v 3, oR (v 4) nd), (v 4, aZ ta 300 gd), (v 5, oR (v 6) nk0), (v 6, aZ ta 16 gk0), (v 7, oR (v 8) nv), (v 8, aZ ta 16 gv), (v 9, oR (v 10) 16), (v 10, aZ ta 16 gz), (v 11, oA (v 12) (v 13) (v 14) (v 15) (v 16) (v 17) rd), (v 12, aZ ta 16 ab), (v 13, aZ ta 16 af), (v 14, aZ ta 256 UBOX), (v 15, aI ta 64 kw), (v 16, aI ta 4 sw), (v 17, aI ta 4 xw), (v 18, aZ ta 16 tn), (wa 0, oW wa 2 lv cnt true)]) (As := [.int (nI sw9)]) (rest := []) hx hb hml hown hts hGok hK hA hG hl.1 hP hD hS (ct_X9_isSw ll D ta hGok (nI sw9)  H.size) tw_874 tw_872 tw_873 tw_65 hdX9_isSw rfl ⟨rfl, rfl, Nat.le_of_ble_eq_true rfl, Nat.le_of_ble_eq_true rfl, Nat.le_of_ble_eq_true rfl, Nat.le_of_ble_eq_true rfl⟩ [] [0, 1, 2, 3, 4, 5, 6, 7, 8, 9, 10, 11, 12, 13, 14, 15, 16, 17, 18, 19, 20, 21, 22, 23, 24, 25, 26, 27, 28, 29, 30, 31] rfl rfl (by decide) rfl (Nat.le_of_ble_eq_true rfl) dX9_accept_11 (fun u H locs hq hP hD hS => ?_)
    generalize u = z_11 at hq hP hD ⊢
    have hq : (z_11 = swB (nI sw9)) := hq
    have hz_11 := hq
    refine W.eq (g2 := F0 mm 14 ls [.int (qb z_11)]) rfl ?_
    have hP : va_P D vwCl [(lg 0, oG lg ya yb wa wb o v ct), (ya 0, oK ya 3 ln), (wa 1, oR (wa 2) len), (wa 2, aZ ta 32 ge), (wa 5, oR (wa 6) len), (wa 6, aZ ta 32 gb9), (wa 15, oR (wa 16) 16), (wa 16, aZ ta 16 gh), (lg 5, oR (lg 6) nl), (lg 6, aZ ta 300 gl), (lg 3, oR (lg 4) nou), (lg 4, aZ ta 400 gou), (v 0, oV v), (v 1, oR (v 2) nt), (v 2, aZ ta 528 gt), (v 3, oR (v 4) nd), (v 4, aZ ta 300 gd), (v 5, oR (v 6) nk0), (v 6, aZ ta 16 gk0), (v 7, oR (v 8) nv), (v 8, aZ ta 16 gv), (v 9, oR (v 10) 16), (v 10, aZ ta 16 gz), (v 11, oA (v 12) (v 13) (v 14) (v 15) (v 16) (v 17) rd), (v 12, aZ ta 16 ab), (v 13, aZ ta 16 af), (v 14, aZ ta 256 UBOX), (v 15, aI ta 64 kw), (v 16, aI ta 4 sw), (v 17, aI ta 4 xw), (v 18, aZ ta 16 tn), (wa 0, oW wa 2 lv cnt true)] H := hP
    have hD : va_D A [(lg 0, oG lg ya yb wa wb o v ct), (ya 0, oK ya 3 ln), (wa 1, oR (wa 2) len), (wa 2, aZ ta 32 ge), (wa 5, oR (wa 6) len), (wa 6, aZ ta 32 gb9), (wa 15, oR (wa 16) 16), (wa 16, aZ ta 16 gh), (lg 5, oR (lg 6) nl), (lg 6, aZ ta 300 gl), (lg 3, oR (lg 4) nou), (lg 4, aZ ta 400 gou), (v 0, oV v), (v 1, oR (v 2) nt), (v 2, aZ ta 528 gt), (v 3, oR (v 4) nd), (v 4, aZ ta 300 gd), (v 5, oR (v 6) nk0), (v 6, aZ ta 16 gk0), (v 7, oR (v 8) nv), (v 8, aZ ta 16 gv), (v 9, oR (v 10) 16), (v 10, aZ ta 16 gz), (v 11, oA (v 12) (v 13) (v 14) (v 15) (v 16) (v 17) rd), (v 12, aZ ta 16 ab), (v 13, aZ ta 16 af), (v 14, aZ ta 256 UBOX), (v 15, aI ta 64 kw), (v 16, aI ta 4 sw), (v 17, aI ta 4 xw), (v 18, aZ ta 16 tn), (wa 0, oW wa 2 lv cnt true)] := hD
    refine lv_if_ne (pc := 14) (tgt := 19) hx hb dX9_accept_14 (by decide) (fun c_2 => ?_) (fun c_2 => ?_)
    · skip
      rw [q_beq] at c_2
      try rw [Bool.not_eq_false] at c_2
      refine lv_aload_n (pc := 19) hx hb dX9_accept_19 rfl (lv_at hl 0 rfl) ?_
      refine lv_aload_n (pc := 20) hx hb dX9_accept_20 rfl (lv_at hl 0 rfl) ?_
      refine va_get (pc := 21) (D := D) (ci := 7) (v := .ref (ya 0)) (C := RX9) (T := TX9) (N := 11) hx hb hts iu9 hown hK hP 0 rfl rfl 4 (by decide) (hts _ tw_356) (fun _ h9 => h9) rfl dX9_accept_21 ?_
      refine cs_V (pc := 24) (idx := 109) (n := 1) (wr := [(wa 1, oR (wa 2) len), (wa 2, aZ ta 32 ge), (wa 5, oR (wa 6) len), (wa 6, aZ ta 32 gb9), (wa 15, oR (wa 16) 16), (wa 16, aZ ta 16 gh), (lg 5, oR (lg 6) nl), (lg 6, aZ ta 300 gl), (lg 3, oR (lg 4) nou), (lg 4, aZ ta 400 gou), (v 0, oV v), (v 1, oR (v 2) nt), (v 2, aZ ta 528 gt), (v 3, oR (v 4) nd), (v 4, aZ ta 300 gd), (v 5, oR (v 6) nk0), (v 6, aZ ta 16 gk0), (v 7, oR (v 8) nv), (v 8, aZ ta 16 gv), (v 9, oR (v 10) 16), (v 10, aZ ta 16 gz), (v 11, oA (v 12) (v 13) (v 14) (v 15) (v 16) (v 17) rd), (v 12, aZ ta 16 ab), (v 13, aZ ta 16 af), (v 14, aZ ta 256 UBOX), (v 15, aI ta 64 kw), (v 16, aI ta 4 sw), (v 17, aI ta 4 xw), (v 18, aZ ta 16 tn), (wa 0, oW wa 2 lv cnt true)]) (As := [.ref (ya 0)]) (rest := []) (ci := 7) hx hb hml hown hts hGok hK hA hG hl.1 hP hD hS (ct_X9_ruleOf_3 ll D ta gs lg ya yb wa wb o v ct ya ln  H.size) tw_489 tw_486 tw_488 tw_2 tw_65 hdX9_ruleOf rfl ⟨rfl, rfl, Nat.le_of_ble_eq_true rfl, Nat.le_of_ble_eq_true rfl, Nat.le_of_ble_eq_true rfl, Nat.le_of_ble_eq_true rfl⟩ rfl rfl (q0 := 0) rfl [0, 1] [2, 3, 4, 5, 6, 7, 8, 9, 10, 11, 12, 13, 14, 15, 16, 17, 18, 19, 20, 21, 22, 23, 24, 25, 26, 27, 28, 29, 30, 31] rfl rfl (by decide) rfl (Nat.le_of_ble_eq_true rfl) dX9_accept_24 (fun u H locs hq hP hD hS => ?_)
      refine W.eq (g2 := F0 mm 27 ls [.ref (v 0)]) rfl ?_
      have hP : va_P D vwCl [(wa 1, oR (wa 2) len), (wa 2, aZ ta 32 ge), (wa 5, oR (wa 6) len), (wa 6, aZ ta 32 gb9), (wa 15, oR (wa 16) 16), (wa 16, aZ ta 16 gh), (lg 5, oR (lg 6) nl), (lg 6, aZ ta 300 gl), (lg 3, oR (lg 4) nou), (lg 4, aZ ta 400 gou), (v 0, oV v), (v 1, oR (v 2) nt), (v 2, aZ ta 528 gt), (v 3, oR (v 4) nd), (v 4, aZ ta 300 gd), (v 5, oR (v 6) nk0), (v 6, aZ ta 16 gk0), (v 7, oR (v 8) nv), (v 8, aZ ta 16 gv), (v 9, oR (v 10) 16), (v 10, aZ ta 16 gz), (v 11, oA (v 12) (v 13) (v 14) (v 15) (v 16) (v 17) rd), (v 12, aZ ta 16 ab), (v 13, aZ ta 16 af), (v 14, aZ ta 256 UBOX), (v 15, aI ta 64 kw), (v 16, aI ta 4 sw), (v 17, aI ta 4 xw), (v 18, aZ ta 16 tn), (wa 0, oW wa 2 lv cnt true), (lg 0, oG lg ya yb wa wb o v ct), (ya 0, oK ya 3 ln)] H := hP
      have hD : va_D A [(wa 1, oR (wa 2) len), (wa 2, aZ ta 32 ge), (wa 5, oR (wa 6) len), (wa 6, aZ ta 32 gb9), (wa 15, oR (wa 16) 16), (wa 16, aZ ta 16 gh), (lg 5, oR (lg 6) nl), (lg 6, aZ ta 300 gl), (lg 3, oR (lg 4) nou), (lg 4, aZ ta 400 gou), (v 0, oV v), (v 1, oR (v 2) nt), (v 2, aZ ta 528 gt), (v 3, oR (v 4) nd), (v 4, aZ ta 300 gd), (v 5, oR (v 6) nk0), (v 6, aZ ta 16 gk0), (v 7, oR (v 8) nv), (v 8, aZ ta 16 gv), (v 9, oR (v 10) 16), (v 10, aZ ta 16 gz), (v 11, oA (v 12) (v 13) (v 14) (v 15) (v 16) (v 17) rd), (v 12, aZ ta 16 ab), (v 13, aZ ta 16 af), (v 14, aZ ta 256 UBOX), (v 15, aI ta 64 kw), (v 16, aI ta 4 sw), (v 17, aI ta 4 xw), (v 18, aZ ta 16 tn), (wa 0, oW wa 2 lv cnt true), (lg 0, oG lg ya yb wa wb o v ct), (ya 0, oK ya 3 ln)] := hD
      refine lv_aload_n (pc := 27) hx hb dX9_accept_27 rfl (lv_at hl 0 rfl) ?_
      refine va_get (pc := 28) (D := D) (ci := 7) (v := .ref (wa 0)) (C := RX9) (T := TX9) (N := 11) hx hb hts iu9 hown hK hP 30 rfl rfl 6 (by decide) (hts _ tw_358) (fun _ h9 => h9) rfl dX9_accept_28 ?_
      refine lv_aload_n (pc := 31) hx hb dX9_accept_31 rfl (lv_at hl 0 rfl) ?_
      refine va_get (pc := 32) (D := D) (ci := 7) (v := .ref (lg 5)) (C := RX9) (T := TX9) (N := 11) hx hb hts iu9 hown hK hP 30 rfl rfl 2 (by decide) (hts _ tw_354) (fun _ h9 => h9) rfl dX9_accept_32 ?_
      refine lv_iload_n (pc := 35) hx hb dX9_accept_35 rfl (lv_at hl 1 rfl) ?_
      refine lv_aload_n (pc := 36) hx hb dX9_accept_36 rfl (lv_at hl 0 rfl) ?_
      refine va_get (pc := 37) (D := D) (ci := 7) (v := .ref (lg 3)) (C := RX9) (T := TX9) (N := 11) hx hb hts iu9 hown hK hP 30 rfl rfl 1 (by decide) (hts _ tw_353) (fun _ h9 => h9) rfl dX9_accept_37 ?_
      refine cs_U (pc := 40) (idx := 194) (n := 4) (wr := [(lg 0, oG lg ya yb wa wb o v ct), (ya 0, oK ya 3 ln)]) (As := [.ref (wa 0), .ref (lg 5), .int (nI sw9), .ref (lg 3)]) (rest := []) (ci := 3) (x := ⟨"LineGuard$Rule", "openAnswer", "(LLineGuard$Session;LLineGuard$Row;ILLineGuard$Row;)Z"⟩) (owner := "LineGuard$Rule") hx hb hml hown hts hGok hK hA hG hl.1 hP hD hS (ct_X4_openAnswer ll D ta gs v gz rd ab af kw sw xw tn wa 2 lv cnt true gt nt gd nd gk0 nk0 gv nv ge gb9 len gh (lg 5) (lg 6) 300 gl nl sw9 (lg 3) (lg 4) 400 gou nou (by first | assumption | omega | rfl | decide) (by first | assumption | omega | rfl | decide) (by first | assumption | omega | rfl | decide) (by first | assumption | omega | rfl | decide) (by first | assumption | omega | rfl | decide) (by first | assumption | omega | rfl | decide) (by first | assumption | omega | rfl | decide) H.size) tw_914 tw_909 tw_913 tw_912 tw_73 tw_911 (va_Decl.abs (GC_w910 hG)) ⟨by decide +kernel, by decide +kernel, by decide +kernel⟩ rfl ⟨rfl, rfl, Nat.le_of_ble_eq_true rfl, Nat.le_of_ble_eq_true rfl, Nat.le_of_ble_eq_true rfl, Nat.le_of_ble_eq_true rfl⟩ rfl (q0 := 10) rfl [10, 11, 12, 13, 14, 15, 16, 17, 18, 19, 20, 21, 22, 23, 24, 25, 26, 27, 28, 29, 0, 1, 2, 3, 4, 5, 6, 7, 8, 9] [30, 31] rfl rfl (by decide) rfl (Nat.le_of_ble_eq_true rfl) dX9_accept_40 (fun u H locs hq hP hD hS => ?_)
      obtain ⟨z_40, gt1_40, nt1_40, gd1_40, nd1_40, gk1_40, nk1_40, gv1_40, nv1_40, rd1_40, ab1_40, af1_40, kw1_40, sw1_40, xw1_40, tn1_40, gou1_40, nou1_40⟩ := u
      have hq : (openA3 (qL ge len) (qL gb9 len) cnt lv (qL gh 16) (qL gl nl) sw9 = if z_40 then some (qL gou1_40 nou1_40) else none) ∧ (z_40 = false → gou1_40 = gou ∧ nou1_40 = nou) ∧ (z_40 = true → nou1_40 ≤ 292) := hq
      obtain ⟨hz_40, hf_40, hno_40⟩ := hq
      refine W.eq (g2 := F0 mm 43 ls [.int (qb z_40)]) rfl ?_
      have hP : va_P D vwCl [(lg 0, oG lg ya yb wa wb o v ct), (ya 0, oK ya 3 ln), (v 0, oV v), (v 1, oR (v 2) nt1_40), (v 2, aZ ta 528 gt1_40), (v 3, oR (v 4) nd1_40), (v 4, aZ ta 300 gd1_40), (v 5, oR (v 6) nk1_40), (v 6, aZ ta 16 gk1_40), (v 7, oR (v 8) nv1_40), (v 8, aZ ta 16 gv1_40), (v 9, oR (v 10) 16), (v 10, aZ ta 16 gz), (v 11, oA (v 12) (v 13) (v 14) (v 15) (v 16) (v 17) rd1_40), (v 12, aZ ta 16 ab1_40), (v 13, aZ ta 16 af1_40), (v 14, aZ ta 256 UBOX), (v 15, aI ta 64 kw1_40), (v 16, aI ta 4 sw1_40), (v 17, aI ta 4 xw1_40), (v 18, aZ ta 16 tn1_40), (wa 0, oW wa 2 lv cnt true), (wa 1, oR (wa 2) len), (wa 2, aZ ta 32 ge), (wa 5, oR (wa 6) len), (wa 6, aZ ta 32 gb9), (wa 15, oR (wa 16) 16), (wa 16, aZ ta 16 gh), (lg 5, oR (lg 6) nl), (lg 6, aZ ta 300 gl), (lg 3, oR (lg 4) nou1_40), (lg 4, aZ ta 400 gou1_40)] H := hP
      have hD : va_D A [(lg 0, oG lg ya yb wa wb o v ct), (ya 0, oK ya 3 ln), (v 0, oV v), (v 1, oR (v 2) nt1_40), (v 2, aZ ta 528 gt1_40), (v 3, oR (v 4) nd1_40), (v 4, aZ ta 300 gd1_40), (v 5, oR (v 6) nk1_40), (v 6, aZ ta 16 gk1_40), (v 7, oR (v 8) nv1_40), (v 8, aZ ta 16 gv1_40), (v 9, oR (v 10) 16), (v 10, aZ ta 16 gz), (v 11, oA (v 12) (v 13) (v 14) (v 15) (v 16) (v 17) rd1_40), (v 12, aZ ta 16 ab1_40), (v 13, aZ ta 16 af1_40), (v 14, aZ ta 256 UBOX), (v 15, aI ta 64 kw1_40), (v 16, aI ta 4 sw1_40), (v 17, aI ta 4 xw1_40), (v 18, aZ ta 16 tn1_40), (wa 0, oW wa 2 lv cnt true), (wa 1, oR (wa 2) len), (wa 2, aZ ta 32 ge), (wa 5, oR (wa 6) len), (wa 6, aZ ta 32 gb9), (wa 15, oR (wa 16) 16), (wa 16, aZ ta 16 gh), (lg 5, oR (lg 6) nl), (lg 6, aZ ta 300 gl), (lg 3, oR (lg 4) nou1_40), (lg 4, aZ ta 400 gou1_40)] := hD
      refine lv_istore_n (pc := 43) (lv' := [(2, .int (qb z_40)), (0, .ref (lg 0)), (1, .int (nI sw9))]) hx hb dX9_accept_43 rfl hl (by decide) rfl (fun ls hl => ?_)
      refine lv_aload_n (pc := 44) hx hb dX9_accept_44 rfl (lv_at hl 1 rfl) ?_
      refine va_get (pc := 45) (D := D) (ci := 7) (v := .ref (lg 5)) (C := RX9) (T := TX9) (N := 11) hx hb hts iu9 hown hK hP 0 rfl rfl 2 (by decide) (hts _ tw_354) (fun _ h9 => h9) rfl dX9_accept_45 ?_
      refine cs_V (pc := 48) (idx := 88) (n := 0) (wr := [(lg 0, oG lg ya yb wa wb o v ct), (ya 0, oK ya 3 ln), (v 0, oV v), (v 1, oR (v 2) nt1_40), (v 2, aZ ta 528 gt1_40), (v 3, oR (v 4) nd1_40), (v 4, aZ ta 300 gd1_40), (v 5, oR (v 6) nk1_40), (v 6, aZ ta 16 gk1_40), (v 7, oR (v 8) nv1_40), (v 8, aZ ta 16 gv1_40), (v 9, oR (v 10) 16), (v 10, aZ ta 16 gz), (v 11, oA (v 12) (v 13) (v 14) (v 15) (v 16) (v 17) rd1_40), (v 12, aZ ta 16 ab1_40), (v 13, aZ ta 16 af1_40), (v 14, aZ ta 256 UBOX), (v 15, aI ta 64 kw1_40), (v 16, aI ta 4 sw1_40), (v 17, aI ta 4 xw1_40), (v 18, aZ ta 16 tn1_40), (wa 0, oW wa 2 lv cnt true), (wa 1, oR (wa 2) len), (wa 2, aZ ta 32 ge), (wa 5, oR (wa 6) len), (wa 6, aZ ta 32 gb9), (wa 15, oR (wa 16) 16), (wa 16, aZ ta 16 gh), (lg 3, oR (lg 4) nou1_40), (lg 4, aZ ta 400 gou1_40)]) (As := []) (rest := []) (ci := 5) hx hb hml hown hts hGok hK hA hG hl.1 hP hD hS (ct_X6_clear ll D ta hGok (lg 5) (lg 6) 300 gl nl  H.size) tw_441 tw_447 tw_439 tw_440 tw_66 hdX6_clear rfl ⟨rfl, rfl, Nat.le_of_ble_eq_true rfl, Nat.le_of_ble_eq_true rfl, Nat.le_of_ble_eq_true rfl, Nat.le_of_ble_eq_true rfl⟩ rfl rfl (q0 := 28) rfl [28, 29] [0, 1, 2, 3, 4, 5, 6, 7, 8, 9, 10, 11, 12, 13, 14, 15, 16, 17, 18, 19, 20, 21, 22, 23, 24, 25, 26, 27, 30, 31] rfl rfl (by decide) rfl (Nat.le_of_ble_eq_true rfl) dX9_accept_48 (fun u H locs hq hP hD hS => ?_)
      refine W.eq (g2 := F0 mm 51 ls []) rfl ?_
      have hP : va_P D vwCl [(lg 0, oG lg ya yb wa wb o v ct), (ya 0, oK ya 3 ln), (v 0, oV v), (v 1, oR (v 2) nt1_40), (v 2, aZ ta 528 gt1_40), (v 3, oR (v 4) nd1_40), (v 4, aZ ta 300 gd1_40), (v 5, oR (v 6) nk1_40), (v 6, aZ ta 16 gk1_40), (v 7, oR (v 8) nv1_40), (v 8, aZ ta 16 gv1_40), (v 9, oR (v 10) 16), (v 10, aZ ta 16 gz), (v 11, oA (v 12) (v 13) (v 14) (v 15) (v 16) (v 17) rd1_40), (v 12, aZ ta 16 ab1_40), (v 13, aZ ta 16 af1_40), (v 14, aZ ta 256 UBOX), (v 15, aI ta 64 kw1_40), (v 16, aI ta 4 sw1_40), (v 17, aI ta 4 xw1_40), (v 18, aZ ta 16 tn1_40), (wa 0, oW wa 2 lv cnt true), (wa 1, oR (wa 2) len), (wa 2, aZ ta 32 ge), (wa 5, oR (wa 6) len), (wa 6, aZ ta 32 gb9), (wa 15, oR (wa 16) 16), (wa 16, aZ ta 16 gh), (lg 3, oR (lg 4) nou1_40), (lg 4, aZ ta 400 gou1_40), (lg 5, oR (lg 6) 0), (lg 6, aZ ta 300 gl)] H := hP
      have hD : va_D A [(lg 0, oG lg ya yb wa wb o v ct), (ya 0, oK ya 3 ln), (v 0, oV v), (v 1, oR (v 2) nt1_40), (v 2, aZ ta 528 gt1_40), (v 3, oR (v 4) nd1_40), (v 4, aZ ta 300 gd1_40), (v 5, oR (v 6) nk1_40), (v 6, aZ ta 16 gk1_40), (v 7, oR (v 8) nv1_40), (v 8, aZ ta 16 gv1_40), (v 9, oR (v 10) 16), (v 10, aZ ta 16 gz), (v 11, oA (v 12) (v 13) (v 14) (v 15) (v 16) (v 17) rd1_40), (v 12, aZ ta 16 ab1_40), (v 13, aZ ta 16 af1_40), (v 14, aZ ta 256 UBOX), (v 15, aI ta 64 kw1_40), (v 16, aI ta 4 sw1_40), (v 17, aI ta 4 xw1_40), (v 18, aZ ta 16 tn1_40), (wa 0, oW wa 2 lv cnt true), (wa 1, oR (wa 2) len), (wa 2, aZ ta 32 ge), (wa 5, oR (wa 6) len), (wa 6, aZ ta 32 gb9), (wa 15, oR (wa 16) 16), (wa 16, aZ ta 16 gh), (lg 3, oR (lg 4) nou1_40), (lg 4, aZ ta 400 gou1_40), (lg 5, oR (lg 6) 0), (lg 6, aZ ta 300 gl)] := hD
      refine lv_iload_n (pc := 51) hx hb dX9_accept_51 rfl (lv_at hl 0 rfl) ?_
      refine lv_if_eq (pc := 52) (tgt := 59) hx hb dX9_accept_52 (by decide) (fun c_3 => ?_) (fun c_3 => ?_)
      · skip
        rw [q_beq] at c_3
        try rw [Bool.not_eq_false] at c_3
        have hzz := c_3
        refine lv_iconst (pc := 59) (v := nI 0) hx hb dX9_accept_59 (by decide +kernel) ?_
        refine q_top (y := qb z_40) (by rw [hzz]; rfl) ?_
        have hq_4 : (openA3 (qL ge len) (qL gb9 len) cnt lv (qL gh 16) (qL gl nl) sw9 = if z_40 then some (qL gou1_40 nou1_40) else none) ∧ (z_40 = false → gou1_40 = gou ∧ nou1_40 = nou) ∧ (z_40 = true → nou1_40 ≤ 292) := by
          exact ⟨hz_40, hf_40, hno_40⟩
        exact hret (⟨(z_40), (gt1_40), (nt1_40), (gd1_40), (nd1_40), (gk1_40), (nk1_40), (gv1_40), (nv1_40), (rd1_40), (ab1_40), (af1_40), (kw1_40), (sw1_40), (xw1_40), (tn1_40), (gou1_40), (nou1_40)⟩ : Bool × (Nat → BitVec 8) × Nat × (Nat → BitVec 8) × Nat × (Nat → BitVec 8) × Nat × (Nat → BitVec 8) × Nat × Nat × (Nat → BitVec 8) × (Nat → BitVec 8) × (Nat → Int32) × (Nat → Int32) × (Nat → Int32) × (Nat → BitVec 8) × (Nat → BitVec 8) × Nat) _ _ _ _ dX9_accept_60 hq_4 (hP.sub [0, 1, 21, 22, 23, 24, 25, 26, 27, 30, 31, 28, 29, 2, 3, 4, 5, 6, 7, 8, 9, 10, 11, 12, 13, 14, 15, 16, 17, 18, 19, 20] rfl) (hD.sub [0, 1, 21, 22, 23, 24, 25, 26, 27, 30, 31, 28, 29, 2, 3, 4, 5, 6, 7, 8, 9, 10, 11, 12, 13, 14, 15, 16, 17, 18, 19, 20] (by decide) rfl) hS
      · skip
        rw [q_beq] at c_3
        try rw [Bool.not_eq_false] at c_3
        have hzz := c_3
        refine lv_iconst (pc := 55) (v := nI 1) hx hb dX9_accept_55 (by decide +kernel) ?_
        refine lv_goto (pc := 56) (tgt := 60) hx hb dX9_accept_56 (by decide) ?_
        refine q_top (y := qb z_40) (by rw [hzz]; rfl) ?_
        have hq_5 : (openA3 (qL ge len) (qL gb9 len) cnt lv (qL gh 16) (qL gl nl) sw9 = if z_40 then some (qL gou1_40 nou1_40) else none) ∧ (z_40 = false → gou1_40 = gou ∧ nou1_40 = nou) ∧ (z_40 = true → nou1_40 ≤ 292) := by
          exact ⟨hz_40, hf_40, hno_40⟩
        exact hret (⟨(z_40), (gt1_40), (nt1_40), (gd1_40), (nd1_40), (gk1_40), (nk1_40), (gv1_40), (nv1_40), (rd1_40), (ab1_40), (af1_40), (kw1_40), (sw1_40), (xw1_40), (tn1_40), (gou1_40), (nou1_40)⟩ : Bool × (Nat → BitVec 8) × Nat × (Nat → BitVec 8) × Nat × (Nat → BitVec 8) × Nat × (Nat → BitVec 8) × Nat × Nat × (Nat → BitVec 8) × (Nat → BitVec 8) × (Nat → Int32) × (Nat → Int32) × (Nat → Int32) × (Nat → BitVec 8) × (Nat → BitVec 8) × Nat) _ _ _ _ dX9_accept_60 hq_5 (hP.sub [0, 1, 21, 22, 23, 24, 25, 26, 27, 30, 31, 28, 29, 2, 3, 4, 5, 6, 7, 8, 9, 10, 11, 12, 13, 14, 15, 16, 17, 18, 19, 20] rfl) (hD.sub [0, 1, 21, 22, 23, 24, 25, 26, 27, 30, 31, 28, 29, 2, 3, 4, 5, 6, 7, 8, 9, 10, 11, 12, 13, 14, 15, 16, 17, 18, 19, 20] (by decide) rfl) hS
    · skip
      rw [q_beq] at c_2
      try rw [Bool.not_eq_false] at c_2
      rw [hz_11, sw_nI hsw] at c_2; cases c_2
set_option maxHeartbeats 4000000 in
set_option maxRecDepth 100000 in
theorem ct_X9_answer_O (ll : Launch) (D : va_G) (ta : Nat → ClassId) (gs : Nat → Nat) (lg : Nat → Nat) (ya : Nat → Nat) (yb : Nat → Nat) (wa : Nat → Nat) (wb : Nat → Nat) (o : Nat → Nat) (v : Nat → Nat) (ct : Nat) (gz : Nat → BitVec 8) (tri : Bool) (gb : Nat → BitVec 8) (bf : Nat → BitVec 8) (f : Nat → Int64) (s : Nat → Int64) (spb : Nat → Int32) (gt : Nat → BitVec 8) (nt : Nat) (gd : Nat → BitVec 8) (nd : Nat) (gk0 : Nat → BitVec 8) (nk0 : Nat) (gb9 : Nat → BitVec 8) (gbc : Nat → BitVec 8) (gc : Nat → BitVec 8) (nc : Nat) (gta : Nat → BitVec 8) (nta : Nat) (gl : Nat → BitVec 8) (nl : Nat) (lv : Nat) (cnt : Nat) (ln : Nat) (sw9 : Nat) (hz : qL gz 16 = zeroL 16) (hsp : spbOK spb) (hsw : sw9 < 65536) (hlv : lv < 256) (hl16 : lv &&& 16 ≠ 0) (hnc : 4 ≤ nc ∧ nc ≤ 204) (hta : nta ≤ 200) (hli : nl ≤ 300) (sz : Nat) : CT ll yX9_answer cX9_answer 3 (some .int) ({ frames := 6, cells := 0, slots := 0, locals := 151 } : Room) D ta ((GC gs)) [.ref (lg 0), .int (nI sw9)] [(lg 0, oG lg ya yb wa wb o v ct), (yb 0, oK yb 2 ln), (wb 0, oW wb 2 lv cnt true), (wb 5, oR (wb 6) 16), (wb 6, aZ ta 32 gb9), (wb 17, oR (wb 18) 8), (wb 18, aZ ta 8 gbc), (wb 19, oR (wb 20) nc), (wb 20, aZ ta 204 gc), (lg 1, oR (lg 2) nta), (lg 2, aZ ta 400 gta), (lg 5, oR (lg 6) nl), (lg 6, aZ ta 300 gl), (o 0, oO o), (o 1, oR (o 2) nt), (o 2, aZ ta 528 gt), (o 3, oR (o 4) nd), (o 4, aZ ta 300 gd), (o 5, oR (o 6) nk0), (o 6, aZ ta 16 gk0), (o 11, oD (o 12) (o 13) (o 14) (o 15) (o 16) tri), (o 12, aZ ta 8 gb), (o 13, aZ ta 8 bf), (o 14, aI ta 512 spb), (o 15, aJ ta 16 f), (o 16, aJ ta 16 s)] sz (S := (Nat → BitVec 8) × Nat × (Nat → BitVec 8) × Nat × (Nat → BitVec 8) × Nat × Bool × (Nat → BitVec 8) × (Nat → BitVec 8) × (Nat → Int64) × (Nat → Int64) × (Nat → BitVec 8) × (Nat → BitVec 8)) (fun u => some (.int (nI (nta + 8)))) (fun u => (qL u.2.2.2.2.2.2.2.2.2.2.2.1 8 = ansCode2 (qL gb9 16) (qL gbc 8) (qL gc nc) (qL gta nta) sw9) ∧ (qL u.2.2.2.2.2.2.2.2.2.2.2.2 (nta + 8) = (qL gta nta) ++ (ansCode2 (qL gb9 16) (qL gbc 8) (qL gc nc) (qL gta nta) sw9).take 8)) (fun u => [(lg 0, oG lg ya yb wa wb o v ct), (yb 0, oK yb 2 ln), (wb 0, oW wb 2 lv cnt true), (wb 5, oR (wb 6) 16), (wb 6, aZ ta 32 gb9), (wb 17, oR (wb 18) 8), (wb 18, aZ ta 8 u.2.2.2.2.2.2.2.2.2.2.2.1), (wb 19, oR (wb 20) nc), (wb 20, aZ ta 204 gc), (lg 1, oR (lg 2) 0), (lg 2, aZ ta 400 gta), (lg 5, oR (lg 6) (nta + 8)), (lg 6, aZ ta 300 u.2.2.2.2.2.2.2.2.2.2.2.2), (o 0, oO o), (o 1, oR (o 2) u.2.1), (o 2, aZ ta 528 u.1), (o 3, oR (o 4) u.2.2.2.1), (o 4, aZ ta 300 u.2.2.1), (o 5, oR (o 6) u.2.2.2.2.2.1), (o 6, aZ ta 16 u.2.2.2.2.1), (o 11, oD (o 12) (o 13) (o 14) (o 15) (o 16) u.2.2.2.2.2.2.1), (o 12, aZ ta 8 u.2.2.2.2.2.2.2.1), (o 13, aZ ta 8 u.2.2.2.2.2.2.2.2.1), (o 14, aI ta 512 spb), (o 15, aJ ta 16 u.2.2.2.2.2.2.2.2.2.1), (o 16, aJ ta 16 u.2.2.2.2.2.2.2.2.2.2.1)]) 0 0 := by
  refine CT.of_i (r := fun u => nI (nta + 8)) rfl (by decide) (Nat.le_of_ble_eq_true rfl) ?_
  have hGok := GC_ok gs
  intro pp ee ss mm below meth kc A Q hx hb hml hown hin hts hK hA hsz hG hret H locs hP hD hS ls hl
  have hl : lv_has ls 3 [(0, .ref (lg 0)), (1, .int (nI sw9))] := hl
  refine lv_aload_n (pc := 0) hx hb dX9_answer_0 rfl (lv_at hl 0 rfl) ?_
  refine va_get (pc := 1) (D := D) (ci := 7) (v := .ref (wb 0)) (C := RX9) (T := TX9) (N := 11) hx hb hts iu9 hown hK hP 0 rfl rfl 7 (by decide) (hts _ tw_359) (fun _ h9 => h9) rfl dX9_answer_1 ?_
  refine cs_V (pc := 4) (idx := 183) (n := 0) (wr := [(lg 0, oG lg ya yb wa wb o v ct), (yb 0, oK yb 2 ln), (wb 5, oR (wb 6) 16), (wb 6, aZ ta 32 gb9), (wb 17, oR (wb 18) 8), (wb 18, aZ ta 8 gbc), (wb 19, oR (wb 20) nc), (wb 20, aZ ta 204 gc), (lg 1, oR (lg 2) nta), (lg 2, aZ ta 400 gta), (lg 5, oR (lg 6) nl), (lg 6, aZ ta 300 gl), (o 0, oO o), (o 1, oR (o 2) nt), (o 2, aZ ta 528 gt), (o 3, oR (o 4) nd), (o 4, aZ ta 300 gd), (o 5, oR (o 6) nk0), (o 6, aZ ta 16 gk0), (o 11, oD (o 12) (o 13) (o 14) (o 15) (o 16) tri), (o 12, aZ ta 8 gb), (o 13, aZ ta 8 bf), (o 14, aI ta 512 spb), (o 15, aJ ta 16 f), (o 16, aJ ta 16 s)]) (As := []) (rest := []) (ci := 6) hx hb hml hown hts hGok hK hA hG hl.1 hP hD hS (ct_X8_isAnswerable ll D ta gs wb 2 lv cnt true (by first | assumption | omega | rfl | decide) (by first | assumption | omega | rfl | decide) H.size) tw_870 tw_867 tw_868 tw_869 tw_68 hdX8_isAnswerable rfl ⟨rfl, rfl, Nat.le_of_ble_eq_true rfl, Nat.le_of_ble_eq_true rfl, Nat.le_of_ble_eq_true rfl, Nat.le_of_ble_eq_true rfl⟩ rfl rfl (q0 := 2) rfl [2] [0, 1, 3, 4, 5, 6, 7, 8, 9, 10, 11, 12, 13, 14, 15, 16, 17, 18, 19, 20, 21, 22, 23, 24, 25] rfl rfl (by decide) rfl (Nat.le_of_ble_eq_true rfl) dX9_answer_4 (fun u H locs hq hP hD hS => ?_)
  generalize u = z_4 at hq hP hD ⊢
  have hq : (z_4 = decide (2 = 2 ∧ lv &&& 16 ≠ 0 ∧ true = true)) := hq
  have hz_4 := hq
  refine W.eq (g2 := F0 mm 7 ls [.int (qb z_4)]) rfl ?_
  have hP : va_P D vwCl [(lg 0, oG lg ya yb wa wb o v ct), (yb 0, oK yb 2 ln), (wb 5, oR (wb 6) 16), (wb 6, aZ ta 32 gb9), (wb 17, oR (wb 18) 8), (wb 18, aZ ta 8 gbc), (wb 19, oR (wb 20) nc), (wb 20, aZ ta 204 gc), (lg 1, oR (lg 2) nta), (lg 2, aZ ta 400 gta), (lg 5, oR (lg 6) nl), (lg 6, aZ ta 300 gl), (o 0, oO o), (o 1, oR (o 2) nt), (o 2, aZ ta 528 gt), (o 3, oR (o 4) nd), (o 4, aZ ta 300 gd), (o 5, oR (o 6) nk0), (o 6, aZ ta 16 gk0), (o 11, oD (o 12) (o 13) (o 14) (o 15) (o 16) tri), (o 12, aZ ta 8 gb), (o 13, aZ ta 8 bf), (o 14, aI ta 512 spb), (o 15, aJ ta 16 f), (o 16, aJ ta 16 s), (wb 0, oW wb 2 lv cnt true)] H := hP
  have hD : va_D A [(lg 0, oG lg ya yb wa wb o v ct), (yb 0, oK yb 2 ln), (wb 5, oR (wb 6) 16), (wb 6, aZ ta 32 gb9), (wb 17, oR (wb 18) 8), (wb 18, aZ ta 8 gbc), (wb 19, oR (wb 20) nc), (wb 20, aZ ta 204 gc), (lg 1, oR (lg 2) nta), (lg 2, aZ ta 400 gta), (lg 5, oR (lg 6) nl), (lg 6, aZ ta 300 gl), (o 0, oO o), (o 1, oR (o 2) nt), (o 2, aZ ta 528 gt), (o 3, oR (o 4) nd), (o 4, aZ ta 300 gd), (o 5, oR (o 6) nk0), (o 6, aZ ta 16 gk0), (o 11, oD (o 12) (o 13) (o 14) (o 15) (o 16) tri), (o 12, aZ ta 8 gb), (o 13, aZ ta 8 bf), (o 14, aI ta 512 spb), (o 15, aJ ta 16 f), (o 16, aJ ta 16 s), (wb 0, oW wb 2 lv cnt true)] := hD
  refine lv_if_eq (pc := 7) (tgt := 34) hx hb dX9_answer_7 (by decide) (fun c_1 => ?_) (fun c_1 => ?_)
  · skip
    rw [q_beq] at c_1
    try rw [Bool.not_eq_false] at c_1
    rw [hz_4, decide_eq_true ⟨rfl, hl16, rfl⟩] at c_1; cases c_1
  · skip
    rw [q_beq] at c_1
    try rw [Bool.not_eq_false] at c_1
    refine lv_iload_n (pc := 10) hx hb dX9_answer_10 rfl (lv_at hl 1 rfl) ?_
    refine cs_S (pc := 11) (idx := 187) (n := 1) (wr := [(lg 0, oG lg ya yb wa wb o v ct), (yb 0, oK yb 2 ln), (wb 5, oR (wb 6) 16), (wb 6, aZ ta 32 gb9), (wb 17, oR (wb 18) 8), (wb 18, aZ ta 8 gbc), (wb 19, oR (wb 20) nc), (wb 20, aZ ta 204 gc), (lg 1, oR (lg 2) nta), (lg 2, aZ ta 400 gta), (lg 5, oR (lg 6) nl), (lg 6, aZ ta 300 gl), (o 0, oO o), (o 1, oR (o 2) nt), (o 2, aZ ta 528 gt), (o 3, oR (o 4) nd), (o 4, aZ ta 300 gd), (o 5, oR (o 6) nk0), (o 6, aZ ta 16 gk0), (o 11, oD (o 12) (o 13) (o 14) (o 15) (o 16) tri), (o 12, aZ ta 8 gb), (o 13, aZ ta 8 bf), (o 14, aI ta 512 spb), (o 15, aJ ta 16 f), (o 16, aJ ta 16 s), (wb 0, oW wb 2 lv cnt true)]) (As := [.int (nI sw9)]) (rest := []) hx hb hml hown hts hGok hK hA hG hl.1 hP hD hS (ct_X9_isSw ll D ta hGok (nI sw9)  H.size) tw_874 tw_872 tw_873 tw_65 hdX9_isSw rfl ⟨rfl, rfl, Nat.le_of_ble_eq_true rfl, Nat.le_of_ble_eq_true rfl, Nat.le_of_ble_eq_true rfl, Nat.le_of_ble_eq_true rfl⟩ [] [0, 1, 2, 3, 4, 5, 6, 7, 8, 9, 10, 11, 12, 13, 14, 15, 16, 17, 18, 19, 20, 21, 22, 23, 24, 25] rfl rfl (by decide) rfl (Nat.le_of_ble_eq_true rfl) dX9_answer_11 (fun u H locs hq hP hD hS => ?_)
    generalize u = z_11 at hq hP hD ⊢
    have hq : (z_11 = swB (nI sw9)) := hq
    have hz_11 := hq
    refine W.eq (g2 := F0 mm 14 ls [.int (qb z_11)]) rfl ?_
    have hP : va_P D vwCl [(lg 0, oG lg ya yb wa wb o v ct), (yb 0, oK yb 2 ln), (wb 5, oR (wb 6) 16), (wb 6, aZ ta 32 gb9), (wb 17, oR (wb 18) 8), (wb 18, aZ ta 8 gbc), (wb 19, oR (wb 20) nc), (wb 20, aZ ta 204 gc), (lg 1, oR (lg 2) nta), (lg 2, aZ ta 400 gta), (lg 5, oR (lg 6) nl), (lg 6, aZ ta 300 gl), (o 0, oO o), (o 1, oR (o 2) nt), (o 2, aZ ta 528 gt), (o 3, oR (o 4) nd), (o 4, aZ ta 300 gd), (o 5, oR (o 6) nk0), (o 6, aZ ta 16 gk0), (o 11, oD (o 12) (o 13) (o 14) (o 15) (o 16) tri), (o 12, aZ ta 8 gb), (o 13, aZ ta 8 bf), (o 14, aI ta 512 spb), (o 15, aJ ta 16 f), (o 16, aJ ta 16 s), (wb 0, oW wb 2 lv cnt true)] H := hP
    have hD : va_D A [(lg 0, oG lg ya yb wa wb o v ct), (yb 0, oK yb 2 ln), (wb 5, oR (wb 6) 16), (wb 6, aZ ta 32 gb9), (wb 17, oR (wb 18) 8), (wb 18, aZ ta 8 gbc), (wb 19, oR (wb 20) nc), (wb 20, aZ ta 204 gc), (lg 1, oR (lg 2) nta), (lg 2, aZ ta 400 gta), (lg 5, oR (lg 6) nl), (lg 6, aZ ta 300 gl), (o 0, oO o), (o 1, oR (o 2) nt), (o 2, aZ ta 528 gt), (o 3, oR (o 4) nd), (o 4, aZ ta 300 gd), (o 5, oR (o 6) nk0), (o 6, aZ ta 16 gk0), (o 11, oD (o 12) (o 13) (o 14) (o 15) (o 16) tri), (o 12, aZ ta 8 gb), (o 13, aZ ta 8 bf), (o 14, aI ta 512 spb), (o 15, aJ ta 16 f), (o 16, aJ ta 16 s), (wb 0, oW wb 2 lv cnt true)] := hD
    refine lv_if_eq (pc := 14) (tgt := 34) hx hb dX9_answer_14 (by decide) (fun c_2 => ?_) (fun c_2 => ?_)
    · skip
      rw [q_beq] at c_2
      try rw [Bool.not_eq_false] at c_2
      rw [hz_11, sw_nI hsw] at c_2; cases c_2
    · skip
      rw [q_beq] at c_2
      try rw [Bool.not_eq_false] at c_2
      refine lv_aload_n (pc := 17) hx hb dX9_answer_17 rfl (lv_at hl 0 rfl) ?_
      refine va_get (pc := 18) (D := D) (ci := 7) (v := .ref (lg 1)) (C := RX9) (T := TX9) (N := 11) hx hb hts iu9 hown hK hP 0 rfl rfl 0 (by decide) (hts _ tw_352) (fun _ h9 => h9) rfl dX9_answer_18 ?_
      refine cs_V (pc := 21) (idx := 64) (n := 0) (wr := [(lg 0, oG lg ya yb wa wb o v ct), (yb 0, oK yb 2 ln), (wb 5, oR (wb 6) 16), (wb 6, aZ ta 32 gb9), (wb 17, oR (wb 18) 8), (wb 18, aZ ta 8 gbc), (wb 19, oR (wb 20) nc), (wb 20, aZ ta 204 gc), (lg 5, oR (lg 6) nl), (lg 6, aZ ta 300 gl), (o 0, oO o), (o 1, oR (o 2) nt), (o 2, aZ ta 528 gt), (o 3, oR (o 4) nd), (o 4, aZ ta 300 gd), (o 5, oR (o 6) nk0), (o 6, aZ ta 16 gk0), (o 11, oD (o 12) (o 13) (o 14) (o 15) (o 16) tri), (o 12, aZ ta 8 gb), (o 13, aZ ta 8 bf), (o 14, aI ta 512 spb), (o 15, aJ ta 16 f), (o 16, aJ ta 16 s), (wb 0, oW wb 2 lv cnt true)]) (As := []) (rest := []) (ci := 5) hx hb hml hown hts hGok hK hA hG hl.1 hP hD hS (ct_X6_size ll D ta hGok (lg 1) (lg 2) 400 gta nta  H.size) tw_393 tw_390 tw_391 tw_392 tw_66 hdX6_size rfl ⟨rfl, rfl, Nat.le_of_ble_eq_true rfl, Nat.le_of_ble_eq_true rfl, Nat.le_of_ble_eq_true rfl, Nat.le_of_ble_eq_true rfl⟩ rfl rfl (q0 := 8) rfl [8, 9] [0, 1, 2, 3, 4, 5, 6, 7, 10, 11, 12, 13, 14, 15, 16, 17, 18, 19, 20, 21, 22, 23, 24, 25] rfl rfl (by decide) rfl (Nat.le_of_ble_eq_true rfl) dX9_answer_21 (fun u H locs hq hP hD hS => ?_)
      refine W.eq (g2 := F0 mm 24 ls [.int (nI nta)]) rfl ?_
      have hP : va_P D vwCl [(lg 0, oG lg ya yb wa wb o v ct), (yb 0, oK yb 2 ln), (wb 5, oR (wb 6) 16), (wb 6, aZ ta 32 gb9), (wb 17, oR (wb 18) 8), (wb 18, aZ ta 8 gbc), (wb 19, oR (wb 20) nc), (wb 20, aZ ta 204 gc), (lg 5, oR (lg 6) nl), (lg 6, aZ ta 300 gl), (o 0, oO o), (o 1, oR (o 2) nt), (o 2, aZ ta 528 gt), (o 3, oR (o 4) nd), (o 4, aZ ta 300 gd), (o 5, oR (o 6) nk0), (o 6, aZ ta 16 gk0), (o 11, oD (o 12) (o 13) (o 14) (o 15) (o 16) tri), (o 12, aZ ta 8 gb), (o 13, aZ ta 8 bf), (o 14, aI ta 512 spb), (o 15, aJ ta 16 f), (o 16, aJ ta 16 s), (wb 0, oW wb 2 lv cnt true), (lg 1, oR (lg 2) nta), (lg 2, aZ ta 400 gta)] H := hP
      have hD : va_D A [(lg 0, oG lg ya yb wa wb o v ct), (yb 0, oK yb 2 ln), (wb 5, oR (wb 6) 16), (wb 6, aZ ta 32 gb9), (wb 17, oR (wb 18) 8), (wb 18, aZ ta 8 gbc), (wb 19, oR (wb 20) nc), (wb 20, aZ ta 204 gc), (lg 5, oR (lg 6) nl), (lg 6, aZ ta 300 gl), (o 0, oO o), (o 1, oR (o 2) nt), (o 2, aZ ta 528 gt), (o 3, oR (o 4) nd), (o 4, aZ ta 300 gd), (o 5, oR (o 6) nk0), (o 6, aZ ta 16 gk0), (o 11, oD (o 12) (o 13) (o 14) (o 15) (o 16) tri), (o 12, aZ ta 8 gb), (o 13, aZ ta 8 bf), (o 14, aI ta 512 spb), (o 15, aJ ta 16 f), (o 16, aJ ta 16 s), (wb 0, oW wb 2 lv cnt true), (lg 1, oR (lg 2) nta), (lg 2, aZ ta 400 gta)] := hD
      refine lv_sipush (pc := 24) (v := nI 200) hx hb dX9_answer_24 (by decide +kernel) ?_
      refine lv_icmp_gt (pc := 27) (tgt := 34) hx hb dX9_answer_27 (by decide) (fun c_3 => ?_) (fun c_3 => ?_)
      · skip
        rw [nI_ltI (by omega) (by omega)] at c_3
        exfalso; omega
      · skip
        rw [nI_ltI (by omega) (by omega)] at c_3
        refine lv_iconst (pc := 30) (v := nI 1) hx hb dX9_answer_30 (by decide +kernel) ?_
        refine lv_goto (pc := 31) (tgt := 35) hx hb dX9_answer_31 (by decide) ?_
        refine lv_istore_n (pc := 35) (lv' := [(2, .int (nI 1)), (0, .ref (lg 0)), (1, .int (nI sw9))]) hx hb dX9_answer_35 rfl hl (by decide) rfl (fun ls hl => ?_)
        refine lv_iload_n (pc := 36) hx hb dX9_answer_36 rfl (lv_at hl 0 rfl) ?_
        refine lv_if_eq (pc := 37) (tgt := 64) hx hb dX9_answer_37 (by decide) (fun c_4 => absurd c_4 (by decide)) (fun _ => ?_)
        refine lv_aload_n (pc := 40) hx hb dX9_answer_40 rfl (lv_at hl 1 rfl) ?_
        refine lv_aload_n (pc := 41) hx hb dX9_answer_41 rfl (lv_at hl 1 rfl) ?_
        refine va_get (pc := 42) (D := D) (ci := 7) (v := .ref (yb 0)) (C := RX9) (T := TX9) (N := 11) hx hb hts iu9 hown hK hP 0 rfl rfl 5 (by decide) (hts _ tw_357) (fun _ h9 => h9) rfl dX9_answer_42 ?_
        refine cs_V (pc := 45) (idx := 109) (n := 1) (wr := [(wb 5, oR (wb 6) 16), (wb 6, aZ ta 32 gb9), (wb 17, oR (wb 18) 8), (wb 18, aZ ta 8 gbc), (wb 19, oR (wb 20) nc), (wb 20, aZ ta 204 gc), (lg 5, oR (lg 6) nl), (lg 6, aZ ta 300 gl), (o 0, oO o), (o 1, oR (o 2) nt), (o 2, aZ ta 528 gt), (o 3, oR (o 4) nd), (o 4, aZ ta 300 gd), (o 5, oR (o 6) nk0), (o 6, aZ ta 16 gk0), (o 11, oD (o 12) (o 13) (o 14) (o 15) (o 16) tri), (o 12, aZ ta 8 gb), (o 13, aZ ta 8 bf), (o 14, aI ta 512 spb), (o 15, aJ ta 16 f), (o 16, aJ ta 16 s), (wb 0, oW wb 2 lv cnt true), (lg 1, oR (lg 2) nta), (lg 2, aZ ta 400 gta)]) (As := [.ref (yb 0)]) (rest := []) (ci := 7) hx hb hml hown hts hGok hK hA hG hl.1 hP hD hS (ct_X9_ruleOf_2 ll D ta gs lg ya yb wa wb o v ct yb 2 ln (by first | assumption | omega | rfl | decide) H.size) tw_489 tw_486 tw_488 tw_2 tw_65 hdX9_ruleOf rfl ⟨rfl, rfl, Nat.le_of_ble_eq_true rfl, Nat.le_of_ble_eq_true rfl, Nat.le_of_ble_eq_true rfl, Nat.le_of_ble_eq_true rfl⟩ rfl rfl (q0 := 0) rfl [0, 1] [2, 3, 4, 5, 6, 7, 8, 9, 10, 11, 12, 13, 14, 15, 16, 17, 18, 19, 20, 21, 22, 23, 24, 25] rfl rfl (by decide) rfl (Nat.le_of_ble_eq_true rfl) dX9_answer_45 (fun u H locs hq hP hD hS => ?_)
        refine W.eq (g2 := F0 mm 48 ls [.ref (o 0)]) rfl ?_
        have hP : va_P D vwCl [(wb 5, oR (wb 6) 16), (wb 6, aZ ta 32 gb9), (wb 17, oR (wb 18) 8), (wb 18, aZ ta 8 gbc), (wb 19, oR (wb 20) nc), (wb 20, aZ ta 204 gc), (lg 5, oR (lg 6) nl), (lg 6, aZ ta 300 gl), (o 0, oO o), (o 1, oR (o 2) nt), (o 2, aZ ta 528 gt), (o 3, oR (o 4) nd), (o 4, aZ ta 300 gd), (o 5, oR (o 6) nk0), (o 6, aZ ta 16 gk0), (o 11, oD (o 12) (o 13) (o 14) (o 15) (o 16) tri), (o 12, aZ ta 8 gb), (o 13, aZ ta 8 bf), (o 14, aI ta 512 spb), (o 15, aJ ta 16 f), (o 16, aJ ta 16 s), (wb 0, oW wb 2 lv cnt true), (lg 1, oR (lg 2) nta), (lg 2, aZ ta 400 gta), (lg 0, oG lg ya yb wa wb o v ct), (yb 0, oK yb 2 ln)] H := hP
        have hD : va_D A [(wb 5, oR (wb 6) 16), (wb 6, aZ ta 32 gb9), (wb 17, oR (wb 18) 8), (wb 18, aZ ta 8 gbc), (wb 19, oR (wb 20) nc), (wb 20, aZ ta 204 gc), (lg 5, oR (lg 6) nl), (lg 6, aZ ta 300 gl), (o 0, oO o), (o 1, oR (o 2) nt), (o 2, aZ ta 528 gt), (o 3, oR (o 4) nd), (o 4, aZ ta 300 gd), (o 5, oR (o 6) nk0), (o 6, aZ ta 16 gk0), (o 11, oD (o 12) (o 13) (o 14) (o 15) (o 16) tri), (o 12, aZ ta 8 gb), (o 13, aZ ta 8 bf), (o 14, aI ta 512 spb), (o 15, aJ ta 16 f), (o 16, aJ ta 16 s), (wb 0, oW wb 2 lv cnt true), (lg 1, oR (lg 2) nta), (lg 2, aZ ta 400 gta), (lg 0, oG lg ya yb wa wb o v ct), (yb 0, oK yb 2 ln)] := hD
        refine lv_aload_n (pc := 48) hx hb dX9_answer_48 rfl (lv_at hl 1 rfl) ?_
        refine va_get (pc := 49) (D := D) (ci := 7) (v := .ref (wb 0)) (C := RX9) (T := TX9) (N := 11) hx hb hts iu9 hown hK hP 24 rfl rfl 7 (by decide) (hts _ tw_359) (fun _ h9 => h9) rfl dX9_answer_49 ?_
        refine lv_aload_n (pc := 52) hx hb dX9_answer_52 rfl (lv_at hl 1 rfl) ?_
        refine va_get (pc := 53) (D := D) (ci := 7) (v := .ref (lg 1)) (C := RX9) (T := TX9) (N := 11) hx hb hts iu9 hown hK hP 24 rfl rfl 0 (by decide) (hts _ tw_352) (fun _ h9 => h9) rfl dX9_answer_53 ?_
        refine lv_iload_n (pc := 56) hx hb dX9_answer_56 rfl (lv_at hl 2 rfl) ?_
        refine lv_aload_n (pc := 57) hx hb dX9_answer_57 rfl (lv_at hl 1 rfl) ?_
        refine va_get (pc := 58) (D := D) (ci := 7) (v := .ref (lg 5)) (C := RX9) (T := TX9) (N := 11) hx hb hts iu9 hown hK hP 24 rfl rfl 2 (by decide) (hts _ tw_354) (fun _ h9 => h9) rfl dX9_answer_58 ?_
        refine cs_U (pc := 61) (idx := 190) (n := 4) (wr := [(lg 0, oG lg ya yb wa wb o v ct), (yb 0, oK yb 2 ln)]) (As := [.ref (wb 0), .ref (lg 1), .int (nI sw9), .ref (lg 5)]) (rest := []) (ci := 4) (x := ⟨"LineGuard$Rule", "secureAnswer", "(LLineGuard$Session;LLineGuard$Row;ILLineGuard$Row;)V"⟩) (owner := "LineGuard$Rule") hx hb hml hown hts hGok hK hA hG hl.1 hP hD hS (ct_X5_secureAnswer ll D ta gs o gz tri gb bf f s spb wb 2 lv cnt true gt nt gd nd gk0 nk0 gb9 gbc gc nc (lg 1) (lg 2) 400 gta nta sw9 (lg 5) (lg 6) 300 gl nl (by first | assumption | omega | rfl | decide) (by first | assumption | omega | rfl | decide) (by first | assumption | omega | rfl | decide) (by first | assumption | omega | rfl | decide) (by first | assumption | omega | rfl | decide) (by first | assumption | omega | rfl | decide) H.size) tw_895 tw_876 tw_894 tw_893 tw_70 tw_878 (va_Decl.abs (GC_w877 hG)) ⟨by decide +kernel, by decide +kernel, by decide +kernel⟩ rfl ⟨rfl, rfl, Nat.le_of_ble_eq_true rfl, Nat.le_of_ble_eq_true rfl, Nat.le_of_ble_eq_true rfl, Nat.le_of_ble_eq_true rfl⟩ rfl (q0 := 8) rfl [8, 9, 10, 11, 12, 13, 14, 15, 16, 17, 18, 19, 20, 21, 0, 1, 2, 3, 4, 5, 22, 23, 6, 7] [24, 25] rfl rfl (by decide) rfl (Nat.le_of_ble_eq_true rfl) dX9_answer_61 (fun u H locs hq hP hD hS => ?_)
        obtain ⟨gt1_61, nt1_61, gd1_61, nd1_61, gk1_61, nk1_61, tri1_61, gb1_61, bf1_61, f1_61, s1_61, gbc1_61, gl1_61⟩ := u
        have hq : (qL gbc1_61 8 = ansCode2 (qL gb9 16) (qL gbc 8) (qL gc nc) (qL gta nta) sw9) ∧ (qL gl1_61 (nta + 8) = qL gta nta ++ (ansCode2 (qL gb9 16) (qL gbc 8) (qL gc nc) (qL gta nta) sw9).take 8) := hq
        obtain ⟨hbc_61, hl9_61⟩ := hq
        refine W.eq (g2 := F0 mm 64 ls []) rfl ?_
        have hP : va_P D vwCl [(lg 0, oG lg ya yb wa wb o v ct), (yb 0, oK yb 2 ln), (o 0, oO o), (o 1, oR (o 2) nt1_61), (o 2, aZ ta 528 gt1_61), (o 3, oR (o 4) nd1_61), (o 4, aZ ta 300 gd1_61), (o 5, oR (o 6) nk1_61), (o 6, aZ ta 16 gk1_61), (o 11, oD (o 12) (o 13) (o 14) (o 15) (o 16) tri1_61), (o 12, aZ ta 8 gb1_61), (o 13, aZ ta 8 bf1_61), (o 14, aI ta 512 spb), (o 15, aJ ta 16 f1_61), (o 16, aJ ta 16 s1_61), (wb 0, oW wb 2 lv cnt true), (wb 5, oR (wb 6) 16), (wb 6, aZ ta 32 gb9), (wb 17, oR (wb 18) 8), (wb 18, aZ ta 8 gbc1_61), (wb 19, oR (wb 20) nc), (wb 20, aZ ta 204 gc), (lg 1, oR (lg 2) nta), (lg 2, aZ ta 400 gta), (lg 5, oR (lg 6) (nta + 8)), (lg 6, aZ ta 300 gl1_61)] H := hP
        have hD : va_D A [(lg 0, oG lg ya yb wa wb o v ct), (yb 0, oK yb 2 ln), (o 0, oO o), (o 1, oR (o 2) nt1_61), (o 2, aZ ta 528 gt1_61), (o 3, oR (o 4) nd1_61), (o 4, aZ ta 300 gd1_61), (o 5, oR (o 6) nk1_61), (o 6, aZ ta 16 gk1_61), (o 11, oD (o 12) (o 13) (o 14) (o 15) (o 16) tri1_61), (o 12, aZ ta 8 gb1_61), (o 13, aZ ta 8 bf1_61), (o 14, aI ta 512 spb), (o 15, aJ ta 16 f1_61), (o 16, aJ ta 16 s1_61), (wb 0, oW wb 2 lv cnt true), (wb 5, oR (wb 6) 16), (wb 6, aZ ta 32 gb9), (wb 17, oR (wb 18) 8), (wb 18, aZ ta 8 gbc1_61), (wb 19, oR (wb 20) nc), (wb 20, aZ ta 204 gc), (lg 1, oR (lg 2) nta), (lg 2, aZ ta 400 gta), (lg 5, oR (lg 6) (nta + 8)), (lg 6, aZ ta 300 gl1_61)] := hD
        refine lv_aload_n (pc := 64) hx hb dX9_answer_64 rfl (lv_at hl 1 rfl) ?_
        refine va_get (pc := 65) (D := D) (ci := 7) (v := .ref (lg 1)) (C := RX9) (T := TX9) (N := 11) hx hb hts iu9 hown hK hP 0 rfl rfl 0 (by decide) (hts _ tw_352) (fun _ h9 => h9) rfl dX9_answer_65 ?_
        refine cs_V (pc := 68) (idx := 88) (n := 0) (wr := [(lg 0, oG lg ya yb wa wb o v ct), (yb 0, oK yb 2 ln), (o 0, oO o), (o 1, oR (o 2) nt1_61), (o 2, aZ ta 528 gt1_61), (o 3, oR (o 4) nd1_61), (o 4, aZ ta 300 gd1_61), (o 5, oR (o 6) nk1_61), (o 6, aZ ta 16 gk1_61), (o 11, oD (o 12) (o 13) (o 14) (o 15) (o 16) tri1_61), (o 12, aZ ta 8 gb1_61), (o 13, aZ ta 8 bf1_61), (o 14, aI ta 512 spb), (o 15, aJ ta 16 f1_61), (o 16, aJ ta 16 s1_61), (wb 0, oW wb 2 lv cnt true), (wb 5, oR (wb 6) 16), (wb 6, aZ ta 32 gb9), (wb 17, oR (wb 18) 8), (wb 18, aZ ta 8 gbc1_61), (wb 19, oR (wb 20) nc), (wb 20, aZ ta 204 gc), (lg 5, oR (lg 6) (nta + 8)), (lg 6, aZ ta 300 gl1_61)]) (As := []) (rest := []) (ci := 5) hx hb hml hown hts hGok hK hA hG hl.1 hP hD hS (ct_X6_clear ll D ta hGok (lg 1) (lg 2) 400 gta nta  H.size) tw_441 tw_447 tw_439 tw_440 tw_66 hdX6_clear rfl ⟨rfl, rfl, Nat.le_of_ble_eq_true rfl, Nat.le_of_ble_eq_true rfl, Nat.le_of_ble_eq_true rfl, Nat.le_of_ble_eq_true rfl⟩ rfl rfl (q0 := 22) rfl [22, 23] [0, 1, 2, 3, 4, 5, 6, 7, 8, 9, 10, 11, 12, 13, 14, 15, 16, 17, 18, 19, 20, 21, 24, 25] rfl rfl (by decide) rfl (Nat.le_of_ble_eq_true rfl) dX9_answer_68 (fun u H locs hq hP hD hS => ?_)
        refine W.eq (g2 := F0 mm 71 ls []) rfl ?_
        have hP : va_P D vwCl [(lg 0, oG lg ya yb wa wb o v ct), (yb 0, oK yb 2 ln), (o 0, oO o), (o 1, oR (o 2) nt1_61), (o 2, aZ ta 528 gt1_61), (o 3, oR (o 4) nd1_61), (o 4, aZ ta 300 gd1_61), (o 5, oR (o 6) nk1_61), (o 6, aZ ta 16 gk1_61), (o 11, oD (o 12) (o 13) (o 14) (o 15) (o 16) tri1_61), (o 12, aZ ta 8 gb1_61), (o 13, aZ ta 8 bf1_61), (o 14, aI ta 512 spb), (o 15, aJ ta 16 f1_61), (o 16, aJ ta 16 s1_61), (wb 0, oW wb 2 lv cnt true), (wb 5, oR (wb 6) 16), (wb 6, aZ ta 32 gb9), (wb 17, oR (wb 18) 8), (wb 18, aZ ta 8 gbc1_61), (wb 19, oR (wb 20) nc), (wb 20, aZ ta 204 gc), (lg 5, oR (lg 6) (nta + 8)), (lg 6, aZ ta 300 gl1_61), (lg 1, oR (lg 2) 0), (lg 2, aZ ta 400 gta)] H := hP
        have hD : va_D A [(lg 0, oG lg ya yb wa wb o v ct), (yb 0, oK yb 2 ln), (o 0, oO o), (o 1, oR (o 2) nt1_61), (o 2, aZ ta 528 gt1_61), (o 3, oR (o 4) nd1_61), (o 4, aZ ta 300 gd1_61), (o 5, oR (o 6) nk1_61), (o 6, aZ ta 16 gk1_61), (o 11, oD (o 12) (o 13) (o 14) (o 15) (o 16) tri1_61), (o 12, aZ ta 8 gb1_61), (o 13, aZ ta 8 bf1_61), (o 14, aI ta 512 spb), (o 15, aJ ta 16 f1_61), (o 16, aJ ta 16 s1_61), (wb 0, oW wb 2 lv cnt true), (wb 5, oR (wb 6) 16), (wb 6, aZ ta 32 gb9), (wb 17, oR (wb 18) 8), (wb 18, aZ ta 8 gbc1_61), (wb 19, oR (wb 20) nc), (wb 20, aZ ta 204 gc), (lg 5, oR (lg 6) (nta + 8)), (lg 6, aZ ta 300 gl1_61), (lg 1, oR (lg 2) 0), (lg 2, aZ ta 400 gta)] := hD
        refine lv_iload_n (pc := 71) hx hb dX9_answer_71 rfl (lv_at hl 0 rfl) ?_
        refine lv_if_eq (pc := 72) (tgt := 85) hx hb dX9_answer_72 (by decide) (fun c_5 => absurd c_5 (by decide)) (fun _ => ?_)
        refine lv_aload_n (pc := 75) hx hb dX9_answer_75 rfl (lv_at hl 1 rfl) ?_
        refine va_get (pc := 76) (D := D) (ci := 7) (v := .ref (lg 5)) (C := RX9) (T := TX9) (N := 11) hx hb hts iu9 hown hK hP 0 rfl rfl 2 (by decide) (hts _ tw_354) (fun _ h9 => h9) rfl dX9_answer_76 ?_
        refine cs_V (pc := 79) (idx := 64) (n := 0) (wr := [(lg 0, oG lg ya yb wa wb o v ct), (yb 0, oK yb 2 ln), (o 0, oO o), (o 1, oR (o 2) nt1_61), (o 2, aZ ta 528 gt1_61), (o 3, oR (o 4) nd1_61), (o 4, aZ ta 300 gd1_61), (o 5, oR (o 6) nk1_61), (o 6, aZ ta 16 gk1_61), (o 11, oD (o 12) (o 13) (o 14) (o 15) (o 16) tri1_61), (o 12, aZ ta 8 gb1_61), (o 13, aZ ta 8 bf1_61), (o 14, aI ta 512 spb), (o 15, aJ ta 16 f1_61), (o 16, aJ ta 16 s1_61), (wb 0, oW wb 2 lv cnt true), (wb 5, oR (wb 6) 16), (wb 6, aZ ta 32 gb9), (wb 17, oR (wb 18) 8), (wb 18, aZ ta 8 gbc1_61), (wb 19, oR (wb 20) nc), (wb 20, aZ ta 204 gc), (lg 1, oR (lg 2) 0), (lg 2, aZ ta 400 gta)]) (As := []) (rest := []) (ci := 5) hx hb hml hown hts hGok hK hA hG hl.1 hP hD hS (ct_X6_size ll D ta hGok (lg 5) (lg 6) 300 gl1_61 (nta + 8)  H.size) tw_393 tw_390 tw_391 tw_392 tw_66 hdX6_size rfl ⟨rfl, rfl, Nat.le_of_ble_eq_true rfl, Nat.le_of_ble_eq_true rfl, Nat.le_of_ble_eq_true rfl, Nat.le_of_ble_eq_true rfl⟩ rfl rfl (q0 := 22) rfl [22, 23] [0, 1, 2, 3, 4, 5, 6, 7, 8, 9, 10, 11, 12, 13, 14, 15, 16, 17, 18, 19, 20, 21, 24, 25] rfl rfl (by decide) rfl (Nat.le_of_ble_eq_true rfl) dX9_answer_79 (fun u H locs hq hP hD hS => ?_)
        refine W.eq (g2 := F0 mm 82 ls [.int (nI (nta + 8))]) rfl ?_
        have hP : va_P D vwCl [(lg 0, oG lg ya yb wa wb o v ct), (yb 0, oK yb 2 ln), (o 0, oO o), (o 1, oR (o 2) nt1_61), (o 2, aZ ta 528 gt1_61), (o 3, oR (o 4) nd1_61), (o 4, aZ ta 300 gd1_61), (o 5, oR (o 6) nk1_61), (o 6, aZ ta 16 gk1_61), (o 11, oD (o 12) (o 13) (o 14) (o 15) (o 16) tri1_61), (o 12, aZ ta 8 gb1_61), (o 13, aZ ta 8 bf1_61), (o 14, aI ta 512 spb), (o 15, aJ ta 16 f1_61), (o 16, aJ ta 16 s1_61), (wb 0, oW wb 2 lv cnt true), (wb 5, oR (wb 6) 16), (wb 6, aZ ta 32 gb9), (wb 17, oR (wb 18) 8), (wb 18, aZ ta 8 gbc1_61), (wb 19, oR (wb 20) nc), (wb 20, aZ ta 204 gc), (lg 1, oR (lg 2) 0), (lg 2, aZ ta 400 gta), (lg 5, oR (lg 6) (nta + 8)), (lg 6, aZ ta 300 gl1_61)] H := hP
        have hD : va_D A [(lg 0, oG lg ya yb wa wb o v ct), (yb 0, oK yb 2 ln), (o 0, oO o), (o 1, oR (o 2) nt1_61), (o 2, aZ ta 528 gt1_61), (o 3, oR (o 4) nd1_61), (o 4, aZ ta 300 gd1_61), (o 5, oR (o 6) nk1_61), (o 6, aZ ta 16 gk1_61), (o 11, oD (o 12) (o 13) (o 14) (o 15) (o 16) tri1_61), (o 12, aZ ta 8 gb1_61), (o 13, aZ ta 8 bf1_61), (o 14, aI ta 512 spb), (o 15, aJ ta 16 f1_61), (o 16, aJ ta 16 s1_61), (wb 0, oW wb 2 lv cnt true), (wb 5, oR (wb 6) 16), (wb 6, aZ ta 32 gb9), (wb 17, oR (wb 18) 8), (wb 18, aZ ta 8 gbc1_61), (wb 19, oR (wb 20) nc), (wb 20, aZ ta 204 gc), (lg 1, oR (lg 2) 0), (lg 2, aZ ta 400 gta), (lg 5, oR (lg 6) (nta + 8)), (lg 6, aZ ta 300 gl1_61)] := hD
        refine lv_goto (pc := 82) (tgt := 86) hx hb dX9_answer_82 (by decide) ?_
        have hq_6 : (qL gbc1_61 8 = ansCode2 (qL gb9 16) (qL gbc 8) (qL gc nc) (qL gta nta) sw9) ∧ (qL gl1_61 (nta + 8) = (qL gta nta) ++ (ansCode2 (qL gb9 16) (qL gbc 8) (qL gc nc) (qL gta nta) sw9).take 8) := by
          exact ⟨hbc_61, hl9_61⟩
        exact hret (⟨(gt1_61), (nt1_61), (gd1_61), (nd1_61), (gk1_61), (nk1_61), (tri1_61), (gb1_61), (bf1_61), (f1_61), (s1_61), (gbc1_61), (gl1_61)⟩ : (Nat → BitVec 8) × Nat × (Nat → BitVec 8) × Nat × (Nat → BitVec 8) × Nat × Bool × (Nat → BitVec 8) × (Nat → BitVec 8) × (Nat → Int64) × (Nat → Int64) × (Nat → BitVec 8) × (Nat → BitVec 8)) _ _ _ _ dX9_answer_86 hq_6 (hP.sub [0, 1, 15, 16, 17, 18, 19, 20, 21, 22, 23, 24, 25, 2, 3, 4, 5, 6, 7, 8, 9, 10, 11, 12, 13, 14] rfl) (hD.sub [0, 1, 15, 16, 17, 18, 19, 20, 21, 22, 23, 24, 25, 2, 3, 4, 5, 6, 7, 8, 9, 10, 11, 12, 13, 14] (by decide) rfl) hS
set_option maxHeartbeats 4000000 in
set_option maxRecDepth 100000 in
theorem ct_X9_accept_O (ll : Launch) (D : va_G) (ta : Nat → ClassId) (gs : Nat → Nat) (lg : Nat → Nat) (ya : Nat → Nat) (yb : Nat → Nat) (wa : Nat → Nat) (wb : Nat → Nat) (o : Nat → Nat) (v : Nat → Nat) (ct : Nat) (gz : Nat → BitVec 8) (tri : Bool) (gb : Nat → BitVec 8) (bf : Nat → BitVec 8) (f : Nat → Int64) (s : Nat → Int64) (spb : Nat → Int32) (gt : Nat → BitVec 8) (nt : Nat) (gd : Nat → BitVec 8) (nd : Nat) (gk0 : Nat → BitVec 8) (nk0 : Nat) (gb9 : Nat → BitVec 8) (gbc : Nat → BitVec 8) (gc : Nat → BitVec 8) (nc : Nat) (gl : Nat → BitVec 8) (nl : Nat) (gou : Nat → BitVec 8) (nou : Nat) (lv : Nat) (cnt : Nat) (ln : Nat) (sw9 : Nat) (hz : qL gz 16 = zeroL 16) (hsp : spbOK spb) (hsw : sw9 < 65536) (hlv : lv < 256) (hl16 : lv &&& 16 ≠ 0) (hnc : 4 ≤ nc ∧ nc ≤ 204) (hli : nl ≤ 300) (hou : nou ≤ 400) (sz : Nat) : CT ll yX9_accept cX9_accept 3 (some .int) ({ frames := 6, cells := 0, slots := 0, locals := 151 } : Room) D ta ((GC gs)) [.ref (lg 0), .int (nI sw9)] [(lg 0, oG lg ya yb wa wb o v ct), (ya 0, oK ya 2 ln), (wa 0, oW wa 2 lv cnt true), (wa 5, oR (wa 6) 16), (wa 6, aZ ta 32 gb9), (wa 17, oR (wa 18) 8), (wa 18, aZ ta 8 gbc), (wa 19, oR (wa 20) nc), (wa 20, aZ ta 204 gc), (lg 5, oR (lg 6) nl), (lg 6, aZ ta 300 gl), (lg 3, oR (lg 4) nou), (lg 4, aZ ta 400 gou), (o 0, oO o), (o 1, oR (o 2) nt), (o 2, aZ ta 528 gt), (o 3, oR (o 4) nd), (o 4, aZ ta 300 gd), (o 5, oR (o 6) nk0), (o 6, aZ ta 16 gk0), (o 11, oD (o 12) (o 13) (o 14) (o 15) (o 16) tri), (o 12, aZ ta 8 gb), (o 13, aZ ta 8 bf), (o 14, aI ta 512 spb), (o 15, aJ ta 16 f), (o 16, aJ ta 16 s)] sz (S := Bool × (Nat → BitVec 8) × Nat × (Nat → BitVec 8) × Nat × (Nat → BitVec 8) × Nat × Bool × (Nat → BitVec 8) × (Nat → BitVec 8) × (Nat → Int64) × (Nat → Int64) × (Nat → BitVec 8) × (Nat → BitVec 8) × Nat) (fun u => some (.int (qb u.1))) (fun u => (openA2 (qL gb9 16) (qL gbc 8) (qL gc nc) (qL gl nl) sw9 = if u.1 then some (qL u.2.2.2.2.2.2.2.2.2.2.2.2.2.1 u.2.2.2.2.2.2.2.2.2.2.2.2.2.2, qL u.2.2.2.2.2.2.2.2.2.2.2.2.1 8) else none) ∧ (u.1 = false → u.2.2.2.2.2.2.2.2.2.2.2.2.2.1 = gou ∧ u.2.2.2.2.2.2.2.2.2.2.2.2.2.2 = nou ∧ u.2.2.2.2.2.2.2.2.2.2.2.2.1 = gbc) ∧ (u.1 = true → u.2.2.2.2.2.2.2.2.2.2.2.2.2.2 ≤ 292)) (fun u => [(lg 0, oG lg ya yb wa wb o v ct), (ya 0, oK ya 2 ln), (wa 0, oW wa 2 lv cnt true), (wa 5, oR (wa 6) 16), (wa 6, aZ ta 32 gb9), (wa 17, oR (wa 18) 8), (wa 18, aZ ta 8 u.2.2.2.2.2.2.2.2.2.2.2.2.1), (wa 19, oR (wa 20) nc), (wa 20, aZ ta 204 gc), (lg 5, oR (lg 6) 0), (lg 6, aZ ta 300 gl), (lg 3, oR (lg 4) u.2.2.2.2.2.2.2.2.2.2.2.2.2.2), (lg 4, aZ ta 400 u.2.2.2.2.2.2.2.2.2.2.2.2.2.1), (o 0, oO o), (o 1, oR (o 2) u.2.2.1), (o 2, aZ ta 528 u.2.1), (o 3, oR (o 4) u.2.2.2.2.1), (o 4, aZ ta 300 u.2.2.2.1), (o 5, oR (o 6) u.2.2.2.2.2.2.1), (o 6, aZ ta 16 u.2.2.2.2.2.1), (o 11, oD (o 12) (o 13) (o 14) (o 15) (o 16) u.2.2.2.2.2.2.2.1), (o 12, aZ ta 8 u.2.2.2.2.2.2.2.2.1), (o 13, aZ ta 8 u.2.2.2.2.2.2.2.2.2.1), (o 14, aI ta 512 spb), (o 15, aJ ta 16 u.2.2.2.2.2.2.2.2.2.2.1), (o 16, aJ ta 16 u.2.2.2.2.2.2.2.2.2.2.2.1)]) 0 0 := by
  refine CT.of_i (r := fun u => qb u.1) rfl (by decide) (Nat.le_of_ble_eq_true rfl) ?_
  have hGok := GC_ok gs
  intro pp ee ss mm below meth kc A Q hx hb hml hown hin hts hK hA hsz hG hret H locs hP hD hS ls hl
  have hl : lv_has ls 3 [(0, .ref (lg 0)), (1, .int (nI sw9))] := hl
  refine lv_aload_n (pc := 0) hx hb dX9_accept_0 rfl (lv_at hl 0 rfl) ?_
  refine va_get (pc := 1) (D := D) (ci := 7) (v := .ref (wa 0)) (C := RX9) (T := TX9) (N := 11) hx hb hts iu9 hown hK hP 0 rfl rfl 6 (by decide) (hts _ tw_358) (fun _ h9 => h9) rfl dX9_accept_1 ?_
  refine cs_V (pc := 4) (idx := 183) (n := 0) (wr := [(lg 0, oG lg ya yb wa wb o v ct), (ya 0, oK ya 2 ln), (wa 5, oR (wa 6) 16), (wa 6, aZ ta 32 gb9), (wa 17, oR (wa 18) 8), (wa 18, aZ ta 8 gbc), (wa 19, oR (wa 20) nc), (wa 20, aZ ta 204 gc), (lg 5, oR (lg 6) nl), (lg 6, aZ ta 300 gl), (lg 3, oR (lg 4) nou), (lg 4, aZ ta 400 gou), (o 0, oO o), (o 1, oR (o 2) nt), (o 2, aZ ta 528 gt), (o 3, oR (o 4) nd), (o 4, aZ ta 300 gd), (o 5, oR (o 6) nk0), (o 6, aZ ta 16 gk0), (o 11, oD (o 12) (o 13) (o 14) (o 15) (o 16) tri), (o 12, aZ ta 8 gb), (o 13, aZ ta 8 bf), (o 14, aI ta 512 spb), (o 15, aJ ta 16 f), (o 16, aJ ta 16 s)]) (As := []) (rest := []) (ci := 6) hx hb hml hown hts hGok hK hA hG hl.1 hP hD hS (ct_X8_isAnswerable ll D ta gs wa 2 lv cnt true (by first | assumption | omega | rfl | decide) (by first | assumption | omega | rfl | decide) H.size) tw_870 tw_867 tw_868 tw_869 tw_68 hdX8_isAnswerable rfl ⟨rfl, rfl, Nat.le_of_ble_eq_true rfl, Nat.le_of_ble_eq_true rfl, Nat.le_of_ble_eq_true rfl, Nat.le_of_ble_eq_true rfl⟩ rfl rfl (q0 := 2) rfl [2] [0, 1, 3, 4, 5, 6, 7, 8, 9, 10, 11, 12, 13, 14, 15, 16, 17, 18, 19, 20, 21, 22, 23, 24, 25] rfl rfl (by decide) rfl (Nat.le_of_ble_eq_true rfl) dX9_accept_4 (fun u H locs hq hP hD hS => ?_)
  generalize u = z_4 at hq hP hD ⊢
  have hq : (z_4 = decide (2 = 2 ∧ lv &&& 16 ≠ 0 ∧ true = true)) := hq
  have hz_4 := hq
  refine W.eq (g2 := F0 mm 7 ls [.int (qb z_4)]) rfl ?_
  have hP : va_P D vwCl [(lg 0, oG lg ya yb wa wb o v ct), (ya 0, oK ya 2 ln), (wa 5, oR (wa 6) 16), (wa 6, aZ ta 32 gb9), (wa 17, oR (wa 18) 8), (wa 18, aZ ta 8 gbc), (wa 19, oR (wa 20) nc), (wa 20, aZ ta 204 gc), (lg 5, oR (lg 6) nl), (lg 6, aZ ta 300 gl), (lg 3, oR (lg 4) nou), (lg 4, aZ ta 400 gou), (o 0, oO o), (o 1, oR (o 2) nt), (o 2, aZ ta 528 gt), (o 3, oR (o 4) nd), (o 4, aZ ta 300 gd), (o 5, oR (o 6) nk0), (o 6, aZ ta 16 gk0), (o 11, oD (o 12) (o 13) (o 14) (o 15) (o 16) tri), (o 12, aZ ta 8 gb), (o 13, aZ ta 8 bf), (o 14, aI ta 512 spb), (o 15, aJ ta 16 f), (o 16, aJ ta 16 s), (wa 0, oW wa 2 lv cnt true)] H := hP
  have hD : va_D A [(lg 0, oG lg ya yb wa wb o v ct), (ya 0, oK ya 2 ln), (wa 5, oR (wa 6) 16), (wa 6, aZ ta 32 gb9), (wa 17, oR (wa 18) 8), (wa 18, aZ ta 8 gbc), (wa 19, oR (wa 20) nc), (wa 20, aZ ta 204 gc), (lg 5, oR (lg 6) nl), (lg 6, aZ ta 300 gl), (lg 3, oR (lg 4) nou), (lg 4, aZ ta 400 gou), (o 0, oO o), (o 1, oR (o 2) nt), (o 2, aZ ta 528 gt), (o 3, oR (o 4) nd), (o 4, aZ ta 300 gd), (o 5, oR (o 6) nk0), (o 6, aZ ta 16 gk0), (o 11, oD (o 12) (o 13) (o 14) (o 15) (o 16) tri), (o 12, aZ ta 8 gb), (o 13, aZ ta 8 bf), (o 14, aI ta 512 spb), (o 15, aJ ta 16 f), (o 16, aJ ta 16 s), (wa 0, oW wa 2 lv cnt true)] := hD
  refine lv_if_eq (pc := 7) (tgt := 17) hx hb dX9_accept_7 (by decide) (fun c_1 => ?_) (fun c_1 => ?_)
  · skip
    rw [q_beq] at c_1
    try rw [Bool.not_eq_false] at c_1
    rw [hz_4, decide_eq_true ⟨rfl, hl16, rfl⟩] at c_1; cases c_1
  · skip
    rw [q_beq] at c_1
    try rw [Bool.not_eq_false] at c_1
    refine lv_iload_n (pc := 10) hx hb dX9_accept_10 rfl (lv_at hl 1 rfl) ?_
    refine cs_S (pc := 11) (idx := 187) (n := 1) (wr := [(lg 0, oG lg ya yb wa wb o v ct), (ya 0, oK ya 2 ln), (wa 5, oR (wa 6) 16), (wa 6, aZ ta 32 gb9), (wa 17, oR (wa 18) 8), (wa 18, aZ ta 8 gbc), (wa 19, oR (wa 20) nc), (wa 20, aZ ta 204 gc), (lg 5, oR (lg 6) nl), (lg 6, aZ ta 300 gl), (lg 3, oR (lg 4) nou), (lg 4, aZ ta 400 gou), (o 0, oO o), (o 1, oR (o 2) nt), (o 2, aZ ta 528 gt), (o 3, oR (o 4) nd), (o 4, aZ ta 300 gd), (o 5, oR (o 6) nk0), (o 6, aZ ta 16 gk0), (o 11, oD (o 12) (o 13) (o 14) (o 15) (o 16) tri), (o 12, aZ ta 8 gb), (o 13, aZ ta 8 bf), (o 14, aI ta 512 spb), (o 15, aJ ta 16 f), (o 16, aJ ta 16 s), (wa 0, oW wa 2 lv cnt true)]) (As := [.int (nI sw9)]) (rest := []) hx hb hml hown hts hGok hK hA hG hl.1 hP hD hS (ct_X9_isSw ll D ta hGok (nI sw9)  H.size) tw_874 tw_872 tw_873 tw_65 hdX9_isSw rfl ⟨rfl, rfl, Nat.le_of_ble_eq_true rfl, Nat.le_of_ble_eq_true rfl, Nat.le_of_ble_eq_true rfl, Nat.le_of_ble_eq_true rfl⟩ [] [0, 1, 2, 3, 4, 5, 6, 7, 8, 9, 10, 11, 12, 13, 14, 15, 16, 17, 18, 19, 20, 21, 22, 23, 24, 25] rfl rfl (by decide) rfl (Nat.le_of_ble_eq_true rfl) dX9_accept_11 (fun u H locs hq hP hD hS => ?_)
    generalize u = z_11 at hq hP hD ⊢
    have hq : (z_11 = swB (nI sw9)) := hq
    have hz_11 := hq
    refine W.eq (g2 := F0 mm 14 ls [.int (qb z_11)]) rfl ?_
    have hP : va_P D vwCl [(lg 0, oG lg ya yb wa wb o v ct), (ya 0, oK ya 2 ln), (wa 5, oR (wa 6) 16), (wa 6, aZ ta 32 gb9), (wa 17, oR (wa 18) 8), (wa 18, aZ ta 8 gbc), (wa 19, oR (wa 20) nc), (wa 20, aZ ta 204 gc), (lg 5, oR (lg 6) nl), (lg 6, aZ ta 300 gl), (lg 3, oR (lg 4) nou), (lg 4, aZ ta 400 gou), (o 0, oO o), (o 1, oR (o 2) nt), (o 2, aZ ta 528 gt), (o 3, oR (o 4) nd), (o 4, aZ ta 300 gd), (o 5, oR (o 6) nk0), (o 6, aZ ta 16 gk0), (o 11, oD (o 12) (o 13) (o 14) (o 15) (o 16) tri), (o 12, aZ ta 8 gb), (o 13, aZ ta 8 bf), (o 14, aI ta 512 spb), (o 15, aJ ta 16 f), (o 16, aJ ta 16 s), (wa 0, oW wa 2 lv cnt true)] H := hP
    have hD : va_D A [(lg 0, oG lg ya yb wa wb o v ct), (ya 0, oK ya 2 ln), (wa 5, oR (wa 6) 16), (wa 6, aZ ta 32 gb9), (wa 17, oR (wa 18) 8), (wa 18, aZ ta 8 gbc), (wa 19, oR (wa 20) nc), (wa 20, aZ ta 204 gc), (lg 5, oR (lg 6) nl), (lg 6, aZ ta 300 gl), (lg 3, oR (lg 4) nou), (lg 4, aZ ta 400 gou), (o 0, oO o), (o 1, oR (o 2) nt), (o 2, aZ ta 528 gt), (o 3, oR (o 4) nd), (o 4, aZ ta 300 gd), (o 5, oR (o 6) nk0), (o 6, aZ ta 16 gk0), (o 11, oD (o 12) (o 13) (o 14) (o 15) (o 16) tri), (o 12, aZ ta 8 gb), (o 13, aZ ta 8 bf), (o 14, aI ta 512 spb), (o 15, aJ ta 16 f), (o 16, aJ ta 16 s), (wa 0, oW wa 2 lv cnt true)] := hD
    refine lv_if_ne (pc := 14) (tgt := 19) hx hb dX9_accept_14 (by decide) (fun c_2 => ?_) (fun c_2 => ?_)
    · skip
      rw [q_beq] at c_2
      try rw [Bool.not_eq_false] at c_2
      refine lv_aload_n (pc := 19) hx hb dX9_accept_19 rfl (lv_at hl 0 rfl) ?_
      refine lv_aload_n (pc := 20) hx hb dX9_accept_20 rfl (lv_at hl 0 rfl) ?_
      refine va_get (pc := 21) (D := D) (ci := 7) (v := .ref (ya 0)) (C := RX9) (T := TX9) (N := 11) hx hb hts iu9 hown hK hP 0 rfl rfl 4 (by decide) (hts _ tw_356) (fun _ h9 => h9) rfl dX9_accept_21 ?_
      refine cs_V (pc := 24) (idx := 109) (n := 1) (wr := [(wa 5, oR (wa 6) 16), (wa 6, aZ ta 32 gb9), (wa 17, oR (wa 18) 8), (wa 18, aZ ta 8 gbc), (wa 19, oR (wa 20) nc), (wa 20, aZ ta 204 gc), (lg 5, oR (lg 6) nl), (lg 6, aZ ta 300 gl), (lg 3, oR (lg 4) nou), (lg 4, aZ ta 400 gou), (o 0, oO o), (o 1, oR (o 2) nt), (o 2, aZ ta 528 gt), (o 3, oR (o 4) nd), (o 4, aZ ta 300 gd), (o 5, oR (o 6) nk0), (o 6, aZ ta 16 gk0), (o 11, oD (o 12) (o 13) (o 14) (o 15) (o 16) tri), (o 12, aZ ta 8 gb), (o 13, aZ ta 8 bf), (o 14, aI ta 512 spb), (o 15, aJ ta 16 f), (o 16, aJ ta 16 s), (wa 0, oW wa 2 lv cnt true)]) (As := [.ref (ya 0)]) (rest := []) (ci := 7) hx hb hml hown hts hGok hK hA hG hl.1 hP hD hS (ct_X9_ruleOf_2 ll D ta gs lg ya yb wa wb o v ct ya 2 ln (by first | assumption | omega | rfl | decide) H.size) tw_489 tw_486 tw_488 tw_2 tw_65 hdX9_ruleOf rfl ⟨rfl, rfl, Nat.le_of_ble_eq_true rfl, Nat.le_of_ble_eq_true rfl, Nat.le_of_ble_eq_true rfl, Nat.le_of_ble_eq_true rfl⟩ rfl rfl (q0 := 0) rfl [0, 1] [2, 3, 4, 5, 6, 7, 8, 9, 10, 11, 12, 13, 14, 15, 16, 17, 18, 19, 20, 21, 22, 23, 24, 25] rfl rfl (by decide) rfl (Nat.le_of_ble_eq_true rfl) dX9_accept_24 (fun u H locs hq hP hD hS => ?_)
      refine W.eq (g2 := F0 mm 27 ls [.ref (o 0)]) rfl ?_
      have hP : va_P D vwCl [(wa 5, oR (wa 6) 16), (wa 6, aZ ta 32 gb9), (wa 17, oR (wa 18) 8), (wa 18, aZ ta 8 gbc), (wa 19, oR (wa 20) nc), (wa 20, aZ ta 204 gc), (lg 5, oR (lg 6) nl), (lg 6, aZ ta 300 gl), (lg 3, oR (lg 4) nou), (lg 4, aZ ta 400 gou), (o 0, oO o), (o 1, oR (o 2) nt), (o 2, aZ ta 528 gt), (o 3, oR (o 4) nd), (o 4, aZ ta 300 gd), (o 5, oR (o 6) nk0), (o 6, aZ ta 16 gk0), (o 11, oD (o 12) (o 13) (o 14) (o 15) (o 16) tri), (o 12, aZ ta 8 gb), (o 13, aZ ta 8 bf), (o 14, aI ta 512 spb), (o 15, aJ ta 16 f), (o 16, aJ ta 16 s), (wa 0, oW wa 2 lv cnt true), (lg 0, oG lg ya yb wa wb o v ct), (ya 0, oK ya 2 ln)] H := hP
      have hD : va_D A [(wa 5, oR (wa 6) 16), (wa 6, aZ ta 32 gb9), (wa 17, oR (wa 18) 8), (wa 18, aZ ta 8 gbc), (wa 19, oR (wa 20) nc), (wa 20, aZ ta 204 gc), (lg 5, oR (lg 6) nl), (lg 6, aZ ta 300 gl), (lg 3, oR (lg 4) nou), (lg 4, aZ ta 400 gou), (o 0, oO o), (o 1, oR (o 2) nt), (o 2, aZ ta 528 gt), (o 3, oR (o 4) nd), (o 4, aZ ta 300 gd), (o 5, oR (o 6) nk0), (o 6, aZ ta 16 gk0), (o 11, oD (o 12) (o 13) (o 14) (o 15) (o 16) tri), (o 12, aZ ta 8 gb), (o 13, aZ ta 8 bf), (o 14, aI ta 512 spb), (o 15, aJ ta 16 f), (o 16, aJ ta 16 s), (wa 0, oW wa 2 lv cnt true), (lg 0, oG lg ya yb wa wb o v ct), (ya 0, oK ya 2 ln)] := hD
      refine lv_aload_n (pc := 27) hx hb dX9_accept_27 rfl (lv_at hl 0 rfl) ?_
      refine va_get (pc := 28) (D := D) (ci := 7) (v := .ref (wa 0)) (C := RX9) (T := TX9) (N := 11) hx hb hts iu9 hown hK hP 24 rfl rfl 6 (by decide) (hts _ tw_358) (fun _ h9 => h9) rfl dX9_accept_28 ?_
      refine lv_aload_n (pc := 31) hx hb dX9_accept_31 rfl (lv_at hl 0 rfl) ?_
      refine va_get (pc := 32) (D := D) (ci := 7) (v := .ref (lg 5)) (C := RX9) (T := TX9) (N := 11) hx hb hts iu9 hown hK hP 24 rfl rfl 2 (by decide) (hts _ tw_354) (fun _ h9 => h9) rfl dX9_accept_32 ?_
      refine lv_iload_n (pc := 35) hx hb dX9_accept_35 rfl (lv_at hl 1 rfl) ?_
      refine lv_aload_n (pc := 36) hx hb dX9_accept_36 rfl (lv_at hl 0 rfl) ?_
      refine va_get (pc := 37) (D := D) (ci := 7) (v := .ref (lg 3)) (C := RX9) (T := TX9) (N := 11) hx hb hts iu9 hown hK hP 24 rfl rfl 1 (by decide) (hts _ tw_353) (fun _ h9 => h9) rfl dX9_accept_37 ?_
      refine cs_U (pc := 40) (idx := 194) (n := 4) (wr := [(lg 0, oG lg ya yb wa wb o v ct), (ya 0, oK ya 2 ln)]) (As := [.ref (wa 0), .ref (lg 5), .int (nI sw9), .ref (lg 3)]) (rest := []) (ci := 4) (x := ⟨"LineGuard$Rule", "openAnswer", "(LLineGuard$Session;LLineGuard$Row;ILLineGuard$Row;)Z"⟩) (owner := "LineGuard$Rule") hx hb hml hown hts hGok hK hA hG hl.1 hP hD hS (ct_X5_openAnswer ll D ta gs o gz tri gb bf f s spb wa 2 lv cnt true gt nt gd nd gk0 nk0 gb9 gbc gc nc (lg 5) (lg 6) 300 gl nl sw9 (lg 3) (lg 4) 400 gou nou (by first | assumption | omega | rfl | decide) (by first | assumption | omega | rfl | decide) (by first | assumption | omega | rfl | decide) (by first | assumption | omega | rfl | decide) (by first | assumption | omega | rfl | decide) (by first | assumption | omega | rfl | decide) H.size) tw_923 tw_909 tw_922 tw_921 tw_70 tw_911 (va_Decl.abs (GC_w910 hG)) ⟨by decide +kernel, by decide +kernel, by decide +kernel⟩ rfl ⟨rfl, rfl, Nat.le_of_ble_eq_true rfl, Nat.le_of_ble_eq_true rfl, Nat.le_of_ble_eq_true rfl, Nat.le_of_ble_eq_true rfl⟩ rfl (q0 := 10) rfl [10, 11, 12, 13, 14, 15, 16, 17, 18, 19, 20, 21, 22, 23, 0, 1, 2, 3, 4, 5, 6, 7, 8, 9] [24, 25] rfl rfl (by decide) rfl (Nat.le_of_ble_eq_true rfl) dX9_accept_40 (fun u H locs hq hP hD hS => ?_)
      obtain ⟨z_40, gt1_40, nt1_40, gd1_40, nd1_40, gk1_40, nk1_40, tri1_40, gb1_40, bf1_40, f1_40, s1_40, gbc1_40, gou1_40, nou1_40⟩ := u
      have hq : (openA2 (qL gb9 16) (qL gbc 8) (qL gc nc) (qL gl nl) sw9 = if z_40 then some (qL gou1_40 nou1_40, qL gbc1_40 8) else none) ∧ (z_40 = false → gou1_40 = gou ∧ nou1_40 = nou ∧ gbc1_40 = gbc) ∧ (z_40 = true → nou1_40 ≤ 292) := hq
      obtain ⟨hz_40, hf_40, hno_40⟩ := hq
      refine W.eq (g2 := F0 mm 43 ls [.int (qb z_40)]) rfl ?_
      have hP : va_P D vwCl [(lg 0, oG lg ya yb wa wb o v ct), (ya 0, oK ya 2 ln), (o 0, oO o), (o 1, oR (o 2) nt1_40), (o 2, aZ ta 528 gt1_40), (o 3, oR (o 4) nd1_40), (o 4, aZ ta 300 gd1_40), (o 5, oR (o 6) nk1_40), (o 6, aZ ta 16 gk1_40), (o 11, oD (o 12) (o 13) (o 14) (o 15) (o 16) tri1_40), (o 12, aZ ta 8 gb1_40), (o 13, aZ ta 8 bf1_40), (o 14, aI ta 512 spb), (o 15, aJ ta 16 f1_40), (o 16, aJ ta 16 s1_40), (wa 0, oW wa 2 lv cnt true), (wa 5, oR (wa 6) 16), (wa 6, aZ ta 32 gb9), (wa 17, oR (wa 18) 8), (wa 18, aZ ta 8 gbc1_40), (wa 19, oR (wa 20) nc), (wa 20, aZ ta 204 gc), (lg 5, oR (lg 6) nl), (lg 6, aZ ta 300 gl), (lg 3, oR (lg 4) nou1_40), (lg 4, aZ ta 400 gou1_40)] H := hP
      have hD : va_D A [(lg 0, oG lg ya yb wa wb o v ct), (ya 0, oK ya 2 ln), (o 0, oO o), (o 1, oR (o 2) nt1_40), (o 2, aZ ta 528 gt1_40), (o 3, oR (o 4) nd1_40), (o 4, aZ ta 300 gd1_40), (o 5, oR (o 6) nk1_40), (o 6, aZ ta 16 gk1_40), (o 11, oD (o 12) (o 13) (o 14) (o 15) (o 16) tri1_40), (o 12, aZ ta 8 gb1_40), (o 13, aZ ta 8 bf1_40), (o 14, aI ta 512 spb), (o 15, aJ ta 16 f1_40), (o 16, aJ ta 16 s1_40), (wa 0, oW wa 2 lv cnt true), (wa 5, oR (wa 6) 16), (wa 6, aZ ta 32 gb9), (wa 17, oR (wa 18) 8), (wa 18, aZ ta 8 gbc1_40), (wa 19, oR (wa 20) nc), (wa 20, aZ ta 204 gc), (lg 5, oR (lg 6) nl), (lg 6, aZ ta 300 gl), (lg 3, oR (lg 4) nou1_40), (lg 4, aZ ta 400 gou1_40)] := hD
      refine lv_istore_n (pc := 43) (lv' := [(2, .int (qb z_40)), (0, .ref (lg 0)), (1, .int (nI sw9))]) hx hb dX9_accept_43 rfl hl (by decide) rfl (fun ls hl => ?_)
      refine lv_aload_n (pc := 44) hx hb dX9_accept_44 rfl (lv_at hl 1 rfl) ?_
      refine va_get (pc := 45) (D := D) (ci := 7) (v := .ref (lg 5)) (C := RX9) (T := TX9) (N := 11) hx hb hts iu9 hown hK hP 0 rfl rfl 2 (by decide) (hts _ tw_354) (fun _ h9 => h9) rfl dX9_accept_45 ?_
      refine cs_V (pc := 48) (idx := 88) (n := 0) (wr := [(lg 0, oG lg ya yb wa wb o v ct), (ya 0, oK ya 2 ln), (o 0, oO o), (o 1, oR (o 2) nt1_40), (o 2, aZ ta 528 gt1_40), (o 3, oR (o 4) nd1_40), (o 4, aZ ta 300 gd1_40), (o 5, oR (o 6) nk1_40), (o 6, aZ ta 16 gk1_40), (o 11, oD (o 12) (o 13) (o 14) (o 15) (o 16) tri1_40), (o 12, aZ ta 8 gb1_40), (o 13, aZ ta 8 bf1_40), (o 14, aI ta 512 spb), (o 15, aJ ta 16 f1_40), (o 16, aJ ta 16 s1_40), (wa 0, oW wa 2 lv cnt true), (wa 5, oR (wa 6) 16), (wa 6, aZ ta 32 gb9), (wa 17, oR (wa 18) 8), (wa 18, aZ ta 8 gbc1_40), (wa 19, oR (wa 20) nc), (wa 20, aZ ta 204 gc), (lg 3, oR (lg 4) nou1_40), (lg 4, aZ ta 400 gou1_40)]) (As := []) (rest := []) (ci := 5) hx hb hml hown hts hGok hK hA hG hl.1 hP hD hS (ct_X6_clear ll D ta hGok (lg 5) (lg 6) 300 gl nl  H.size) tw_441 tw_447 tw_439 tw_440 tw_66 hdX6_clear rfl ⟨rfl, rfl, Nat.le_of_ble_eq_true rfl, Nat.le_of_ble_eq_true rfl, Nat.le_of_ble_eq_true rfl, Nat.le_of_ble_eq_true rfl⟩ rfl rfl (q0 := 22) rfl [22, 23] [0, 1, 2, 3, 4, 5, 6, 7, 8, 9, 10, 11, 12, 13, 14, 15, 16, 17, 18, 19, 20, 21, 24, 25] rfl rfl (by decide) rfl (Nat.le_of_ble_eq_true rfl) dX9_accept_48 (fun u H locs hq hP hD hS => ?_)
      refine W.eq (g2 := F0 mm 51 ls []) rfl ?_
      have hP : va_P D vwCl [(lg 0, oG lg ya yb wa wb o v ct), (ya 0, oK ya 2 ln), (o 0, oO o), (o 1, oR (o 2) nt1_40), (o 2, aZ ta 528 gt1_40), (o 3, oR (o 4) nd1_40), (o 4, aZ ta 300 gd1_40), (o 5, oR (o 6) nk1_40), (o 6, aZ ta 16 gk1_40), (o 11, oD (o 12) (o 13) (o 14) (o 15) (o 16) tri1_40), (o 12, aZ ta 8 gb1_40), (o 13, aZ ta 8 bf1_40), (o 14, aI ta 512 spb), (o 15, aJ ta 16 f1_40), (o 16, aJ ta 16 s1_40), (wa 0, oW wa 2 lv cnt true), (wa 5, oR (wa 6) 16), (wa 6, aZ ta 32 gb9), (wa 17, oR (wa 18) 8), (wa 18, aZ ta 8 gbc1_40), (wa 19, oR (wa 20) nc), (wa 20, aZ ta 204 gc), (lg 3, oR (lg 4) nou1_40), (lg 4, aZ ta 400 gou1_40), (lg 5, oR (lg 6) 0), (lg 6, aZ ta 300 gl)] H := hP
      have hD : va_D A [(lg 0, oG lg ya yb wa wb o v ct), (ya 0, oK ya 2 ln), (o 0, oO o), (o 1, oR (o 2) nt1_40), (o 2, aZ ta 528 gt1_40), (o 3, oR (o 4) nd1_40), (o 4, aZ ta 300 gd1_40), (o 5, oR (o 6) nk1_40), (o 6, aZ ta 16 gk1_40), (o 11, oD (o 12) (o 13) (o 14) (o 15) (o 16) tri1_40), (o 12, aZ ta 8 gb1_40), (o 13, aZ ta 8 bf1_40), (o 14, aI ta 512 spb), (o 15, aJ ta 16 f1_40), (o 16, aJ ta 16 s1_40), (wa 0, oW wa 2 lv cnt true), (wa 5, oR (wa 6) 16), (wa 6, aZ ta 32 gb9), (wa 17, oR (wa 18) 8), (wa 18, aZ ta 8 gbc1_40), (wa 19, oR (wa 20) nc), (wa 20, aZ ta 204 gc), (lg 3, oR (lg 4) nou1_40), (lg 4, aZ ta 400 gou1_40), (lg 5, oR (lg 6) 0), (lg 6, aZ ta 300 gl)] := hD
      refine lv_iload_n (pc := 51) hx hb dX9_accept_51 rfl (lv_at hl 0 rfl) ?_
      refine lv_if_eq (pc := 52) (tgt := 59) hx hb dX9_accept_52 (by decide) (fun c_3 => ?_) (fun c_3 => ?_)
      · skip
        rw [q_beq] at c_3
        try rw [Bool.not_eq_false] at c_3
        have hzz := c_3
        refine lv_iconst (pc := 59) (v := nI 0) hx hb dX9_accept_59 (by decide +kernel) ?_
        refine q_top (y := qb z_40) (by rw [hzz]; rfl) ?_
        have hq_4 : (openA2 (qL gb9 16) (qL gbc 8) (qL gc nc) (qL gl nl) sw9 = if z_40 then some (qL gou1_40 nou1_40, qL gbc1_40 8) else none) ∧ (z_40 = false → gou1_40 = gou ∧ nou1_40 = nou ∧ gbc1_40 = gbc) ∧ (z_40 = true → nou1_40 ≤ 292) := by
          exact ⟨hz_40, hf_40, hno_40⟩
        exact hret (⟨(z_40), (gt1_40), (nt1_40), (gd1_40), (nd1_40), (gk1_40), (nk1_40), (tri1_40), (gb1_40), (bf1_40), (f1_40), (s1_40), (gbc1_40), (gou1_40), (nou1_40)⟩ : Bool × (Nat → BitVec 8) × Nat × (Nat → BitVec 8) × Nat × (Nat → BitVec 8) × Nat × Bool × (Nat → BitVec 8) × (Nat → BitVec 8) × (Nat → Int64) × (Nat → Int64) × (Nat → BitVec 8) × (Nat → BitVec 8) × Nat) _ _ _ _ dX9_accept_60 hq_4 (hP.sub [0, 1, 15, 16, 17, 18, 19, 20, 21, 24, 25, 22, 23, 2, 3, 4, 5, 6, 7, 8, 9, 10, 11, 12, 13, 14] rfl) (hD.sub [0, 1, 15, 16, 17, 18, 19, 20, 21, 24, 25, 22, 23, 2, 3, 4, 5, 6, 7, 8, 9, 10, 11, 12, 13, 14] (by decide) rfl) hS
      · skip
        rw [q_beq] at c_3
        try rw [Bool.not_eq_false] at c_3
        have hzz := c_3
        refine lv_iconst (pc := 55) (v := nI 1) hx hb dX9_accept_55 (by decide +kernel) ?_
        refine lv_goto (pc := 56) (tgt := 60) hx hb dX9_accept_56 (by decide) ?_
        refine q_top (y := qb z_40) (by rw [hzz]; rfl) ?_
        have hq_5 : (openA2 (qL gb9 16) (qL gbc 8) (qL gc nc) (qL gl nl) sw9 = if z_40 then some (qL gou1_40 nou1_40, qL gbc1_40 8) else none) ∧ (z_40 = false → gou1_40 = gou ∧ nou1_40 = nou ∧ gbc1_40 = gbc) ∧ (z_40 = true → nou1_40 ≤ 292) := by
          exact ⟨hz_40, hf_40, hno_40⟩
        exact hret (⟨(z_40), (gt1_40), (nt1_40), (gd1_40), (nd1_40), (gk1_40), (nk1_40), (tri1_40), (gb1_40), (bf1_40), (f1_40), (s1_40), (gbc1_40), (gou1_40), (nou1_40)⟩ : Bool × (Nat → BitVec 8) × Nat × (Nat → BitVec 8) × Nat × (Nat → BitVec 8) × Nat × Bool × (Nat → BitVec 8) × (Nat → BitVec 8) × (Nat → Int64) × (Nat → Int64) × (Nat → BitVec 8) × (Nat → BitVec 8) × Nat) _ _ _ _ dX9_accept_60 hq_5 (hP.sub [0, 1, 15, 16, 17, 18, 19, 20, 21, 24, 25, 22, 23, 2, 3, 4, 5, 6, 7, 8, 9, 10, 11, 12, 13, 14] rfl) (hD.sub [0, 1, 15, 16, 17, 18, 19, 20, 21, 24, 25, 22, 23, 2, 3, 4, 5, 6, 7, 8, 9, 10, 11, 12, 13, 14] (by decide) rfl) hS
    · skip
      rw [q_beq] at c_2
      try rw [Bool.not_eq_false] at c_2
      rw [hz_11, sw_nI hsw] at c_2; cases c_2
theorem hdX9_seal : yX9_seal.cls ≠ "java/lang/invoke/MethodHandle" ∧ yX9_seal.cls ≠ "java/lang/invoke/VarHandle" ∧ (parseMethodDescriptor yX9_seal.desc).map (fun d => d.parameters.length) = some 2 := ⟨by decide +kernel, by decide +kernel, by decide +kernel⟩
theorem dX9_seal_0 : decode cX9_seal 0 = .ok (.aload_n 0, 1) := by decide +kernel
theorem dX9_seal_1 : decode cX9_seal 1 = .ok (.iload_n 1, 1) := by decide +kernel
theorem dX9_seal_2 : decode cX9_seal 2 = .ok (.invokevirtual 198, 3) := by decide +kernel
theorem dX9_seal_5 : decode cX9_seal 5 = .ok (.astore_n 3, 1) := by decide +kernel
theorem dX9_seal_6 : decode cX9_seal 6 = .ok (.aload_n 0, 1) := by decide +kernel
theorem dX9_seal_7 : decode cX9_seal 7 = .ok (.iload_n 1, 1) := by decide +kernel
theorem dX9_seal_8 : decode cX9_seal 8 = .ok (.ifCond .ne 10, 3) := by decide +kernel
theorem dX9_seal_11 : decode cX9_seal 11 = .ok (.aload_n 0, 1) := by decide +kernel
theorem dX9_seal_12 : decode cX9_seal 12 = .ok (.getfield 30, 3) := by decide +kernel
theorem dX9_seal_15 : decode cX9_seal 15 = .ok (.goto 7, 3) := by decide +kernel
theorem dX9_seal_18 : decode cX9_seal 18 = .ok (.aload_n 0, 1) := by decide +kernel
theorem dX9_seal_19 : decode cX9_seal 19 = .ok (.getfield 34, 3) := by decide +kernel
theorem dX9_seal_22 : decode cX9_seal 22 = .ok (.invokevirtual 109, 3) := by decide +kernel
theorem dX9_seal_25 : decode cX9_seal 25 = .ok (.astore 4, 2) := by decide +kernel
theorem dX9_seal_27 : decode cX9_seal 27 = .ok (.aload_n 0, 1) := by decide +kernel
theorem dX9_seal_28 : decode cX9_seal 28 = .ok (.getfield 14, 3) := by decide +kernel
theorem dX9_seal_31 : decode cX9_seal 31 = .ok (.invokevirtual 64, 3) := by decide +kernel
theorem dX9_seal_34 : decode cX9_seal 34 = .ok (.istore 5, 2) := by decide +kernel
theorem dX9_seal_36 : decode cX9_seal 36 = .ok (.aload_n 3, 1) := by decide +kernel
theorem dX9_seal_37 : decode cX9_seal 37 = .ok (.ifnull 29, 3) := by decide +kernel
theorem dX9_seal_40 : decode cX9_seal 40 = .ok (.aload_n 3, 1) := by decide +kernel
theorem dX9_seal_41 : decode cX9_seal 41 = .ok (.getfield 139, 3) := by decide +kernel
theorem dX9_seal_44 : decode cX9_seal 44 = .ok (.ifCond .eq 22, 3) := by decide +kernel
theorem dX9_seal_47 : decode cX9_seal 47 = .ok (.iload 5, 2) := by decide +kernel
theorem dX9_seal_49 : decode cX9_seal 49 = .ok (.ifCond .le 17, 3) := by decide +kernel
theorem dX9_seal_52 : decode cX9_seal 52 = .ok (.aload 4, 2) := by decide +kernel
theorem dX9_seal_54 : decode cX9_seal 54 = .ok (.iload 5, 2) := by decide +kernel
theorem dX9_seal_56 : decode cX9_seal 56 = .ok (.invokevirtual 202, 3) := by decide +kernel
theorem dX9_seal_59 : decode cX9_seal 59 = .ok (.ifCond .eq 7, 3) := by decide +kernel
theorem dX9_seal_62 : decode cX9_seal 62 = .ok (.iconst 1, 1) := by decide +kernel
theorem dX9_seal_63 : decode cX9_seal 63 = .ok (.goto 4, 3) := by decide +kernel
theorem dX9_seal_66 : decode cX9_seal 66 = .ok (.iconst 0, 1) := by decide +kernel
theorem dX9_seal_67 : decode cX9_seal 67 = .ok (.istore 6, 2) := by decide +kernel
theorem dX9_seal_69 : decode cX9_seal 69 = .ok (.iload 6, 2) := by decide +kernel
theorem dX9_seal_71 : decode cX9_seal 71 = .ok (.ifCond .eq 28, 3) := by decide +kernel
theorem dX9_seal_74 : decode cX9_seal 74 = .ok (.aload_n 0, 1) := by decide +kernel
theorem dX9_seal_75 : decode cX9_seal 75 = .ok (.getfield 18, 3) := by decide +kernel
theorem dX9_seal_78 : decode cX9_seal 78 = .ok (.aload_n 0, 1) := by decide +kernel
theorem dX9_seal_79 : decode cX9_seal 79 = .ok (.getfield 14, 3) := by decide +kernel
theorem dX9_seal_82 : decode cX9_seal 82 = .ok (.invokevirtual 84, 3) := by decide +kernel
theorem dX9_seal_85 : decode cX9_seal 85 = .ok (.aload 4, 2) := by decide +kernel
theorem dX9_seal_87 : decode cX9_seal 87 = .ok (.aload_n 3, 1) := by decide +kernel
theorem dX9_seal_88 : decode cX9_seal 88 = .ok (.getfield 205, 3) := by decide +kernel
theorem dX9_seal_91 : decode cX9_seal 91 = .ok (.aload_n 0, 1) := by decide +kernel
theorem dX9_seal_92 : decode cX9_seal 92 = .ok (.getfield 18, 3) := by decide +kernel
theorem dX9_seal_95 : decode cX9_seal 95 = .ok (.iload_n 2, 1) := by decide +kernel
theorem dX9_seal_96 : decode cX9_seal 96 = .ok (.invokevirtual 208, 3) := by decide +kernel
theorem dX9_seal_99 : decode cX9_seal 99 = .ok (.aload_n 0, 1) := by decide +kernel
theorem dX9_seal_100 : decode cX9_seal 100 = .ok (.getfield 14, 3) := by decide +kernel
theorem dX9_seal_103 : decode cX9_seal 103 = .ok (.invokevirtual 88, 3) := by decide +kernel
theorem dX9_seal_106 : decode cX9_seal 106 = .ok (.iload 6, 2) := by decide +kernel
theorem dX9_seal_108 : decode cX9_seal 108 = .ok (.ifCond .eq 8, 3) := by decide +kernel
theorem dX9_seal_111 : decode cX9_seal 111 = .ok (.iload 5, 2) := by decide +kernel
theorem dX9_seal_113 : decode cX9_seal 113 = .ok (.goto 4, 3) := by decide +kernel
theorem dX9_seal_116 : decode cX9_seal 116 = .ok (.iconst (-1), 1) := by decide +kernel
theorem dX9_seal_117 : decode cX9_seal 117 = .ok (.ireturn, 1) := by decide +kernel
set_option maxHeartbeats 4000000 in
set_option maxRecDepth 100000 in
theorem ct_X9_seal_no_N (ll : Launch) (D : va_G) (ta : Nat → ClassId) (gs : Nat → Nat) (lg : Nat → Nat) (ya : Nat → Nat) (yb : Nat → Nat) (wa : Nat → Nat) (wb : Nat → Nat) (o : Nat → Nat) (v : Nat → Nat) (ct : Nat) (gta : Nat → BitVec 8) (nta : Nat) (ln : Nat) (s9 : Int32) (β : Bool) (hta : nta ≤ 400) (hi0 : ¬ s9 = nI 0) (hi1 : ¬ s9 = nI 1) (sz : Nat) : CT ll yX9_seal cX9_seal 7 (some .int) ({ frames := 4, cells := 0, slots := 0, locals := 106 } : Room) D ta ((GC gs)) [.ref (lg 0), .int s9, .int (qb β)] [(lg 0, oG lg ya yb wa wb o v ct), (yb 0, oK yb 3 ln), (lg 1, oR (lg 2) nta), (lg 2, aZ ta 400 gta)] sz (S := Int32) (fun u => some (.int u)) (fun u => ((u : Int32) = -1)) (fun u => [(lg 0, oG lg ya yb wa wb o v ct), (yb 0, oK yb 3 ln), (lg 1, oR (lg 2) 0), (lg 2, aZ ta 400 gta)]) 0 0 := by
  refine CT.of_i (r := fun u => u) rfl (by decide) (Nat.le_of_ble_eq_true rfl) ?_
  have hGok := GC_ok gs
  intro pp ee ss mm below meth kc A Q hx hb hml hown hin hts hK hA hsz hG hret H locs hP hD hS ls hl
  have hl : lv_has ls 7 [(0, .ref (lg 0)), (1, .int s9), (2, .int (qb β))] := hl
  refine lv_aload_n (pc := 0) hx hb dX9_seal_0 rfl (lv_at hl 0 rfl) ?_
  refine lv_iload_n (pc := 1) hx hb dX9_seal_1 rfl (lv_at hl 1 rfl) ?_
  refine cs_V (pc := 2) (idx := 198) (n := 1) (wr := [(yb 0, oK yb 3 ln), (lg 1, oR (lg 2) nta), (lg 2, aZ ta 400 gta)]) (As := [.int s9]) (rest := []) (ci := 7) hx hb hml hown hts hGok hK hA hG hl.1 hP hD hS (ct_X9_sessionOf_no ll D ta hGok lg ya yb wa wb o v ct s9 (by first | assumption | omega | rfl | decide) (by first | assumption | omega | rfl | decide) H.size) tw_934 tw_931 tw_933 tw_25 tw_65 hdX9_sessionOf rfl ⟨rfl, rfl, Nat.le_of_ble_eq_true rfl, Nat.le_of_ble_eq_true rfl, Nat.le_of_ble_eq_true rfl, Nat.le_of_ble_eq_true rfl⟩ rfl rfl (q0 := 0) rfl [0] [1, 2, 3] rfl rfl (by decide) rfl (Nat.le_of_ble_eq_true rfl) dX9_seal_2 (fun u H locs hq hP hD hS => ?_)
  refine W.eq (g2 := F0 mm 5 ls [.null]) rfl ?_
  have hP : va_P D vwCl [(yb 0, oK yb 3 ln), (lg 1, oR (lg 2) nta), (lg 2, aZ ta 400 gta), (lg 0, oG lg ya yb wa wb o v ct)] H := hP
  have hD : va_D A [(yb 0, oK yb 3 ln), (lg 1, oR (lg 2) nta), (lg 2, aZ ta 400 gta), (lg 0, oG lg ya yb wa wb o v ct)] := hD
  refine lv_astore_nN (pc := 5) (lv' := [(3, .null), (0, .ref (lg 0)), (1, .int s9), (2, .int (qb β))]) hx hb dX9_seal_5 rfl hl (by decide) rfl (fun ls hl => ?_)
  refine lv_aload_n (pc := 6) hx hb dX9_seal_6 rfl (lv_at hl 1 rfl) ?_
  refine lv_iload_n (pc := 7) hx hb dX9_seal_7 rfl (lv_at hl 2 rfl) ?_
  refine lv_if_ne (pc := 8) (tgt := 18) hx hb dX9_seal_8 (by decide) (fun c_1 => ?_) (fun c_1 => ?_)
  · skip
    refine lv_aload_n (pc := 18) hx hb dX9_seal_18 rfl (lv_at hl 1 rfl) ?_
    refine va_get (pc := 19) (D := D) (ci := 7) (v := .ref (yb 0)) (C := RX9) (T := TX9) (N := 11) hx hb hts iu9 hown hK hP 3 rfl rfl 5 (by decide) (hts _ tw_357) (fun _ h9 => h9) rfl dX9_seal_19 ?_
    refine cs_V (pc := 22) (idx := 109) (n := 1) (wr := [(lg 1, oR (lg 2) nta), (lg 2, aZ ta 400 gta)]) (As := [.ref (yb 0)]) (rest := []) (ci := 7) hx hb hml hown hts hGok hK hA hG hl.1 hP hD hS (ct_X9_ruleOf_3 ll D ta gs lg ya yb wa wb o v ct yb ln  H.size) tw_489 tw_486 tw_488 tw_2 tw_65 hdX9_ruleOf rfl ⟨rfl, rfl, Nat.le_of_ble_eq_true rfl, Nat.le_of_ble_eq_true rfl, Nat.le_of_ble_eq_true rfl, Nat.le_of_ble_eq_true rfl⟩ rfl rfl (q0 := 3) rfl [3, 0] [1, 2] rfl rfl (by decide) rfl (Nat.le_of_ble_eq_true rfl) dX9_seal_22 (fun u H locs hq hP hD hS => ?_)
    refine W.eq (g2 := F0 mm 25 ls [.ref (v 0)]) rfl ?_
    have hP : va_P D vwCl [(lg 1, oR (lg 2) nta), (lg 2, aZ ta 400 gta), (lg 0, oG lg ya yb wa wb o v ct), (yb 0, oK yb 3 ln)] H := hP
    have hD : va_D A [(lg 1, oR (lg 2) nta), (lg 2, aZ ta 400 gta), (lg 0, oG lg ya yb wa wb o v ct), (yb 0, oK yb 3 ln)] := hD
    refine lv_astore (pc := 25) (lv' := [(4, .ref (v 0)), (3, .null), (0, .ref (lg 0)), (1, .int s9), (2, .int (qb β))]) hx hb dX9_seal_25 hl (by decide) rfl (fun ls hl => ?_)
    refine lv_aload_n (pc := 27) hx hb dX9_seal_27 rfl (lv_at hl 2 rfl) ?_
    refine va_get (pc := 28) (D := D) (ci := 7) (v := .ref (lg 1)) (C := RX9) (T := TX9) (N := 11) hx hb hts iu9 hown hK hP 2 rfl rfl 0 (by decide) (hts _ tw_352) (fun _ h9 => h9) rfl dX9_seal_28 ?_
    refine cs_V (pc := 31) (idx := 64) (n := 0) (wr := [(lg 0, oG lg ya yb wa wb o v ct), (yb 0, oK yb 3 ln)]) (As := []) (rest := []) (ci := 5) hx hb hml hown hts hGok hK hA hG hl.1 hP hD hS (ct_X6_size ll D ta hGok (lg 1) (lg 2) 400 gta nta  H.size) tw_393 tw_390 tw_391 tw_392 tw_66 hdX6_size rfl ⟨rfl, rfl, Nat.le_of_ble_eq_true rfl, Nat.le_of_ble_eq_true rfl, Nat.le_of_ble_eq_true rfl, Nat.le_of_ble_eq_true rfl⟩ rfl rfl (q0 := 0) rfl [0, 1] [2, 3] rfl rfl (by decide) rfl (Nat.le_of_ble_eq_true rfl) dX9_seal_31 (fun u H locs hq hP hD hS => ?_)
    refine W.eq (g2 := F0 mm 34 ls [.int (nI nta)]) rfl ?_
    have hP : va_P D vwCl [(lg 0, oG lg ya yb wa wb o v ct), (yb 0, oK yb 3 ln), (lg 1, oR (lg 2) nta), (lg 2, aZ ta 400 gta)] H := hP
    have hD : va_D A [(lg 0, oG lg ya yb wa wb o v ct), (yb 0, oK yb 3 ln), (lg 1, oR (lg 2) nta), (lg 2, aZ ta 400 gta)] := hD
    refine lv_istore (pc := 34) (lv' := [(5, .int (nI nta)), (4, .ref (v 0)), (3, .null), (0, .ref (lg 0)), (1, .int s9), (2, .int (qb β))]) hx hb dX9_seal_34 hl (by decide) rfl (fun ls hl => ?_)
    refine lv_aload_nN (pc := 36) hx hb dX9_seal_36 rfl (lv_at hl 2 rfl) ?_
    refine lv_ifnullN (pc := 37) (tgt := 66) hx hb dX9_seal_37 (by decide) ?_
    refine lv_iconst (pc := 66) (v := nI 0) hx hb dX9_seal_66 (by decide +kernel) ?_
    refine lv_istore (pc := 67) (lv' := [(6, .int (nI 0)), (5, .int (nI nta)), (4, .ref (v 0)), (3, .null), (0, .ref (lg 0)), (1, .int s9), (2, .int (qb β))]) hx hb dX9_seal_67 hl (by decide) rfl (fun ls hl => ?_)
    refine lv_iload (pc := 69) hx hb dX9_seal_69 (lv_at hl 0 rfl) ?_
    refine lv_if_eq (pc := 71) (tgt := 99) hx hb dX9_seal_71 (by decide) (fun _ => ?_) (fun c_2 => absurd (by decide) c_2)
    refine lv_aload_n (pc := 99) hx hb dX9_seal_99 rfl (lv_at hl 4 rfl) ?_
    refine va_get (pc := 100) (D := D) (ci := 7) (v := .ref (lg 1)) (C := RX9) (T := TX9) (N := 11) hx hb hts iu9 hown hK hP 0 rfl rfl 0 (by decide) (hts _ tw_352) (fun _ h9 => h9) rfl dX9_seal_100 ?_
    refine cs_V (pc := 103) (idx := 88) (n := 0) (wr := [(lg 0, oG lg ya yb wa wb o v ct), (yb 0, oK yb 3 ln)]) (As := []) (rest := []) (ci := 5) hx hb hml hown hts hGok hK hA hG hl.1 hP hD hS (ct_X6_clear ll D ta hGok (lg 1) (lg 2) 400 gta nta  H.size) tw_441 tw_447 tw_439 tw_440 tw_66 hdX6_clear rfl ⟨rfl, rfl, Nat.le_of_ble_eq_true rfl, Nat.le_of_ble_eq_true rfl, Nat.le_of_ble_eq_true rfl, Nat.le_of_ble_eq_true rfl⟩ rfl rfl (q0 := 2) rfl [2, 3] [0, 1] rfl rfl (by decide) rfl (Nat.le_of_ble_eq_true rfl) dX9_seal_103 (fun u H locs hq hP hD hS => ?_)
    refine W.eq (g2 := F0 mm 106 ls []) rfl ?_
    have hP : va_P D vwCl [(lg 0, oG lg ya yb wa wb o v ct), (yb 0, oK yb 3 ln), (lg 1, oR (lg 2) 0), (lg 2, aZ ta 400 gta)] H := hP
    have hD : va_D A [(lg 0, oG lg ya yb wa wb o v ct), (yb 0, oK yb 3 ln), (lg 1, oR (lg 2) 0), (lg 2, aZ ta 400 gta)] := hD
    refine lv_iload (pc := 106) hx hb dX9_seal_106 (lv_at hl 0 rfl) ?_
    refine lv_if_eq (pc := 108) (tgt := 116) hx hb dX9_seal_108 (by decide) (fun _ => ?_) (fun c_3 => absurd (by decide) c_3)
    refine lv_iconst (pc := 116) (v := (-1)) hx hb dX9_seal_116 (by decide +kernel) ?_
    refine q_top (y := (-1)) (by first | rfl | decide +kernel | (simp; done)) ?_
    have hq_4 : (((-1) : Int32) = -1) := by
      first | rfl | trivial | (refine ⟨?_, ?_⟩ <;> rfl) | (simp; done) | omega
    exact hret (-1) _ _ _ _ dX9_seal_117 hq_4 (hP.sub [0, 1, 2, 3] rfl) (hD.sub [0, 1, 2, 3] (by decide) rfl) hS
  · skip
    first | exact absurd c_1 hi0 | exact absurd hi0 c_1
set_option maxHeartbeats 4000000 in
set_option maxRecDepth 100000 in
theorem ct_X9_seal_no0_N (ll : Launch) (D : va_G) (ta : Nat → ClassId) (gs : Nat → Nat) (lg : Nat → Nat) (ya : Nat → Nat) (yb : Nat → Nat) (wa : Nat → Nat) (wb : Nat → Nat) (o : Nat → Nat) (v : Nat → Nat) (ct : Nat) (gta : Nat → BitVec 8) (nta : Nat) (ln : Nat) (st : Nat) (lv : Nat) (cnt : Nat) (cm : Bool) (β : Bool) (hta : nta ≤ 400) (hst : st ≤ 2) (hno : ¬ (st ≠ 0 ∧ 0 < nta ∧ nta % 16 = 0)) (sz : Nat) : CT ll yX9_seal cX9_seal 7 (some .int) ({ frames := 4, cells := 0, slots := 0, locals := 106 } : Room) D ta ((GC gs)) [.ref (lg 0), .int (nI 0), .int (qb β)] [(lg 0, oG lg ya yb wa wb o v ct), (ya 0, oK ya 3 ln), (wa 0, oW wa st lv cnt cm), (v 0, oV v), (lg 1, oR (lg 2) nta), (lg 2, aZ ta 400 gta)] sz (S := Int32) (fun u => some (.int u)) (fun u => ((u : Int32) = -1)) (fun u => [(lg 0, oG lg ya yb wa wb o v ct), (ya 0, oK ya 3 ln), (wa 0, oW wa st lv cnt cm), (v 0, oV v), (lg 1, oR (lg 2) 0), (lg 2, aZ ta 400 gta)]) 0 0 := by
  refine CT.of_i (r := fun u => u) rfl (by decide) (Nat.le_of_ble_eq_true rfl) ?_
  have hGok := GC_ok gs
  intro pp ee ss mm below meth kc A Q hx hb hml hown hin hts hK hA hsz hG hret H locs hP hD hS ls hl
  have hl : lv_has ls 7 [(0, .ref (lg 0)), (1, .int (nI 0)), (2, .int (qb β))] := hl
  refine lv_aload_n (pc := 0) hx hb dX9_seal_0 rfl (lv_at hl 0 rfl) ?_
  refine lv_iload_n (pc := 1) hx hb dX9_seal_1 rfl (lv_at hl 1 rfl) ?_
  refine cs_V (pc := 2) (idx := 198) (n := 1) (wr := [(ya 0, oK ya 3 ln), (wa 0, oW wa st lv cnt cm), (v 0, oV v), (lg 1, oR (lg 2) nta), (lg 2, aZ ta 400 gta)]) (As := [.int (nI 0)]) (rest := []) (ci := 7) hx hb hml hown hts hGok hK hA hG hl.1 hP hD hS (ct_X9_sessionOf_0 ll D ta hGok lg ya yb wa wb o v ct  H.size) tw_934 tw_931 tw_933 tw_25 tw_65 hdX9_sessionOf rfl ⟨rfl, rfl, Nat.le_of_ble_eq_true rfl, Nat.le_of_ble_eq_true rfl, Nat.le_of_ble_eq_true rfl, Nat.le_of_ble_eq_true rfl⟩ rfl rfl (q0 := 0) rfl [0] [1, 2, 3, 4, 5] rfl rfl (by decide) rfl (Nat.le_of_ble_eq_true rfl) dX9_seal_2 (fun u H locs hq hP hD hS => ?_)
  refine W.eq (g2 := F0 mm 5 ls [.ref (wa 0)]) rfl ?_
  have hP : va_P D vwCl [(ya 0, oK ya 3 ln), (wa 0, oW wa st lv cnt cm), (v 0, oV v), (lg 1, oR (lg 2) nta), (lg 2, aZ ta 400 gta), (lg 0, oG lg ya yb wa wb o v ct)] H := hP
  have hD : va_D A [(ya 0, oK ya 3 ln), (wa 0, oW wa st lv cnt cm), (v 0, oV v), (lg 1, oR (lg 2) nta), (lg 2, aZ ta 400 gta), (lg 0, oG lg ya yb wa wb o v ct)] := hD
  refine lv_astore_n (pc := 5) (lv' := [(3, .ref (wa 0)), (0, .ref (lg 0)), (1, .int (nI 0)), (2, .int (qb β))]) hx hb dX9_seal_5 rfl hl (by decide) rfl (fun ls hl => ?_)
  refine lv_aload_n (pc := 6) hx hb dX9_seal_6 rfl (lv_at hl 1 rfl) ?_
  refine lv_iload_n (pc := 7) hx hb dX9_seal_7 rfl (lv_at hl 2 rfl) ?_
  refine lv_if_ne (pc := 8) (tgt := 18) hx hb dX9_seal_8 (by decide) (fun c_1 => absurd (by decide) c_1) (fun _ => ?_)
  refine lv_aload_n (pc := 11) hx hb dX9_seal_11 rfl (lv_at hl 1 rfl) ?_
  refine va_get (pc := 12) (D := D) (ci := 7) (v := .ref (ya 0)) (C := RX9) (T := TX9) (N := 11) hx hb hts iu9 hown hK hP 5 rfl rfl 4 (by decide) (hts _ tw_356) (fun _ h9 => h9) rfl dX9_seal_12 ?_
  refine lv_goto (pc := 15) (tgt := 22) hx hb dX9_seal_15 (by decide) ?_
  refine cs_V (pc := 22) (idx := 109) (n := 1) (wr := [(wa 0, oW wa st lv cnt cm), (v 0, oV v), (lg 1, oR (lg 2) nta), (lg 2, aZ ta 400 gta)]) (As := [.ref (ya 0)]) (rest := []) (ci := 7) hx hb hml hown hts hGok hK hA hG hl.1 hP hD hS (ct_X9_ruleOf_3 ll D ta gs lg ya yb wa wb o v ct ya ln  H.size) tw_489 tw_486 tw_488 tw_2 tw_65 hdX9_ruleOf rfl ⟨rfl, rfl, Nat.le_of_ble_eq_true rfl, Nat.le_of_ble_eq_true rfl, Nat.le_of_ble_eq_true rfl, Nat.le_of_ble_eq_true rfl⟩ rfl rfl (q0 := 5) rfl [5, 0] [1, 2, 3, 4] rfl rfl (by decide) rfl (Nat.le_of_ble_eq_true rfl) dX9_seal_22 (fun u H locs hq hP hD hS => ?_)
  refine W.eq (g2 := F0 mm 25 ls [.ref (v 0)]) rfl ?_
  have hP : va_P D vwCl [(wa 0, oW wa st lv cnt cm), (v 0, oV v), (lg 1, oR (lg 2) nta), (lg 2, aZ ta 400 gta), (lg 0, oG lg ya yb wa wb o v ct), (ya 0, oK ya 3 ln)] H := hP
  have hD : va_D A [(wa 0, oW wa st lv cnt cm), (v 0, oV v), (lg 1, oR (lg 2) nta), (lg 2, aZ ta 400 gta), (lg 0, oG lg ya yb wa wb o v ct), (ya 0, oK ya 3 ln)] := hD
  refine lv_astore (pc := 25) (lv' := [(4, .ref (v 0)), (3, .ref (wa 0)), (0, .ref (lg 0)), (1, .int (nI 0)), (2, .int (qb β))]) hx hb dX9_seal_25 hl (by decide) rfl (fun ls hl => ?_)
  refine lv_aload_n (pc := 27) hx hb dX9_seal_27 rfl (lv_at hl 2 rfl) ?_
  refine va_get (pc := 28) (D := D) (ci := 7) (v := .ref (lg 1)) (C := RX9) (T := TX9) (N := 11) hx hb hts iu9 hown hK hP 4 rfl rfl 0 (by decide) (hts _ tw_352) (fun _ h9 => h9) rfl dX9_seal_28 ?_
  refine cs_V (pc := 31) (idx := 64) (n := 0) (wr := [(wa 0, oW wa st lv cnt cm), (v 0, oV v), (lg 0, oG lg ya yb wa wb o v ct), (ya 0, oK ya 3 ln)]) (As := []) (rest := []) (ci := 5) hx hb hml hown hts hGok hK hA hG hl.1 hP hD hS (ct_X6_size ll D ta hGok (lg 1) (lg 2) 400 gta nta  H.size) tw_393 tw_390 tw_391 tw_392 tw_66 hdX6_size rfl ⟨rfl, rfl, Nat.le_of_ble_eq_true rfl, Nat.le_of_ble_eq_true rfl, Nat.le_of_ble_eq_true rfl, Nat.le_of_ble_eq_true rfl⟩ rfl rfl (q0 := 2) rfl [2, 3] [0, 1, 4, 5] rfl rfl (by decide) rfl (Nat.le_of_ble_eq_true rfl) dX9_seal_31 (fun u H locs hq hP hD hS => ?_)
  refine W.eq (g2 := F0 mm 34 ls [.int (nI nta)]) rfl ?_
  have hP : va_P D vwCl [(wa 0, oW wa st lv cnt cm), (v 0, oV v), (lg 0, oG lg ya yb wa wb o v ct), (ya 0, oK ya 3 ln), (lg 1, oR (lg 2) nta), (lg 2, aZ ta 400 gta)] H := hP
  have hD : va_D A [(wa 0, oW wa st lv cnt cm), (v 0, oV v), (lg 0, oG lg ya yb wa wb o v ct), (ya 0, oK ya 3 ln), (lg 1, oR (lg 2) nta), (lg 2, aZ ta 400 gta)] := hD
  refine lv_istore (pc := 34) (lv' := [(5, .int (nI nta)), (4, .ref (v 0)), (3, .ref (wa 0)), (0, .ref (lg 0)), (1, .int (nI 0)), (2, .int (qb β))]) hx hb dX9_seal_34 hl (by decide) rfl (fun ls hl => ?_)
  refine lv_aload_n (pc := 36) hx hb dX9_seal_36 rfl (lv_at hl 2 rfl) ?_
  refine lv_ifnull (pc := 37) hx hb dX9_seal_37 ?_
  refine lv_aload_n (pc := 40) hx hb dX9_seal_40 rfl (lv_at hl 2 rfl) ?_
  refine va_getN (pc := 41) (D := D) (ci := 6) (v := .int (nI st)) (C := RX8) (T := TX8) (N := 14) hx hb hts iu8 hown hK hP 0 rfl rfl 0 (by decide) (va_Nw.use rfl (GC_w140 hG)) (fun _ h9 => h9) rfl dX9_seal_41 ?_
  refine lv_if_eq (pc := 44) (tgt := 66) hx hb dX9_seal_44 (by decide) (fun c_2 => ?_) (fun c_2 => ?_)
  · skip
    rw [q_eq0 (by omega)] at c_2
    refine lv_iconst (pc := 66) (v := nI 0) hx hb dX9_seal_66 (by decide +kernel) ?_
    refine lv_istore (pc := 67) (lv' := [(6, .int (nI 0)), (5, .int (nI nta)), (4, .ref (v 0)), (3, .ref (wa 0)), (0, .ref (lg 0)), (1, .int (nI 0)), (2, .int (qb β))]) hx hb dX9_seal_67 hl (by decide) rfl (fun ls hl => ?_)
    refine lv_iload (pc := 69) hx hb dX9_seal_69 (lv_at hl 0 rfl) ?_
    refine lv_if_eq (pc := 71) (tgt := 99) hx hb dX9_seal_71 (by decide) (fun _ => ?_) (fun c_3 => absurd (by decide) c_3)
    refine lv_aload_n (pc := 99) hx hb dX9_seal_99 rfl (lv_at hl 4 rfl) ?_
    refine va_get (pc := 100) (D := D) (ci := 7) (v := .ref (lg 1)) (C := RX9) (T := TX9) (N := 11) hx hb hts iu9 hown hK hP 2 rfl rfl 0 (by decide) (hts _ tw_352) (fun _ h9 => h9) rfl dX9_seal_100 ?_
    refine cs_V (pc := 103) (idx := 88) (n := 0) (wr := [(wa 0, oW wa st lv cnt cm), (v 0, oV v), (lg 0, oG lg ya yb wa wb o v ct), (ya 0, oK ya 3 ln)]) (As := []) (rest := []) (ci := 5) hx hb hml hown hts hGok hK hA hG hl.1 hP hD hS (ct_X6_clear ll D ta hGok (lg 1) (lg 2) 400 gta nta  H.size) tw_441 tw_447 tw_439 tw_440 tw_66 hdX6_clear rfl ⟨rfl, rfl, Nat.le_of_ble_eq_true rfl, Nat.le_of_ble_eq_true rfl, Nat.le_of_ble_eq_true rfl, Nat.le_of_ble_eq_true rfl⟩ rfl rfl (q0 := 4) rfl [4, 5] [0, 1, 2, 3] rfl rfl (by decide) rfl (Nat.le_of_ble_eq_true rfl) dX9_seal_103 (fun u H locs hq hP hD hS => ?_)
    refine W.eq (g2 := F0 mm 106 ls []) rfl ?_
    have hP : va_P D vwCl [(wa 0, oW wa st lv cnt cm), (v 0, oV v), (lg 0, oG lg ya yb wa wb o v ct), (ya 0, oK ya 3 ln), (lg 1, oR (lg 2) 0), (lg 2, aZ ta 400 gta)] H := hP
    have hD : va_D A [(wa 0, oW wa st lv cnt cm), (v 0, oV v), (lg 0, oG lg ya yb wa wb o v ct), (ya 0, oK ya 3 ln), (lg 1, oR (lg 2) 0), (lg 2, aZ ta 400 gta)] := hD
    refine lv_iload (pc := 106) hx hb dX9_seal_106 (lv_at hl 0 rfl) ?_
    refine lv_if_eq (pc := 108) (tgt := 116) hx hb dX9_seal_108 (by decide) (fun _ => ?_) (fun c_4 => absurd (by decide) c_4)
    refine lv_iconst (pc := 116) (v := (-1)) hx hb dX9_seal_116 (by decide +kernel) ?_
    refine q_top (y := (-1)) (by first | rfl | decide +kernel | (simp; done)) ?_
    have hq_5 : (((-1) : Int32) = -1) := by
      first | rfl | trivial | (refine ⟨?_, ?_⟩ <;> rfl) | (simp; done) | omega
    exact hret (-1) _ _ _ _ dX9_seal_117 hq_5 (hP.sub [2, 3, 0, 1, 4, 5] rfl) (hD.sub [2, 3, 0, 1, 4, 5] (by decide) rfl) hS
  · skip
    rw [q_eq0 (by omega)] at c_2
    refine lv_iload (pc := 47) hx hb dX9_seal_47 (lv_at hl 0 rfl) ?_
    refine lv_if_le (pc := 49) (tgt := 66) hx hb dX9_seal_49 (by decide) (fun c_6 => ?_) (fun c_6 => ?_)
    · skip
      rw [q_le0 (by omega)] at c_6
      refine lv_iconst (pc := 66) (v := nI 0) hx hb dX9_seal_66 (by decide +kernel) ?_
      refine lv_istore (pc := 67) (lv' := [(6, .int (nI 0)), (5, .int (nI nta)), (4, .ref (v 0)), (3, .ref (wa 0)), (0, .ref (lg 0)), (1, .int (nI 0)), (2, .int (qb β))]) hx hb dX9_seal_67 hl (by decide) rfl (fun ls hl => ?_)
      refine lv_iload (pc := 69) hx hb dX9_seal_69 (lv_at hl 0 rfl) ?_
      refine lv_if_eq (pc := 71) (tgt := 99) hx hb dX9_seal_71 (by decide) (fun _ => ?_) (fun c_7 => absurd (by decide) c_7)
      refine lv_aload_n (pc := 99) hx hb dX9_seal_99 rfl (lv_at hl 4 rfl) ?_
      refine va_get (pc := 100) (D := D) (ci := 7) (v := .ref (lg 1)) (C := RX9) (T := TX9) (N := 11) hx hb hts iu9 hown hK hP 2 rfl rfl 0 (by decide) (hts _ tw_352) (fun _ h9 => h9) rfl dX9_seal_100 ?_
      refine cs_V (pc := 103) (idx := 88) (n := 0) (wr := [(wa 0, oW wa st lv cnt cm), (v 0, oV v), (lg 0, oG lg ya yb wa wb o v ct), (ya 0, oK ya 3 ln)]) (As := []) (rest := []) (ci := 5) hx hb hml hown hts hGok hK hA hG hl.1 hP hD hS (ct_X6_clear ll D ta hGok (lg 1) (lg 2) 400 gta nta  H.size) tw_441 tw_447 tw_439 tw_440 tw_66 hdX6_clear rfl ⟨rfl, rfl, Nat.le_of_ble_eq_true rfl, Nat.le_of_ble_eq_true rfl, Nat.le_of_ble_eq_true rfl, Nat.le_of_ble_eq_true rfl⟩ rfl rfl (q0 := 4) rfl [4, 5] [0, 1, 2, 3] rfl rfl (by decide) rfl (Nat.le_of_ble_eq_true rfl) dX9_seal_103 (fun u H locs hq hP hD hS => ?_)
      refine W.eq (g2 := F0 mm 106 ls []) rfl ?_
      have hP : va_P D vwCl [(wa 0, oW wa st lv cnt cm), (v 0, oV v), (lg 0, oG lg ya yb wa wb o v ct), (ya 0, oK ya 3 ln), (lg 1, oR (lg 2) 0), (lg 2, aZ ta 400 gta)] H := hP
      have hD : va_D A [(wa 0, oW wa st lv cnt cm), (v 0, oV v), (lg 0, oG lg ya yb wa wb o v ct), (ya 0, oK ya 3 ln), (lg 1, oR (lg 2) 0), (lg 2, aZ ta 400 gta)] := hD
      refine lv_iload (pc := 106) hx hb dX9_seal_106 (lv_at hl 0 rfl) ?_
      refine lv_if_eq (pc := 108) (tgt := 116) hx hb dX9_seal_108 (by decide) (fun _ => ?_) (fun c_8 => absurd (by decide) c_8)
      refine lv_iconst (pc := 116) (v := (-1)) hx hb dX9_seal_116 (by decide +kernel) ?_
      refine q_top (y := (-1)) (by first | rfl | decide +kernel | (simp; done)) ?_
      have hq_9 : (((-1) : Int32) = -1) := by
        first | rfl | trivial | (refine ⟨?_, ?_⟩ <;> rfl) | (simp; done) | omega
      exact hret (-1) _ _ _ _ dX9_seal_117 hq_9 (hP.sub [2, 3, 0, 1, 4, 5] rfl) (hD.sub [2, 3, 0, 1, 4, 5] (by decide) rfl) hS
    · skip
      rw [q_le0 (by omega)] at c_6
      refine lv_aload (pc := 52) hx hb dX9_seal_52 (lv_at hl 1 rfl) ?_
      refine lv_iload (pc := 54) hx hb dX9_seal_54 (lv_at hl 0 rfl) ?_
      refine cs_U (pc := 56) (idx := 202) (n := 1) (wr := [(wa 0, oW wa st lv cnt cm), (lg 0, oG lg ya yb wa wb o v ct), (ya 0, oK ya 3 ln), (lg 1, oR (lg 2) nta), (lg 2, aZ ta 400 gta)]) (As := [.int (nI nta)]) (rest := []) (ci := 3) (x := ⟨"LineGuard$Rule", "isBlocks", "(I)Z"⟩) (owner := "LineGuard$Rule") hx hb hml hown hts hGok hK hA hG hl.1 hP hD hS (ct_X7_isBlocks_N ll D ta gs v nta (by first | assumption | omega | rfl | decide) H.size) tw_597 tw_935 tw_596 tw_1457 tw_69 tw_1456 (va_Decl.of (hts _ tw_596) (hts _ tw_597)) ⟨by decide +kernel, by decide +kernel, by decide +kernel⟩ rfl ⟨rfl, rfl, Nat.le_of_ble_eq_true rfl, Nat.le_of_ble_eq_true rfl, Nat.le_of_ble_eq_true rfl, Nat.le_of_ble_eq_true rfl⟩ rfl (q0 := 1) rfl [1] [0, 2, 3, 4, 5] rfl rfl (by decide) rfl (Nat.le_of_ble_eq_true rfl) dX9_seal_56 (fun u H locs hq hP hD hS => ?_)
      generalize u = z_56 at hq hP hD ⊢
      have hq : (z_56 = decide (nta % 16 = 0)) := hq
      have hz_56 := hq
      refine W.eq (g2 := F0 mm 59 ls [.int (qb z_56)]) rfl ?_
      have hP : va_P D vwCl [(wa 0, oW wa st lv cnt cm), (lg 0, oG lg ya yb wa wb o v ct), (ya 0, oK ya 3 ln), (lg 1, oR (lg 2) nta), (lg 2, aZ ta 400 gta), (v 0, oV v)] H := hP
      have hD : va_D A [(wa 0, oW wa st lv cnt cm), (lg 0, oG lg ya yb wa wb o v ct), (ya 0, oK ya 3 ln), (lg 1, oR (lg 2) nta), (lg 2, aZ ta 400 gta), (v 0, oV v)] := hD
      refine lv_if_eq (pc := 59) (tgt := 66) hx hb dX9_seal_59 (by decide) (fun c_10 => ?_) (fun c_10 => ?_)
      · skip
        rw [q_beq] at c_10
        try rw [Bool.not_eq_false] at c_10
        have hzb := c_10
        refine lv_iconst (pc := 66) (v := nI 0) hx hb dX9_seal_66 (by decide +kernel) ?_
        refine lv_istore (pc := 67) (lv' := [(6, .int (nI 0)), (5, .int (nI nta)), (4, .ref (v 0)), (3, .ref (wa 0)), (0, .ref (lg 0)), (1, .int (nI 0)), (2, .int (qb β))]) hx hb dX9_seal_67 hl (by decide) rfl (fun ls hl => ?_)
        refine lv_iload (pc := 69) hx hb dX9_seal_69 (lv_at hl 0 rfl) ?_
        refine lv_if_eq (pc := 71) (tgt := 99) hx hb dX9_seal_71 (by decide) (fun _ => ?_) (fun c_11 => absurd (by decide) c_11)
        refine lv_aload_n (pc := 99) hx hb dX9_seal_99 rfl (lv_at hl 4 rfl) ?_
        refine va_get (pc := 100) (D := D) (ci := 7) (v := .ref (lg 1)) (C := RX9) (T := TX9) (N := 11) hx hb hts iu9 hown hK hP 1 rfl rfl 0 (by decide) (hts _ tw_352) (fun _ h9 => h9) rfl dX9_seal_100 ?_
        refine cs_V (pc := 103) (idx := 88) (n := 0) (wr := [(wa 0, oW wa st lv cnt cm), (lg 0, oG lg ya yb wa wb o v ct), (ya 0, oK ya 3 ln), (v 0, oV v)]) (As := []) (rest := []) (ci := 5) hx hb hml hown hts hGok hK hA hG hl.1 hP hD hS (ct_X6_clear ll D ta hGok (lg 1) (lg 2) 400 gta nta  H.size) tw_441 tw_447 tw_439 tw_440 tw_66 hdX6_clear rfl ⟨rfl, rfl, Nat.le_of_ble_eq_true rfl, Nat.le_of_ble_eq_true rfl, Nat.le_of_ble_eq_true rfl, Nat.le_of_ble_eq_true rfl⟩ rfl rfl (q0 := 3) rfl [3, 4] [0, 1, 2, 5] rfl rfl (by decide) rfl (Nat.le_of_ble_eq_true rfl) dX9_seal_103 (fun u H locs hq hP hD hS => ?_)
        refine W.eq (g2 := F0 mm 106 ls []) rfl ?_
        have hP : va_P D vwCl [(wa 0, oW wa st lv cnt cm), (lg 0, oG lg ya yb wa wb o v ct), (ya 0, oK ya 3 ln), (v 0, oV v), (lg 1, oR (lg 2) 0), (lg 2, aZ ta 400 gta)] H := hP
        have hD : va_D A [(wa 0, oW wa st lv cnt cm), (lg 0, oG lg ya yb wa wb o v ct), (ya 0, oK ya 3 ln), (v 0, oV v), (lg 1, oR (lg 2) 0), (lg 2, aZ ta 400 gta)] := hD
        refine lv_iload (pc := 106) hx hb dX9_seal_106 (lv_at hl 0 rfl) ?_
        refine lv_if_eq (pc := 108) (tgt := 116) hx hb dX9_seal_108 (by decide) (fun _ => ?_) (fun c_12 => absurd (by decide) c_12)
        refine lv_iconst (pc := 116) (v := (-1)) hx hb dX9_seal_116 (by decide +kernel) ?_
        refine q_top (y := (-1)) (by first | rfl | decide +kernel | (simp; done)) ?_
        have hq_13 : (((-1) : Int32) = -1) := by
          first | rfl | trivial | (refine ⟨?_, ?_⟩ <;> rfl) | (simp; done) | omega
        exact hret (-1) _ _ _ _ dX9_seal_117 hq_13 (hP.sub [1, 2, 0, 3, 4, 5] rfl) (hD.sub [1, 2, 0, 3, 4, 5] (by decide) rfl) hS
      · skip
        rw [q_beq] at c_10
        try rw [Bool.not_eq_false] at c_10
        have hzb := c_10
        exact absurd ⟨by omega, by omega, of_decide_eq_true (hz_56.symm.trans hzb)⟩ hno
set_option maxHeartbeats 4000000 in
set_option maxRecDepth 100000 in
theorem ct_X9_seal_0_N (ll : Launch) (D : va_G) (ta : Nat → ClassId) (gs : Nat → Nat) (lg : Nat → Nat) (ya : Nat → Nat) (yb : Nat → Nat) (wa : Nat → Nat) (wb : Nat → Nat) (o : Nat → Nat) (v : Nat → Nat) (ct : Nat) (gta : Nat → BitVec 8) (nta : Nat) (gou : Nat → BitVec 8) (nou : Nat) (gz : Nat → BitVec 8) (rd : Nat) (ab : Nat → BitVec 8) (af : Nat → BitVec 8) (kw : Nat → Int32) (sw : Nat → Int32) (xw : Nat → Int32) (len : Nat) (ln : Nat) (gs9 : Nat → BitVec 8) (st : Nat) (lv : Nat) (cnt : Nat) (cm : Bool) (β : Bool) (hz : qL gz 16 = zeroL 16) (hln : len = 16 ∨ len = 24 ∨ len = 32) (hta : 0 < nta ∧ nta ≤ 400 ∧ nta % 16 = 0) (hst : st ≤ 2 ∧ st ≠ 0) (sz : Nat) : CT ll yX9_seal cX9_seal 7 (some .int) ({ frames := 4, cells := 0, slots := 0, locals := 106 } : Room) D ta ((GC gs)) [.ref (lg 0), .int (nI 0), .int (qb β)] [(lg 0, oG lg ya yb wa wb o v ct), (ya 0, oK ya 3 ln), (wa 0, oW wa st lv cnt cm), (wa 7, oR (wa 8) len), (wa 8, aZ ta 32 gs9), (lg 1, oR (lg 2) nta), (lg 2, aZ ta 400 gta), (lg 3, oR (lg 4) nou), (lg 4, aZ ta 400 gou), (v 0, oV v), (v 9, oR (v 10) 16), (v 10, aZ ta 16 gz), (v 11, oA (v 12) (v 13) (v 14) (v 15) (v 16) (v 17) rd), (v 12, aZ ta 16 ab), (v 13, aZ ta 16 af), (v 14, aZ ta 256 UBOX), (v 15, aI ta 64 kw), (v 16, aI ta 4 sw), (v 17, aI ta 4 xw)] sz (S := (Nat → BitVec 8) × (Nat → BitVec 8) × (Nat → BitVec 8) × (Nat → Int32) × (Nat → Int32) × (Nat → Int32)) (fun u => some (.int (nI nta))) (fun u => (qL u.1 nta = if β then decL (aesD (qL gs9 len)) 16 (zeroL 16) (qL gta nta) else encL (aesE (qL gs9 len)) 16 (zeroL 16) (qL gta nta))) (fun u => [(lg 0, oG lg ya yb wa wb o v ct), (ya 0, oK ya 3 ln), (wa 0, oW wa st lv cnt cm), (wa 7, oR (wa 8) len), (wa 8, aZ ta 32 gs9), (lg 1, oR (lg 2) 0), (lg 2, aZ ta 400 gta), (lg 3, oR (lg 4) nta), (lg 4, aZ ta 400 u.1), (v 0, oV v), (v 9, oR (v 10) 16), (v 10, aZ ta 16 gz), (v 11, oA (v 12) (v 13) (v 14) (v 15) (v 16) (v 17) (len / 4 + 6)), (v 12, aZ ta 16 u.2.1), (v 13, aZ ta 16 u.2.2.1), (v 14, aZ ta 256 UBOX), (v 15, aI ta 64 u.2.2.2.1), (v 16, aI ta 4 u.2.2.2.2.1), (v 17, aI ta 4 u.2.2.2.2.2)]) 0 0 := by
  refine CT.of_i (r := fun u => nI nta) rfl (by decide) (Nat.le_of_ble_eq_true rfl) ?_
  have hGok := GC_ok gs
  intro pp ee ss mm below meth kc A Q hx hb hml hown hin hts hK hA hsz hG hret H locs hP hD hS ls hl
  have hl : lv_has ls 7 [(0, .ref (lg 0)), (1, .int (nI 0)), (2, .int (qb β))] := hl
  refine lv_aload_n (pc := 0) hx hb dX9_seal_0 rfl (lv_at hl 0 rfl) ?_
  refine lv_iload_n (pc := 1) hx hb dX9_seal_1 rfl (lv_at hl 1 rfl) ?_
  refine cs_V (pc := 2) (idx := 198) (n := 1) (wr := [(ya 0, oK ya 3 ln), (wa 0, oW wa st lv cnt cm), (wa 7, oR (wa 8) len), (wa 8, aZ ta 32 gs9), (lg 1, oR (lg 2) nta), (lg 2, aZ ta 400 gta), (lg 3, oR (lg 4) nou), (lg 4, aZ ta 400 gou), (v 0, oV v), (v 9, oR (v 10) 16), (v 10, aZ ta 16 gz), (v 11, oA (v 12) (v 13) (v 14) (v 15) (v 16) (v 17) rd), (v 12, aZ ta 16 ab), (v 13, aZ ta 16 af), (v 14, aZ ta 256 UBOX), (v 15, aI ta 64 kw), (v 16, aI ta 4 sw), (v 17, aI ta 4 xw)]) (As := [.int (nI 0)]) (rest := []) (ci := 7) hx hb hml hown hts hGok hK hA hG hl.1 hP hD hS (ct_X9_sessionOf_0 ll D ta hGok lg ya yb wa wb o v ct  H.size) tw_934 tw_931 tw_933 tw_25 tw_65 hdX9_sessionOf rfl ⟨rfl, rfl, Nat.le_of_ble_eq_true rfl, Nat.le_of_ble_eq_true rfl, Nat.le_of_ble_eq_true rfl, Nat.le_of_ble_eq_true rfl⟩ rfl rfl (q0 := 0) rfl [0] [1, 2, 3, 4, 5, 6, 7, 8, 9, 10, 11, 12, 13, 14, 15, 16, 17, 18] rfl rfl (by decide) rfl (Nat.le_of_ble_eq_true rfl) dX9_seal_2 (fun u H locs hq hP hD hS => ?_)
  refine W.eq (g2 := F0 mm 5 ls [.ref (wa 0)]) rfl ?_
  have hP : va_P D vwCl [(ya 0, oK ya 3 ln), (wa 0, oW wa st lv cnt cm), (wa 7, oR (wa 8) len), (wa 8, aZ ta 32 gs9), (lg 1, oR (lg 2) nta), (lg 2, aZ ta 400 gta), (lg 3, oR (lg 4) nou), (lg 4, aZ ta 400 gou), (v 0, oV v), (v 9, oR (v 10) 16), (v 10, aZ ta 16 gz), (v 11, oA (v 12) (v 13) (v 14) (v 15) (v 16) (v 17) rd), (v 12, aZ ta 16 ab), (v 13, aZ ta 16 af), (v 14, aZ ta 256 UBOX), (v 15, aI ta 64 kw), (v 16, aI ta 4 sw), (v 17, aI ta 4 xw), (lg 0, oG lg ya yb wa wb o v ct)] H := hP
  have hD : va_D A [(ya 0, oK ya 3 ln), (wa 0, oW wa st lv cnt cm), (wa 7, oR (wa 8) len), (wa 8, aZ ta 32 gs9), (lg 1, oR (lg 2) nta), (lg 2, aZ ta 400 gta), (lg 3, oR (lg 4) nou), (lg 4, aZ ta 400 gou), (v 0, oV v), (v 9, oR (v 10) 16), (v 10, aZ ta 16 gz), (v 11, oA (v 12) (v 13) (v 14) (v 15) (v 16) (v 17) rd), (v 12, aZ ta 16 ab), (v 13, aZ ta 16 af), (v 14, aZ ta 256 UBOX), (v 15, aI ta 64 kw), (v 16, aI ta 4 sw), (v 17, aI ta 4 xw), (lg 0, oG lg ya yb wa wb o v ct)] := hD
  refine lv_astore_n (pc := 5) (lv' := [(3, .ref (wa 0)), (0, .ref (lg 0)), (1, .int (nI 0)), (2, .int (qb β))]) hx hb dX9_seal_5 rfl hl (by decide) rfl (fun ls hl => ?_)
  refine lv_aload_n (pc := 6) hx hb dX9_seal_6 rfl (lv_at hl 1 rfl) ?_
  refine lv_iload_n (pc := 7) hx hb dX9_seal_7 rfl (lv_at hl 2 rfl) ?_
  refine lv_if_ne (pc := 8) (tgt := 18) hx hb dX9_seal_8 (by decide) (fun c_1 => absurd (by decide) c_1) (fun _ => ?_)
  refine lv_aload_n (pc := 11) hx hb dX9_seal_11 rfl (lv_at hl 1 rfl) ?_
  refine va_get (pc := 12) (D := D) (ci := 7) (v := .ref (ya 0)) (C := RX9) (T := TX9) (N := 11) hx hb hts iu9 hown hK hP 18 rfl rfl 4 (by decide) (hts _ tw_356) (fun _ h9 => h9) rfl dX9_seal_12 ?_
  refine lv_goto (pc := 15) (tgt := 22) hx hb dX9_seal_15 (by decide) ?_
  refine cs_V (pc := 22) (idx := 109) (n := 1) (wr := [(wa 0, oW wa st lv cnt cm), (wa 7, oR (wa 8) len), (wa 8, aZ ta 32 gs9), (lg 1, oR (lg 2) nta), (lg 2, aZ ta 400 gta), (lg 3, oR (lg 4) nou), (lg 4, aZ ta 400 gou), (v 0, oV v), (v 9, oR (v 10) 16), (v 10, aZ ta 16 gz), (v 11, oA (v 12) (v 13) (v 14) (v 15) (v 16) (v 17) rd), (v 12, aZ ta 16 ab), (v 13, aZ ta 16 af), (v 14, aZ ta 256 UBOX), (v 15, aI ta 64 kw), (v 16, aI ta 4 sw), (v 17, aI ta 4 xw)]) (As := [.ref (ya 0)]) (rest := []) (ci := 7) hx hb hml hown hts hGok hK hA hG hl.1 hP hD hS (ct_X9_ruleOf_3 ll D ta gs lg ya yb wa wb o v ct ya ln  H.size) tw_489 tw_486 tw_488 tw_2 tw_65 hdX9_ruleOf rfl ⟨rfl, rfl, Nat.le_of_ble_eq_true rfl, Nat.le_of_ble_eq_true rfl, Nat.le_of_ble_eq_true rfl, Nat.le_of_ble_eq_true rfl⟩ rfl rfl (q0 := 18) rfl [18, 0] [1, 2, 3, 4, 5, 6, 7, 8, 9, 10, 11, 12, 13, 14, 15, 16, 17] rfl rfl (by decide) rfl (Nat.le_of_ble_eq_true rfl) dX9_seal_22 (fun u H locs hq hP hD hS => ?_)
  refine W.eq (g2 := F0 mm 25 ls [.ref (v 0)]) rfl ?_
  have hP : va_P D vwCl [(wa 0, oW wa st lv cnt cm), (wa 7, oR (wa 8) len), (wa 8, aZ ta 32 gs9), (lg 1, oR (lg 2) nta), (lg 2, aZ ta 400 gta), (lg 3, oR (lg 4) nou), (lg 4, aZ ta 400 gou), (v 0, oV v), (v 9, oR (v 10) 16), (v 10, aZ ta 16 gz), (v 11, oA (v 12) (v 13) (v 14) (v 15) (v 16) (v 17) rd), (v 12, aZ ta 16 ab), (v 13, aZ ta 16 af), (v 14, aZ ta 256 UBOX), (v 15, aI ta 64 kw), (v 16, aI ta 4 sw), (v 17, aI ta 4 xw), (lg 0, oG lg ya yb wa wb o v ct), (ya 0, oK ya 3 ln)] H := hP
  have hD : va_D A [(wa 0, oW wa st lv cnt cm), (wa 7, oR (wa 8) len), (wa 8, aZ ta 32 gs9), (lg 1, oR (lg 2) nta), (lg 2, aZ ta 400 gta), (lg 3, oR (lg 4) nou), (lg 4, aZ ta 400 gou), (v 0, oV v), (v 9, oR (v 10) 16), (v 10, aZ ta 16 gz), (v 11, oA (v 12) (v 13) (v 14) (v 15) (v 16) (v 17) rd), (v 12, aZ ta 16 ab), (v 13, aZ ta 16 af), (v 14, aZ ta 256 UBOX), (v 15, aI ta 64 kw), (v 16, aI ta 4 sw), (v 17, aI ta 4 xw), (lg 0, oG lg ya yb wa wb o v ct), (ya 0, oK ya 3 ln)] := hD
  refine lv_astore (pc := 25) (lv' := [(4, .ref (v 0)), (3, .ref (wa 0)), (0, .ref (lg 0)), (1, .int (nI 0)), (2, .int (qb β))]) hx hb dX9_seal_25 hl (by decide) rfl (fun ls hl => ?_)
  refine lv_aload_n (pc := 27) hx hb dX9_seal_27 rfl (lv_at hl 2 rfl) ?_
  refine va_get (pc := 28) (D := D) (ci := 7) (v := .ref (lg 1)) (C := RX9) (T := TX9) (N := 11) hx hb hts iu9 hown hK hP 17 rfl rfl 0 (by decide) (hts _ tw_352) (fun _ h9 => h9) rfl dX9_seal_28 ?_
  refine cs_V (pc := 31) (idx := 64) (n := 0) (wr := [(wa 0, oW wa st lv cnt cm), (wa 7, oR (wa 8) len), (wa 8, aZ ta 32 gs9), (lg 3, oR (lg 4) nou), (lg 4, aZ ta 400 gou), (v 0, oV v), (v 9, oR (v 10) 16), (v 10, aZ ta 16 gz), (v 11, oA (v 12) (v 13) (v 14) (v 15) (v 16) (v 17) rd), (v 12, aZ ta 16 ab), (v 13, aZ ta 16 af), (v 14, aZ ta 256 UBOX), (v 15, aI ta 64 kw), (v 16, aI ta 4 sw), (v 17, aI ta 4 xw), (lg 0, oG lg ya yb wa wb o v ct), (ya 0, oK ya 3 ln)]) (As := []) (rest := []) (ci := 5) hx hb hml hown hts hGok hK hA hG hl.1 hP hD hS (ct_X6_size ll D ta hGok (lg 1) (lg 2) 400 gta nta  H.size) tw_393 tw_390 tw_391 tw_392 tw_66 hdX6_size rfl ⟨rfl, rfl, Nat.le_of_ble_eq_true rfl, Nat.le_of_ble_eq_true rfl, Nat.le_of_ble_eq_true rfl, Nat.le_of_ble_eq_true rfl⟩ rfl rfl (q0 := 3) rfl [3, 4] [0, 1, 2, 5, 6, 7, 8, 9, 10, 11, 12, 13, 14, 15, 16, 17, 18] rfl rfl (by decide) rfl (Nat.le_of_ble_eq_true rfl) dX9_seal_31 (fun u H locs hq hP hD hS => ?_)
  refine W.eq (g2 := F0 mm 34 ls [.int (nI nta)]) rfl ?_
  have hP : va_P D vwCl [(wa 0, oW wa st lv cnt cm), (wa 7, oR (wa 8) len), (wa 8, aZ ta 32 gs9), (lg 3, oR (lg 4) nou), (lg 4, aZ ta 400 gou), (v 0, oV v), (v 9, oR (v 10) 16), (v 10, aZ ta 16 gz), (v 11, oA (v 12) (v 13) (v 14) (v 15) (v 16) (v 17) rd), (v 12, aZ ta 16 ab), (v 13, aZ ta 16 af), (v 14, aZ ta 256 UBOX), (v 15, aI ta 64 kw), (v 16, aI ta 4 sw), (v 17, aI ta 4 xw), (lg 0, oG lg ya yb wa wb o v ct), (ya 0, oK ya 3 ln), (lg 1, oR (lg 2) nta), (lg 2, aZ ta 400 gta)] H := hP
  have hD : va_D A [(wa 0, oW wa st lv cnt cm), (wa 7, oR (wa 8) len), (wa 8, aZ ta 32 gs9), (lg 3, oR (lg 4) nou), (lg 4, aZ ta 400 gou), (v 0, oV v), (v 9, oR (v 10) 16), (v 10, aZ ta 16 gz), (v 11, oA (v 12) (v 13) (v 14) (v 15) (v 16) (v 17) rd), (v 12, aZ ta 16 ab), (v 13, aZ ta 16 af), (v 14, aZ ta 256 UBOX), (v 15, aI ta 64 kw), (v 16, aI ta 4 sw), (v 17, aI ta 4 xw), (lg 0, oG lg ya yb wa wb o v ct), (ya 0, oK ya 3 ln), (lg 1, oR (lg 2) nta), (lg 2, aZ ta 400 gta)] := hD
  refine lv_istore (pc := 34) (lv' := [(5, .int (nI nta)), (4, .ref (v 0)), (3, .ref (wa 0)), (0, .ref (lg 0)), (1, .int (nI 0)), (2, .int (qb β))]) hx hb dX9_seal_34 hl (by decide) rfl (fun ls hl => ?_)
  refine lv_aload_n (pc := 36) hx hb dX9_seal_36 rfl (lv_at hl 2 rfl) ?_
  refine lv_ifnull (pc := 37) hx hb dX9_seal_37 ?_
  refine lv_aload_n (pc := 40) hx hb dX9_seal_40 rfl (lv_at hl 2 rfl) ?_
  refine va_getN (pc := 41) (D := D) (ci := 6) (v := .int (nI st)) (C := RX8) (T := TX8) (N := 14) hx hb hts iu8 hown hK hP 0 rfl rfl 0 (by decide) (va_Nw.use rfl (GC_w140 hG)) (fun _ h9 => h9) rfl dX9_seal_41 ?_
  refine lv_if_eq (pc := 44) (tgt := 66) hx hb dX9_seal_44 (by decide) (fun c_2 => ?_) (fun c_2 => ?_)
  · skip
    rw [q_eq0 (by omega)] at c_2
    exfalso; omega
  · skip
    rw [q_eq0 (by omega)] at c_2
    refine lv_iload (pc := 47) hx hb dX9_seal_47 (lv_at hl 0 rfl) ?_
    refine lv_if_le (pc := 49) (tgt := 66) hx hb dX9_seal_49 (by decide) (fun c_3 => ?_) (fun c_3 => ?_)
    · skip
      rw [q_le0 (by omega)] at c_3
      exfalso; omega
    · skip
      rw [q_le0 (by omega)] at c_3
      refine lv_aload (pc := 52) hx hb dX9_seal_52 (lv_at hl 1 rfl) ?_
      refine lv_iload (pc := 54) hx hb dX9_seal_54 (lv_at hl 0 rfl) ?_
      refine cs_U (pc := 56) (idx := 202) (n := 1) (wr := [(wa 0, oW wa st lv cnt cm), (wa 7, oR (wa 8) len), (wa 8, aZ ta 32 gs9), (lg 3, oR (lg 4) nou), (lg 4, aZ ta 400 gou), (v 9, oR (v 10) 16), (v 10, aZ ta 16 gz), (v 11, oA (v 12) (v 13) (v 14) (v 15) (v 16) (v 17) rd), (v 12, aZ ta 16 ab), (v 13, aZ ta 16 af), (v 14, aZ ta 256 UBOX), (v 15, aI ta 64 kw), (v 16, aI ta 4 sw), (v 17, aI ta 4 xw), (lg 0, oG lg ya yb wa wb o v ct), (ya 0, oK ya 3 ln), (lg 1, oR (lg 2) nta), (lg 2, aZ ta 400 gta)]) (As := [.int (nI nta)]) (rest := []) (ci := 3) (x := ⟨"LineGuard$Rule", "isBlocks", "(I)Z"⟩) (owner := "LineGuard$Rule") hx hb hml hown hts hGok hK hA hG hl.1 hP hD hS (ct_X7_isBlocks_N ll D ta gs v nta (by first | assumption | omega | rfl | decide) H.size) tw_597 tw_935 tw_596 tw_1457 tw_69 tw_1456 (va_Decl.of (hts _ tw_596) (hts _ tw_597)) ⟨by decide +kernel, by decide +kernel, by decide +kernel⟩ rfl ⟨rfl, rfl, Nat.le_of_ble_eq_true rfl, Nat.le_of_ble_eq_true rfl, Nat.le_of_ble_eq_true rfl, Nat.le_of_ble_eq_true rfl⟩ rfl (q0 := 5) rfl [5] [0, 1, 2, 3, 4, 6, 7, 8, 9, 10, 11, 12, 13, 14, 15, 16, 17, 18] rfl rfl (by decide) rfl (Nat.le_of_ble_eq_true rfl) dX9_seal_56 (fun u H locs hq hP hD hS => ?_)
      generalize u = z_56 at hq hP hD ⊢
      have hq : (z_56 = decide (nta % 16 = 0)) := hq
      have hz_56 := hq
      refine W.eq (g2 := F0 mm 59 ls [.int (qb z_56)]) rfl ?_
      have hP : va_P D vwCl [(wa 0, oW wa st lv cnt cm), (wa 7, oR (wa 8) len), (wa 8, aZ ta 32 gs9), (lg 3, oR (lg 4) nou), (lg 4, aZ ta 400 gou), (v 9, oR (v 10) 16), (v 10, aZ ta 16 gz), (v 11, oA (v 12) (v 13) (v 14) (v 15) (v 16) (v 17) rd), (v 12, aZ ta 16 ab), (v 13, aZ ta 16 af), (v 14, aZ ta 256 UBOX), (v 15, aI ta 64 kw), (v 16, aI ta 4 sw), (v 17, aI ta 4 xw), (lg 0, oG lg ya yb wa wb o v ct), (ya 0, oK ya 3 ln), (lg 1, oR (lg 2) nta), (lg 2, aZ ta 400 gta), (v 0, oV v)] H := hP
      have hD : va_D A [(wa 0, oW wa st lv cnt cm), (wa 7, oR (wa 8) len), (wa 8, aZ ta 32 gs9), (lg 3, oR (lg 4) nou), (lg 4, aZ ta 400 gou), (v 9, oR (v 10) 16), (v 10, aZ ta 16 gz), (v 11, oA (v 12) (v 13) (v 14) (v 15) (v 16) (v 17) rd), (v 12, aZ ta 16 ab), (v 13, aZ ta 16 af), (v 14, aZ ta 256 UBOX), (v 15, aI ta 64 kw), (v 16, aI ta 4 sw), (v 17, aI ta 4 xw), (lg 0, oG lg ya yb wa wb o v ct), (ya 0, oK ya 3 ln), (lg 1, oR (lg 2) nta), (lg 2, aZ ta 400 gta), (v 0, oV v)] := hD
      refine lv_if_eq (pc := 59) (tgt := 66) hx hb dX9_seal_59 (by decide) (fun c_4 => ?_) (fun c_4 => ?_)
      · skip
        rw [q_beq] at c_4
        try rw [Bool.not_eq_false] at c_4
        rw [hz_56, decide_eq_true (by omega)] at c_4; cases c_4
      · skip
        rw [q_beq] at c_4
        try rw [Bool.not_eq_false] at c_4
        refine lv_iconst (pc := 62) (v := nI 1) hx hb dX9_seal_62 (by decide +kernel) ?_
        refine lv_goto (pc := 63) (tgt := 67) hx hb dX9_seal_63 (by decide) ?_
        refine lv_istore (pc := 67) (lv' := [(6, .int (nI 1)), (5, .int (nI nta)), (4, .ref (v 0)), (3, .ref (wa 0)), (0, .ref (lg 0)), (1, .int (nI 0)), (2, .int (qb β))]) hx hb dX9_seal_67 hl (by decide) rfl (fun ls hl => ?_)
        refine lv_iload (pc := 69) hx hb dX9_seal_69 (lv_at hl 0 rfl) ?_
        refine lv_if_eq (pc := 71) (tgt := 99) hx hb dX9_seal_71 (by decide) (fun c_5 => absurd c_5 (by decide)) (fun _ => ?_)
        refine lv_aload_n (pc := 74) hx hb dX9_seal_74 rfl (lv_at hl 4 rfl) ?_
        refine va_get (pc := 75) (D := D) (ci := 7) (v := .ref (lg 3)) (C := RX9) (T := TX9) (N := 11) hx hb hts iu9 hown hK hP 14 rfl rfl 1 (by decide) (hts _ tw_353) (fun _ h9 => h9) rfl dX9_seal_75 ?_
        refine lv_aload_n (pc := 78) hx hb dX9_seal_78 rfl (lv_at hl 4 rfl) ?_
        refine va_get (pc := 79) (D := D) (ci := 7) (v := .ref (lg 1)) (C := RX9) (T := TX9) (N := 11) hx hb hts iu9 hown hK hP 14 rfl rfl 0 (by decide) (hts _ tw_352) (fun _ h9 => h9) rfl dX9_seal_79 ?_
        refine cs_V (pc := 82) (idx := 84) (n := 1) (wr := [(wa 0, oW wa st lv cnt cm), (wa 7, oR (wa 8) len), (wa 8, aZ ta 32 gs9), (v 9, oR (v 10) 16), (v 10, aZ ta 16 gz), (v 11, oA (v 12) (v 13) (v 14) (v 15) (v 16) (v 17) rd), (v 12, aZ ta 16 ab), (v 13, aZ ta 16 af), (v 14, aZ ta 256 UBOX), (v 15, aI ta 64 kw), (v 16, aI ta 4 sw), (v 17, aI ta 4 xw), (lg 0, oG lg ya yb wa wb o v ct), (ya 0, oK ya 3 ln), (v 0, oV v)]) (As := [.ref (lg 1)]) (rest := []) (ci := 5) hx hb hml hown hts hGok hK hA hG hl.1 hP hD hS (ct_X6_copy ll D ta hGok (lg 3) (lg 4) 400 gou nou (lg 1) (lg 2) 400 gta nta (by first | assumption | omega | rfl | decide) (by first | assumption | omega | rfl | decide) (by first | assumption | omega | rfl | decide) (by first | assumption | omega | rfl | decide) H.size) tw_437 tw_434 tw_435 tw_436 tw_66 hdX6_copy rfl ⟨rfl, rfl, Nat.le_of_ble_eq_true rfl, Nat.le_of_ble_eq_true rfl, Nat.le_of_ble_eq_true rfl, Nat.le_of_ble_eq_true rfl⟩ rfl rfl (q0 := 3) rfl [3, 4, 16, 17] [0, 1, 2, 5, 6, 7, 8, 9, 10, 11, 12, 13, 14, 15, 18] rfl rfl (by decide) rfl (Nat.le_of_ble_eq_true rfl) dX9_seal_82 (fun u H locs hq hP hD hS => ?_)
        generalize u = g1_82 at hq hP hD ⊢
        have hq : (qL g1_82 nta = qL gta nta) := hq
        have hL_82 := hq
        refine W.eq (g2 := F0 mm 85 ls []) rfl ?_
        have hP : va_P D vwCl [(wa 0, oW wa st lv cnt cm), (wa 7, oR (wa 8) len), (wa 8, aZ ta 32 gs9), (v 9, oR (v 10) 16), (v 10, aZ ta 16 gz), (v 11, oA (v 12) (v 13) (v 14) (v 15) (v 16) (v 17) rd), (v 12, aZ ta 16 ab), (v 13, aZ ta 16 af), (v 14, aZ ta 256 UBOX), (v 15, aI ta 64 kw), (v 16, aI ta 4 sw), (v 17, aI ta 4 xw), (lg 0, oG lg ya yb wa wb o v ct), (ya 0, oK ya 3 ln), (v 0, oV v), (lg 3, oR (lg 4) nta), (lg 4, aZ ta 400 g1_82), (lg 1, oR (lg 2) nta), (lg 2, aZ ta 400 gta)] H := hP
        have hD : va_D A [(wa 0, oW wa st lv cnt cm), (wa 7, oR (wa 8) len), (wa 8, aZ ta 32 gs9), (v 9, oR (v 10) 16), (v 10, aZ ta 16 gz), (v 11, oA (v 12) (v 13) (v 14) (v 15) (v 16) (v 17) rd), (v 12, aZ ta 16 ab), (v 13, aZ ta 16 af), (v 14, aZ ta 256 UBOX), (v 15, aI ta 64 kw), (v 16, aI ta 4 sw), (v 17, aI ta 4 xw), (lg 0, oG lg ya yb wa wb o v ct), (ya 0, oK ya 3 ln), (v 0, oV v), (lg 3, oR (lg 4) nta), (lg 4, aZ ta 400 g1_82), (lg 1, oR (lg 2) nta), (lg 2, aZ ta 400 gta)] := hD
        refine lv_aload (pc := 85) hx hb dX9_seal_85 (lv_at hl 2 rfl) ?_
        refine lv_aload_n (pc := 87) hx hb dX9_seal_87 rfl (lv_at hl 3 rfl) ?_
        refine va_getN (pc := 88) (D := D) (ci := 6) (v := .ref (wa 7)) (C := RX8) (T := TX8) (N := 14) hx hb hts iu8 hown hK hP 0 rfl rfl 5 (by decide) (va_Nw.use rfl (GC_w156 hG)) (fun _ h9 => h9) rfl dX9_seal_88 ?_
        refine lv_aload_n (pc := 91) hx hb dX9_seal_91 rfl (lv_at hl 4 rfl) ?_
        refine va_get (pc := 92) (D := D) (ci := 7) (v := .ref (lg 3)) (C := RX9) (T := TX9) (N := 11) hx hb hts iu9 hown hK hP 12 rfl rfl 1 (by decide) (hts _ tw_353) (fun _ h9 => h9) rfl dX9_seal_92 ?_
        refine lv_iload_n (pc := 95) hx hb dX9_seal_95 rfl (lv_at hl 6 rfl) ?_
        refine cs_U (pc := 96) (idx := 208) (n := 3) (wr := [(wa 0, oW wa st lv cnt cm), (lg 0, oG lg ya yb wa wb o v ct), (ya 0, oK ya 3 ln), (lg 1, oR (lg 2) nta), (lg 2, aZ ta 400 gta)]) (As := [.ref (wa 7), .ref (lg 3), .int (qb β)]) (rest := []) (ci := 3) (x := ⟨"LineGuard$Rule", "sealWith", "(LLineGuard$Row;LLineGuard$Row;Z)V"⟩) (owner := "LineGuard$Rule") hx hb hml hown hts hGok hK hA hG hl.1 hP hD hS (ct_X4_sealWith ll D ta gs v gz rd ab af kw sw xw (wa 7) (wa 8) 32 gs9 len (lg 3) (lg 4) 400 g1_82 nta β (by first | assumption | omega | rfl | decide) (by first | assumption | omega | rfl | decide) (by first | assumption | omega | rfl | decide) (by first | assumption | omega | rfl | decide) H.size) tw_941 tw_936 tw_940 tw_939 tw_73 tw_938 (va_Decl.abs (GC_w937 hG)) ⟨by decide +kernel, by decide +kernel, by decide +kernel⟩ rfl ⟨rfl, rfl, Nat.le_of_ble_eq_true rfl, Nat.le_of_ble_eq_true rfl, Nat.le_of_ble_eq_true rfl, Nat.le_of_ble_eq_true rfl⟩ rfl (q0 := 14) rfl [14, 3, 4, 5, 6, 7, 8, 9, 10, 11, 1, 2, 15, 16] [0, 12, 13, 17, 18] rfl rfl (by decide) rfl (Nat.le_of_ble_eq_true rfl) dX9_seal_96 (fun u H locs hq hP hD hS => ?_)
        obtain ⟨gou1_96, ab1_96, af1_96, kw1_96, sw1_96, xw1_96⟩ := u
        have hq : (qL gou1_96 nta = if β then decL (aesD (qL gs9 len)) 16 (zeroL 16) (qL g1_82 nta) else encL (aesE (qL gs9 len)) 16 (zeroL 16) (qL g1_82 nta)) := hq
        have hL_96 := hq
        refine W.eq (g2 := F0 mm 99 ls []) rfl ?_
        have hP : va_P D vwCl [(wa 0, oW wa st lv cnt cm), (lg 0, oG lg ya yb wa wb o v ct), (ya 0, oK ya 3 ln), (lg 1, oR (lg 2) nta), (lg 2, aZ ta 400 gta), (v 0, oV v), (v 9, oR (v 10) 16), (v 10, aZ ta 16 gz), (v 11, oA (v 12) (v 13) (v 14) (v 15) (v 16) (v 17) (len / 4 + 6)), (v 12, aZ ta 16 ab1_96), (v 13, aZ ta 16 af1_96), (v 14, aZ ta 256 UBOX), (v 15, aI ta 64 kw1_96), (v 16, aI ta 4 sw1_96), (v 17, aI ta 4 xw1_96), (wa 7, oR (wa 8) len), (wa 8, aZ ta 32 gs9), (lg 3, oR (lg 4) nta), (lg 4, aZ ta 400 gou1_96)] H := hP
        have hD : va_D A [(wa 0, oW wa st lv cnt cm), (lg 0, oG lg ya yb wa wb o v ct), (ya 0, oK ya 3 ln), (lg 1, oR (lg 2) nta), (lg 2, aZ ta 400 gta), (v 0, oV v), (v 9, oR (v 10) 16), (v 10, aZ ta 16 gz), (v 11, oA (v 12) (v 13) (v 14) (v 15) (v 16) (v 17) (len / 4 + 6)), (v 12, aZ ta 16 ab1_96), (v 13, aZ ta 16 af1_96), (v 14, aZ ta 256 UBOX), (v 15, aI ta 64 kw1_96), (v 16, aI ta 4 sw1_96), (v 17, aI ta 4 xw1_96), (wa 7, oR (wa 8) len), (wa 8, aZ ta 32 gs9), (lg 3, oR (lg 4) nta), (lg 4, aZ ta 400 gou1_96)] := hD
        refine lv_aload_n (pc := 99) hx hb dX9_seal_99 rfl (lv_at hl 4 rfl) ?_
        refine va_get (pc := 100) (D := D) (ci := 7) (v := .ref (lg 1)) (C := RX9) (T := TX9) (N := 11) hx hb hts iu9 hown hK hP 1 rfl rfl 0 (by decide) (hts _ tw_352) (fun _ h9 => h9) rfl dX9_seal_100 ?_
        refine cs_V (pc := 103) (idx := 88) (n := 0) (wr := [(wa 0, oW wa st lv cnt cm), (lg 0, oG lg ya yb wa wb o v ct), (ya 0, oK ya 3 ln), (v 0, oV v), (v 9, oR (v 10) 16), (v 10, aZ ta 16 gz), (v 11, oA (v 12) (v 13) (v 14) (v 15) (v 16) (v 17) (len / 4 + 6)), (v 12, aZ ta 16 ab1_96), (v 13, aZ ta 16 af1_96), (v 14, aZ ta 256 UBOX), (v 15, aI ta 64 kw1_96), (v 16, aI ta 4 sw1_96), (v 17, aI ta 4 xw1_96), (wa 7, oR (wa 8) len), (wa 8, aZ ta 32 gs9), (lg 3, oR (lg 4) nta), (lg 4, aZ ta 400 gou1_96)]) (As := []) (rest := []) (ci := 5) hx hb hml hown hts hGok hK hA hG hl.1 hP hD hS (ct_X6_clear ll D ta hGok (lg 1) (lg 2) 400 gta nta  H.size) tw_441 tw_447 tw_439 tw_440 tw_66 hdX6_clear rfl ⟨rfl, rfl, Nat.le_of_ble_eq_true rfl, Nat.le_of_ble_eq_true rfl, Nat.le_of_ble_eq_true rfl, Nat.le_of_ble_eq_true rfl⟩ rfl rfl (q0 := 3) rfl [3, 4] [0, 1, 2, 5, 6, 7, 8, 9, 10, 11, 12, 13, 14, 15, 16, 17, 18] rfl rfl (by decide) rfl (Nat.le_of_ble_eq_true rfl) dX9_seal_103 (fun u H locs hq hP hD hS => ?_)
        refine W.eq (g2 := F0 mm 106 ls []) rfl ?_
        have hP : va_P D vwCl [(wa 0, oW wa st lv cnt cm), (lg 0, oG lg ya yb wa wb o v ct), (ya 0, oK ya 3 ln), (v 0, oV v), (v 9, oR (v 10) 16), (v 10, aZ ta 16 gz), (v 11, oA (v 12) (v 13) (v 14) (v 15) (v 16) (v 17) (len / 4 + 6)), (v 12, aZ ta 16 ab1_96), (v 13, aZ ta 16 af1_96), (v 14, aZ ta 256 UBOX), (v 15, aI ta 64 kw1_96), (v 16, aI ta 4 sw1_96), (v 17, aI ta 4 xw1_96), (wa 7, oR (wa 8) len), (wa 8, aZ ta 32 gs9), (lg 3, oR (lg 4) nta), (lg 4, aZ ta 400 gou1_96), (lg 1, oR (lg 2) 0), (lg 2, aZ ta 400 gta)] H := hP
        have hD : va_D A [(wa 0, oW wa st lv cnt cm), (lg 0, oG lg ya yb wa wb o v ct), (ya 0, oK ya 3 ln), (v 0, oV v), (v 9, oR (v 10) 16), (v 10, aZ ta 16 gz), (v 11, oA (v 12) (v 13) (v 14) (v 15) (v 16) (v 17) (len / 4 + 6)), (v 12, aZ ta 16 ab1_96), (v 13, aZ ta 16 af1_96), (v 14, aZ ta 256 UBOX), (v 15, aI ta 64 kw1_96), (v 16, aI ta 4 sw1_96), (v 17, aI ta 4 xw1_96), (wa 7, oR (wa 8) len), (wa 8, aZ ta 32 gs9), (lg 3, oR (lg 4) nta), (lg 4, aZ ta 400 gou1_96), (lg 1, oR (lg 2) 0), (lg 2, aZ ta 400 gta)] := hD
        refine lv_iload (pc := 106) hx hb dX9_seal_106 (lv_at hl 0 rfl) ?_
        refine lv_if_eq (pc := 108) (tgt := 116) hx hb dX9_seal_108 (by decide) (fun c_6 => absurd c_6 (by decide)) (fun _ => ?_)
        refine lv_iload (pc := 111) hx hb dX9_seal_111 (lv_at hl 1 rfl) ?_
        refine lv_goto (pc := 113) (tgt := 117) hx hb dX9_seal_113 (by decide) ?_
        have hq_7 : (qL gou1_96 nta = if β then decL (aesD (qL gs9 len)) 16 (zeroL 16) (qL gta nta) else encL (aesE (qL gs9 len)) 16 (zeroL 16) (qL gta nta)) := by
          rw [hL_96, hL_82]
        exact hret (⟨(gou1_96), (ab1_96), (af1_96), (kw1_96), (sw1_96), (xw1_96)⟩ : (Nat → BitVec 8) × (Nat → BitVec 8) × (Nat → BitVec 8) × (Nat → Int32) × (Nat → Int32) × (Nat → Int32)) _ _ _ _ dX9_seal_117 hq_7 (hP.sub [1, 2, 0, 13, 14, 17, 18, 15, 16, 3, 4, 5, 6, 7, 8, 9, 10, 11, 12] rfl) (hD.sub [1, 2, 0, 13, 14, 17, 18, 15, 16, 3, 4, 5, 6, 7, 8, 9, 10, 11, 12] (by decide) rfl) hS
set_option maxHeartbeats 4000000 in
set_option maxRecDepth 100000 in
theorem ct_X9_seal_no1_N (ll : Launch) (D : va_G) (ta : Nat → ClassId) (gs : Nat → Nat) (lg : Nat → Nat) (ya : Nat → Nat) (yb : Nat → Nat) (wa : Nat → Nat) (wb : Nat → Nat) (o : Nat → Nat) (v : Nat → Nat) (ct : Nat) (gta : Nat → BitVec 8) (nta : Nat) (ln : Nat) (st : Nat) (lv : Nat) (cnt : Nat) (cm : Bool) (β : Bool) (hta : nta ≤ 400) (hst : st ≤ 2) (hno : ¬ (st ≠ 0 ∧ 0 < nta ∧ nta % 16 = 0)) (sz : Nat) : CT ll yX9_seal cX9_seal 7 (some .int) ({ frames := 4, cells := 0, slots := 0, locals := 106 } : Room) D ta ((GC gs)) [.ref (lg 0), .int (nI 1), .int (qb β)] [(lg 0, oG lg ya yb wa wb o v ct), (yb 0, oK yb 3 ln), (wb 0, oW wb st lv cnt cm), (v 0, oV v), (lg 1, oR (lg 2) nta), (lg 2, aZ ta 400 gta)] sz (S := Int32) (fun u => some (.int u)) (fun u => ((u : Int32) = -1)) (fun u => [(lg 0, oG lg ya yb wa wb o v ct), (yb 0, oK yb 3 ln), (wb 0, oW wb st lv cnt cm), (v 0, oV v), (lg 1, oR (lg 2) 0), (lg 2, aZ ta 400 gta)]) 0 0 := by
  refine CT.of_i (r := fun u => u) rfl (by decide) (Nat.le_of_ble_eq_true rfl) ?_
  have hGok := GC_ok gs
  intro pp ee ss mm below meth kc A Q hx hb hml hown hin hts hK hA hsz hG hret H locs hP hD hS ls hl
  have hl : lv_has ls 7 [(0, .ref (lg 0)), (1, .int (nI 1)), (2, .int (qb β))] := hl
  refine lv_aload_n (pc := 0) hx hb dX9_seal_0 rfl (lv_at hl 0 rfl) ?_
  refine lv_iload_n (pc := 1) hx hb dX9_seal_1 rfl (lv_at hl 1 rfl) ?_
  refine cs_V (pc := 2) (idx := 198) (n := 1) (wr := [(yb 0, oK yb 3 ln), (wb 0, oW wb st lv cnt cm), (v 0, oV v), (lg 1, oR (lg 2) nta), (lg 2, aZ ta 400 gta)]) (As := [.int (nI 1)]) (rest := []) (ci := 7) hx hb hml hown hts hGok hK hA hG hl.1 hP hD hS (ct_X9_sessionOf_1 ll D ta hGok lg ya yb wa wb o v ct  H.size) tw_934 tw_931 tw_933 tw_25 tw_65 hdX9_sessionOf rfl ⟨rfl, rfl, Nat.le_of_ble_eq_true rfl, Nat.le_of_ble_eq_true rfl, Nat.le_of_ble_eq_true rfl, Nat.le_of_ble_eq_true rfl⟩ rfl rfl (q0 := 0) rfl [0] [1, 2, 3, 4, 5] rfl rfl (by decide) rfl (Nat.le_of_ble_eq_true rfl) dX9_seal_2 (fun u H locs hq hP hD hS => ?_)
  refine W.eq (g2 := F0 mm 5 ls [.ref (wb 0)]) rfl ?_
  have hP : va_P D vwCl [(yb 0, oK yb 3 ln), (wb 0, oW wb st lv cnt cm), (v 0, oV v), (lg 1, oR (lg 2) nta), (lg 2, aZ ta 400 gta), (lg 0, oG lg ya yb wa wb o v ct)] H := hP
  have hD : va_D A [(yb 0, oK yb 3 ln), (wb 0, oW wb st lv cnt cm), (v 0, oV v), (lg 1, oR (lg 2) nta), (lg 2, aZ ta 400 gta), (lg 0, oG lg ya yb wa wb o v ct)] := hD
  refine lv_astore_n (pc := 5) (lv' := [(3, .ref (wb 0)), (0, .ref (lg 0)), (1, .int (nI 1)), (2, .int (qb β))]) hx hb dX9_seal_5 rfl hl (by decide) rfl (fun ls hl => ?_)
  refine lv_aload_n (pc := 6) hx hb dX9_seal_6 rfl (lv_at hl 1 rfl) ?_
  refine lv_iload_n (pc := 7) hx hb dX9_seal_7 rfl (lv_at hl 2 rfl) ?_
  refine lv_if_ne (pc := 8) (tgt := 18) hx hb dX9_seal_8 (by decide) (fun _ => ?_) (fun c_1 => absurd c_1 (by decide))
  refine lv_aload_n (pc := 18) hx hb dX9_seal_18 rfl (lv_at hl 1 rfl) ?_
  refine va_get (pc := 19) (D := D) (ci := 7) (v := .ref (yb 0)) (C := RX9) (T := TX9) (N := 11) hx hb hts iu9 hown hK hP 5 rfl rfl 5 (by decide) (hts _ tw_357) (fun _ h9 => h9) rfl dX9_seal_19 ?_
  refine cs_V (pc := 22) (idx := 109) (n := 1) (wr := [(wb 0, oW wb st lv cnt cm), (v 0, oV v), (lg 1, oR (lg 2) nta), (lg 2, aZ ta 400 gta)]) (As := [.ref (yb 0)]) (rest := []) (ci := 7) hx hb hml hown hts hGok hK hA hG hl.1 hP hD hS (ct_X9_ruleOf_3 ll D ta gs lg ya yb wa wb o v ct yb ln  H.size) tw_489 tw_486 tw_488 tw_2 tw_65 hdX9_ruleOf rfl ⟨rfl, rfl, Nat.le_of_ble_eq_true rfl, Nat.le_of_ble_eq_true rfl, Nat.le_of_ble_eq_true rfl, Nat.le_of_ble_eq_true rfl⟩ rfl rfl (q0 := 5) rfl [5, 0] [1, 2, 3, 4] rfl rfl (by decide) rfl (Nat.le_of_ble_eq_true rfl) dX9_seal_22 (fun u H locs hq hP hD hS => ?_)
  refine W.eq (g2 := F0 mm 25 ls [.ref (v 0)]) rfl ?_
  have hP : va_P D vwCl [(wb 0, oW wb st lv cnt cm), (v 0, oV v), (lg 1, oR (lg 2) nta), (lg 2, aZ ta 400 gta), (lg 0, oG lg ya yb wa wb o v ct), (yb 0, oK yb 3 ln)] H := hP
  have hD : va_D A [(wb 0, oW wb st lv cnt cm), (v 0, oV v), (lg 1, oR (lg 2) nta), (lg 2, aZ ta 400 gta), (lg 0, oG lg ya yb wa wb o v ct), (yb 0, oK yb 3 ln)] := hD
  refine lv_astore (pc := 25) (lv' := [(4, .ref (v 0)), (3, .ref (wb 0)), (0, .ref (lg 0)), (1, .int (nI 1)), (2, .int (qb β))]) hx hb dX9_seal_25 hl (by decide) rfl (fun ls hl => ?_)
  refine lv_aload_n (pc := 27) hx hb dX9_seal_27 rfl (lv_at hl 2 rfl) ?_
  refine va_get (pc := 28) (D := D) (ci := 7) (v := .ref (lg 1)) (C := RX9) (T := TX9) (N := 11) hx hb hts iu9 hown hK hP 4 rfl rfl 0 (by decide) (hts _ tw_352) (fun _ h9 => h9) rfl dX9_seal_28 ?_
  refine cs_V (pc := 31) (idx := 64) (n := 0) (wr := [(wb 0, oW wb st lv cnt cm), (v 0, oV v), (lg 0, oG lg ya yb wa wb o v ct), (yb 0, oK yb 3 ln)]) (As := []) (rest := []) (ci := 5) hx hb hml hown hts hGok hK hA hG hl.1 hP hD hS (ct_X6_size ll D ta hGok (lg 1) (lg 2) 400 gta nta  H.size) tw_393 tw_390 tw_391 tw_392 tw_66 hdX6_size rfl ⟨rfl, rfl, Nat.le_of_ble_eq_true rfl, Nat.le_of_ble_eq_true rfl, Nat.le_of_ble_eq_true rfl, Nat.le_of_ble_eq_true rfl⟩ rfl rfl (q0 := 2) rfl [2, 3] [0, 1, 4, 5] rfl rfl (by decide) rfl (Nat.le_of_ble_eq_true rfl) dX9_seal_31 (fun u H locs hq hP hD hS => ?_)
  refine W.eq (g2 := F0 mm 34 ls [.int (nI nta)]) rfl ?_
  have hP : va_P D vwCl [(wb 0, oW wb st lv cnt cm), (v 0, oV v), (lg 0, oG lg ya yb wa wb o v ct), (yb 0, oK yb 3 ln), (lg 1, oR (lg 2) nta), (lg 2, aZ ta 400 gta)] H := hP
  have hD : va_D A [(wb 0, oW wb st lv cnt cm), (v 0, oV v), (lg 0, oG lg ya yb wa wb o v ct), (yb 0, oK yb 3 ln), (lg 1, oR (lg 2) nta), (lg 2, aZ ta 400 gta)] := hD
  refine lv_istore (pc := 34) (lv' := [(5, .int (nI nta)), (4, .ref (v 0)), (3, .ref (wb 0)), (0, .ref (lg 0)), (1, .int (nI 1)), (2, .int (qb β))]) hx hb dX9_seal_34 hl (by decide) rfl (fun ls hl => ?_)
  refine lv_aload_n (pc := 36) hx hb dX9_seal_36 rfl (lv_at hl 2 rfl) ?_
  refine lv_ifnull (pc := 37) hx hb dX9_seal_37 ?_
  refine lv_aload_n (pc := 40) hx hb dX9_seal_40 rfl (lv_at hl 2 rfl) ?_
  refine va_getN (pc := 41) (D := D) (ci := 6) (v := .int (nI st)) (C := RX8) (T := TX8) (N := 14) hx hb hts iu8 hown hK hP 0 rfl rfl 0 (by decide) (va_Nw.use rfl (GC_w140 hG)) (fun _ h9 => h9) rfl dX9_seal_41 ?_
  refine lv_if_eq (pc := 44) (tgt := 66) hx hb dX9_seal_44 (by decide) (fun c_2 => ?_) (fun c_2 => ?_)
  · skip
    rw [q_eq0 (by omega)] at c_2
    refine lv_iconst (pc := 66) (v := nI 0) hx hb dX9_seal_66 (by decide +kernel) ?_
    refine lv_istore (pc := 67) (lv' := [(6, .int (nI 0)), (5, .int (nI nta)), (4, .ref (v 0)), (3, .ref (wb 0)), (0, .ref (lg 0)), (1, .int (nI 1)), (2, .int (qb β))]) hx hb dX9_seal_67 hl (by decide) rfl (fun ls hl => ?_)
    refine lv_iload (pc := 69) hx hb dX9_seal_69 (lv_at hl 0 rfl) ?_
    refine lv_if_eq (pc := 71) (tgt := 99) hx hb dX9_seal_71 (by decide) (fun _ => ?_) (fun c_3 => absurd (by decide) c_3)
    refine lv_aload_n (pc := 99) hx hb dX9_seal_99 rfl (lv_at hl 4 rfl) ?_
    refine va_get (pc := 100) (D := D) (ci := 7) (v := .ref (lg 1)) (C := RX9) (T := TX9) (N := 11) hx hb hts iu9 hown hK hP 2 rfl rfl 0 (by decide) (hts _ tw_352) (fun _ h9 => h9) rfl dX9_seal_100 ?_
    refine cs_V (pc := 103) (idx := 88) (n := 0) (wr := [(wb 0, oW wb st lv cnt cm), (v 0, oV v), (lg 0, oG lg ya yb wa wb o v ct), (yb 0, oK yb 3 ln)]) (As := []) (rest := []) (ci := 5) hx hb hml hown hts hGok hK hA hG hl.1 hP hD hS (ct_X6_clear ll D ta hGok (lg 1) (lg 2) 400 gta nta  H.size) tw_441 tw_447 tw_439 tw_440 tw_66 hdX6_clear rfl ⟨rfl, rfl, Nat.le_of_ble_eq_true rfl, Nat.le_of_ble_eq_true rfl, Nat.le_of_ble_eq_true rfl, Nat.le_of_ble_eq_true rfl⟩ rfl rfl (q0 := 4) rfl [4, 5] [0, 1, 2, 3] rfl rfl (by decide) rfl (Nat.le_of_ble_eq_true rfl) dX9_seal_103 (fun u H locs hq hP hD hS => ?_)
    refine W.eq (g2 := F0 mm 106 ls []) rfl ?_
    have hP : va_P D vwCl [(wb 0, oW wb st lv cnt cm), (v 0, oV v), (lg 0, oG lg ya yb wa wb o v ct), (yb 0, oK yb 3 ln), (lg 1, oR (lg 2) 0), (lg 2, aZ ta 400 gta)] H := hP
    have hD : va_D A [(wb 0, oW wb st lv cnt cm), (v 0, oV v), (lg 0, oG lg ya yb wa wb o v ct), (yb 0, oK yb 3 ln), (lg 1, oR (lg 2) 0), (lg 2, aZ ta 400 gta)] := hD
    refine lv_iload (pc := 106) hx hb dX9_seal_106 (lv_at hl 0 rfl) ?_
    refine lv_if_eq (pc := 108) (tgt := 116) hx hb dX9_seal_108 (by decide) (fun _ => ?_) (fun c_4 => absurd (by decide) c_4)
    refine lv_iconst (pc := 116) (v := (-1)) hx hb dX9_seal_116 (by decide +kernel) ?_
    refine q_top (y := (-1)) (by first | rfl | decide +kernel | (simp; done)) ?_
    have hq_5 : (((-1) : Int32) = -1) := by
      first | rfl | trivial | (refine ⟨?_, ?_⟩ <;> rfl) | (simp; done) | omega
    exact hret (-1) _ _ _ _ dX9_seal_117 hq_5 (hP.sub [2, 3, 0, 1, 4, 5] rfl) (hD.sub [2, 3, 0, 1, 4, 5] (by decide) rfl) hS
  · skip
    rw [q_eq0 (by omega)] at c_2
    refine lv_iload (pc := 47) hx hb dX9_seal_47 (lv_at hl 0 rfl) ?_
    refine lv_if_le (pc := 49) (tgt := 66) hx hb dX9_seal_49 (by decide) (fun c_6 => ?_) (fun c_6 => ?_)
    · skip
      rw [q_le0 (by omega)] at c_6
      refine lv_iconst (pc := 66) (v := nI 0) hx hb dX9_seal_66 (by decide +kernel) ?_
      refine lv_istore (pc := 67) (lv' := [(6, .int (nI 0)), (5, .int (nI nta)), (4, .ref (v 0)), (3, .ref (wb 0)), (0, .ref (lg 0)), (1, .int (nI 1)), (2, .int (qb β))]) hx hb dX9_seal_67 hl (by decide) rfl (fun ls hl => ?_)
      refine lv_iload (pc := 69) hx hb dX9_seal_69 (lv_at hl 0 rfl) ?_
      refine lv_if_eq (pc := 71) (tgt := 99) hx hb dX9_seal_71 (by decide) (fun _ => ?_) (fun c_7 => absurd (by decide) c_7)
      refine lv_aload_n (pc := 99) hx hb dX9_seal_99 rfl (lv_at hl 4 rfl) ?_
      refine va_get (pc := 100) (D := D) (ci := 7) (v := .ref (lg 1)) (C := RX9) (T := TX9) (N := 11) hx hb hts iu9 hown hK hP 2 rfl rfl 0 (by decide) (hts _ tw_352) (fun _ h9 => h9) rfl dX9_seal_100 ?_
      refine cs_V (pc := 103) (idx := 88) (n := 0) (wr := [(wb 0, oW wb st lv cnt cm), (v 0, oV v), (lg 0, oG lg ya yb wa wb o v ct), (yb 0, oK yb 3 ln)]) (As := []) (rest := []) (ci := 5) hx hb hml hown hts hGok hK hA hG hl.1 hP hD hS (ct_X6_clear ll D ta hGok (lg 1) (lg 2) 400 gta nta  H.size) tw_441 tw_447 tw_439 tw_440 tw_66 hdX6_clear rfl ⟨rfl, rfl, Nat.le_of_ble_eq_true rfl, Nat.le_of_ble_eq_true rfl, Nat.le_of_ble_eq_true rfl, Nat.le_of_ble_eq_true rfl⟩ rfl rfl (q0 := 4) rfl [4, 5] [0, 1, 2, 3] rfl rfl (by decide) rfl (Nat.le_of_ble_eq_true rfl) dX9_seal_103 (fun u H locs hq hP hD hS => ?_)
      refine W.eq (g2 := F0 mm 106 ls []) rfl ?_
      have hP : va_P D vwCl [(wb 0, oW wb st lv cnt cm), (v 0, oV v), (lg 0, oG lg ya yb wa wb o v ct), (yb 0, oK yb 3 ln), (lg 1, oR (lg 2) 0), (lg 2, aZ ta 400 gta)] H := hP
      have hD : va_D A [(wb 0, oW wb st lv cnt cm), (v 0, oV v), (lg 0, oG lg ya yb wa wb o v ct), (yb 0, oK yb 3 ln), (lg 1, oR (lg 2) 0), (lg 2, aZ ta 400 gta)] := hD
      refine lv_iload (pc := 106) hx hb dX9_seal_106 (lv_at hl 0 rfl) ?_
      refine lv_if_eq (pc := 108) (tgt := 116) hx hb dX9_seal_108 (by decide) (fun _ => ?_) (fun c_8 => absurd (by decide) c_8)
      refine lv_iconst (pc := 116) (v := (-1)) hx hb dX9_seal_116 (by decide +kernel) ?_
      refine q_top (y := (-1)) (by first | rfl | decide +kernel | (simp; done)) ?_
      have hq_9 : (((-1) : Int32) = -1) := by
        first | rfl | trivial | (refine ⟨?_, ?_⟩ <;> rfl) | (simp; done) | omega
      exact hret (-1) _ _ _ _ dX9_seal_117 hq_9 (hP.sub [2, 3, 0, 1, 4, 5] rfl) (hD.sub [2, 3, 0, 1, 4, 5] (by decide) rfl) hS
    · skip
      rw [q_le0 (by omega)] at c_6
      refine lv_aload (pc := 52) hx hb dX9_seal_52 (lv_at hl 1 rfl) ?_
      refine lv_iload (pc := 54) hx hb dX9_seal_54 (lv_at hl 0 rfl) ?_
      refine cs_U (pc := 56) (idx := 202) (n := 1) (wr := [(wb 0, oW wb st lv cnt cm), (lg 0, oG lg ya yb wa wb o v ct), (yb 0, oK yb 3 ln), (lg 1, oR (lg 2) nta), (lg 2, aZ ta 400 gta)]) (As := [.int (nI nta)]) (rest := []) (ci := 3) (x := ⟨"LineGuard$Rule", "isBlocks", "(I)Z"⟩) (owner := "LineGuard$Rule") hx hb hml hown hts hGok hK hA hG hl.1 hP hD hS (ct_X7_isBlocks_N ll D ta gs v nta (by first | assumption | omega | rfl | decide) H.size) tw_597 tw_935 tw_596 tw_1457 tw_69 tw_1456 (va_Decl.of (hts _ tw_596) (hts _ tw_597)) ⟨by decide +kernel, by decide +kernel, by decide +kernel⟩ rfl ⟨rfl, rfl, Nat.le_of_ble_eq_true rfl, Nat.le_of_ble_eq_true rfl, Nat.le_of_ble_eq_true rfl, Nat.le_of_ble_eq_true rfl⟩ rfl (q0 := 1) rfl [1] [0, 2, 3, 4, 5] rfl rfl (by decide) rfl (Nat.le_of_ble_eq_true rfl) dX9_seal_56 (fun u H locs hq hP hD hS => ?_)
      generalize u = z_56 at hq hP hD ⊢
      have hq : (z_56 = decide (nta % 16 = 0)) := hq
      have hz_56 := hq
      refine W.eq (g2 := F0 mm 59 ls [.int (qb z_56)]) rfl ?_
      have hP : va_P D vwCl [(wb 0, oW wb st lv cnt cm), (lg 0, oG lg ya yb wa wb o v ct), (yb 0, oK yb 3 ln), (lg 1, oR (lg 2) nta), (lg 2, aZ ta 400 gta), (v 0, oV v)] H := hP
      have hD : va_D A [(wb 0, oW wb st lv cnt cm), (lg 0, oG lg ya yb wa wb o v ct), (yb 0, oK yb 3 ln), (lg 1, oR (lg 2) nta), (lg 2, aZ ta 400 gta), (v 0, oV v)] := hD
      refine lv_if_eq (pc := 59) (tgt := 66) hx hb dX9_seal_59 (by decide) (fun c_10 => ?_) (fun c_10 => ?_)
      · skip
        rw [q_beq] at c_10
        try rw [Bool.not_eq_false] at c_10
        have hzb := c_10
        refine lv_iconst (pc := 66) (v := nI 0) hx hb dX9_seal_66 (by decide +kernel) ?_
        refine lv_istore (pc := 67) (lv' := [(6, .int (nI 0)), (5, .int (nI nta)), (4, .ref (v 0)), (3, .ref (wb 0)), (0, .ref (lg 0)), (1, .int (nI 1)), (2, .int (qb β))]) hx hb dX9_seal_67 hl (by decide) rfl (fun ls hl => ?_)
        refine lv_iload (pc := 69) hx hb dX9_seal_69 (lv_at hl 0 rfl) ?_
        refine lv_if_eq (pc := 71) (tgt := 99) hx hb dX9_seal_71 (by decide) (fun _ => ?_) (fun c_11 => absurd (by decide) c_11)
        refine lv_aload_n (pc := 99) hx hb dX9_seal_99 rfl (lv_at hl 4 rfl) ?_
        refine va_get (pc := 100) (D := D) (ci := 7) (v := .ref (lg 1)) (C := RX9) (T := TX9) (N := 11) hx hb hts iu9 hown hK hP 1 rfl rfl 0 (by decide) (hts _ tw_352) (fun _ h9 => h9) rfl dX9_seal_100 ?_
        refine cs_V (pc := 103) (idx := 88) (n := 0) (wr := [(wb 0, oW wb st lv cnt cm), (lg 0, oG lg ya yb wa wb o v ct), (yb 0, oK yb 3 ln), (v 0, oV v)]) (As := []) (rest := []) (ci := 5) hx hb hml hown hts hGok hK hA hG hl.1 hP hD hS (ct_X6_clear ll D ta hGok (lg 1) (lg 2) 400 gta nta  H.size) tw_441 tw_447 tw_439 tw_440 tw_66 hdX6_clear rfl ⟨rfl, rfl, Nat.le_of_ble_eq_true rfl, Nat.le_of_ble_eq_true rfl, Nat.le_of_ble_eq_true rfl, Nat.le_of_ble_eq_true rfl⟩ rfl rfl (q0 := 3) rfl [3, 4] [0, 1, 2, 5] rfl rfl (by decide) rfl (Nat.le_of_ble_eq_true rfl) dX9_seal_103 (fun u H locs hq hP hD hS => ?_)
        refine W.eq (g2 := F0 mm 106 ls []) rfl ?_
        have hP : va_P D vwCl [(wb 0, oW wb st lv cnt cm), (lg 0, oG lg ya yb wa wb o v ct), (yb 0, oK yb 3 ln), (v 0, oV v), (lg 1, oR (lg 2) 0), (lg 2, aZ ta 400 gta)] H := hP
        have hD : va_D A [(wb 0, oW wb st lv cnt cm), (lg 0, oG lg ya yb wa wb o v ct), (yb 0, oK yb 3 ln), (v 0, oV v), (lg 1, oR (lg 2) 0), (lg 2, aZ ta 400 gta)] := hD
        refine lv_iload (pc := 106) hx hb dX9_seal_106 (lv_at hl 0 rfl) ?_
        refine lv_if_eq (pc := 108) (tgt := 116) hx hb dX9_seal_108 (by decide) (fun _ => ?_) (fun c_12 => absurd (by decide) c_12)
        refine lv_iconst (pc := 116) (v := (-1)) hx hb dX9_seal_116 (by decide +kernel) ?_
        refine q_top (y := (-1)) (by first | rfl | decide +kernel | (simp; done)) ?_
        have hq_13 : (((-1) : Int32) = -1) := by
          first | rfl | trivial | (refine ⟨?_, ?_⟩ <;> rfl) | (simp; done) | omega
        exact hret (-1) _ _ _ _ dX9_seal_117 hq_13 (hP.sub [1, 2, 0, 3, 4, 5] rfl) (hD.sub [1, 2, 0, 3, 4, 5] (by decide) rfl) hS
      · skip
        rw [q_beq] at c_10
        try rw [Bool.not_eq_false] at c_10
        have hzb := c_10
        exact absurd ⟨by omega, by omega, of_decide_eq_true (hz_56.symm.trans hzb)⟩ hno
set_option maxHeartbeats 4000000 in
set_option maxRecDepth 100000 in
theorem ct_X9_seal_1_N (ll : Launch) (D : va_G) (ta : Nat → ClassId) (gs : Nat → Nat) (lg : Nat → Nat) (ya : Nat → Nat) (yb : Nat → Nat) (wa : Nat → Nat) (wb : Nat → Nat) (o : Nat → Nat) (v : Nat → Nat) (ct : Nat) (gta : Nat → BitVec 8) (nta : Nat) (gou : Nat → BitVec 8) (nou : Nat) (gz : Nat → BitVec 8) (rd : Nat) (ab : Nat → BitVec 8) (af : Nat → BitVec 8) (kw : Nat → Int32) (sw : Nat → Int32) (xw : Nat → Int32) (len : Nat) (ln : Nat) (gs9 : Nat → BitVec 8) (st : Nat) (lv : Nat) (cnt : Nat) (cm : Bool) (β : Bool) (hz : qL gz 16 = zeroL 16) (hln : len = 16 ∨ len = 24 ∨ len = 32) (hta : 0 < nta ∧ nta ≤ 400 ∧ nta % 16 = 0) (hst : st ≤ 2 ∧ st ≠ 0) (sz : Nat) : CT ll yX9_seal cX9_seal 7 (some .int) ({ frames := 4, cells := 0, slots := 0, locals := 106 } : Room) D ta ((GC gs)) [.ref (lg 0), .int (nI 1), .int (qb β)] [(lg 0, oG lg ya yb wa wb o v ct), (yb 0, oK yb 3 ln), (wb 0, oW wb st lv cnt cm), (wb 7, oR (wb 8) len), (wb 8, aZ ta 32 gs9), (lg 1, oR (lg 2) nta), (lg 2, aZ ta 400 gta), (lg 3, oR (lg 4) nou), (lg 4, aZ ta 400 gou), (v 0, oV v), (v 9, oR (v 10) 16), (v 10, aZ ta 16 gz), (v 11, oA (v 12) (v 13) (v 14) (v 15) (v 16) (v 17) rd), (v 12, aZ ta 16 ab), (v 13, aZ ta 16 af), (v 14, aZ ta 256 UBOX), (v 15, aI ta 64 kw), (v 16, aI ta 4 sw), (v 17, aI ta 4 xw)] sz (S := (Nat → BitVec 8) × (Nat → BitVec 8) × (Nat → BitVec 8) × (Nat → Int32) × (Nat → Int32) × (Nat → Int32)) (fun u => some (.int (nI nta))) (fun u => (qL u.1 nta = if β then decL (aesD (qL gs9 len)) 16 (zeroL 16) (qL gta nta) else encL (aesE (qL gs9 len)) 16 (zeroL 16) (qL gta nta))) (fun u => [(lg 0, oG lg ya yb wa wb o v ct), (yb 0, oK yb 3 ln), (wb 0, oW wb st lv cnt cm), (wb 7, oR (wb 8) len), (wb 8, aZ ta 32 gs9), (lg 1, oR (lg 2) 0), (lg 2, aZ ta 400 gta), (lg 3, oR (lg 4) nta), (lg 4, aZ ta 400 u.1), (v 0, oV v), (v 9, oR (v 10) 16), (v 10, aZ ta 16 gz), (v 11, oA (v 12) (v 13) (v 14) (v 15) (v 16) (v 17) (len / 4 + 6)), (v 12, aZ ta 16 u.2.1), (v 13, aZ ta 16 u.2.2.1), (v 14, aZ ta 256 UBOX), (v 15, aI ta 64 u.2.2.2.1), (v 16, aI ta 4 u.2.2.2.2.1), (v 17, aI ta 4 u.2.2.2.2.2)]) 0 0 := by
  refine CT.of_i (r := fun u => nI nta) rfl (by decide) (Nat.le_of_ble_eq_true rfl) ?_
  have hGok := GC_ok gs
  intro pp ee ss mm below meth kc A Q hx hb hml hown hin hts hK hA hsz hG hret H locs hP hD hS ls hl
  have hl : lv_has ls 7 [(0, .ref (lg 0)), (1, .int (nI 1)), (2, .int (qb β))] := hl
  refine lv_aload_n (pc := 0) hx hb dX9_seal_0 rfl (lv_at hl 0 rfl) ?_
  refine lv_iload_n (pc := 1) hx hb dX9_seal_1 rfl (lv_at hl 1 rfl) ?_
  refine cs_V (pc := 2) (idx := 198) (n := 1) (wr := [(yb 0, oK yb 3 ln), (wb 0, oW wb st lv cnt cm), (wb 7, oR (wb 8) len), (wb 8, aZ ta 32 gs9), (lg 1, oR (lg 2) nta), (lg 2, aZ ta 400 gta), (lg 3, oR (lg 4) nou), (lg 4, aZ ta 400 gou), (v 0, oV v), (v 9, oR (v 10) 16), (v 10, aZ ta 16 gz), (v 11, oA (v 12) (v 13) (v 14) (v 15) (v 16) (v 17) rd), (v 12, aZ ta 16 ab), (v 13, aZ ta 16 af), (v 14, aZ ta 256 UBOX), (v 15, aI ta 64 kw), (v 16, aI ta 4 sw), (v 17, aI ta 4 xw)]) (As := [.int (nI 1)]) (rest := []) (ci := 7) hx hb hml hown hts hGok hK hA hG hl.1 hP hD hS (ct_X9_sessionOf_1 ll D ta hGok lg ya yb wa wb o v ct  H.size) tw_934 tw_931 tw_933 tw_25 tw_65 hdX9_sessionOf rfl ⟨rfl, rfl, Nat.le_of_ble_eq_true rfl, Nat.le_of_ble_eq_true rfl, Nat.le_of_ble_eq_true rfl, Nat.le_of_ble_eq_true rfl⟩ rfl rfl (q0 := 0) rfl [0] [1, 2, 3, 4, 5, 6, 7, 8, 9, 10, 11, 12, 13, 14, 15, 16, 17, 18] rfl rfl (by decide) rfl (Nat.le_of_ble_eq_true rfl) dX9_seal_2 (fun u H locs hq hP hD hS => ?_)
  refine W.eq (g2 := F0 mm 5 ls [.ref (wb 0)]) rfl ?_
  have hP : va_P D vwCl [(yb 0, oK yb 3 ln), (wb 0, oW wb st lv cnt cm), (wb 7, oR (wb 8) len), (wb 8, aZ ta 32 gs9), (lg 1, oR (lg 2) nta), (lg 2, aZ ta 400 gta), (lg 3, oR (lg 4) nou), (lg 4, aZ ta 400 gou), (v 0, oV v), (v 9, oR (v 10) 16), (v 10, aZ ta 16 gz), (v 11, oA (v 12) (v 13) (v 14) (v 15) (v 16) (v 17) rd), (v 12, aZ ta 16 ab), (v 13, aZ ta 16 af), (v 14, aZ ta 256 UBOX), (v 15, aI ta 64 kw), (v 16, aI ta 4 sw), (v 17, aI ta 4 xw), (lg 0, oG lg ya yb wa wb o v ct)] H := hP
  have hD : va_D A [(yb 0, oK yb 3 ln), (wb 0, oW wb st lv cnt cm), (wb 7, oR (wb 8) len), (wb 8, aZ ta 32 gs9), (lg 1, oR (lg 2) nta), (lg 2, aZ ta 400 gta), (lg 3, oR (lg 4) nou), (lg 4, aZ ta 400 gou), (v 0, oV v), (v 9, oR (v 10) 16), (v 10, aZ ta 16 gz), (v 11, oA (v 12) (v 13) (v 14) (v 15) (v 16) (v 17) rd), (v 12, aZ ta 16 ab), (v 13, aZ ta 16 af), (v 14, aZ ta 256 UBOX), (v 15, aI ta 64 kw), (v 16, aI ta 4 sw), (v 17, aI ta 4 xw), (lg 0, oG lg ya yb wa wb o v ct)] := hD
  refine lv_astore_n (pc := 5) (lv' := [(3, .ref (wb 0)), (0, .ref (lg 0)), (1, .int (nI 1)), (2, .int (qb β))]) hx hb dX9_seal_5 rfl hl (by decide) rfl (fun ls hl => ?_)
  refine lv_aload_n (pc := 6) hx hb dX9_seal_6 rfl (lv_at hl 1 rfl) ?_
  refine lv_iload_n (pc := 7) hx hb dX9_seal_7 rfl (lv_at hl 2 rfl) ?_
  refine lv_if_ne (pc := 8) (tgt := 18) hx hb dX9_seal_8 (by decide) (fun _ => ?_) (fun c_1 => absurd c_1 (by decide))
  refine lv_aload_n (pc := 18) hx hb dX9_seal_18 rfl (lv_at hl 1 rfl) ?_
  refine va_get (pc := 19) (D := D) (ci := 7) (v := .ref (yb 0)) (C := RX9) (T := TX9) (N := 11) hx hb hts iu9 hown hK hP 18 rfl rfl 5 (by decide) (hts _ tw_357) (fun _ h9 => h9) rfl dX9_seal_19 ?_
  refine cs_V (pc := 22) (idx := 109) (n := 1) (wr := [(wb 0, oW wb st lv cnt cm), (wb 7, oR (wb 8) len), (wb 8, aZ ta 32 gs9), (lg 1, oR (lg 2) nta), (lg 2, aZ ta 400 gta), (lg 3, oR (lg 4) nou), (lg 4, aZ ta 400 gou), (v 0, oV v), (v 9, oR (v 10) 16), (v 10, aZ ta 16 gz), (v 11, oA (v 12) (v 13) (v 14) (v 15) (v 16) (v 17) rd), (v 12, aZ ta 16 ab), (v 13, aZ ta 16 af), (v 14, aZ ta 256 UBOX), (v 15, aI ta 64 kw), (v 16, aI ta 4 sw), (v 17, aI ta 4 xw)]) (As := [.ref (yb 0)]) (rest := []) (ci := 7) hx hb hml hown hts hGok hK hA hG hl.1 hP hD hS (ct_X9_ruleOf_3 ll D ta gs lg ya yb wa wb o v ct yb ln  H.size) tw_489 tw_486 tw_488 tw_2 tw_65 hdX9_ruleOf rfl ⟨rfl, rfl, Nat.le_of_ble_eq_true rfl, Nat.le_of_ble_eq_true rfl, Nat.le_of_ble_eq_true rfl, Nat.le_of_ble_eq_true rfl⟩ rfl rfl (q0 := 18) rfl [18, 0] [1, 2, 3, 4, 5, 6, 7, 8, 9, 10, 11, 12, 13, 14, 15, 16, 17] rfl rfl (by decide) rfl (Nat.le_of_ble_eq_true rfl) dX9_seal_22 (fun u H locs hq hP hD hS => ?_)
  refine W.eq (g2 := F0 mm 25 ls [.ref (v 0)]) rfl ?_
  have hP : va_P D vwCl [(wb 0, oW wb st lv cnt cm), (wb 7, oR (wb 8) len), (wb 8, aZ ta 32 gs9), (lg 1, oR (lg 2) nta), (lg 2, aZ ta 400 gta), (lg 3, oR (lg 4) nou), (lg 4, aZ ta 400 gou), (v 0, oV v), (v 9, oR (v 10) 16), (v 10, aZ ta 16 gz), (v 11, oA (v 12) (v 13) (v 14) (v 15) (v 16) (v 17) rd), (v 12, aZ ta 16 ab), (v 13, aZ ta 16 af), (v 14, aZ ta 256 UBOX), (v 15, aI ta 64 kw), (v 16, aI ta 4 sw), (v 17, aI ta 4 xw), (lg 0, oG lg ya yb wa wb o v ct), (yb 0, oK yb 3 ln)] H := hP
  have hD : va_D A [(wb 0, oW wb st lv cnt cm), (wb 7, oR (wb 8) len), (wb 8, aZ ta 32 gs9), (lg 1, oR (lg 2) nta), (lg 2, aZ ta 400 gta), (lg 3, oR (lg 4) nou), (lg 4, aZ ta 400 gou), (v 0, oV v), (v 9, oR (v 10) 16), (v 10, aZ ta 16 gz), (v 11, oA (v 12) (v 13) (v 14) (v 15) (v 16) (v 17) rd), (v 12, aZ ta 16 ab), (v 13, aZ ta 16 af), (v 14, aZ ta 256 UBOX), (v 15, aI ta 64 kw), (v 16, aI ta 4 sw), (v 17, aI ta 4 xw), (lg 0, oG lg ya yb wa wb o v ct), (yb 0, oK yb 3 ln)] := hD
  refine lv_astore (pc := 25) (lv' := [(4, .ref (v 0)), (3, .ref (wb 0)), (0, .ref (lg 0)), (1, .int (nI 1)), (2, .int (qb β))]) hx hb dX9_seal_25 hl (by decide) rfl (fun ls hl => ?_)
  refine lv_aload_n (pc := 27) hx hb dX9_seal_27 rfl (lv_at hl 2 rfl) ?_
  refine va_get (pc := 28) (D := D) (ci := 7) (v := .ref (lg 1)) (C := RX9) (T := TX9) (N := 11) hx hb hts iu9 hown hK hP 17 rfl rfl 0 (by decide) (hts _ tw_352) (fun _ h9 => h9) rfl dX9_seal_28 ?_
  refine cs_V (pc := 31) (idx := 64) (n := 0) (wr := [(wb 0, oW wb st lv cnt cm), (wb 7, oR (wb 8) len), (wb 8, aZ ta 32 gs9), (lg 3, oR (lg 4) nou), (lg 4, aZ ta 400 gou), (v 0, oV v), (v 9, oR (v 10) 16), (v 10, aZ ta 16 gz), (v 11, oA (v 12) (v 13) (v 14) (v 15) (v 16) (v 17) rd), (v 12, aZ ta 16 ab), (v 13, aZ ta 16 af), (v 14, aZ ta 256 UBOX), (v 15, aI ta 64 kw), (v 16, aI ta 4 sw), (v 17, aI ta 4 xw), (lg 0, oG lg ya yb wa wb o v ct), (yb 0, oK yb 3 ln)]) (As := []) (rest := []) (ci := 5) hx hb hml hown hts hGok hK hA hG hl.1 hP hD hS (ct_X6_size ll D ta hGok (lg 1) (lg 2) 400 gta nta  H.size) tw_393 tw_390 tw_391 tw_392 tw_66 hdX6_size rfl ⟨rfl, rfl, Nat.le_of_ble_eq_true rfl, Nat.le_of_ble_eq_true rfl, Nat.le_of_ble_eq_true rfl, Nat.le_of_ble_eq_true rfl⟩ rfl rfl (q0 := 3) rfl [3, 4] [0, 1, 2, 5, 6, 7, 8, 9, 10, 11, 12, 13, 14, 15, 16, 17, 18] rfl rfl (by decide) rfl (Nat.le_of_ble_eq_true rfl) dX9_seal_31 (fun u H locs hq hP hD hS => ?_)
  refine W.eq (g2 := F0 mm 34 ls [.int (nI nta)]) rfl ?_
  have hP : va_P D vwCl [(wb 0, oW wb st lv cnt cm), (wb 7, oR (wb 8) len), (wb 8, aZ ta 32 gs9), (lg 3, oR (lg 4) nou), (lg 4, aZ ta 400 gou), (v 0, oV v), (v 9, oR (v 10) 16), (v 10, aZ ta 16 gz), (v 11, oA (v 12) (v 13) (v 14) (v 15) (v 16) (v 17) rd), (v 12, aZ ta 16 ab), (v 13, aZ ta 16 af), (v 14, aZ ta 256 UBOX), (v 15, aI ta 64 kw), (v 16, aI ta 4 sw), (v 17, aI ta 4 xw), (lg 0, oG lg ya yb wa wb o v ct), (yb 0, oK yb 3 ln), (lg 1, oR (lg 2) nta), (lg 2, aZ ta 400 gta)] H := hP
  have hD : va_D A [(wb 0, oW wb st lv cnt cm), (wb 7, oR (wb 8) len), (wb 8, aZ ta 32 gs9), (lg 3, oR (lg 4) nou), (lg 4, aZ ta 400 gou), (v 0, oV v), (v 9, oR (v 10) 16), (v 10, aZ ta 16 gz), (v 11, oA (v 12) (v 13) (v 14) (v 15) (v 16) (v 17) rd), (v 12, aZ ta 16 ab), (v 13, aZ ta 16 af), (v 14, aZ ta 256 UBOX), (v 15, aI ta 64 kw), (v 16, aI ta 4 sw), (v 17, aI ta 4 xw), (lg 0, oG lg ya yb wa wb o v ct), (yb 0, oK yb 3 ln), (lg 1, oR (lg 2) nta), (lg 2, aZ ta 400 gta)] := hD
  refine lv_istore (pc := 34) (lv' := [(5, .int (nI nta)), (4, .ref (v 0)), (3, .ref (wb 0)), (0, .ref (lg 0)), (1, .int (nI 1)), (2, .int (qb β))]) hx hb dX9_seal_34 hl (by decide) rfl (fun ls hl => ?_)
  refine lv_aload_n (pc := 36) hx hb dX9_seal_36 rfl (lv_at hl 2 rfl) ?_
  refine lv_ifnull (pc := 37) hx hb dX9_seal_37 ?_
  refine lv_aload_n (pc := 40) hx hb dX9_seal_40 rfl (lv_at hl 2 rfl) ?_
  refine va_getN (pc := 41) (D := D) (ci := 6) (v := .int (nI st)) (C := RX8) (T := TX8) (N := 14) hx hb hts iu8 hown hK hP 0 rfl rfl 0 (by decide) (va_Nw.use rfl (GC_w140 hG)) (fun _ h9 => h9) rfl dX9_seal_41 ?_
  refine lv_if_eq (pc := 44) (tgt := 66) hx hb dX9_seal_44 (by decide) (fun c_2 => ?_) (fun c_2 => ?_)
  · skip
    rw [q_eq0 (by omega)] at c_2
    exfalso; omega
  · skip
    rw [q_eq0 (by omega)] at c_2
    refine lv_iload (pc := 47) hx hb dX9_seal_47 (lv_at hl 0 rfl) ?_
    refine lv_if_le (pc := 49) (tgt := 66) hx hb dX9_seal_49 (by decide) (fun c_3 => ?_) (fun c_3 => ?_)
    · skip
      rw [q_le0 (by omega)] at c_3
      exfalso; omega
    · skip
      rw [q_le0 (by omega)] at c_3
      refine lv_aload (pc := 52) hx hb dX9_seal_52 (lv_at hl 1 rfl) ?_
      refine lv_iload (pc := 54) hx hb dX9_seal_54 (lv_at hl 0 rfl) ?_
      refine cs_U (pc := 56) (idx := 202) (n := 1) (wr := [(wb 0, oW wb st lv cnt cm), (wb 7, oR (wb 8) len), (wb 8, aZ ta 32 gs9), (lg 3, oR (lg 4) nou), (lg 4, aZ ta 400 gou), (v 9, oR (v 10) 16), (v 10, aZ ta 16 gz), (v 11, oA (v 12) (v 13) (v 14) (v 15) (v 16) (v 17) rd), (v 12, aZ ta 16 ab), (v 13, aZ ta 16 af), (v 14, aZ ta 256 UBOX), (v 15, aI ta 64 kw), (v 16, aI ta 4 sw), (v 17, aI ta 4 xw), (lg 0, oG lg ya yb wa wb o v ct), (yb 0, oK yb 3 ln), (lg 1, oR (lg 2) nta), (lg 2, aZ ta 400 gta)]) (As := [.int (nI nta)]) (rest := []) (ci := 3) (x := ⟨"LineGuard$Rule", "isBlocks", "(I)Z"⟩) (owner := "LineGuard$Rule") hx hb hml hown hts hGok hK hA hG hl.1 hP hD hS (ct_X7_isBlocks_N ll D ta gs v nta (by first | assumption | omega | rfl | decide) H.size) tw_597 tw_935 tw_596 tw_1457 tw_69 tw_1456 (va_Decl.of (hts _ tw_596) (hts _ tw_597)) ⟨by decide +kernel, by decide +kernel, by decide +kernel⟩ rfl ⟨rfl, rfl, Nat.le_of_ble_eq_true rfl, Nat.le_of_ble_eq_true rfl, Nat.le_of_ble_eq_true rfl, Nat.le_of_ble_eq_true rfl⟩ rfl (q0 := 5) rfl [5] [0, 1, 2, 3, 4, 6, 7, 8, 9, 10, 11, 12, 13, 14, 15, 16, 17, 18] rfl rfl (by decide) rfl (Nat.le_of_ble_eq_true rfl) dX9_seal_56 (fun u H locs hq hP hD hS => ?_)
      generalize u = z_56 at hq hP hD ⊢
      have hq : (z_56 = decide (nta % 16 = 0)) := hq
      have hz_56 := hq
      refine W.eq (g2 := F0 mm 59 ls [.int (qb z_56)]) rfl ?_
      have hP : va_P D vwCl [(wb 0, oW wb st lv cnt cm), (wb 7, oR (wb 8) len), (wb 8, aZ ta 32 gs9), (lg 3, oR (lg 4) nou), (lg 4, aZ ta 400 gou), (v 9, oR (v 10) 16), (v 10, aZ ta 16 gz), (v 11, oA (v 12) (v 13) (v 14) (v 15) (v 16) (v 17) rd), (v 12, aZ ta 16 ab), (v 13, aZ ta 16 af), (v 14, aZ ta 256 UBOX), (v 15, aI ta 64 kw), (v 16, aI ta 4 sw), (v 17, aI ta 4 xw), (lg 0, oG lg ya yb wa wb o v ct), (yb 0, oK yb 3 ln), (lg 1, oR (lg 2) nta), (lg 2, aZ ta 400 gta), (v 0, oV v)] H := hP
      have hD : va_D A [(wb 0, oW wb st lv cnt cm), (wb 7, oR (wb 8) len), (wb 8, aZ ta 32 gs9), (lg 3, oR (lg 4) nou), (lg 4, aZ ta 400 gou), (v 9, oR (v 10) 16), (v 10, aZ ta 16 gz), (v 11, oA (v 12) (v 13) (v 14) (v 15) (v 16) (v 17) rd), (v 12, aZ ta 16 ab), (v 13, aZ ta 16 af), (v 14, aZ ta 256 UBOX), (v 15, aI ta 64 kw), (v 16, aI ta 4 sw), (v 17, aI ta 4 xw), (lg 0, oG lg ya yb wa wb o v ct), (yb 0, oK yb 3 ln), (lg 1, oR (lg 2) nta), (lg 2, aZ ta 400 gta), (v 0, oV v)] := hD
      refine lv_if_eq (pc := 59) (tgt := 66) hx hb dX9_seal_59 (by decide) (fun c_4 => ?_) (fun c_4 => ?_)
      · skip
        rw [q_beq] at c_4
        try rw [Bool.not_eq_false] at c_4
        rw [hz_56, decide_eq_true (by omega)] at c_4; cases c_4
      · skip
        rw [q_beq] at c_4
        try rw [Bool.not_eq_false] at c_4
        refine lv_iconst (pc := 62) (v := nI 1) hx hb dX9_seal_62 (by decide +kernel) ?_
        refine lv_goto (pc := 63) (tgt := 67) hx hb dX9_seal_63 (by decide) ?_
        refine lv_istore (pc := 67) (lv' := [(6, .int (nI 1)), (5, .int (nI nta)), (4, .ref (v 0)), (3, .ref (wb 0)), (0, .ref (lg 0)), (1, .int (nI 1)), (2, .int (qb β))]) hx hb dX9_seal_67 hl (by decide) rfl (fun ls hl => ?_)
        refine lv_iload (pc := 69) hx hb dX9_seal_69 (lv_at hl 0 rfl) ?_
        refine lv_if_eq (pc := 71) (tgt := 99) hx hb dX9_seal_71 (by decide) (fun c_5 => absurd c_5 (by decide)) (fun _ => ?_)
        refine lv_aload_n (pc := 74) hx hb dX9_seal_74 rfl (lv_at hl 4 rfl) ?_
        refine va_get (pc := 75) (D := D) (ci := 7) (v := .ref (lg 3)) (C := RX9) (T := TX9) (N := 11) hx hb hts iu9 hown hK hP 14 rfl rfl 1 (by decide) (hts _ tw_353) (fun _ h9 => h9) rfl dX9_seal_75 ?_
        refine lv_aload_n (pc := 78) hx hb dX9_seal_78 rfl (lv_at hl 4 rfl) ?_
        refine va_get (pc := 79) (D := D) (ci := 7) (v := .ref (lg 1)) (C := RX9) (T := TX9) (N := 11) hx hb hts iu9 hown hK hP 14 rfl rfl 0 (by decide) (hts _ tw_352) (fun _ h9 => h9) rfl dX9_seal_79 ?_
        refine cs_V (pc := 82) (idx := 84) (n := 1) (wr := [(wb 0, oW wb st lv cnt cm), (wb 7, oR (wb 8) len), (wb 8, aZ ta 32 gs9), (v 9, oR (v 10) 16), (v 10, aZ ta 16 gz), (v 11, oA (v 12) (v 13) (v 14) (v 15) (v 16) (v 17) rd), (v 12, aZ ta 16 ab), (v 13, aZ ta 16 af), (v 14, aZ ta 256 UBOX), (v 15, aI ta 64 kw), (v 16, aI ta 4 sw), (v 17, aI ta 4 xw), (lg 0, oG lg ya yb wa wb o v ct), (yb 0, oK yb 3 ln), (v 0, oV v)]) (As := [.ref (lg 1)]) (rest := []) (ci := 5) hx hb hml hown hts hGok hK hA hG hl.1 hP hD hS (ct_X6_copy ll D ta hGok (lg 3) (lg 4) 400 gou nou (lg 1) (lg 2) 400 gta nta (by first | assumption | omega | rfl | decide) (by first | assumption | omega | rfl | decide) (by first | assumption | omega | rfl | decide) (by first | assumption | omega | rfl | decide) H.size) tw_437 tw_434 tw_435 tw_436 tw_66 hdX6_copy rfl ⟨rfl, rfl, Nat.le_of_ble_eq_true rfl, Nat.le_of_ble_eq_true rfl, Nat.le_of_ble_eq_true rfl, Nat.le_of_ble_eq_true rfl⟩ rfl rfl (q0 := 3) rfl [3, 4, 16, 17] [0, 1, 2, 5, 6, 7, 8, 9, 10, 11, 12, 13, 14, 15, 18] rfl rfl (by decide) rfl (Nat.le_of_ble_eq_true rfl) dX9_seal_82 (fun u H locs hq hP hD hS => ?_)
        generalize u = g1_82 at hq hP hD ⊢
        have hq : (qL g1_82 nta = qL gta nta) := hq
        have hL_82 := hq
        refine W.eq (g2 := F0 mm 85 ls []) rfl ?_
        have hP : va_P D vwCl [(wb 0, oW wb st lv cnt cm), (wb 7, oR (wb 8) len), (wb 8, aZ ta 32 gs9), (v 9, oR (v 10) 16), (v 10, aZ ta 16 gz), (v 11, oA (v 12) (v 13) (v 14) (v 15) (v 16) (v 17) rd), (v 12, aZ ta 16 ab), (v 13, aZ ta 16 af), (v 14, aZ ta 256 UBOX), (v 15, aI ta 64 kw), (v 16, aI ta 4 sw), (v 17, aI ta 4 xw), (lg 0, oG lg ya yb wa wb o v ct), (yb 0, oK yb 3 ln), (v 0, oV v), (lg 3, oR (lg 4) nta), (lg 4, aZ ta 400 g1_82), (lg 1, oR (lg 2) nta), (lg 2, aZ ta 400 gta)] H := hP
        have hD : va_D A [(wb 0, oW wb st lv cnt cm), (wb 7, oR (wb 8) len), (wb 8, aZ ta 32 gs9), (v 9, oR (v 10) 16), (v 10, aZ ta 16 gz), (v 11, oA (v 12) (v 13) (v 14) (v 15) (v 16) (v 17) rd), (v 12, aZ ta 16 ab), (v 13, aZ ta 16 af), (v 14, aZ ta 256 UBOX), (v 15, aI ta 64 kw), (v 16, aI ta 4 sw), (v 17, aI ta 4 xw), (lg 0, oG lg ya yb wa wb o v ct), (yb 0, oK yb 3 ln), (v 0, oV v), (lg 3, oR (lg 4) nta), (lg 4, aZ ta 400 g1_82), (lg 1, oR (lg 2) nta), (lg 2, aZ ta 400 gta)] := hD
        refine lv_aload (pc := 85) hx hb dX9_seal_85 (lv_at hl 2 rfl) ?_
        refine lv_aload_n (pc := 87) hx hb dX9_seal_87 rfl (lv_at hl 3 rfl) ?_
        refine va_getN (pc := 88) (D := D) (ci := 6) (v := .ref (wb 7)) (C := RX8) (T := TX8) (N := 14) hx hb hts iu8 hown hK hP 0 rfl rfl 5 (by decide) (va_Nw.use rfl (GC_w156 hG)) (fun _ h9 => h9) rfl dX9_seal_88 ?_
        refine lv_aload_n (pc := 91) hx hb dX9_seal_91 rfl (lv_at hl 4 rfl) ?_
        refine va_get (pc := 92) (D := D) (ci := 7) (v := .ref (lg 3)) (C := RX9) (T := TX9) (N := 11) hx hb hts iu9 hown hK hP 12 rfl rfl 1 (by decide) (hts _ tw_353) (fun _ h9 => h9) rfl dX9_seal_92 ?_
        refine lv_iload_n (pc := 95) hx hb dX9_seal_95 rfl (lv_at hl 6 rfl) ?_
        refine cs_U (pc := 96) (idx := 208) (n := 3) (wr := [(wb 0, oW wb st lv cnt cm), (lg 0, oG lg ya yb wa wb o v ct), (yb 0, oK yb 3 ln), (lg 1, oR (lg 2) nta), (lg 2, aZ ta 400 gta)]) (As := [.ref (wb 7), .ref (lg 3), .int (qb β)]) (rest := []) (ci := 3) (x := ⟨"LineGuard$Rule", "sealWith", "(LLineGuard$Row;LLineGuard$Row;Z)V"⟩) (owner := "LineGuard$Rule") hx hb hml hown hts hGok hK hA hG hl.1 hP hD hS (ct_X4_sealWith ll D ta gs v gz rd ab af kw sw xw (wb 7) (wb 8) 32 gs9 len (lg 3) (lg 4) 400 g1_82 nta β (by first | assumption | omega | rfl | decide) (by first | assumption | omega | rfl | decide) (by first | assumption | omega | rfl | decide) (by first | assumption | omega | rfl | decide) H.size) tw_941 tw_936 tw_940 tw_939 tw_73 tw_938 (va_Decl.abs (GC_w937 hG)) ⟨by decide +kernel, by decide +kernel, by decide +kernel⟩ rfl ⟨rfl, rfl, Nat.le_of_ble_eq_true rfl, Nat.le_of_ble_eq_true rfl, Nat.le_of_ble_eq_true rfl, Nat.le_of_ble_eq_true rfl⟩ rfl (q0 := 14) rfl [14, 3, 4, 5, 6, 7, 8, 9, 10, 11, 1, 2, 15, 16] [0, 12, 13, 17, 18] rfl rfl (by decide) rfl (Nat.le_of_ble_eq_true rfl) dX9_seal_96 (fun u H locs hq hP hD hS => ?_)
        obtain ⟨gou1_96, ab1_96, af1_96, kw1_96, sw1_96, xw1_96⟩ := u
        have hq : (qL gou1_96 nta = if β then decL (aesD (qL gs9 len)) 16 (zeroL 16) (qL g1_82 nta) else encL (aesE (qL gs9 len)) 16 (zeroL 16) (qL g1_82 nta)) := hq
        have hL_96 := hq
        refine W.eq (g2 := F0 mm 99 ls []) rfl ?_
        have hP : va_P D vwCl [(wb 0, oW wb st lv cnt cm), (lg 0, oG lg ya yb wa wb o v ct), (yb 0, oK yb 3 ln), (lg 1, oR (lg 2) nta), (lg 2, aZ ta 400 gta), (v 0, oV v), (v 9, oR (v 10) 16), (v 10, aZ ta 16 gz), (v 11, oA (v 12) (v 13) (v 14) (v 15) (v 16) (v 17) (len / 4 + 6)), (v 12, aZ ta 16 ab1_96), (v 13, aZ ta 16 af1_96), (v 14, aZ ta 256 UBOX), (v 15, aI ta 64 kw1_96), (v 16, aI ta 4 sw1_96), (v 17, aI ta 4 xw1_96), (wb 7, oR (wb 8) len), (wb 8, aZ ta 32 gs9), (lg 3, oR (lg 4) nta), (lg 4, aZ ta 400 gou1_96)] H := hP
        have hD : va_D A [(wb 0, oW wb st lv cnt cm), (lg 0, oG lg ya yb wa wb o v ct), (yb 0, oK yb 3 ln), (lg 1, oR (lg 2) nta), (lg 2, aZ ta 400 gta), (v 0, oV v), (v 9, oR (v 10) 16), (v 10, aZ ta 16 gz), (v 11, oA (v 12) (v 13) (v 14) (v 15) (v 16) (v 17) (len / 4 + 6)), (v 12, aZ ta 16 ab1_96), (v 13, aZ ta 16 af1_96), (v 14, aZ ta 256 UBOX), (v 15, aI ta 64 kw1_96), (v 16, aI ta 4 sw1_96), (v 17, aI ta 4 xw1_96), (wb 7, oR (wb 8) len), (wb 8, aZ ta 32 gs9), (lg 3, oR (lg 4) nta), (lg 4, aZ ta 400 gou1_96)] := hD
        refine lv_aload_n (pc := 99) hx hb dX9_seal_99 rfl (lv_at hl 4 rfl) ?_
        refine va_get (pc := 100) (D := D) (ci := 7) (v := .ref (lg 1)) (C := RX9) (T := TX9) (N := 11) hx hb hts iu9 hown hK hP 1 rfl rfl 0 (by decide) (hts _ tw_352) (fun _ h9 => h9) rfl dX9_seal_100 ?_
        refine cs_V (pc := 103) (idx := 88) (n := 0) (wr := [(wb 0, oW wb st lv cnt cm), (lg 0, oG lg ya yb wa wb o v ct), (yb 0, oK yb 3 ln), (v 0, oV v), (v 9, oR (v 10) 16), (v 10, aZ ta 16 gz), (v 11, oA (v 12) (v 13) (v 14) (v 15) (v 16) (v 17) (len / 4 + 6)), (v 12, aZ ta 16 ab1_96), (v 13, aZ ta 16 af1_96), (v 14, aZ ta 256 UBOX), (v 15, aI ta 64 kw1_96), (v 16, aI ta 4 sw1_96), (v 17, aI ta 4 xw1_96), (wb 7, oR (wb 8) len), (wb 8, aZ ta 32 gs9), (lg 3, oR (lg 4) nta), (lg 4, aZ ta 400 gou1_96)]) (As := []) (rest := []) (ci := 5) hx hb hml hown hts hGok hK hA hG hl.1 hP hD hS (ct_X6_clear ll D ta hGok (lg 1) (lg 2) 400 gta nta  H.size) tw_441 tw_447 tw_439 tw_440 tw_66 hdX6_clear rfl ⟨rfl, rfl, Nat.le_of_ble_eq_true rfl, Nat.le_of_ble_eq_true rfl, Nat.le_of_ble_eq_true rfl, Nat.le_of_ble_eq_true rfl⟩ rfl rfl (q0 := 3) rfl [3, 4] [0, 1, 2, 5, 6, 7, 8, 9, 10, 11, 12, 13, 14, 15, 16, 17, 18] rfl rfl (by decide) rfl (Nat.le_of_ble_eq_true rfl) dX9_seal_103 (fun u H locs hq hP hD hS => ?_)
        refine W.eq (g2 := F0 mm 106 ls []) rfl ?_
        have hP : va_P D vwCl [(wb 0, oW wb st lv cnt cm), (lg 0, oG lg ya yb wa wb o v ct), (yb 0, oK yb 3 ln), (v 0, oV v), (v 9, oR (v 10) 16), (v 10, aZ ta 16 gz), (v 11, oA (v 12) (v 13) (v 14) (v 15) (v 16) (v 17) (len / 4 + 6)), (v 12, aZ ta 16 ab1_96), (v 13, aZ ta 16 af1_96), (v 14, aZ ta 256 UBOX), (v 15, aI ta 64 kw1_96), (v 16, aI ta 4 sw1_96), (v 17, aI ta 4 xw1_96), (wb 7, oR (wb 8) len), (wb 8, aZ ta 32 gs9), (lg 3, oR (lg 4) nta), (lg 4, aZ ta 400 gou1_96), (lg 1, oR (lg 2) 0), (lg 2, aZ ta 400 gta)] H := hP
        have hD : va_D A [(wb 0, oW wb st lv cnt cm), (lg 0, oG lg ya yb wa wb o v ct), (yb 0, oK yb 3 ln), (v 0, oV v), (v 9, oR (v 10) 16), (v 10, aZ ta 16 gz), (v 11, oA (v 12) (v 13) (v 14) (v 15) (v 16) (v 17) (len / 4 + 6)), (v 12, aZ ta 16 ab1_96), (v 13, aZ ta 16 af1_96), (v 14, aZ ta 256 UBOX), (v 15, aI ta 64 kw1_96), (v 16, aI ta 4 sw1_96), (v 17, aI ta 4 xw1_96), (wb 7, oR (wb 8) len), (wb 8, aZ ta 32 gs9), (lg 3, oR (lg 4) nta), (lg 4, aZ ta 400 gou1_96), (lg 1, oR (lg 2) 0), (lg 2, aZ ta 400 gta)] := hD
        refine lv_iload (pc := 106) hx hb dX9_seal_106 (lv_at hl 0 rfl) ?_
        refine lv_if_eq (pc := 108) (tgt := 116) hx hb dX9_seal_108 (by decide) (fun c_6 => absurd c_6 (by decide)) (fun _ => ?_)
        refine lv_iload (pc := 111) hx hb dX9_seal_111 (lv_at hl 1 rfl) ?_
        refine lv_goto (pc := 113) (tgt := 117) hx hb dX9_seal_113 (by decide) ?_
        have hq_7 : (qL gou1_96 nta = if β then decL (aesD (qL gs9 len)) 16 (zeroL 16) (qL gta nta) else encL (aesE (qL gs9 len)) 16 (zeroL 16) (qL gta nta)) := by
          rw [hL_96, hL_82]
        exact hret (⟨(gou1_96), (ab1_96), (af1_96), (kw1_96), (sw1_96), (xw1_96)⟩ : (Nat → BitVec 8) × (Nat → BitVec 8) × (Nat → BitVec 8) × (Nat → Int32) × (Nat → Int32) × (Nat → Int32)) _ _ _ _ dX9_seal_117 hq_7 (hP.sub [1, 2, 0, 13, 14, 17, 18, 15, 16, 3, 4, 5, 6, 7, 8, 9, 10, 11, 12] rfl) (hD.sub [1, 2, 0, 13, 14, 17, 18, 15, 16, 3, 4, 5, 6, 7, 8, 9, 10, 11, 12] (by decide) rfl) hS
set_option maxHeartbeats 4000000 in
set_option maxRecDepth 100000 in
theorem ct_X9_seal_no_O (ll : Launch) (D : va_G) (ta : Nat → ClassId) (gs : Nat → Nat) (lg : Nat → Nat) (ya : Nat → Nat) (yb : Nat → Nat) (wa : Nat → Nat) (wb : Nat → Nat) (o : Nat → Nat) (v : Nat → Nat) (ct : Nat) (gta : Nat → BitVec 8) (nta : Nat) (ru : Nat) (ln : Nat) (s9 : Int32) (β : Bool) (hta : nta ≤ 400) (hru : ¬ ru = 3 ∧ ru < 4) (hi0 : ¬ s9 = nI 0) (hi1 : ¬ s9 = nI 1) (sz : Nat) : CT ll yX9_seal cX9_seal 7 (some .int) ({ frames := 4, cells := 0, slots := 0, locals := 106 } : Room) D ta ((GC gs)) [.ref (lg 0), .int s9, .int (qb β)] [(lg 0, oG lg ya yb wa wb o v ct), (yb 0, oK yb ru ln), (lg 1, oR (lg 2) nta), (lg 2, aZ ta 400 gta)] sz (S := Int32) (fun u => some (.int u)) (fun u => ((u : Int32) = -1)) (fun u => [(lg 0, oG lg ya yb wa wb o v ct), (yb 0, oK yb ru ln), (lg 1, oR (lg 2) 0), (lg 2, aZ ta 400 gta)]) 0 0 := by
  refine CT.of_i (r := fun u => u) rfl (by decide) (Nat.le_of_ble_eq_true rfl) ?_
  have hGok := GC_ok gs
  intro pp ee ss mm below meth kc A Q hx hb hml hown hin hts hK hA hsz hG hret H locs hP hD hS ls hl
  have hl : lv_has ls 7 [(0, .ref (lg 0)), (1, .int s9), (2, .int (qb β))] := hl
  refine lv_aload_n (pc := 0) hx hb dX9_seal_0 rfl (lv_at hl 0 rfl) ?_
  refine lv_iload_n (pc := 1) hx hb dX9_seal_1 rfl (lv_at hl 1 rfl) ?_
  refine cs_V (pc := 2) (idx := 198) (n := 1) (wr := [(yb 0, oK yb ru ln), (lg 1, oR (lg 2) nta), (lg 2, aZ ta 400 gta)]) (As := [.int s9]) (rest := []) (ci := 7) hx hb hml hown hts hGok hK hA hG hl.1 hP hD hS (ct_X9_sessionOf_no ll D ta hGok lg ya yb wa wb o v ct s9 (by first | assumption | omega | rfl | decide) (by first | assumption | omega | rfl | decide) H.size) tw_934 tw_931 tw_933 tw_25 tw_65 hdX9_sessionOf rfl ⟨rfl, rfl, Nat.le_of_ble_eq_true rfl, Nat.le_of_ble_eq_true rfl, Nat.le_of_ble_eq_true rfl, Nat.le_of_ble_eq_true rfl⟩ rfl rfl (q0 := 0) rfl [0] [1, 2, 3] rfl rfl (by decide) rfl (Nat.le_of_ble_eq_true rfl) dX9_seal_2 (fun u H locs hq hP hD hS => ?_)
  refine W.eq (g2 := F0 mm 5 ls [.null]) rfl ?_
  have hP : va_P D vwCl [(yb 0, oK yb ru ln), (lg 1, oR (lg 2) nta), (lg 2, aZ ta 400 gta), (lg 0, oG lg ya yb wa wb o v ct)] H := hP
  have hD : va_D A [(yb 0, oK yb ru ln), (lg 1, oR (lg 2) nta), (lg 2, aZ ta 400 gta), (lg 0, oG lg ya yb wa wb o v ct)] := hD
  refine lv_astore_nN (pc := 5) (lv' := [(3, .null), (0, .ref (lg 0)), (1, .int s9), (2, .int (qb β))]) hx hb dX9_seal_5 rfl hl (by decide) rfl (fun ls hl => ?_)
  refine lv_aload_n (pc := 6) hx hb dX9_seal_6 rfl (lv_at hl 1 rfl) ?_
  refine lv_iload_n (pc := 7) hx hb dX9_seal_7 rfl (lv_at hl 2 rfl) ?_
  refine lv_if_ne (pc := 8) (tgt := 18) hx hb dX9_seal_8 (by decide) (fun c_1 => ?_) (fun c_1 => ?_)
  · skip
    refine lv_aload_n (pc := 18) hx hb dX9_seal_18 rfl (lv_at hl 1 rfl) ?_
    refine va_get (pc := 19) (D := D) (ci := 7) (v := .ref (yb 0)) (C := RX9) (T := TX9) (N := 11) hx hb hts iu9 hown hK hP 3 rfl rfl 5 (by decide) (hts _ tw_357) (fun _ h9 => h9) rfl dX9_seal_19 ?_
    refine cs_V (pc := 22) (idx := 109) (n := 1) (wr := [(lg 1, oR (lg 2) nta), (lg 2, aZ ta 400 gta)]) (As := [.ref (yb 0)]) (rest := []) (ci := 7) hx hb hml hown hts hGok hK hA hG hl.1 hP hD hS (ct_X9_ruleOf_2 ll D ta gs lg ya yb wa wb o v ct yb ru ln (by first | assumption | omega | rfl | decide) H.size) tw_489 tw_486 tw_488 tw_2 tw_65 hdX9_ruleOf rfl ⟨rfl, rfl, Nat.le_of_ble_eq_true rfl, Nat.le_of_ble_eq_true rfl, Nat.le_of_ble_eq_true rfl, Nat.le_of_ble_eq_true rfl⟩ rfl rfl (q0 := 3) rfl [3, 0] [1, 2] rfl rfl (by decide) rfl (Nat.le_of_ble_eq_true rfl) dX9_seal_22 (fun u H locs hq hP hD hS => ?_)
    refine W.eq (g2 := F0 mm 25 ls [.ref (o 0)]) rfl ?_
    have hP : va_P D vwCl [(lg 1, oR (lg 2) nta), (lg 2, aZ ta 400 gta), (lg 0, oG lg ya yb wa wb o v ct), (yb 0, oK yb ru ln)] H := hP
    have hD : va_D A [(lg 1, oR (lg 2) nta), (lg 2, aZ ta 400 gta), (lg 0, oG lg ya yb wa wb o v ct), (yb 0, oK yb ru ln)] := hD
    refine lv_astore (pc := 25) (lv' := [(4, .ref (o 0)), (3, .null), (0, .ref (lg 0)), (1, .int s9), (2, .int (qb β))]) hx hb dX9_seal_25 hl (by decide) rfl (fun ls hl => ?_)
    refine lv_aload_n (pc := 27) hx hb dX9_seal_27 rfl (lv_at hl 2 rfl) ?_
    refine va_get (pc := 28) (D := D) (ci := 7) (v := .ref (lg 1)) (C := RX9) (T := TX9) (N := 11) hx hb hts iu9 hown hK hP 2 rfl rfl 0 (by decide) (hts _ tw_352) (fun _ h9 => h9) rfl dX9_seal_28 ?_
    refine cs_V (pc := 31) (idx := 64) (n := 0) (wr := [(lg 0, oG lg ya yb wa wb o v ct), (yb 0, oK yb ru ln)]) (As := []) (rest := []) (ci := 5) hx hb hml hown hts hGok hK hA hG hl.1 hP hD hS (ct_X6_size ll D ta hGok (lg 1) (lg 2) 400 gta nta  H.size) tw_393 tw_390 tw_391 tw_392 tw_66 hdX6_size rfl ⟨rfl, rfl, Nat.le_of_ble_eq_true rfl, Nat.le_of_ble_eq_true rfl, Nat.le_of_ble_eq_true rfl, Nat.le_of_ble_eq_true rfl⟩ rfl rfl (q0 := 0) rfl [0, 1] [2, 3] rfl rfl (by decide) rfl (Nat.le_of_ble_eq_true rfl) dX9_seal_31 (fun u H locs hq hP hD hS => ?_)
    refine W.eq (g2 := F0 mm 34 ls [.int (nI nta)]) rfl ?_
    have hP : va_P D vwCl [(lg 0, oG lg ya yb wa wb o v ct), (yb 0, oK yb ru ln), (lg 1, oR (lg 2) nta), (lg 2, aZ ta 400 gta)] H := hP
    have hD : va_D A [(lg 0, oG lg ya yb wa wb o v ct), (yb 0, oK yb ru ln), (lg 1, oR (lg 2) nta), (lg 2, aZ ta 400 gta)] := hD
    refine lv_istore (pc := 34) (lv' := [(5, .int (nI nta)), (4, .ref (o 0)), (3, .null), (0, .ref (lg 0)), (1, .int s9), (2, .int (qb β))]) hx hb dX9_seal_34 hl (by decide) rfl (fun ls hl => ?_)
    refine lv_aload_nN (pc := 36) hx hb dX9_seal_36 rfl (lv_at hl 2 rfl) ?_
    refine lv_ifnullN (pc := 37) (tgt := 66) hx hb dX9_seal_37 (by decide) ?_
    refine lv_iconst (pc := 66) (v := nI 0) hx hb dX9_seal_66 (by decide +kernel) ?_
    refine lv_istore (pc := 67) (lv' := [(6, .int (nI 0)), (5, .int (nI nta)), (4, .ref (o 0)), (3, .null), (0, .ref (lg 0)), (1, .int s9), (2, .int (qb β))]) hx hb dX9_seal_67 hl (by decide) rfl (fun ls hl => ?_)
    refine lv_iload (pc := 69) hx hb dX9_seal_69 (lv_at hl 0 rfl) ?_
    refine lv_if_eq (pc := 71) (tgt := 99) hx hb dX9_seal_71 (by decide) (fun _ => ?_) (fun c_2 => absurd (by decide) c_2)
    refine lv_aload_n (pc := 99) hx hb dX9_seal_99 rfl (lv_at hl 4 rfl) ?_
    refine va_get (pc := 100) (D := D) (ci := 7) (v := .ref (lg 1)) (C := RX9) (T := TX9) (N := 11) hx hb hts iu9 hown hK hP 0 rfl rfl 0 (by decide) (hts _ tw_352) (fun _ h9 => h9) rfl dX9_seal_100 ?_
    refine cs_V (pc := 103) (idx := 88) (n := 0) (wr := [(lg 0, oG lg ya yb wa wb o v ct), (yb 0, oK yb ru ln)]) (As := []) (rest := []) (ci := 5) hx hb hml hown hts hGok hK hA hG hl.1 hP hD hS (ct_X6_clear ll D ta hGok (lg 1) (lg 2) 400 gta nta  H.size) tw_441 tw_447 tw_439 tw_440 tw_66 hdX6_clear rfl ⟨rfl, rfl, Nat.le_of_ble_eq_true rfl, Nat.le_of_ble_eq_true rfl, Nat.le_of_ble_eq_true rfl, Nat.le_of_ble_eq_true rfl⟩ rfl rfl (q0 := 2) rfl [2, 3] [0, 1] rfl rfl (by decide) rfl (Nat.le_of_ble_eq_true rfl) dX9_seal_103 (fun u H locs hq hP hD hS => ?_)
    refine W.eq (g2 := F0 mm 106 ls []) rfl ?_
    have hP : va_P D vwCl [(lg 0, oG lg ya yb wa wb o v ct), (yb 0, oK yb ru ln), (lg 1, oR (lg 2) 0), (lg 2, aZ ta 400 gta)] H := hP
    have hD : va_D A [(lg 0, oG lg ya yb wa wb o v ct), (yb 0, oK yb ru ln), (lg 1, oR (lg 2) 0), (lg 2, aZ ta 400 gta)] := hD
    refine lv_iload (pc := 106) hx hb dX9_seal_106 (lv_at hl 0 rfl) ?_
    refine lv_if_eq (pc := 108) (tgt := 116) hx hb dX9_seal_108 (by decide) (fun _ => ?_) (fun c_3 => absurd (by decide) c_3)
    refine lv_iconst (pc := 116) (v := (-1)) hx hb dX9_seal_116 (by decide +kernel) ?_
    refine q_top (y := (-1)) (by first | rfl | decide +kernel | (simp; done)) ?_
    have hq_4 : (((-1) : Int32) = -1) := by
      first | rfl | trivial | (refine ⟨?_, ?_⟩ <;> rfl) | (simp; done) | omega
    exact hret (-1) _ _ _ _ dX9_seal_117 hq_4 (hP.sub [0, 1, 2, 3] rfl) (hD.sub [0, 1, 2, 3] (by decide) rfl) hS
  · skip
    first | exact absurd c_1 hi0 | exact absurd hi0 c_1
set_option maxHeartbeats 4000000 in
set_option maxRecDepth 100000 in
theorem ct_X9_seal_no0_O (ll : Launch) (D : va_G) (ta : Nat → ClassId) (gs : Nat → Nat) (lg : Nat → Nat) (ya : Nat → Nat) (yb : Nat → Nat) (wa : Nat → Nat) (wb : Nat → Nat) (o : Nat → Nat) (v : Nat → Nat) (ct : Nat) (gta : Nat → BitVec 8) (nta : Nat) (ru : Nat) (ln : Nat) (st : Nat) (lv : Nat) (cnt : Nat) (cm : Bool) (β : Bool) (hta : nta ≤ 400) (hru : ¬ ru = 3 ∧ ru < 4) (hst : st ≤ 2) (hno : ¬ (st ≠ 0 ∧ 0 < nta ∧ nta % 8 = 0)) (sz : Nat) : CT ll yX9_seal cX9_seal 7 (some .int) ({ frames := 4, cells := 0, slots := 0, locals := 106 } : Room) D ta ((GC gs)) [.ref (lg 0), .int (nI 0), .int (qb β)] [(lg 0, oG lg ya yb wa wb o v ct), (ya 0, oK ya ru ln), (wa 0, oW wa st lv cnt cm), (o 0, oO o), (lg 1, oR (lg 2) nta), (lg 2, aZ ta 400 gta)] sz (S := Int32) (fun u => some (.int u)) (fun u => ((u : Int32) = -1)) (fun u => [(lg 0, oG lg ya yb wa wb o v ct), (ya 0, oK ya ru ln), (wa 0, oW wa st lv cnt cm), (o 0, oO o), (lg 1, oR (lg 2) 0), (lg 2, aZ ta 400 gta)]) 0 0 := by
  refine CT.of_i (r := fun u => u) rfl (by decide) (Nat.le_of_ble_eq_true rfl) ?_
  have hGok := GC_ok gs
  intro pp ee ss mm below meth kc A Q hx hb hml hown hin hts hK hA hsz hG hret H locs hP hD hS ls hl
  have hl : lv_has ls 7 [(0, .ref (lg 0)), (1, .int (nI 0)), (2, .int (qb β))] := hl
  refine lv_aload_n (pc := 0) hx hb dX9_seal_0 rfl (lv_at hl 0 rfl) ?_
  refine lv_iload_n (pc := 1) hx hb dX9_seal_1 rfl (lv_at hl 1 rfl) ?_
  refine cs_V (pc := 2) (idx := 198) (n := 1) (wr := [(ya 0, oK ya ru ln), (wa 0, oW wa st lv cnt cm), (o 0, oO o), (lg 1, oR (lg 2) nta), (lg 2, aZ ta 400 gta)]) (As := [.int (nI 0)]) (rest := []) (ci := 7) hx hb hml hown hts hGok hK hA hG hl.1 hP hD hS (ct_X9_sessionOf_0 ll D ta hGok lg ya yb wa wb o v ct  H.size) tw_934 tw_931 tw_933 tw_25 tw_65 hdX9_sessionOf rfl ⟨rfl, rfl, Nat.le_of_ble_eq_true rfl, Nat.le_of_ble_eq_true rfl, Nat.le_of_ble_eq_true rfl, Nat.le_of_ble_eq_true rfl⟩ rfl rfl (q0 := 0) rfl [0] [1, 2, 3, 4, 5] rfl rfl (by decide) rfl (Nat.le_of_ble_eq_true rfl) dX9_seal_2 (fun u H locs hq hP hD hS => ?_)
  refine W.eq (g2 := F0 mm 5 ls [.ref (wa 0)]) rfl ?_
  have hP : va_P D vwCl [(ya 0, oK ya ru ln), (wa 0, oW wa st lv cnt cm), (o 0, oO o), (lg 1, oR (lg 2) nta), (lg 2, aZ ta 400 gta), (lg 0, oG lg ya yb wa wb o v ct)] H := hP
  have hD : va_D A [(ya 0, oK ya ru ln), (wa 0, oW wa st lv cnt cm), (o 0, oO o), (lg 1, oR (lg 2) nta), (lg 2, aZ ta 400 gta), (lg 0, oG lg ya yb wa wb o v ct)] := hD
  refine lv_astore_n (pc := 5) (lv' := [(3, .ref (wa 0)), (0, .ref (lg 0)), (1, .int (nI 0)), (2, .int (qb β))]) hx hb dX9_seal_5 rfl hl (by decide) rfl (fun ls hl => ?_)
  refine lv_aload_n (pc := 6) hx hb dX9_seal_6 rfl (lv_at hl 1 rfl) ?_
  refine lv_iload_n (pc := 7) hx hb dX9_seal_7 rfl (lv_at hl 2 rfl) ?_
  refine lv_if_ne (pc := 8) (tgt := 18) hx hb dX9_seal_8 (by decide) (fun c_1 => absurd (by decide) c_1) (fun _ => ?_)
  refine lv_aload_n (pc := 11) hx hb dX9_seal_11 rfl (lv_at hl 1 rfl) ?_
  refine va_get (pc := 12) (D := D) (ci := 7) (v := .ref (ya 0)) (C := RX9) (T := TX9) (N := 11) hx hb hts iu9 hown hK hP 5 rfl rfl 4 (by decide) (hts _ tw_356) (fun _ h9 => h9) rfl dX9_seal_12 ?_
  refine lv_goto (pc := 15) (tgt := 22) hx hb dX9_seal_15 (by decide) ?_
  refine cs_V (pc := 22) (idx := 109) (n := 1) (wr := [(wa 0, oW wa st lv cnt cm), (o 0, oO o), (lg 1, oR (lg 2) nta), (lg 2, aZ ta 400 gta)]) (As := [.ref (ya 0)]) (rest := []) (ci := 7) hx hb hml hown hts hGok hK hA hG hl.1 hP hD hS (ct_X9_ruleOf_2 ll D ta gs lg ya yb wa wb o v ct ya ru ln (by first | assumption | omega | rfl | decide) H.size) tw_489 tw_486 tw_488 tw_2 tw_65 hdX9_ruleOf rfl ⟨rfl, rfl, Nat.le_of_ble_eq_true rfl, Nat.le_of_ble_eq_true rfl, Nat.le_of_ble_eq_true rfl, Nat.le_of_ble_eq_true rfl⟩ rfl rfl (q0 := 5) rfl [5, 0] [1, 2, 3, 4] rfl rfl (by decide) rfl (Nat.le_of_ble_eq_true rfl) dX9_seal_22 (fun u H locs hq hP hD hS => ?_)
  refine W.eq (g2 := F0 mm 25 ls [.ref (o 0)]) rfl ?_
  have hP : va_P D vwCl [(wa 0, oW wa st lv cnt cm), (o 0, oO o), (lg 1, oR (lg 2) nta), (lg 2, aZ ta 400 gta), (lg 0, oG lg ya yb wa wb o v ct), (ya 0, oK ya ru ln)] H := hP
  have hD : va_D A [(wa 0, oW wa st lv cnt cm), (o 0, oO o), (lg 1, oR (lg 2) nta), (lg 2, aZ ta 400 gta), (lg 0, oG lg ya yb wa wb o v ct), (ya 0, oK ya ru ln)] := hD
  refine lv_astore (pc := 25) (lv' := [(4, .ref (o 0)), (3, .ref (wa 0)), (0, .ref (lg 0)), (1, .int (nI 0)), (2, .int (qb β))]) hx hb dX9_seal_25 hl (by decide) rfl (fun ls hl => ?_)
  refine lv_aload_n (pc := 27) hx hb dX9_seal_27 rfl (lv_at hl 2 rfl) ?_
  refine va_get (pc := 28) (D := D) (ci := 7) (v := .ref (lg 1)) (C := RX9) (T := TX9) (N := 11) hx hb hts iu9 hown hK hP 4 rfl rfl 0 (by decide) (hts _ tw_352) (fun _ h9 => h9) rfl dX9_seal_28 ?_
  refine cs_V (pc := 31) (idx := 64) (n := 0) (wr := [(wa 0, oW wa st lv cnt cm), (o 0, oO o), (lg 0, oG lg ya yb wa wb o v ct), (ya 0, oK ya ru ln)]) (As := []) (rest := []) (ci := 5) hx hb hml hown hts hGok hK hA hG hl.1 hP hD hS (ct_X6_size ll D ta hGok (lg 1) (lg 2) 400 gta nta  H.size) tw_393 tw_390 tw_391 tw_392 tw_66 hdX6_size rfl ⟨rfl, rfl, Nat.le_of_ble_eq_true rfl, Nat.le_of_ble_eq_true rfl, Nat.le_of_ble_eq_true rfl, Nat.le_of_ble_eq_true rfl⟩ rfl rfl (q0 := 2) rfl [2, 3] [0, 1, 4, 5] rfl rfl (by decide) rfl (Nat.le_of_ble_eq_true rfl) dX9_seal_31 (fun u H locs hq hP hD hS => ?_)
  refine W.eq (g2 := F0 mm 34 ls [.int (nI nta)]) rfl ?_
  have hP : va_P D vwCl [(wa 0, oW wa st lv cnt cm), (o 0, oO o), (lg 0, oG lg ya yb wa wb o v ct), (ya 0, oK ya ru ln), (lg 1, oR (lg 2) nta), (lg 2, aZ ta 400 gta)] H := hP
  have hD : va_D A [(wa 0, oW wa st lv cnt cm), (o 0, oO o), (lg 0, oG lg ya yb wa wb o v ct), (ya 0, oK ya ru ln), (lg 1, oR (lg 2) nta), (lg 2, aZ ta 400 gta)] := hD
  refine lv_istore (pc := 34) (lv' := [(5, .int (nI nta)), (4, .ref (o 0)), (3, .ref (wa 0)), (0, .ref (lg 0)), (1, .int (nI 0)), (2, .int (qb β))]) hx hb dX9_seal_34 hl (by decide) rfl (fun ls hl => ?_)
  refine lv_aload_n (pc := 36) hx hb dX9_seal_36 rfl (lv_at hl 2 rfl) ?_
  refine lv_ifnull (pc := 37) hx hb dX9_seal_37 ?_
  refine lv_aload_n (pc := 40) hx hb dX9_seal_40 rfl (lv_at hl 2 rfl) ?_
  refine va_getN (pc := 41) (D := D) (ci := 6) (v := .int (nI st)) (C := RX8) (T := TX8) (N := 14) hx hb hts iu8 hown hK hP 0 rfl rfl 0 (by decide) (va_Nw.use rfl (GC_w140 hG)) (fun _ h9 => h9) rfl dX9_seal_41 ?_
  refine lv_if_eq (pc := 44) (tgt := 66) hx hb dX9_seal_44 (by decide) (fun c_2 => ?_) (fun c_2 => ?_)
  · skip
    rw [q_eq0 (by omega)] at c_2
    refine lv_iconst (pc := 66) (v := nI 0) hx hb dX9_seal_66 (by decide +kernel) ?_
    refine lv_istore (pc := 67) (lv' := [(6, .int (nI 0)), (5, .int (nI nta)), (4, .ref (o 0)), (3, .ref (wa 0)), (0, .ref (lg 0)), (1, .int (nI 0)), (2, .int (qb β))]) hx hb dX9_seal_67 hl (by decide) rfl (fun ls hl => ?_)
    refine lv_iload (pc := 69) hx hb dX9_seal_69 (lv_at hl 0 rfl) ?_
    refine lv_if_eq (pc := 71) (tgt := 99) hx hb dX9_seal_71 (by decide) (fun _ => ?_) (fun c_3 => absurd (by decide) c_3)
    refine lv_aload_n (pc := 99) hx hb dX9_seal_99 rfl (lv_at hl 4 rfl) ?_
    refine va_get (pc := 100) (D := D) (ci := 7) (v := .ref (lg 1)) (C := RX9) (T := TX9) (N := 11) hx hb hts iu9 hown hK hP 2 rfl rfl 0 (by decide) (hts _ tw_352) (fun _ h9 => h9) rfl dX9_seal_100 ?_
    refine cs_V (pc := 103) (idx := 88) (n := 0) (wr := [(wa 0, oW wa st lv cnt cm), (o 0, oO o), (lg 0, oG lg ya yb wa wb o v ct), (ya 0, oK ya ru ln)]) (As := []) (rest := []) (ci := 5) hx hb hml hown hts hGok hK hA hG hl.1 hP hD hS (ct_X6_clear ll D ta hGok (lg 1) (lg 2) 400 gta nta  H.size) tw_441 tw_447 tw_439 tw_440 tw_66 hdX6_clear rfl ⟨rfl, rfl, Nat.le_of_ble_eq_true rfl, Nat.le_of_ble_eq_true rfl, Nat.le_of_ble_eq_true rfl, Nat.le_of_ble_eq_true rfl⟩ rfl rfl (q0 := 4) rfl [4, 5] [0, 1, 2, 3] rfl rfl (by decide) rfl (Nat.le_of_ble_eq_true rfl) dX9_seal_103 (fun u H locs hq hP hD hS => ?_)
    refine W.eq (g2 := F0 mm 106 ls []) rfl ?_
    have hP : va_P D vwCl [(wa 0, oW wa st lv cnt cm), (o 0, oO o), (lg 0, oG lg ya yb wa wb o v ct), (ya 0, oK ya ru ln), (lg 1, oR (lg 2) 0), (lg 2, aZ ta 400 gta)] H := hP
    have hD : va_D A [(wa 0, oW wa st lv cnt cm), (o 0, oO o), (lg 0, oG lg ya yb wa wb o v ct), (ya 0, oK ya ru ln), (lg 1, oR (lg 2) 0), (lg 2, aZ ta 400 gta)] := hD
    refine lv_iload (pc := 106) hx hb dX9_seal_106 (lv_at hl 0 rfl) ?_
    refine lv_if_eq (pc := 108) (tgt := 116) hx hb dX9_seal_108 (by decide) (fun _ => ?_) (fun c_4 => absurd (by decide) c_4)
    refine lv_iconst (pc := 116) (v := (-1)) hx hb dX9_seal_116 (by decide +kernel) ?_
    refine q_top (y := (-1)) (by first | rfl | decide +kernel | (simp; done)) ?_
    have hq_5 : (((-1) : Int32) = -1) := by
      first | rfl | trivial | (refine ⟨?_, ?_⟩ <;> rfl) | (simp; done) | omega
    exact hret (-1) _ _ _ _ dX9_seal_117 hq_5 (hP.sub [2, 3, 0, 1, 4, 5] rfl) (hD.sub [2, 3, 0, 1, 4, 5] (by decide) rfl) hS
  · skip
    rw [q_eq0 (by omega)] at c_2
    refine lv_iload (pc := 47) hx hb dX9_seal_47 (lv_at hl 0 rfl) ?_
    refine lv_if_le (pc := 49) (tgt := 66) hx hb dX9_seal_49 (by decide) (fun c_6 => ?_) (fun c_6 => ?_)
    · skip
      rw [q_le0 (by omega)] at c_6
      refine lv_iconst (pc := 66) (v := nI 0) hx hb dX9_seal_66 (by decide +kernel) ?_
      refine lv_istore (pc := 67) (lv' := [(6, .int (nI 0)), (5, .int (nI nta)), (4, .ref (o 0)), (3, .ref (wa 0)), (0, .ref (lg 0)), (1, .int (nI 0)), (2, .int (qb β))]) hx hb dX9_seal_67 hl (by decide) rfl (fun ls hl => ?_)
      refine lv_iload (pc := 69) hx hb dX9_seal_69 (lv_at hl 0 rfl) ?_
      refine lv_if_eq (pc := 71) (tgt := 99) hx hb dX9_seal_71 (by decide) (fun _ => ?_) (fun c_7 => absurd (by decide) c_7)
      refine lv_aload_n (pc := 99) hx hb dX9_seal_99 rfl (lv_at hl 4 rfl) ?_
      refine va_get (pc := 100) (D := D) (ci := 7) (v := .ref (lg 1)) (C := RX9) (T := TX9) (N := 11) hx hb hts iu9 hown hK hP 2 rfl rfl 0 (by decide) (hts _ tw_352) (fun _ h9 => h9) rfl dX9_seal_100 ?_
      refine cs_V (pc := 103) (idx := 88) (n := 0) (wr := [(wa 0, oW wa st lv cnt cm), (o 0, oO o), (lg 0, oG lg ya yb wa wb o v ct), (ya 0, oK ya ru ln)]) (As := []) (rest := []) (ci := 5) hx hb hml hown hts hGok hK hA hG hl.1 hP hD hS (ct_X6_clear ll D ta hGok (lg 1) (lg 2) 400 gta nta  H.size) tw_441 tw_447 tw_439 tw_440 tw_66 hdX6_clear rfl ⟨rfl, rfl, Nat.le_of_ble_eq_true rfl, Nat.le_of_ble_eq_true rfl, Nat.le_of_ble_eq_true rfl, Nat.le_of_ble_eq_true rfl⟩ rfl rfl (q0 := 4) rfl [4, 5] [0, 1, 2, 3] rfl rfl (by decide) rfl (Nat.le_of_ble_eq_true rfl) dX9_seal_103 (fun u H locs hq hP hD hS => ?_)
      refine W.eq (g2 := F0 mm 106 ls []) rfl ?_
      have hP : va_P D vwCl [(wa 0, oW wa st lv cnt cm), (o 0, oO o), (lg 0, oG lg ya yb wa wb o v ct), (ya 0, oK ya ru ln), (lg 1, oR (lg 2) 0), (lg 2, aZ ta 400 gta)] H := hP
      have hD : va_D A [(wa 0, oW wa st lv cnt cm), (o 0, oO o), (lg 0, oG lg ya yb wa wb o v ct), (ya 0, oK ya ru ln), (lg 1, oR (lg 2) 0), (lg 2, aZ ta 400 gta)] := hD
      refine lv_iload (pc := 106) hx hb dX9_seal_106 (lv_at hl 0 rfl) ?_
      refine lv_if_eq (pc := 108) (tgt := 116) hx hb dX9_seal_108 (by decide) (fun _ => ?_) (fun c_8 => absurd (by decide) c_8)
      refine lv_iconst (pc := 116) (v := (-1)) hx hb dX9_seal_116 (by decide +kernel) ?_
      refine q_top (y := (-1)) (by first | rfl | decide +kernel | (simp; done)) ?_
      have hq_9 : (((-1) : Int32) = -1) := by
        first | rfl | trivial | (refine ⟨?_, ?_⟩ <;> rfl) | (simp; done) | omega
      exact hret (-1) _ _ _ _ dX9_seal_117 hq_9 (hP.sub [2, 3, 0, 1, 4, 5] rfl) (hD.sub [2, 3, 0, 1, 4, 5] (by decide) rfl) hS
    · skip
      rw [q_le0 (by omega)] at c_6
      refine lv_aload (pc := 52) hx hb dX9_seal_52 (lv_at hl 1 rfl) ?_
      refine lv_iload (pc := 54) hx hb dX9_seal_54 (lv_at hl 0 rfl) ?_
      refine cs_U (pc := 56) (idx := 202) (n := 1) (wr := [(wa 0, oW wa st lv cnt cm), (lg 0, oG lg ya yb wa wb o v ct), (ya 0, oK ya ru ln), (lg 1, oR (lg 2) nta), (lg 2, aZ ta 400 gta)]) (As := [.int (nI nta)]) (rest := []) (ci := 4) (x := ⟨"LineGuard$Rule", "isBlocks", "(I)Z"⟩) (owner := "LineGuard$Rule") hx hb hml hown hts hGok hK hA hG hl.1 hP hD hS (ct_X7_isBlocks_O ll D ta gs o nta (by first | assumption | omega | rfl | decide) H.size) tw_597 tw_935 tw_596 tw_1458 tw_69 tw_1456 (va_Decl.of (hts _ tw_596) (hts _ tw_597)) ⟨by decide +kernel, by decide +kernel, by decide +kernel⟩ rfl ⟨rfl, rfl, Nat.le_of_ble_eq_true rfl, Nat.le_of_ble_eq_true rfl, Nat.le_of_ble_eq_true rfl, Nat.le_of_ble_eq_true rfl⟩ rfl (q0 := 1) rfl [1] [0, 2, 3, 4, 5] rfl rfl (by decide) rfl (Nat.le_of_ble_eq_true rfl) dX9_seal_56 (fun u H locs hq hP hD hS => ?_)
      generalize u = z_56 at hq hP hD ⊢
      have hq : (z_56 = decide (nta % 8 = 0)) := hq
      have hz_56 := hq
      refine W.eq (g2 := F0 mm 59 ls [.int (qb z_56)]) rfl ?_
      have hP : va_P D vwCl [(wa 0, oW wa st lv cnt cm), (lg 0, oG lg ya yb wa wb o v ct), (ya 0, oK ya ru ln), (lg 1, oR (lg 2) nta), (lg 2, aZ ta 400 gta), (o 0, oO o)] H := hP
      have hD : va_D A [(wa 0, oW wa st lv cnt cm), (lg 0, oG lg ya yb wa wb o v ct), (ya 0, oK ya ru ln), (lg 1, oR (lg 2) nta), (lg 2, aZ ta 400 gta), (o 0, oO o)] := hD
      refine lv_if_eq (pc := 59) (tgt := 66) hx hb dX9_seal_59 (by decide) (fun c_10 => ?_) (fun c_10 => ?_)
      · skip
        rw [q_beq] at c_10
        try rw [Bool.not_eq_false] at c_10
        have hzb := c_10
        refine lv_iconst (pc := 66) (v := nI 0) hx hb dX9_seal_66 (by decide +kernel) ?_
        refine lv_istore (pc := 67) (lv' := [(6, .int (nI 0)), (5, .int (nI nta)), (4, .ref (o 0)), (3, .ref (wa 0)), (0, .ref (lg 0)), (1, .int (nI 0)), (2, .int (qb β))]) hx hb dX9_seal_67 hl (by decide) rfl (fun ls hl => ?_)
        refine lv_iload (pc := 69) hx hb dX9_seal_69 (lv_at hl 0 rfl) ?_
        refine lv_if_eq (pc := 71) (tgt := 99) hx hb dX9_seal_71 (by decide) (fun _ => ?_) (fun c_11 => absurd (by decide) c_11)
        refine lv_aload_n (pc := 99) hx hb dX9_seal_99 rfl (lv_at hl 4 rfl) ?_
        refine va_get (pc := 100) (D := D) (ci := 7) (v := .ref (lg 1)) (C := RX9) (T := TX9) (N := 11) hx hb hts iu9 hown hK hP 1 rfl rfl 0 (by decide) (hts _ tw_352) (fun _ h9 => h9) rfl dX9_seal_100 ?_
        refine cs_V (pc := 103) (idx := 88) (n := 0) (wr := [(wa 0, oW wa st lv cnt cm), (lg 0, oG lg ya yb wa wb o v ct), (ya 0, oK ya ru ln), (o 0, oO o)]) (As := []) (rest := []) (ci := 5) hx hb hml hown hts hGok hK hA hG hl.1 hP hD hS (ct_X6_clear ll D ta hGok (lg 1) (lg 2) 400 gta nta  H.size) tw_441 tw_447 tw_439 tw_440 tw_66 hdX6_clear rfl ⟨rfl, rfl, Nat.le_of_ble_eq_true rfl, Nat.le_of_ble_eq_true rfl, Nat.le_of_ble_eq_true rfl, Nat.le_of_ble_eq_true rfl⟩ rfl rfl (q0 := 3) rfl [3, 4] [0, 1, 2, 5] rfl rfl (by decide) rfl (Nat.le_of_ble_eq_true rfl) dX9_seal_103 (fun u H locs hq hP hD hS => ?_)
        refine W.eq (g2 := F0 mm 106 ls []) rfl ?_
        have hP : va_P D vwCl [(wa 0, oW wa st lv cnt cm), (lg 0, oG lg ya yb wa wb o v ct), (ya 0, oK ya ru ln), (o 0, oO o), (lg 1, oR (lg 2) 0), (lg 2, aZ ta 400 gta)] H := hP
        have hD : va_D A [(wa 0, oW wa st lv cnt cm), (lg 0, oG lg ya yb wa wb o v ct), (ya 0, oK ya ru ln), (o 0, oO o), (lg 1, oR (lg 2) 0), (lg 2, aZ ta 400 gta)] := hD
        refine lv_iload (pc := 106) hx hb dX9_seal_106 (lv_at hl 0 rfl) ?_
        refine lv_if_eq (pc := 108) (tgt := 116) hx hb dX9_seal_108 (by decide) (fun _ => ?_) (fun c_12 => absurd (by decide) c_12)
        refine lv_iconst (pc := 116) (v := (-1)) hx hb dX9_seal_116 (by decide +kernel) ?_
        refine q_top (y := (-1)) (by first | rfl | decide +kernel | (simp; done)) ?_
        have hq_13 : (((-1) : Int32) = -1) := by
          first | rfl | trivial | (refine ⟨?_, ?_⟩ <;> rfl) | (simp; done) | omega
        exact hret (-1) _ _ _ _ dX9_seal_117 hq_13 (hP.sub [1, 2, 0, 3, 4, 5] rfl) (hD.sub [1, 2, 0, 3, 4, 5] (by decide) rfl) hS
      · skip
        rw [q_beq] at c_10
        try rw [Bool.not_eq_false] at c_10
        have hzb := c_10
        exact absurd ⟨by omega, by omega, of_decide_eq_true (hz_56.symm.trans hzb)⟩ hno
set_option maxHeartbeats 4000000 in
set_option maxRecDepth 100000 in
theorem ct_X9_seal_0_O (ll : Launch) (D : va_G) (ta : Nat → ClassId) (gs : Nat → Nat) (lg : Nat → Nat) (ya : Nat → Nat) (yb : Nat → Nat) (wa : Nat → Nat) (wb : Nat → Nat) (o : Nat → Nat) (v : Nat → Nat) (ct : Nat) (gta : Nat → BitVec 8) (nta : Nat) (gou : Nat → BitVec 8) (nou : Nat) (gz : Nat → BitVec 8) (tri : Bool) (gb : Nat → BitVec 8) (bf : Nat → BitVec 8) (f : Nat → Int64) (s : Nat → Int64) (spb : Nat → Int32) (ln : Nat) (gs9 : Nat → BitVec 8) (st : Nat) (lv : Nat) (cnt : Nat) (cm : Bool) (β : Bool) (hz : qL gz 16 = zeroL 16) (hsp : spbOK spb) (hta : 0 < nta ∧ nta ≤ 400 ∧ nta % 8 = 0) (hst : st ≤ 2 ∧ st ≠ 0) (sz : Nat) : CT ll yX9_seal cX9_seal 7 (some .int) ({ frames := 4, cells := 0, slots := 0, locals := 106 } : Room) D ta ((GC gs)) [.ref (lg 0), .int (nI 0), .int (qb β)] [(lg 0, oG lg ya yb wa wb o v ct), (ya 0, oK ya 2 ln), (wa 0, oW wa st lv cnt cm), (wa 7, oR (wa 8) 16), (wa 8, aZ ta 32 gs9), (lg 1, oR (lg 2) nta), (lg 2, aZ ta 400 gta), (lg 3, oR (lg 4) nou), (lg 4, aZ ta 400 gou), (o 0, oO o), (o 9, oR (o 10) 16), (o 10, aZ ta 16 gz), (o 11, oD (o 12) (o 13) (o 14) (o 15) (o 16) tri), (o 12, aZ ta 8 gb), (o 13, aZ ta 8 bf), (o 14, aI ta 512 spb), (o 15, aJ ta 16 f), (o 16, aJ ta 16 s)] sz (S := (Nat → BitVec 8) × Bool × (Nat → BitVec 8) × (Nat → BitVec 8) × (Nat → Int64) × (Nat → Int64)) (fun u => some (.int (nI nta))) (fun u => (qL u.1 nta = ecbL (tdesL (qL gs9 16) β) 8 (qL gta nta))) (fun u => [(lg 0, oG lg ya yb wa wb o v ct), (ya 0, oK ya 2 ln), (wa 0, oW wa st lv cnt cm), (wa 7, oR (wa 8) 16), (wa 8, aZ ta 32 gs9), (lg 1, oR (lg 2) 0), (lg 2, aZ ta 400 gta), (lg 3, oR (lg 4) nta), (lg 4, aZ ta 400 u.1), (o 0, oO o), (o 9, oR (o 10) 16), (o 10, aZ ta 16 gz), (o 11, oD (o 12) (o 13) (o 14) (o 15) (o 16) u.2.1), (o 12, aZ ta 8 u.2.2.1), (o 13, aZ ta 8 u.2.2.2.1), (o 14, aI ta 512 spb), (o 15, aJ ta 16 u.2.2.2.2.1), (o 16, aJ ta 16 u.2.2.2.2.2)]) 0 0 := by
  refine CT.of_i (r := fun u => nI nta) rfl (by decide) (Nat.le_of_ble_eq_true rfl) ?_
  have hGok := GC_ok gs
  intro pp ee ss mm below meth kc A Q hx hb hml hown hin hts hK hA hsz hG hret H locs hP hD hS ls hl
  have hl : lv_has ls 7 [(0, .ref (lg 0)), (1, .int (nI 0)), (2, .int (qb β))] := hl
  refine lv_aload_n (pc := 0) hx hb dX9_seal_0 rfl (lv_at hl 0 rfl) ?_
  refine lv_iload_n (pc := 1) hx hb dX9_seal_1 rfl (lv_at hl 1 rfl) ?_
  refine cs_V (pc := 2) (idx := 198) (n := 1) (wr := [(ya 0, oK ya 2 ln), (wa 0, oW wa st lv cnt cm), (wa 7, oR (wa 8) 16), (wa 8, aZ ta 32 gs9), (lg 1, oR (lg 2) nta), (lg 2, aZ ta 400 gta), (lg 3, oR (lg 4) nou), (lg 4, aZ ta 400 gou), (o 0, oO o), (o 9, oR (o 10) 16), (o 10, aZ ta 16 gz), (o 11, oD (o 12) (o 13) (o 14) (o 15) (o 16) tri), (o 12, aZ ta 8 gb), (o 13, aZ ta 8 bf), (o 14, aI ta 512 spb), (o 15, aJ ta 16 f), (o 16, aJ ta 16 s)]) (As := [.int (nI 0)]) (rest := []) (ci := 7) hx hb hml hown hts hGok hK hA hG hl.1 hP hD hS (ct_X9_sessionOf_0 ll D ta hGok lg ya yb wa wb o v ct  H.size) tw_934 tw_931 tw_933 tw_25 tw_65 hdX9_sessionOf rfl ⟨rfl, rfl, Nat.le_of_ble_eq_true rfl, Nat.le_of_ble_eq_true rfl, Nat.le_of_ble_eq_true rfl, Nat.le_of_ble_eq_true rfl⟩ rfl rfl (q0 := 0) rfl [0] [1, 2, 3, 4, 5, 6, 7, 8, 9, 10, 11, 12, 13, 14, 15, 16, 17] rfl rfl (by decide) rfl (Nat.le_of_ble_eq_true rfl) dX9_seal_2 (fun u H locs hq hP hD hS => ?_)
  refine W.eq (g2 := F0 mm 5 ls [.ref (wa 0)]) rfl ?_
  have hP : va_P D vwCl [(ya 0, oK ya 2 ln), (wa 0, oW wa st lv cnt cm), (wa 7, oR (wa 8) 16), (wa 8, aZ ta 32 gs9), (lg 1, oR (lg 2) nta), (lg 2, aZ ta 400 gta), (lg 3, oR (lg 4) nou), (lg 4, aZ ta 400 gou), (o 0, oO o), (o 9, oR (o 10) 16), (o 10, aZ ta 16 gz), (o 11, oD (o 12) (o 13) (o 14) (o 15) (o 16) tri), (o 12, aZ ta 8 gb), (o 13, aZ ta 8 bf), (o 14, aI ta 512 spb), (o 15, aJ ta 16 f), (o 16, aJ ta 16 s), (lg 0, oG lg ya yb wa wb o v ct)] H := hP
  have hD : va_D A [(ya 0, oK ya 2 ln), (wa 0, oW wa st lv cnt cm), (wa 7, oR (wa 8) 16), (wa 8, aZ ta 32 gs9), (lg 1, oR (lg 2) nta), (lg 2, aZ ta 400 gta), (lg 3, oR (lg 4) nou), (lg 4, aZ ta 400 gou), (o 0, oO o), (o 9, oR (o 10) 16), (o 10, aZ ta 16 gz), (o 11, oD (o 12) (o 13) (o 14) (o 15) (o 16) tri), (o 12, aZ ta 8 gb), (o 13, aZ ta 8 bf), (o 14, aI ta 512 spb), (o 15, aJ ta 16 f), (o 16, aJ ta 16 s), (lg 0, oG lg ya yb wa wb o v ct)] := hD
  refine lv_astore_n (pc := 5) (lv' := [(3, .ref (wa 0)), (0, .ref (lg 0)), (1, .int (nI 0)), (2, .int (qb β))]) hx hb dX9_seal_5 rfl hl (by decide) rfl (fun ls hl => ?_)
  refine lv_aload_n (pc := 6) hx hb dX9_seal_6 rfl (lv_at hl 1 rfl) ?_
  refine lv_iload_n (pc := 7) hx hb dX9_seal_7 rfl (lv_at hl 2 rfl) ?_
  refine lv_if_ne (pc := 8) (tgt := 18) hx hb dX9_seal_8 (by decide) (fun c_1 => absurd (by decide) c_1) (fun _ => ?_)
  refine lv_aload_n (pc := 11) hx hb dX9_seal_11 rfl (lv_at hl 1 rfl) ?_
  refine va_get (pc := 12) (D := D) (ci := 7) (v := .ref (ya 0)) (C := RX9) (T := TX9) (N := 11) hx hb hts iu9 hown hK hP 17 rfl rfl 4 (by decide) (hts _ tw_356) (fun _ h9 => h9) rfl dX9_seal_12 ?_
  refine lv_goto (pc := 15) (tgt := 22) hx hb dX9_seal_15 (by decide) ?_
  refine cs_V (pc := 22) (idx := 109) (n := 1) (wr := [(wa 0, oW wa st lv cnt cm), (wa 7, oR (wa 8) 16), (wa 8, aZ ta 32 gs9), (lg 1, oR (lg 2) nta), (lg 2, aZ ta 400 gta), (lg 3, oR (lg 4) nou), (lg 4, aZ ta 400 gou), (o 0, oO o), (o 9, oR (o 10) 16), (o 10, aZ ta 16 gz), (o 11, oD (o 12) (o 13) (o 14) (o 15) (o 16) tri), (o 12, aZ ta 8 gb), (o 13, aZ ta 8 bf), (o 14, aI ta 512 spb), (o 15, aJ ta 16 f), (o 16, aJ ta 16 s)]) (As := [.ref (ya 0)]) (rest := []) (ci := 7) hx hb hml hown hts hGok hK hA hG hl.1 hP hD hS (ct_X9_ruleOf_2 ll D ta gs lg ya yb wa wb o v ct ya 2 ln (by first | assumption | omega | rfl | decide) H.size) tw_489 tw_486 tw_488 tw_2 tw_65 hdX9_ruleOf rfl ⟨rfl, rfl, Nat.le_of_ble_eq_true rfl, Nat.le_of_ble_eq_true rfl, Nat.le_of_ble_eq_true rfl, Nat.le_of_ble_eq_true rfl⟩ rfl rfl (q0 := 17) rfl [17, 0] [1, 2, 3, 4, 5, 6, 7, 8, 9, 10, 11, 12, 13, 14, 15, 16] rfl rfl (by decide) rfl (Nat.le_of_ble_eq_true rfl) dX9_seal_22 (fun u H locs hq hP hD hS => ?_)
  refine W.eq (g2 := F0 mm 25 ls [.ref (o 0)]) rfl ?_
  have hP : va_P D vwCl [(wa 0, oW wa st lv cnt cm), (wa 7, oR (wa 8) 16), (wa 8, aZ ta 32 gs9), (lg 1, oR (lg 2) nta), (lg 2, aZ ta 400 gta), (lg 3, oR (lg 4) nou), (lg 4, aZ ta 400 gou), (o 0, oO o), (o 9, oR (o 10) 16), (o 10, aZ ta 16 gz), (o 11, oD (o 12) (o 13) (o 14) (o 15) (o 16) tri), (o 12, aZ ta 8 gb), (o 13, aZ ta 8 bf), (o 14, aI ta 512 spb), (o 15, aJ ta 16 f), (o 16, aJ ta 16 s), (lg 0, oG lg ya yb wa wb o v ct), (ya 0, oK ya 2 ln)] H := hP
  have hD : va_D A [(wa 0, oW wa st lv cnt cm), (wa 7, oR (wa 8) 16), (wa 8, aZ ta 32 gs9), (lg 1, oR (lg 2) nta), (lg 2, aZ ta 400 gta), (lg 3, oR (lg 4) nou), (lg 4, aZ ta 400 gou), (o 0, oO o), (o 9, oR (o 10) 16), (o 10, aZ ta 16 gz), (o 11, oD (o 12) (o 13) (o 14) (o 15) (o 16) tri), (o 12, aZ ta 8 gb), (o 13, aZ ta 8 bf), (o 14, aI ta 512 spb), (o 15, aJ ta 16 f), (o 16, aJ ta 16 s), (lg 0, oG lg ya yb wa wb o v ct), (ya 0, oK ya 2 ln)] := hD
  refine lv_astore (pc := 25) (lv' := [(4, .ref (o 0)), (3, .ref (wa 0)), (0, .ref (lg 0)), (1, .int (nI 0)), (2, .int (qb β))]) hx hb dX9_seal_25 hl (by decide) rfl (fun ls hl => ?_)
  refine lv_aload_n (pc := 27) hx hb dX9_seal_27 rfl (lv_at hl 2 rfl) ?_
  refine va_get (pc := 28) (D := D) (ci := 7) (v := .ref (lg 1)) (C := RX9) (T := TX9) (N := 11) hx hb hts iu9 hown hK hP 16 rfl rfl 0 (by decide) (hts _ tw_352) (fun _ h9 => h9) rfl dX9_seal_28 ?_
  refine cs_V (pc := 31) (idx := 64) (n := 0) (wr := [(wa 0, oW wa st lv cnt cm), (wa 7, oR (wa 8) 16), (wa 8, aZ ta 32 gs9), (lg 3, oR (lg 4) nou), (lg 4, aZ ta 400 gou), (o 0, oO o), (o 9, oR (o 10) 16), (o 10, aZ ta 16 gz), (o 11, oD (o 12) (o 13) (o 14) (o 15) (o 16) tri), (o 12, aZ ta 8 gb), (o 13, aZ ta 8 bf), (o 14, aI ta 512 spb), (o 15, aJ ta 16 f), (o 16, aJ ta 16 s), (lg 0, oG lg ya yb wa wb o v ct), (ya 0, oK ya 2 ln)]) (As := []) (rest := []) (ci := 5) hx hb hml hown hts hGok hK hA hG hl.1 hP hD hS (ct_X6_size ll D ta hGok (lg 1) (lg 2) 400 gta nta  H.size) tw_393 tw_390 tw_391 tw_392 tw_66 hdX6_size rfl ⟨rfl, rfl, Nat.le_of_ble_eq_true rfl, Nat.le_of_ble_eq_true rfl, Nat.le_of_ble_eq_true rfl, Nat.le_of_ble_eq_true rfl⟩ rfl rfl (q0 := 3) rfl [3, 4] [0, 1, 2, 5, 6, 7, 8, 9, 10, 11, 12, 13, 14, 15, 16, 17] rfl rfl (by decide) rfl (Nat.le_of_ble_eq_true rfl) dX9_seal_31 (fun u H locs hq hP hD hS => ?_)
  refine W.eq (g2 := F0 mm 34 ls [.int (nI nta)]) rfl ?_
  have hP : va_P D vwCl [(wa 0, oW wa st lv cnt cm), (wa 7, oR (wa 8) 16), (wa 8, aZ ta 32 gs9), (lg 3, oR (lg 4) nou), (lg 4, aZ ta 400 gou), (o 0, oO o), (o 9, oR (o 10) 16), (o 10, aZ ta 16 gz), (o 11, oD (o 12) (o 13) (o 14) (o 15) (o 16) tri), (o 12, aZ ta 8 gb), (o 13, aZ ta 8 bf), (o 14, aI ta 512 spb), (o 15, aJ ta 16 f), (o 16, aJ ta 16 s), (lg 0, oG lg ya yb wa wb o v ct), (ya 0, oK ya 2 ln), (lg 1, oR (lg 2) nta), (lg 2, aZ ta 400 gta)] H := hP
  have hD : va_D A [(wa 0, oW wa st lv cnt cm), (wa 7, oR (wa 8) 16), (wa 8, aZ ta 32 gs9), (lg 3, oR (lg 4) nou), (lg 4, aZ ta 400 gou), (o 0, oO o), (o 9, oR (o 10) 16), (o 10, aZ ta 16 gz), (o 11, oD (o 12) (o 13) (o 14) (o 15) (o 16) tri), (o 12, aZ ta 8 gb), (o 13, aZ ta 8 bf), (o 14, aI ta 512 spb), (o 15, aJ ta 16 f), (o 16, aJ ta 16 s), (lg 0, oG lg ya yb wa wb o v ct), (ya 0, oK ya 2 ln), (lg 1, oR (lg 2) nta), (lg 2, aZ ta 400 gta)] := hD
  refine lv_istore (pc := 34) (lv' := [(5, .int (nI nta)), (4, .ref (o 0)), (3, .ref (wa 0)), (0, .ref (lg 0)), (1, .int (nI 0)), (2, .int (qb β))]) hx hb dX9_seal_34 hl (by decide) rfl (fun ls hl => ?_)
  refine lv_aload_n (pc := 36) hx hb dX9_seal_36 rfl (lv_at hl 2 rfl) ?_
  refine lv_ifnull (pc := 37) hx hb dX9_seal_37 ?_
  refine lv_aload_n (pc := 40) hx hb dX9_seal_40 rfl (lv_at hl 2 rfl) ?_
  refine va_getN (pc := 41) (D := D) (ci := 6) (v := .int (nI st)) (C := RX8) (T := TX8) (N := 14) hx hb hts iu8 hown hK hP 0 rfl rfl 0 (by decide) (va_Nw.use rfl (GC_w140 hG)) (fun _ h9 => h9) rfl dX9_seal_41 ?_
  refine lv_if_eq (pc := 44) (tgt := 66) hx hb dX9_seal_44 (by decide) (fun c_2 => ?_) (fun c_2 => ?_)
  · skip
    rw [q_eq0 (by omega)] at c_2
    exfalso; omega
  · skip
    rw [q_eq0 (by omega)] at c_2
    refine lv_iload (pc := 47) hx hb dX9_seal_47 (lv_at hl 0 rfl) ?_
    refine lv_if_le (pc := 49) (tgt := 66) hx hb dX9_seal_49 (by decide) (fun c_3 => ?_) (fun c_3 => ?_)
    · skip
      rw [q_le0 (by omega)] at c_3
      exfalso; omega
    · skip
      rw [q_le0 (by omega)] at c_3
      refine lv_aload (pc := 52) hx hb dX9_seal_52 (lv_at hl 1 rfl) ?_
      refine lv_iload (pc := 54) hx hb dX9_seal_54 (lv_at hl 0 rfl) ?_
      refine cs_U (pc := 56) (idx := 202) (n := 1) (wr := [(wa 0, oW wa st lv cnt cm), (wa 7, oR (wa 8) 16), (wa 8, aZ ta 32 gs9), (lg 3, oR (lg 4) nou), (lg 4, aZ ta 400 gou), (o 9, oR (o 10) 16), (o 10, aZ ta 16 gz), (o 11, oD (o 12) (o 13) (o 14) (o 15) (o 16) tri), (o 12, aZ ta 8 gb), (o 13, aZ ta 8 bf), (o 14, aI ta 512 spb), (o 15, aJ ta 16 f), (o 16, aJ ta 16 s), (lg 0, oG lg ya yb wa wb o v ct), (ya 0, oK ya 2 ln), (lg 1, oR (lg 2) nta), (lg 2, aZ ta 400 gta)]) (As := [.int (nI nta)]) (rest := []) (ci := 4) (x := ⟨"LineGuard$Rule", "isBlocks", "(I)Z"⟩) (owner := "LineGuard$Rule") hx hb hml hown hts hGok hK hA hG hl.1 hP hD hS (ct_X7_isBlocks_O ll D ta gs o nta (by first | assumption | omega | rfl | decide) H.size) tw_597 tw_935 tw_596 tw_1458 tw_69 tw_1456 (va_Decl.of (hts _ tw_596) (hts _ tw_597)) ⟨by decide +kernel, by decide +kernel, by decide +kernel⟩ rfl ⟨rfl, rfl, Nat.le_of_ble_eq_true rfl, Nat.le_of_ble_eq_true rfl, Nat.le_of_ble_eq_true rfl, Nat.le_of_ble_eq_true rfl⟩ rfl (q0 := 5) rfl [5] [0, 1, 2, 3, 4, 6, 7, 8, 9, 10, 11, 12, 13, 14, 15, 16, 17] rfl rfl (by decide) rfl (Nat.le_of_ble_eq_true rfl) dX9_seal_56 (fun u H locs hq hP hD hS => ?_)
      generalize u = z_56 at hq hP hD ⊢
      have hq : (z_56 = decide (nta % 8 = 0)) := hq
      have hz_56 := hq
      refine W.eq (g2 := F0 mm 59 ls [.int (qb z_56)]) rfl ?_
      have hP : va_P D vwCl [(wa 0, oW wa st lv cnt cm), (wa 7, oR (wa 8) 16), (wa 8, aZ ta 32 gs9), (lg 3, oR (lg 4) nou), (lg 4, aZ ta 400 gou), (o 9, oR (o 10) 16), (o 10, aZ ta 16 gz), (o 11, oD (o 12) (o 13) (o 14) (o 15) (o 16) tri), (o 12, aZ ta 8 gb), (o 13, aZ ta 8 bf), (o 14, aI ta 512 spb), (o 15, aJ ta 16 f), (o 16, aJ ta 16 s), (lg 0, oG lg ya yb wa wb o v ct), (ya 0, oK ya 2 ln), (lg 1, oR (lg 2) nta), (lg 2, aZ ta 400 gta), (o 0, oO o)] H := hP
      have hD : va_D A [(wa 0, oW wa st lv cnt cm), (wa 7, oR (wa 8) 16), (wa 8, aZ ta 32 gs9), (lg 3, oR (lg 4) nou), (lg 4, aZ ta 400 gou), (o 9, oR (o 10) 16), (o 10, aZ ta 16 gz), (o 11, oD (o 12) (o 13) (o 14) (o 15) (o 16) tri), (o 12, aZ ta 8 gb), (o 13, aZ ta 8 bf), (o 14, aI ta 512 spb), (o 15, aJ ta 16 f), (o 16, aJ ta 16 s), (lg 0, oG lg ya yb wa wb o v ct), (ya 0, oK ya 2 ln), (lg 1, oR (lg 2) nta), (lg 2, aZ ta 400 gta), (o 0, oO o)] := hD
      refine lv_if_eq (pc := 59) (tgt := 66) hx hb dX9_seal_59 (by decide) (fun c_4 => ?_) (fun c_4 => ?_)
      · skip
        rw [q_beq] at c_4
        try rw [Bool.not_eq_false] at c_4
        rw [hz_56, decide_eq_true (by omega)] at c_4; cases c_4
      · skip
        rw [q_beq] at c_4
        try rw [Bool.not_eq_false] at c_4
        refine lv_iconst (pc := 62) (v := nI 1) hx hb dX9_seal_62 (by decide +kernel) ?_
        refine lv_goto (pc := 63) (tgt := 67) hx hb dX9_seal_63 (by decide) ?_
        refine lv_istore (pc := 67) (lv' := [(6, .int (nI 1)), (5, .int (nI nta)), (4, .ref (o 0)), (3, .ref (wa 0)), (0, .ref (lg 0)), (1, .int (nI 0)), (2, .int (qb β))]) hx hb dX9_seal_67 hl (by decide) rfl (fun ls hl => ?_)
        refine lv_iload (pc := 69) hx hb dX9_seal_69 (lv_at hl 0 rfl) ?_
        refine lv_if_eq (pc := 71) (tgt := 99) hx hb dX9_seal_71 (by decide) (fun c_5 => absurd c_5 (by decide)) (fun _ => ?_)
        refine lv_aload_n (pc := 74) hx hb dX9_seal_74 rfl (lv_at hl 4 rfl) ?_
        refine va_get (pc := 75) (D := D) (ci := 7) (v := .ref (lg 3)) (C := RX9) (T := TX9) (N := 11) hx hb hts iu9 hown hK hP 13 rfl rfl 1 (by decide) (hts _ tw_353) (fun _ h9 => h9) rfl dX9_seal_75 ?_
        refine lv_aload_n (pc := 78) hx hb dX9_seal_78 rfl (lv_at hl 4 rfl) ?_
        refine va_get (pc := 79) (D := D) (ci := 7) (v := .ref (lg 1)) (C := RX9) (T := TX9) (N := 11) hx hb hts iu9 hown hK hP 13 rfl rfl 0 (by decide) (hts _ tw_352) (fun _ h9 => h9) rfl dX9_seal_79 ?_
        refine cs_V (pc := 82) (idx := 84) (n := 1) (wr := [(wa 0, oW wa st lv cnt cm), (wa 7, oR (wa 8) 16), (wa 8, aZ ta 32 gs9), (o 9, oR (o 10) 16), (o 10, aZ ta 16 gz), (o 11, oD (o 12) (o 13) (o 14) (o 15) (o 16) tri), (o 12, aZ ta 8 gb), (o 13, aZ ta 8 bf), (o 14, aI ta 512 spb), (o 15, aJ ta 16 f), (o 16, aJ ta 16 s), (lg 0, oG lg ya yb wa wb o v ct), (ya 0, oK ya 2 ln), (o 0, oO o)]) (As := [.ref (lg 1)]) (rest := []) (ci := 5) hx hb hml hown hts hGok hK hA hG hl.1 hP hD hS (ct_X6_copy ll D ta hGok (lg 3) (lg 4) 400 gou nou (lg 1) (lg 2) 400 gta nta (by first | assumption | omega | rfl | decide) (by first | assumption | omega | rfl | decide) (by first | assumption | omega | rfl | decide) (by first | assumption | omega | rfl | decide) H.size) tw_437 tw_434 tw_435 tw_436 tw_66 hdX6_copy rfl ⟨rfl, rfl, Nat.le_of_ble_eq_true rfl, Nat.le_of_ble_eq_true rfl, Nat.le_of_ble_eq_true rfl, Nat.le_of_ble_eq_true rfl⟩ rfl rfl (q0 := 3) rfl [3, 4, 15, 16] [0, 1, 2, 5, 6, 7, 8, 9, 10, 11, 12, 13, 14, 17] rfl rfl (by decide) rfl (Nat.le_of_ble_eq_true rfl) dX9_seal_82 (fun u H locs hq hP hD hS => ?_)
        generalize u = g1_82 at hq hP hD ⊢
        have hq : (qL g1_82 nta = qL gta nta) := hq
        have hL_82 := hq
        refine W.eq (g2 := F0 mm 85 ls []) rfl ?_
        have hP : va_P D vwCl [(wa 0, oW wa st lv cnt cm), (wa 7, oR (wa 8) 16), (wa 8, aZ ta 32 gs9), (o 9, oR (o 10) 16), (o 10, aZ ta 16 gz), (o 11, oD (o 12) (o 13) (o 14) (o 15) (o 16) tri), (o 12, aZ ta 8 gb), (o 13, aZ ta 8 bf), (o 14, aI ta 512 spb), (o 15, aJ ta 16 f), (o 16, aJ ta 16 s), (lg 0, oG lg ya yb wa wb o v ct), (ya 0, oK ya 2 ln), (o 0, oO o), (lg 3, oR (lg 4) nta), (lg 4, aZ ta 400 g1_82), (lg 1, oR (lg 2) nta), (lg 2, aZ ta 400 gta)] H := hP
        have hD : va_D A [(wa 0, oW wa st lv cnt cm), (wa 7, oR (wa 8) 16), (wa 8, aZ ta 32 gs9), (o 9, oR (o 10) 16), (o 10, aZ ta 16 gz), (o 11, oD (o 12) (o 13) (o 14) (o 15) (o 16) tri), (o 12, aZ ta 8 gb), (o 13, aZ ta 8 bf), (o 14, aI ta 512 spb), (o 15, aJ ta 16 f), (o 16, aJ ta 16 s), (lg 0, oG lg ya yb wa wb o v ct), (ya 0, oK ya 2 ln), (o 0, oO o), (lg 3, oR (lg 4) nta), (lg 4, aZ ta 400 g1_82), (lg 1, oR (lg 2) nta), (lg 2, aZ ta 400 gta)] := hD
        refine lv_aload (pc := 85) hx hb dX9_seal_85 (lv_at hl 2 rfl) ?_
        refine lv_aload_n (pc := 87) hx hb dX9_seal_87 rfl (lv_at hl 3 rfl) ?_
        refine va_getN (pc := 88) (D := D) (ci := 6) (v := .ref (wa 7)) (C := RX8) (T := TX8) (N := 14) hx hb hts iu8 hown hK hP 0 rfl rfl 5 (by decide) (va_Nw.use rfl (GC_w156 hG)) (fun _ h9 => h9) rfl dX9_seal_88 ?_
        refine lv_aload_n (pc := 91) hx hb dX9_seal_91 rfl (lv_at hl 4 rfl) ?_
        refine va_get (pc := 92) (D := D) (ci := 7) (v := .ref (lg 3)) (C := RX9) (T := TX9) (N := 11) hx hb hts iu9 hown hK hP 11 rfl rfl 1 (by decide) (hts _ tw_353) (fun _ h9 => h9) rfl dX9_seal_92 ?_
        refine lv_iload_n (pc := 95) hx hb dX9_seal_95 rfl (lv_at hl 6 rfl) ?_
        refine cs_U (pc := 96) (idx := 208) (n := 3) (wr := [(wa 0, oW wa st lv cnt cm), (lg 0, oG lg ya yb wa wb o v ct), (ya 0, oK ya 2 ln), (lg 1, oR (lg 2) nta), (lg 2, aZ ta 400 gta)]) (As := [.ref (wa 7), .ref (lg 3), .int (qb β)]) (rest := []) (ci := 4) (x := ⟨"LineGuard$Rule", "sealWith", "(LLineGuard$Row;LLineGuard$Row;Z)V"⟩) (owner := "LineGuard$Rule") hx hb hml hown hts hGok hK hA hG hl.1 hP hD hS (ct_X5_sealWith ll D ta gs o gz tri gb bf f s spb (wa 7) (wa 8) 32 gs9 (lg 3) (lg 4) 400 g1_82 nta β (by first | assumption | omega | rfl | decide) (by first | assumption | omega | rfl | decide) (by first | assumption | omega | rfl | decide) (by first | assumption | omega | rfl | decide) H.size) tw_944 tw_936 tw_943 tw_942 tw_70 tw_938 (va_Decl.abs (GC_w937 hG)) ⟨by decide +kernel, by decide +kernel, by decide +kernel⟩ rfl ⟨rfl, rfl, Nat.le_of_ble_eq_true rfl, Nat.le_of_ble_eq_true rfl, Nat.le_of_ble_eq_true rfl, Nat.le_of_ble_eq_true rfl⟩ rfl (q0 := 13) rfl [13, 3, 4, 5, 6, 7, 8, 9, 10, 1, 2, 14, 15] [0, 11, 12, 16, 17] rfl rfl (by decide) rfl (Nat.le_of_ble_eq_true rfl) dX9_seal_96 (fun u H locs hq hP hD hS => ?_)
        obtain ⟨gou1_96, tri1_96, gb1_96, bf1_96, f1_96, s1_96⟩ := u
        have hq : (qL gou1_96 nta = ecbL (tdesL (qL gs9 16) β) 8 (qL g1_82 nta)) := hq
        have hL_96 := hq
        refine W.eq (g2 := F0 mm 99 ls []) rfl ?_
        have hP : va_P D vwCl [(wa 0, oW wa st lv cnt cm), (lg 0, oG lg ya yb wa wb o v ct), (ya 0, oK ya 2 ln), (lg 1, oR (lg 2) nta), (lg 2, aZ ta 400 gta), (o 0, oO o), (o 9, oR (o 10) 16), (o 10, aZ ta 16 gz), (o 11, oD (o 12) (o 13) (o 14) (o 15) (o 16) tri1_96), (o 12, aZ ta 8 gb1_96), (o 13, aZ ta 8 bf1_96), (o 14, aI ta 512 spb), (o 15, aJ ta 16 f1_96), (o 16, aJ ta 16 s1_96), (wa 7, oR (wa 8) 16), (wa 8, aZ ta 32 gs9), (lg 3, oR (lg 4) nta), (lg 4, aZ ta 400 gou1_96)] H := hP
        have hD : va_D A [(wa 0, oW wa st lv cnt cm), (lg 0, oG lg ya yb wa wb o v ct), (ya 0, oK ya 2 ln), (lg 1, oR (lg 2) nta), (lg 2, aZ ta 400 gta), (o 0, oO o), (o 9, oR (o 10) 16), (o 10, aZ ta 16 gz), (o 11, oD (o 12) (o 13) (o 14) (o 15) (o 16) tri1_96), (o 12, aZ ta 8 gb1_96), (o 13, aZ ta 8 bf1_96), (o 14, aI ta 512 spb), (o 15, aJ ta 16 f1_96), (o 16, aJ ta 16 s1_96), (wa 7, oR (wa 8) 16), (wa 8, aZ ta 32 gs9), (lg 3, oR (lg 4) nta), (lg 4, aZ ta 400 gou1_96)] := hD
        refine lv_aload_n (pc := 99) hx hb dX9_seal_99 rfl (lv_at hl 4 rfl) ?_
        refine va_get (pc := 100) (D := D) (ci := 7) (v := .ref (lg 1)) (C := RX9) (T := TX9) (N := 11) hx hb hts iu9 hown hK hP 1 rfl rfl 0 (by decide) (hts _ tw_352) (fun _ h9 => h9) rfl dX9_seal_100 ?_
        refine cs_V (pc := 103) (idx := 88) (n := 0) (wr := [(wa 0, oW wa st lv cnt cm), (lg 0, oG lg ya yb wa wb o v ct), (ya 0, oK ya 2 ln), (o 0, oO o), (o 9, oR (o 10) 16), (o 10, aZ ta 16 gz), (o 11, oD (o 12) (o 13) (o 14) (o 15) (o 16) tri1_96), (o 12, aZ ta 8 gb1_96), (o 13, aZ ta 8 bf1_96), (o 14, aI ta 512 spb), (o 15, aJ ta 16 f1_96), (o 16, aJ ta 16 s1_96), (wa 7, oR (wa 8) 16), (wa 8, aZ ta 32 gs9), (lg 3, oR (lg 4) nta), (lg 4, aZ ta 400 gou1_96)]) (As := []) (rest := []) (ci := 5) hx hb hml hown hts hGok hK hA hG hl.1 hP hD hS (ct_X6_clear ll D ta hGok (lg 1) (lg 2) 400 gta nta  H.size) tw_441 tw_447 tw_439 tw_440 tw_66 hdX6_clear rfl ⟨rfl, rfl, Nat.le_of_ble_eq_true rfl, Nat.le_of_ble_eq_true rfl, Nat.le_of_ble_eq_true rfl, Nat.le_of_ble_eq_true rfl⟩ rfl rfl (q0 := 3) rfl [3, 4] [0, 1, 2, 5, 6, 7, 8, 9, 10, 11, 12, 13, 14, 15, 16, 17] rfl rfl (by decide) rfl (Nat.le_of_ble_eq_true rfl) dX9_seal_103 (fun u H locs hq hP hD hS => ?_)
        refine W.eq (g2 := F0 mm 106 ls []) rfl ?_
        have hP : va_P D vwCl [(wa 0, oW wa st lv cnt cm), (lg 0, oG lg ya yb wa wb o v ct), (ya 0, oK ya 2 ln), (o 0, oO o), (o 9, oR (o 10) 16), (o 10, aZ ta 16 gz), (o 11, oD (o 12) (o 13) (o 14) (o 15) (o 16) tri1_96), (o 12, aZ ta 8 gb1_96), (o 13, aZ ta 8 bf1_96), (o 14, aI ta 512 spb), (o 15, aJ ta 16 f1_96), (o 16, aJ ta 16 s1_96), (wa 7, oR (wa 8) 16), (wa 8, aZ ta 32 gs9), (lg 3, oR (lg 4) nta), (lg 4, aZ ta 400 gou1_96), (lg 1, oR (lg 2) 0), (lg 2, aZ ta 400 gta)] H := hP
        have hD : va_D A [(wa 0, oW wa st lv cnt cm), (lg 0, oG lg ya yb wa wb o v ct), (ya 0, oK ya 2 ln), (o 0, oO o), (o 9, oR (o 10) 16), (o 10, aZ ta 16 gz), (o 11, oD (o 12) (o 13) (o 14) (o 15) (o 16) tri1_96), (o 12, aZ ta 8 gb1_96), (o 13, aZ ta 8 bf1_96), (o 14, aI ta 512 spb), (o 15, aJ ta 16 f1_96), (o 16, aJ ta 16 s1_96), (wa 7, oR (wa 8) 16), (wa 8, aZ ta 32 gs9), (lg 3, oR (lg 4) nta), (lg 4, aZ ta 400 gou1_96), (lg 1, oR (lg 2) 0), (lg 2, aZ ta 400 gta)] := hD
        refine lv_iload (pc := 106) hx hb dX9_seal_106 (lv_at hl 0 rfl) ?_
        refine lv_if_eq (pc := 108) (tgt := 116) hx hb dX9_seal_108 (by decide) (fun c_6 => absurd c_6 (by decide)) (fun _ => ?_)
        refine lv_iload (pc := 111) hx hb dX9_seal_111 (lv_at hl 1 rfl) ?_
        refine lv_goto (pc := 113) (tgt := 117) hx hb dX9_seal_113 (by decide) ?_
        have hq_7 : (qL gou1_96 nta = ecbL (tdesL (qL gs9 16) β) 8 (qL gta nta)) := by
          rw [hL_96, hL_82]
        exact hret (⟨(gou1_96), (tri1_96), (gb1_96), (bf1_96), (f1_96), (s1_96)⟩ : (Nat → BitVec 8) × Bool × (Nat → BitVec 8) × (Nat → BitVec 8) × (Nat → Int64) × (Nat → Int64)) _ _ _ _ dX9_seal_117 hq_7 (hP.sub [1, 2, 0, 12, 13, 16, 17, 14, 15, 3, 4, 5, 6, 7, 8, 9, 10, 11] rfl) (hD.sub [1, 2, 0, 12, 13, 16, 17, 14, 15, 3, 4, 5, 6, 7, 8, 9, 10, 11] (by decide) rfl) hS
set_option maxHeartbeats 4000000 in
set_option maxRecDepth 100000 in
theorem ct_X9_seal_no1_O (ll : Launch) (D : va_G) (ta : Nat → ClassId) (gs : Nat → Nat) (lg : Nat → Nat) (ya : Nat → Nat) (yb : Nat → Nat) (wa : Nat → Nat) (wb : Nat → Nat) (o : Nat → Nat) (v : Nat → Nat) (ct : Nat) (gta : Nat → BitVec 8) (nta : Nat) (ru : Nat) (ln : Nat) (st : Nat) (lv : Nat) (cnt : Nat) (cm : Bool) (β : Bool) (hta : nta ≤ 400) (hru : ¬ ru = 3 ∧ ru < 4) (hst : st ≤ 2) (hno : ¬ (st ≠ 0 ∧ 0 < nta ∧ nta % 8 = 0)) (sz : Nat) : CT ll yX9_seal cX9_seal 7 (some .int) ({ frames := 4, cells := 0, slots := 0, locals := 106 } : Room) D ta ((GC gs)) [.ref (lg 0), .int (nI 1), .int (qb β)] [(lg 0, oG lg ya yb wa wb o v ct), (yb 0, oK yb ru ln), (wb 0, oW wb st lv cnt cm), (o 0, oO o), (lg 1, oR (lg 2) nta), (lg 2, aZ ta 400 gta)] sz (S := Int32) (fun u => some (.int u)) (fun u => ((u : Int32) = -1)) (fun u => [(lg 0, oG lg ya yb wa wb o v ct), (yb 0, oK yb ru ln), (wb 0, oW wb st lv cnt cm), (o 0, oO o), (lg 1, oR (lg 2) 0), (lg 2, aZ ta 400 gta)]) 0 0 := by
  refine CT.of_i (r := fun u => u) rfl (by decide) (Nat.le_of_ble_eq_true rfl) ?_
  have hGok := GC_ok gs
  intro pp ee ss mm below meth kc A Q hx hb hml hown hin hts hK hA hsz hG hret H locs hP hD hS ls hl
  have hl : lv_has ls 7 [(0, .ref (lg 0)), (1, .int (nI 1)), (2, .int (qb β))] := hl
  refine lv_aload_n (pc := 0) hx hb dX9_seal_0 rfl (lv_at hl 0 rfl) ?_
  refine lv_iload_n (pc := 1) hx hb dX9_seal_1 rfl (lv_at hl 1 rfl) ?_
  refine cs_V (pc := 2) (idx := 198) (n := 1) (wr := [(yb 0, oK yb ru ln), (wb 0, oW wb st lv cnt cm), (o 0, oO o), (lg 1, oR (lg 2) nta), (lg 2, aZ ta 400 gta)]) (As := [.int (nI 1)]) (rest := []) (ci := 7) hx hb hml hown hts hGok hK hA hG hl.1 hP hD hS (ct_X9_sessionOf_1 ll D ta hGok lg ya yb wa wb o v ct  H.size) tw_934 tw_931 tw_933 tw_25 tw_65 hdX9_sessionOf rfl ⟨rfl, rfl, Nat.le_of_ble_eq_true rfl, Nat.le_of_ble_eq_true rfl, Nat.le_of_ble_eq_true rfl, Nat.le_of_ble_eq_true rfl⟩ rfl rfl (q0 := 0) rfl [0] [1, 2, 3, 4, 5] rfl rfl (by decide) rfl (Nat.le_of_ble_eq_true rfl) dX9_seal_2 (fun u H locs hq hP hD hS => ?_)
  refine W.eq (g2 := F0 mm 5 ls [.ref (wb 0)]) rfl ?_
  have hP : va_P D vwCl [(yb 0, oK yb ru ln), (wb 0, oW wb st lv cnt cm), (o 0, oO o), (lg 1, oR (lg 2) nta), (lg 2, aZ ta 400 gta), (lg 0, oG lg ya yb wa wb o v ct)] H := hP
  have hD : va_D A [(yb 0, oK yb ru ln), (wb 0, oW wb st lv cnt cm), (o 0, oO o), (lg 1, oR (lg 2) nta), (lg 2, aZ ta 400 gta), (lg 0, oG lg ya yb wa wb o v ct)] := hD
  refine lv_astore_n (pc := 5) (lv' := [(3, .ref (wb 0)), (0, .ref (lg 0)), (1, .int (nI 1)), (2, .int (qb β))]) hx hb dX9_seal_5 rfl hl (by decide) rfl (fun ls hl => ?_)
  refine lv_aload_n (pc := 6) hx hb dX9_seal_6 rfl (lv_at hl 1 rfl) ?_
  refine lv_iload_n (pc := 7) hx hb dX9_seal_7 rfl (lv_at hl 2 rfl) ?_
  refine lv_if_ne (pc := 8) (tgt := 18) hx hb dX9_seal_8 (by decide) (fun _ => ?_) (fun c_1 => absurd c_1 (by decide))
  refine lv_aload_n (pc := 18) hx hb dX9_seal_18 rfl (lv_at hl 1 rfl) ?_
  refine va_get (pc := 19) (D := D) (ci := 7) (v := .ref (yb 0)) (C := RX9) (T := TX9) (N := 11) hx hb hts iu9 hown hK hP 5 rfl rfl 5 (by decide) (hts _ tw_357) (fun _ h9 => h9) rfl dX9_seal_19 ?_
  refine cs_V (pc := 22) (idx := 109) (n := 1) (wr := [(wb 0, oW wb st lv cnt cm), (o 0, oO o), (lg 1, oR (lg 2) nta), (lg 2, aZ ta 400 gta)]) (As := [.ref (yb 0)]) (rest := []) (ci := 7) hx hb hml hown hts hGok hK hA hG hl.1 hP hD hS (ct_X9_ruleOf_2 ll D ta gs lg ya yb wa wb o v ct yb ru ln (by first | assumption | omega | rfl | decide) H.size) tw_489 tw_486 tw_488 tw_2 tw_65 hdX9_ruleOf rfl ⟨rfl, rfl, Nat.le_of_ble_eq_true rfl, Nat.le_of_ble_eq_true rfl, Nat.le_of_ble_eq_true rfl, Nat.le_of_ble_eq_true rfl⟩ rfl rfl (q0 := 5) rfl [5, 0] [1, 2, 3, 4] rfl rfl (by decide) rfl (Nat.le_of_ble_eq_true rfl) dX9_seal_22 (fun u H locs hq hP hD hS => ?_)
  refine W.eq (g2 := F0 mm 25 ls [.ref (o 0)]) rfl ?_
  have hP : va_P D vwCl [(wb 0, oW wb st lv cnt cm), (o 0, oO o), (lg 1, oR (lg 2) nta), (lg 2, aZ ta 400 gta), (lg 0, oG lg ya yb wa wb o v ct), (yb 0, oK yb ru ln)] H := hP
  have hD : va_D A [(wb 0, oW wb st lv cnt cm), (o 0, oO o), (lg 1, oR (lg 2) nta), (lg 2, aZ ta 400 gta), (lg 0, oG lg ya yb wa wb o v ct), (yb 0, oK yb ru ln)] := hD
  refine lv_astore (pc := 25) (lv' := [(4, .ref (o 0)), (3, .ref (wb 0)), (0, .ref (lg 0)), (1, .int (nI 1)), (2, .int (qb β))]) hx hb dX9_seal_25 hl (by decide) rfl (fun ls hl => ?_)
  refine lv_aload_n (pc := 27) hx hb dX9_seal_27 rfl (lv_at hl 2 rfl) ?_
  refine va_get (pc := 28) (D := D) (ci := 7) (v := .ref (lg 1)) (C := RX9) (T := TX9) (N := 11) hx hb hts iu9 hown hK hP 4 rfl rfl 0 (by decide) (hts _ tw_352) (fun _ h9 => h9) rfl dX9_seal_28 ?_
  refine cs_V (pc := 31) (idx := 64) (n := 0) (wr := [(wb 0, oW wb st lv cnt cm), (o 0, oO o), (lg 0, oG lg ya yb wa wb o v ct), (yb 0, oK yb ru ln)]) (As := []) (rest := []) (ci := 5) hx hb hml hown hts hGok hK hA hG hl.1 hP hD hS (ct_X6_size ll D ta hGok (lg 1) (lg 2) 400 gta nta  H.size) tw_393 tw_390 tw_391 tw_392 tw_66 hdX6_size rfl ⟨rfl, rfl, Nat.le_of_ble_eq_true rfl, Nat.le_of_ble_eq_true rfl, Nat.le_of_ble_eq_true rfl, Nat.le_of_ble_eq_true rfl⟩ rfl rfl (q0 := 2) rfl [2, 3] [0, 1, 4, 5] rfl rfl (by decide) rfl (Nat.le_of_ble_eq_true rfl) dX9_seal_31 (fun u H locs hq hP hD hS => ?_)
  refine W.eq (g2 := F0 mm 34 ls [.int (nI nta)]) rfl ?_
  have hP : va_P D vwCl [(wb 0, oW wb st lv cnt cm), (o 0, oO o), (lg 0, oG lg ya yb wa wb o v ct), (yb 0, oK yb ru ln), (lg 1, oR (lg 2) nta), (lg 2, aZ ta 400 gta)] H := hP
  have hD : va_D A [(wb 0, oW wb st lv cnt cm), (o 0, oO o), (lg 0, oG lg ya yb wa wb o v ct), (yb 0, oK yb ru ln), (lg 1, oR (lg 2) nta), (lg 2, aZ ta 400 gta)] := hD
  refine lv_istore (pc := 34) (lv' := [(5, .int (nI nta)), (4, .ref (o 0)), (3, .ref (wb 0)), (0, .ref (lg 0)), (1, .int (nI 1)), (2, .int (qb β))]) hx hb dX9_seal_34 hl (by decide) rfl (fun ls hl => ?_)
  refine lv_aload_n (pc := 36) hx hb dX9_seal_36 rfl (lv_at hl 2 rfl) ?_
  refine lv_ifnull (pc := 37) hx hb dX9_seal_37 ?_
  refine lv_aload_n (pc := 40) hx hb dX9_seal_40 rfl (lv_at hl 2 rfl) ?_
  refine va_getN (pc := 41) (D := D) (ci := 6) (v := .int (nI st)) (C := RX8) (T := TX8) (N := 14) hx hb hts iu8 hown hK hP 0 rfl rfl 0 (by decide) (va_Nw.use rfl (GC_w140 hG)) (fun _ h9 => h9) rfl dX9_seal_41 ?_
  refine lv_if_eq (pc := 44) (tgt := 66) hx hb dX9_seal_44 (by decide) (fun c_2 => ?_) (fun c_2 => ?_)
  · skip
    rw [q_eq0 (by omega)] at c_2
    refine lv_iconst (pc := 66) (v := nI 0) hx hb dX9_seal_66 (by decide +kernel) ?_
    refine lv_istore (pc := 67) (lv' := [(6, .int (nI 0)), (5, .int (nI nta)), (4, .ref (o 0)), (3, .ref (wb 0)), (0, .ref (lg 0)), (1, .int (nI 1)), (2, .int (qb β))]) hx hb dX9_seal_67 hl (by decide) rfl (fun ls hl => ?_)
    refine lv_iload (pc := 69) hx hb dX9_seal_69 (lv_at hl 0 rfl) ?_
    refine lv_if_eq (pc := 71) (tgt := 99) hx hb dX9_seal_71 (by decide) (fun _ => ?_) (fun c_3 => absurd (by decide) c_3)
    refine lv_aload_n (pc := 99) hx hb dX9_seal_99 rfl (lv_at hl 4 rfl) ?_
    refine va_get (pc := 100) (D := D) (ci := 7) (v := .ref (lg 1)) (C := RX9) (T := TX9) (N := 11) hx hb hts iu9 hown hK hP 2 rfl rfl 0 (by decide) (hts _ tw_352) (fun _ h9 => h9) rfl dX9_seal_100 ?_
    refine cs_V (pc := 103) (idx := 88) (n := 0) (wr := [(wb 0, oW wb st lv cnt cm), (o 0, oO o), (lg 0, oG lg ya yb wa wb o v ct), (yb 0, oK yb ru ln)]) (As := []) (rest := []) (ci := 5) hx hb hml hown hts hGok hK hA hG hl.1 hP hD hS (ct_X6_clear ll D ta hGok (lg 1) (lg 2) 400 gta nta  H.size) tw_441 tw_447 tw_439 tw_440 tw_66 hdX6_clear rfl ⟨rfl, rfl, Nat.le_of_ble_eq_true rfl, Nat.le_of_ble_eq_true rfl, Nat.le_of_ble_eq_true rfl, Nat.le_of_ble_eq_true rfl⟩ rfl rfl (q0 := 4) rfl [4, 5] [0, 1, 2, 3] rfl rfl (by decide) rfl (Nat.le_of_ble_eq_true rfl) dX9_seal_103 (fun u H locs hq hP hD hS => ?_)
    refine W.eq (g2 := F0 mm 106 ls []) rfl ?_
    have hP : va_P D vwCl [(wb 0, oW wb st lv cnt cm), (o 0, oO o), (lg 0, oG lg ya yb wa wb o v ct), (yb 0, oK yb ru ln), (lg 1, oR (lg 2) 0), (lg 2, aZ ta 400 gta)] H := hP
    have hD : va_D A [(wb 0, oW wb st lv cnt cm), (o 0, oO o), (lg 0, oG lg ya yb wa wb o v ct), (yb 0, oK yb ru ln), (lg 1, oR (lg 2) 0), (lg 2, aZ ta 400 gta)] := hD
    refine lv_iload (pc := 106) hx hb dX9_seal_106 (lv_at hl 0 rfl) ?_
    refine lv_if_eq (pc := 108) (tgt := 116) hx hb dX9_seal_108 (by decide) (fun _ => ?_) (fun c_4 => absurd (by decide) c_4)
    refine lv_iconst (pc := 116) (v := (-1)) hx hb dX9_seal_116 (by decide +kernel) ?_
    refine q_top (y := (-1)) (by first | rfl | decide +kernel | (simp; done)) ?_
    have hq_5 : (((-1) : Int32) = -1) := by
      first | rfl | trivial | (refine ⟨?_, ?_⟩ <;> rfl) | (simp; done) | omega
    exact hret (-1) _ _ _ _ dX9_seal_117 hq_5 (hP.sub [2, 3, 0, 1, 4, 5] rfl) (hD.sub [2, 3, 0, 1, 4, 5] (by decide) rfl) hS
  · skip
    rw [q_eq0 (by omega)] at c_2
    refine lv_iload (pc := 47) hx hb dX9_seal_47 (lv_at hl 0 rfl) ?_
    refine lv_if_le (pc := 49) (tgt := 66) hx hb dX9_seal_49 (by decide) (fun c_6 => ?_) (fun c_6 => ?_)
    · skip
      rw [q_le0 (by omega)] at c_6
      refine lv_iconst (pc := 66) (v := nI 0) hx hb dX9_seal_66 (by decide +kernel) ?_
      refine lv_istore (pc := 67) (lv' := [(6, .int (nI 0)), (5, .int (nI nta)), (4, .ref (o 0)), (3, .ref (wb 0)), (0, .ref (lg 0)), (1, .int (nI 1)), (2, .int (qb β))]) hx hb dX9_seal_67 hl (by decide) rfl (fun ls hl => ?_)
      refine lv_iload (pc := 69) hx hb dX9_seal_69 (lv_at hl 0 rfl) ?_
      refine lv_if_eq (pc := 71) (tgt := 99) hx hb dX9_seal_71 (by decide) (fun _ => ?_) (fun c_7 => absurd (by decide) c_7)
      refine lv_aload_n (pc := 99) hx hb dX9_seal_99 rfl (lv_at hl 4 rfl) ?_
      refine va_get (pc := 100) (D := D) (ci := 7) (v := .ref (lg 1)) (C := RX9) (T := TX9) (N := 11) hx hb hts iu9 hown hK hP 2 rfl rfl 0 (by decide) (hts _ tw_352) (fun _ h9 => h9) rfl dX9_seal_100 ?_
      refine cs_V (pc := 103) (idx := 88) (n := 0) (wr := [(wb 0, oW wb st lv cnt cm), (o 0, oO o), (lg 0, oG lg ya yb wa wb o v ct), (yb 0, oK yb ru ln)]) (As := []) (rest := []) (ci := 5) hx hb hml hown hts hGok hK hA hG hl.1 hP hD hS (ct_X6_clear ll D ta hGok (lg 1) (lg 2) 400 gta nta  H.size) tw_441 tw_447 tw_439 tw_440 tw_66 hdX6_clear rfl ⟨rfl, rfl, Nat.le_of_ble_eq_true rfl, Nat.le_of_ble_eq_true rfl, Nat.le_of_ble_eq_true rfl, Nat.le_of_ble_eq_true rfl⟩ rfl rfl (q0 := 4) rfl [4, 5] [0, 1, 2, 3] rfl rfl (by decide) rfl (Nat.le_of_ble_eq_true rfl) dX9_seal_103 (fun u H locs hq hP hD hS => ?_)
      refine W.eq (g2 := F0 mm 106 ls []) rfl ?_
      have hP : va_P D vwCl [(wb 0, oW wb st lv cnt cm), (o 0, oO o), (lg 0, oG lg ya yb wa wb o v ct), (yb 0, oK yb ru ln), (lg 1, oR (lg 2) 0), (lg 2, aZ ta 400 gta)] H := hP
      have hD : va_D A [(wb 0, oW wb st lv cnt cm), (o 0, oO o), (lg 0, oG lg ya yb wa wb o v ct), (yb 0, oK yb ru ln), (lg 1, oR (lg 2) 0), (lg 2, aZ ta 400 gta)] := hD
      refine lv_iload (pc := 106) hx hb dX9_seal_106 (lv_at hl 0 rfl) ?_
      refine lv_if_eq (pc := 108) (tgt := 116) hx hb dX9_seal_108 (by decide) (fun _ => ?_) (fun c_8 => absurd (by decide) c_8)
      refine lv_iconst (pc := 116) (v := (-1)) hx hb dX9_seal_116 (by decide +kernel) ?_
      refine q_top (y := (-1)) (by first | rfl | decide +kernel | (simp; done)) ?_
      have hq_9 : (((-1) : Int32) = -1) := by
        first | rfl | trivial | (refine ⟨?_, ?_⟩ <;> rfl) | (simp; done) | omega
      exact hret (-1) _ _ _ _ dX9_seal_117 hq_9 (hP.sub [2, 3, 0, 1, 4, 5] rfl) (hD.sub [2, 3, 0, 1, 4, 5] (by decide) rfl) hS
    · skip
      rw [q_le0 (by omega)] at c_6
      refine lv_aload (pc := 52) hx hb dX9_seal_52 (lv_at hl 1 rfl) ?_
      refine lv_iload (pc := 54) hx hb dX9_seal_54 (lv_at hl 0 rfl) ?_
      refine cs_U (pc := 56) (idx := 202) (n := 1) (wr := [(wb 0, oW wb st lv cnt cm), (lg 0, oG lg ya yb wa wb o v ct), (yb 0, oK yb ru ln), (lg 1, oR (lg 2) nta), (lg 2, aZ ta 400 gta)]) (As := [.int (nI nta)]) (rest := []) (ci := 4) (x := ⟨"LineGuard$Rule", "isBlocks", "(I)Z"⟩) (owner := "LineGuard$Rule") hx hb hml hown hts hGok hK hA hG hl.1 hP hD hS (ct_X7_isBlocks_O ll D ta gs o nta (by first | assumption | omega | rfl | decide) H.size) tw_597 tw_935 tw_596 tw_1458 tw_69 tw_1456 (va_Decl.of (hts _ tw_596) (hts _ tw_597)) ⟨by decide +kernel, by decide +kernel, by decide +kernel⟩ rfl ⟨rfl, rfl, Nat.le_of_ble_eq_true rfl, Nat.le_of_ble_eq_true rfl, Nat.le_of_ble_eq_true rfl, Nat.le_of_ble_eq_true rfl⟩ rfl (q0 := 1) rfl [1] [0, 2, 3, 4, 5] rfl rfl (by decide) rfl (Nat.le_of_ble_eq_true rfl) dX9_seal_56 (fun u H locs hq hP hD hS => ?_)
      generalize u = z_56 at hq hP hD ⊢
      have hq : (z_56 = decide (nta % 8 = 0)) := hq
      have hz_56 := hq
      refine W.eq (g2 := F0 mm 59 ls [.int (qb z_56)]) rfl ?_
      have hP : va_P D vwCl [(wb 0, oW wb st lv cnt cm), (lg 0, oG lg ya yb wa wb o v ct), (yb 0, oK yb ru ln), (lg 1, oR (lg 2) nta), (lg 2, aZ ta 400 gta), (o 0, oO o)] H := hP
      have hD : va_D A [(wb 0, oW wb st lv cnt cm), (lg 0, oG lg ya yb wa wb o v ct), (yb 0, oK yb ru ln), (lg 1, oR (lg 2) nta), (lg 2, aZ ta 400 gta), (o 0, oO o)] := hD
      refine lv_if_eq (pc := 59) (tgt := 66) hx hb dX9_seal_59 (by decide) (fun c_10 => ?_) (fun c_10 => ?_)
      · skip
        rw [q_beq] at c_10
        try rw [Bool.not_eq_false] at c_10
        have hzb := c_10
        refine lv_iconst (pc := 66) (v := nI 0) hx hb dX9_seal_66 (by decide +kernel) ?_
        refine lv_istore (pc := 67) (lv' := [(6, .int (nI 0)), (5, .int (nI nta)), (4, .ref (o 0)), (3, .ref (wb 0)), (0, .ref (lg 0)), (1, .int (nI 1)), (2, .int (qb β))]) hx hb dX9_seal_67 hl (by decide) rfl (fun ls hl => ?_)
        refine lv_iload (pc := 69) hx hb dX9_seal_69 (lv_at hl 0 rfl) ?_
        refine lv_if_eq (pc := 71) (tgt := 99) hx hb dX9_seal_71 (by decide) (fun _ => ?_) (fun c_11 => absurd (by decide) c_11)
        refine lv_aload_n (pc := 99) hx hb dX9_seal_99 rfl (lv_at hl 4 rfl) ?_
        refine va_get (pc := 100) (D := D) (ci := 7) (v := .ref (lg 1)) (C := RX9) (T := TX9) (N := 11) hx hb hts iu9 hown hK hP 1 rfl rfl 0 (by decide) (hts _ tw_352) (fun _ h9 => h9) rfl dX9_seal_100 ?_
        refine cs_V (pc := 103) (idx := 88) (n := 0) (wr := [(wb 0, oW wb st lv cnt cm), (lg 0, oG lg ya yb wa wb o v ct), (yb 0, oK yb ru ln), (o 0, oO o)]) (As := []) (rest := []) (ci := 5) hx hb hml hown hts hGok hK hA hG hl.1 hP hD hS (ct_X6_clear ll D ta hGok (lg 1) (lg 2) 400 gta nta  H.size) tw_441 tw_447 tw_439 tw_440 tw_66 hdX6_clear rfl ⟨rfl, rfl, Nat.le_of_ble_eq_true rfl, Nat.le_of_ble_eq_true rfl, Nat.le_of_ble_eq_true rfl, Nat.le_of_ble_eq_true rfl⟩ rfl rfl (q0 := 3) rfl [3, 4] [0, 1, 2, 5] rfl rfl (by decide) rfl (Nat.le_of_ble_eq_true rfl) dX9_seal_103 (fun u H locs hq hP hD hS => ?_)
        refine W.eq (g2 := F0 mm 106 ls []) rfl ?_
        have hP : va_P D vwCl [(wb 0, oW wb st lv cnt cm), (lg 0, oG lg ya yb wa wb o v ct), (yb 0, oK yb ru ln), (o 0, oO o), (lg 1, oR (lg 2) 0), (lg 2, aZ ta 400 gta)] H := hP
        have hD : va_D A [(wb 0, oW wb st lv cnt cm), (lg 0, oG lg ya yb wa wb o v ct), (yb 0, oK yb ru ln), (o 0, oO o), (lg 1, oR (lg 2) 0), (lg 2, aZ ta 400 gta)] := hD
        refine lv_iload (pc := 106) hx hb dX9_seal_106 (lv_at hl 0 rfl) ?_
        refine lv_if_eq (pc := 108) (tgt := 116) hx hb dX9_seal_108 (by decide) (fun _ => ?_) (fun c_12 => absurd (by decide) c_12)
        refine lv_iconst (pc := 116) (v := (-1)) hx hb dX9_seal_116 (by decide +kernel) ?_
        refine q_top (y := (-1)) (by first | rfl | decide +kernel | (simp; done)) ?_
        have hq_13 : (((-1) : Int32) = -1) := by
          first | rfl | trivial | (refine ⟨?_, ?_⟩ <;> rfl) | (simp; done) | omega
        exact hret (-1) _ _ _ _ dX9_seal_117 hq_13 (hP.sub [1, 2, 0, 3, 4, 5] rfl) (hD.sub [1, 2, 0, 3, 4, 5] (by decide) rfl) hS
      · skip
        rw [q_beq] at c_10
        try rw [Bool.not_eq_false] at c_10
        have hzb := c_10
        exact absurd ⟨by omega, by omega, of_decide_eq_true (hz_56.symm.trans hzb)⟩ hno
set_option maxHeartbeats 4000000 in
set_option maxRecDepth 100000 in
theorem ct_X9_seal_1_O (ll : Launch) (D : va_G) (ta : Nat → ClassId) (gs : Nat → Nat) (lg : Nat → Nat) (ya : Nat → Nat) (yb : Nat → Nat) (wa : Nat → Nat) (wb : Nat → Nat) (o : Nat → Nat) (v : Nat → Nat) (ct : Nat) (gta : Nat → BitVec 8) (nta : Nat) (gou : Nat → BitVec 8) (nou : Nat) (gz : Nat → BitVec 8) (tri : Bool) (gb : Nat → BitVec 8) (bf : Nat → BitVec 8) (f : Nat → Int64) (s : Nat → Int64) (spb : Nat → Int32) (ln : Nat) (gs9 : Nat → BitVec 8) (st : Nat) (lv : Nat) (cnt : Nat) (cm : Bool) (β : Bool) (hz : qL gz 16 = zeroL 16) (hsp : spbOK spb) (hta : 0 < nta ∧ nta ≤ 400 ∧ nta % 8 = 0) (hst : st ≤ 2 ∧ st ≠ 0) (sz : Nat) : CT ll yX9_seal cX9_seal 7 (some .int) ({ frames := 4, cells := 0, slots := 0, locals := 106 } : Room) D ta ((GC gs)) [.ref (lg 0), .int (nI 1), .int (qb β)] [(lg 0, oG lg ya yb wa wb o v ct), (yb 0, oK yb 2 ln), (wb 0, oW wb st lv cnt cm), (wb 7, oR (wb 8) 16), (wb 8, aZ ta 32 gs9), (lg 1, oR (lg 2) nta), (lg 2, aZ ta 400 gta), (lg 3, oR (lg 4) nou), (lg 4, aZ ta 400 gou), (o 0, oO o), (o 9, oR (o 10) 16), (o 10, aZ ta 16 gz), (o 11, oD (o 12) (o 13) (o 14) (o 15) (o 16) tri), (o 12, aZ ta 8 gb), (o 13, aZ ta 8 bf), (o 14, aI ta 512 spb), (o 15, aJ ta 16 f), (o 16, aJ ta 16 s)] sz (S := (Nat → BitVec 8) × Bool × (Nat → BitVec 8) × (Nat → BitVec 8) × (Nat → Int64) × (Nat → Int64)) (fun u => some (.int (nI nta))) (fun u => (qL u.1 nta = ecbL (tdesL (qL gs9 16) β) 8 (qL gta nta))) (fun u => [(lg 0, oG lg ya yb wa wb o v ct), (yb 0, oK yb 2 ln), (wb 0, oW wb st lv cnt cm), (wb 7, oR (wb 8) 16), (wb 8, aZ ta 32 gs9), (lg 1, oR (lg 2) 0), (lg 2, aZ ta 400 gta), (lg 3, oR (lg 4) nta), (lg 4, aZ ta 400 u.1), (o 0, oO o), (o 9, oR (o 10) 16), (o 10, aZ ta 16 gz), (o 11, oD (o 12) (o 13) (o 14) (o 15) (o 16) u.2.1), (o 12, aZ ta 8 u.2.2.1), (o 13, aZ ta 8 u.2.2.2.1), (o 14, aI ta 512 spb), (o 15, aJ ta 16 u.2.2.2.2.1), (o 16, aJ ta 16 u.2.2.2.2.2)]) 0 0 := by
  refine CT.of_i (r := fun u => nI nta) rfl (by decide) (Nat.le_of_ble_eq_true rfl) ?_
  have hGok := GC_ok gs
  intro pp ee ss mm below meth kc A Q hx hb hml hown hin hts hK hA hsz hG hret H locs hP hD hS ls hl
  have hl : lv_has ls 7 [(0, .ref (lg 0)), (1, .int (nI 1)), (2, .int (qb β))] := hl
  refine lv_aload_n (pc := 0) hx hb dX9_seal_0 rfl (lv_at hl 0 rfl) ?_
  refine lv_iload_n (pc := 1) hx hb dX9_seal_1 rfl (lv_at hl 1 rfl) ?_
  refine cs_V (pc := 2) (idx := 198) (n := 1) (wr := [(yb 0, oK yb 2 ln), (wb 0, oW wb st lv cnt cm), (wb 7, oR (wb 8) 16), (wb 8, aZ ta 32 gs9), (lg 1, oR (lg 2) nta), (lg 2, aZ ta 400 gta), (lg 3, oR (lg 4) nou), (lg 4, aZ ta 400 gou), (o 0, oO o), (o 9, oR (o 10) 16), (o 10, aZ ta 16 gz), (o 11, oD (o 12) (o 13) (o 14) (o 15) (o 16) tri), (o 12, aZ ta 8 gb), (o 13, aZ ta 8 bf), (o 14, aI ta 512 spb), (o 15, aJ ta 16 f), (o 16, aJ ta 16 s)]) (As := [.int (nI 1)]) (rest := []) (ci := 7) hx hb hml hown hts hGok hK hA hG hl.1 hP hD hS (ct_X9_sessionOf_1 ll D ta hGok lg ya yb wa wb o v ct  H.size) tw_934 tw_931 tw_933 tw_25 tw_65 hdX9_sessionOf rfl ⟨rfl, rfl, Nat.le_of_ble_eq_true rfl, Nat.le_of_ble_eq_true rfl, Nat.le_of_ble_eq_true rfl, Nat.le_of_ble_eq_true rfl⟩ rfl rfl (q0 := 0) rfl [0] [1, 2, 3, 4, 5, 6, 7, 8, 9, 10, 11, 12, 13, 14, 15, 16, 17] rfl rfl (by decide) rfl (Nat.le_of_ble_eq_true rfl) dX9_seal_2 (fun u H locs hq hP hD hS => ?_)
  refine W.eq (g2 := F0 mm 5 ls [.ref (wb 0)]) rfl ?_
  have hP : va_P D vwCl [(yb 0, oK yb 2 ln), (wb 0, oW wb st lv cnt cm), (wb 7, oR (wb 8) 16), (wb 8, aZ ta 32 gs9), (lg 1, oR (lg 2) nta), (lg 2, aZ ta 400 gta), (lg 3, oR (lg 4) nou), (lg 4, aZ ta 400 gou), (o 0, oO o), (o 9, oR (o 10) 16), (o 10, aZ ta 16 gz), (o 11, oD (o 12) (o 13) (o 14) (o 15) (o 16) tri), (o 12, aZ ta 8 gb), (o 13, aZ ta 8 bf), (o 14, aI ta 512 spb), (o 15, aJ ta 16 f), (o 16, aJ ta 16 s), (lg 0, oG lg ya yb wa wb o v ct)] H := hP
  have hD : va_D A [(yb 0, oK yb 2 ln), (wb 0, oW wb st lv cnt cm), (wb 7, oR (wb 8) 16), (wb 8, aZ ta 32 gs9), (lg 1, oR (lg 2) nta), (lg 2, aZ ta 400 gta), (lg 3, oR (lg 4) nou), (lg 4, aZ ta 400 gou), (o 0, oO o), (o 9, oR (o 10) 16), (o 10, aZ ta 16 gz), (o 11, oD (o 12) (o 13) (o 14) (o 15) (o 16) tri), (o 12, aZ ta 8 gb), (o 13, aZ ta 8 bf), (o 14, aI ta 512 spb), (o 15, aJ ta 16 f), (o 16, aJ ta 16 s), (lg 0, oG lg ya yb wa wb o v ct)] := hD
  refine lv_astore_n (pc := 5) (lv' := [(3, .ref (wb 0)), (0, .ref (lg 0)), (1, .int (nI 1)), (2, .int (qb β))]) hx hb dX9_seal_5 rfl hl (by decide) rfl (fun ls hl => ?_)
  refine lv_aload_n (pc := 6) hx hb dX9_seal_6 rfl (lv_at hl 1 rfl) ?_
  refine lv_iload_n (pc := 7) hx hb dX9_seal_7 rfl (lv_at hl 2 rfl) ?_
  refine lv_if_ne (pc := 8) (tgt := 18) hx hb dX9_seal_8 (by decide) (fun _ => ?_) (fun c_1 => absurd c_1 (by decide))
  refine lv_aload_n (pc := 18) hx hb dX9_seal_18 rfl (lv_at hl 1 rfl) ?_
  refine va_get (pc := 19) (D := D) (ci := 7) (v := .ref (yb 0)) (C := RX9) (T := TX9) (N := 11) hx hb hts iu9 hown hK hP 17 rfl rfl 5 (by decide) (hts _ tw_357) (fun _ h9 => h9) rfl dX9_seal_19 ?_
  refine cs_V (pc := 22) (idx := 109) (n := 1) (wr := [(wb 0, oW wb st lv cnt cm), (wb 7, oR (wb 8) 16), (wb 8, aZ ta 32 gs9), (lg 1, oR (lg 2) nta), (lg 2, aZ ta 400 gta), (lg 3, oR (lg 4) nou), (lg 4, aZ ta 400 gou), (o 0, oO o), (o 9, oR (o 10) 16), (o 10, aZ ta 16 gz), (o 11, oD (o 12) (o 13) (o 14) (o 15) (o 16) tri), (o 12, aZ ta 8 gb), (o 13, aZ ta 8 bf), (o 14, aI ta 512 spb), (o 15, aJ ta 16 f), (o 16, aJ ta 16 s)]) (As := [.ref (yb 0)]) (rest := []) (ci := 7) hx hb hml hown hts hGok hK hA hG hl.1 hP hD hS (ct_X9_ruleOf_2 ll D ta gs lg ya yb wa wb o v ct yb 2 ln (by first | assumption | omega | rfl | decide) H.size) tw_489 tw_486 tw_488 tw_2 tw_65 hdX9_ruleOf rfl ⟨rfl, rfl, Nat.le_of_ble_eq_true rfl, Nat.le_of_ble_eq_true rfl, Nat.le_of_ble_eq_true rfl, Nat.le_of_ble_eq_true rfl⟩ rfl rfl (q0 := 17) rfl [17, 0] [1, 2, 3, 4, 5, 6, 7, 8, 9, 10, 11, 12, 13, 14, 15, 16] rfl rfl (by decide) rfl (Nat.le_of_ble_eq_true rfl) dX9_seal_22 (fun u H locs hq hP hD hS => ?_)
  refine W.eq (g2 := F0 mm 25 ls [.ref (o 0)]) rfl ?_
  have hP : va_P D vwCl [(wb 0, oW wb st lv cnt cm), (wb 7, oR (wb 8) 16), (wb 8, aZ ta 32 gs9), (lg 1, oR (lg 2) nta), (lg 2, aZ ta 400 gta), (lg 3, oR (lg 4) nou), (lg 4, aZ ta 400 gou), (o 0, oO o), (o 9, oR (o 10) 16), (o 10, aZ ta 16 gz), (o 11, oD (o 12) (o 13) (o 14) (o 15) (o 16) tri), (o 12, aZ ta 8 gb), (o 13, aZ ta 8 bf), (o 14, aI ta 512 spb), (o 15, aJ ta 16 f), (o 16, aJ ta 16 s), (lg 0, oG lg ya yb wa wb o v ct), (yb 0, oK yb 2 ln)] H := hP
  have hD : va_D A [(wb 0, oW wb st lv cnt cm), (wb 7, oR (wb 8) 16), (wb 8, aZ ta 32 gs9), (lg 1, oR (lg 2) nta), (lg 2, aZ ta 400 gta), (lg 3, oR (lg 4) nou), (lg 4, aZ ta 400 gou), (o 0, oO o), (o 9, oR (o 10) 16), (o 10, aZ ta 16 gz), (o 11, oD (o 12) (o 13) (o 14) (o 15) (o 16) tri), (o 12, aZ ta 8 gb), (o 13, aZ ta 8 bf), (o 14, aI ta 512 spb), (o 15, aJ ta 16 f), (o 16, aJ ta 16 s), (lg 0, oG lg ya yb wa wb o v ct), (yb 0, oK yb 2 ln)] := hD
  refine lv_astore (pc := 25) (lv' := [(4, .ref (o 0)), (3, .ref (wb 0)), (0, .ref (lg 0)), (1, .int (nI 1)), (2, .int (qb β))]) hx hb dX9_seal_25 hl (by decide) rfl (fun ls hl => ?_)
  refine lv_aload_n (pc := 27) hx hb dX9_seal_27 rfl (lv_at hl 2 rfl) ?_
  refine va_get (pc := 28) (D := D) (ci := 7) (v := .ref (lg 1)) (C := RX9) (T := TX9) (N := 11) hx hb hts iu9 hown hK hP 16 rfl rfl 0 (by decide) (hts _ tw_352) (fun _ h9 => h9) rfl dX9_seal_28 ?_
  refine cs_V (pc := 31) (idx := 64) (n := 0) (wr := [(wb 0, oW wb st lv cnt cm), (wb 7, oR (wb 8) 16), (wb 8, aZ ta 32 gs9), (lg 3, oR (lg 4) nou), (lg 4, aZ ta 400 gou), (o 0, oO o), (o 9, oR (o 10) 16), (o 10, aZ ta 16 gz), (o 11, oD (o 12) (o 13) (o 14) (o 15) (o 16) tri), (o 12, aZ ta 8 gb), (o 13, aZ ta 8 bf), (o 14, aI ta 512 spb), (o 15, aJ ta 16 f), (o 16, aJ ta 16 s), (lg 0, oG lg ya yb wa wb o v ct), (yb 0, oK yb 2 ln)]) (As := []) (rest := []) (ci := 5) hx hb hml hown hts hGok hK hA hG hl.1 hP hD hS (ct_X6_size ll D ta hGok (lg 1) (lg 2) 400 gta nta  H.size) tw_393 tw_390 tw_391 tw_392 tw_66 hdX6_size rfl ⟨rfl, rfl, Nat.le_of_ble_eq_true rfl, Nat.le_of_ble_eq_true rfl, Nat.le_of_ble_eq_true rfl, Nat.le_of_ble_eq_true rfl⟩ rfl rfl (q0 := 3) rfl [3, 4] [0, 1, 2, 5, 6, 7, 8, 9, 10, 11, 12, 13, 14, 15, 16, 17] rfl rfl (by decide) rfl (Nat.le_of_ble_eq_true rfl) dX9_seal_31 (fun u H locs hq hP hD hS => ?_)
  refine W.eq (g2 := F0 mm 34 ls [.int (nI nta)]) rfl ?_
  have hP : va_P D vwCl [(wb 0, oW wb st lv cnt cm), (wb 7, oR (wb 8) 16), (wb 8, aZ ta 32 gs9), (lg 3, oR (lg 4) nou), (lg 4, aZ ta 400 gou), (o 0, oO o), (o 9, oR (o 10) 16), (o 10, aZ ta 16 gz), (o 11, oD (o 12) (o 13) (o 14) (o 15) (o 16) tri), (o 12, aZ ta 8 gb), (o 13, aZ ta 8 bf), (o 14, aI ta 512 spb), (o 15, aJ ta 16 f), (o 16, aJ ta 16 s), (lg 0, oG lg ya yb wa wb o v ct), (yb 0, oK yb 2 ln), (lg 1, oR (lg 2) nta), (lg 2, aZ ta 400 gta)] H := hP
  have hD : va_D A [(wb 0, oW wb st lv cnt cm), (wb 7, oR (wb 8) 16), (wb 8, aZ ta 32 gs9), (lg 3, oR (lg 4) nou), (lg 4, aZ ta 400 gou), (o 0, oO o), (o 9, oR (o 10) 16), (o 10, aZ ta 16 gz), (o 11, oD (o 12) (o 13) (o 14) (o 15) (o 16) tri), (o 12, aZ ta 8 gb), (o 13, aZ ta 8 bf), (o 14, aI ta 512 spb), (o 15, aJ ta 16 f), (o 16, aJ ta 16 s), (lg 0, oG lg ya yb wa wb o v ct), (yb 0, oK yb 2 ln), (lg 1, oR (lg 2) nta), (lg 2, aZ ta 400 gta)] := hD
  refine lv_istore (pc := 34) (lv' := [(5, .int (nI nta)), (4, .ref (o 0)), (3, .ref (wb 0)), (0, .ref (lg 0)), (1, .int (nI 1)), (2, .int (qb β))]) hx hb dX9_seal_34 hl (by decide) rfl (fun ls hl => ?_)
  refine lv_aload_n (pc := 36) hx hb dX9_seal_36 rfl (lv_at hl 2 rfl) ?_
  refine lv_ifnull (pc := 37) hx hb dX9_seal_37 ?_
  refine lv_aload_n (pc := 40) hx hb dX9_seal_40 rfl (lv_at hl 2 rfl) ?_
  refine va_getN (pc := 41) (D := D) (ci := 6) (v := .int (nI st)) (C := RX8) (T := TX8) (N := 14) hx hb hts iu8 hown hK hP 0 rfl rfl 0 (by decide) (va_Nw.use rfl (GC_w140 hG)) (fun _ h9 => h9) rfl dX9_seal_41 ?_
  refine lv_if_eq (pc := 44) (tgt := 66) hx hb dX9_seal_44 (by decide) (fun c_2 => ?_) (fun c_2 => ?_)
  · skip
    rw [q_eq0 (by omega)] at c_2
    exfalso; omega
  · skip
    rw [q_eq0 (by omega)] at c_2
    refine lv_iload (pc := 47) hx hb dX9_seal_47 (lv_at hl 0 rfl) ?_
    refine lv_if_le (pc := 49) (tgt := 66) hx hb dX9_seal_49 (by decide) (fun c_3 => ?_) (fun c_3 => ?_)
    · skip
      rw [q_le0 (by omega)] at c_3
      exfalso; omega
    · skip
      rw [q_le0 (by omega)] at c_3
      refine lv_aload (pc := 52) hx hb dX9_seal_52 (lv_at hl 1 rfl) ?_
      refine lv_iload (pc := 54) hx hb dX9_seal_54 (lv_at hl 0 rfl) ?_
      refine cs_U (pc := 56) (idx := 202) (n := 1) (wr := [(wb 0, oW wb st lv cnt cm), (wb 7, oR (wb 8) 16), (wb 8, aZ ta 32 gs9), (lg 3, oR (lg 4) nou), (lg 4, aZ ta 400 gou), (o 9, oR (o 10) 16), (o 10, aZ ta 16 gz), (o 11, oD (o 12) (o 13) (o 14) (o 15) (o 16) tri), (o 12, aZ ta 8 gb), (o 13, aZ ta 8 bf), (o 14, aI ta 512 spb), (o 15, aJ ta 16 f), (o 16, aJ ta 16 s), (lg 0, oG lg ya yb wa wb o v ct), (yb 0, oK yb 2 ln), (lg 1, oR (lg 2) nta), (lg 2, aZ ta 400 gta)]) (As := [.int (nI nta)]) (rest := []) (ci := 4) (x := ⟨"LineGuard$Rule", "isBlocks", "(I)Z"⟩) (owner := "LineGuard$Rule") hx hb hml hown hts hGok hK hA hG hl.1 hP hD hS (ct_X7_isBlocks_O ll D ta gs o nta (by first | assumption | omega | rfl | decide) H.size) tw_597 tw_935 tw_596 tw_1458 tw_69 tw_1456 (va_Decl.of (hts _ tw_596) (hts _ tw_597)) ⟨by decide +kernel, by decide +kernel, by decide +kernel⟩ rfl ⟨rfl, rfl, Nat.le_of_ble_eq_true rfl, Nat.le_of_ble_eq_true rfl, Nat.le_of_ble_eq_true rfl, Nat.le_of_ble_eq_true rfl⟩ rfl (q0 := 5) rfl [5] [0, 1, 2, 3, 4, 6, 7, 8, 9, 10, 11, 12, 13, 14, 15, 16, 17] rfl rfl (by decide) rfl (Nat.le_of_ble_eq_true rfl) dX9_seal_56 (fun u H locs hq hP hD hS => ?_)
      generalize u = z_56 at hq hP hD ⊢
      have hq : (z_56 = decide (nta % 8 = 0)) := hq
      have hz_56 := hq
      refine W.eq (g2 := F0 mm 59 ls [.int (qb z_56)]) rfl ?_
      have hP : va_P D vwCl [(wb 0, oW wb st lv cnt cm), (wb 7, oR (wb 8) 16), (wb 8, aZ ta 32 gs9), (lg 3, oR (lg 4) nou), (lg 4, aZ ta 400 gou), (o 9, oR (o 10) 16), (o 10, aZ ta 16 gz), (o 11, oD (o 12) (o 13) (o 14) (o 15) (o 16) tri), (o 12, aZ ta 8 gb), (o 13, aZ ta 8 bf), (o 14, aI ta 512 spb), (o 15, aJ ta 16 f), (o 16, aJ ta 16 s), (lg 0, oG lg ya yb wa wb o v ct), (yb 0, oK yb 2 ln), (lg 1, oR (lg 2) nta), (lg 2, aZ ta 400 gta), (o 0, oO o)] H := hP
      have hD : va_D A [(wb 0, oW wb st lv cnt cm), (wb 7, oR (wb 8) 16), (wb 8, aZ ta 32 gs9), (lg 3, oR (lg 4) nou), (lg 4, aZ ta 400 gou), (o 9, oR (o 10) 16), (o 10, aZ ta 16 gz), (o 11, oD (o 12) (o 13) (o 14) (o 15) (o 16) tri), (o 12, aZ ta 8 gb), (o 13, aZ ta 8 bf), (o 14, aI ta 512 spb), (o 15, aJ ta 16 f), (o 16, aJ ta 16 s), (lg 0, oG lg ya yb wa wb o v ct), (yb 0, oK yb 2 ln), (lg 1, oR (lg 2) nta), (lg 2, aZ ta 400 gta), (o 0, oO o)] := hD
      refine lv_if_eq (pc := 59) (tgt := 66) hx hb dX9_seal_59 (by decide) (fun c_4 => ?_) (fun c_4 => ?_)
      · skip
        rw [q_beq] at c_4
        try rw [Bool.not_eq_false] at c_4
        rw [hz_56, decide_eq_true (by omega)] at c_4; cases c_4
      · skip
        rw [q_beq] at c_4
        try rw [Bool.not_eq_false] at c_4
        refine lv_iconst (pc := 62) (v := nI 1) hx hb dX9_seal_62 (by decide +kernel) ?_
        refine lv_goto (pc := 63) (tgt := 67) hx hb dX9_seal_63 (by decide) ?_
        refine lv_istore (pc := 67) (lv' := [(6, .int (nI 1)), (5, .int (nI nta)), (4, .ref (o 0)), (3, .ref (wb 0)), (0, .ref (lg 0)), (1, .int (nI 1)), (2, .int (qb β))]) hx hb dX9_seal_67 hl (by decide) rfl (fun ls hl => ?_)
        refine lv_iload (pc := 69) hx hb dX9_seal_69 (lv_at hl 0 rfl) ?_
        refine lv_if_eq (pc := 71) (tgt := 99) hx hb dX9_seal_71 (by decide) (fun c_5 => absurd c_5 (by decide)) (fun _ => ?_)
        refine lv_aload_n (pc := 74) hx hb dX9_seal_74 rfl (lv_at hl 4 rfl) ?_
        refine va_get (pc := 75) (D := D) (ci := 7) (v := .ref (lg 3)) (C := RX9) (T := TX9) (N := 11) hx hb hts iu9 hown hK hP 13 rfl rfl 1 (by decide) (hts _ tw_353) (fun _ h9 => h9) rfl dX9_seal_75 ?_
        refine lv_aload_n (pc := 78) hx hb dX9_seal_78 rfl (lv_at hl 4 rfl) ?_
        refine va_get (pc := 79) (D := D) (ci := 7) (v := .ref (lg 1)) (C := RX9) (T := TX9) (N := 11) hx hb hts iu9 hown hK hP 13 rfl rfl 0 (by decide) (hts _ tw_352) (fun _ h9 => h9) rfl dX9_seal_79 ?_
        refine cs_V (pc := 82) (idx := 84) (n := 1) (wr := [(wb 0, oW wb st lv cnt cm), (wb 7, oR (wb 8) 16), (wb 8, aZ ta 32 gs9), (o 9, oR (o 10) 16), (o 10, aZ ta 16 gz), (o 11, oD (o 12) (o 13) (o 14) (o 15) (o 16) tri), (o 12, aZ ta 8 gb), (o 13, aZ ta 8 bf), (o 14, aI ta 512 spb), (o 15, aJ ta 16 f), (o 16, aJ ta 16 s), (lg 0, oG lg ya yb wa wb o v ct), (yb 0, oK yb 2 ln), (o 0, oO o)]) (As := [.ref (lg 1)]) (rest := []) (ci := 5) hx hb hml hown hts hGok hK hA hG hl.1 hP hD hS (ct_X6_copy ll D ta hGok (lg 3) (lg 4) 400 gou nou (lg 1) (lg 2) 400 gta nta (by first | assumption | omega | rfl | decide) (by first | assumption | omega | rfl | decide) (by first | assumption | omega | rfl | decide) (by first | assumption | omega | rfl | decide) H.size) tw_437 tw_434 tw_435 tw_436 tw_66 hdX6_copy rfl ⟨rfl, rfl, Nat.le_of_ble_eq_true rfl, Nat.le_of_ble_eq_true rfl, Nat.le_of_ble_eq_true rfl, Nat.le_of_ble_eq_true rfl⟩ rfl rfl (q0 := 3) rfl [3, 4, 15, 16] [0, 1, 2, 5, 6, 7, 8, 9, 10, 11, 12, 13, 14, 17] rfl rfl (by decide) rfl (Nat.le_of_ble_eq_true rfl) dX9_seal_82 (fun u H locs hq hP hD hS => ?_)
        generalize u = g1_82 at hq hP hD ⊢
        have hq : (qL g1_82 nta = qL gta nta) := hq
        have hL_82 := hq
        refine W.eq (g2 := F0 mm 85 ls []) rfl ?_
        have hP : va_P D vwCl [(wb 0, oW wb st lv cnt cm), (wb 7, oR (wb 8) 16), (wb 8, aZ ta 32 gs9), (o 9, oR (o 10) 16), (o 10, aZ ta 16 gz), (o 11, oD (o 12) (o 13) (o 14) (o 15) (o 16) tri), (o 12, aZ ta 8 gb), (o 13, aZ ta 8 bf), (o 14, aI ta 512 spb), (o 15, aJ ta 16 f), (o 16, aJ ta 16 s), (lg 0, oG lg ya yb wa wb o v ct), (yb 0, oK yb 2 ln), (o 0, oO o), (lg 3, oR (lg 4) nta), (lg 4, aZ ta 400 g1_82), (lg 1, oR (lg 2) nta), (lg 2, aZ ta 400 gta)] H := hP
        have hD : va_D A [(wb 0, oW wb st lv cnt cm), (wb 7, oR (wb 8) 16), (wb 8, aZ ta 32 gs9), (o 9, oR (o 10) 16), (o 10, aZ ta 16 gz), (o 11, oD (o 12) (o 13) (o 14) (o 15) (o 16) tri), (o 12, aZ ta 8 gb), (o 13, aZ ta 8 bf), (o 14, aI ta 512 spb), (o 15, aJ ta 16 f), (o 16, aJ ta 16 s), (lg 0, oG lg ya yb wa wb o v ct), (yb 0, oK yb 2 ln), (o 0, oO o), (lg 3, oR (lg 4) nta), (lg 4, aZ ta 400 g1_82), (lg 1, oR (lg 2) nta), (lg 2, aZ ta 400 gta)] := hD
        refine lv_aload (pc := 85) hx hb dX9_seal_85 (lv_at hl 2 rfl) ?_
        refine lv_aload_n (pc := 87) hx hb dX9_seal_87 rfl (lv_at hl 3 rfl) ?_
        refine va_getN (pc := 88) (D := D) (ci := 6) (v := .ref (wb 7)) (C := RX8) (T := TX8) (N := 14) hx hb hts iu8 hown hK hP 0 rfl rfl 5 (by decide) (va_Nw.use rfl (GC_w156 hG)) (fun _ h9 => h9) rfl dX9_seal_88 ?_
        refine lv_aload_n (pc := 91) hx hb dX9_seal_91 rfl (lv_at hl 4 rfl) ?_
        refine va_get (pc := 92) (D := D) (ci := 7) (v := .ref (lg 3)) (C := RX9) (T := TX9) (N := 11) hx hb hts iu9 hown hK hP 11 rfl rfl 1 (by decide) (hts _ tw_353) (fun _ h9 => h9) rfl dX9_seal_92 ?_
        refine lv_iload_n (pc := 95) hx hb dX9_seal_95 rfl (lv_at hl 6 rfl) ?_
        refine cs_U (pc := 96) (idx := 208) (n := 3) (wr := [(wb 0, oW wb st lv cnt cm), (lg 0, oG lg ya yb wa wb o v ct), (yb 0, oK yb 2 ln), (lg 1, oR (lg 2) nta), (lg 2, aZ ta 400 gta)]) (As := [.ref (wb 7), .ref (lg 3), .int (qb β)]) (rest := []) (ci := 4) (x := ⟨"LineGuard$Rule", "sealWith", "(LLineGuard$Row;LLineGuard$Row;Z)V"⟩) (owner := "LineGuard$Rule") hx hb hml hown hts hGok hK hA hG hl.1 hP hD hS (ct_X5_sealWith ll D ta gs o gz tri gb bf f s spb (wb 7) (wb 8) 32 gs9 (lg 3) (lg 4) 400 g1_82 nta β (by first | assumption | omega | rfl | decide) (by first | assumption | omega | rfl | decide) (by first | assumption | omega | rfl | decide) (by first | assumption | omega | rfl | decide) H.size) tw_944 tw_936 tw_943 tw_942 tw_70 tw_938 (va_Decl.abs (GC_w937 hG)) ⟨by decide +kernel, by decide +kernel, by decide +kernel⟩ rfl ⟨rfl, rfl, Nat.le_of_ble_eq_true rfl, Nat.le_of_ble_eq_true rfl, Nat.le_of_ble_eq_true rfl, Nat.le_of_ble_eq_true rfl⟩ rfl (q0 := 13) rfl [13, 3, 4, 5, 6, 7, 8, 9, 10, 1, 2, 14, 15] [0, 11, 12, 16, 17] rfl rfl (by decide) rfl (Nat.le_of_ble_eq_true rfl) dX9_seal_96 (fun u H locs hq hP hD hS => ?_)
        obtain ⟨gou1_96, tri1_96, gb1_96, bf1_96, f1_96, s1_96⟩ := u
        have hq : (qL gou1_96 nta = ecbL (tdesL (qL gs9 16) β) 8 (qL g1_82 nta)) := hq
        have hL_96 := hq
        refine W.eq (g2 := F0 mm 99 ls []) rfl ?_
        have hP : va_P D vwCl [(wb 0, oW wb st lv cnt cm), (lg 0, oG lg ya yb wa wb o v ct), (yb 0, oK yb 2 ln), (lg 1, oR (lg 2) nta), (lg 2, aZ ta 400 gta), (o 0, oO o), (o 9, oR (o 10) 16), (o 10, aZ ta 16 gz), (o 11, oD (o 12) (o 13) (o 14) (o 15) (o 16) tri1_96), (o 12, aZ ta 8 gb1_96), (o 13, aZ ta 8 bf1_96), (o 14, aI ta 512 spb), (o 15, aJ ta 16 f1_96), (o 16, aJ ta 16 s1_96), (wb 7, oR (wb 8) 16), (wb 8, aZ ta 32 gs9), (lg 3, oR (lg 4) nta), (lg 4, aZ ta 400 gou1_96)] H := hP
        have hD : va_D A [(wb 0, oW wb st lv cnt cm), (lg 0, oG lg ya yb wa wb o v ct), (yb 0, oK yb 2 ln), (lg 1, oR (lg 2) nta), (lg 2, aZ ta 400 gta), (o 0, oO o), (o 9, oR (o 10) 16), (o 10, aZ ta 16 gz), (o 11, oD (o 12) (o 13) (o 14) (o 15) (o 16) tri1_96), (o 12, aZ ta 8 gb1_96), (o 13, aZ ta 8 bf1_96), (o 14, aI ta 512 spb), (o 15, aJ ta 16 f1_96), (o 16, aJ ta 16 s1_96), (wb 7, oR (wb 8) 16), (wb 8, aZ ta 32 gs9), (lg 3, oR (lg 4) nta), (lg 4, aZ ta 400 gou1_96)] := hD
        refine lv_aload_n (pc := 99) hx hb dX9_seal_99 rfl (lv_at hl 4 rfl) ?_
        refine va_get (pc := 100) (D := D) (ci := 7) (v := .ref (lg 1)) (C := RX9) (T := TX9) (N := 11) hx hb hts iu9 hown hK hP 1 rfl rfl 0 (by decide) (hts _ tw_352) (fun _ h9 => h9) rfl dX9_seal_100 ?_
        refine cs_V (pc := 103) (idx := 88) (n := 0) (wr := [(wb 0, oW wb st lv cnt cm), (lg 0, oG lg ya yb wa wb o v ct), (yb 0, oK yb 2 ln), (o 0, oO o), (o 9, oR (o 10) 16), (o 10, aZ ta 16 gz), (o 11, oD (o 12) (o 13) (o 14) (o 15) (o 16) tri1_96), (o 12, aZ ta 8 gb1_96), (o 13, aZ ta 8 bf1_96), (o 14, aI ta 512 spb), (o 15, aJ ta 16 f1_96), (o 16, aJ ta 16 s1_96), (wb 7, oR (wb 8) 16), (wb 8, aZ ta 32 gs9), (lg 3, oR (lg 4) nta), (lg 4, aZ ta 400 gou1_96)]) (As := []) (rest := []) (ci := 5) hx hb hml hown hts hGok hK hA hG hl.1 hP hD hS (ct_X6_clear ll D ta hGok (lg 1) (lg 2) 400 gta nta  H.size) tw_441 tw_447 tw_439 tw_440 tw_66 hdX6_clear rfl ⟨rfl, rfl, Nat.le_of_ble_eq_true rfl, Nat.le_of_ble_eq_true rfl, Nat.le_of_ble_eq_true rfl, Nat.le_of_ble_eq_true rfl⟩ rfl rfl (q0 := 3) rfl [3, 4] [0, 1, 2, 5, 6, 7, 8, 9, 10, 11, 12, 13, 14, 15, 16, 17] rfl rfl (by decide) rfl (Nat.le_of_ble_eq_true rfl) dX9_seal_103 (fun u H locs hq hP hD hS => ?_)
        refine W.eq (g2 := F0 mm 106 ls []) rfl ?_
        have hP : va_P D vwCl [(wb 0, oW wb st lv cnt cm), (lg 0, oG lg ya yb wa wb o v ct), (yb 0, oK yb 2 ln), (o 0, oO o), (o 9, oR (o 10) 16), (o 10, aZ ta 16 gz), (o 11, oD (o 12) (o 13) (o 14) (o 15) (o 16) tri1_96), (o 12, aZ ta 8 gb1_96), (o 13, aZ ta 8 bf1_96), (o 14, aI ta 512 spb), (o 15, aJ ta 16 f1_96), (o 16, aJ ta 16 s1_96), (wb 7, oR (wb 8) 16), (wb 8, aZ ta 32 gs9), (lg 3, oR (lg 4) nta), (lg 4, aZ ta 400 gou1_96), (lg 1, oR (lg 2) 0), (lg 2, aZ ta 400 gta)] H := hP
        have hD : va_D A [(wb 0, oW wb st lv cnt cm), (lg 0, oG lg ya yb wa wb o v ct), (yb 0, oK yb 2 ln), (o 0, oO o), (o 9, oR (o 10) 16), (o 10, aZ ta 16 gz), (o 11, oD (o 12) (o 13) (o 14) (o 15) (o 16) tri1_96), (o 12, aZ ta 8 gb1_96), (o 13, aZ ta 8 bf1_96), (o 14, aI ta 512 spb), (o 15, aJ ta 16 f1_96), (o 16, aJ ta 16 s1_96), (wb 7, oR (wb 8) 16), (wb 8, aZ ta 32 gs9), (lg 3, oR (lg 4) nta), (lg 4, aZ ta 400 gou1_96), (lg 1, oR (lg 2) 0), (lg 2, aZ ta 400 gta)] := hD
        refine lv_iload (pc := 106) hx hb dX9_seal_106 (lv_at hl 0 rfl) ?_
        refine lv_if_eq (pc := 108) (tgt := 116) hx hb dX9_seal_108 (by decide) (fun c_6 => absurd c_6 (by decide)) (fun _ => ?_)
        refine lv_iload (pc := 111) hx hb dX9_seal_111 (lv_at hl 1 rfl) ?_
        refine lv_goto (pc := 113) (tgt := 117) hx hb dX9_seal_113 (by decide) ?_
        have hq_7 : (qL gou1_96 nta = ecbL (tdesL (qL gs9 16) β) 8 (qL gta nta)) := by
          rw [hL_96, hL_82]
        exact hret (⟨(gou1_96), (tri1_96), (gb1_96), (bf1_96), (f1_96), (s1_96)⟩ : (Nat → BitVec 8) × Bool × (Nat → BitVec 8) × (Nat → BitVec 8) × (Nat → Int64) × (Nat → Int64)) _ _ _ _ dX9_seal_117 hq_7 (hP.sub [1, 2, 0, 12, 13, 16, 17, 14, 15, 3, 4, 5, 6, 7, 8, 9, 10, 11] rfl) (hD.sub [1, 2, 0, 12, 13, 16, 17, 14, 15, 3, 4, 5, 6, 7, 8, 9, 10, 11] (by decide) rfl) hS
