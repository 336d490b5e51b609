theorem hdX8_begin : yX8_begin.cls ≠ "java/lang/invoke/MethodHandle" ∧ yX8_begin.cls ≠ "java/lang/invoke/VarHandle" ∧ (parseMethodDescriptor yX8_begin.desc).map (fun d => d.parameters.length) = some 0 := ⟨by decide +kernel, by decide +kernel, by decide +kernel⟩
theorem dX8_begin_0 : decode cX8_begin 0 = .ok (.aload_n 0, 1) := by decide +kernel
theorem dX8_begin_1 : decode cX8_begin 1 = .ok (.iconst 1, 1) := by decide +kernel
theorem dX8_begin_2 : decode cX8_begin 2 = .ok (.putfield 9, 3) := by decide +kernel
theorem dX8_begin_5 : decode cX8_begin 5 = .ok (.aload_n 0, 1) := by decide +kernel
theorem dX8_begin_6 : decode cX8_begin 6 = .ok (.iconst 0, 1) := by decide +kernel
theorem dX8_begin_7 : decode cX8_begin 7 = .ok (.putfield 15, 3) := by decide +kernel
theorem dX8_begin_10 : decode cX8_begin 10 = .ok (.aload_n 0, 1) := by decide +kernel
theorem dX8_begin_11 : decode cX8_begin 11 = .ok (.iconst 0, 1) := by decide +kernel
theorem dX8_begin_12 : decode cX8_begin 12 = .ok (.putfield 54, 3) := by decide +kernel
theorem dX8_begin_15 : decode cX8_begin 15 = .ok (.aload_n 0, 1) := by decide +kernel
theorem dX8_begin_16 : decode cX8_begin 16 = .ok (.iconst 0, 1) := by decide +kernel
theorem dX8_begin_17 : decode cX8_begin 17 = .ok (.putfield 57, 3) := by decide +kernel
theorem dX8_begin_20 : decode cX8_begin 20 = .ok (.aload_n 0, 1) := by decide +kernel
theorem dX8_begin_21 : decode cX8_begin 21 = .ok (.getfield 45, 3) := by decide +kernel
theorem dX8_begin_24 : decode cX8_begin 24 = .ok (.invokevirtual 61, 3) := by decide +kernel
theorem dX8_begin_27 : decode cX8_begin 27 = .ok (.aload_n 0, 1) := by decide +kernel
theorem dX8_begin_28 : decode cX8_begin 28 = .ok (.getfield 45, 3) := by decide +kernel
theorem dX8_begin_31 : decode cX8_begin 31 = .ok (.bipush 16, 2) := by decide +kernel
theorem dX8_begin_33 : decode cX8_begin 33 = .ok (.invokevirtual 64, 3) := by decide +kernel
theorem dX8_begin_36 : decode cX8_begin 36 = .ok (.return_, 1) := by decide +kernel
set_option maxHeartbeats 4000000 in
set_option maxRecDepth 100000 in
theorem ct_X8_begin (ll : Launch) (D : va_G) (ta : Nat → ClassId) (gs : Nat → Nat) (w : Nat → Nat) (st : Nat) (lv : Nat) (cnt : Nat) (cm : Bool) (gh : Nat → BitVec 8) (nh : Nat)  (sz : Nat) : CT ll yX8_begin cX8_begin 1 none ({ frames := 2, cells := 0, slots := 0, locals := 43 } : Room) D ta ((GC gs)) [.ref (w 0)] [(w 0, oW w st lv cnt cm), (w 15, oR (w 16) nh), (w 16, aZ ta 16 gh)] sz (S := (Nat → BitVec 8)) (fun _ => none) (fun u => (qL u 16 = zeroL 16)) (fun u => [(w 0, oW w 1 0 0 false), (w 15, oR (w 16) 16), (w 16, aZ ta 16 u)]) 0 0 := by
  refine CT.of_v rfl (by decide) (Nat.le_of_ble_eq_true rfl) ?_
  have hGok := GC_ok gs
  intro pp ee ss mm below meth kc A Q hx hb hml hown hin hts hK hA hsz hG hret H locs hP hD hS ls hl
  have hl : lv_has ls 1 [(0, .ref (w 0))] := hl
  refine lv_aload_n (pc := 0) hx hb dX8_begin_0 rfl (lv_at hl 0 rfl) ?_
  refine lv_iconst (pc := 1) (v := nI 1) hx hb dX8_begin_1 (by decide +kernel) ?_
  refine va_put (pc := 2) (D := D) (ci := 6) (v := .int (nI 1)) (ty := .int) (C := RX8) (T := TX8) (N := 14) hx hb hts iu8 tyX8 tyX8_ok nmX8 hown hK hP hD hS 0 rfl rfl 0 (by decide) (hts _ tw_139) (fun _ h9 => h9) rfl (by decide +kernel) rfl rfl (Nat.le_of_ble_eq_true rfl) dX8_begin_2 (fun H locs hP hD hS => ?_)
  have hP : va_P D vwCl [(w 0, oW w 1 lv cnt cm), (w 15, oR (w 16) nh), (w 16, aZ ta 16 gh)] H := hP
  have hD : va_D A [(w 0, oW w 1 lv cnt cm), (w 15, oR (w 16) nh), (w 16, aZ ta 16 gh)] := hD
  refine lv_aload_n (pc := 5) hx hb dX8_begin_5 rfl (lv_at hl 0 rfl) ?_
  refine lv_iconst (pc := 6) (v := nI 0) hx hb dX8_begin_6 (by decide +kernel) ?_
  refine va_put (pc := 7) (D := D) (ci := 6) (v := .int (nI 0)) (ty := .int) (C := RX8) (T := TX8) (N := 14) hx hb hts iu8 tyX8 tyX8_ok nmX8 hown hK hP hD hS 0 rfl rfl 1 (by decide) (hts _ tw_141) (fun _ h9 => h9) rfl (by decide +kernel) rfl rfl (Nat.le_of_ble_eq_true rfl) dX8_begin_7 (fun H locs hP hD hS => ?_)
  have hP : va_P D vwCl [(w 0, oW w 1 0 cnt cm), (w 15, oR (w 16) nh), (w 16, aZ ta 16 gh)] H := hP
  have hD : va_D A [(w 0, oW w 1 0 cnt cm), (w 15, oR (w 16) nh), (w 16, aZ ta 16 gh)] := hD
  refine lv_aload_n (pc := 10) hx hb dX8_begin_10 rfl (lv_at hl 0 rfl) ?_
  refine lv_iconst (pc := 11) (v := nI 0) hx hb dX8_begin_11 (by decide +kernel) ?_
  refine va_put (pc := 12) (D := D) (ci := 6) (v := .int (nI 0)) (ty := .int) (C := RX8) (T := TX8) (N := 14) hx hb hts iu8 tyX8 tyX8_ok nmX8 hown hK hP hD hS 0 rfl rfl 12 (by decide) (hts _ tw_178) (fun _ h9 => h9) rfl (by decide +kernel) rfl rfl (Nat.le_of_ble_eq_true rfl) dX8_begin_12 (fun H locs hP hD hS => ?_)
  have hP : va_P D vwCl [(w 0, oW w 1 0 0 cm), (w 15, oR (w 16) nh), (w 16, aZ ta 16 gh)] H := hP
  have hD : va_D A [(w 0, oW w 1 0 0 cm), (w 15, oR (w 16) nh), (w 16, aZ ta 16 gh)] := hD
  refine lv_aload_n (pc := 15) hx hb dX8_begin_15 rfl (lv_at hl 0 rfl) ?_
  refine lv_iconst (pc := 16) (v := nI 0) hx hb dX8_begin_16 (by decide +kernel) ?_
  refine q_tops (y := qb false) rfl ?_
  refine va_put (pc := 17) (D := D) (ci := 6) (v := .int (qb false)) (ty := .boolean) (C := RX8) (T := TX8) (N := 14) hx hb hts iu8 tyX8 tyX8_ok nmX8 hown hK hP hD hS 0 rfl rfl 13 (by decide) (hts _ tw_182) (fun _ h9 => h9) rfl (by decide +kernel) (q_nbo _) (q_fbo _) (Nat.le_of_ble_eq_true rfl) dX8_begin_17 (fun H locs hP hD hS => ?_)
  have hP : va_P D vwCl [(w 0, oW w 1 0 0 false), (w 15, oR (w 16) nh), (w 16, aZ ta 16 gh)] H := hP
  have hD : va_D A [(w 0, oW w 1 0 0 false), (w 15, oR (w 16) nh), (w 16, aZ ta 16 gh)] := hD
  refine lv_aload_n (pc := 20) hx hb dX8_begin_20 rfl (lv_at hl 0 rfl) ?_
  refine va_get (pc := 21) (D := D) (ci := 6) (v := .ref (w 15)) (C := RX8) (T := TX8) (N := 14) hx hb hts iu8 hown hK hP 0 rfl rfl 9 (by decide) (hts _ tw_169) (fun _ h9 => h9) rfl dX8_begin_21 ?_
  refine cs_V (pc := 24) (idx := 61) (n := 0) (wr := [(w 0, oW w 1 0 0 false)]) (As := []) (rest := []) (ci := 5) hx hb hml hown hts hGok hK hA hG hl.1 hP hD hS (ct_X6_clear ll D ta hGok (w 15) (w 16) 16 gh nh  H.size) tw_441 tw_679 tw_439 tw_440 tw_66 hdX6_clear rfl ⟨rfl, rfl, Nat.le_of_ble_eq_true rfl, Nat.le_of_ble_eq_true rfl, Nat.le_of_ble_eq_true rfl, Nat.le_of_ble_eq_true rfl⟩ rfl rfl (q0 := 1) rfl [1, 2] [0] rfl rfl (by decide) rfl (Nat.le_of_ble_eq_true rfl) dX8_begin_24 (fun u H locs hq hP hD hS => ?_)
  refine W.eq (g2 := F0 mm 27 ls []) rfl ?_
  have hP : va_P D vwCl [(w 0, oW w 1 0 0 false), (w 15, oR (w 16) 0), (w 16, aZ ta 16 gh)] H := hP
  have hD : va_D A [(w 0, oW w 1 0 0 false), (w 15, oR (w 16) 0), (w 16, aZ ta 16 gh)] := hD
  refine lv_aload_n (pc := 27) hx hb dX8_begin_27 rfl (lv_at hl 0 rfl) ?_
  refine va_get (pc := 28) (D := D) (ci := 6) (v := .ref (w 15)) (C := RX8) (T := TX8) (N := 14) hx hb hts iu8 hown hK hP 0 rfl rfl 9 (by decide) (hts _ tw_169) (fun _ h9 => h9) rfl dX8_begin_28 ?_
  refine lv_bipush (pc := 31) (v := nI 16) hx hb dX8_begin_31 (by decide +kernel) ?_
  refine cs_V (pc := 33) (idx := 64) (n := 1) (wr := [(w 0, oW w 1 0 0 false)]) (As := [.int (nI 16)]) (rest := []) (ci := 5) hx hb hml hown hts hGok hK hA hG hl.1 hP hD hS (ct_X6_addZeros ll D ta hGok (w 15) (w 16) 16 gh 0 16 (by first | assumption | omega | rfl | decide) (by first | assumption | omega | rfl | decide) H.size) tw_227 tw_680 tw_225 tw_226 tw_66 hdX6_addZeros rfl ⟨rfl, rfl, Nat.le_of_ble_eq_true rfl, Nat.le_of_ble_eq_true rfl, Nat.le_of_ble_eq_true rfl, Nat.le_of_ble_eq_true rfl⟩ rfl rfl (q0 := 1) rfl [1, 2] [0] rfl rfl (by decide) rfl (Nat.le_of_ble_eq_true rfl) dX8_begin_33 (fun u H locs hq hP hD hS => ?_)
  generalize u = g1_33 at hq hP hD ⊢
  have hq : (qL g1_33 (0 + 16) = qL gh 0 ++ List.replicate 16 0#8) := hq
  have hL_33 := hq
  refine W.eq (g2 := F0 mm 36 ls []) rfl ?_
  have hP : va_P D vwCl [(w 0, oW w 1 0 0 false), (w 15, oR (w 16) (0 + 16)), (w 16, aZ ta 16 g1_33)] H := hP
  have hD : va_D A [(w 0, oW w 1 0 0 false), (w 15, oR (w 16) (0 + 16)), (w 16, aZ ta 16 g1_33)] := hD
  have hP : va_P D vwCl [(w 0, oW w 1 0 0 false), (w 15, oR (w 16) (0 + 16)), (w 16, aZ ta 16 g1_33)] H := hP
  have hD : va_D A [(w 0, oW w 1 0 0 false), (w 15, oR (w 16) (0 + 16)), (w 16, aZ ta 16 g1_33)] := hD
  have hq_1 : (qL g1_33 16 = zeroL 16) := by
    rw [show 16 = 0 + 16 from rfl, hL_33]; rfl
  exact hret (g1_33) _ _ _ _ dX8_begin_36 hq_1 (hP.sub [0, 1, 2] rfl) (hD.sub [0, 1, 2] (by decide) rfl) hS
theorem hdX8_open : yX8_open.cls ≠ "java/lang/invoke/MethodHandle" ∧ yX8_open.cls ≠ "java/lang/invoke/VarHandle" ∧ (parseMethodDescriptor yX8_open.desc).map (fun d => d.parameters.length) = some 1 := ⟨by decide +kernel, by decide +kernel, by decide +kernel⟩
theorem dX8_open_0 : decode cX8_open 0 = .ok (.aload_n 0, 1) := by decide +kernel
theorem dX8_open_1 : decode cX8_open 1 = .ok (.iconst 2, 1) := by decide +kernel
theorem dX8_open_2 : decode cX8_open 2 = .ok (.putfield 9, 3) := by decide +kernel
theorem dX8_open_5 : decode cX8_open 5 = .ok (.aload_n 0, 1) := by decide +kernel
theorem dX8_open_6 : decode cX8_open 6 = .ok (.iload_n 1, 1) := by decide +kernel
theorem dX8_open_7 : decode cX8_open 7 = .ok (.putfield 15, 3) := by decide +kernel
theorem dX8_open_10 : decode cX8_open 10 = .ok (.aload_n 0, 1) := by decide +kernel
theorem dX8_open_11 : decode cX8_open 11 = .ok (.getfield 48, 3) := by decide +kernel
theorem dX8_open_14 : decode cX8_open 14 = .ok (.aload_n 0, 1) := by decide +kernel
theorem dX8_open_15 : decode cX8_open 15 = .ok (.getfield 45, 3) := by decide +kernel
theorem dX8_open_18 : decode cX8_open 18 = .ok (.iconst 0, 1) := by decide +kernel
theorem dX8_open_19 : decode cX8_open 19 = .ok (.bipush 8, 2) := by decide +kernel
theorem dX8_open_21 : decode cX8_open 21 = .ok (.invokevirtual 67, 3) := by decide +kernel
theorem dX8_open_24 : decode cX8_open 24 = .ok (.return_, 1) := by decide +kernel
set_option maxHeartbeats 4000000 in
set_option maxRecDepth 100000 in
theorem ct_X8_open (ll : Launch) (D : va_G) (ta : Nat → ClassId) (gs : Nat → Nat) (w : Nat → Nat) (st : Nat) (lv : Nat) (cnt : Nat) (cm : Bool) (gh : Nat → BitVec 8) (nh : Nat) (gbc : Nat → BitVec 8) (nbc : Nat) (l : Nat) (hnh : 8 ≤ nh ∧ nh ≤ 16) (sz : Nat) : CT ll yX8_open cX8_open 2 none ({ frames := 3, cells := 0, slots := 0, locals := 68 } : Room) D ta ((GC gs)) [.ref (w 0), .int (nI l)] [(w 0, oW w st lv cnt cm), (w 15, oR (w 16) nh), (w 16, aZ ta 16 gh), (w 17, oR (w 18) nbc), (w 18, aZ ta 8 gbc)] sz (S := (Nat → BitVec 8)) (fun _ => none) (fun u => (qL u 8 = (qL gh nh).take 8)) (fun u => [(w 0, oW w 2 l cnt cm), (w 15, oR (w 16) nh), (w 16, aZ ta 16 gh), (w 17, oR (w 18) 8), (w 18, aZ ta 8 u)]) 0 0 := by
  refine CT.of_v rfl (by decide) (Nat.le_of_ble_eq_true rfl) ?_
  have hGok := GC_ok gs
  intro pp ee ss mm below meth kc A Q hx hb hml hown hin hts hK hA hsz hG hret H locs hP hD hS ls hl
  have hl : lv_has ls 2 [(0, .ref (w 0)), (1, .int (nI l))] := hl
  refine lv_aload_n (pc := 0) hx hb dX8_open_0 rfl (lv_at hl 0 rfl) ?_
  refine lv_iconst (pc := 1) (v := nI 2) hx hb dX8_open_1 (by decide +kernel) ?_
  refine va_put (pc := 2) (D := D) (ci := 6) (v := .int (nI 2)) (ty := .int) (C := RX8) (T := TX8) (N := 14) hx hb hts iu8 tyX8 tyX8_ok nmX8 hown hK hP hD hS 0 rfl rfl 0 (by decide) (hts _ tw_139) (fun _ h9 => h9) rfl (by decide +kernel) rfl rfl (Nat.le_of_ble_eq_true rfl) dX8_open_2 (fun H locs hP hD hS => ?_)
  have hP : va_P D vwCl [(w 0, oW w 2 lv cnt cm), (w 15, oR (w 16) nh), (w 16, aZ ta 16 gh), (w 17, oR (w 18) nbc), (w 18, aZ ta 8 gbc)] H := hP
  have hD : va_D A [(w 0, oW w 2 lv cnt cm), (w 15, oR (w 16) nh), (w 16, aZ ta 16 gh), (w 17, oR (w 18) nbc), (w 18, aZ ta 8 gbc)] := hD
  refine lv_aload_n (pc := 5) hx hb dX8_open_5 rfl (lv_at hl 0 rfl) ?_
  refine lv_iload_n (pc := 6) hx hb dX8_open_6 rfl (lv_at hl 1 rfl) ?_
  refine va_put (pc := 7) (D := D) (ci := 6) (v := .int (nI l)) (ty := .int) (C := RX8) (T := TX8) (N := 14) hx hb hts iu8 tyX8 tyX8_ok nmX8 hown hK hP hD hS 0 rfl rfl 1 (by decide) (hts _ tw_141) (fun _ h9 => h9) rfl (by decide +kernel) rfl rfl (Nat.le_of_ble_eq_true rfl) dX8_open_7 (fun H locs hP hD hS => ?_)
  have hP : va_P D vwCl [(w 0, oW w 2 l cnt cm), (w 15, oR (w 16) nh), (w 16, aZ ta 16 gh), (w 17, oR (w 18) nbc), (w 18, aZ ta 8 gbc)] H := hP
  have hD : va_D A [(w 0, oW w 2 l cnt cm), (w 15, oR (w 16) nh), (w 16, aZ ta 16 gh), (w 17, oR (w 18) nbc), (w 18, aZ ta 8 gbc)] := hD
  refine lv_aload_n (pc := 10) hx hb dX8_open_10 rfl (lv_at hl 0 rfl) ?_
  refine va_get (pc := 11) (D := D) (ci := 6) (v := .ref (w 17)) (C := RX8) (T := TX8) (N := 14) hx hb hts iu8 hown hK hP 0 rfl rfl 10 (by decide) (hts _ tw_172) (fun _ h9 => h9) rfl dX8_open_11 ?_
  refine lv_aload_n (pc := 14) hx hb dX8_open_14 rfl (lv_at hl 0 rfl) ?_
  refine va_get (pc := 15) (D := D) (ci := 6) (v := .ref (w 15)) (C := RX8) (T := TX8) (N := 14) hx hb hts iu8 hown hK hP 0 rfl rfl 9 (by decide) (hts _ tw_169) (fun _ h9 => h9) rfl dX8_open_15 ?_
  refine lv_iconst (pc := 18) (v := nI 0) hx hb dX8_open_18 (by decide +kernel) ?_
  refine lv_bipush (pc := 19) (v := nI 8) hx hb dX8_open_19 (by decide +kernel) ?_
  refine cs_V (pc := 21) (idx := 67) (n := 3) (wr := [(w 0, oW w 2 l cnt cm)]) (As := [.ref (w 15), .int (nI 0), .int (nI 8)]) (rest := []) (ci := 5) hx hb hml hown hts hGok hK hA hG hl.1 hP hD hS (ct_X6_copyPart ll D ta hGok (w 17) (w 18) 8 gbc nbc (w 15) (w 16) 16 gh nh 0 8 (by first | assumption | omega | rfl | decide) (by first | assumption | omega | rfl | decide) (by first | assumption | omega | rfl | decide) (by first | assumption | omega | rfl | decide) (by first | assumption | omega | rfl | decide) (by first | assumption | omega | rfl | decide) H.size) tw_464 tw_773 tw_462 tw_463 tw_66 hdX6_copyPart rfl ⟨rfl, rfl, Nat.le_of_ble_eq_true rfl, Nat.le_of_ble_eq_true rfl, Nat.le_of_ble_eq_true rfl, Nat.le_of_ble_eq_true rfl⟩ rfl rfl (q0 := 3) rfl [3, 4, 1, 2] [0] rfl rfl (by decide) rfl (Nat.le_of_ble_eq_true rfl) dX8_open_21 (fun u H locs hq hP hD hS => ?_)
  obtain ⟨g1_21, n1_21⟩ := u
  have hq : (n1_21 = min 8 nh - 0) ∧ (qL g1_21 n1_21 = ((qL gh nh).take 8).drop 0) := hq
  obtain ⟨hm_21, hL_21⟩ := hq
  refine W.eq (g2 := F0 mm 24 ls []) rfl ?_
  have hP : va_P D vwCl [(w 0, oW w 2 l cnt cm), (w 17, oR (w 18) n1_21), (w 18, aZ ta 8 g1_21), (w 15, oR (w 16) nh), (w 16, aZ ta 16 gh)] H := hP
  have hD : va_D A [(w 0, oW w 2 l cnt cm), (w 17, oR (w 18) n1_21), (w 18, aZ ta 8 g1_21), (w 15, oR (w 16) nh), (w 16, aZ ta 16 gh)] := hD
  have en_1 : 8 = n1_21 := by omega
  subst en_1
  have hq_2 : (qL g1_21 8 = (qL gh nh).take 8) := by
    rw [hL_21]; rfl
  exact hret (g1_21) _ _ _ _ dX8_open_24 hq_2 (hP.sub [0, 3, 4, 1, 2] rfl) (hD.sub [0, 3, 4, 1, 2] (by decide) rfl) hS
theorem hdX8_finish : yX8_finish.cls ≠ "java/lang/invoke/MethodHandle" ∧ yX8_finish.cls ≠ "java/lang/invoke/VarHandle" ∧ (parseMethodDescriptor yX8_finish.desc).map (fun d => d.parameters.length) = some 0 := ⟨by decide +kernel, by decide +kernel, by decide +kernel⟩
theorem dX8_finish_0 : decode cX8_finish 0 = .ok (.aload_n 0, 1) := by decide +kernel
theorem dX8_finish_1 : decode cX8_finish 1 = .ok (.iconst 0, 1) := by decide +kernel
theorem dX8_finish_2 : decode cX8_finish 2 = .ok (.putfield 9, 3) := by decide +kernel
theorem dX8_finish_5 : decode cX8_finish 5 = .ok (.aload_n 0, 1) := by decide +kernel
theorem dX8_finish_6 : decode cX8_finish 6 = .ok (.iconst 0, 1) := by decide +kernel
theorem dX8_finish_7 : decode cX8_finish 7 = .ok (.putfield 15, 3) := by decide +kernel
theorem dX8_finish_10 : decode cX8_finish 10 = .ok (.return_, 1) := by decide +kernel
set_option maxHeartbeats 4000000 in
set_option maxRecDepth 100000 in
theorem ct_X8_finish (ll : Launch) (D : va_G) (ta : Nat → ClassId) (gs : Nat → Nat) (w : Nat → Nat) (st : Nat) (lv : Nat) (cnt : Nat) (cm : Bool)  (sz : Nat) : CT ll yX8_finish cX8_finish 1 none ({ frames := 0, cells := 0, slots := 0, locals := 0 } : Room) D ta ((GC gs)) [.ref (w 0)] [(w 0, oW w st lv cnt cm)] sz (S := Unit) (fun _ => none) (fun u => True) (fun u => [(w 0, oW w 0 0 cnt cm)]) 0 0 := by
  refine CT.of_v rfl (by decide) (Nat.le_of_ble_eq_true rfl) ?_
  have hGok := GC_ok gs
  intro pp ee ss mm below meth kc A Q hx hb hml hown hin hts hK hA hsz hG hret H locs hP hD hS ls hl
  have hl : lv_has ls 1 [(0, .ref (w 0))] := hl
  refine lv_aload_n (pc := 0) hx hb dX8_finish_0 rfl (lv_at hl 0 rfl) ?_
  refine lv_iconst (pc := 1) (v := nI 0) hx hb dX8_finish_1 (by decide +kernel) ?_
  refine va_put (pc := 2) (D := D) (ci := 6) (v := .int (nI 0)) (ty := .int) (C := RX8) (T := TX8) (N := 14) hx hb hts iu8 tyX8 tyX8_ok nmX8 hown hK hP hD hS 0 rfl rfl 0 (by decide) (hts _ tw_139) (fun _ h9 => h9) rfl (by decide +kernel) rfl rfl (Nat.le_of_ble_eq_true rfl) dX8_finish_2 (fun H locs hP hD hS => ?_)
  have hP : va_P D vwCl [(w 0, oW w 0 lv cnt cm)] H := hP
  have hD : va_D A [(w 0, oW w 0 lv cnt cm)] := hD
  refine lv_aload_n (pc := 5) hx hb dX8_finish_5 rfl (lv_at hl 0 rfl) ?_
  refine lv_iconst (pc := 6) (v := nI 0) hx hb dX8_finish_6 (by decide +kernel) ?_
  refine va_put (pc := 7) (D := D) (ci := 6) (v := .int (nI 0)) (ty := .int) (C := RX8) (T := TX8) (N := 14) hx hb hts iu8 tyX8 tyX8_ok nmX8 hown hK hP hD hS 0 rfl rfl 1 (by decide) (hts _ tw_141) (fun _ h9 => h9) rfl (by decide +kernel) rfl rfl (Nat.le_of_ble_eq_true rfl) dX8_finish_7 (fun H locs hP hD hS => ?_)
  have hP : va_P D vwCl [(w 0, oW w 0 0 cnt cm)] H := hP
  have hD : va_D A [(w 0, oW w 0 0 cnt cm)] := hD
  have hq_1 : True := trivial
  exact hret () _ _ _ _ dX8_finish_10 hq_1 (hP.sub [0] rfl) (hD.sub [0] (by decide) rfl) hS
theorem hdX8_isOpenWith : yX8_isOpenWith.cls ≠ "java/lang/invoke/MethodHandle" ∧ yX8_isOpenWith.cls ≠ "java/lang/invoke/VarHandle" ∧ (parseMethodDescriptor yX8_isOpenWith.desc).map (fun d => d.parameters.length) = some 1 := ⟨by decide +kernel, by decide +kernel, by decide +kernel⟩
theorem dX8_isOpenWith_0 : decode cX8_isOpenWith 0 = .ok (.aload_n 0, 1) := by decide +kernel
theorem dX8_isOpenWith_1 : decode cX8_isOpenWith 1 = .ok (.getfield 9, 3) := by decide +kernel
theorem dX8_isOpenWith_4 : decode cX8_isOpenWith 4 = .ok (.iconst 2, 1) := by decide +kernel
theorem dX8_isOpenWith_5 : decode cX8_isOpenWith 5 = .ok (.if_icmp .ne 16, 3) := by decide +kernel
theorem dX8_isOpenWith_8 : decode cX8_isOpenWith 8 = .ok (.aload_n 0, 1) := by decide +kernel
theorem dX8_isOpenWith_9 : decode cX8_isOpenWith 9 = .ok (.getfield 15, 3) := by decide +kernel
theorem dX8_isOpenWith_12 : decode cX8_isOpenWith 12 = .ok (.iload_n 1, 1) := by decide +kernel
theorem dX8_isOpenWith_13 : decode cX8_isOpenWith 13 = .ok (.iand, 1) := by decide +kernel
theorem dX8_isOpenWith_14 : decode cX8_isOpenWith 14 = .ok (.ifCond .eq 7, 3) := by decide +kernel
theorem dX8_isOpenWith_17 : decode cX8_isOpenWith 17 = .ok (.iconst 1, 1) := by decide +kernel
theorem dX8_isOpenWith_18 : decode cX8_isOpenWith 18 = .ok (.goto 4, 3) := by decide +kernel
theorem dX8_isOpenWith_21 : decode cX8_isOpenWith 21 = .ok (.iconst 0, 1) := by decide +kernel
theorem dX8_isOpenWith_22 : decode cX8_isOpenWith 22 = .ok (.ireturn, 1) := by decide +kernel
set_option maxHeartbeats 4000000 in
set_option maxRecDepth 100000 in
theorem ct_X8_isOpenWith (ll : Launch) (D : va_G) (ta : Nat → ClassId) (gs : Nat → Nat) (w : Nat → Nat) (st : Nat) (lv : Nat) (cnt : Nat) (cm : Bool) (mk : Nat) (hmk : mk < 2147483648) (hlv : lv < 256) (hst : st ≤ 2) (sz : Nat) : CT ll yX8_isOpenWith cX8_isOpenWith 2 (some .boolean) ({ frames := 0, cells := 0, slots := 0, locals := 0 } : Room) D ta ((GC gs)) [.ref (w 0), .int (nI mk)] [(w 0, oW w st lv cnt cm)] sz (S := Bool) (fun u => some (.int (qb u))) (fun u => (u = decide (st = 2 ∧ lv &&& mk ≠ 0))) (fun u => [(w 0, oW w st lv cnt cm)]) 0 0 := by
  refine CT.of_z (r := fun u => u) rfl (by decide) (Nat.le_of_ble_eq_true rfl) ?_
  have hGok := GC_ok gs
  intro pp ee ss mm below meth kc A Q hx hb hml hown hin hts hK hA hsz hG hret H locs hP hD hS ls hl
  have hl : lv_has ls 2 [(0, .ref (w 0)), (1, .int (nI mk))] := hl
  refine lv_aload_n (pc := 0) hx hb dX8_isOpenWith_0 rfl (lv_at hl 0 rfl) ?_
  refine va_get (pc := 1) (D := D) (ci := 6) (v := .int (nI st)) (C := RX8) (T := TX8) (N := 14) hx hb hts iu8 hown hK hP 0 rfl rfl 0 (by decide) (hts _ tw_139) (fun _ h9 => h9) rfl dX8_isOpenWith_1 ?_
  refine lv_iconst (pc := 4) (v := nI 2) hx hb dX8_isOpenWith_4 (by decide +kernel) ?_
  refine lv_icmp_ne (pc := 5) (tgt := 21) hx hb dX8_isOpenWith_5 (by decide) (fun c_1 => ?_) (fun c_1 => ?_)
  · skip
    rw [nI_eq (by omega) (by omega)] at c_1
    refine lv_iconst (pc := 21) (v := nI 0) hx hb dX8_isOpenWith_21 (by decide +kernel) ?_
    refine q_top (y := qb false) (by first | rfl | decide +kernel | (simp; done)) ?_
    have hq_2 : (false = decide (st = 2 ∧ lv &&& mk ≠ 0)) := by
      symm; simp; omega
    exact hret (false) _ _ _ _ dX8_isOpenWith_22 hq_2 (hP.sub [0] rfl) (hD.sub [0] (by decide) rfl) hS
  · skip
    rw [nI_eq (by omega) (by omega)] at c_1
    refine lv_aload_n (pc := 8) hx hb dX8_isOpenWith_8 rfl (lv_at hl 0 rfl) ?_
    refine va_get (pc := 9) (D := D) (ci := 6) (v := .int (nI lv)) (C := RX8) (T := TX8) (N := 14) hx hb hts iu8 hown hK hP 0 rfl rfl 1 (by decide) (hts _ tw_141) (fun _ h9 => h9) rfl dX8_isOpenWith_9 ?_
    refine lv_iload_n (pc := 12) hx hb dX8_isOpenWith_12 rfl (lv_at hl 1 rfl) ?_
    have hlm : lv &&& mk ≤ mk := Nat.and_le_right
    refine lv_iand (pc := 13) hx hb dX8_isOpenWith_13 ?_
    refine q_top (y := nI (lv &&& mk)) (nI_and (by omega) (by omega)) ?_
    refine lv_if_eq (pc := 14) (tgt := 21) hx hb dX8_isOpenWith_14 (by decide) (fun c_3 => ?_) (fun c_3 => ?_)
    · skip
      rw [q_eq0 (by omega)] at c_3
      refine lv_iconst (pc := 21) (v := nI 0) hx hb dX8_isOpenWith_21 (by decide +kernel) ?_
      refine q_top (y := qb false) (by first | rfl | decide +kernel | (simp; done)) ?_
      have hq_4 : (false = decide (st = 2 ∧ lv &&& mk ≠ 0)) := by
        symm; simp; omega
      exact hret (false) _ _ _ _ dX8_isOpenWith_22 hq_4 (hP.sub [0] rfl) (hD.sub [0] (by decide) rfl) hS
    · skip
      rw [q_eq0 (by omega)] at c_3
      refine lv_iconst (pc := 17) (v := nI 1) hx hb dX8_isOpenWith_17 (by decide +kernel) ?_
      refine lv_goto (pc := 18) (tgt := 22) hx hb dX8_isOpenWith_18 (by decide) ?_
      refine q_top (y := qb true) (by first | rfl | decide +kernel | (simp; done)) ?_
      have hq_5 : (true = decide (st = 2 ∧ lv &&& mk ≠ 0)) := by
        symm; simp; omega
      exact hret (true) _ _ _ _ dX8_isOpenWith_22 hq_5 (hP.sub [0] rfl) (hD.sub [0] (by decide) rfl) hS
theorem hdX8_isAnswerable : yX8_isAnswerable.cls ≠ "java/lang/invoke/MethodHandle" ∧ yX8_isAnswerable.cls ≠ "java/lang/invoke/VarHandle" ∧ (parseMethodDescriptor yX8_isAnswerable.desc).map (fun d => d.parameters.length) = some 0 := ⟨by decide +kernel, by decide +kernel, by decide +kernel⟩
theorem dX8_isAnswerable_0 : decode cX8_isAnswerable 0 = .ok (.aload_n 0, 1) := by decide +kernel
theorem dX8_isAnswerable_1 : decode cX8_isAnswerable 1 = .ok (.bipush 16, 2) := by decide +kernel
theorem dX8_isAnswerable_3 : decode cX8_isAnswerable 3 = .ok (.invokevirtual 71, 3) := by decide +kernel
theorem dX8_isAnswerable_6 : decode cX8_isAnswerable 6 = .ok (.ifCond .eq 14, 3) := by decide +kernel
theorem dX8_isAnswerable_9 : decode cX8_isAnswerable 9 = .ok (.aload_n 0, 1) := by decide +kernel
theorem dX8_isAnswerable_10 : decode cX8_isAnswerable 10 = .ok (.getfield 57, 3) := by decide +kernel
theorem dX8_isAnswerable_13 : decode cX8_isAnswerable 13 = .ok (.ifCond .eq 7, 3) := by decide +kernel
theorem dX8_isAnswerable_16 : decode cX8_isAnswerable 16 = .ok (.iconst 1, 1) := by decide +kernel
theorem dX8_isAnswerable_17 : decode cX8_isAnswerable 17 = .ok (.goto 4, 3) := by decide +kernel
theorem dX8_isAnswerable_20 : decode cX8_isAnswerable 20 = .ok (.iconst 0, 1) := by decide +kernel
theorem dX8_isAnswerable_21 : decode cX8_isAnswerable 21 = .ok (.ireturn, 1) := by decide +kernel
set_option maxHeartbeats 4000000 in
set_option maxRecDepth 100000 in
theorem ct_X8_isAnswerable (ll : Launch) (D : va_G) (ta : Nat → ClassId) (gs : Nat → Nat) (w : Nat → Nat) (st : Nat) (lv : Nat) (cnt : Nat) (cm : Bool) (hlv : lv < 256) (hst : st ≤ 2) (sz : Nat) : CT ll yX8_isAnswerable cX8_isAnswerable 1 (some .boolean) ({ frames := 1, cells := 0, slots := 0, locals := 21 } : Room) D ta ((GC gs)) [.ref (w 0)] [(w 0, oW w st lv cnt cm)] sz (S := Bool) (fun u => some (.int (qb u))) (fun u => (u = decide (st = 2 ∧ lv &&& 16 ≠ 0 ∧ cm = true))) (fun u => [(w 0, oW w st lv cnt cm)]) 0 0 := by
  refine CT.of_z (r := fun u => u) rfl (by decide) (Nat.le_of_ble_eq_true rfl) ?_
  have hGok := GC_ok gs
  intro pp ee ss mm below meth kc A Q hx hb hml hown hin hts hK hA hsz hG hret H locs hP hD hS ls hl
  have hl : lv_has ls 1 [(0, .ref (w 0))] := hl
  refine lv_aload_n (pc := 0) hx hb dX8_isAnswerable_0 rfl (lv_at hl 0 rfl) ?_
  refine lv_bipush (pc := 1) (v := nI 16) hx hb dX8_isAnswerable_1 (by decide +kernel) ?_
  refine cs_V (pc := 3) (idx := 71) (n := 1) (wr := []) (As := [.int (nI 16)]) (rest := []) (ci := 6) hx hb hml hown hts hGok hK hA hG hl.1 hP hD hS (ct_X8_isOpenWith ll D ta gs w st lv cnt cm 16 (by first | assumption | omega | rfl | decide) (by first | assumption | omega | rfl | decide) (by first | assumption | omega | rfl | decide) H.size) tw_781 tw_871 tw_779 tw_780 tw_68 hdX8_isOpenWith rfl ⟨rfl, rfl, Nat.le_of_ble_eq_true rfl, Nat.le_of_ble_eq_true rfl, Nat.le_of_ble_eq_true rfl, Nat.le_of_ble_eq_true rfl⟩ rfl rfl (q0 := 0) rfl [0] [] rfl rfl (by decide) rfl (Nat.le_of_ble_eq_true rfl) dX8_isAnswerable_3 (fun u H locs hq hP hD hS => ?_)
  generalize u = z_3 at hq hP hD ⊢
  have hq : (z_3 = decide (st = 2 ∧ lv &&& 16 ≠ 0)) := hq
  have hz_3 := hq
  refine W.eq (g2 := F0 mm 6 ls [.int (qb z_3)]) rfl ?_
  have hP : va_P D vwCl [(w 0, oW w st lv cnt cm)] H := hP
  have hD : va_D A [(w 0, oW w st lv cnt cm)] := hD
  refine lv_if_eq (pc := 6) (tgt := 20) hx hb dX8_isAnswerable_6 (by decide) (fun c_1 => ?_) (fun c_1 => ?_)
  · skip
    rw [q_beq] at c_1
    try rw [Bool.not_eq_false] at c_1
    refine lv_iconst (pc := 20) (v := nI 0) hx hb dX8_isAnswerable_20 (by decide +kernel) ?_
    refine q_top (y := qb false) (by first | rfl | decide +kernel | (simp; done)) ?_
    have hq_2 : (false = decide (st = 2 ∧ lv &&& 16 ≠ 0 ∧ cm = true)) := by
      symm; simp_all
    exact hret (false) _ _ _ _ dX8_isAnswerable_21 hq_2 (hP.sub [0] rfl) (hD.sub [0] (by decide) rfl) hS
  · skip
    rw [q_beq] at c_1
    try rw [Bool.not_eq_false] at c_1
    refine lv_aload_n (pc := 9) hx hb dX8_isAnswerable_9 rfl (lv_at hl 0 rfl) ?_
    refine va_get (pc := 10) (D := D) (ci := 6) (v := .int (qb cm)) (C := RX8) (T := TX8) (N := 14) hx hb hts iu8 hown hK hP 0 rfl rfl 13 (by decide) (hts _ tw_182) (fun _ h9 => h9) rfl dX8_isAnswerable_10 ?_
    refine lv_if_eq (pc := 13) (tgt := 20) hx hb dX8_isAnswerable_13 (by decide) (fun c_3 => ?_) (fun c_3 => ?_)
    · skip
      rw [q_beq] at c_3
      try rw [Bool.not_eq_false] at c_3
      refine lv_iconst (pc := 20) (v := nI 0) hx hb dX8_isAnswerable_20 (by decide +kernel) ?_
      refine q_top (y := qb false) (by first | rfl | decide +kernel | (simp; done)) ?_
      have hq_4 : (false = decide (st = 2 ∧ lv &&& 16 ≠ 0 ∧ cm = true)) := by
        symm; simp_all
      exact hret (false) _ _ _ _ dX8_isAnswerable_21 hq_4 (hP.sub [0] rfl) (hD.sub [0] (by decide) rfl) hS
    · skip
      rw [q_beq] at c_3
      try rw [Bool.not_eq_false] at c_3
      refine lv_iconst (pc := 16) (v := nI 1) hx hb dX8_isAnswerable_16 (by decide +kernel) ?_
      refine lv_goto (pc := 17) (tgt := 21) hx hb dX8_isAnswerable_17 (by decide) ?_
      refine q_top (y := qb true) (by first | rfl | decide +kernel | (simp; done)) ?_
      have hq_5 : (true = decide (st = 2 ∧ lv &&& 16 ≠ 0 ∧ cm = true)) := by
        symm; simp_all
      exact hret (true) _ _ _ _ dX8_isAnswerable_21 hq_5 (hP.sub [0] rfl) (hD.sub [0] (by decide) rfl) hS
theorem hdX8_secretRow : yX8_secretRow.cls ≠ "java/lang/invoke/MethodHandle" ∧ yX8_secretRow.cls ≠ "java/lang/invoke/VarHandle" ∧ (parseMethodDescriptor yX8_secretRow.desc).map (fun d => d.parameters.length) = some 1 := ⟨by decide +kernel, by decide +kernel, by decide +kernel⟩
theorem dX8_secretRow_0 : decode cX8_secretRow 0 = .ok (.iload_n 1, 1) := by decide +kernel
theorem dX8_secretRow_1 : decode cX8_secretRow 1 = .ok (.tableswitch 78 0 6 #[43, 48, 53, 58, 63, 68, 73], 43) := by decide +kernel
theorem dX8_secretRow_44 : decode cX8_secretRow 44 = .ok (.aload_n 0, 1) := by decide +kernel
theorem dX8_secretRow_45 : decode cX8_secretRow 45 = .ok (.getfield 23, 3) := by decide +kernel
theorem dX8_secretRow_48 : decode cX8_secretRow 48 = .ok (.areturn, 1) := by decide +kernel
theorem dX8_secretRow_49 : decode cX8_secretRow 49 = .ok (.aload_n 0, 1) := by decide +kernel
theorem dX8_secretRow_50 : decode cX8_secretRow 50 = .ok (.getfield 27, 3) := by decide +kernel
theorem dX8_secretRow_53 : decode cX8_secretRow 53 = .ok (.areturn, 1) := by decide +kernel
theorem dX8_secretRow_54 : decode cX8_secretRow 54 = .ok (.aload_n 0, 1) := by decide +kernel
theorem dX8_secretRow_55 : decode cX8_secretRow 55 = .ok (.getfield 30, 3) := by decide +kernel
theorem dX8_secretRow_58 : decode cX8_secretRow 58 = .ok (.areturn, 1) := by decide +kernel
theorem dX8_secretRow_59 : decode cX8_secretRow 59 = .ok (.aload_n 0, 1) := by decide +kernel
theorem dX8_secretRow_60 : decode cX8_secretRow 60 = .ok (.getfield 33, 3) := by decide +kernel
theorem dX8_secretRow_63 : decode cX8_secretRow 63 = .ok (.areturn, 1) := by decide +kernel
theorem dX8_secretRow_64 : decode cX8_secretRow 64 = .ok (.aload_n 0, 1) := by decide +kernel
theorem dX8_secretRow_65 : decode cX8_secretRow 65 = .ok (.getfield 36, 3) := by decide +kernel
theorem dX8_secretRow_68 : decode cX8_secretRow 68 = .ok (.areturn, 1) := by decide +kernel
theorem dX8_secretRow_69 : decode cX8_secretRow 69 = .ok (.aload_n 0, 1) := by decide +kernel
theorem dX8_secretRow_70 : decode cX8_secretRow 70 = .ok (.getfield 39, 3) := by decide +kernel
theorem dX8_secretRow_73 : decode cX8_secretRow 73 = .ok (.areturn, 1) := by decide +kernel
theorem dX8_secretRow_74 : decode cX8_secretRow 74 = .ok (.aload_n 0, 1) := by decide +kernel
theorem dX8_secretRow_75 : decode cX8_secretRow 75 = .ok (.getfield 42, 3) := by decide +kernel
theorem dX8_secretRow_78 : decode cX8_secretRow 78 = .ok (.areturn, 1) := by decide +kernel
theorem dX8_secretRow_79 : decode cX8_secretRow 79 = .ok (.aconst_null, 1) := by decide +kernel
theorem dX8_secretRow_80 : decode cX8_secretRow 80 = .ok (.areturn, 1) := by decide +kernel
set_option maxHeartbeats 4000000 in
set_option maxRecDepth 100000 in
theorem ct_X8_secretRow_0 (ll : Launch) (D : va_G) (ta : Nat → ClassId) (gs : Nat → Nat) (w : Nat → Nat) (st : Nat) (lv : Nat) (cnt : Nat) (cm : Bool)  (sz : Nat) : CT ll yX8_secretRow cX8_secretRow 2 (Option.some (.object "LineGuard$Row")) ({ frames := 0, cells := 0, slots := 0, locals := 0 } : Room) D ta ((GC gs)) [.ref (w 0), .int (nI 0)] [(w 0, oW w st lv cnt cm)] sz (S := Unit) (fun u => some (.ref (w 1))) (fun u => True) (fun u => [(w 0, oW w st lv cnt cm)]) 0 0 := by
  refine CT.of_a (r := fun u => .ref (w 1)) (by intro u; first | exact Or.inl rfl | exact Or.inr ⟨_, rfl⟩) rfl (by decide) (Nat.le_of_ble_eq_true rfl) ?_
  have hGok := GC_ok gs
  intro pp ee ss mm below meth kc A Q hx hb hml hown hin hts hK hA hsz hG hret H locs hP hD hS ls hl
  have hl : lv_has ls 2 [(0, .ref (w 0)), (1, .int (nI 0))] := hl
  refine lv_iload_n (pc := 0) hx hb dX8_secretRow_0 rfl (lv_at hl 1 rfl) ?_
  refine lv_tableIn (pc := 1) (tgt := 44) hx hb dX8_secretRow_1 (off := 43) (by decide) (by decide) (by decide) (by decide) ?_
  refine lv_aload_n (pc := 44) hx hb dX8_secretRow_44 rfl (lv_at hl 0 rfl) ?_
  refine va_get (pc := 45) (D := D) (ci := 6) (v := .ref (w 1)) (C := RX8) (T := TX8) (N := 14) hx hb hts iu8 hown hK hP 0 rfl rfl 2 (by decide) (hts _ tw_144) (fun _ h9 => h9) rfl dX8_secretRow_45 ?_
  have hq_1 : True := trivial
  exact hret () _ _ _ _ dX8_secretRow_48 hq_1 (hP.sub [0] rfl) (hD.sub [0] (by decide) rfl) hS
set_option maxHeartbeats 4000000 in
set_option maxRecDepth 100000 in
theorem ct_X8_secretRow_1 (ll : Launch) (D : va_G) (ta : Nat → ClassId) (gs : Nat → Nat) (w : Nat → Nat) (st : Nat) (lv : Nat) (cnt : Nat) (cm : Bool)  (sz : Nat) : CT ll yX8_secretRow cX8_secretRow 2 (Option.some (.object "LineGuard$Row")) ({ frames := 0, cells := 0, slots := 0, locals := 0 } : Room) D ta ((GC gs)) [.ref (w 0), .int (nI 1)] [(w 0, oW w st lv cnt cm)] sz (S := Unit) (fun u => some (.ref (w 3))) (fun u => True) (fun u => [(w 0, oW w st lv cnt cm)]) 0 0 := by
  refine CT.of_a (r := fun u => .ref (w 3)) (by intro u; first | exact Or.inl rfl | exact Or.inr ⟨_, rfl⟩) rfl (by decide) (Nat.le_of_ble_eq_true rfl) ?_
  have hGok := GC_ok gs
  intro pp ee ss mm below meth kc A Q hx hb hml hown hin hts hK hA hsz hG hret H locs hP hD hS ls hl
  have hl : lv_has ls 2 [(0, .ref (w 0)), (1, .int (nI 1))] := hl
  refine lv_iload_n (pc := 0) hx hb dX8_secretRow_0 rfl (lv_at hl 1 rfl) ?_
  refine lv_tableIn (pc := 1) (tgt := 49) hx hb dX8_secretRow_1 (off := 48) (by decide) (by decide) (by decide) (by decide) ?_
  refine lv_aload_n (pc := 49) hx hb dX8_secretRow_49 rfl (lv_at hl 0 rfl) ?_
  refine va_get (pc := 50) (D := D) (ci := 6) (v := .ref (w 3)) (C := RX8) (T := TX8) (N := 14) hx hb hts iu8 hown hK hP 0 rfl rfl 3 (by decide) (hts _ tw_147) (fun _ h9 => h9) rfl dX8_secretRow_50 ?_
  have hq_1 : True := trivial
  exact hret () _ _ _ _ dX8_secretRow_53 hq_1 (hP.sub [0] rfl) (hD.sub [0] (by decide) rfl) hS
set_option maxHeartbeats 4000000 in
set_option maxRecDepth 100000 in
theorem ct_X8_secretRow_2 (ll : Launch) (D : va_G) (ta : Nat → ClassId) (gs : Nat → Nat) (w : Nat → Nat) (st : Nat) (lv : Nat) (cnt : Nat) (cm : Bool)  (sz : Nat) : CT ll yX8_secretRow cX8_secretRow 2 (Option.some (.object "LineGuard$Row")) ({ frames := 0, cells := 0, slots := 0, locals := 0 } : Room) D ta ((GC gs)) [.ref (w 0), .int (nI 2)] [(w 0, oW w st lv cnt cm)] sz (S := Unit) (fun u => some (.ref (w 5))) (fun u => True) (fun u => [(w 0, oW w st lv cnt cm)]) 0 0 := by
  refine CT.of_a (r := fun u => .ref (w 5)) (by intro u; first | exact Or.inl rfl | exact Or.inr ⟨_, rfl⟩) rfl (by decide) (Nat.le_of_ble_eq_true rfl) ?_
  have hGok := GC_ok gs
  intro pp ee ss mm below meth kc A Q hx hb hml hown hin hts hK hA hsz hG hret H locs hP hD hS ls hl
  have hl : lv_has ls 2 [(0, .ref (w 0)), (1, .int (nI 2))] := hl
  refine lv_iload_n (pc := 0) hx hb dX8_secretRow_0 rfl (lv_at hl 1 rfl) ?_
  refine lv_tableIn (pc := 1) (tgt := 54) hx hb dX8_secretRow_1 (off := 53) (by decide) (by decide) (by decide) (by decide) ?_
  refine lv_aload_n (pc := 54) hx hb dX8_secretRow_54 rfl (lv_at hl 0 rfl) ?_
  refine va_get (pc := 55) (D := D) (ci := 6) (v := .ref (w 5)) (C := RX8) (T := TX8) (N := 14) hx hb hts iu8 hown hK hP 0 rfl rfl 4 (by decide) (hts _ tw_150) (fun _ h9 => h9) rfl dX8_secretRow_55 ?_
  have hq_1 : True := trivial
  exact hret () _ _ _ _ dX8_secretRow_58 hq_1 (hP.sub [0] rfl) (hD.sub [0] (by decide) rfl) hS
set_option maxHeartbeats 4000000 in
set_option maxRecDepth 100000 in
theorem ct_X8_secretRow_3 (ll : Launch) (D : va_G) (ta : Nat → ClassId) (gs : Nat → Nat) (w : Nat → Nat) (st : Nat) (lv : Nat) (cnt : Nat) (cm : Bool)  (sz : Nat) : CT ll yX8_secretRow cX8_secretRow 2 (Option.some (.object "LineGuard$Row")) ({ frames := 0, cells := 0, slots := 0, locals := 0 } : Room) D ta ((GC gs)) [.ref (w 0), .int (nI 3)] [(w 0, oW w st lv cnt cm)] sz (S := Unit) (fun u => some (.ref (w 7))) (fun u => True) (fun u => [(w 0, oW w st lv cnt cm)]) 0 0 := by
  refine CT.of_a (r := fun u => .ref (w 7)) (by intro u; first | exact Or.inl rfl | exact Or.inr ⟨_, rfl⟩) rfl (by decide) (Nat.le_of_ble_eq_true rfl) ?_
  have hGok := GC_ok gs
  intro pp ee ss mm below meth kc A Q hx hb hml hown hin hts hK hA hsz hG hret H locs hP hD hS ls hl
  have hl : lv_has ls 2 [(0, .ref (w 0)), (1, .int (nI 3))] := hl
  refine lv_iload_n (pc := 0) hx hb dX8_secretRow_0 rfl (lv_at hl 1 rfl) ?_
  refine lv_tableIn (pc := 1) (tgt := 59) hx hb dX8_secretRow_1 (off := 58) (by decide) (by decide) (by decide) (by decide) ?_
  refine lv_aload_n (pc := 59) hx hb dX8_secretRow_59 rfl (lv_at hl 0 rfl) ?_
  refine va_get (pc := 60) (D := D) (ci := 6) (v := .ref (w 7)) (C := RX8) (T := TX8) (N := 14) hx hb hts iu8 hown hK hP 0 rfl rfl 5 (by decide) (hts _ tw_153) (fun _ h9 => h9) rfl dX8_secretRow_60 ?_
  have hq_1 : True := trivial
  exact hret () _ _ _ _ dX8_secretRow_63 hq_1 (hP.sub [0] rfl) (hD.sub [0] (by decide) rfl) hS
set_option maxHeartbeats 4000000 in
set_option maxRecDepth 100000 in
theorem ct_X8_secretRow_4 (ll : Launch) (D : va_G) (ta : Nat → ClassId) (gs : Nat → Nat) (w : Nat → Nat) (st : Nat) (lv : Nat) (cnt : Nat) (cm : Bool)  (sz : Nat) : CT ll yX8_secretRow cX8_secretRow 2 (Option.some (.object "LineGuard$Row")) ({ frames := 0, cells := 0, slots := 0, locals := 0 } : Room) D ta ((GC gs)) [.ref (w 0), .int (nI 4)] [(w 0, oW w st lv cnt cm)] sz (S := Unit) (fun u => some (.ref (w 9))) (fun u => True) (fun u => [(w 0, oW w st lv cnt cm)]) 0 0 := by
  refine CT.of_a (r := fun u => .ref (w 9)) (by intro u; first | exact Or.inl rfl | exact Or.inr ⟨_, rfl⟩) rfl (by decide) (Nat.le_of_ble_eq_true rfl) ?_
  have hGok := GC_ok gs
  intro pp ee ss mm below meth kc A Q hx hb hml hown hin hts hK hA hsz hG hret H locs hP hD hS ls hl
  have hl : lv_has ls 2 [(0, .ref (w 0)), (1, .int (nI 4))] := hl
  refine lv_iload_n (pc := 0) hx hb dX8_secretRow_0 rfl (lv_at hl 1 rfl) ?_
  refine lv_tableIn (pc := 1) (tgt := 64) hx hb dX8_secretRow_1 (off := 63) (by decide) (by decide) (by decide) (by decide) ?_
  refine lv_aload_n (pc := 64) hx hb dX8_secretRow_64 rfl (lv_at hl 0 rfl) ?_
  refine va_get (pc := 65) (D := D) (ci := 6) (v := .ref (w 9)) (C := RX8) (T := TX8) (N := 14) hx hb hts iu8 hown hK hP 0 rfl rfl 6 (by decide) (hts _ tw_157) (fun _ h9 => h9) rfl dX8_secretRow_65 ?_
  have hq_1 : True := trivial
  exact hret () _ _ _ _ dX8_secretRow_68 hq_1 (hP.sub [0] rfl) (hD.sub [0] (by decide) rfl) hS
set_option maxHeartbeats 4000000 in
set_option maxRecDepth 100000 in
theorem ct_X8_secretRow_5 (ll : Launch) (D : va_G) (ta : Nat → ClassId) (gs : Nat → Nat) (w : Nat → Nat) (st : Nat) (lv : Nat) (cnt : Nat) (cm : Bool)  (sz : Nat) : CT ll yX8_secretRow cX8_secretRow 2 (Option.some (.object "LineGuard$Row")) ({ frames := 0, cells := 0, slots := 0, locals := 0 } : Room) D ta ((GC gs)) [.ref (w 0), .int (nI 5)] [(w 0, oW w st lv cnt cm)] sz (S := Unit) (fun u => some (.ref (w 11))) (fun u => True) (fun u => [(w 0, oW w st lv cnt cm)]) 0 0 := by
  refine CT.of_a (r := fun u => .ref (w 11)) (by intro u; first | exact Or.inl rfl | exact Or.inr ⟨_, rfl⟩) rfl (by decide) (Nat.le_of_ble_eq_true rfl) ?_
  have hGok := GC_ok gs
  intro pp ee ss mm below meth kc A Q hx hb hml hown hin hts hK hA hsz hG hret H locs hP hD hS ls hl
  have hl : lv_has ls 2 [(0, .ref (w 0)), (1, .int (nI 5))] := hl
  refine lv_iload_n (pc := 0) hx hb dX8_secretRow_0 rfl (lv_at hl 1 rfl) ?_
  refine lv_tableIn (pc := 1) (tgt := 69) hx hb dX8_secretRow_1 (off := 68) (by decide) (by decide) (by decide) (by decide) ?_
  refine lv_aload_n (pc := 69) hx hb dX8_secretRow_69 rfl (lv_at hl 0 rfl) ?_
  refine va_get (pc := 70) (D := D) (ci := 6) (v := .ref (w 11)) (C := RX8) (T := TX8) (N := 14) hx hb hts iu8 hown hK hP 0 rfl rfl 7 (by decide) (hts _ tw_161) (fun _ h9 => h9) rfl dX8_secretRow_70 ?_
  have hq_1 : True := trivial
  exact hret () _ _ _ _ dX8_secretRow_73 hq_1 (hP.sub [0] rfl) (hD.sub [0] (by decide) rfl) hS
set_option maxHeartbeats 4000000 in
set_option maxRecDepth 100000 in
theorem ct_X8_secretRow_6 (ll : Launch) (D : va_G) (ta : Nat → ClassId) (gs : Nat → Nat) (w : Nat → Nat) (st : Nat) (lv : Nat) (cnt : Nat) (cm : Bool)  (sz : Nat) : CT ll yX8_secretRow cX8_secretRow 2 (Option.some (.object "LineGuard$Row")) ({ frames := 0, cells := 0, slots := 0, locals := 0 } : Room) D ta ((GC gs)) [.ref (w 0), .int (nI 6)] [(w 0, oW w st lv cnt cm)] sz (S := Unit) (fun u => some (.ref (w 13))) (fun u => True) (fun u => [(w 0, oW w st lv cnt cm)]) 0 0 := by
  refine CT.of_a (r := fun u => .ref (w 13)) (by intro u; first | exact Or.inl rfl | exact Or.inr ⟨_, rfl⟩) rfl (by decide) (Nat.le_of_ble_eq_true rfl) ?_
  have hGok := GC_ok gs
  intro pp ee ss mm below meth kc A Q hx hb hml hown hin hts hK hA hsz hG hret H locs hP hD hS ls hl
  have hl : lv_has ls 2 [(0, .ref (w 0)), (1, .int (nI 6))] := hl
  refine lv_iload_n (pc := 0) hx hb dX8_secretRow_0 rfl (lv_at hl 1 rfl) ?_
  refine lv_tableIn (pc := 1) (tgt := 74) hx hb dX8_secretRow_1 (off := 73) (by decide) (by decide) (by decide) (by decide) ?_
  refine lv_aload_n (pc := 74) hx hb dX8_secretRow_74 rfl (lv_at hl 0 rfl) ?_
  refine va_get (pc := 75) (D := D) (ci := 6) (v := .ref (w 13)) (C := RX8) (T := TX8) (N := 14) hx hb hts iu8 hown hK hP 0 rfl rfl 8 (by decide) (hts _ tw_165) (fun _ h9 => h9) rfl dX8_secretRow_75 ?_
  have hq_1 : True := trivial
  exact hret () _ _ _ _ dX8_secretRow_78 hq_1 (hP.sub [0] rfl) (hD.sub [0] (by decide) rfl) hS
set_option maxHeartbeats 4000000 in
set_option maxRecDepth 100000 in
theorem ct_X8_secretRow_no (ll : Launch) (D : va_G) (ta : Nat → ClassId) (gs : Nat → Nat) (w : Nat → Nat) (st : Nat) (lv : Nat) (cnt : Nat) (cm : Bool) (i : Int32) (hi9 : ∀ k, k < 7 → ¬ i = nI k) (sz : Nat) : CT ll yX8_secretRow cX8_secretRow 2 (Option.some (.object "LineGuard$Row")) ({ frames := 0, cells := 0, slots := 0, locals := 0 } : Room) D ta ((GC gs)) [.ref (w 0), .int i] [(w 0, oW w st lv cnt cm)] sz (S := Unit) (fun u => some (.null)) (fun u => True) (fun u => [(w 0, oW w st lv cnt cm)]) 0 0 := by
  refine CT.of_a (r := fun u => .null) (by intro u; first | exact Or.inl rfl | exact Or.inr ⟨_, rfl⟩) rfl (by decide) (Nat.le_of_ble_eq_true rfl) ?_
  have hGok := GC_ok gs
  intro pp ee ss mm below meth kc A Q hx hb hml hown hin hts hK hA hsz hG hret H locs hP hD hS ls hl
  have hl : lv_has ls 2 [(0, .ref (w 0)), (1, .int i)] := hl
  refine lv_iload_n (pc := 0) hx hb dX8_secretRow_0 rfl (lv_at hl 1 rfl) ?_
  by_cases c_1 : i = nI 0
  · subst c_1
    refine lv_tableIn (pc := 1) (tgt := 44) hx hb dX8_secretRow_1 (off := 43) (by decide) (by decide) (by decide) (by decide) ?_
    exact absurd rfl (hi9 0 (by decide))
  by_cases c_2 : i = nI 1
  · subst c_2
    refine lv_tableIn (pc := 1) (tgt := 49) hx hb dX8_secretRow_1 (off := 48) (by decide) (by decide) (by decide) (by decide) ?_
    exact absurd rfl (hi9 1 (by decide))
  by_cases c_3 : i = nI 2
  · subst c_3
    refine lv_tableIn (pc := 1) (tgt := 54) hx hb dX8_secretRow_1 (off := 53) (by decide) (by decide) (by decide) (by decide) ?_
    exact absurd rfl (hi9 2 (by decide))
  by_cases c_4 : i = nI 3
  · subst c_4
    refine lv_tableIn (pc := 1) (tgt := 59) hx hb dX8_secretRow_1 (off := 58) (by decide) (by decide) (by decide) (by decide) ?_
    exact absurd rfl (hi9 3 (by decide))
  by_cases c_5 : i = nI 4
  · subst c_5
    refine lv_tableIn (pc := 1) (tgt := 64) hx hb dX8_secretRow_1 (off := 63) (by decide) (by decide) (by decide) (by decide) ?_
    exact absurd rfl (hi9 4 (by decide))
  by_cases c_6 : i = nI 5
  · subst c_6
    refine lv_tableIn (pc := 1) (tgt := 69) hx hb dX8_secretRow_1 (off := 68) (by decide) (by decide) (by decide) (by decide) ?_
    exact absurd rfl (hi9 5 (by decide))
  by_cases c_7 : i = nI 6
  · subst c_7
    refine lv_tableIn (pc := 1) (tgt := 74) hx hb dX8_secretRow_1 (off := 73) (by decide) (by decide) (by decide) (by decide) ?_
    exact absurd rfl (hi9 6 (by decide))
  refine lv_tableOut (pc := 1) (tgt := 79) hx hb dX8_secretRow_1 (q_out (n := 6) (fun k hk => match k, hk with | 0, _ => c_1 | 1, _ => c_2 | 2, _ => c_3 | 3, _ => c_4 | 4, _ => c_5 | 5, _ => c_6 | 6, _ => c_7 | k + 7, h => absurd h (by omega)) (by decide)) (by decide) ?_
  refine lv_null (pc := 79) hx hb dX8_secretRow_79 ?_
  have hq_8 : True := trivial
  exact hret () _ _ _ _ dX8_secretRow_80 hq_8 (hP.sub [0] rfl) (hD.sub [0] (by decide) rfl) hS
theorem hdX3_tell : yX3_tell.cls ≠ "java/lang/invoke/MethodHandle" ∧ yX3_tell.cls ≠ "java/lang/invoke/VarHandle" ∧ (parseMethodDescriptor yX3_tell.desc).map (fun d => d.parameters.length) = some 2 := ⟨by decide +kernel, by decide +kernel, by decide +kernel⟩
theorem dX3_tell_0 : decode cX3_tell 0 = .ok (.aload_n 2, 1) := by decide +kernel
theorem dX3_tell_1 : decode cX3_tell 1 = .ok (.invokevirtual 33, 3) := by decide +kernel
theorem dX3_tell_4 : decode cX3_tell 4 = .ok (.iconst 3, 1) := by decide +kernel
theorem dX3_tell_5 : decode cX3_tell 5 = .ok (.idiv, 1) := by decide +kernel
theorem dX3_tell_6 : decode cX3_tell 6 = .ok (.istore_n 3, 1) := by decide +kernel
theorem dX3_tell_7 : decode cX3_tell 7 = .ok (.iload_n 1, 1) := by decide +kernel
theorem dX3_tell_8 : decode cX3_tell 8 = .ok (.iconst 3, 1) := by decide +kernel
theorem dX3_tell_9 : decode cX3_tell 9 = .ok (.if_icmp .ne 19, 3) := by decide +kernel
theorem dX3_tell_12 : decode cX3_tell 12 = .ok (.iload_n 3, 1) := by decide +kernel
theorem dX3_tell_13 : decode cX3_tell 13 = .ok (.bipush 24, 2) := by decide +kernel
theorem dX3_tell_15 : decode cX3_tell 15 = .ok (.if_icmp .eq 9, 3) := by decide +kernel
theorem dX3_tell_18 : decode cX3_tell 18 = .ok (.iload_n 3, 1) := by decide +kernel
theorem dX3_tell_19 : decode cX3_tell 19 = .ok (.bipush 32, 2) := by decide +kernel
theorem dX3_tell_21 : decode cX3_tell 21 = .ok (.if_icmp .ne 7, 3) := by decide +kernel
theorem dX3_tell_24 : decode cX3_tell 24 = .ok (.iconst 1, 1) := by decide +kernel
theorem dX3_tell_25 : decode cX3_tell 25 = .ok (.goto 4, 3) := by decide +kernel
theorem dX3_tell_28 : decode cX3_tell 28 = .ok (.iconst 0, 1) := by decide +kernel
theorem dX3_tell_29 : decode cX3_tell 29 = .ok (.istore 4, 2) := by decide +kernel
theorem dX3_tell_31 : decode cX3_tell 31 = .ok (.iload_n 1, 1) := by decide +kernel
theorem dX3_tell_32 : decode cX3_tell 32 = .ok (.iconst 2, 1) := by decide +kernel
theorem dX3_tell_33 : decode cX3_tell 33 = .ok (.if_icmp .eq 8, 3) := by decide +kernel
theorem dX3_tell_36 : decode cX3_tell 36 = .ok (.iload_n 1, 1) := by decide +kernel
theorem dX3_tell_37 : decode cX3_tell 37 = .ok (.iconst 3, 1) := by decide +kernel
theorem dX3_tell_38 : decode cX3_tell 38 = .ok (.if_icmp .ne 24, 3) := by decide +kernel
theorem dX3_tell_41 : decode cX3_tell 41 = .ok (.iload_n 3, 1) := by decide +kernel
theorem dX3_tell_42 : decode cX3_tell 42 = .ok (.iconst 3, 1) := by decide +kernel
theorem dX3_tell_43 : decode cX3_tell 43 = .ok (.imul, 1) := by decide +kernel
theorem dX3_tell_44 : decode cX3_tell 44 = .ok (.aload_n 2, 1) := by decide +kernel
theorem dX3_tell_45 : decode cX3_tell 45 = .ok (.invokevirtual 33, 3) := by decide +kernel
theorem dX3_tell_48 : decode cX3_tell 48 = .ok (.if_icmp .ne 14, 3) := by decide +kernel
theorem dX3_tell_51 : decode cX3_tell 51 = .ok (.iload_n 3, 1) := by decide +kernel
theorem dX3_tell_52 : decode cX3_tell 52 = .ok (.bipush 16, 2) := by decide +kernel
theorem dX3_tell_54 : decode cX3_tell 54 = .ok (.if_icmp .eq 10, 3) := by decide +kernel
theorem dX3_tell_57 : decode cX3_tell 57 = .ok (.iload 4, 2) := by decide +kernel
theorem dX3_tell_59 : decode cX3_tell 59 = .ok (.ifCond .ne 5, 3) := by decide +kernel
theorem dX3_tell_62 : decode cX3_tell 62 = .ok (.iconst 0, 1) := by decide +kernel
theorem dX3_tell_63 : decode cX3_tell 63 = .ok (.ireturn, 1) := by decide +kernel
theorem dX3_tell_64 : decode cX3_tell 64 = .ok (.aload_n 0, 1) := by decide +kernel
theorem dX3_tell_65 : decode cX3_tell 65 = .ok (.iload_n 1, 1) := by decide +kernel
theorem dX3_tell_66 : decode cX3_tell 66 = .ok (.putfield 9, 3) := by decide +kernel
theorem dX3_tell_69 : decode cX3_tell 69 = .ok (.aload_n 0, 1) := by decide +kernel
theorem dX3_tell_70 : decode cX3_tell 70 = .ok (.iload_n 3, 1) := by decide +kernel
theorem dX3_tell_71 : decode cX3_tell 71 = .ok (.putfield 15, 3) := by decide +kernel
theorem dX3_tell_74 : decode cX3_tell 74 = .ok (.aload_n 0, 1) := by decide +kernel
theorem dX3_tell_75 : decode cX3_tell 75 = .ok (.getfield 23, 3) := by decide +kernel
theorem dX3_tell_78 : decode cX3_tell 78 = .ok (.aload_n 2, 1) := by decide +kernel
theorem dX3_tell_79 : decode cX3_tell 79 = .ok (.iconst 0, 1) := by decide +kernel
theorem dX3_tell_80 : decode cX3_tell 80 = .ok (.iload_n 3, 1) := by decide +kernel
theorem dX3_tell_81 : decode cX3_tell 81 = .ok (.invokevirtual 37, 3) := by decide +kernel
theorem dX3_tell_84 : decode cX3_tell 84 = .ok (.aload_n 0, 1) := by decide +kernel
theorem dX3_tell_85 : decode cX3_tell 85 = .ok (.getfield 27, 3) := by decide +kernel
theorem dX3_tell_88 : decode cX3_tell 88 = .ok (.aload_n 2, 1) := by decide +kernel
theorem dX3_tell_89 : decode cX3_tell 89 = .ok (.iload_n 3, 1) := by decide +kernel
theorem dX3_tell_90 : decode cX3_tell 90 = .ok (.iconst 2, 1) := by decide +kernel
theorem dX3_tell_91 : decode cX3_tell 91 = .ok (.iload_n 3, 1) := by decide +kernel
theorem dX3_tell_92 : decode cX3_tell 92 = .ok (.imul, 1) := by decide +kernel
theorem dX3_tell_93 : decode cX3_tell 93 = .ok (.invokevirtual 37, 3) := by decide +kernel
theorem dX3_tell_96 : decode cX3_tell 96 = .ok (.aload_n 0, 1) := by decide +kernel
theorem dX3_tell_97 : decode cX3_tell 97 = .ok (.getfield 30, 3) := by decide +kernel
theorem dX3_tell_100 : decode cX3_tell 100 = .ok (.aload_n 2, 1) := by decide +kernel
theorem dX3_tell_101 : decode cX3_tell 101 = .ok (.iconst 2, 1) := by decide +kernel
theorem dX3_tell_102 : decode cX3_tell 102 = .ok (.iload_n 3, 1) := by decide +kernel
theorem dX3_tell_103 : decode cX3_tell 103 = .ok (.imul, 1) := by decide +kernel
theorem dX3_tell_104 : decode cX3_tell 104 = .ok (.iconst 3, 1) := by decide +kernel
theorem dX3_tell_105 : decode cX3_tell 105 = .ok (.iload_n 3, 1) := by decide +kernel
theorem dX3_tell_106 : decode cX3_tell 106 = .ok (.imul, 1) := by decide +kernel
theorem dX3_tell_107 : decode cX3_tell 107 = .ok (.invokevirtual 37, 3) := by decide +kernel
theorem dX3_tell_110 : decode cX3_tell 110 = .ok (.iconst 1, 1) := by decide +kernel
theorem dX3_tell_111 : decode cX3_tell 111 = .ok (.ireturn, 1) := by decide +kernel
set_option maxHeartbeats 4000000 in
set_option maxRecDepth 100000 in
theorem ct_X3_tell_yes (ll : Launch) (D : va_G) (ta : Nat → ClassId) (gs : Nat → Nat) (ky : Nat → Nat) (ru : Nat) (ln : Nat) (hta : Nat) (bta : Nat) (gta : Nat → BitVec 8) (nta : Nat) (ge : Nat → BitVec 8) (n1 : Nat) (gm : Nat → BitVec 8) (n3 : Nat) (gse : Nat → BitVec 8) (n5 : Nat) (ρ : Nat) (m : Nat) (hnt : nta = 3 * m) (hρ : (ρ = 2 ∧ m = 16) ∨ (ρ = 3 ∧ (m = 16 ∨ m = 24 ∨ m = 32))) (sz : Nat) : CT ll yX3_tell cX3_tell 5 (some .boolean) ({ frames := 3, cells := 0, slots := 0, locals := 68 } : Room) D ta ((GC gs)) [.ref (ky 0), .int (nI ρ), .ref hta] [(ky 0, oK ky ru ln), (ky 1, oR (ky 2) n1), (ky 2, aZ ta 32 ge), (ky 3, oR (ky 4) n3), (ky 4, aZ ta 32 gm), (ky 5, oR (ky 6) n5), (ky 6, aZ ta 32 gse), (hta, oR bta nta), (bta, aZ ta 400 gta)] sz (S := Bool × (Nat → BitVec 8) × (Nat → BitVec 8) × (Nat → BitVec 8)) (fun u => some (.int (qb u.1))) (fun u => (u.1 = true) ∧ (qL u.2.1 m = (qL gta nta).take m) ∧ (qL u.2.2.1 m = ((qL gta nta).take (2 * m)).drop m) ∧ (qL u.2.2.2 m = ((qL gta nta).take (3 * m)).drop (2 * m))) (fun u => [(ky 0, oK ky ρ m), (ky 1, oR (ky 2) m), (ky 2, aZ ta 32 u.2.1), (ky 3, oR (ky 4) m), (ky 4, aZ ta 32 u.2.2.1), (ky 5, oR (ky 6) m), (ky 6, aZ ta 32 u.2.2.2), (hta, oR bta nta), (bta, aZ ta 400 gta)]) 0 0 := by
  refine CT.of_z (r := fun u => u.1) rfl (by decide) (Nat.le_of_ble_eq_true rfl) ?_
  have hGok := GC_ok gs
  intro pp ee ss mm below meth kc A Q hx hb hml hown hin hts hK hA hsz hG hret H locs hP hD hS ls hl
  have hl : lv_has ls 5 [(0, .ref (ky 0)), (1, .int (nI ρ)), (2, .ref hta)] := hl
  refine lv_aload_n (pc := 0) hx hb dX3_tell_0 rfl (lv_at hl 2 rfl) ?_
  refine cs_V (pc := 1) (idx := 33) (n := 0) (wr := [(ky 0, oK ky ru ln), (ky 1, oR (ky 2) n1), (ky 2, aZ ta 32 ge), (ky 3, oR (ky 4) n3), (ky 4, aZ ta 32 gm), (ky 5, oR (ky 6) n5), (ky 6, aZ ta 32 gse)]) (As := []) (rest := []) (ci := 5) hx hb hml hown hts hGok hK hA hG hl.1 hP hD hS (ct_X6_size ll D ta hGok hta bta 400 gta nta  H.size) tw_393 tw_460 tw_391 tw_392 tw_66 hdX6_size rfl ⟨rfl, rfl, Nat.le_of_ble_eq_true rfl, Nat.le_of_ble_eq_true rfl, Nat.le_of_ble_eq_true rfl, Nat.le_of_ble_eq_true rfl⟩ rfl rfl (q0 := 7) rfl [7, 8] [0, 1, 2, 3, 4, 5, 6] rfl rfl (by decide) rfl (Nat.le_of_ble_eq_true rfl) dX3_tell_1 (fun u H locs hq hP hD hS => ?_)
  refine W.eq (g2 := F0 mm 4 ls [.int (nI nta)]) rfl ?_
  have hP : va_P D vwCl [(ky 0, oK ky ru ln), (ky 1, oR (ky 2) n1), (ky 2, aZ ta 32 ge), (ky 3, oR (ky 4) n3), (ky 4, aZ ta 32 gm), (ky 5, oR (ky 6) n5), (ky 6, aZ ta 32 gse), (hta, oR bta nta), (bta, aZ ta 400 gta)] H := hP
  have hD : va_D A [(ky 0, oK ky ru ln), (ky 1, oR (ky 2) n1), (ky 2, aZ ta 32 ge), (ky 3, oR (ky 4) n3), (ky 4, aZ ta 32 gm), (ky 5, oR (ky 6) n5), (ky 6, aZ ta 32 gse), (hta, oR bta nta), (bta, aZ ta 400 gta)] := hD
  refine lv_iconst (pc := 4) (v := nI 3) hx hb dX3_tell_4 (by decide +kernel) ?_
  refine lv_idiv (pc := 5) hx hb dX3_tell_5 (q_ne0 (by omega) (by omega)) ?_
  refine q_top (y := nI (nta / 3)) (pk_div (by omega) (by omega) (by omega)) ?_
  refine q_top (y := nI m) (congrArg nI (by omega)) ?_
  refine lv_istore_n (pc := 6) (lv' := [(3, .int (nI m)), (0, .ref (ky 0)), (1, .int (nI ρ)), (2, .ref hta)]) hx hb dX3_tell_6 rfl hl (by decide) rfl (fun ls hl => ?_)
  refine lv_iload_n (pc := 7) hx hb dX3_tell_7 rfl (lv_at hl 2 rfl) ?_
  refine lv_iconst (pc := 8) (v := nI 3) hx hb dX3_tell_8 (by decide +kernel) ?_
  refine lv_icmp_ne (pc := 9) (tgt := 28) hx hb dX3_tell_9 (by decide) (fun c_1 => ?_) (fun c_1 => ?_)
  · skip
    rw [nI_eq (by omega) (by omega)] at c_1
    refine lv_iconst (pc := 28) (v := nI 0) hx hb dX3_tell_28 (by decide +kernel) ?_
    refine lv_istore (pc := 29) (lv' := [(4, .int (nI 0)), (3, .int (nI m)), (0, .ref (ky 0)), (1, .int (nI ρ)), (2, .ref hta)]) hx hb dX3_tell_29 hl (by decide) rfl (fun ls hl => ?_)
    refine lv_iload_n (pc := 31) hx hb dX3_tell_31 rfl (lv_at hl 3 rfl) ?_
    refine lv_iconst (pc := 32) (v := nI 2) hx hb dX3_tell_32 (by decide +kernel) ?_
    refine lv_icmp_eq (pc := 33) (tgt := 41) hx hb dX3_tell_33 (by decide) (fun c_2 => ?_) (fun c_2 => ?_)
    · skip
      rw [nI_eq (by omega) (by omega)] at c_2
      refine lv_iload_n (pc := 41) hx hb dX3_tell_41 rfl (lv_at hl 1 rfl) ?_
      refine lv_iconst (pc := 42) (v := nI 3) hx hb dX3_tell_42 (by decide +kernel) ?_
      refine lv_imul (pc := 43) hx hb dX3_tell_43 ?_
      refine q_top (y := nI (m * 3)) (pk_mul m 3) ?_
      refine lv_aload_n (pc := 44) hx hb dX3_tell_44 rfl (lv_at hl 4 rfl) ?_
      refine cs_V (pc := 45) (idx := 33) (n := 0) (wr := [(ky 0, oK ky ru ln), (ky 1, oR (ky 2) n1), (ky 2, aZ ta 32 ge), (ky 3, oR (ky 4) n3), (ky 4, aZ ta 32 gm), (ky 5, oR (ky 6) n5), (ky 6, aZ ta 32 gse)]) (As := []) (rest := [.int (nI (m * 3))]) (ci := 5) hx hb hml hown hts hGok hK hA hG hl.1 hP hD hS (ct_X6_size ll D ta hGok hta bta 400 gta nta  H.size) tw_393 tw_460 tw_391 tw_392 tw_66 hdX6_size rfl ⟨rfl, rfl, Nat.le_of_ble_eq_true rfl, Nat.le_of_ble_eq_true rfl, Nat.le_of_ble_eq_true rfl, Nat.le_of_ble_eq_true rfl⟩ rfl rfl (q0 := 7) rfl [7, 8] [0, 1, 2, 3, 4, 5, 6] rfl rfl (by decide) rfl (Nat.le_of_ble_eq_true rfl) dX3_tell_45 (fun u H locs hq hP hD hS => ?_)
      refine W.eq (g2 := F0 mm 48 ls [.int (nI nta), .int (nI (m * 3))]) rfl ?_
      have hP : va_P D vwCl [(ky 0, oK ky ru ln), (ky 1, oR (ky 2) n1), (ky 2, aZ ta 32 ge), (ky 3, oR (ky 4) n3), (ky 4, aZ ta 32 gm), (ky 5, oR (ky 6) n5), (ky 6, aZ ta 32 gse), (hta, oR bta nta), (bta, aZ ta 400 gta)] H := hP
      have hD : va_D A [(ky 0, oK ky ru ln), (ky 1, oR (ky 2) n1), (ky 2, aZ ta 32 ge), (ky 3, oR (ky 4) n3), (ky 4, aZ ta 32 gm), (ky 5, oR (ky 6) n5), (ky 6, aZ ta 32 gse), (hta, oR bta nta), (bta, aZ ta 400 gta)] := hD
      refine lv_icmp_ne (pc := 48) (tgt := 62) hx hb dX3_tell_48 (by decide) (fun c_3 => ?_) (fun c_3 => ?_)
      · skip
        rw [nI_eq (by omega) (by omega)] at c_3
        exfalso; omega
      · skip
        rw [nI_eq (by omega) (by omega)] at c_3
        refine lv_iload_n (pc := 51) hx hb dX3_tell_51 rfl (lv_at hl 1 rfl) ?_
        refine lv_bipush (pc := 52) (v := nI 16) hx hb dX3_tell_52 (by decide +kernel) ?_
        refine lv_icmp_eq (pc := 54) (tgt := 64) hx hb dX3_tell_54 (by decide) (fun c_4 => ?_) (fun c_4 => ?_)
        · skip
          rw [nI_eq (by omega) (by omega)] at c_4
          refine lv_aload_n (pc := 64) hx hb dX3_tell_64 rfl (lv_at hl 2 rfl) ?_
          refine lv_iload_n (pc := 65) hx hb dX3_tell_65 rfl (lv_at hl 3 rfl) ?_
          refine va_put (pc := 66) (D := D) (ci := 2) (v := .int (nI ρ)) (ty := .int) (C := RX3) (T := TX3) (N := 5) hx hb hts iu3 tyX3 tyX3_ok nmX3 hown hK hP hD hS 0 rfl rfl 0 (by decide) (hts _ tw_106) (fun _ h9 => h9) rfl (by decide +kernel) rfl rfl (Nat.le_of_ble_eq_true rfl) dX3_tell_66 (fun H locs hP hD hS => ?_)
          have hP : va_P D vwCl [(ky 0, oK ky ρ ln), (ky 1, oR (ky 2) n1), (ky 2, aZ ta 32 ge), (ky 3, oR (ky 4) n3), (ky 4, aZ ta 32 gm), (ky 5, oR (ky 6) n5), (ky 6, aZ ta 32 gse), (hta, oR bta nta), (bta, aZ ta 400 gta)] H := hP
          have hD : va_D A [(ky 0, oK ky ρ ln), (ky 1, oR (ky 2) n1), (ky 2, aZ ta 32 ge), (ky 3, oR (ky 4) n3), (ky 4, aZ ta 32 gm), (ky 5, oR (ky 6) n5), (ky 6, aZ ta 32 gse), (hta, oR bta nta), (bta, aZ ta 400 gta)] := hD
          refine lv_aload_n (pc := 69) hx hb dX3_tell_69 rfl (lv_at hl 2 rfl) ?_
          refine lv_iload_n (pc := 70) hx hb dX3_tell_70 rfl (lv_at hl 1 rfl) ?_
          refine va_put (pc := 71) (D := D) (ci := 2) (v := .int (nI m)) (ty := .int) (C := RX3) (T := TX3) (N := 5) hx hb hts iu3 tyX3 tyX3_ok nmX3 hown hK hP hD hS 0 rfl rfl 1 (by decide) (hts _ tw_108) (fun _ h9 => h9) rfl (by decide +kernel) rfl rfl (Nat.le_of_ble_eq_true rfl) dX3_tell_71 (fun H locs hP hD hS => ?_)
          have hP : va_P D vwCl [(ky 0, oK ky ρ m), (ky 1, oR (ky 2) n1), (ky 2, aZ ta 32 ge), (ky 3, oR (ky 4) n3), (ky 4, aZ ta 32 gm), (ky 5, oR (ky 6) n5), (ky 6, aZ ta 32 gse), (hta, oR bta nta), (bta, aZ ta 400 gta)] H := hP
          have hD : va_D A [(ky 0, oK ky ρ m), (ky 1, oR (ky 2) n1), (ky 2, aZ ta 32 ge), (ky 3, oR (ky 4) n3), (ky 4, aZ ta 32 gm), (ky 5, oR (ky 6) n5), (ky 6, aZ ta 32 gse), (hta, oR bta nta), (bta, aZ ta 400 gta)] := hD
          refine lv_aload_n (pc := 74) hx hb dX3_tell_74 rfl (lv_at hl 2 rfl) ?_
          refine va_get (pc := 75) (D := D) (ci := 2) (v := .ref (ky 1)) (C := RX3) (T := TX3) (N := 5) hx hb hts iu3 hown hK hP 0 rfl rfl 2 (by decide) (hts _ tw_111) (fun _ h9 => h9) rfl dX3_tell_75 ?_
          refine lv_aload_n (pc := 78) hx hb dX3_tell_78 rfl (lv_at hl 4 rfl) ?_
          refine lv_iconst (pc := 79) (v := nI 0) hx hb dX3_tell_79 (by decide +kernel) ?_
          refine lv_iload_n (pc := 80) hx hb dX3_tell_80 rfl (lv_at hl 1 rfl) ?_
          refine cs_V (pc := 81) (idx := 37) (n := 3) (wr := [(ky 0, oK ky ρ m), (ky 3, oR (ky 4) n3), (ky 4, aZ ta 32 gm), (ky 5, oR (ky 6) n5), (ky 6, aZ ta 32 gse)]) (As := [.ref hta, .int (nI 0), .int (nI m)]) (rest := []) (ci := 5) hx hb hml hown hts hGok hK hA hG hl.1 hP hD hS (ct_X6_copyPart ll D ta hGok (ky 1) (ky 2) 32 ge n1 hta bta 400 gta nta 0 m (by first | assumption | omega | rfl | decide) (by first | assumption | omega | rfl | decide) (by first | assumption | omega | rfl | decide) (by first | assumption | omega | rfl | decide) (by first | assumption | omega | rfl | decide) (by first | assumption | omega | rfl | decide) H.size) tw_464 tw_461 tw_462 tw_463 tw_66 hdX6_copyPart rfl ⟨rfl, rfl, Nat.le_of_ble_eq_true rfl, Nat.le_of_ble_eq_true rfl, Nat.le_of_ble_eq_true rfl, Nat.le_of_ble_eq_true rfl⟩ rfl rfl (q0 := 1) rfl [1, 2, 7, 8] [0, 3, 4, 5, 6] rfl rfl (by decide) rfl (Nat.le_of_ble_eq_true rfl) dX3_tell_81 (fun u H locs hq hP hD hS => ?_)
          obtain ⟨g1_81, n1_81⟩ := u
          have hq : (n1_81 = min m nta - 0) ∧ (qL g1_81 n1_81 = ((qL gta nta).take m).drop 0) := hq
          obtain ⟨hm_81, hL_81⟩ := hq
          refine W.eq (g2 := F0 mm 84 ls []) rfl ?_
          have hP : va_P D vwCl [(ky 0, oK ky ρ m), (ky 3, oR (ky 4) n3), (ky 4, aZ ta 32 gm), (ky 5, oR (ky 6) n5), (ky 6, aZ ta 32 gse), (ky 1, oR (ky 2) n1_81), (ky 2, aZ ta 32 g1_81), (hta, oR bta nta), (bta, aZ ta 400 gta)] H := hP
          have hD : va_D A [(ky 0, oK ky ρ m), (ky 3, oR (ky 4) n3), (ky 4, aZ ta 32 gm), (ky 5, oR (ky 6) n5), (ky 6, aZ ta 32 gse), (ky 1, oR (ky 2) n1_81), (ky 2, aZ ta 32 g1_81), (hta, oR bta nta), (bta, aZ ta 400 gta)] := hD
          have en_5 : m = n1_81 := by omega
          subst en_5
          refine lv_aload_n (pc := 84) hx hb dX3_tell_84 rfl (lv_at hl 2 rfl) ?_
          refine va_get (pc := 85) (D := D) (ci := 2) (v := .ref (ky 3)) (C := RX3) (T := TX3) (N := 5) hx hb hts iu3 hown hK hP 0 rfl rfl 3 (by decide) (hts _ tw_114) (fun _ h9 => h9) rfl dX3_tell_85 ?_
          refine lv_aload_n (pc := 88) hx hb dX3_tell_88 rfl (lv_at hl 4 rfl) ?_
          refine lv_iload_n (pc := 89) hx hb dX3_tell_89 rfl (lv_at hl 1 rfl) ?_
          refine lv_iconst (pc := 90) (v := nI 2) hx hb dX3_tell_90 (by decide +kernel) ?_
          refine lv_iload_n (pc := 91) hx hb dX3_tell_91 rfl (lv_at hl 1 rfl) ?_
          refine lv_imul (pc := 92) hx hb dX3_tell_92 ?_
          refine q_top (y := nI (2 * m)) (pk_mul 2 m) ?_
          refine cs_V (pc := 93) (idx := 37) (n := 3) (wr := [(ky 0, oK ky ρ m), (ky 5, oR (ky 6) n5), (ky 6, aZ ta 32 gse), (ky 1, oR (ky 2) m), (ky 2, aZ ta 32 g1_81)]) (As := [.ref hta, .int (nI m), .int (nI (2 * m))]) (rest := []) (ci := 5) hx hb hml hown hts hGok hK hA hG hl.1 hP hD hS (ct_X6_copyPart ll D ta hGok (ky 3) (ky 4) 32 gm n3 hta bta 400 gta nta m (2 * m) (by first | assumption | omega | rfl | decide) (by first | assumption | omega | rfl | decide) (by first | assumption | omega | rfl | decide) (by first | assumption | omega | rfl | decide) (by first | assumption | omega | rfl | decide) (by first | assumption | omega | rfl | decide) H.size) tw_464 tw_461 tw_462 tw_463 tw_66 hdX6_copyPart rfl ⟨rfl, rfl, Nat.le_of_ble_eq_true rfl, Nat.le_of_ble_eq_true rfl, Nat.le_of_ble_eq_true rfl, Nat.le_of_ble_eq_true rfl⟩ rfl rfl (q0 := 1) rfl [1, 2, 7, 8] [0, 3, 4, 5, 6] rfl rfl (by decide) rfl (Nat.le_of_ble_eq_true rfl) dX3_tell_93 (fun u H locs hq hP hD hS => ?_)
          obtain ⟨g1_93, n1_93⟩ := u
          have hq : (n1_93 = min (2 * m) nta - m) ∧ (qL g1_93 n1_93 = ((qL gta nta).take (2 * m)).drop m) := hq
          obtain ⟨hm_93, hL_93⟩ := hq
          refine W.eq (g2 := F0 mm 96 ls []) rfl ?_
          have hP : va_P D vwCl [(ky 0, oK ky ρ m), (ky 5, oR (ky 6) n5), (ky 6, aZ ta 32 gse), (ky 1, oR (ky 2) m), (ky 2, aZ ta 32 g1_81), (ky 3, oR (ky 4) n1_93), (ky 4, aZ ta 32 g1_93), (hta, oR bta nta), (bta, aZ ta 400 gta)] H := hP
          have hD : va_D A [(ky 0, oK ky ρ m), (ky 5, oR (ky 6) n5), (ky 6, aZ ta 32 gse), (ky 1, oR (ky 2) m), (ky 2, aZ ta 32 g1_81), (ky 3, oR (ky 4) n1_93), (ky 4, aZ ta 32 g1_93), (hta, oR bta nta), (bta, aZ ta 400 gta)] := hD
          have en_6 : m = n1_93 := by omega
          subst en_6
          refine lv_aload_n (pc := 96) hx hb dX3_tell_96 rfl (lv_at hl 2 rfl) ?_
          refine va_get (pc := 97) (D := D) (ci := 2) (v := .ref (ky 5)) (C := RX3) (T := TX3) (N := 5) hx hb hts iu3 hown hK hP 0 rfl rfl 4 (by decide) (hts _ tw_117) (fun _ h9 => h9) rfl dX3_tell_97 ?_
          refine lv_aload_n (pc := 100) hx hb dX3_tell_100 rfl (lv_at hl 4 rfl) ?_
          refine lv_iconst (pc := 101) (v := nI 2) hx hb dX3_tell_101 (by decide +kernel) ?_
          refine lv_iload_n (pc := 102) hx hb dX3_tell_102 rfl (lv_at hl 1 rfl) ?_
          refine lv_imul (pc := 103) hx hb dX3_tell_103 ?_
          refine q_top (y := nI (2 * m)) (pk_mul 2 m) ?_
          refine lv_iconst (pc := 104) (v := nI 3) hx hb dX3_tell_104 (by decide +kernel) ?_
          refine lv_iload_n (pc := 105) hx hb dX3_tell_105 rfl (lv_at hl 1 rfl) ?_
          refine lv_imul (pc := 106) hx hb dX3_tell_106 ?_
          refine q_top (y := nI (3 * m)) (pk_mul 3 m) ?_
          refine cs_V (pc := 107) (idx := 37) (n := 3) (wr := [(ky 0, oK ky ρ m), (ky 1, oR (ky 2) m), (ky 2, aZ ta 32 g1_81), (ky 3, oR (ky 4) m), (ky 4, aZ ta 32 g1_93)]) (As := [.ref hta, .int (nI (2 * m)), .int (nI (3 * m))]) (rest := []) (ci := 5) hx hb hml hown hts hGok hK hA hG hl.1 hP hD hS (ct_X6_copyPart ll D ta hGok (ky 5) (ky 6) 32 gse n5 hta bta 400 gta nta (2 * m) (3 * m) (by first | assumption | omega | rfl | decide) (by first | assumption | omega | rfl | decide) (by first | assumption | omega | rfl | decide) (by first | assumption | omega | rfl | decide) (by first | assumption | omega | rfl | decide) (by first | assumption | omega | rfl | decide) H.size) tw_464 tw_461 tw_462 tw_463 tw_66 hdX6_copyPart rfl ⟨rfl, rfl, Nat.le_of_ble_eq_true rfl, Nat.le_of_ble_eq_true rfl, Nat.le_of_ble_eq_true rfl, Nat.le_of_ble_eq_true rfl⟩ rfl rfl (q0 := 1) rfl [1, 2, 7, 8] [0, 3, 4, 5, 6] rfl rfl (by decide) rfl (Nat.le_of_ble_eq_true rfl) dX3_tell_107 (fun u H locs hq hP hD hS => ?_)
          obtain ⟨g1_107, n1_107⟩ := u
          have hq : (n1_107 = min (3 * m) nta - (2 * m)) ∧ (qL g1_107 n1_107 = ((qL gta nta).take (3 * m)).drop (2 * m)) := hq
          obtain ⟨hm_107, hL_107⟩ := hq
          refine W.eq (g2 := F0 mm 110 ls []) rfl ?_
          have hP : va_P D vwCl [(ky 0, oK ky ρ m), (ky 1, oR (ky 2) m), (ky 2, aZ ta 32 g1_81), (ky 3, oR (ky 4) m), (ky 4, aZ ta 32 g1_93), (ky 5, oR (ky 6) n1_107), (ky 6, aZ ta 32 g1_107), (hta, oR bta nta), (bta, aZ ta 400 gta)] H := hP
          have hD : va_D A [(ky 0, oK ky ρ m), (ky 1, oR (ky 2) m), (ky 2, aZ ta 32 g1_81), (ky 3, oR (ky 4) m), (ky 4, aZ ta 32 g1_93), (ky 5, oR (ky 6) n1_107), (ky 6, aZ ta 32 g1_107), (hta, oR bta nta), (bta, aZ ta 400 gta)] := hD
          have en_7 : m = n1_107 := by omega
          subst en_7
          refine lv_iconst (pc := 110) (v := nI 1) hx hb dX3_tell_110 (by decide +kernel) ?_
          refine q_top (y := qb true) (by first | rfl | decide +kernel | (simp; done)) ?_
          have hq_8 : (true = true) ∧ (qL g1_81 m = (qL gta nta).take m) ∧ (qL g1_93 m = ((qL gta nta).take (2 * m)).drop m) ∧ (qL g1_107 m = ((qL gta nta).take (3 * m)).drop (2 * m)) := by
            exact ⟨rfl, hL_81, hL_93, hL_107⟩
          exact hret (⟨(true), (g1_81), (g1_93), (g1_107)⟩ : Bool × (Nat → BitVec 8) × (Nat → BitVec 8) × (Nat → BitVec 8)) _ _ _ _ dX3_tell_111 hq_8 (hP.sub [0, 1, 2, 3, 4, 5, 6, 7, 8] rfl) (hD.sub [0, 1, 2, 3, 4, 5, 6, 7, 8] (by decide) rfl) hS
        · skip
          rw [nI_eq (by omega) (by omega)] at c_4
          refine lv_iload (pc := 57) hx hb dX3_tell_57 (lv_at hl 0 rfl) ?_
          refine lv_if_ne (pc := 59) (tgt := 64) hx hb dX3_tell_59 (by decide) (fun c_9 => absurd (by decide) c_9) (fun _ => ?_)
          exfalso; omega
    · skip
      rw [nI_eq (by omega) (by omega)] at c_2
      refine lv_iload_n (pc := 36) hx hb dX3_tell_36 rfl (lv_at hl 3 rfl) ?_
      refine lv_iconst (pc := 37) (v := nI 3) hx hb dX3_tell_37 (by decide +kernel) ?_
      refine lv_icmp_ne (pc := 38) (tgt := 62) hx hb dX3_tell_38 (by decide) (fun c_10 => ?_) (fun c_10 => ?_)
      · skip
        rw [nI_eq (by omega) (by omega)] at c_10
        exfalso; omega
      · skip
        rw [nI_eq (by omega) (by omega)] at c_10
        refine lv_iload_n (pc := 41) hx hb dX3_tell_41 rfl (lv_at hl 1 rfl) ?_
        refine lv_iconst (pc := 42) (v := nI 3) hx hb dX3_tell_42 (by decide +kernel) ?_
        refine lv_imul (pc := 43) hx hb dX3_tell_43 ?_
        refine q_top (y := nI (m * 3)) (pk_mul m 3) ?_
        refine lv_aload_n (pc := 44) hx hb dX3_tell_44 rfl (lv_at hl 4 rfl) ?_
        refine cs_V (pc := 45) (idx := 33) (n := 0) (wr := [(ky 0, oK ky ru ln), (ky 1, oR (ky 2) n1), (ky 2, aZ ta 32 ge), (ky 3, oR (ky 4) n3), (ky 4, aZ ta 32 gm), (ky 5, oR (ky 6) n5), (ky 6, aZ ta 32 gse)]) (As := []) (rest := [.int (nI (m * 3))]) (ci := 5) hx hb hml hown hts hGok hK hA hG hl.1 hP hD hS (ct_X6_size ll D ta hGok hta bta 400 gta nta  H.size) tw_393 tw_460 tw_391 tw_392 tw_66 hdX6_size rfl ⟨rfl, rfl, Nat.le_of_ble_eq_true rfl, Nat.le_of_ble_eq_true rfl, Nat.le_of_ble_eq_true rfl, Nat.le_of_ble_eq_true rfl⟩ rfl rfl (q0 := 7) rfl [7, 8] [0, 1, 2, 3, 4, 5, 6] rfl rfl (by decide) rfl (Nat.le_of_ble_eq_true rfl) dX3_tell_45 (fun u H locs hq hP hD hS => ?_)
        refine W.eq (g2 := F0 mm 48 ls [.int (nI nta), .int (nI (m * 3))]) rfl ?_
        have hP : va_P D vwCl [(ky 0, oK ky ru ln), (ky 1, oR (ky 2) n1), (ky 2, aZ ta 32 ge), (ky 3, oR (ky 4) n3), (ky 4, aZ ta 32 gm), (ky 5, oR (ky 6) n5), (ky 6, aZ ta 32 gse), (hta, oR bta nta), (bta, aZ ta 400 gta)] H := hP
        have hD : va_D A [(ky 0, oK ky ru ln), (ky 1, oR (ky 2) n1), (ky 2, aZ ta 32 ge), (ky 3, oR (ky 4) n3), (ky 4, aZ ta 32 gm), (ky 5, oR (ky 6) n5), (ky 6, aZ ta 32 gse), (hta, oR bta nta), (bta, aZ ta 400 gta)] := hD
        refine lv_icmp_ne (pc := 48) (tgt := 62) hx hb dX3_tell_48 (by decide) (fun c_11 => ?_) (fun c_11 => ?_)
        · skip
          rw [nI_eq (by omega) (by omega)] at c_11
          exfalso; omega
        · skip
          rw [nI_eq (by omega) (by omega)] at c_11
          refine lv_iload_n (pc := 51) hx hb dX3_tell_51 rfl (lv_at hl 1 rfl) ?_
          refine lv_bipush (pc := 52) (v := nI 16) hx hb dX3_tell_52 (by decide +kernel) ?_
          refine lv_icmp_eq (pc := 54) (tgt := 64) hx hb dX3_tell_54 (by decide) (fun c_12 => ?_) (fun c_12 => ?_)
          · skip
            rw [nI_eq (by omega) (by omega)] at c_12
            refine lv_aload_n (pc := 64) hx hb dX3_tell_64 rfl (lv_at hl 2 rfl) ?_
            refine lv_iload_n (pc := 65) hx hb dX3_tell_65 rfl (lv_at hl 3 rfl) ?_
            refine va_put (pc := 66) (D := D) (ci := 2) (v := .int (nI ρ)) (ty := .int) (C := RX3) (T := TX3) (N := 5) hx hb hts iu3 tyX3 tyX3_ok nmX3 hown hK hP hD hS 0 rfl rfl 0 (by decide) (hts _ tw_106) (fun _ h9 => h9) rfl (by decide +kernel) rfl rfl (Nat.le_of_ble_eq_true rfl) dX3_tell_66 (fun H locs hP hD hS => ?_)
            have hP : va_P D vwCl [(ky 0, oK ky ρ ln), (ky 1, oR (ky 2) n1), (ky 2, aZ ta 32 ge), (ky 3, oR (ky 4) n3), (ky 4, aZ ta 32 gm), (ky 5, oR (ky 6) n5), (ky 6, aZ ta 32 gse), (hta, oR bta nta), (bta, aZ ta 400 gta)] H := hP
            have hD : va_D A [(ky 0, oK ky ρ ln), (ky 1, oR (ky 2) n1), (ky 2, aZ ta 32 ge), (ky 3, oR (ky 4) n3), (ky 4, aZ ta 32 gm), (ky 5, oR (ky 6) n5), (ky 6, aZ ta 32 gse), (hta, oR bta nta), (bta, aZ ta 400 gta)] := hD
            refine lv_aload_n (pc := 69) hx hb dX3_tell_69 rfl (lv_at hl 2 rfl) ?_
            refine lv_iload_n (pc := 70) hx hb dX3_tell_70 rfl (lv_at hl 1 rfl) ?_
            refine va_put (pc := 71) (D := D) (ci := 2) (v := .int (nI m)) (ty := .int) (C := RX3) (T := TX3) (N := 5) hx hb hts iu3 tyX3 tyX3_ok nmX3 hown hK hP hD hS 0 rfl rfl 1 (by decide) (hts _ tw_108) (fun _ h9 => h9) rfl (by decide +kernel) rfl rfl (Nat.le_of_ble_eq_true rfl) dX3_tell_71 (fun H locs hP hD hS => ?_)
            have hP : va_P D vwCl [(ky 0, oK ky ρ m), (ky 1, oR (ky 2) n1), (ky 2, aZ ta 32 ge), (ky 3, oR (ky 4) n3), (ky 4, aZ ta 32 gm), (ky 5, oR (ky 6) n5), (ky 6, aZ ta 32 gse), (hta, oR bta nta), (bta, aZ ta 400 gta)] H := hP
            have hD : va_D A [(ky 0, oK ky ρ m), (ky 1, oR (ky 2) n1), (ky 2, aZ ta 32 ge), (ky 3, oR (ky 4) n3), (ky 4, aZ ta 32 gm), (ky 5, oR (ky 6) n5), (ky 6, aZ ta 32 gse), (hta, oR bta nta), (bta, aZ ta 400 gta)] := hD
            refine lv_aload_n (pc := 74) hx hb dX3_tell_74 rfl (lv_at hl 2 rfl) ?_
            refine va_get (pc := 75) (D := D) (ci := 2) (v := .ref (ky 1)) (C := RX3) (T := TX3) (N := 5) hx hb hts iu3 hown hK hP 0 rfl rfl 2 (by decide) (hts _ tw_111) (fun _ h9 => h9) rfl dX3_tell_75 ?_
            refine lv_aload_n (pc := 78) hx hb dX3_tell_78 rfl (lv_at hl 4 rfl) ?_
            refine lv_iconst (pc := 79) (v := nI 0) hx hb dX3_tell_79 (by decide +kernel) ?_
            refine lv_iload_n (pc := 80) hx hb dX3_tell_80 rfl (lv_at hl 1 rfl) ?_
            refine cs_V (pc := 81) (idx := 37) (n := 3) (wr := [(ky 0, oK ky ρ m), (ky 3, oR (ky 4) n3), (ky 4, aZ ta 32 gm), (ky 5, oR (ky 6) n5), (ky 6, aZ ta 32 gse)]) (As := [.ref hta, .int (nI 0), .int (nI m)]) (rest := []) (ci := 5) hx hb hml hown hts hGok hK hA hG hl.1 hP hD hS (ct_X6_copyPart ll D ta hGok (ky 1) (ky 2) 32 ge n1 hta bta 400 gta nta 0 m (by first | assumption | omega | rfl | decide) (by first | assumption | omega | rfl | decide) (by first | assumption | omega | rfl | decide) (by first | assumption | omega | rfl | decide) (by first | assumption | omega | rfl | decide) (by first | assumption | omega | rfl | decide) H.size) tw_464 tw_461 tw_462 tw_463 tw_66 hdX6_copyPart rfl ⟨rfl, rfl, Nat.le_of_ble_eq_true rfl, Nat.le_of_ble_eq_true rfl, Nat.le_of_ble_eq_true rfl, Nat.le_of_ble_eq_true rfl⟩ rfl rfl (q0 := 1) rfl [1, 2, 7, 8] [0, 3, 4, 5, 6] rfl rfl (by decide) rfl (Nat.le_of_ble_eq_true rfl) dX3_tell_81 (fun u H locs hq hP hD hS => ?_)
            obtain ⟨g1_81, n1_81⟩ := u
            have hq : (n1_81 = min m nta - 0) ∧ (qL g1_81 n1_81 = ((qL gta nta).take m).drop 0) := hq
            obtain ⟨hm_81, hL_81⟩ := hq
            refine W.eq (g2 := F0 mm 84 ls []) rfl ?_
            have hP : va_P D vwCl [(ky 0, oK ky ρ m), (ky 3, oR (ky 4) n3), (ky 4, aZ ta 32 gm), (ky 5, oR (ky 6) n5), (ky 6, aZ ta 32 gse), (ky 1, oR (ky 2) n1_81), (ky 2, aZ ta 32 g1_81), (hta, oR bta nta), (bta, aZ ta 400 gta)] H := hP
            have hD : va_D A [(ky 0, oK ky ρ m), (ky 3, oR (ky 4) n3), (ky 4, aZ ta 32 gm), (ky 5, oR (ky 6) n5), (ky 6, aZ ta 32 gse), (ky 1, oR (ky 2) n1_81), (ky 2, aZ ta 32 g1_81), (hta, oR bta nta), (bta, aZ ta 400 gta)] := hD
            have en_13 : m = n1_81 := by omega
            subst en_13
            refine lv_aload_n (pc := 84) hx hb dX3_tell_84 rfl (lv_at hl 2 rfl) ?_
            refine va_get (pc := 85) (D := D) (ci := 2) (v := .ref (ky 3)) (C := RX3) (T := TX3) (N := 5) hx hb hts iu3 hown hK hP 0 rfl rfl 3 (by decide) (hts _ tw_114) (fun _ h9 => h9) rfl dX3_tell_85 ?_
            refine lv_aload_n (pc := 88) hx hb dX3_tell_88 rfl (lv_at hl 4 rfl) ?_
            refine lv_iload_n (pc := 89) hx hb dX3_tell_89 rfl (lv_at hl 1 rfl) ?_
            refine lv_iconst (pc := 90) (v := nI 2) hx hb dX3_tell_90 (by decide +kernel) ?_
            refine lv_iload_n (pc := 91) hx hb dX3_tell_91 rfl (lv_at hl 1 rfl) ?_
            refine lv_imul (pc := 92) hx hb dX3_tell_92 ?_
            refine q_top (y := nI (2 * m)) (pk_mul 2 m) ?_
            refine cs_V (pc := 93) (idx := 37) (n := 3) (wr := [(ky 0, oK ky ρ m), (ky 5, oR (ky 6) n5), (ky 6, aZ ta 32 gse), (ky 1, oR (ky 2) m), (ky 2, aZ ta 32 g1_81)]) (As := [.ref hta, .int (nI m), .int (nI (2 * m))]) (rest := []) (ci := 5) hx hb hml hown hts hGok hK hA hG hl.1 hP hD hS (ct_X6_copyPart ll D ta hGok (ky 3) (ky 4) 32 gm n3 hta bta 400 gta nta m (2 * m) (by first | assumption | omega | rfl | decide) (by first | assumption | omega | rfl | decide) (by first | assumption | omega | rfl | decide) (by first | assumption | omega | rfl | decide) (by first | assumption | omega | rfl | decide) (by first | assumption | omega | rfl | decide) H.size) tw_464 tw_461 tw_462 tw_463 tw_66 hdX6_copyPart rfl ⟨rfl, rfl, Nat.le_of_ble_eq_true rfl, Nat.le_of_ble_eq_true rfl, Nat.le_of_ble_eq_true rfl, Nat.le_of_ble_eq_true rfl⟩ rfl rfl (q0 := 1) rfl [1, 2, 7, 8] [0, 3, 4, 5, 6] rfl rfl (by decide) rfl (Nat.le_of_ble_eq_true rfl) dX3_tell_93 (fun u H locs hq hP hD hS => ?_)
            obtain ⟨g1_93, n1_93⟩ := u
            have hq : (n1_93 = min (2 * m) nta - m) ∧ (qL g1_93 n1_93 = ((qL gta nta).take (2 * m)).drop m) := hq
            obtain ⟨hm_93, hL_93⟩ := hq
            refine W.eq (g2 := F0 mm 96 ls []) rfl ?_
            have hP : va_P D vwCl [(ky 0, oK ky ρ m), (ky 5, oR (ky 6) n5), (ky 6, aZ ta 32 gse), (ky 1, oR (ky 2) m), (ky 2, aZ ta 32 g1_81), (ky 3, oR (ky 4) n1_93), (ky 4, aZ ta 32 g1_93), (hta, oR bta nta), (bta, aZ ta 400 gta)] H := hP
            have hD : va_D A [(ky 0, oK ky ρ m), (ky 5, oR (ky 6) n5), (ky 6, aZ ta 32 gse), (ky 1, oR (ky 2) m), (ky 2, aZ ta 32 g1_81), (ky 3, oR (ky 4) n1_93), (ky 4, aZ ta 32 g1_93), (hta, oR bta nta), (bta, aZ ta 400 gta)] := hD
            have en_14 : m = n1_93 := by omega
            subst en_14
            refine lv_aload_n (pc := 96) hx hb dX3_tell_96 rfl (lv_at hl 2 rfl) ?_
            refine va_get (pc := 97) (D := D) (ci := 2) (v := .ref (ky 5)) (C := RX3) (T := TX3) (N := 5) hx hb hts iu3 hown hK hP 0 rfl rfl 4 (by decide) (hts _ tw_117) (fun _ h9 => h9) rfl dX3_tell_97 ?_
            refine lv_aload_n (pc := 100) hx hb dX3_tell_100 rfl (lv_at hl 4 rfl) ?_
            refine lv_iconst (pc := 101) (v := nI 2) hx hb dX3_tell_101 (by decide +kernel) ?_
            refine lv_iload_n (pc := 102) hx hb dX3_tell_102 rfl (lv_at hl 1 rfl) ?_
            refine lv_imul (pc := 103) hx hb dX3_tell_103 ?_
            refine q_top (y := nI (2 * m)) (pk_mul 2 m) ?_
            refine lv_iconst (pc := 104) (v := nI 3) hx hb dX3_tell_104 (by decide +kernel) ?_
            refine lv_iload_n (pc := 105) hx hb dX3_tell_105 rfl (lv_at hl 1 rfl) ?_
            refine lv_imul (pc := 106) hx hb dX3_tell_106 ?_
            refine q_top (y := nI (3 * m)) (pk_mul 3 m) ?_
            refine cs_V (pc := 107) (idx := 37) (n := 3) (wr := [(ky 0, oK ky ρ m), (ky 1, oR (ky 2) m), (ky 2, aZ ta 32 g1_81), (ky 3, oR (ky 4) m), (ky 4, aZ ta 32 g1_93)]) (As := [.ref hta, .int (nI (2 * m)), .int (nI (3 * m))]) (rest := []) (ci := 5) hx hb hml hown hts hGok hK hA hG hl.1 hP hD hS (ct_X6_copyPart ll D ta hGok (ky 5) (ky 6) 32 gse n5 hta bta 400 gta nta (2 * m) (3 * m) (by first | assumption | omega | rfl | decide) (by first | assumption | omega | rfl | decide) (by first | assumption | omega | rfl | decide) (by first | assumption | omega | rfl | decide) (by first | assumption | omega | rfl | decide) (by first | assumption | omega | rfl | decide) H.size) tw_464 tw_461 tw_462 tw_463 tw_66 hdX6_copyPart rfl ⟨rfl, rfl, Nat.le_of_ble_eq_true rfl, Nat.le_of_ble_eq_true rfl, Nat.le_of_ble_eq_true rfl, Nat.le_of_ble_eq_true rfl⟩ rfl rfl (q0 := 1) rfl [1, 2, 7, 8] [0, 3, 4, 5, 6] rfl rfl (by decide) rfl (Nat.le_of_ble_eq_true rfl) dX3_tell_107 (fun u H locs hq hP hD hS => ?_)
            obtain ⟨g1_107, n1_107⟩ := u
            have hq : (n1_107 = min (3 * m) nta - (2 * m)) ∧ (qL g1_107 n1_107 = ((qL gta nta).take (3 * m)).drop (2 * m)) := hq
            obtain ⟨hm_107, hL_107⟩ := hq
            refine W.eq (g2 := F0 mm 110 ls []) rfl ?_
            have hP : va_P D vwCl [(ky 0, oK ky ρ m), (ky 1, oR (ky 2) m), (ky 2, aZ ta 32 g1_81), (ky 3, oR (ky 4) m), (ky 4, aZ ta 32 g1_93), (ky 5, oR (ky 6) n1_107), (ky 6, aZ ta 32 g1_107), (hta, oR bta nta), (bta, aZ ta 400 gta)] H := hP
            have hD : va_D A [(ky 0, oK ky ρ m), (ky 1, oR (ky 2) m), (ky 2, aZ ta 32 g1_81), (ky 3, oR (ky 4) m), (ky 4, aZ ta 32 g1_93), (ky 5, oR (ky 6) n1_107), (ky 6, aZ ta 32 g1_107), (hta, oR bta nta), (bta, aZ ta 400 gta)] := hD
            have en_15 : m = n1_107 := by omega
            subst en_15
            refine lv_iconst (pc := 110) (v := nI 1) hx hb dX3_tell_110 (by decide +kernel) ?_
            refine q_top (y := qb true) (by first | rfl | decide +kernel | (simp; done)) ?_
            have hq_16 : (true = true) ∧ (qL g1_81 m = (qL gta nta).take m) ∧ (qL g1_93 m = ((qL gta nta).take (2 * m)).drop m) ∧ (qL g1_107 m = ((qL gta nta).take (3 * m)).drop (2 * m)) := by
              exact ⟨rfl, hL_81, hL_93, hL_107⟩
            exact hret (⟨(true), (g1_81), (g1_93), (g1_107)⟩ : Bool × (Nat → BitVec 8) × (Nat → BitVec 8) × (Nat → BitVec 8)) _ _ _ _ dX3_tell_111 hq_16 (hP.sub [0, 1, 2, 3, 4, 5, 6, 7, 8] rfl) (hD.sub [0, 1, 2, 3, 4, 5, 6, 7, 8] (by decide) rfl) hS
          · skip
            rw [nI_eq (by omega) (by omega)] at c_12
            refine lv_iload (pc := 57) hx hb dX3_tell_57 (lv_at hl 0 rfl) ?_
            refine lv_if_ne (pc := 59) (tgt := 64) hx hb dX3_tell_59 (by decide) (fun c_17 => absurd (by decide) c_17) (fun _ => ?_)
            exfalso; omega
  · skip
    rw [nI_eq (by omega) (by omega)] at c_1
    refine lv_iload_n (pc := 12) hx hb dX3_tell_12 rfl (lv_at hl 0 rfl) ?_
    refine lv_bipush (pc := 13) (v := nI 24) hx hb dX3_tell_13 (by decide +kernel) ?_
    refine lv_icmp_eq (pc := 15) (tgt := 24) hx hb dX3_tell_15 (by decide) (fun c_18 => ?_) (fun c_18 => ?_)
    · skip
      rw [nI_eq (by omega) (by omega)] at c_18
      refine lv_iconst (pc := 24) (v := nI 1) hx hb dX3_tell_24 (by decide +kernel) ?_
      refine lv_goto (pc := 25) (tgt := 29) hx hb dX3_tell_25 (by decide) ?_
      refine lv_istore (pc := 29) (lv' := [(4, .int (nI 1)), (3, .int (nI m)), (0, .ref (ky 0)), (1, .int (nI ρ)), (2, .ref hta)]) hx hb dX3_tell_29 hl (by decide) rfl (fun ls hl => ?_)
      refine lv_iload_n (pc := 31) hx hb dX3_tell_31 rfl (lv_at hl 3 rfl) ?_
      refine lv_iconst (pc := 32) (v := nI 2) hx hb dX3_tell_32 (by decide +kernel) ?_
      refine lv_icmp_eq (pc := 33) (tgt := 41) hx hb dX3_tell_33 (by decide) (fun c_19 => ?_) (fun c_19 => ?_)
      · skip
        rw [nI_eq (by omega) (by omega)] at c_19
        refine lv_iload_n (pc := 41) hx hb dX3_tell_41 rfl (lv_at hl 1 rfl) ?_
        refine lv_iconst (pc := 42) (v := nI 3) hx hb dX3_tell_42 (by decide +kernel) ?_
        refine lv_imul (pc := 43) hx hb dX3_tell_43 ?_
        refine q_top (y := nI (m * 3)) (pk_mul m 3) ?_
        refine lv_aload_n (pc := 44) hx hb dX3_tell_44 rfl (lv_at hl 4 rfl) ?_
        refine cs_V (pc := 45) (idx := 33) (n := 0) (wr := [(ky 0, oK ky ru ln), (ky 1, oR (ky 2) n1), (ky 2, aZ ta 32 ge), (ky 3, oR (ky 4) n3), (ky 4, aZ ta 32 gm), (ky 5, oR (ky 6) n5), (ky 6, aZ ta 32 gse)]) (As := []) (rest := [.int (nI (m * 3))]) (ci := 5) hx hb hml hown hts hGok hK hA hG hl.1 hP hD hS (ct_X6_size ll D ta hGok hta bta 400 gta nta  H.size) tw_393 tw_460 tw_391 tw_392 tw_66 hdX6_size rfl ⟨rfl, rfl, Nat.le_of_ble_eq_true rfl, Nat.le_of_ble_eq_true rfl, Nat.le_of_ble_eq_true rfl, Nat.le_of_ble_eq_true rfl⟩ rfl rfl (q0 := 7) rfl [7, 8] [0, 1, 2, 3, 4, 5, 6] rfl rfl (by decide) rfl (Nat.le_of_ble_eq_true rfl) dX3_tell_45 (fun u H locs hq hP hD hS => ?_)
        refine W.eq (g2 := F0 mm 48 ls [.int (nI nta), .int (nI (m * 3))]) rfl ?_
        have hP : va_P D vwCl [(ky 0, oK ky ru ln), (ky 1, oR (ky 2) n1), (ky 2, aZ ta 32 ge), (ky 3, oR (ky 4) n3), (ky 4, aZ ta 32 gm), (ky 5, oR (ky 6) n5), (ky 6, aZ ta 32 gse), (hta, oR bta nta), (bta, aZ ta 400 gta)] H := hP
        have hD : va_D A [(ky 0, oK ky ru ln), (ky 1, oR (ky 2) n1), (ky 2, aZ ta 32 ge), (ky 3, oR (ky 4) n3), (ky 4, aZ ta 32 gm), (ky 5, oR (ky 6) n5), (ky 6, aZ ta 32 gse), (hta, oR bta nta), (bta, aZ ta 400 gta)] := hD
        refine lv_icmp_ne (pc := 48) (tgt := 62) hx hb dX3_tell_48 (by decide) (fun c_20 => ?_) (fun c_20 => ?_)
        · skip
          rw [nI_eq (by omega) (by omega)] at c_20
          exfalso; omega
        · skip
          rw [nI_eq (by omega) (by omega)] at c_20
          refine lv_iload_n (pc := 51) hx hb dX3_tell_51 rfl (lv_at hl 1 rfl) ?_
          refine lv_bipush (pc := 52) (v := nI 16) hx hb dX3_tell_52 (by decide +kernel) ?_
          refine lv_icmp_eq (pc := 54) (tgt := 64) hx hb dX3_tell_54 (by decide) (fun c_21 => ?_) (fun c_21 => ?_)
          · skip
            rw [nI_eq (by omega) (by omega)] at c_21
            refine lv_aload_n (pc := 64) hx hb dX3_tell_64 rfl (lv_at hl 2 rfl) ?_
            refine lv_iload_n (pc := 65) hx hb dX3_tell_65 rfl (lv_at hl 3 rfl) ?_
            refine va_put (pc := 66) (D := D) (ci := 2) (v := .int (nI ρ)) (ty := .int) (C := RX3) (T := TX3) (N := 5) hx hb hts iu3 tyX3 tyX3_ok nmX3 hown hK hP hD hS 0 rfl rfl 0 (by decide) (hts _ tw_106) (fun _ h9 => h9) rfl (by decide +kernel) rfl rfl (Nat.le_of_ble_eq_true rfl) dX3_tell_66 (fun H locs hP hD hS => ?_)
            have hP : va_P D vwCl [(ky 0, oK ky ρ ln), (ky 1, oR (ky 2) n1), (ky 2, aZ ta 32 ge), (ky 3, oR (ky 4) n3), (ky 4, aZ ta 32 gm), (ky 5, oR (ky 6) n5), (ky 6, aZ ta 32 gse), (hta, oR bta nta), (bta, aZ ta 400 gta)] H := hP
            have hD : va_D A [(ky 0, oK ky ρ ln), (ky 1, oR (ky 2) n1), (ky 2, aZ ta 32 ge), (ky 3, oR (ky 4) n3), (ky 4, aZ ta 32 gm), (ky 5, oR (ky 6) n5), (ky 6, aZ ta 32 gse), (hta, oR bta nta), (bta, aZ ta 400 gta)] := hD
            refine lv_aload_n (pc := 69) hx hb dX3_tell_69 rfl (lv_at hl 2 rfl) ?_
            refine lv_iload_n (pc := 70) hx hb dX3_tell_70 rfl (lv_at hl 1 rfl) ?_
            refine va_put (pc := 71) (D := D) (ci := 2) (v := .int (nI m)) (ty := .int) (C := RX3) (T := TX3) (N := 5) hx hb hts iu3 tyX3 tyX3_ok nmX3 hown hK hP hD hS 0 rfl rfl 1 (by decide) (hts _ tw_108) (fun _ h9 => h9) rfl (by decide +kernel) rfl rfl (Nat.le_of_ble_eq_true rfl) dX3_tell_71 (fun H locs hP hD hS => ?_)
            have hP : va_P D vwCl [(ky 0, oK ky ρ m), (ky 1, oR (ky 2) n1), (ky 2, aZ ta 32 ge), (ky 3, oR (ky 4) n3), (ky 4, aZ ta 32 gm), (ky 5, oR (ky 6) n5), (ky 6, aZ ta 32 gse), (hta, oR bta nta), (bta, aZ ta 400 gta)] H := hP
            have hD : va_D A [(ky 0, oK ky ρ m), (ky 1, oR (ky 2) n1), (ky 2, aZ ta 32 ge), (ky 3, oR (ky 4) n3), (ky 4, aZ ta 32 gm), (ky 5, oR (ky 6) n5), (ky 6, aZ ta 32 gse), (hta, oR bta nta), (bta, aZ ta 400 gta)] := hD
            refine lv_aload_n (pc := 74) hx hb dX3_tell_74 rfl (lv_at hl 2 rfl) ?_
            refine va_get (pc := 75) (D := D) (ci := 2) (v := .ref (ky 1)) (C := RX3) (T := TX3) (N := 5) hx hb hts iu3 hown hK hP 0 rfl rfl 2 (by decide) (hts _ tw_111) (fun _ h9 => h9) rfl dX3_tell_75 ?_
            refine lv_aload_n (pc := 78) hx hb dX3_tell_78 rfl (lv_at hl 4 rfl) ?_
            refine lv_iconst (pc := 79) (v := nI 0) hx hb dX3_tell_79 (by decide +kernel) ?_
            refine lv_iload_n (pc := 80) hx hb dX3_tell_80 rfl (lv_at hl 1 rfl) ?_
            refine cs_V (pc := 81) (idx := 37) (n := 3) (wr := [(ky 0, oK ky ρ m), (ky 3, oR (ky 4) n3), (ky 4, aZ ta 32 gm), (ky 5, oR (ky 6) n5), (ky 6, aZ ta 32 gse)]) (As := [.ref hta, .int (nI 0), .int (nI m)]) (rest := []) (ci := 5) hx hb hml hown hts hGok hK hA hG hl.1 hP hD hS (ct_X6_copyPart ll D ta hGok (ky 1) (ky 2) 32 ge n1 hta bta 400 gta nta 0 m (by first | assumption | omega | rfl | decide) (by first | assumption | omega | rfl | decide) (by first | assumption | omega | rfl | decide) (by first | assumption | omega | rfl | decide) (by first | assumption | omega | rfl | decide) (by first | assumption | omega | rfl | decide) H.size) tw_464 tw_461 tw_462 tw_463 tw_66 hdX6_copyPart rfl ⟨rfl, rfl, Nat.le_of_ble_eq_true rfl, Nat.le_of_ble_eq_true rfl, Nat.le_of_ble_eq_true rfl, Nat.le_of_ble_eq_true rfl⟩ rfl rfl (q0 := 1) rfl [1, 2, 7, 8] [0, 3, 4, 5, 6] rfl rfl (by decide) rfl (Nat.le_of_ble_eq_true rfl) dX3_tell_81 (fun u H locs hq hP hD hS => ?_)
            obtain ⟨g1_81, n1_81⟩ := u
            have hq : (n1_81 = min m nta - 0) ∧ (qL g1_81 n1_81 = ((qL gta nta).take m).drop 0) := hq
            obtain ⟨hm_81, hL_81⟩ := hq
            refine W.eq (g2 := F0 mm 84 ls []) rfl ?_
            have hP : va_P D vwCl [(ky 0, oK ky ρ m), (ky 3, oR (ky 4) n3), (ky 4, aZ ta 32 gm), (ky 5, oR (ky 6) n5), (ky 6, aZ ta 32 gse), (ky 1, oR (ky 2) n1_81), (ky 2, aZ ta 32 g1_81), (hta, oR bta nta), (bta, aZ ta 400 gta)] H := hP
            have hD : va_D A [(ky 0, oK ky ρ m), (ky 3, oR (ky 4) n3), (ky 4, aZ ta 32 gm), (ky 5, oR (ky 6) n5), (ky 6, aZ ta 32 gse), (ky 1, oR (ky 2) n1_81), (ky 2, aZ ta 32 g1_81), (hta, oR bta nta), (bta, aZ ta 400 gta)] := hD
            have en_22 : m = n1_81 := by omega
            subst en_22
            refine lv_aload_n (pc := 84) hx hb dX3_tell_84 rfl (lv_at hl 2 rfl) ?_
            refine va_get (pc := 85) (D := D) (ci := 2) (v := .ref (ky 3)) (C := RX3) (T := TX3) (N := 5) hx hb hts iu3 hown hK hP 0 rfl rfl 3 (by decide) (hts _ tw_114) (fun _ h9 => h9) rfl dX3_tell_85 ?_
            refine lv_aload_n (pc := 88) hx hb dX3_tell_88 rfl (lv_at hl 4 rfl) ?_
            refine lv_iload_n (pc := 89) hx hb dX3_tell_89 rfl (lv_at hl 1 rfl) ?_
            refine lv_iconst (pc := 90) (v := nI 2) hx hb dX3_tell_90 (by decide +kernel) ?_
            refine lv_iload_n (pc := 91) hx hb dX3_tell_91 rfl (lv_at hl 1 rfl) ?_
            refine lv_imul (pc := 92) hx hb dX3_tell_92 ?_
            refine q_top (y := nI (2 * m)) (pk_mul 2 m) ?_
            refine cs_V (pc := 93) (idx := 37) (n := 3) (wr := [(ky 0, oK ky ρ m), (ky 5, oR (ky 6) n5), (ky 6, aZ ta 32 gse), (ky 1, oR (ky 2) m), (ky 2, aZ ta 32 g1_81)]) (As := [.ref hta, .int (nI m), .int (nI (2 * m))]) (rest := []) (ci := 5) hx hb hml hown hts hGok hK hA hG hl.1 hP hD hS (ct_X6_copyPart ll D ta hGok (ky 3) (ky 4) 32 gm n3 hta bta 400 gta nta m (2 * m) (by first | assumption | omega | rfl | decide) (by first | assumption | omega | rfl | decide) (by first | assumption | omega | rfl | decide) (by first | assumption | omega | rfl | decide) (by first | assumption | omega | rfl | decide) (by first | assumption | omega | rfl | decide) H.size) tw_464 tw_461 tw_462 tw_463 tw_66 hdX6_copyPart rfl ⟨rfl, rfl, Nat.le_of_ble_eq_true rfl, Nat.le_of_ble_eq_true rfl, Nat.le_of_ble_eq_true rfl, Nat.le_of_ble_eq_true rfl⟩ rfl rfl (q0 := 1) rfl [1, 2, 7, 8] [0, 3, 4, 5, 6] rfl rfl (by decide) rfl (Nat.le_of_ble_eq_true rfl) dX3_tell_93 (fun u H locs hq hP hD hS => ?_)
            obtain ⟨g1_93, n1_93⟩ := u
            have hq : (n1_93 = min (2 * m) nta - m) ∧ (qL g1_93 n1_93 = ((qL gta nta).take (2 * m)).drop m) := hq
            obtain ⟨hm_93, hL_93⟩ := hq
            refine W.eq (g2 := F0 mm 96 ls []) rfl ?_
            have hP : va_P D vwCl [(ky 0, oK ky ρ m), (ky 5, oR (ky 6) n5), (ky 6, aZ ta 32 gse), (ky 1, oR (ky 2) m), (ky 2, aZ ta 32 g1_81), (ky 3, oR (ky 4) n1_93), (ky 4, aZ ta 32 g1_93), (hta, oR bta nta), (bta, aZ ta 400 gta)] H := hP
            have hD : va_D A [(ky 0, oK ky ρ m), (ky 5, oR (ky 6) n5), (ky 6, aZ ta 32 gse), (ky 1, oR (ky 2) m), (ky 2, aZ ta 32 g1_81), (ky 3, oR (ky 4) n1_93), (ky 4, aZ ta 32 g1_93), (hta, oR bta nta), (bta, aZ ta 400 gta)] := hD
            have en_23 : m = n1_93 := by omega
            subst en_23
            refine lv_aload_n (pc := 96) hx hb dX3_tell_96 rfl (lv_at hl 2 rfl) ?_
            refine va_get (pc := 97) (D := D) (ci := 2) (v := .ref (ky 5)) (C := RX3) (T := TX3) (N := 5) hx hb hts iu3 hown hK hP 0 rfl rfl 4 (by decide) (hts _ tw_117) (fun _ h9 => h9) rfl dX3_tell_97 ?_
            refine lv_aload_n (pc := 100) hx hb dX3_tell_100 rfl (lv_at hl 4 rfl) ?_
            refine lv_iconst (pc := 101) (v := nI 2) hx hb dX3_tell_101 (by decide +kernel) ?_
            refine lv_iload_n (pc := 102) hx hb dX3_tell_102 rfl (lv_at hl 1 rfl) ?_
            refine lv_imul (pc := 103) hx hb dX3_tell_103 ?_
            refine q_top (y := nI (2 * m)) (pk_mul 2 m) ?_
            refine lv_iconst (pc := 104) (v := nI 3) hx hb dX3_tell_104 (by decide +kernel) ?_
            refine lv_iload_n (pc := 105) hx hb dX3_tell_105 rfl (lv_at hl 1 rfl) ?_
            refine lv_imul (pc := 106) hx hb dX3_tell_106 ?_
            refine q_top (y := nI (3 * m)) (pk_mul 3 m) ?_
            refine cs_V (pc := 107) (idx := 37) (n := 3) (wr := [(ky 0, oK ky ρ m), (ky 1, oR (ky 2) m), (ky 2, aZ ta 32 g1_81), (ky 3, oR (ky 4) m), (ky 4, aZ ta 32 g1_93)]) (As := [.ref hta, .int (nI (2 * m)), .int (nI (3 * m))]) (rest := []) (ci := 5) hx hb hml hown hts hGok hK hA hG hl.1 hP hD hS (ct_X6_copyPart ll D ta hGok (ky 5) (ky 6) 32 gse n5 hta bta 400 gta nta (2 * m) (3 * m) (by first | assumption | omega | rfl | decide) (by first | assumption | omega | rfl | decide) (by first | assumption | omega | rfl | decide) (by first | assumption | omega | rfl | decide) (by first | assumption | omega | rfl | decide) (by first | assumption | omega | rfl | decide) H.size) tw_464 tw_461 tw_462 tw_463 tw_66 hdX6_copyPart rfl ⟨rfl, rfl, Nat.le_of_ble_eq_true rfl, Nat.le_of_ble_eq_true rfl, Nat.le_of_ble_eq_true rfl, Nat.le_of_ble_eq_true rfl⟩ rfl rfl (q0 := 1) rfl [1, 2, 7, 8] [0, 3, 4, 5, 6] rfl rfl (by decide) rfl (Nat.le_of_ble_eq_true rfl) dX3_tell_107 (fun u H locs hq hP hD hS => ?_)
            obtain ⟨g1_107, n1_107⟩ := u
            have hq : (n1_107 = min (3 * m) nta - (2 * m)) ∧ (qL g1_107 n1_107 = ((qL gta nta).take (3 * m)).drop (2 * m)) := hq
            obtain ⟨hm_107, hL_107⟩ := hq
            refine W.eq (g2 := F0 mm 110 ls []) rfl ?_
            have hP : va_P D vwCl [(ky 0, oK ky ρ m), (ky 1, oR (ky 2) m), (ky 2, aZ ta 32 g1_81), (ky 3, oR (ky 4) m), (ky 4, aZ ta 32 g1_93), (ky 5, oR (ky 6) n1_107), (ky 6, aZ ta 32 g1_107), (hta, oR bta nta), (bta, aZ ta 400 gta)] H := hP
            have hD : va_D A [(ky 0, oK ky ρ m), (ky 1, oR (ky 2) m), (ky 2, aZ ta 32 g1_81), (ky 3, oR (ky 4) m), (ky 4, aZ ta 32 g1_93), (ky 5, oR (ky 6) n1_107), (ky 6, aZ ta 32 g1_107), (hta, oR bta nta), (bta, aZ ta 400 gta)] := hD
            have en_24 : m = n1_107 := by omega
            subst en_24
            refine lv_iconst (pc := 110) (v := nI 1) hx hb dX3_tell_110 (by decide +kernel) ?_
            refine q_top (y := qb true) (by first | rfl | decide +kernel | (simp; done)) ?_
            have hq_25 : (true = true) ∧ (qL g1_81 m = (qL gta nta).take m) ∧ (qL g1_93 m = ((qL gta nta).take (2 * m)).drop m) ∧ (qL g1_107 m = ((qL gta nta).take (3 * m)).drop (2 * m)) := by
              exact ⟨rfl, hL_81, hL_93, hL_107⟩
            exact hret (⟨(true), (g1_81), (g1_93), (g1_107)⟩ : Bool × (Nat → BitVec 8) × (Nat → BitVec 8) × (Nat → BitVec 8)) _ _ _ _ dX3_tell_111 hq_25 (hP.sub [0, 1, 2, 3, 4, 5, 6, 7, 8] rfl) (hD.sub [0, 1, 2, 3, 4, 5, 6, 7, 8] (by decide) rfl) hS
          · skip
            rw [nI_eq (by omega) (by omega)] at c_21
            refine lv_iload (pc := 57) hx hb dX3_tell_57 (lv_at hl 0 rfl) ?_
            refine lv_if_ne (pc := 59) (tgt := 64) hx hb dX3_tell_59 (by decide) (fun _ => ?_) (fun c_26 => absurd c_26 (by decide))
            refine lv_aload_n (pc := 64) hx hb dX3_tell_64 rfl (lv_at hl 2 rfl) ?_
            refine lv_iload_n (pc := 65) hx hb dX3_tell_65 rfl (lv_at hl 3 rfl) ?_
            refine va_put (pc := 66) (D := D) (ci := 2) (v := .int (nI ρ)) (ty := .int) (C := RX3) (T := TX3) (N := 5) hx hb hts iu3 tyX3 tyX3_ok nmX3 hown hK hP hD hS 0 rfl rfl 0 (by decide) (hts _ tw_106) (fun _ h9 => h9) rfl (by decide +kernel) rfl rfl (Nat.le_of_ble_eq_true rfl) dX3_tell_66 (fun H locs hP hD hS => ?_)
            have hP : va_P D vwCl [(ky 0, oK ky ρ ln), (ky 1, oR (ky 2) n1), (ky 2, aZ ta 32 ge), (ky 3, oR (ky 4) n3), (ky 4, aZ ta 32 gm), (ky 5, oR (ky 6) n5), (ky 6, aZ ta 32 gse), (hta, oR bta nta), (bta, aZ ta 400 gta)] H := hP
            have hD : va_D A [(ky 0, oK ky ρ ln), (ky 1, oR (ky 2) n1), (ky 2, aZ ta 32 ge), (ky 3, oR (ky 4) n3), (ky 4, aZ ta 32 gm), (ky 5, oR (ky 6) n5), (ky 6, aZ ta 32 gse), (hta, oR bta nta), (bta, aZ ta 400 gta)] := hD
            refine lv_aload_n (pc := 69) hx hb dX3_tell_69 rfl (lv_at hl 2 rfl) ?_
            refine lv_iload_n (pc := 70) hx hb dX3_tell_70 rfl (lv_at hl 1 rfl) ?_
            refine va_put (pc := 71) (D := D) (ci := 2) (v := .int (nI m)) (ty := .int) (C := RX3) (T := TX3) (N := 5) hx hb hts iu3 tyX3 tyX3_ok nmX3 hown hK hP hD hS 0 rfl rfl 1 (by decide) (hts _ tw_108) (fun _ h9 => h9) rfl (by decide +kernel) rfl rfl (Nat.le_of_ble_eq_true rfl) dX3_tell_71 (fun H locs hP hD hS => ?_)
            have hP : va_P D vwCl [(ky 0, oK ky ρ m), (ky 1, oR (ky 2) n1), (ky 2, aZ ta 32 ge), (ky 3, oR (ky 4) n3), (ky 4, aZ ta 32 gm), (ky 5, oR (ky 6) n5), (ky 6, aZ ta 32 gse), (hta, oR bta nta), (bta, aZ ta 400 gta)] H := hP
            have hD : va_D A [(ky 0, oK ky ρ m), (ky 1, oR (ky 2) n1), (ky 2, aZ ta 32 ge), (ky 3, oR (ky 4) n3), (ky 4, aZ ta 32 gm), (ky 5, oR (ky 6) n5), (ky 6, aZ ta 32 gse), (hta, oR bta nta), (bta, aZ ta 400 gta)] := hD
            refine lv_aload_n (pc := 74) hx hb dX3_tell_74 rfl (lv_at hl 2 rfl) ?_
            refine va_get (pc := 75) (D := D) (ci := 2) (v := .ref (ky 1)) (C := RX3) (T := TX3) (N := 5) hx hb hts iu3 hown hK hP 0 rfl rfl 2 (by decide) (hts _ tw_111) (fun _ h9 => h9) rfl dX3_tell_75 ?_
            refine lv_aload_n (pc := 78) hx hb dX3_tell_78 rfl (lv_at hl 4 rfl) ?_
            refine lv_iconst (pc := 79) (v := nI 0) hx hb dX3_tell_79 (by decide +kernel) ?_
            refine lv_iload_n (pc := 80) hx hb dX3_tell_80 rfl (lv_at hl 1 rfl) ?_
            refine cs_V (pc := 81) (idx := 37) (n := 3) (wr := [(ky 0, oK ky ρ m), (ky 3, oR (ky 4) n3), (ky 4, aZ ta 32 gm), (ky 5, oR (ky 6) n5), (ky 6, aZ ta 32 gse)]) (As := [.ref hta, .int (nI 0), .int (nI m)]) (rest := []) (ci := 5) hx hb hml hown hts hGok hK hA hG hl.1 hP hD hS (ct_X6_copyPart ll D ta hGok (ky 1) (ky 2) 32 ge n1 hta bta 400 gta nta 0 m (by first | assumption | omega | rfl | decide) (by first | assumption | omega | rfl | decide) (by first | assumption | omega | rfl | decide) (by first | assumption | omega | rfl | decide) (by first | assumption | omega | rfl | decide) (by first | assumption | omega | rfl | decide) H.size) tw_464 tw_461 tw_462 tw_463 tw_66 hdX6_copyPart rfl ⟨rfl, rfl, Nat.le_of_ble_eq_true rfl, Nat.le_of_ble_eq_true rfl, Nat.le_of_ble_eq_true rfl, Nat.le_of_ble_eq_true rfl⟩ rfl rfl (q0 := 1) rfl [1, 2, 7, 8] [0, 3, 4, 5, 6] rfl rfl (by decide) rfl (Nat.le_of_ble_eq_true rfl) dX3_tell_81 (fun u H locs hq hP hD hS => ?_)
            obtain ⟨g1_81, n1_81⟩ := u
            have hq : (n1_81 = min m nta - 0) ∧ (qL g1_81 n1_81 = ((qL gta nta).take m).drop 0) := hq
            obtain ⟨hm_81, hL_81⟩ := hq
            refine W.eq (g2 := F0 mm 84 ls []) rfl ?_
            have hP : va_P D vwCl [(ky 0, oK ky ρ m), (ky 3, oR (ky 4) n3), (ky 4, aZ ta 32 gm), (ky 5, oR (ky 6) n5), (ky 6, aZ ta 32 gse), (ky 1, oR (ky 2) n1_81), (ky 2, aZ ta 32 g1_81), (hta, oR bta nta), (bta, aZ ta 400 gta)] H := hP
            have hD : va_D A [(ky 0, oK ky ρ m), (ky 3, oR (ky 4) n3), (ky 4, aZ ta 32 gm), (ky 5, oR (ky 6) n5), (ky 6, aZ ta 32 gse), (ky 1, oR (ky 2) n1_81), (ky 2, aZ ta 32 g1_81), (hta, oR bta nta), (bta, aZ ta 400 gta)] := hD
            have en_27 : m = n1_81 := by omega
            subst en_27
            refine lv_aload_n (pc := 84) hx hb dX3_tell_84 rfl (lv_at hl 2 rfl) ?_
            refine va_get (pc := 85) (D := D) (ci := 2) (v := .ref (ky 3)) (C := RX3) (T := TX3) (N := 5) hx hb hts iu3 hown hK hP 0 rfl rfl 3 (by decide) (hts _ tw_114) (fun _ h9 => h9) rfl dX3_tell_85 ?_
            refine lv_aload_n (pc := 88) hx hb dX3_tell_88 rfl (lv_at hl 4 rfl) ?_
            refine lv_iload_n (pc := 89) hx hb dX3_tell_89 rfl (lv_at hl 1 rfl) ?_
            refine lv_iconst (pc := 90) (v := nI 2) hx hb dX3_tell_90 (by decide +kernel) ?_
            refine lv_iload_n (pc := 91) hx hb dX3_tell_91 rfl (lv_at hl 1 rfl) ?_
            refine lv_imul (pc := 92) hx hb dX3_tell_92 ?_
            refine q_top (y := nI (2 * m)) (pk_mul 2 m) ?_
            refine cs_V (pc := 93) (idx := 37) (n := 3) (wr := [(ky 0, oK ky ρ m), (ky 5, oR (ky 6) n5), (ky 6, aZ ta 32 gse), (ky 1, oR (ky 2) m), (ky 2, aZ ta 32 g1_81)]) (As := [.ref hta, .int (nI m), .int (nI (2 * m))]) (rest := []) (ci := 5) hx hb hml hown hts hGok hK hA hG hl.1 hP hD hS (ct_X6_copyPart ll D ta hGok (ky 3) (ky 4) 32 gm n3 hta bta 400 gta nta m (2 * m) (by first | assumption | omega | rfl | decide) (by first | assumption | omega | rfl | decide) (by first | assumption | omega | rfl | decide) (by first | assumption | omega | rfl | decide) (by first | assumption | omega | rfl | decide) (by first | assumption | omega | rfl | decide) H.size) tw_464 tw_461 tw_462 tw_463 tw_66 hdX6_copyPart rfl ⟨rfl, rfl, Nat.le_of_ble_eq_true rfl, Nat.le_of_ble_eq_true rfl, Nat.le_of_ble_eq_true rfl, Nat.le_of_ble_eq_true rfl⟩ rfl rfl (q0 := 1) rfl [1, 2, 7, 8] [0, 3, 4, 5, 6] rfl rfl (by decide) rfl (Nat.le_of_ble_eq_true rfl) dX3_tell_93 (fun u H locs hq hP hD hS => ?_)
            obtain ⟨g1_93, n1_93⟩ := u
            have hq : (n1_93 = min (2 * m) nta - m) ∧ (qL g1_93 n1_93 = ((qL gta nta).take (2 * m)).drop m) := hq
            obtain ⟨hm_93, hL_93⟩ := hq
            refine W.eq (g2 := F0 mm 96 ls []) rfl ?_
            have hP : va_P D vwCl [(ky 0, oK ky ρ m), (ky 5, oR (ky 6) n5), (ky 6, aZ ta 32 gse), (ky 1, oR (ky 2) m), (ky 2, aZ ta 32 g1_81), (ky 3, oR (ky 4) n1_93), (ky 4, aZ ta 32 g1_93), (hta, oR bta nta), (bta, aZ ta 400 gta)] H := hP
            have hD : va_D A [(ky 0, oK ky ρ m), (ky 5, oR (ky 6) n5), (ky 6, aZ ta 32 gse), (ky 1, oR (ky 2) m), (ky 2, aZ ta 32 g1_81), (ky 3, oR (ky 4) n1_93), (ky 4, aZ ta 32 g1_93), (hta, oR bta nta), (bta, aZ ta 400 gta)] := hD
            have en_28 : m = n1_93 := by omega
            subst en_28
            refine lv_aload_n (pc := 96) hx hb dX3_tell_96 rfl (lv_at hl 2 rfl) ?_
            refine va_get (pc := 97) (D := D) (ci := 2) (v := .ref (ky 5)) (C := RX3) (T := TX3) (N := 5) hx hb hts iu3 hown hK hP 0 rfl rfl 4 (by decide) (hts _ tw_117) (fun _ h9 => h9) rfl dX3_tell_97 ?_
            refine lv_aload_n (pc := 100) hx hb dX3_tell_100 rfl (lv_at hl 4 rfl) ?_
            refine lv_iconst (pc := 101) (v := nI 2) hx hb dX3_tell_101 (by decide +kernel) ?_
            refine lv_iload_n (pc := 102) hx hb dX3_tell_102 rfl (lv_at hl 1 rfl) ?_
            refine lv_imul (pc := 103) hx hb dX3_tell_103 ?_
            refine q_top (y := nI (2 * m)) (pk_mul 2 m) ?_
            refine lv_iconst (pc := 104) (v := nI 3) hx hb dX3_tell_104 (by decide +kernel) ?_
            refine lv_iload_n (pc := 105) hx hb dX3_tell_105 rfl (lv_at hl 1 rfl) ?_
            refine lv_imul (pc := 106) hx hb dX3_tell_106 ?_
            refine q_top (y := nI (3 * m)) (pk_mul 3 m) ?_
            refine cs_V (pc := 107) (idx := 37) (n := 3) (wr := [(ky 0, oK ky ρ m), (ky 1, oR (ky 2) m), (ky 2, aZ ta 32 g1_81), (ky 3, oR (ky 4) m), (ky 4, aZ ta 32 g1_93)]) (As := [.ref hta, .int (nI (2 * m)), .int (nI (3 * m))]) (rest := []) (ci := 5) hx hb hml hown hts hGok hK hA hG hl.1 hP hD hS (ct_X6_copyPart ll D ta hGok (ky 5) (ky 6) 32 gse n5 hta bta 400 gta nta (2 * m) (3 * m) (by first | assumption | omega | rfl | decide) (by first | assumption | omega | rfl | decide) (by first | assumption | omega | rfl | decide) (by first | assumption | omega | rfl | decide) (by first | assumption | omega | rfl | decide) (by first | assumption | omega | rfl | decide) H.size) tw_464 tw_461 tw_462 tw_463 tw_66 hdX6_copyPart rfl ⟨rfl, rfl, Nat.le_of_ble_eq_true rfl, Nat.le_of_ble_eq_true rfl, Nat.le_of_ble_eq_true rfl, Nat.le_of_ble_eq_true rfl⟩ rfl rfl (q0 := 1) rfl [1, 2, 7, 8] [0, 3, 4, 5, 6] rfl rfl (by decide) rfl (Nat.le_of_ble_eq_true rfl) dX3_tell_107 (fun u H locs hq hP hD hS => ?_)
            obtain ⟨g1_107, n1_107⟩ := u
            have hq : (n1_107 = min (3 * m) nta - (2 * m)) ∧ (qL g1_107 n1_107 = ((qL gta nta).take (3 * m)).drop (2 * m)) := hq
            obtain ⟨hm_107, hL_107⟩ := hq
            refine W.eq (g2 := F0 mm 110 ls []) rfl ?_
            have hP : va_P D vwCl [(ky 0, oK ky ρ m), (ky 1, oR (ky 2) m), (ky 2, aZ ta 32 g1_81), (ky 3, oR (ky 4) m), (ky 4, aZ ta 32 g1_93), (ky 5, oR (ky 6) n1_107), (ky 6, aZ ta 32 g1_107), (hta, oR bta nta), (bta, aZ ta 400 gta)] H := hP
            have hD : va_D A [(ky 0, oK ky ρ m), (ky 1, oR (ky 2) m), (ky 2, aZ ta 32 g1_81), (ky 3, oR (ky 4) m), (ky 4, aZ ta 32 g1_93), (ky 5, oR (ky 6) n1_107), (ky 6, aZ ta 32 g1_107), (hta, oR bta nta), (bta, aZ ta 400 gta)] := hD
            have en_29 : m = n1_107 := by omega
            subst en_29
            refine lv_iconst (pc := 110) (v := nI 1) hx hb dX3_tell_110 (by decide +kernel) ?_
            refine q_top (y := qb true) (by first | rfl | decide +kernel | (simp; done)) ?_
            have hq_30 : (true = true) ∧ (qL g1_81 m = (qL gta nta).take m) ∧ (qL g1_93 m = ((qL gta nta).take (2 * m)).drop m) ∧ (qL g1_107 m = ((qL gta nta).take (3 * m)).drop (2 * m)) := by
              exact ⟨rfl, hL_81, hL_93, hL_107⟩
            exact hret (⟨(true), (g1_81), (g1_93), (g1_107)⟩ : Bool × (Nat → BitVec 8) × (Nat → BitVec 8) × (Nat → BitVec 8)) _ _ _ _ dX3_tell_111 hq_30 (hP.sub [0, 1, 2, 3, 4, 5, 6, 7, 8] rfl) (hD.sub [0, 1, 2, 3, 4, 5, 6, 7, 8] (by decide) rfl) hS
      · skip
        rw [nI_eq (by omega) (by omega)] at c_19
        refine lv_iload_n (pc := 36) hx hb dX3_tell_36 rfl (lv_at hl 3 rfl) ?_
        refine lv_iconst (pc := 37) (v := nI 3) hx hb dX3_tell_37 (by decide +kernel) ?_
        refine lv_icmp_ne (pc := 38) (tgt := 62) hx hb dX3_tell_38 (by decide) (fun c_31 => ?_) (fun c_31 => ?_)
        · skip
          rw [nI_eq (by omega) (by omega)] at c_31
          exfalso; omega
        · skip
          rw [nI_eq (by omega) (by omega)] at c_31
          refine lv_iload_n (pc := 41) hx hb dX3_tell_41 rfl (lv_at hl 1 rfl) ?_
          refine lv_iconst (pc := 42) (v := nI 3) hx hb dX3_tell_42 (by decide +kernel) ?_
          refine lv_imul (pc := 43) hx hb dX3_tell_43 ?_
          refine q_top (y := nI (m * 3)) (pk_mul m 3) ?_
          refine lv_aload_n (pc := 44) hx hb dX3_tell_44 rfl (lv_at hl 4 rfl) ?_
          refine cs_V (pc := 45) (idx := 33) (n := 0) (wr := [(ky 0, oK ky ru ln), (ky 1, oR (ky 2) n1), (ky 2, aZ ta 32 ge), (ky 3, oR (ky 4) n3), (ky 4, aZ ta 32 gm), (ky 5, oR (ky 6) n5), (ky 6, aZ ta 32 gse)]) (As := []) (rest := [.int (nI (m * 3))]) (ci := 5) hx hb hml hown hts hGok hK hA hG hl.1 hP hD hS (ct_X6_size ll D ta hGok hta bta 400 gta nta  H.size) tw_393 tw_460 tw_391 tw_392 tw_66 hdX6_size rfl ⟨rfl, rfl, Nat.le_of_ble_eq_true rfl, Nat.le_of_ble_eq_true rfl, Nat.le_of_ble_eq_true rfl, Nat.le_of_ble_eq_true rfl⟩ rfl rfl (q0 := 7) rfl [7, 8] [0, 1, 2, 3, 4, 5, 6] rfl rfl (by decide) rfl (Nat.le_of_ble_eq_true rfl) dX3_tell_45 (fun u H locs hq hP hD hS => ?_)
          refine W.eq (g2 := F0 mm 48 ls [.int (nI nta), .int (nI (m * 3))]) rfl ?_
          have hP : va_P D vwCl [(ky 0, oK ky ru ln), (ky 1, oR (ky 2) n1), (ky 2, aZ ta 32 ge), (ky 3, oR (ky 4) n3), (ky 4, aZ ta 32 gm), (ky 5, oR (ky 6) n5), (ky 6, aZ ta 32 gse), (hta, oR bta nta), (bta, aZ ta 400 gta)] H := hP
          have hD : va_D A [(ky 0, oK ky ru ln), (ky 1, oR (ky 2) n1), (ky 2, aZ ta 32 ge), (ky 3, oR (ky 4) n3), (ky 4, aZ ta 32 gm), (ky 5, oR (ky 6) n5), (ky 6, aZ ta 32 gse), (hta, oR bta nta), (bta, aZ ta 400 gta)] := hD
          refine lv_icmp_ne (pc := 48) (tgt := 62) hx hb dX3_tell_48 (by decide) (fun c_32 => ?_) (fun c_32 => ?_)
          · skip
            rw [nI_eq (by omega) (by omega)] at c_32
            exfalso; omega
          · skip
            rw [nI_eq (by omega) (by omega)] at c_32
            refine lv_iload_n (pc := 51) hx hb dX3_tell_51 rfl (lv_at hl 1 rfl) ?_
            refine lv_bipush (pc := 52) (v := nI 16) hx hb dX3_tell_52 (by decide +kernel) ?_
            refine lv_icmp_eq (pc := 54) (tgt := 64) hx hb dX3_tell_54 (by decide) (fun c_33 => ?_) (fun c_33 => ?_)
            · skip
              rw [nI_eq (by omega) (by omega)] at c_33
              refine lv_aload_n (pc := 64) hx hb dX3_tell_64 rfl (lv_at hl 2 rfl) ?_
              refine lv_iload_n (pc := 65) hx hb dX3_tell_65 rfl (lv_at hl 3 rfl) ?_
              refine va_put (pc := 66) (D := D) (ci := 2) (v := .int (nI ρ)) (ty := .int) (C := RX3) (T := TX3) (N := 5) hx hb hts iu3 tyX3 tyX3_ok nmX3 hown hK hP hD hS 0 rfl rfl 0 (by decide) (hts _ tw_106) (fun _ h9 => h9) rfl (by decide +kernel) rfl rfl (Nat.le_of_ble_eq_true rfl) dX3_tell_66 (fun H locs hP hD hS => ?_)
              have hP : va_P D vwCl [(ky 0, oK ky ρ ln), (ky 1, oR (ky 2) n1), (ky 2, aZ ta 32 ge), (ky 3, oR (ky 4) n3), (ky 4, aZ ta 32 gm), (ky 5, oR (ky 6) n5), (ky 6, aZ ta 32 gse), (hta, oR bta nta), (bta, aZ ta 400 gta)] H := hP
              have hD : va_D A [(ky 0, oK ky ρ ln), (ky 1, oR (ky 2) n1), (ky 2, aZ ta 32 ge), (ky 3, oR (ky 4) n3), (ky 4, aZ ta 32 gm), (ky 5, oR (ky 6) n5), (ky 6, aZ ta 32 gse), (hta, oR bta nta), (bta, aZ ta 400 gta)] := hD
              refine lv_aload_n (pc := 69) hx hb dX3_tell_69 rfl (lv_at hl 2 rfl) ?_
              refine lv_iload_n (pc := 70) hx hb dX3_tell_70 rfl (lv_at hl 1 rfl) ?_
              refine va_put (pc := 71) (D := D) (ci := 2) (v := .int (nI m)) (ty := .int) (C := RX3) (T := TX3) (N := 5) hx hb hts iu3 tyX3 tyX3_ok nmX3 hown hK hP hD hS 0 rfl rfl 1 (by decide) (hts _ tw_108) (fun _ h9 => h9) rfl (by decide +kernel) rfl rfl (Nat.le_of_ble_eq_true rfl) dX3_tell_71 (fun H locs hP hD hS => ?_)
              have hP : va_P D vwCl [(ky 0, oK ky ρ m), (ky 1, oR (ky 2) n1), (ky 2, aZ ta 32 ge), (ky 3, oR (ky 4) n3), (ky 4, aZ ta 32 gm), (ky 5, oR (ky 6) n5), (ky 6, aZ ta 32 gse), (hta, oR bta nta), (bta, aZ ta 400 gta)] H := hP
              have hD : va_D A [(ky 0, oK ky ρ m), (ky 1, oR (ky 2) n1), (ky 2, aZ ta 32 ge), (ky 3, oR (ky 4) n3), (ky 4, aZ ta 32 gm), (ky 5, oR (ky 6) n5), (ky 6, aZ ta 32 gse), (hta, oR bta nta), (bta, aZ ta 400 gta)] := hD
              refine lv_aload_n (pc := 74) hx hb dX3_tell_74 rfl (lv_at hl 2 rfl) ?_
              refine va_get (pc := 75) (D := D) (ci := 2) (v := .ref (ky 1)) (C := RX3) (T := TX3) (N := 5) hx hb hts iu3 hown hK hP 0 rfl rfl 2 (by decide) (hts _ tw_111) (fun _ h9 => h9) rfl dX3_tell_75 ?_
              refine lv_aload_n (pc := 78) hx hb dX3_tell_78 rfl (lv_at hl 4 rfl) ?_
              refine lv_iconst (pc := 79) (v := nI 0) hx hb dX3_tell_79 (by decide +kernel) ?_
              refine lv_iload_n (pc := 80) hx hb dX3_tell_80 rfl (lv_at hl 1 rfl) ?_
              refine cs_V (pc := 81) (idx := 37) (n := 3) (wr := [(ky 0, oK ky ρ m), (ky 3, oR (ky 4) n3), (ky 4, aZ ta 32 gm), (ky 5, oR (ky 6) n5), (ky 6, aZ ta 32 gse)]) (As := [.ref hta, .int (nI 0), .int (nI m)]) (rest := []) (ci := 5) hx hb hml hown hts hGok hK hA hG hl.1 hP hD hS (ct_X6_copyPart ll D ta hGok (ky 1) (ky 2) 32 ge n1 hta bta 400 gta nta 0 m (by first | assumption | omega | rfl | decide) (by first | assumption | omega | rfl | decide) (by first | assumption | omega | rfl | decide) (by first | assumption | omega | rfl | decide) (by first | assumption | omega | rfl | decide) (by first | assumption | omega | rfl | decide) H.size) tw_464 tw_461 tw_462 tw_463 tw_66 hdX6_copyPart rfl ⟨rfl, rfl, Nat.le_of_ble_eq_true rfl, Nat.le_of_ble_eq_true rfl, Nat.le_of_ble_eq_true rfl, Nat.le_of_ble_eq_true rfl⟩ rfl rfl (q0 := 1) rfl [1, 2, 7, 8] [0, 3, 4, 5, 6] rfl rfl (by decide) rfl (Nat.le_of_ble_eq_true rfl) dX3_tell_81 (fun u H locs hq hP hD hS => ?_)
              obtain ⟨g1_81, n1_81⟩ := u
              have hq : (n1_81 = min m nta - 0) ∧ (qL g1_81 n1_81 = ((qL gta nta).take m).drop 0) := hq
              obtain ⟨hm_81, hL_81⟩ := hq
              refine W.eq (g2 := F0 mm 84 ls []) rfl ?_
              have hP : va_P D vwCl [(ky 0, oK ky ρ m), (ky 3, oR (ky 4) n3), (ky 4, aZ ta 32 gm), (ky 5, oR (ky 6) n5), (ky 6, aZ ta 32 gse), (ky 1, oR (ky 2) n1_81), (ky 2, aZ ta 32 g1_81), (hta, oR bta nta), (bta, aZ ta 400 gta)] H := hP
              have hD : va_D A [(ky 0, oK ky ρ m), (ky 3, oR (ky 4) n3), (ky 4, aZ ta 32 gm), (ky 5, oR (ky 6) n5), (ky 6, aZ ta 32 gse), (ky 1, oR (ky 2) n1_81), (ky 2, aZ ta 32 g1_81), (hta, oR bta nta), (bta, aZ ta 400 gta)] := hD
              have en_34 : m = n1_81 := by omega
              subst en_34
              refine lv_aload_n (pc := 84) hx hb dX3_tell_84 rfl (lv_at hl 2 rfl) ?_
              refine va_get (pc := 85) (D := D) (ci := 2) (v := .ref (ky 3)) (C := RX3) (T := TX3) (N := 5) hx hb hts iu3 hown hK hP 0 rfl rfl 3 (by decide) (hts _ tw_114) (fun _ h9 => h9) rfl dX3_tell_85 ?_
              refine lv_aload_n (pc := 88) hx hb dX3_tell_88 rfl (lv_at hl 4 rfl) ?_
              refine lv_iload_n (pc := 89) hx hb dX3_tell_89 rfl (lv_at hl 1 rfl) ?_
              refine lv_iconst (pc := 90) (v := nI 2) hx hb dX3_tell_90 (by decide +kernel) ?_
              refine lv_iload_n (pc := 91) hx hb dX3_tell_91 rfl (lv_at hl 1 rfl) ?_
              refine lv_imul (pc := 92) hx hb dX3_tell_92 ?_
              refine q_top (y := nI (2 * m)) (pk_mul 2 m) ?_
              refine cs_V (pc := 93) (idx := 37) (n := 3) (wr := [(ky 0, oK ky ρ m), (ky 5, oR (ky 6) n5), (ky 6, aZ ta 32 gse), (ky 1, oR (ky 2) m), (ky 2, aZ ta 32 g1_81)]) (As := [.ref hta, .int (nI m), .int (nI (2 * m))]) (rest := []) (ci := 5) hx hb hml hown hts hGok hK hA hG hl.1 hP hD hS (ct_X6_copyPart ll D ta hGok (ky 3) (ky 4) 32 gm n3 hta bta 400 gta nta m (2 * m) (by first | assumption | omega | rfl | decide) (by first | assumption | omega | rfl | decide) (by first | assumption | omega | rfl | decide) (by first | assumption | omega | rfl | decide) (by first | assumption | omega | rfl | decide) (by first | assumption | omega | rfl | decide) H.size) tw_464 tw_461 tw_462 tw_463 tw_66 hdX6_copyPart rfl ⟨rfl, rfl, Nat.le_of_ble_eq_true rfl, Nat.le_of_ble_eq_true rfl, Nat.le_of_ble_eq_true rfl, Nat.le_of_ble_eq_true rfl⟩ rfl rfl (q0 := 1) rfl [1, 2, 7, 8] [0, 3, 4, 5, 6] rfl rfl (by decide) rfl (Nat.le_of_ble_eq_true rfl) dX3_tell_93 (fun u H locs hq hP hD hS => ?_)
              obtain ⟨g1_93, n1_93⟩ := u
              have hq : (n1_93 = min (2 * m) nta - m) ∧ (qL g1_93 n1_93 = ((qL gta nta).take (2 * m)).drop m) := hq
              obtain ⟨hm_93, hL_93⟩ := hq
              refine W.eq (g2 := F0 mm 96 ls []) rfl ?_
              have hP : va_P D vwCl [(ky 0, oK ky ρ m), (ky 5, oR (ky 6) n5), (ky 6, aZ ta 32 gse), (ky 1, oR (ky 2) m), (ky 2, aZ ta 32 g1_81), (ky 3, oR (ky 4) n1_93), (ky 4, aZ ta 32 g1_93), (hta, oR bta nta), (bta, aZ ta 400 gta)] H := hP
              have hD : va_D A [(ky 0, oK ky ρ m), (ky 5, oR (ky 6) n5), (ky 6, aZ ta 32 gse), (ky 1, oR (ky 2) m), (ky 2, aZ ta 32 g1_81), (ky 3, oR (ky 4) n1_93), (ky 4, aZ ta 32 g1_93), (hta, oR bta nta), (bta, aZ ta 400 gta)] := hD
              have en_35 : m = n1_93 := by omega
              subst en_35
              refine lv_aload_n (pc := 96) hx hb dX3_tell_96 rfl (lv_at hl 2 rfl) ?_
              refine va_get (pc := 97) (D := D) (ci := 2) (v := .ref (ky 5)) (C := RX3) (T := TX3) (N := 5) hx hb hts iu3 hown hK hP 0 rfl rfl 4 (by decide) (hts _ tw_117) (fun _ h9 => h9) rfl dX3_tell_97 ?_
              refine lv_aload_n (pc := 100) hx hb dX3_tell_100 rfl (lv_at hl 4 rfl) ?_
              refine lv_iconst (pc := 101) (v := nI 2) hx hb dX3_tell_101 (by decide +kernel) ?_
              refine lv_iload_n (pc := 102) hx hb dX3_tell_102 rfl (lv_at hl 1 rfl) ?_
              refine lv_imul (pc := 103) hx hb dX3_tell_103 ?_
              refine q_top (y := nI (2 * m)) (pk_mul 2 m) ?_
              refine lv_iconst (pc := 104) (v := nI 3) hx hb dX3_tell_104 (by decide +kernel) ?_
              refine lv_iload_n (pc := 105) hx hb dX3_tell_105 rfl (lv_at hl 1 rfl) ?_
              refine lv_imul (pc := 106) hx hb dX3_tell_106 ?_
              refine q_top (y := nI (3 * m)) (pk_mul 3 m) ?_
              refine cs_V (pc := 107) (idx := 37) (n := 3) (wr := [(ky 0, oK ky ρ m), (ky 1, oR (ky 2) m), (ky 2, aZ ta 32 g1_81), (ky 3, oR (ky 4) m), (ky 4, aZ ta 32 g1_93)]) (As := [.ref hta, .int (nI (2 * m)), .int (nI (3 * m))]) (rest := []) (ci := 5) hx hb hml hown hts hGok hK hA hG hl.1 hP hD hS (ct_X6_copyPart ll D ta hGok (ky 5) (ky 6) 32 gse n5 hta bta 400 gta nta (2 * m) (3 * m) (by first | assumption | omega | rfl | decide) (by first | assumption | omega | rfl | decide) (by first | assumption | omega | rfl | decide) (by first | assumption | omega | rfl | decide) (by first | assumption | omega | rfl | decide) (by first | assumption | omega | rfl | decide) H.size) tw_464 tw_461 tw_462 tw_463 tw_66 hdX6_copyPart rfl ⟨rfl, rfl, Nat.le_of_ble_eq_true rfl, Nat.le_of_ble_eq_true rfl, Nat.le_of_ble_eq_true rfl, Nat.le_of_ble_eq_true rfl⟩ rfl rfl (q0 := 1) rfl [1, 2, 7, 8] [0, 3, 4, 5, 6] rfl rfl (by decide) rfl (Nat.le_of_ble_eq_true rfl) dX3_tell_107 (fun u H locs hq hP hD hS => ?_)
              obtain ⟨g1_107, n1_107⟩ := u
              have hq : (n1_107 = min (3 * m) nta - (2 * m)) ∧ (qL g1_107 n1_107 = ((qL gta nta).take (3 * m)).drop (2 * m)) := hq
              obtain ⟨hm_107, hL_107⟩ := hq
              refine W.eq (g2 := F0 mm 110 ls []) rfl ?_
              have hP : va_P D vwCl [(ky 0, oK ky ρ m), (ky 1, oR (ky 2) m), (ky 2, aZ ta 32 g1_81), (ky 3, oR (ky 4) m), (ky 4, aZ ta 32 g1_93), (ky 5, oR (ky 6) n1_107), (ky 6, aZ ta 32 g1_107), (hta, oR bta nta), (bta, aZ ta 400 gta)] H := hP
              have hD : va_D A [(ky 0, oK ky ρ m), (ky 1, oR (ky 2) m), (ky 2, aZ ta 32 g1_81), (ky 3, oR (ky 4) m), (ky 4, aZ ta 32 g1_93), (ky 5, oR (ky 6) n1_107), (ky 6, aZ ta 32 g1_107), (hta, oR bta nta), (bta, aZ ta 400 gta)] := hD
              have en_36 : m = n1_107 := by omega
              subst en_36
              refine lv_iconst (pc := 110) (v := nI 1) hx hb dX3_tell_110 (by decide +kernel) ?_
              refine q_top (y := qb true) (by first | rfl | decide +kernel | (simp; done)) ?_
              have hq_37 : (true = true) ∧ (qL g1_81 m = (qL gta nta).take m) ∧ (qL g1_93 m = ((qL gta nta).take (2 * m)).drop m) ∧ (qL g1_107 m = ((qL gta nta).take (3 * m)).drop (2 * m)) := by
                exact ⟨rfl, hL_81, hL_93, hL_107⟩
              exact hret (⟨(true), (g1_81), (g1_93), (g1_107)⟩ : Bool × (Nat → BitVec 8) × (Nat → BitVec 8) × (Nat → BitVec 8)) _ _ _ _ dX3_tell_111 hq_37 (hP.sub [0, 1, 2, 3, 4, 5, 6, 7, 8] rfl) (hD.sub [0, 1, 2, 3, 4, 5, 6, 7, 8] (by decide) rfl) hS
            · skip
              rw [nI_eq (by omega) (by omega)] at c_33
              refine lv_iload (pc := 57) hx hb dX3_tell_57 (lv_at hl 0 rfl) ?_
              refine lv_if_ne (pc := 59) (tgt := 64) hx hb dX3_tell_59 (by decide) (fun _ => ?_) (fun c_38 => absurd c_38 (by decide))
              refine lv_aload_n (pc := 64) hx hb dX3_tell_64 rfl (lv_at hl 2 rfl) ?_
              refine lv_iload_n (pc := 65) hx hb dX3_tell_65 rfl (lv_at hl 3 rfl) ?_
              refine va_put (pc := 66) (D := D) (ci := 2) (v := .int (nI ρ)) (ty := .int) (C := RX3) (T := TX3) (N := 5) hx hb hts iu3 tyX3 tyX3_ok nmX3 hown hK hP hD hS 0 rfl rfl 0 (by decide) (hts _ tw_106) (fun _ h9 => h9) rfl (by decide +kernel) rfl rfl (Nat.le_of_ble_eq_true rfl) dX3_tell_66 (fun H locs hP hD hS => ?_)
              have hP : va_P D vwCl [(ky 0, oK ky ρ ln), (ky 1, oR (ky 2) n1), (ky 2, aZ ta 32 ge), (ky 3, oR (ky 4) n3), (ky 4, aZ ta 32 gm), (ky 5, oR (ky 6) n5), (ky 6, aZ ta 32 gse), (hta, oR bta nta), (bta, aZ ta 400 gta)] H := hP
              have hD : va_D A [(ky 0, oK ky ρ ln), (ky 1, oR (ky 2) n1), (ky 2, aZ ta 32 ge), (ky 3, oR (ky 4) n3), (ky 4, aZ ta 32 gm), (ky 5, oR (ky 6) n5), (ky 6, aZ ta 32 gse), (hta, oR bta nta), (bta, aZ ta 400 gta)] := hD
              refine lv_aload_n (pc := 69) hx hb dX3_tell_69 rfl (lv_at hl 2 rfl) ?_
              refine lv_iload_n (pc := 70) hx hb dX3_tell_70 rfl (lv_at hl 1 rfl) ?_
              refine va_put (pc := 71) (D := D) (ci := 2) (v := .int (nI m)) (ty := .int) (C := RX3) (T := TX3) (N := 5) hx hb hts iu3 tyX3 tyX3_ok nmX3 hown hK hP hD hS 0 rfl rfl 1 (by decide) (hts _ tw_108) (fun _ h9 => h9) rfl (by decide +kernel) rfl rfl (Nat.le_of_ble_eq_true rfl) dX3_tell_71 (fun H locs hP hD hS => ?_)
              have hP : va_P D vwCl [(ky 0, oK ky ρ m), (ky 1, oR (ky 2) n1), (ky 2, aZ ta 32 ge), (ky 3, oR (ky 4) n3), (ky 4, aZ ta 32 gm), (ky 5, oR (ky 6) n5), (ky 6, aZ ta 32 gse), (hta, oR bta nta), (bta, aZ ta 400 gta)] H := hP
              have hD : va_D A [(ky 0, oK ky ρ m), (ky 1, oR (ky 2) n1), (ky 2, aZ ta 32 ge), (ky 3, oR (ky 4) n3), (ky 4, aZ ta 32 gm), (ky 5, oR (ky 6) n5), (ky 6, aZ ta 32 gse), (hta, oR bta nta), (bta, aZ ta 400 gta)] := hD
              refine lv_aload_n (pc := 74) hx hb dX3_tell_74 rfl (lv_at hl 2 rfl) ?_
              refine va_get (pc := 75) (D := D) (ci := 2) (v := .ref (ky 1)) (C := RX3) (T := TX3) (N := 5) hx hb hts iu3 hown hK hP 0 rfl rfl 2 (by decide) (hts _ tw_111) (fun _ h9 => h9) rfl dX3_tell_75 ?_
              refine lv_aload_n (pc := 78) hx hb dX3_tell_78 rfl (lv_at hl 4 rfl) ?_
              refine lv_iconst (pc := 79) (v := nI 0) hx hb dX3_tell_79 (by decide +kernel) ?_
              refine lv_iload_n (pc := 80) hx hb dX3_tell_80 rfl (lv_at hl 1 rfl) ?_
              refine cs_V (pc := 81) (idx := 37) (n := 3) (wr := [(ky 0, oK ky ρ m), (ky 3, oR (ky 4) n3), (ky 4, aZ ta 32 gm), (ky 5, oR (ky 6) n5), (ky 6, aZ ta 32 gse)]) (As := [.ref hta, .int (nI 0), .int (nI m)]) (rest := []) (ci := 5) hx hb hml hown hts hGok hK hA hG hl.1 hP hD hS (ct_X6_copyPart ll D ta hGok (ky 1) (ky 2) 32 ge n1 hta bta 400 gta nta 0 m (by first | assumption | omega | rfl | decide) (by first | assumption | omega | rfl | decide) (by first | assumption | omega | rfl | decide) (by first | assumption | omega | rfl | decide) (by first | assumption | omega | rfl | decide) (by first | assumption | omega | rfl | decide) H.size) tw_464 tw_461 tw_462 tw_463 tw_66 hdX6_copyPart rfl ⟨rfl, rfl, Nat.le_of_ble_eq_true rfl, Nat.le_of_ble_eq_true rfl, Nat.le_of_ble_eq_true rfl, Nat.le_of_ble_eq_true rfl⟩ rfl rfl (q0 := 1) rfl [1, 2, 7, 8] [0, 3, 4, 5, 6] rfl rfl (by decide) rfl (Nat.le_of_ble_eq_true rfl) dX3_tell_81 (fun u H locs hq hP hD hS => ?_)
              obtain ⟨g1_81, n1_81⟩ := u
              have hq : (n1_81 = min m nta - 0) ∧ (qL g1_81 n1_81 = ((qL gta nta).take m).drop 0) := hq
              obtain ⟨hm_81, hL_81⟩ := hq
              refine W.eq (g2 := F0 mm 84 ls []) rfl ?_
              have hP : va_P D vwCl [(ky 0, oK ky ρ m), (ky 3, oR (ky 4) n3), (ky 4, aZ ta 32 gm), (ky 5, oR (ky 6) n5), (ky 6, aZ ta 32 gse), (ky 1, oR (ky 2) n1_81), (ky 2, aZ ta 32 g1_81), (hta, oR bta nta), (bta, aZ ta 400 gta)] H := hP
              have hD : va_D A [(ky 0, oK ky ρ m), (ky 3, oR (ky 4) n3), (ky 4, aZ ta 32 gm), (ky 5, oR (ky 6) n5), (ky 6, aZ ta 32 gse), (ky 1, oR (ky 2) n1_81), (ky 2, aZ ta 32 g1_81), (hta, oR bta nta), (bta, aZ ta 400 gta)] := hD
              have en_39 : m = n1_81 := by omega
              subst en_39
              refine lv_aload_n (pc := 84) hx hb dX3_tell_84 rfl (lv_at hl 2 rfl) ?_
              refine va_get (pc := 85) (D := D) (ci := 2) (v := .ref (ky 3)) (C := RX3) (T := TX3) (N := 5) hx hb hts iu3 hown hK hP 0 rfl rfl 3 (by decide) (hts _ tw_114) (fun _ h9 => h9) rfl dX3_tell_85 ?_
              refine lv_aload_n (pc := 88) hx hb dX3_tell_88 rfl (lv_at hl 4 rfl) ?_
              refine lv_iload_n (pc := 89) hx hb dX3_tell_89 rfl (lv_at hl 1 rfl) ?_
              refine lv_iconst (pc := 90) (v := nI 2) hx hb dX3_tell_90 (by decide +kernel) ?_
              refine lv_iload_n (pc := 91) hx hb dX3_tell_91 rfl (lv_at hl 1 rfl) ?_
              refine lv_imul (pc := 92) hx hb dX3_tell_92 ?_
              refine q_top (y := nI (2 * m)) (pk_mul 2 m) ?_
              refine cs_V (pc := 93) (idx := 37) (n := 3) (wr := [(ky 0, oK ky ρ m), (ky 5, oR (ky 6) n5), (ky 6, aZ ta 32 gse), (ky 1, oR (ky 2) m), (ky 2, aZ ta 32 g1_81)]) (As := [.ref hta, .int (nI m), .int (nI (2 * m))]) (rest := []) (ci := 5) hx hb hml hown hts hGok hK hA hG hl.1 hP hD hS (ct_X6_copyPart ll D ta hGok (ky 3) (ky 4) 32 gm n3 hta bta 400 gta nta m (2 * m) (by first | assumption | omega | rfl | decide) (by first | assumption | omega | rfl | decide) (by first | assumption | omega | rfl | decide) (by first | assumption | omega | rfl | decide) (by first | assumption | omega | rfl | decide) (by first | assumption | omega | rfl | decide) H.size) tw_464 tw_461 tw_462 tw_463 tw_66 hdX6_copyPart rfl ⟨rfl, rfl, Nat.le_of_ble_eq_true rfl, Nat.le_of_ble_eq_true rfl, Nat.le_of_ble_eq_true rfl, Nat.le_of_ble_eq_true rfl⟩ rfl rfl (q0 := 1) rfl [1, 2, 7, 8] [0, 3, 4, 5, 6] rfl rfl (by decide) rfl (Nat.le_of_ble_eq_true rfl) dX3_tell_93 (fun u H locs hq hP hD hS => ?_)
              obtain ⟨g1_93, n1_93⟩ := u
              have hq : (n1_93 = min (2 * m) nta - m) ∧ (qL g1_93 n1_93 = ((qL gta nta).take (2 * m)).drop m) := hq
              obtain ⟨hm_93, hL_93⟩ := hq
              refine W.eq (g2 := F0 mm 96 ls []) rfl ?_
              have hP : va_P D vwCl [(ky 0, oK ky ρ m), (ky 5, oR (ky 6) n5), (ky 6, aZ ta 32 gse), (ky 1, oR (ky 2) m), (ky 2, aZ ta 32 g1_81), (ky 3, oR (ky 4) n1_93), (ky 4, aZ ta 32 g1_93), (hta, oR bta nta), (bta, aZ ta 400 gta)] H := hP
              have hD : va_D A [(ky 0, oK ky ρ m), (ky 5, oR (ky 6) n5), (ky 6, aZ ta 32 gse), (ky 1, oR (ky 2) m), (ky 2, aZ ta 32 g1_81), (ky 3, oR (ky 4) n1_93), (ky 4, aZ ta 32 g1_93), (hta, oR bta nta), (bta, aZ ta 400 gta)] := hD
              have en_40 : m = n1_93 := by omega
              subst en_40
              refine lv_aload_n (pc := 96) hx hb dX3_tell_96 rfl (lv_at hl 2 rfl) ?_
              refine va_get (pc := 97) (D := D) (ci := 2) (v := .ref (ky 5)) (C := RX3) (T := TX3) (N := 5) hx hb hts iu3 hown hK hP 0 rfl rfl 4 (by decide) (hts _ tw_117) (fun _ h9 => h9) rfl dX3_tell_97 ?_
              refine lv_aload_n (pc := 100) hx hb dX3_tell_100 rfl (lv_at hl 4 rfl) ?_
              refine lv_iconst (pc := 101) (v := nI 2) hx hb dX3_tell_101 (by decide +kernel) ?_
              refine lv_iload_n (pc := 102) hx hb dX3_tell_102 rfl (lv_at hl 1 rfl) ?_
              refine lv_imul (pc := 103) hx hb dX3_tell_103 ?_
              refine q_top (y := nI (2 * m)) (pk_mul 2 m) ?_
              refine lv_iconst (pc := 104) (v := nI 3) hx hb dX3_tell_104 (by decide +kernel) ?_
              refine lv_iload_n (pc := 105) hx hb dX3_tell_105 rfl (lv_at hl 1 rfl) ?_
              refine lv_imul (pc := 106) hx hb dX3_tell_106 ?_
              refine q_top (y := nI (3 * m)) (pk_mul 3 m) ?_
              refine cs_V (pc := 107) (idx := 37) (n := 3) (wr := [(ky 0, oK ky ρ m), (ky 1, oR (ky 2) m), (ky 2, aZ ta 32 g1_81), (ky 3, oR (ky 4) m), (ky 4, aZ ta 32 g1_93)]) (As := [.ref hta, .int (nI (2 * m)), .int (nI (3 * m))]) (rest := []) (ci := 5) hx hb hml hown hts hGok hK hA hG hl.1 hP hD hS (ct_X6_copyPart ll D ta hGok (ky 5) (ky 6) 32 gse n5 hta bta 400 gta nta (2 * m) (3 * m) (by first | assumption | omega | rfl | decide) (by first | assumption | omega | rfl | decide) (by first | assumption | omega | rfl | decide) (by first | assumption | omega | rfl | decide) (by first | assumption | omega | rfl | decide) (by first | assumption | omega | rfl | decide) H.size) tw_464 tw_461 tw_462 tw_463 tw_66 hdX6_copyPart rfl ⟨rfl, rfl, Nat.le_of_ble_eq_true rfl, Nat.le_of_ble_eq_true rfl, Nat.le_of_ble_eq_true rfl, Nat.le_of_ble_eq_true rfl⟩ rfl rfl (q0 := 1) rfl [1, 2, 7, 8] [0, 3, 4, 5, 6] rfl rfl (by decide) rfl (Nat.le_of_ble_eq_true rfl) dX3_tell_107 (fun u H locs hq hP hD hS => ?_)
              obtain ⟨g1_107, n1_107⟩ := u
              have hq : (n1_107 = min (3 * m) nta - (2 * m)) ∧ (qL g1_107 n1_107 = ((qL gta nta).take (3 * m)).drop (2 * m)) := hq
              obtain ⟨hm_107, hL_107⟩ := hq
              refine W.eq (g2 := F0 mm 110 ls []) rfl ?_
              have hP : va_P D vwCl [(ky 0, oK ky ρ m), (ky 1, oR (ky 2) m), (ky 2, aZ ta 32 g1_81), (ky 3, oR (ky 4) m), (ky 4, aZ ta 32 g1_93), (ky 5, oR (ky 6) n1_107), (ky 6, aZ ta 32 g1_107), (hta, oR bta nta), (bta, aZ ta 400 gta)] H := hP
              have hD : va_D A [(ky 0, oK ky ρ m), (ky 1, oR (ky 2) m), (ky 2, aZ ta 32 g1_81), (ky 3, oR (ky 4) m), (ky 4, aZ ta 32 g1_93), (ky 5, oR (ky 6) n1_107), (ky 6, aZ ta 32 g1_107), (hta, oR bta nta), (bta, aZ ta 400 gta)] := hD
              have en_41 : m = n1_107 := by omega
              subst en_41
              refine lv_iconst (pc := 110) (v := nI 1) hx hb dX3_tell_110 (by decide +kernel) ?_
              refine q_top (y := qb true) (by first | rfl | decide +kernel | (simp; done)) ?_
              have hq_42 : (true = true) ∧ (qL g1_81 m = (qL gta nta).take m) ∧ (qL g1_93 m = ((qL gta nta).take (2 * m)).drop m) ∧ (qL g1_107 m = ((qL gta nta).take (3 * m)).drop (2 * m)) := by
                exact ⟨rfl, hL_81, hL_93, hL_107⟩
              exact hret (⟨(true), (g1_81), (g1_93), (g1_107)⟩ : Bool × (Nat → BitVec 8) × (Nat → BitVec 8) × (Nat → BitVec 8)) _ _ _ _ dX3_tell_111 hq_42 (hP.sub [0, 1, 2, 3, 4, 5, 6, 7, 8] rfl) (hD.sub [0, 1, 2, 3, 4, 5, 6, 7, 8] (by decide) rfl) hS
    · skip
      rw [nI_eq (by omega) (by omega)] at c_18
      refine lv_iload_n (pc := 18) hx hb dX3_tell_18 rfl (lv_at hl 0 rfl) ?_
      refine lv_bipush (pc := 19) (v := nI 32) hx hb dX3_tell_19 (by decide +kernel) ?_
      refine lv_icmp_ne (pc := 21) (tgt := 28) hx hb dX3_tell_21 (by decide) (fun c_43 => ?_) (fun c_43 => ?_)
      · skip
        rw [nI_eq (by omega) (by omega)] at c_43
        refine lv_iconst (pc := 28) (v := nI 0) hx hb dX3_tell_28 (by decide +kernel) ?_
        refine lv_istore (pc := 29) (lv' := [(4, .int (nI 0)), (3, .int (nI m)), (0, .ref (ky 0)), (1, .int (nI ρ)), (2, .ref hta)]) hx hb dX3_tell_29 hl (by decide) rfl (fun ls hl => ?_)
        refine lv_iload_n (pc := 31) hx hb dX3_tell_31 rfl (lv_at hl 3 rfl) ?_
        refine lv_iconst (pc := 32) (v := nI 2) hx hb dX3_tell_32 (by decide +kernel) ?_
        refine lv_icmp_eq (pc := 33) (tgt := 41) hx hb dX3_tell_33 (by decide) (fun c_44 => ?_) (fun c_44 => ?_)
        · skip
          rw [nI_eq (by omega) (by omega)] at c_44
          refine lv_iload_n (pc := 41) hx hb dX3_tell_41 rfl (lv_at hl 1 rfl) ?_
          refine lv_iconst (pc := 42) (v := nI 3) hx hb dX3_tell_42 (by decide +kernel) ?_
          refine lv_imul (pc := 43) hx hb dX3_tell_43 ?_
          refine q_top (y := nI (m * 3)) (pk_mul m 3) ?_
          refine lv_aload_n (pc := 44) hx hb dX3_tell_44 rfl (lv_at hl 4 rfl) ?_
          refine cs_V (pc := 45) (idx := 33) (n := 0) (wr := [(ky 0, oK ky ru ln), (ky 1, oR (ky 2) n1), (ky 2, aZ ta 32 ge), (ky 3, oR (ky 4) n3), (ky 4, aZ ta 32 gm), (ky 5, oR (ky 6) n5), (ky 6, aZ ta 32 gse)]) (As := []) (rest := [.int (nI (m * 3))]) (ci := 5) hx hb hml hown hts hGok hK hA hG hl.1 hP hD hS (ct_X6_size ll D ta hGok hta bta 400 gta nta  H.size) tw_393 tw_460 tw_391 tw_392 tw_66 hdX6_size rfl ⟨rfl, rfl, Nat.le_of_ble_eq_true rfl, Nat.le_of_ble_eq_true rfl, Nat.le_of_ble_eq_true rfl, Nat.le_of_ble_eq_true rfl⟩ rfl rfl (q0 := 7) rfl [7, 8] [0, 1, 2, 3, 4, 5, 6] rfl rfl (by decide) rfl (Nat.le_of_ble_eq_true rfl) dX3_tell_45 (fun u H locs hq hP hD hS => ?_)
          refine W.eq (g2 := F0 mm 48 ls [.int (nI nta), .int (nI (m * 3))]) rfl ?_
          have hP : va_P D vwCl [(ky 0, oK ky ru ln), (ky 1, oR (ky 2) n1), (ky 2, aZ ta 32 ge), (ky 3, oR (ky 4) n3), (ky 4, aZ ta 32 gm), (ky 5, oR (ky 6) n5), (ky 6, aZ ta 32 gse), (hta, oR bta nta), (bta, aZ ta 400 gta)] H := hP
          have hD : va_D A [(ky 0, oK ky ru ln), (ky 1, oR (ky 2) n1), (ky 2, aZ ta 32 ge), (ky 3, oR (ky 4) n3), (ky 4, aZ ta 32 gm), (ky 5, oR (ky 6) n5), (ky 6, aZ ta 32 gse), (hta, oR bta nta), (bta, aZ ta 400 gta)] := hD
          refine lv_icmp_ne (pc := 48) (tgt := 62) hx hb dX3_tell_48 (by decide) (fun c_45 => ?_) (fun c_45 => ?_)
          · skip
            rw [nI_eq (by omega) (by omega)] at c_45
            exfalso; omega
          · skip
            rw [nI_eq (by omega) (by omega)] at c_45
            refine lv_iload_n (pc := 51) hx hb dX3_tell_51 rfl (lv_at hl 1 rfl) ?_
            refine lv_bipush (pc := 52) (v := nI 16) hx hb dX3_tell_52 (by decide +kernel) ?_
            refine lv_icmp_eq (pc := 54) (tgt := 64) hx hb dX3_tell_54 (by decide) (fun c_46 => ?_) (fun c_46 => ?_)
            · skip
              rw [nI_eq (by omega) (by omega)] at c_46
              refine lv_aload_n (pc := 64) hx hb dX3_tell_64 rfl (lv_at hl 2 rfl) ?_
              refine lv_iload_n (pc := 65) hx hb dX3_tell_65 rfl (lv_at hl 3 rfl) ?_
              refine va_put (pc := 66) (D := D) (ci := 2) (v := .int (nI ρ)) (ty := .int) (C := RX3) (T := TX3) (N := 5) hx hb hts iu3 tyX3 tyX3_ok nmX3 hown hK hP hD hS 0 rfl rfl 0 (by decide) (hts _ tw_106) (fun _ h9 => h9) rfl (by decide +kernel) rfl rfl (Nat.le_of_ble_eq_true rfl) dX3_tell_66 (fun H locs hP hD hS => ?_)
              have hP : va_P D vwCl [(ky 0, oK ky ρ ln), (ky 1, oR (ky 2) n1), (ky 2, aZ ta 32 ge), (ky 3, oR (ky 4) n3), (ky 4, aZ ta 32 gm), (ky 5, oR (ky 6) n5), (ky 6, aZ ta 32 gse), (hta, oR bta nta), (bta, aZ ta 400 gta)] H := hP
              have hD : va_D A [(ky 0, oK ky ρ ln), (ky 1, oR (ky 2) n1), (ky 2, aZ ta 32 ge), (ky 3, oR (ky 4) n3), (ky 4, aZ ta 32 gm), (ky 5, oR (ky 6) n5), (ky 6, aZ ta 32 gse), (hta, oR bta nta), (bta, aZ ta 400 gta)] := hD
              refine lv_aload_n (pc := 69) hx hb dX3_tell_69 rfl (lv_at hl 2 rfl) ?_
              refine lv_iload_n (pc := 70) hx hb dX3_tell_70 rfl (lv_at hl 1 rfl) ?_
              refine va_put (pc := 71) (D := D) (ci := 2) (v := .int (nI m)) (ty := .int) (C := RX3) (T := TX3) (N := 5) hx hb hts iu3 tyX3 tyX3_ok nmX3 hown hK hP hD hS 0 rfl rfl 1 (by decide) (hts _ tw_108) (fun _ h9 => h9) rfl (by decide +kernel) rfl rfl (Nat.le_of_ble_eq_true rfl) dX3_tell_71 (fun H locs hP hD hS => ?_)
              have hP : va_P D vwCl [(ky 0, oK ky ρ m), (ky 1, oR (ky 2) n1), (ky 2, aZ ta 32 ge), (ky 3, oR (ky 4) n3), (ky 4, aZ ta 32 gm), (ky 5, oR (ky 6) n5), (ky 6, aZ ta 32 gse), (hta, oR bta nta), (bta, aZ ta 400 gta)] H := hP
              have hD : va_D A [(ky 0, oK ky ρ m), (ky 1, oR (ky 2) n1), (ky 2, aZ ta 32 ge), (ky 3, oR (ky 4) n3), (ky 4, aZ ta 32 gm), (ky 5, oR (ky 6) n5), (ky 6, aZ ta 32 gse), (hta, oR bta nta), (bta, aZ ta 400 gta)] := hD
              refine lv_aload_n (pc := 74) hx hb dX3_tell_74 rfl (lv_at hl 2 rfl) ?_
              refine va_get (pc := 75) (D := D) (ci := 2) (v := .ref (ky 1)) (C := RX3) (T := TX3) (N := 5) hx hb hts iu3 hown hK hP 0 rfl rfl 2 (by decide) (hts _ tw_111) (fun _ h9 => h9) rfl dX3_tell_75 ?_
              refine lv_aload_n (pc := 78) hx hb dX3_tell_78 rfl (lv_at hl 4 rfl) ?_
              refine lv_iconst (pc := 79) (v := nI 0) hx hb dX3_tell_79 (by decide +kernel) ?_
              refine lv_iload_n (pc := 80) hx hb dX3_tell_80 rfl (lv_at hl 1 rfl) ?_
              refine cs_V (pc := 81) (idx := 37) (n := 3) (wr := [(ky 0, oK ky ρ m), (ky 3, oR (ky 4) n3), (ky 4, aZ ta 32 gm), (ky 5, oR (ky 6) n5), (ky 6, aZ ta 32 gse)]) (As := [.ref hta, .int (nI 0), .int (nI m)]) (rest := []) (ci := 5) hx hb hml hown hts hGok hK hA hG hl.1 hP hD hS (ct_X6_copyPart ll D ta hGok (ky 1) (ky 2) 32 ge n1 hta bta 400 gta nta 0 m (by first | assumption | omega | rfl | decide) (by first | assumption | omega | rfl | decide) (by first | assumption | omega | rfl | decide) (by first | assumption | omega | rfl | decide) (by first | assumption | omega | rfl | decide) (by first | assumption | omega | rfl | decide) H.size) tw_464 tw_461 tw_462 tw_463 tw_66 hdX6_copyPart rfl ⟨rfl, rfl, Nat.le_of_ble_eq_true rfl, Nat.le_of_ble_eq_true rfl, Nat.le_of_ble_eq_true rfl, Nat.le_of_ble_eq_true rfl⟩ rfl rfl (q0 := 1) rfl [1, 2, 7, 8] [0, 3, 4, 5, 6] rfl rfl (by decide) rfl (Nat.le_of_ble_eq_true rfl) dX3_tell_81 (fun u H locs hq hP hD hS => ?_)
              obtain ⟨g1_81, n1_81⟩ := u
              have hq : (n1_81 = min m nta - 0) ∧ (qL g1_81 n1_81 = ((qL gta nta).take m).drop 0) := hq
              obtain ⟨hm_81, hL_81⟩ := hq
              refine W.eq (g2 := F0 mm 84 ls []) rfl ?_
              have hP : va_P D vwCl [(ky 0, oK ky ρ m), (ky 3, oR (ky 4) n3), (ky 4, aZ ta 32 gm), (ky 5, oR (ky 6) n5), (ky 6, aZ ta 32 gse), (ky 1, oR (ky 2) n1_81), (ky 2, aZ ta 32 g1_81), (hta, oR bta nta), (bta, aZ ta 400 gta)] H := hP
              have hD : va_D A [(ky 0, oK ky ρ m), (ky 3, oR (ky 4) n3), (ky 4, aZ ta 32 gm), (ky 5, oR (ky 6) n5), (ky 6, aZ ta 32 gse), (ky 1, oR (ky 2) n1_81), (ky 2, aZ ta 32 g1_81), (hta, oR bta nta), (bta, aZ ta 400 gta)] := hD
              have en_47 : m = n1_81 := by omega
              subst en_47
              refine lv_aload_n (pc := 84) hx hb dX3_tell_84 rfl (lv_at hl 2 rfl) ?_
              refine va_get (pc := 85) (D := D) (ci := 2) (v := .ref (ky 3)) (C := RX3) (T := TX3) (N := 5) hx hb hts iu3 hown hK hP 0 rfl rfl 3 (by decide) (hts _ tw_114) (fun _ h9 => h9) rfl dX3_tell_85 ?_
              refine lv_aload_n (pc := 88) hx hb dX3_tell_88 rfl (lv_at hl 4 rfl) ?_
              refine lv_iload_n (pc := 89) hx hb dX3_tell_89 rfl (lv_at hl 1 rfl) ?_
              refine lv_iconst (pc := 90) (v := nI 2) hx hb dX3_tell_90 (by decide +kernel) ?_
              refine lv_iload_n (pc := 91) hx hb dX3_tell_91 rfl (lv_at hl 1 rfl) ?_
              refine lv_imul (pc := 92) hx hb dX3_tell_92 ?_
              refine q_top (y := nI (2 * m)) (pk_mul 2 m) ?_
              refine cs_V (pc := 93) (idx := 37) (n := 3) (wr := [(ky 0, oK ky ρ m), (ky 5, oR (ky 6) n5), (ky 6, aZ ta 32 gse), (ky 1, oR (ky 2) m), (ky 2, aZ ta 32 g1_81)]) (As := [.ref hta, .int (nI m), .int (nI (2 * m))]) (rest := []) (ci := 5) hx hb hml hown hts hGok hK hA hG hl.1 hP hD hS (ct_X6_copyPart ll D ta hGok (ky 3) (ky 4) 32 gm n3 hta bta 400 gta nta m (2 * m) (by first | assumption | omega | rfl | decide) (by first | assumption | omega | rfl | decide) (by first | assumption | omega | rfl | decide) (by first | assumption | omega | rfl | decide) (by first | assumption | omega | rfl | decide) (by first | assumption | omega | rfl | decide) H.size) tw_464 tw_461 tw_462 tw_463 tw_66 hdX6_copyPart rfl ⟨rfl, rfl, Nat.le_of_ble_eq_true rfl, Nat.le_of_ble_eq_true rfl, Nat.le_of_ble_eq_true rfl, Nat.le_of_ble_eq_true rfl⟩ rfl rfl (q0 := 1) rfl [1, 2, 7, 8] [0, 3, 4, 5, 6] rfl rfl (by decide) rfl (Nat.le_of_ble_eq_true rfl) dX3_tell_93 (fun u H locs hq hP hD hS => ?_)
              obtain ⟨g1_93, n1_93⟩ := u
              have hq : (n1_93 = min (2 * m) nta - m) ∧ (qL g1_93 n1_93 = ((qL gta nta).take (2 * m)).drop m) := hq
              obtain ⟨hm_93, hL_93⟩ := hq
              refine W.eq (g2 := F0 mm 96 ls []) rfl ?_
              have hP : va_P D vwCl [(ky 0, oK ky ρ m), (ky 5, oR (ky 6) n5), (ky 6, aZ ta 32 gse), (ky 1, oR (ky 2) m), (ky 2, aZ ta 32 g1_81), (ky 3, oR (ky 4) n1_93), (ky 4, aZ ta 32 g1_93), (hta, oR bta nta), (bta, aZ ta 400 gta)] H := hP
              have hD : va_D A [(ky 0, oK ky ρ m), (ky 5, oR (ky 6) n5), (ky 6, aZ ta 32 gse), (ky 1, oR (ky 2) m), (ky 2, aZ ta 32 g1_81), (ky 3, oR (ky 4) n1_93), (ky 4, aZ ta 32 g1_93), (hta, oR bta nta), (bta, aZ ta 400 gta)] := hD
              have en_48 : m = n1_93 := by omega
              subst en_48
              refine lv_aload_n (pc := 96) hx hb dX3_tell_96 rfl (lv_at hl 2 rfl) ?_
              refine va_get (pc := 97) (D := D) (ci := 2) (v := .ref (ky 5)) (C := RX3) (T := TX3) (N := 5) hx hb hts iu3 hown hK hP 0 rfl rfl 4 (by decide) (hts _ tw_117) (fun _ h9 => h9) rfl dX3_tell_97 ?_
              refine lv_aload_n (pc := 100) hx hb dX3_tell_100 rfl (lv_at hl 4 rfl) ?_
              refine lv_iconst (pc := 101) (v := nI 2) hx hb dX3_tell_101 (by decide +kernel) ?_
              refine lv_iload_n (pc := 102) hx hb dX3_tell_102 rfl (lv_at hl 1 rfl) ?_
              refine lv_imul (pc := 103) hx hb dX3_tell_103 ?_
              refine q_top (y := nI (2 * m)) (pk_mul 2 m) ?_
              refine lv_iconst (pc := 104) (v := nI 3) hx hb dX3_tell_104 (by decide +kernel) ?_
              refine lv_iload_n (pc := 105) hx hb dX3_tell_105 rfl (lv_at hl 1 rfl) ?_
              refine lv_imul (pc := 106) hx hb dX3_tell_106 ?_
              refine q_top (y := nI (3 * m)) (pk_mul 3 m) ?_
              refine cs_V (pc := 107) (idx := 37) (n := 3) (wr := [(ky 0, oK ky ρ m), (ky 1, oR (ky 2) m), (ky 2, aZ ta 32 g1_81), (ky 3, oR (ky 4) m), (ky 4, aZ ta 32 g1_93)]) (As := [.ref hta, .int (nI (2 * m)), .int (nI (3 * m))]) (rest := []) (ci := 5) hx hb hml hown hts hGok hK hA hG hl.1 hP hD hS (ct_X6_copyPart ll D ta hGok (ky 5) (ky 6) 32 gse n5 hta bta 400 gta nta (2 * m) (3 * m) (by first | assumption | omega | rfl | decide) (by first | assumption | omega | rfl | decide) (by first | assumption | omega | rfl | decide) (by first | assumption | omega | rfl | decide) (by first | assumption | omega | rfl | decide) (by first | assumption | omega | rfl | decide) H.size) tw_464 tw_461 tw_462 tw_463 tw_66 hdX6_copyPart rfl ⟨rfl, rfl, Nat.le_of_ble_eq_true rfl, Nat.le_of_ble_eq_true rfl, Nat.le_of_ble_eq_true rfl, Nat.le_of_ble_eq_true rfl⟩ rfl rfl (q0 := 1) rfl [1, 2, 7, 8] [0, 3, 4, 5, 6] rfl rfl (by decide) rfl (Nat.le_of_ble_eq_true rfl) dX3_tell_107 (fun u H locs hq hP hD hS => ?_)
              obtain ⟨g1_107, n1_107⟩ := u
              have hq : (n1_107 = min (3 * m) nta - (2 * m)) ∧ (qL g1_107 n1_107 = ((qL gta nta).take (3 * m)).drop (2 * m)) := hq
              obtain ⟨hm_107, hL_107⟩ := hq
              refine W.eq (g2 := F0 mm 110 ls []) rfl ?_
              have hP : va_P D vwCl [(ky 0, oK ky ρ m), (ky 1, oR (ky 2) m), (ky 2, aZ ta 32 g1_81), (ky 3, oR (ky 4) m), (ky 4, aZ ta 32 g1_93), (ky 5, oR (ky 6) n1_107), (ky 6, aZ ta 32 g1_107), (hta, oR bta nta), (bta, aZ ta 400 gta)] H := hP
              have hD : va_D A [(ky 0, oK ky ρ m), (ky 1, oR (ky 2) m), (ky 2, aZ ta 32 g1_81), (ky 3, oR (ky 4) m), (ky 4, aZ ta 32 g1_93), (ky 5, oR (ky 6) n1_107), (ky 6, aZ ta 32 g1_107), (hta, oR bta nta), (bta, aZ ta 400 gta)] := hD
              have en_49 : m = n1_107 := by omega
              subst en_49
              refine lv_iconst (pc := 110) (v := nI 1) hx hb dX3_tell_110 (by decide +kernel) ?_
              refine q_top (y := qb true) (by first | rfl | decide +kernel | (simp; done)) ?_
              have hq_50 : (true = true) ∧ (qL g1_81 m = (qL gta nta).take m) ∧ (qL g1_93 m = ((qL gta nta).take (2 * m)).drop m) ∧ (qL g1_107 m = ((qL gta nta).take (3 * m)).drop (2 * m)) := by
                exact ⟨rfl, hL_81, hL_93, hL_107⟩
              exact hret (⟨(true), (g1_81), (g1_93), (g1_107)⟩ : Bool × (Nat → BitVec 8) × (Nat → BitVec 8) × (Nat → BitVec 8)) _ _ _ _ dX3_tell_111 hq_50 (hP.sub [0, 1, 2, 3, 4, 5, 6, 7, 8] rfl) (hD.sub [0, 1, 2, 3, 4, 5, 6, 7, 8] (by decide) rfl) hS
            · skip
              rw [nI_eq (by omega) (by omega)] at c_46
              refine lv_iload (pc := 57) hx hb dX3_tell_57 (lv_at hl 0 rfl) ?_
              refine lv_if_ne (pc := 59) (tgt := 64) hx hb dX3_tell_59 (by decide) (fun c_51 => absurd (by decide) c_51) (fun _ => ?_)
              exfalso; omega
        · skip
          rw [nI_eq (by omega) (by omega)] at c_44
          refine lv_iload_n (pc := 36) hx hb dX3_tell_36 rfl (lv_at hl 3 rfl) ?_
          refine lv_iconst (pc := 37) (v := nI 3) hx hb dX3_tell_37 (by decide +kernel) ?_
          refine lv_icmp_ne (pc := 38) (tgt := 62) hx hb dX3_tell_38 (by decide) (fun c_52 => ?_) (fun c_52 => ?_)
          · skip
            rw [nI_eq (by omega) (by omega)] at c_52
            exfalso; omega
          · skip
            rw [nI_eq (by omega) (by omega)] at c_52
            refine lv_iload_n (pc := 41) hx hb dX3_tell_41 rfl (lv_at hl 1 rfl) ?_
            refine lv_iconst (pc := 42) (v := nI 3) hx hb dX3_tell_42 (by decide +kernel) ?_
            refine lv_imul (pc := 43) hx hb dX3_tell_43 ?_
            refine q_top (y := nI (m * 3)) (pk_mul m 3) ?_
            refine lv_aload_n (pc := 44) hx hb dX3_tell_44 rfl (lv_at hl 4 rfl) ?_
            refine cs_V (pc := 45) (idx := 33) (n := 0) (wr := [(ky 0, oK ky ru ln), (ky 1, oR (ky 2) n1), (ky 2, aZ ta 32 ge), (ky 3, oR (ky 4) n3), (ky 4, aZ ta 32 gm), (ky 5, oR (ky 6) n5), (ky 6, aZ ta 32 gse)]) (As := []) (rest := [.int (nI (m * 3))]) (ci := 5) hx hb hml hown hts hGok hK hA hG hl.1 hP hD hS (ct_X6_size ll D ta hGok hta bta 400 gta nta  H.size) tw_393 tw_460 tw_391 tw_392 tw_66 hdX6_size rfl ⟨rfl, rfl, Nat.le_of_ble_eq_true rfl, Nat.le_of_ble_eq_true rfl, Nat.le_of_ble_eq_true rfl, Nat.le_of_ble_eq_true rfl⟩ rfl rfl (q0 := 7) rfl [7, 8] [0, 1, 2, 3, 4, 5, 6] rfl rfl (by decide) rfl (Nat.le_of_ble_eq_true rfl) dX3_tell_45 (fun u H locs hq hP hD hS => ?_)
            refine W.eq (g2 := F0 mm 48 ls [.int (nI nta), .int (nI (m * 3))]) rfl ?_
            have hP : va_P D vwCl [(ky 0, oK ky ru ln), (ky 1, oR (ky 2) n1), (ky 2, aZ ta 32 ge), (ky 3, oR (ky 4) n3), (ky 4, aZ ta 32 gm), (ky 5, oR (ky 6) n5), (ky 6, aZ ta 32 gse), (hta, oR bta nta), (bta, aZ ta 400 gta)] H := hP
            have hD : va_D A [(ky 0, oK ky ru ln), (ky 1, oR (ky 2) n1), (ky 2, aZ ta 32 ge), (ky 3, oR (ky 4) n3), (ky 4, aZ ta 32 gm), (ky 5, oR (ky 6) n5), (ky 6, aZ ta 32 gse), (hta, oR bta nta), (bta, aZ ta 400 gta)] := hD
            refine lv_icmp_ne (pc := 48) (tgt := 62) hx hb dX3_tell_48 (by decide) (fun c_53 => ?_) (fun c_53 => ?_)
            · skip
              rw [nI_eq (by omega) (by omega)] at c_53
              exfalso; omega
            · skip
              rw [nI_eq (by omega) (by omega)] at c_53
              refine lv_iload_n (pc := 51) hx hb dX3_tell_51 rfl (lv_at hl 1 rfl) ?_
              refine lv_bipush (pc := 52) (v := nI 16) hx hb dX3_tell_52 (by decide +kernel) ?_
              refine lv_icmp_eq (pc := 54) (tgt := 64) hx hb dX3_tell_54 (by decide) (fun c_54 => ?_) (fun c_54 => ?_)
              · skip
                rw [nI_eq (by omega) (by omega)] at c_54
                refine lv_aload_n (pc := 64) hx hb dX3_tell_64 rfl (lv_at hl 2 rfl) ?_
                refine lv_iload_n (pc := 65) hx hb dX3_tell_65 rfl (lv_at hl 3 rfl) ?_
                refine va_put (pc := 66) (D := D) (ci := 2) (v := .int (nI ρ)) (ty := .int) (C := RX3) (T := TX3) (N := 5) hx hb hts iu3 tyX3 tyX3_ok nmX3 hown hK hP hD hS 0 rfl rfl 0 (by decide) (hts _ tw_106) (fun _ h9 => h9) rfl (by decide +kernel) rfl rfl (Nat.le_of_ble_eq_true rfl) dX3_tell_66 (fun H locs hP hD hS => ?_)
                have hP : va_P D vwCl [(ky 0, oK ky ρ ln), (ky 1, oR (ky 2) n1), (ky 2, aZ ta 32 ge), (ky 3, oR (ky 4) n3), (ky 4, aZ ta 32 gm), (ky 5, oR (ky 6) n5), (ky 6, aZ ta 32 gse), (hta, oR bta nta), (bta, aZ ta 400 gta)] H := hP
                have hD : va_D A [(ky 0, oK ky ρ ln), (ky 1, oR (ky 2) n1), (ky 2, aZ ta 32 ge), (ky 3, oR (ky 4) n3), (ky 4, aZ ta 32 gm), (ky 5, oR (ky 6) n5), (ky 6, aZ ta 32 gse), (hta, oR bta nta), (bta, aZ ta 400 gta)] := hD
                refine lv_aload_n (pc := 69) hx hb dX3_tell_69 rfl (lv_at hl 2 rfl) ?_
                refine lv_iload_n (pc := 70) hx hb dX3_tell_70 rfl (lv_at hl 1 rfl) ?_
                refine va_put (pc := 71) (D := D) (ci := 2) (v := .int (nI m)) (ty := .int) (C := RX3) (T := TX3) (N := 5) hx hb hts iu3 tyX3 tyX3_ok nmX3 hown hK hP hD hS 0 rfl rfl 1 (by decide) (hts _ tw_108) (fun _ h9 => h9) rfl (by decide +kernel) rfl rfl (Nat.le_of_ble_eq_true rfl) dX3_tell_71 (fun H locs hP hD hS => ?_)
                have hP : va_P D vwCl [(ky 0, oK ky ρ m), (ky 1, oR (ky 2) n1), (ky 2, aZ ta 32 ge), (ky 3, oR (ky 4) n3), (ky 4, aZ ta 32 gm), (ky 5, oR (ky 6) n5), (ky 6, aZ ta 32 gse), (hta, oR bta nta), (bta, aZ ta 400 gta)] H := hP
                have hD : va_D A [(ky 0, oK ky ρ m), (ky 1, oR (ky 2) n1), (ky 2, aZ ta 32 ge), (ky 3, oR (ky 4) n3), (ky 4, aZ ta 32 gm), (ky 5, oR (ky 6) n5), (ky 6, aZ ta 32 gse), (hta, oR bta nta), (bta, aZ ta 400 gta)] := hD
                refine lv_aload_n (pc := 74) hx hb dX3_tell_74 rfl (lv_at hl 2 rfl) ?_
                refine va_get (pc := 75) (D := D) (ci := 2) (v := .ref (ky 1)) (C := RX3) (T := TX3) (N := 5) hx hb hts iu3 hown hK hP 0 rfl rfl 2 (by decide) (hts _ tw_111) (fun _ h9 => h9) rfl dX3_tell_75 ?_
                refine lv_aload_n (pc := 78) hx hb dX3_tell_78 rfl (lv_at hl 4 rfl) ?_
                refine lv_iconst (pc := 79) (v := nI 0) hx hb dX3_tell_79 (by decide +kernel) ?_
                refine lv_iload_n (pc := 80) hx hb dX3_tell_80 rfl (lv_at hl 1 rfl) ?_
                refine cs_V (pc := 81) (idx := 37) (n := 3) (wr := [(ky 0, oK ky ρ m), (ky 3, oR (ky 4) n3), (ky 4, aZ ta 32 gm), (ky 5, oR (ky 6) n5), (ky 6, aZ ta 32 gse)]) (As := [.ref hta, .int (nI 0), .int (nI m)]) (rest := []) (ci := 5) hx hb hml hown hts hGok hK hA hG hl.1 hP hD hS (ct_X6_copyPart ll D ta hGok (ky 1) (ky 2) 32 ge n1 hta bta 400 gta nta 0 m (by first | assumption | omega | rfl | decide) (by first | assumption | omega | rfl | decide) (by first | assumption | omega | rfl | decide) (by first | assumption | omega | rfl | decide) (by first | assumption | omega | rfl | decide) (by first | assumption | omega | rfl | decide) H.size) tw_464 tw_461 tw_462 tw_463 tw_66 hdX6_copyPart rfl ⟨rfl, rfl, Nat.le_of_ble_eq_true rfl, Nat.le_of_ble_eq_true rfl, Nat.le_of_ble_eq_true rfl, Nat.le_of_ble_eq_true rfl⟩ rfl rfl (q0 := 1) rfl [1, 2, 7, 8] [0, 3, 4, 5, 6] rfl rfl (by decide) rfl (Nat.le_of_ble_eq_true rfl) dX3_tell_81 (fun u H locs hq hP hD hS => ?_)
                obtain ⟨g1_81, n1_81⟩ := u
                have hq : (n1_81 = min m nta - 0) ∧ (qL g1_81 n1_81 = ((qL gta nta).take m).drop 0) := hq
                obtain ⟨hm_81, hL_81⟩ := hq
                refine W.eq (g2 := F0 mm 84 ls []) rfl ?_
                have hP : va_P D vwCl [(ky 0, oK ky ρ m), (ky 3, oR (ky 4) n3), (ky 4, aZ ta 32 gm), (ky 5, oR (ky 6) n5), (ky 6, aZ ta 32 gse), (ky 1, oR (ky 2) n1_81), (ky 2, aZ ta 32 g1_81), (hta, oR bta nta), (bta, aZ ta 400 gta)] H := hP
                have hD : va_D A [(ky 0, oK ky ρ m), (ky 3, oR (ky 4) n3), (ky 4, aZ ta 32 gm), (ky 5, oR (ky 6) n5), (ky 6, aZ ta 32 gse), (ky 1, oR (ky 2) n1_81), (ky 2, aZ ta 32 g1_81), (hta, oR bta nta), (bta, aZ ta 400 gta)] := hD
                have en_55 : m = n1_81 := by omega
                subst en_55
                refine lv_aload_n (pc := 84) hx hb dX3_tell_84 rfl (lv_at hl 2 rfl) ?_
                refine va_get (pc := 85) (D := D) (ci := 2) (v := .ref (ky 3)) (C := RX3) (T := TX3) (N := 5) hx hb hts iu3 hown hK hP 0 rfl rfl 3 (by decide) (hts _ tw_114) (fun _ h9 => h9) rfl dX3_tell_85 ?_
                refine lv_aload_n (pc := 88) hx hb dX3_tell_88 rfl (lv_at hl 4 rfl) ?_
                refine lv_iload_n (pc := 89) hx hb dX3_tell_89 rfl (lv_at hl 1 rfl) ?_
                refine lv_iconst (pc := 90) (v := nI 2) hx hb dX3_tell_90 (by decide +kernel) ?_
                refine lv_iload_n (pc := 91) hx hb dX3_tell_91 rfl (lv_at hl 1 rfl) ?_
                refine lv_imul (pc := 92) hx hb dX3_tell_92 ?_
                refine q_top (y := nI (2 * m)) (pk_mul 2 m) ?_
                refine cs_V (pc := 93) (idx := 37) (n := 3) (wr := [(ky 0, oK ky ρ m), (ky 5, oR (ky 6) n5), (ky 6, aZ ta 32 gse), (ky 1, oR (ky 2) m), (ky 2, aZ ta 32 g1_81)]) (As := [.ref hta, .int (nI m), .int (nI (2 * m))]) (rest := []) (ci := 5) hx hb hml hown hts hGok hK hA hG hl.1 hP hD hS (ct_X6_copyPart ll D ta hGok (ky 3) (ky 4) 32 gm n3 hta bta 400 gta nta m (2 * m) (by first | assumption | omega | rfl | decide) (by first | assumption | omega | rfl | decide) (by first | assumption | omega | rfl | decide) (by first | assumption | omega | rfl | decide) (by first | assumption | omega | rfl | decide) (by first | assumption | omega | rfl | decide) H.size) tw_464 tw_461 tw_462 tw_463 tw_66 hdX6_copyPart rfl ⟨rfl, rfl, Nat.le_of_ble_eq_true rfl, Nat.le_of_ble_eq_true rfl, Nat.le_of_ble_eq_true rfl, Nat.le_of_ble_eq_true rfl⟩ rfl rfl (q0 := 1) rfl [1, 2, 7, 8] [0, 3, 4, 5, 6] rfl rfl (by decide) rfl (Nat.le_of_ble_eq_true rfl) dX3_tell_93 (fun u H locs hq hP hD hS => ?_)
                obtain ⟨g1_93, n1_93⟩ := u
                have hq : (n1_93 = min (2 * m) nta - m) ∧ (qL g1_93 n1_93 = ((qL gta nta).take (2 * m)).drop m) := hq
                obtain ⟨hm_93, hL_93⟩ := hq
                refine W.eq (g2 := F0 mm 96 ls []) rfl ?_
                have hP : va_P D vwCl [(ky 0, oK ky ρ m), (ky 5, oR (ky 6) n5), (ky 6, aZ ta 32 gse), (ky 1, oR (ky 2) m), (ky 2, aZ ta 32 g1_81), (ky 3, oR (ky 4) n1_93), (ky 4, aZ ta 32 g1_93), (hta, oR bta nta), (bta, aZ ta 400 gta)] H := hP
                have hD : va_D A [(ky 0, oK ky ρ m), (ky 5, oR (ky 6) n5), (ky 6, aZ ta 32 gse), (ky 1, oR (ky 2) m), (ky 2, aZ ta 32 g1_81), (ky 3, oR (ky 4) n1_93), (ky 4, aZ ta 32 g1_93), (hta, oR bta nta), (bta, aZ ta 400 gta)] := hD
                have en_56 : m = n1_93 := by omega
                subst en_56
                refine lv_aload_n (pc := 96) hx hb dX3_tell_96 rfl (lv_at hl 2 rfl) ?_
                refine va_get (pc := 97) (D := D) (ci := 2) (v := .ref (ky 5)) (C := RX3) (T := TX3) (N := 5) hx hb hts iu3 hown hK hP 0 rfl rfl 4 (by decide) (hts _ tw_117) (fun _ h9 => h9) rfl dX3_tell_97 ?_
                refine lv_aload_n (pc := 100) hx hb dX3_tell_100 rfl (lv_at hl 4 rfl) ?_
                refine lv_iconst (pc := 101) (v := nI 2) hx hb dX3_tell_101 (by decide +kernel) ?_
                refine lv_iload_n (pc := 102) hx hb dX3_tell_102 rfl (lv_at hl 1 rfl) ?_
                refine lv_imul (pc := 103) hx hb dX3_tell_103 ?_
                refine q_top (y := nI (2 * m)) (pk_mul 2 m) ?_
                refine lv_iconst (pc := 104) (v := nI 3) hx hb dX3_tell_104 (by decide +kernel) ?_
                refine lv_iload_n (pc := 105) hx hb dX3_tell_105 rfl (lv_at hl 1 rfl) ?_
                refine lv_imul (pc := 106) hx hb dX3_tell_106 ?_
                refine q_top (y := nI (3 * m)) (pk_mul 3 m) ?_
                refine cs_V (pc := 107) (idx := 37) (n := 3) (wr := [(ky 0, oK ky ρ m), (ky 1, oR (ky 2) m), (ky 2, aZ ta 32 g1_81), (ky 3, oR (ky 4) m), (ky 4, aZ ta 32 g1_93)]) (As := [.ref hta, .int (nI (2 * m)), .int (nI (3 * m))]) (rest := []) (ci := 5) hx hb hml hown hts hGok hK hA hG hl.1 hP hD hS (ct_X6_copyPart ll D ta hGok (ky 5) (ky 6) 32 gse n5 hta bta 400 gta nta (2 * m) (3 * m) (by first | assumption | omega | rfl | decide) (by first | assumption | omega | rfl | decide) (by first | assumption | omega | rfl | decide) (by first | assumption | omega | rfl | decide) (by first | assumption | omega | rfl | decide) (by first | assumption | omega | rfl | decide) H.size) tw_464 tw_461 tw_462 tw_463 tw_66 hdX6_copyPart rfl ⟨rfl, rfl, Nat.le_of_ble_eq_true rfl, Nat.le_of_ble_eq_true rfl, Nat.le_of_ble_eq_true rfl, Nat.le_of_ble_eq_true rfl⟩ rfl rfl (q0 := 1) rfl [1, 2, 7, 8] [0, 3, 4, 5, 6] rfl rfl (by decide) rfl (Nat.le_of_ble_eq_true rfl) dX3_tell_107 (fun u H locs hq hP hD hS => ?_)
                obtain ⟨g1_107, n1_107⟩ := u
                have hq : (n1_107 = min (3 * m) nta - (2 * m)) ∧ (qL g1_107 n1_107 = ((qL gta nta).take (3 * m)).drop (2 * m)) := hq
                obtain ⟨hm_107, hL_107⟩ := hq
                refine W.eq (g2 := F0 mm 110 ls []) rfl ?_
                have hP : va_P D vwCl [(ky 0, oK ky ρ m), (ky 1, oR (ky 2) m), (ky 2, aZ ta 32 g1_81), (ky 3, oR (ky 4) m), (ky 4, aZ ta 32 g1_93), (ky 5, oR (ky 6) n1_107), (ky 6, aZ ta 32 g1_107), (hta, oR bta nta), (bta, aZ ta 400 gta)] H := hP
                have hD : va_D A [(ky 0, oK ky ρ m), (ky 1, oR (ky 2) m), (ky 2, aZ ta 32 g1_81), (ky 3, oR (ky 4) m), (ky 4, aZ ta 32 g1_93), (ky 5, oR (ky 6) n1_107), (ky 6, aZ ta 32 g1_107), (hta, oR bta nta), (bta, aZ ta 400 gta)] := hD
                have en_57 : m = n1_107 := by omega
                subst en_57
                refine lv_iconst (pc := 110) (v := nI 1) hx hb dX3_tell_110 (by decide +kernel) ?_
                refine q_top (y := qb true) (by first | rfl | decide +kernel | (simp; done)) ?_
                have hq_58 : (true = true) ∧ (qL g1_81 m = (qL gta nta).take m) ∧ (qL g1_93 m = ((qL gta nta).take (2 * m)).drop m) ∧ (qL g1_107 m = ((qL gta nta).take (3 * m)).drop (2 * m)) := by
                  exact ⟨rfl, hL_81, hL_93, hL_107⟩
                exact hret (⟨(true), (g1_81), (g1_93), (g1_107)⟩ : Bool × (Nat → BitVec 8) × (Nat → BitVec 8) × (Nat → BitVec 8)) _ _ _ _ dX3_tell_111 hq_58 (hP.sub [0, 1, 2, 3, 4, 5, 6, 7, 8] rfl) (hD.sub [0, 1, 2, 3, 4, 5, 6, 7, 8] (by decide) rfl) hS
              · skip
                rw [nI_eq (by omega) (by omega)] at c_54
                refine lv_iload (pc := 57) hx hb dX3_tell_57 (lv_at hl 0 rfl) ?_
                refine lv_if_ne (pc := 59) (tgt := 64) hx hb dX3_tell_59 (by decide) (fun c_59 => absurd (by decide) c_59) (fun _ => ?_)
                exfalso; omega
      · skip
        rw [nI_eq (by omega) (by omega)] at c_43
        refine lv_iconst (pc := 24) (v := nI 1) hx hb dX3_tell_24 (by decide +kernel) ?_
        refine lv_goto (pc := 25) (tgt := 29) hx hb dX3_tell_25 (by decide) ?_
        refine lv_istore (pc := 29) (lv' := [(4, .int (nI 1)), (3, .int (nI m)), (0, .ref (ky 0)), (1, .int (nI ρ)), (2, .ref hta)]) hx hb dX3_tell_29 hl (by decide) rfl (fun ls hl => ?_)
        refine lv_iload_n (pc := 31) hx hb dX3_tell_31 rfl (lv_at hl 3 rfl) ?_
        refine lv_iconst (pc := 32) (v := nI 2) hx hb dX3_tell_32 (by decide +kernel) ?_
        refine lv_icmp_eq (pc := 33) (tgt := 41) hx hb dX3_tell_33 (by decide) (fun c_60 => ?_) (fun c_60 => ?_)
        · skip
          rw [nI_eq (by omega) (by omega)] at c_60
          refine lv_iload_n (pc := 41) hx hb dX3_tell_41 rfl (lv_at hl 1 rfl) ?_
          refine lv_iconst (pc := 42) (v := nI 3) hx hb dX3_tell_42 (by decide +kernel) ?_
          refine lv_imul (pc := 43) hx hb dX3_tell_43 ?_
          refine q_top (y := nI (m * 3)) (pk_mul m 3) ?_
          refine lv_aload_n (pc := 44) hx hb dX3_tell_44 rfl (lv_at hl 4 rfl) ?_
          refine cs_V (pc := 45) (idx := 33) (n := 0) (wr := [(ky 0, oK ky ru ln), (ky 1, oR (ky 2) n1), (ky 2, aZ ta 32 ge), (ky 3, oR (ky 4) n3), (ky 4, aZ ta 32 gm), (ky 5, oR (ky 6) n5), (ky 6, aZ ta 32 gse)]) (As := []) (rest := [.int (nI (m * 3))]) (ci := 5) hx hb hml hown hts hGok hK hA hG hl.1 hP hD hS (ct_X6_size ll D ta hGok hta bta 400 gta nta  H.size) tw_393 tw_460 tw_391 tw_392 tw_66 hdX6_size rfl ⟨rfl, rfl, Nat.le_of_ble_eq_true rfl, Nat.le_of_ble_eq_true rfl, Nat.le_of_ble_eq_true rfl, Nat.le_of_ble_eq_true rfl⟩ rfl rfl (q0 := 7) rfl [7, 8] [0, 1, 2, 3, 4, 5, 6] rfl rfl (by decide) rfl (Nat.le_of_ble_eq_true rfl) dX3_tell_45 (fun u H locs hq hP hD hS => ?_)
          refine W.eq (g2 := F0 mm 48 ls [.int (nI nta), .int (nI (m * 3))]) rfl ?_
          have hP : va_P D vwCl [(ky 0, oK ky ru ln), (ky 1, oR (ky 2) n1), (ky 2, aZ ta 32 ge), (ky 3, oR (ky 4) n3), (ky 4, aZ ta 32 gm), (ky 5, oR (ky 6) n5), (ky 6, aZ ta 32 gse), (hta, oR bta nta), (bta, aZ ta 400 gta)] H := hP
          have hD : va_D A [(ky 0, oK ky ru ln), (ky 1, oR (ky 2) n1), (ky 2, aZ ta 32 ge), (ky 3, oR (ky 4) n3), (ky 4, aZ ta 32 gm), (ky 5, oR (ky 6) n5), (ky 6, aZ ta 32 gse), (hta, oR bta nta), (bta, aZ ta 400 gta)] := hD
          refine lv_icmp_ne (pc := 48) (tgt := 62) hx hb dX3_tell_48 (by decide) (fun c_61 => ?_) (fun c_61 => ?_)
          · skip
            rw [nI_eq (by omega) (by omega)] at c_61
            exfalso; omega
          · skip
            rw [nI_eq (by omega) (by omega)] at c_61
            refine lv_iload_n (pc := 51) hx hb dX3_tell_51 rfl (lv_at hl 1 rfl) ?_
            refine lv_bipush (pc := 52) (v := nI 16) hx hb dX3_tell_52 (by decide +kernel) ?_
            refine lv_icmp_eq (pc := 54) (tgt := 64) hx hb dX3_tell_54 (by decide) (fun c_62 => ?_) (fun c_62 => ?_)
            · skip
              rw [nI_eq (by omega) (by omega)] at c_62
              refine lv_aload_n (pc := 64) hx hb dX3_tell_64 rfl (lv_at hl 2 rfl) ?_
              refine lv_iload_n (pc := 65) hx hb dX3_tell_65 rfl (lv_at hl 3 rfl) ?_
              refine va_put (pc := 66) (D := D) (ci := 2) (v := .int (nI ρ)) (ty := .int) (C := RX3) (T := TX3) (N := 5) hx hb hts iu3 tyX3 tyX3_ok nmX3 hown hK hP hD hS 0 rfl rfl 0 (by decide) (hts _ tw_106) (fun _ h9 => h9) rfl (by decide +kernel) rfl rfl (Nat.le_of_ble_eq_true rfl) dX3_tell_66 (fun H locs hP hD hS => ?_)
              have hP : va_P D vwCl [(ky 0, oK ky ρ ln), (ky 1, oR (ky 2) n1), (ky 2, aZ ta 32 ge), (ky 3, oR (ky 4) n3), (ky 4, aZ ta 32 gm), (ky 5, oR (ky 6) n5), (ky 6, aZ ta 32 gse), (hta, oR bta nta), (bta, aZ ta 400 gta)] H := hP
              have hD : va_D A [(ky 0, oK ky ρ ln), (ky 1, oR (ky 2) n1), (ky 2, aZ ta 32 ge), (ky 3, oR (ky 4) n3), (ky 4, aZ ta 32 gm), (ky 5, oR (ky 6) n5), (ky 6, aZ ta 32 gse), (hta, oR bta nta), (bta, aZ ta 400 gta)] := hD
              refine lv_aload_n (pc := 69) hx hb dX3_tell_69 rfl (lv_at hl 2 rfl) ?_
              refine lv_iload_n (pc := 70) hx hb dX3_tell_70 rfl (lv_at hl 1 rfl) ?_
              refine va_put (pc := 71) (D := D) (ci := 2) (v := .int (nI m)) (ty := .int) (C := RX3) (T := TX3) (N := 5) hx hb hts iu3 tyX3 tyX3_ok nmX3 hown hK hP hD hS 0 rfl rfl 1 (by decide) (hts _ tw_108) (fun _ h9 => h9) rfl (by decide +kernel) rfl rfl (Nat.le_of_ble_eq_true rfl) dX3_tell_71 (fun H locs hP hD hS => ?_)
              have hP : va_P D vwCl [(ky 0, oK ky ρ m), (ky 1, oR (ky 2) n1), (ky 2, aZ ta 32 ge), (ky 3, oR (ky 4) n3), (ky 4, aZ ta 32 gm), (ky 5, oR (ky 6) n5), (ky 6, aZ ta 32 gse), (hta, oR bta nta), (bta, aZ ta 400 gta)] H := hP
              have hD : va_D A [(ky 0, oK ky ρ m), (ky 1, oR (ky 2) n1), (ky 2, aZ ta 32 ge), (ky 3, oR (ky 4) n3), (ky 4, aZ ta 32 gm), (ky 5, oR (ky 6) n5), (ky 6, aZ ta 32 gse), (hta, oR bta nta), (bta, aZ ta 400 gta)] := hD
              refine lv_aload_n (pc := 74) hx hb dX3_tell_74 rfl (lv_at hl 2 rfl) ?_
              refine va_get (pc := 75) (D := D) (ci := 2) (v := .ref (ky 1)) (C := RX3) (T := TX3) (N := 5) hx hb hts iu3 hown hK hP 0 rfl rfl 2 (by decide) (hts _ tw_111) (fun _ h9 => h9) rfl dX3_tell_75 ?_
              refine lv_aload_n (pc := 78) hx hb dX3_tell_78 rfl (lv_at hl 4 rfl) ?_
              refine lv_iconst (pc := 79) (v := nI 0) hx hb dX3_tell_79 (by decide +kernel) ?_
              refine lv_iload_n (pc := 80) hx hb dX3_tell_80 rfl (lv_at hl 1 rfl) ?_
              refine cs_V (pc := 81) (idx := 37) (n := 3) (wr := [(ky 0, oK ky ρ m), (ky 3, oR (ky 4) n3), (ky 4, aZ ta 32 gm), (ky 5, oR (ky 6) n5), (ky 6, aZ ta 32 gse)]) (As := [.ref hta, .int (nI 0), .int (nI m)]) (rest := []) (ci := 5) hx hb hml hown hts hGok hK hA hG hl.1 hP hD hS (ct_X6_copyPart ll D ta hGok (ky 1) (ky 2) 32 ge n1 hta bta 400 gta nta 0 m (by first | assumption | omega | rfl | decide) (by first | assumption | omega | rfl | decide) (by first | assumption | omega | rfl | decide) (by first | assumption | omega | rfl | decide) (by first | assumption | omega | rfl | decide) (by first | assumption | omega | rfl | decide) H.size) tw_464 tw_461 tw_462 tw_463 tw_66 hdX6_copyPart rfl ⟨rfl, rfl, Nat.le_of_ble_eq_true rfl, Nat.le_of_ble_eq_true rfl, Nat.le_of_ble_eq_true rfl, Nat.le_of_ble_eq_true rfl⟩ rfl rfl (q0 := 1) rfl [1, 2, 7, 8] [0, 3, 4, 5, 6] rfl rfl (by decide) rfl (Nat.le_of_ble_eq_true rfl) dX3_tell_81 (fun u H locs hq hP hD hS => ?_)
              obtain ⟨g1_81, n1_81⟩ := u
              have hq : (n1_81 = min m nta - 0) ∧ (qL g1_81 n1_81 = ((qL gta nta).take m).drop 0) := hq
              obtain ⟨hm_81, hL_81⟩ := hq
              refine W.eq (g2 := F0 mm 84 ls []) rfl ?_
              have hP : va_P D vwCl [(ky 0, oK ky ρ m), (ky 3, oR (ky 4) n3), (ky 4, aZ ta 32 gm), (ky 5, oR (ky 6) n5), (ky 6, aZ ta 32 gse), (ky 1, oR (ky 2) n1_81), (ky 2, aZ ta 32 g1_81), (hta, oR bta nta), (bta, aZ ta 400 gta)] H := hP
              have hD : va_D A [(ky 0, oK ky ρ m), (ky 3, oR (ky 4) n3), (ky 4, aZ ta 32 gm), (ky 5, oR (ky 6) n5), (ky 6, aZ ta 32 gse), (ky 1, oR (ky 2) n1_81), (ky 2, aZ ta 32 g1_81), (hta, oR bta nta), (bta, aZ ta 400 gta)] := hD
              have en_63 : m = n1_81 := by omega
              subst en_63
              refine lv_aload_n (pc := 84) hx hb dX3_tell_84 rfl (lv_at hl 2 rfl) ?_
              refine va_get (pc := 85) (D := D) (ci := 2) (v := .ref (ky 3)) (C := RX3) (T := TX3) (N := 5) hx hb hts iu3 hown hK hP 0 rfl rfl 3 (by decide) (hts _ tw_114) (fun _ h9 => h9) rfl dX3_tell_85 ?_
              refine lv_aload_n (pc := 88) hx hb dX3_tell_88 rfl (lv_at hl 4 rfl) ?_
              refine lv_iload_n (pc := 89) hx hb dX3_tell_89 rfl (lv_at hl 1 rfl) ?_
              refine lv_iconst (pc := 90) (v := nI 2) hx hb dX3_tell_90 (by decide +kernel) ?_
              refine lv_iload_n (pc := 91) hx hb dX3_tell_91 rfl (lv_at hl 1 rfl) ?_
              refine lv_imul (pc := 92) hx hb dX3_tell_92 ?_
              refine q_top (y := nI (2 * m)) (pk_mul 2 m) ?_
              refine cs_V (pc := 93) (idx := 37) (n := 3) (wr := [(ky 0, oK ky ρ m), (ky 5, oR (ky 6) n5), (ky 6, aZ ta 32 gse), (ky 1, oR (ky 2) m), (ky 2, aZ ta 32 g1_81)]) (As := [.ref hta, .int (nI m), .int (nI (2 * m))]) (rest := []) (ci := 5) hx hb hml hown hts hGok hK hA hG hl.1 hP hD hS (ct_X6_copyPart ll D ta hGok (ky 3) (ky 4) 32 gm n3 hta bta 400 gta nta m (2 * m) (by first | assumption | omega | rfl | decide) (by first | assumption | omega | rfl | decide) (by first | assumption | omega | rfl | decide) (by first | assumption | omega | rfl | decide) (by first | assumption | omega | rfl | decide) (by first | assumption | omega | rfl | decide) H.size) tw_464 tw_461 tw_462 tw_463 tw_66 hdX6_copyPart rfl ⟨rfl, rfl, Nat.le_of_ble_eq_true rfl, Nat.le_of_ble_eq_true rfl, Nat.le_of_ble_eq_true rfl, Nat.le_of_ble_eq_true rfl⟩ rfl rfl (q0 := 1) rfl [1, 2, 7, 8] [0, 3, 4, 5, 6] rfl rfl (by decide) rfl (Nat.le_of_ble_eq_true rfl) dX3_tell_93 (fun u H locs hq hP hD hS => ?_)
              obtain ⟨g1_93, n1_93⟩ := u
              have hq : (n1_93 = min (2 * m) nta - m) ∧ (qL g1_93 n1_93 = ((qL gta nta).take (2 * m)).drop m) := hq
              obtain ⟨hm_93, hL_93⟩ := hq
              refine W.eq (g2 := F0 mm 96 ls []) rfl ?_
              have hP : va_P D vwCl [(ky 0, oK ky ρ m), (ky 5, oR (ky 6) n5), (ky 6, aZ ta 32 gse), (ky 1, oR (ky 2) m), (ky 2, aZ ta 32 g1_81), (ky 3, oR (ky 4) n1_93), (ky 4, aZ ta 32 g1_93), (hta, oR bta nta), (bta, aZ ta 400 gta)] H := hP
              have hD : va_D A [(ky 0, oK ky ρ m), (ky 5, oR (ky 6) n5), (ky 6, aZ ta 32 gse), (ky 1, oR (ky 2) m), (ky 2, aZ ta 32 g1_81), (ky 3, oR (ky 4) n1_93), (ky 4, aZ ta 32 g1_93), (hta, oR bta nta), (bta, aZ ta 400 gta)] := hD
              have en_64 : m = n1_93 := by omega
              subst en_64
              refine lv_aload_n (pc := 96) hx hb dX3_tell_96 rfl (lv_at hl 2 rfl) ?_
              refine va_get (pc := 97) (D := D) (ci := 2) (v := .ref (ky 5)) (C := RX3) (T := TX3) (N := 5) hx hb hts iu3 hown hK hP 0 rfl rfl 4 (by decide) (hts _ tw_117) (fun _ h9 => h9) rfl dX3_tell_97 ?_
              refine lv_aload_n (pc := 100) hx hb dX3_tell_100 rfl (lv_at hl 4 rfl) ?_
              refine lv_iconst (pc := 101) (v := nI 2) hx hb dX3_tell_101 (by decide +kernel) ?_
              refine lv_iload_n (pc := 102) hx hb dX3_tell_102 rfl (lv_at hl 1 rfl) ?_
              refine lv_imul (pc := 103) hx hb dX3_tell_103 ?_
              refine q_top (y := nI (2 * m)) (pk_mul 2 m) ?_
              refine lv_iconst (pc := 104) (v := nI 3) hx hb dX3_tell_104 (by decide +kernel) ?_
              refine lv_iload_n (pc := 105) hx hb dX3_tell_105 rfl (lv_at hl 1 rfl) ?_
              refine lv_imul (pc := 106) hx hb dX3_tell_106 ?_
              refine q_top (y := nI (3 * m)) (pk_mul 3 m) ?_
              refine cs_V (pc := 107) (idx := 37) (n := 3) (wr := [(ky 0, oK ky ρ m), (ky 1, oR (ky 2) m), (ky 2, aZ ta 32 g1_81), (ky 3, oR (ky 4) m), (ky 4, aZ ta 32 g1_93)]) (As := [.ref hta, .int (nI (2 * m)), .int (nI (3 * m))]) (rest := []) (ci := 5) hx hb hml hown hts hGok hK hA hG hl.1 hP hD hS (ct_X6_copyPart ll D ta hGok (ky 5) (ky 6) 32 gse n5 hta bta 400 gta nta (2 * m) (3 * m) (by first | assumption | omega | rfl | decide) (by first | assumption | omega | rfl | decide) (by first | assumption | omega | rfl | decide) (by first | assumption | omega | rfl | decide) (by first | assumption | omega | rfl | decide) (by first | assumption | omega | rfl | decide) H.size) tw_464 tw_461 tw_462 tw_463 tw_66 hdX6_copyPart rfl ⟨rfl, rfl, Nat.le_of_ble_eq_true rfl, Nat.le_of_ble_eq_true rfl, Nat.le_of_ble_eq_true rfl, Nat.le_of_ble_eq_true rfl⟩ rfl rfl (q0 := 1) rfl [1, 2, 7, 8] [0, 3, 4, 5, 6] rfl rfl (by decide) rfl (Nat.le_of_ble_eq_true rfl) dX3_tell_107 (fun u H locs hq hP hD hS => ?_)
              obtain ⟨g1_107, n1_107⟩ := u
              have hq : (n1_107 = min (3 * m) nta - (2 * m)) ∧ (qL g1_107 n1_107 = ((qL gta nta).take (3 * m)).drop (2 * m)) := hq
              obtain ⟨hm_107, hL_107⟩ := hq
              refine W.eq (g2 := F0 mm 110 ls []) rfl ?_
              have hP : va_P D vwCl [(ky 0, oK ky ρ m), (ky 1, oR (ky 2) m), (ky 2, aZ ta 32 g1_81), (ky 3, oR (ky 4) m), (ky 4, aZ ta 32 g1_93), (ky 5, oR (ky 6) n1_107), (ky 6, aZ ta 32 g1_107), (hta, oR bta nta), (bta, aZ ta 400 gta)] H := hP
              have hD : va_D A [(ky 0, oK ky ρ m), (ky 1, oR (ky 2) m), (ky 2, aZ ta 32 g1_81), (ky 3, oR (ky 4) m), (ky 4, aZ ta 32 g1_93), (ky 5, oR (ky 6) n1_107), (ky 6, aZ ta 32 g1_107), (hta, oR bta nta), (bta, aZ ta 400 gta)] := hD
              have en_65 : m = n1_107 := by omega
              subst en_65
              refine lv_iconst (pc := 110) (v := nI 1) hx hb dX3_tell_110 (by decide +kernel) ?_
              refine q_top (y := qb true) (by first | rfl | decide +kernel | (simp; done)) ?_
              have hq_66 : (true = true) ∧ (qL g1_81 m = (qL gta nta).take m) ∧ (qL g1_93 m = ((qL gta nta).take (2 * m)).drop m) ∧ (qL g1_107 m = ((qL gta nta).take (3 * m)).drop (2 * m)) := by
                exact ⟨rfl, hL_81, hL_93, hL_107⟩
              exact hret (⟨(true), (g1_81), (g1_93), (g1_107)⟩ : Bool × (Nat → BitVec 8) × (Nat → BitVec 8) × (Nat → BitVec 8)) _ _ _ _ dX3_tell_111 hq_66 (hP.sub [0, 1, 2, 3, 4, 5, 6, 7, 8] rfl) (hD.sub [0, 1, 2, 3, 4, 5, 6, 7, 8] (by decide) rfl) hS
            · skip
              rw [nI_eq (by omega) (by omega)] at c_62
              refine lv_iload (pc := 57) hx hb dX3_tell_57 (lv_at hl 0 rfl) ?_
              refine lv_if_ne (pc := 59) (tgt := 64) hx hb dX3_tell_59 (by decide) (fun _ => ?_) (fun c_67 => absurd c_67 (by decide))
              refine lv_aload_n (pc := 64) hx hb dX3_tell_64 rfl (lv_at hl 2 rfl) ?_
              refine lv_iload_n (pc := 65) hx hb dX3_tell_65 rfl (lv_at hl 3 rfl) ?_
              refine va_put (pc := 66) (D := D) (ci := 2) (v := .int (nI ρ)) (ty := .int) (C := RX3) (T := TX3) (N := 5) hx hb hts iu3 tyX3 tyX3_ok nmX3 hown hK hP hD hS 0 rfl rfl 0 (by decide) (hts _ tw_106) (fun _ h9 => h9) rfl (by decide +kernel) rfl rfl (Nat.le_of_ble_eq_true rfl) dX3_tell_66 (fun H locs hP hD hS => ?_)
              have hP : va_P D vwCl [(ky 0, oK ky ρ ln), (ky 1, oR (ky 2) n1), (ky 2, aZ ta 32 ge), (ky 3, oR (ky 4) n3), (ky 4, aZ ta 32 gm), (ky 5, oR (ky 6) n5), (ky 6, aZ ta 32 gse), (hta, oR bta nta), (bta, aZ ta 400 gta)] H := hP
              have hD : va_D A [(ky 0, oK ky ρ ln), (ky 1, oR (ky 2) n1), (ky 2, aZ ta 32 ge), (ky 3, oR (ky 4) n3), (ky 4, aZ ta 32 gm), (ky 5, oR (ky 6) n5), (ky 6, aZ ta 32 gse), (hta, oR bta nta), (bta, aZ ta 400 gta)] := hD
              refine lv_aload_n (pc := 69) hx hb dX3_tell_69 rfl (lv_at hl 2 rfl) ?_
              refine lv_iload_n (pc := 70) hx hb dX3_tell_70 rfl (lv_at hl 1 rfl) ?_
              refine va_put (pc := 71) (D := D) (ci := 2) (v := .int (nI m)) (ty := .int) (C := RX3) (T := TX3) (N := 5) hx hb hts iu3 tyX3 tyX3_ok nmX3 hown hK hP hD hS 0 rfl rfl 1 (by decide) (hts _ tw_108) (fun _ h9 => h9) rfl (by decide +kernel) rfl rfl (Nat.le_of_ble_eq_true rfl) dX3_tell_71 (fun H locs hP hD hS => ?_)
              have hP : va_P D vwCl [(ky 0, oK ky ρ m), (ky 1, oR (ky 2) n1), (ky 2, aZ ta 32 ge), (ky 3, oR (ky 4) n3), (ky 4, aZ ta 32 gm), (ky 5, oR (ky 6) n5), (ky 6, aZ ta 32 gse), (hta, oR bta nta), (bta, aZ ta 400 gta)] H := hP
              have hD : va_D A [(ky 0, oK ky ρ m), (ky 1, oR (ky 2) n1), (ky 2, aZ ta 32 ge), (ky 3, oR (ky 4) n3), (ky 4, aZ ta 32 gm), (ky 5, oR (ky 6) n5), (ky 6, aZ ta 32 gse), (hta, oR bta nta), (bta, aZ ta 400 gta)] := hD
              refine lv_aload_n (pc := 74) hx hb dX3_tell_74 rfl (lv_at hl 2 rfl) ?_
              refine va_get (pc := 75) (D := D) (ci := 2) (v := .ref (ky 1)) (C := RX3) (T := TX3) (N := 5) hx hb hts iu3 hown hK hP 0 rfl rfl 2 (by decide) (hts _ tw_111) (fun _ h9 => h9) rfl dX3_tell_75 ?_
              refine lv_aload_n (pc := 78) hx hb dX3_tell_78 rfl (lv_at hl 4 rfl) ?_
              refine lv_iconst (pc := 79) (v := nI 0) hx hb dX3_tell_79 (by decide +kernel) ?_
              refine lv_iload_n (pc := 80) hx hb dX3_tell_80 rfl (lv_at hl 1 rfl) ?_
              refine cs_V (pc := 81) (idx := 37) (n := 3) (wr := [(ky 0, oK ky ρ m), (ky 3, oR (ky 4) n3), (ky 4, aZ ta 32 gm), (ky 5, oR (ky 6) n5), (ky 6, aZ ta 32 gse)]) (As := [.ref hta, .int (nI 0), .int (nI m)]) (rest := []) (ci := 5) hx hb hml hown hts hGok hK hA hG hl.1 hP hD hS (ct_X6_copyPart ll D ta hGok (ky 1) (ky 2) 32 ge n1 hta bta 400 gta nta 0 m (by first | assumption | omega | rfl | decide) (by first | assumption | omega | rfl | decide) (by first | assumption | omega | rfl | decide) (by first | assumption | omega | rfl | decide) (by first | assumption | omega | rfl | decide) (by first | assumption | omega | rfl | decide) H.size) tw_464 tw_461 tw_462 tw_463 tw_66 hdX6_copyPart rfl ⟨rfl, rfl, Nat.le_of_ble_eq_true rfl, Nat.le_of_ble_eq_true rfl, Nat.le_of_ble_eq_true rfl, Nat.le_of_ble_eq_true rfl⟩ rfl rfl (q0 := 1) rfl [1, 2, 7, 8] [0, 3, 4, 5, 6] rfl rfl (by decide) rfl (Nat.le_of_ble_eq_true rfl) dX3_tell_81 (fun u H locs hq hP hD hS => ?_)
              obtain ⟨g1_81, n1_81⟩ := u
              have hq : (n1_81 = min m nta - 0) ∧ (qL g1_81 n1_81 = ((qL gta nta).take m).drop 0) := hq
              obtain ⟨hm_81, hL_81⟩ := hq
              refine W.eq (g2 := F0 mm 84 ls []) rfl ?_
              have hP : va_P D vwCl [(ky 0, oK ky ρ m), (ky 3, oR (ky 4) n3), (ky 4, aZ ta 32 gm), (ky 5, oR (ky 6) n5), (ky 6, aZ ta 32 gse), (ky 1, oR (ky 2) n1_81), (ky 2, aZ ta 32 g1_81), (hta, oR bta nta), (bta, aZ ta 400 gta)] H := hP
              have hD : va_D A [(ky 0, oK ky ρ m), (ky 3, oR (ky 4) n3), (ky 4, aZ ta 32 gm), (ky 5, oR (ky 6) n5), (ky 6, aZ ta 32 gse), (ky 1, oR (ky 2) n1_81), (ky 2, aZ ta 32 g1_81), (hta, oR bta nta), (bta, aZ ta 400 gta)] := hD
              have en_68 : m = n1_81 := by omega
              subst en_68
              refine lv_aload_n (pc := 84) hx hb dX3_tell_84 rfl (lv_at hl 2 rfl) ?_
              refine va_get (pc := 85) (D := D) (ci := 2) (v := .ref (ky 3)) (C := RX3) (T := TX3) (N := 5) hx hb hts iu3 hown hK hP 0 rfl rfl 3 (by decide) (hts _ tw_114) (fun _ h9 => h9) rfl dX3_tell_85 ?_
              refine lv_aload_n (pc := 88) hx hb dX3_tell_88 rfl (lv_at hl 4 rfl) ?_
              refine lv_iload_n (pc := 89) hx hb dX3_tell_89 rfl (lv_at hl 1 rfl) ?_
              refine lv_iconst (pc := 90) (v := nI 2) hx hb dX3_tell_90 (by decide +kernel) ?_
              refine lv_iload_n (pc := 91) hx hb dX3_tell_91 rfl (lv_at hl 1 rfl) ?_
              refine lv_imul (pc := 92) hx hb dX3_tell_92 ?_
              refine q_top (y := nI (2 * m)) (pk_mul 2 m) ?_
              refine cs_V (pc := 93) (idx := 37) (n := 3) (wr := [(ky 0, oK ky ρ m), (ky 5, oR (ky 6) n5), (ky 6, aZ ta 32 gse), (ky 1, oR (ky 2) m), (ky 2, aZ ta 32 g1_81)]) (As := [.ref hta, .int (nI m), .int (nI (2 * m))]) (rest := []) (ci := 5) hx hb hml hown hts hGok hK hA hG hl.1 hP hD hS (ct_X6_copyPart ll D ta hGok (ky 3) (ky 4) 32 gm n3 hta bta 400 gta nta m (2 * m) (by first | assumption | omega | rfl | decide) (by first | assumption | omega | rfl | decide) (by first | assumption | omega | rfl | decide) (by first | assumption | omega | rfl | decide) (by first | assumption | omega | rfl | decide) (by first | assumption | omega | rfl | decide) H.size) tw_464 tw_461 tw_462 tw_463 tw_66 hdX6_copyPart rfl ⟨rfl, rfl, Nat.le_of_ble_eq_true rfl, Nat.le_of_ble_eq_true rfl, Nat.le_of_ble_eq_true rfl, Nat.le_of_ble_eq_true rfl⟩ rfl rfl (q0 := 1) rfl [1, 2, 7, 8] [0, 3, 4, 5, 6] rfl rfl (by decide) rfl (Nat.le_of_ble_eq_true rfl) dX3_tell_93 (fun u H locs hq hP hD hS => ?_)
              obtain ⟨g1_93, n1_93⟩ := u
              have hq : (n1_93 = min (2 * m) nta - m) ∧ (qL g1_93 n1_93 = ((qL gta nta).take (2 * m)).drop m) := hq
              obtain ⟨hm_93, hL_93⟩ := hq
              refine W.eq (g2 := F0 mm 96 ls []) rfl ?_
              have hP : va_P D vwCl [(ky 0, oK ky ρ m), (ky 5, oR (ky 6) n5), (ky 6, aZ ta 32 gse), (ky 1, oR (ky 2) m), (ky 2, aZ ta 32 g1_81), (ky 3, oR (ky 4) n1_93), (ky 4, aZ ta 32 g1_93), (hta, oR bta nta), (bta, aZ ta 400 gta)] H := hP
              have hD : va_D A [(ky 0, oK ky ρ m), (ky 5, oR (ky 6) n5), (ky 6, aZ ta 32 gse), (ky 1, oR (ky 2) m), (ky 2, aZ ta 32 g1_81), (ky 3, oR (ky 4) n1_93), (ky 4, aZ ta 32 g1_93), (hta, oR bta nta), (bta, aZ ta 400 gta)] := hD
              have en_69 : m = n1_93 := by omega
              subst en_69
              refine lv_aload_n (pc := 96) hx hb dX3_tell_96 rfl (lv_at hl 2 rfl) ?_
              refine va_get (pc := 97) (D := D) (ci := 2) (v := .ref (ky 5)) (C := RX3) (T := TX3) (N := 5) hx hb hts iu3 hown hK hP 0 rfl rfl 4 (by decide) (hts _ tw_117) (fun _ h9 => h9) rfl dX3_tell_97 ?_
              refine lv_aload_n (pc := 100) hx hb dX3_tell_100 rfl (lv_at hl 4 rfl) ?_
              refine lv_iconst (pc := 101) (v := nI 2) hx hb dX3_tell_101 (by decide +kernel) ?_
              refine lv_iload_n (pc := 102) hx hb dX3_tell_102 rfl (lv_at hl 1 rfl) ?_
              refine lv_imul (pc := 103) hx hb dX3_tell_103 ?_
              refine q_top (y := nI (2 * m)) (pk_mul 2 m) ?_
              refine lv_iconst (pc := 104) (v := nI 3) hx hb dX3_tell_104 (by decide +kernel) ?_
              refine lv_iload_n (pc := 105) hx hb dX3_tell_105 rfl (lv_at hl 1 rfl) ?_
              refine lv_imul (pc := 106) hx hb dX3_tell_106 ?_
              refine q_top (y := nI (3 * m)) (pk_mul 3 m) ?_
              refine cs_V (pc := 107) (idx := 37) (n := 3) (wr := [(ky 0, oK ky ρ m), (ky 1, oR (ky 2) m), (ky 2, aZ ta 32 g1_81), (ky 3, oR (ky 4) m), (ky 4, aZ ta 32 g1_93)]) (As := [.ref hta, .int (nI (2 * m)), .int (nI (3 * m))]) (rest := []) (ci := 5) hx hb hml hown hts hGok hK hA hG hl.1 hP hD hS (ct_X6_copyPart ll D ta hGok (ky 5) (ky 6) 32 gse n5 hta bta 400 gta nta (2 * m) (3 * m) (by first | assumption | omega | rfl | decide) (by first | assumption | omega | rfl | decide) (by first | assumption | omega | rfl | decide) (by first | assumption | omega | rfl | decide) (by first | assumption | omega | rfl | decide) (by first | assumption | omega | rfl | decide) H.size) tw_464 tw_461 tw_462 tw_463 tw_66 hdX6_copyPart rfl ⟨rfl, rfl, Nat.le_of_ble_eq_true rfl, Nat.le_of_ble_eq_true rfl, Nat.le_of_ble_eq_true rfl, Nat.le_of_ble_eq_true rfl⟩ rfl rfl (q0 := 1) rfl [1, 2, 7, 8] [0, 3, 4, 5, 6] rfl rfl (by decide) rfl (Nat.le_of_ble_eq_true rfl) dX3_tell_107 (fun u H locs hq hP hD hS => ?_)
              obtain ⟨g1_107, n1_107⟩ := u
              have hq : (n1_107 = min (3 * m) nta - (2 * m)) ∧ (qL g1_107 n1_107 = ((qL gta nta).take (3 * m)).drop (2 * m)) := hq
              obtain ⟨hm_107, hL_107⟩ := hq
              refine W.eq (g2 := F0 mm 110 ls []) rfl ?_
              have hP : va_P D vwCl [(ky 0, oK ky ρ m), (ky 1, oR (ky 2) m), (ky 2, aZ ta 32 g1_81), (ky 3, oR (ky 4) m), (ky 4, aZ ta 32 g1_93), (ky 5, oR (ky 6) n1_107), (ky 6, aZ ta 32 g1_107), (hta, oR bta nta), (bta, aZ ta 400 gta)] H := hP
              have hD : va_D A [(ky 0, oK ky ρ m), (ky 1, oR (ky 2) m), (ky 2, aZ ta 32 g1_81), (ky 3, oR (ky 4) m), (ky 4, aZ ta 32 g1_93), (ky 5, oR (ky 6) n1_107), (ky 6, aZ ta 32 g1_107), (hta, oR bta nta), (bta, aZ ta 400 gta)] := hD
              have en_70 : m = n1_107 := by omega
              subst en_70
              refine lv_iconst (pc := 110) (v := nI 1) hx hb dX3_tell_110 (by decide +kernel) ?_
              refine q_top (y := qb true) (by first | rfl | decide +kernel | (simp; done)) ?_
              have hq_71 : (true = true) ∧ (qL g1_81 m = (qL gta nta).take m) ∧ (qL g1_93 m = ((qL gta nta).take (2 * m)).drop m) ∧ (qL g1_107 m = ((qL gta nta).take (3 * m)).drop (2 * m)) := by
                exact ⟨rfl, hL_81, hL_93, hL_107⟩
              exact hret (⟨(true), (g1_81), (g1_93), (g1_107)⟩ : Bool × (Nat → BitVec 8) × (Nat → BitVec 8) × (Nat → BitVec 8)) _ _ _ _ dX3_tell_111 hq_71 (hP.sub [0, 1, 2, 3, 4, 5, 6, 7, 8] rfl) (hD.sub [0, 1, 2, 3, 4, 5, 6, 7, 8] (by decide) rfl) hS
        · skip
          rw [nI_eq (by omega) (by omega)] at c_60
          refine lv_iload_n (pc := 36) hx hb dX3_tell_36 rfl (lv_at hl 3 rfl) ?_
          refine lv_iconst (pc := 37) (v := nI 3) hx hb dX3_tell_37 (by decide +kernel) ?_
          refine lv_icmp_ne (pc := 38) (tgt := 62) hx hb dX3_tell_38 (by decide) (fun c_72 => ?_) (fun c_72 => ?_)
          · skip
            rw [nI_eq (by omega) (by omega)] at c_72
            exfalso; omega
          · skip
            rw [nI_eq (by omega) (by omega)] at c_72
            refine lv_iload_n (pc := 41) hx hb dX3_tell_41 rfl (lv_at hl 1 rfl) ?_
            refine lv_iconst (pc := 42) (v := nI 3) hx hb dX3_tell_42 (by decide +kernel) ?_
            refine lv_imul (pc := 43) hx hb dX3_tell_43 ?_
            refine q_top (y := nI (m * 3)) (pk_mul m 3) ?_
            refine lv_aload_n (pc := 44) hx hb dX3_tell_44 rfl (lv_at hl 4 rfl) ?_
            refine cs_V (pc := 45) (idx := 33) (n := 0) (wr := [(ky 0, oK ky ru ln), (ky 1, oR (ky 2) n1), (ky 2, aZ ta 32 ge), (ky 3, oR (ky 4) n3), (ky 4, aZ ta 32 gm), (ky 5, oR (ky 6) n5), (ky 6, aZ ta 32 gse)]) (As := []) (rest := [.int (nI (m * 3))]) (ci := 5) hx hb hml hown hts hGok hK hA hG hl.1 hP hD hS (ct_X6_size ll D ta hGok hta bta 400 gta nta  H.size) tw_393 tw_460 tw_391 tw_392 tw_66 hdX6_size rfl ⟨rfl, rfl, Nat.le_of_ble_eq_true rfl, Nat.le_of_ble_eq_true rfl, Nat.le_of_ble_eq_true rfl, Nat.le_of_ble_eq_true rfl⟩ rfl rfl (q0 := 7) rfl [7, 8] [0, 1, 2, 3, 4, 5, 6] rfl rfl (by decide) rfl (Nat.le_of_ble_eq_true rfl) dX3_tell_45 (fun u H locs hq hP hD hS => ?_)
            refine W.eq (g2 := F0 mm 48 ls [.int (nI nta), .int (nI (m * 3))]) rfl ?_
            have hP : va_P D vwCl [(ky 0, oK ky ru ln), (ky 1, oR (ky 2) n1), (ky 2, aZ ta 32 ge), (ky 3, oR (ky 4) n3), (ky 4, aZ ta 32 gm), (ky 5, oR (ky 6) n5), (ky 6, aZ ta 32 gse), (hta, oR bta nta), (bta, aZ ta 400 gta)] H := hP
            have hD : va_D A [(ky 0, oK ky ru ln), (ky 1, oR (ky 2) n1), (ky 2, aZ ta 32 ge), (ky 3, oR (ky 4) n3), (ky 4, aZ ta 32 gm), (ky 5, oR (ky 6) n5), (ky 6, aZ ta 32 gse), (hta, oR bta nta), (bta, aZ ta 400 gta)] := hD
            refine lv_icmp_ne (pc := 48) (tgt := 62) hx hb dX3_tell_48 (by decide) (fun c_73 => ?_) (fun c_73 => ?_)
            · skip
              rw [nI_eq (by omega) (by omega)] at c_73
              exfalso; omega
            · skip
              rw [nI_eq (by omega) (by omega)] at c_73
              refine lv_iload_n (pc := 51) hx hb dX3_tell_51 rfl (lv_at hl 1 rfl) ?_
              refine lv_bipush (pc := 52) (v := nI 16) hx hb dX3_tell_52 (by decide +kernel) ?_
              refine lv_icmp_eq (pc := 54) (tgt := 64) hx hb dX3_tell_54 (by decide) (fun c_74 => ?_) (fun c_74 => ?_)
              · skip
                rw [nI_eq (by omega) (by omega)] at c_74
                refine lv_aload_n (pc := 64) hx hb dX3_tell_64 rfl (lv_at hl 2 rfl) ?_
                refine lv_iload_n (pc := 65) hx hb dX3_tell_65 rfl (lv_at hl 3 rfl) ?_
                refine va_put (pc := 66) (D := D) (ci := 2) (v := .int (nI ρ)) (ty := .int) (C := RX3) (T := TX3) (N := 5) hx hb hts iu3 tyX3 tyX3_ok nmX3 hown hK hP hD hS 0 rfl rfl 0 (by decide) (hts _ tw_106) (fun _ h9 => h9) rfl (by decide +kernel) rfl rfl (Nat.le_of_ble_eq_true rfl) dX3_tell_66 (fun H locs hP hD hS => ?_)
                have hP : va_P D vwCl [(ky 0, oK ky ρ ln), (ky 1, oR (ky 2) n1), (ky 2, aZ ta 32 ge), (ky 3, oR (ky 4) n3), (ky 4, aZ ta 32 gm), (ky 5, oR (ky 6) n5), (ky 6, aZ ta 32 gse), (hta, oR bta nta), (bta, aZ ta 400 gta)] H := hP
                have hD : va_D A [(ky 0, oK ky ρ ln), (ky 1, oR (ky 2) n1), (ky 2, aZ ta 32 ge), (ky 3, oR (ky 4) n3), (ky 4, aZ ta 32 gm), (ky 5, oR (ky 6) n5), (ky 6, aZ ta 32 gse), (hta, oR bta nta), (bta, aZ ta 400 gta)] := hD
                refine lv_aload_n (pc := 69) hx hb dX3_tell_69 rfl (lv_at hl 2 rfl) ?_
                refine lv_iload_n (pc := 70) hx hb dX3_tell_70 rfl (lv_at hl 1 rfl) ?_
                refine va_put (pc := 71) (D := D) (ci := 2) (v := .int (nI m)) (ty := .int) (C := RX3) (T := TX3) (N := 5) hx hb hts iu3 tyX3 tyX3_ok nmX3 hown hK hP hD hS 0 rfl rfl 1 (by decide) (hts _ tw_108) (fun _ h9 => h9) rfl (by decide +kernel) rfl rfl (Nat.le_of_ble_eq_true rfl) dX3_tell_71 (fun H locs hP hD hS => ?_)
                have hP : va_P D vwCl [(ky 0, oK ky ρ m), (ky 1, oR (ky 2) n1), (ky 2, aZ ta 32 ge), (ky 3, oR (ky 4) n3), (ky 4, aZ ta 32 gm), (ky 5, oR (ky 6) n5), (ky 6, aZ ta 32 gse), (hta, oR bta nta), (bta, aZ ta 400 gta)] H := hP
                have hD : va_D A [(ky 0, oK ky ρ m), (ky 1, oR (ky 2) n1), (ky 2, aZ ta 32 ge), (ky 3, oR (ky 4) n3), (ky 4, aZ ta 32 gm), (ky 5, oR (ky 6) n5), (ky 6, aZ ta 32 gse), (hta, oR bta nta), (bta, aZ ta 400 gta)] := hD
                refine lv_aload_n (pc := 74) hx hb dX3_tell_74 rfl (lv_at hl 2 rfl) ?_
                refine va_get (pc := 75) (D := D) (ci := 2) (v := .ref (ky 1)) (C := RX3) (T := TX3) (N := 5) hx hb hts iu3 hown hK hP 0 rfl rfl 2 (by decide) (hts _ tw_111) (fun _ h9 => h9) rfl dX3_tell_75 ?_
                refine lv_aload_n (pc := 78) hx hb dX3_tell_78 rfl (lv_at hl 4 rfl) ?_
                refine lv_iconst (pc := 79) (v := nI 0) hx hb dX3_tell_79 (by decide +kernel) ?_
                refine lv_iload_n (pc := 80) hx hb dX3_tell_80 rfl (lv_at hl 1 rfl) ?_
                refine cs_V (pc := 81) (idx := 37) (n := 3) (wr := [(ky 0, oK ky ρ m), (ky 3, oR (ky 4) n3), (ky 4, aZ ta 32 gm), (ky 5, oR (ky 6) n5), (ky 6, aZ ta 32 gse)]) (As := [.ref hta, .int (nI 0), .int (nI m)]) (rest := []) (ci := 5) hx hb hml hown hts hGok hK hA hG hl.1 hP hD hS (ct_X6_copyPart ll D ta hGok (ky 1) (ky 2) 32 ge n1 hta bta 400 gta nta 0 m (by first | assumption | omega | rfl | decide) (by first | assumption | omega | rfl | decide) (by first | assumption | omega | rfl | decide) (by first | assumption | omega | rfl | decide) (by first | assumption | omega | rfl | decide) (by first | assumption | omega | rfl | decide) H.size) tw_464 tw_461 tw_462 tw_463 tw_66 hdX6_copyPart rfl ⟨rfl, rfl, Nat.le_of_ble_eq_true rfl, Nat.le_of_ble_eq_true rfl, Nat.le_of_ble_eq_true rfl, Nat.le_of_ble_eq_true rfl⟩ rfl rfl (q0 := 1) rfl [1, 2, 7, 8] [0, 3, 4, 5, 6] rfl rfl (by decide) rfl (Nat.le_of_ble_eq_true rfl) dX3_tell_81 (fun u H locs hq hP hD hS => ?_)
                obtain ⟨g1_81, n1_81⟩ := u
                have hq : (n1_81 = min m nta - 0) ∧ (qL g1_81 n1_81 = ((qL gta nta).take m).drop 0) := hq
                obtain ⟨hm_81, hL_81⟩ := hq
                refine W.eq (g2 := F0 mm 84 ls []) rfl ?_
                have hP : va_P D vwCl [(ky 0, oK ky ρ m), (ky 3, oR (ky 4) n3), (ky 4, aZ ta 32 gm), (ky 5, oR (ky 6) n5), (ky 6, aZ ta 32 gse), (ky 1, oR (ky 2) n1_81), (ky 2, aZ ta 32 g1_81), (hta, oR bta nta), (bta, aZ ta 400 gta)] H := hP
                have hD : va_D A [(ky 0, oK ky ρ m), (ky 3, oR (ky 4) n3), (ky 4, aZ ta 32 gm), (ky 5, oR (ky 6) n5), (ky 6, aZ ta 32 gse), (ky 1, oR (ky 2) n1_81), (ky 2, aZ ta 32 g1_81), (hta, oR bta nta), (bta, aZ ta 400 gta)] := hD
                have en_75 : m = n1_81 := by omega
                subst en_75
                refine lv_aload_n (pc := 84) hx hb dX3_tell_84 rfl (lv_at hl 2 rfl) ?_
                refine va_get (pc := 85) (D := D) (ci := 2) (v := .ref (ky 3)) (C := RX3) (T := TX3) (N := 5) hx hb hts iu3 hown hK hP 0 rfl rfl 3 (by decide) (hts _ tw_114) (fun _ h9 => h9) rfl dX3_tell_85 ?_
                refine lv_aload_n (pc := 88) hx hb dX3_tell_88 rfl (lv_at hl 4 rfl) ?_
                refine lv_iload_n (pc := 89) hx hb dX3_tell_89 rfl (lv_at hl 1 rfl) ?_
                refine lv_iconst (pc := 90) (v := nI 2) hx hb dX3_tell_90 (by decide +kernel) ?_
                refine lv_iload_n (pc := 91) hx hb dX3_tell_91 rfl (lv_at hl 1 rfl) ?_
                refine lv_imul (pc := 92) hx hb dX3_tell_92 ?_
                refine q_top (y := nI (2 * m)) (pk_mul 2 m) ?_
                refine cs_V (pc := 93) (idx := 37) (n := 3) (wr := [(ky 0, oK ky ρ m), (ky 5, oR (ky 6) n5), (ky 6, aZ ta 32 gse), (ky 1, oR (ky 2) m), (ky 2, aZ ta 32 g1_81)]) (As := [.ref hta, .int (nI m), .int (nI (2 * m))]) (rest := []) (ci := 5) hx hb hml hown hts hGok hK hA hG hl.1 hP hD hS (ct_X6_copyPart ll D ta hGok (ky 3) (ky 4) 32 gm n3 hta bta 400 gta nta m (2 * m) (by first | assumption | omega | rfl | decide) (by first | assumption | omega | rfl | decide) (by first | assumption | omega | rfl | decide) (by first | assumption | omega | rfl | decide) (by first | assumption | omega | rfl | decide) (by first | assumption | omega | rfl | decide) H.size) tw_464 tw_461 tw_462 tw_463 tw_66 hdX6_copyPart rfl ⟨rfl, rfl, Nat.le_of_ble_eq_true rfl, Nat.le_of_ble_eq_true rfl, Nat.le_of_ble_eq_true rfl, Nat.le_of_ble_eq_true rfl⟩ rfl rfl (q0 := 1) rfl [1, 2, 7, 8] [0, 3, 4, 5, 6] rfl rfl (by decide) rfl (Nat.le_of_ble_eq_true rfl) dX3_tell_93 (fun u H locs hq hP hD hS => ?_)
                obtain ⟨g1_93, n1_93⟩ := u
                have hq : (n1_93 = min (2 * m) nta - m) ∧ (qL g1_93 n1_93 = ((qL gta nta).take (2 * m)).drop m) := hq
                obtain ⟨hm_93, hL_93⟩ := hq
                refine W.eq (g2 := F0 mm 96 ls []) rfl ?_
                have hP : va_P D vwCl [(ky 0, oK ky ρ m), (ky 5, oR (ky 6) n5), (ky 6, aZ ta 32 gse), (ky 1, oR (ky 2) m), (ky 2, aZ ta 32 g1_81), (ky 3, oR (ky 4) n1_93), (ky 4, aZ ta 32 g1_93), (hta, oR bta nta), (bta, aZ ta 400 gta)] H := hP
                have hD : va_D A [(ky 0, oK ky ρ m), (ky 5, oR (ky 6) n5), (ky 6, aZ ta 32 gse), (ky 1, oR (ky 2) m), (ky 2, aZ ta 32 g1_81), (ky 3, oR (ky 4) n1_93), (ky 4, aZ ta 32 g1_93), (hta, oR bta nta), (bta, aZ ta 400 gta)] := hD
                have en_76 : m = n1_93 := by omega
                subst en_76
                refine lv_aload_n (pc := 96) hx hb dX3_tell_96 rfl (lv_at hl 2 rfl) ?_
                refine va_get (pc := 97) (D := D) (ci := 2) (v := .ref (ky 5)) (C := RX3) (T := TX3) (N := 5) hx hb hts iu3 hown hK hP 0 rfl rfl 4 (by decide) (hts _ tw_117) (fun _ h9 => h9) rfl dX3_tell_97 ?_
                refine lv_aload_n (pc := 100) hx hb dX3_tell_100 rfl (lv_at hl 4 rfl) ?_
                refine lv_iconst (pc := 101) (v := nI 2) hx hb dX3_tell_101 (by decide +kernel) ?_
                refine lv_iload_n (pc := 102) hx hb dX3_tell_102 rfl (lv_at hl 1 rfl) ?_
                refine lv_imul (pc := 103) hx hb dX3_tell_103 ?_
                refine q_top (y := nI (2 * m)) (pk_mul 2 m) ?_
                refine lv_iconst (pc := 104) (v := nI 3) hx hb dX3_tell_104 (by decide +kernel) ?_
                refine lv_iload_n (pc := 105) hx hb dX3_tell_105 rfl (lv_at hl 1 rfl) ?_
                refine lv_imul (pc := 106) hx hb dX3_tell_106 ?_
                refine q_top (y := nI (3 * m)) (pk_mul 3 m) ?_
                refine cs_V (pc := 107) (idx := 37) (n := 3) (wr := [(ky 0, oK ky ρ m), (ky 1, oR (ky 2) m), (ky 2, aZ ta 32 g1_81), (ky 3, oR (ky 4) m), (ky 4, aZ ta 32 g1_93)]) (As := [.ref hta, .int (nI (2 * m)), .int (nI (3 * m))]) (rest := []) (ci := 5) hx hb hml hown hts hGok hK hA hG hl.1 hP hD hS (ct_X6_copyPart ll D ta hGok (ky 5) (ky 6) 32 gse n5 hta bta 400 gta nta (2 * m) (3 * m) (by first | assumption | omega | rfl | decide) (by first | assumption | omega | rfl | decide) (by first | assumption | omega | rfl | decide) (by first | assumption | omega | rfl | decide) (by first | assumption | omega | rfl | decide) (by first | assumption | omega | rfl | decide) H.size) tw_464 tw_461 tw_462 tw_463 tw_66 hdX6_copyPart rfl ⟨rfl, rfl, Nat.le_of_ble_eq_true rfl, Nat.le_of_ble_eq_true rfl, Nat.le_of_ble_eq_true rfl, Nat.le_of_ble_eq_true rfl⟩ rfl rfl (q0 := 1) rfl [1, 2, 7, 8] [0, 3, 4, 5, 6] rfl rfl (by decide) rfl (Nat.le_of_ble_eq_true rfl) dX3_tell_107 (fun u H locs hq hP hD hS => ?_)
                obtain ⟨g1_107, n1_107⟩ := u
                have hq : (n1_107 = min (3 * m) nta - (2 * m)) ∧ (qL g1_107 n1_107 = ((qL gta nta).take (3 * m)).drop (2 * m)) := hq
                obtain ⟨hm_107, hL_107⟩ := hq
                refine W.eq (g2 := F0 mm 110 ls []) rfl ?_
                have hP : va_P D vwCl [(ky 0, oK ky ρ m), (ky 1, oR (ky 2) m), (ky 2, aZ ta 32 g1_81), (ky 3, oR (ky 4) m), (ky 4, aZ ta 32 g1_93), (ky 5, oR (ky 6) n1_107), (ky 6, aZ ta 32 g1_107), (hta, oR bta nta), (bta, aZ ta 400 gta)] H := hP
                have hD : va_D A [(ky 0, oK ky ρ m), (ky 1, oR (ky 2) m), (ky 2, aZ ta 32 g1_81), (ky 3, oR (ky 4) m), (ky 4, aZ ta 32 g1_93), (ky 5, oR (ky 6) n1_107), (ky 6, aZ ta 32 g1_107), (hta, oR bta nta), (bta, aZ ta 400 gta)] := hD
                have en_77 : m = n1_107 := by omega
                subst en_77
                refine lv_iconst (pc := 110) (v := nI 1) hx hb dX3_tell_110 (by decide +kernel) ?_
                refine q_top (y := qb true) (by first | rfl | decide +kernel | (simp; done)) ?_
                have hq_78 : (true = true) ∧ (qL g1_81 m = (qL gta nta).take m) ∧ (qL g1_93 m = ((qL gta nta).take (2 * m)).drop m) ∧ (qL g1_107 m = ((qL gta nta).take (3 * m)).drop (2 * m)) := by
                  exact ⟨rfl, hL_81, hL_93, hL_107⟩
                exact hret (⟨(true), (g1_81), (g1_93), (g1_107)⟩ : Bool × (Nat → BitVec 8) × (Nat → BitVec 8) × (Nat → BitVec 8)) _ _ _ _ dX3_tell_111 hq_78 (hP.sub [0, 1, 2, 3, 4, 5, 6, 7, 8] rfl) (hD.sub [0, 1, 2, 3, 4, 5, 6, 7, 8] (by decide) rfl) hS
              · skip
                rw [nI_eq (by omega) (by omega)] at c_74
                refine lv_iload (pc := 57) hx hb dX3_tell_57 (lv_at hl 0 rfl) ?_
                refine lv_if_ne (pc := 59) (tgt := 64) hx hb dX3_tell_59 (by decide) (fun _ => ?_) (fun c_79 => absurd c_79 (by decide))
                refine lv_aload_n (pc := 64) hx hb dX3_tell_64 rfl (lv_at hl 2 rfl) ?_
                refine lv_iload_n (pc := 65) hx hb dX3_tell_65 rfl (lv_at hl 3 rfl) ?_
                refine va_put (pc := 66) (D := D) (ci := 2) (v := .int (nI ρ)) (ty := .int) (C := RX3) (T := TX3) (N := 5) hx hb hts iu3 tyX3 tyX3_ok nmX3 hown hK hP hD hS 0 rfl rfl 0 (by decide) (hts _ tw_106) (fun _ h9 => h9) rfl (by decide +kernel) rfl rfl (Nat.le_of_ble_eq_true rfl) dX3_tell_66 (fun H locs hP hD hS => ?_)
                have hP : va_P D vwCl [(ky 0, oK ky ρ ln), (ky 1, oR (ky 2) n1), (ky 2, aZ ta 32 ge), (ky 3, oR (ky 4) n3), (ky 4, aZ ta 32 gm), (ky 5, oR (ky 6) n5), (ky 6, aZ ta 32 gse), (hta, oR bta nta), (bta, aZ ta 400 gta)] H := hP
                have hD : va_D A [(ky 0, oK ky ρ ln), (ky 1, oR (ky 2) n1), (ky 2, aZ ta 32 ge), (ky 3, oR (ky 4) n3), (ky 4, aZ ta 32 gm), (ky 5, oR (ky 6) n5), (ky 6, aZ ta 32 gse), (hta, oR bta nta), (bta, aZ ta 400 gta)] := hD
                refine lv_aload_n (pc := 69) hx hb dX3_tell_69 rfl (lv_at hl 2 rfl) ?_
                refine lv_iload_n (pc := 70) hx hb dX3_tell_70 rfl (lv_at hl 1 rfl) ?_
                refine va_put (pc := 71) (D := D) (ci := 2) (v := .int (nI m)) (ty := .int) (C := RX3) (T := TX3) (N := 5) hx hb hts iu3 tyX3 tyX3_ok nmX3 hown hK hP hD hS 0 rfl rfl 1 (by decide) (hts _ tw_108) (fun _ h9 => h9) rfl (by decide +kernel) rfl rfl (Nat.le_of_ble_eq_true rfl) dX3_tell_71 (fun H locs hP hD hS => ?_)
                have hP : va_P D vwCl [(ky 0, oK ky ρ m), (ky 1, oR (ky 2) n1), (ky 2, aZ ta 32 ge), (ky 3, oR (ky 4) n3), (ky 4, aZ ta 32 gm), (ky 5, oR (ky 6) n5), (ky 6, aZ ta 32 gse), (hta, oR bta nta), (bta, aZ ta 400 gta)] H := hP
                have hD : va_D A [(ky 0, oK ky ρ m), (ky 1, oR (ky 2) n1), (ky 2, aZ ta 32 ge), (ky 3, oR (ky 4) n3), (ky 4, aZ ta 32 gm), (ky 5, oR (ky 6) n5), (ky 6, aZ ta 32 gse), (hta, oR bta nta), (bta, aZ ta 400 gta)] := hD
                refine lv_aload_n (pc := 74) hx hb dX3_tell_74 rfl (lv_at hl 2 rfl) ?_
                refine va_get (pc := 75) (D := D) (ci := 2) (v := .ref (ky 1)) (C := RX3) (T := TX3) (N := 5) hx hb hts iu3 hown hK hP 0 rfl rfl 2 (by decide) (hts _ tw_111) (fun _ h9 => h9) rfl dX3_tell_75 ?_
                refine lv_aload_n (pc := 78) hx hb dX3_tell_78 rfl (lv_at hl 4 rfl) ?_
                refine lv_iconst (pc := 79) (v := nI 0) hx hb dX3_tell_79 (by decide +kernel) ?_
                refine lv_iload_n (pc := 80) hx hb dX3_tell_80 rfl (lv_at hl 1 rfl) ?_
                refine cs_V (pc := 81) (idx := 37) (n := 3) (wr := [(ky 0, oK ky ρ m), (ky 3, oR (ky 4) n3), (ky 4, aZ ta 32 gm), (ky 5, oR (ky 6) n5), (ky 6, aZ ta 32 gse)]) (As := [.ref hta, .int (nI 0), .int (nI m)]) (rest := []) (ci := 5) hx hb hml hown hts hGok hK hA hG hl.1 hP hD hS (ct_X6_copyPart ll D ta hGok (ky 1) (ky 2) 32 ge n1 hta bta 400 gta nta 0 m (by first | assumption | omega | rfl | decide) (by first | assumption | omega | rfl | decide) (by first | assumption | omega | rfl | decide) (by first | assumption | omega | rfl | decide) (by first | assumption | omega | rfl | decide) (by first | assumption | omega | rfl | decide) H.size) tw_464 tw_461 tw_462 tw_463 tw_66 hdX6_copyPart rfl ⟨rfl, rfl, Nat.le_of_ble_eq_true rfl, Nat.le_of_ble_eq_true rfl, Nat.le_of_ble_eq_true rfl, Nat.le_of_ble_eq_true rfl⟩ rfl rfl (q0 := 1) rfl [1, 2, 7, 8] [0, 3, 4, 5, 6] rfl rfl (by decide) rfl (Nat.le_of_ble_eq_true rfl) dX3_tell_81 (fun u H locs hq hP hD hS => ?_)
                obtain ⟨g1_81, n1_81⟩ := u
                have hq : (n1_81 = min m nta - 0) ∧ (qL g1_81 n1_81 = ((qL gta nta).take m).drop 0) := hq
                obtain ⟨hm_81, hL_81⟩ := hq
                refine W.eq (g2 := F0 mm 84 ls []) rfl ?_
                have hP : va_P D vwCl [(ky 0, oK ky ρ m), (ky 3, oR (ky 4) n3), (ky 4, aZ ta 32 gm), (ky 5, oR (ky 6) n5), (ky 6, aZ ta 32 gse), (ky 1, oR (ky 2) n1_81), (ky 2, aZ ta 32 g1_81), (hta, oR bta nta), (bta, aZ ta 400 gta)] H := hP
                have hD : va_D A [(ky 0, oK ky ρ m), (ky 3, oR (ky 4) n3), (ky 4, aZ ta 32 gm), (ky 5, oR (ky 6) n5), (ky 6, aZ ta 32 gse), (ky 1, oR (ky 2) n1_81), (ky 2, aZ ta 32 g1_81), (hta, oR bta nta), (bta, aZ ta 400 gta)] := hD
                have en_80 : m = n1_81 := by omega
                subst en_80
                refine lv_aload_n (pc := 84) hx hb dX3_tell_84 rfl (lv_at hl 2 rfl) ?_
                refine va_get (pc := 85) (D := D) (ci := 2) (v := .ref (ky 3)) (C := RX3) (T := TX3) (N := 5) hx hb hts iu3 hown hK hP 0 rfl rfl 3 (by decide) (hts _ tw_114) (fun _ h9 => h9) rfl dX3_tell_85 ?_
                refine lv_aload_n (pc := 88) hx hb dX3_tell_88 rfl (lv_at hl 4 rfl) ?_
                refine lv_iload_n (pc := 89) hx hb dX3_tell_89 rfl (lv_at hl 1 rfl) ?_
                refine lv_iconst (pc := 90) (v := nI 2) hx hb dX3_tell_90 (by decide +kernel) ?_
                refine lv_iload_n (pc := 91) hx hb dX3_tell_91 rfl (lv_at hl 1 rfl) ?_
                refine lv_imul (pc := 92) hx hb dX3_tell_92 ?_
                refine q_top (y := nI (2 * m)) (pk_mul 2 m) ?_
                refine cs_V (pc := 93) (idx := 37) (n := 3) (wr := [(ky 0, oK ky ρ m), (ky 5, oR (ky 6) n5), (ky 6, aZ ta 32 gse), (ky 1, oR (ky 2) m), (ky 2, aZ ta 32 g1_81)]) (As := [.ref hta, .int (nI m), .int (nI (2 * m))]) (rest := []) (ci := 5) hx hb hml hown hts hGok hK hA hG hl.1 hP hD hS (ct_X6_copyPart ll D ta hGok (ky 3) (ky 4) 32 gm n3 hta bta 400 gta nta m (2 * m) (by first | assumption | omega | rfl | decide) (by first | assumption | omega | rfl | decide) (by first | assumption | omega | rfl | decide) (by first | assumption | omega | rfl | decide) (by first | assumption | omega | rfl | decide) (by first | assumption | omega | rfl | decide) H.size) tw_464 tw_461 tw_462 tw_463 tw_66 hdX6_copyPart rfl ⟨rfl, rfl, Nat.le_of_ble_eq_true rfl, Nat.le_of_ble_eq_true rfl, Nat.le_of_ble_eq_true rfl, Nat.le_of_ble_eq_true rfl⟩ rfl rfl (q0 := 1) rfl [1, 2, 7, 8] [0, 3, 4, 5, 6] rfl rfl (by decide) rfl (Nat.le_of_ble_eq_true rfl) dX3_tell_93 (fun u H locs hq hP hD hS => ?_)
                obtain ⟨g1_93, n1_93⟩ := u
                have hq : (n1_93 = min (2 * m) nta - m) ∧ (qL g1_93 n1_93 = ((qL gta nta).take (2 * m)).drop m) := hq
                obtain ⟨hm_93, hL_93⟩ := hq
                refine W.eq (g2 := F0 mm 96 ls []) rfl ?_
                have hP : va_P D vwCl [(ky 0, oK ky ρ m), (ky 5, oR (ky 6) n5), (ky 6, aZ ta 32 gse), (ky 1, oR (ky 2) m), (ky 2, aZ ta 32 g1_81), (ky 3, oR (ky 4) n1_93), (ky 4, aZ ta 32 g1_93), (hta, oR bta nta), (bta, aZ ta 400 gta)] H := hP
                have hD : va_D A [(ky 0, oK ky ρ m), (ky 5, oR (ky 6) n5), (ky 6, aZ ta 32 gse), (ky 1, oR (ky 2) m), (ky 2, aZ ta 32 g1_81), (ky 3, oR (ky 4) n1_93), (ky 4, aZ ta 32 g1_93), (hta, oR bta nta), (bta, aZ ta 400 gta)] := hD
                have en_81 : m = n1_93 := by omega
                subst en_81
                refine lv_aload_n (pc := 96) hx hb dX3_tell_96 rfl (lv_at hl 2 rfl) ?_
                refine va_get (pc := 97) (D := D) (ci := 2) (v := .ref (ky 5)) (C := RX3) (T := TX3) (N := 5) hx hb hts iu3 hown hK hP 0 rfl rfl 4 (by decide) (hts _ tw_117) (fun _ h9 => h9) rfl dX3_tell_97 ?_
                refine lv_aload_n (pc := 100) hx hb dX3_tell_100 rfl (lv_at hl 4 rfl) ?_
                refine lv_iconst (pc := 101) (v := nI 2) hx hb dX3_tell_101 (by decide +kernel) ?_
                refine lv_iload_n (pc := 102) hx hb dX3_tell_102 rfl (lv_at hl 1 rfl) ?_
                refine lv_imul (pc := 103) hx hb dX3_tell_103 ?_
                refine q_top (y := nI (2 * m)) (pk_mul 2 m) ?_
                refine lv_iconst (pc := 104) (v := nI 3) hx hb dX3_tell_104 (by decide +kernel) ?_
                refine lv_iload_n (pc := 105) hx hb dX3_tell_105 rfl (lv_at hl 1 rfl) ?_
                refine lv_imul (pc := 106) hx hb dX3_tell_106 ?_
                refine q_top (y := nI (3 * m)) (pk_mul 3 m) ?_
                refine cs_V (pc := 107) (idx := 37) (n := 3) (wr := [(ky 0, oK ky ρ m), (ky 1, oR (ky 2) m), (ky 2, aZ ta 32 g1_81), (ky 3, oR (ky 4) m), (ky 4, aZ ta 32 g1_93)]) (As := [.ref hta, .int (nI (2 * m)), .int (nI (3 * m))]) (rest := []) (ci := 5) hx hb hml hown hts hGok hK hA hG hl.1 hP hD hS (ct_X6_copyPart ll D ta hGok (ky 5) (ky 6) 32 gse n5 hta bta 400 gta nta (2 * m) (3 * m) (by first | assumption | omega | rfl | decide) (by first | assumption | omega | rfl | decide) (by first | assumption | omega | rfl | decide) (by first | assumption | omega | rfl | decide) (by first | assumption | omega | rfl | decide) (by first | assumption | omega | rfl | decide) H.size) tw_464 tw_461 tw_462 tw_463 tw_66 hdX6_copyPart rfl ⟨rfl, rfl, Nat.le_of_ble_eq_true rfl, Nat.le_of_ble_eq_true rfl, Nat.le_of_ble_eq_true rfl, Nat.le_of_ble_eq_true rfl⟩ rfl rfl (q0 := 1) rfl [1, 2, 7, 8] [0, 3, 4, 5, 6] rfl rfl (by decide) rfl (Nat.le_of_ble_eq_true rfl) dX3_tell_107 (fun u H locs hq hP hD hS => ?_)
                obtain ⟨g1_107, n1_107⟩ := u
                have hq : (n1_107 = min (3 * m) nta - (2 * m)) ∧ (qL g1_107 n1_107 = ((qL gta nta).take (3 * m)).drop (2 * m)) := hq
                obtain ⟨hm_107, hL_107⟩ := hq
                refine W.eq (g2 := F0 mm 110 ls []) rfl ?_
                have hP : va_P D vwCl [(ky 0, oK ky ρ m), (ky 1, oR (ky 2) m), (ky 2, aZ ta 32 g1_81), (ky 3, oR (ky 4) m), (ky 4, aZ ta 32 g1_93), (ky 5, oR (ky 6) n1_107), (ky 6, aZ ta 32 g1_107), (hta, oR bta nta), (bta, aZ ta 400 gta)] H := hP
                have hD : va_D A [(ky 0, oK ky ρ m), (ky 1, oR (ky 2) m), (ky 2, aZ ta 32 g1_81), (ky 3, oR (ky 4) m), (ky 4, aZ ta 32 g1_93), (ky 5, oR (ky 6) n1_107), (ky 6, aZ ta 32 g1_107), (hta, oR bta nta), (bta, aZ ta 400 gta)] := hD
                have en_82 : m = n1_107 := by omega
                subst en_82
                refine lv_iconst (pc := 110) (v := nI 1) hx hb dX3_tell_110 (by decide +kernel) ?_
                refine q_top (y := qb true) (by first | rfl | decide +kernel | (simp; done)) ?_
                have hq_83 : (true = true) ∧ (qL g1_81 m = (qL gta nta).take m) ∧ (qL g1_93 m = ((qL gta nta).take (2 * m)).drop m) ∧ (qL g1_107 m = ((qL gta nta).take (3 * m)).drop (2 * m)) := by
                  exact ⟨rfl, hL_81, hL_93, hL_107⟩
                exact hret (⟨(true), (g1_81), (g1_93), (g1_107)⟩ : Bool × (Nat → BitVec 8) × (Nat → BitVec 8) × (Nat → BitVec 8)) _ _ _ _ dX3_tell_111 hq_83 (hP.sub [0, 1, 2, 3, 4, 5, 6, 7, 8] rfl) (hD.sub [0, 1, 2, 3, 4, 5, 6, 7, 8] (by decide) rfl) hS
set_option maxHeartbeats 4000000 in
set_option maxRecDepth 100000 in
theorem ct_X3_tell_no (ll : Launch) (D : va_G) (ta : Nat → ClassId) (gs : Nat → Nat) (ky : Nat → Nat) (ru : Nat) (ln : Nat) (hta : Nat) (bta : Nat) (gta : Nat → BitVec 8) (nta : Nat) (r9 : Int32) (hnt : nta ≤ 400) (hno : keyB r9 nta = false) (sz : Nat) : CT ll yX3_tell cX3_tell 5 (some .boolean) ({ frames := 3, cells := 0, slots := 0, locals := 68 } : Room) D ta ((GC gs)) [.ref (ky 0), .int r9, .ref hta] [(ky 0, oK ky ru ln), (hta, oR bta nta), (bta, aZ ta 400 gta)] sz (S := Bool) (fun u => some (.int (qb u))) (fun u => (u = false)) (fun u => [(ky 0, oK ky ru ln), (hta, oR bta nta), (bta, aZ ta 400 gta)]) 0 0 := by
  refine CT.of_z (r := fun u => u) rfl (by decide) (Nat.le_of_ble_eq_true rfl) ?_
  have hGok := GC_ok gs
  intro pp ee ss mm below meth kc A Q hx hb hml hown hin hts hK hA hsz hG hret H locs hP hD hS ls hl
  have hl : lv_has ls 5 [(0, .ref (ky 0)), (1, .int r9), (2, .ref hta)] := hl
  refine lv_aload_n (pc := 0) hx hb dX3_tell_0 rfl (lv_at hl 2 rfl) ?_
  refine cs_V (pc := 1) (idx := 33) (n := 0) (wr := [(ky 0, oK ky ru ln)]) (As := []) (rest := []) (ci := 5) hx hb hml hown hts hGok hK hA hG hl.1 hP hD hS (ct_X6_size ll D ta hGok hta bta 400 gta nta  H.size) tw_393 tw_460 tw_391 tw_392 tw_66 hdX6_size rfl ⟨rfl, rfl, Nat.le_of_ble_eq_true rfl, Nat.le_of_ble_eq_true rfl, Nat.le_of_ble_eq_true rfl, Nat.le_of_ble_eq_true rfl⟩ rfl rfl (q0 := 1) rfl [1, 2] [0] rfl rfl (by decide) rfl (Nat.le_of_ble_eq_true rfl) dX3_tell_1 (fun u H locs hq hP hD hS => ?_)
  refine W.eq (g2 := F0 mm 4 ls [.int (nI nta)]) rfl ?_
  have hP : va_P D vwCl [(ky 0, oK ky ru ln), (hta, oR bta nta), (bta, aZ ta 400 gta)] H := hP
  have hD : va_D A [(ky 0, oK ky ru ln), (hta, oR bta nta), (bta, aZ ta 400 gta)] := hD
  refine lv_iconst (pc := 4) (v := nI 3) hx hb dX3_tell_4 (by decide +kernel) ?_
  refine lv_idiv (pc := 5) hx hb dX3_tell_5 (q_ne0 (by omega) (by omega)) ?_
  refine q_top (y := nI (nta / 3)) (pk_div (by omega) (by omega) (by omega)) ?_
  refine lv_istore_n (pc := 6) (lv' := [(3, .int (nI (nta / 3))), (0, .ref (ky 0)), (1, .int r9), (2, .ref hta)]) hx hb dX3_tell_6 rfl hl (by decide) rfl (fun ls hl => ?_)
  refine lv_iload_n (pc := 7) hx hb dX3_tell_7 rfl (lv_at hl 2 rfl) ?_
  refine lv_iconst (pc := 8) (v := nI 3) hx hb dX3_tell_8 (by decide +kernel) ?_
  refine lv_icmp_ne (pc := 9) (tgt := 28) hx hb dX3_tell_9 (by decide) (fun c_1 => ?_) (fun c_1 => ?_)
  · skip
    refine lv_iconst (pc := 28) (v := nI 0) hx hb dX3_tell_28 (by decide +kernel) ?_
    refine lv_istore (pc := 29) (lv' := [(4, .int (nI 0)), (3, .int (nI (nta / 3))), (0, .ref (ky 0)), (1, .int r9), (2, .ref hta)]) hx hb dX3_tell_29 hl (by decide) rfl (fun ls hl => ?_)
    refine lv_iload_n (pc := 31) hx hb dX3_tell_31 rfl (lv_at hl 3 rfl) ?_
    refine lv_iconst (pc := 32) (v := nI 2) hx hb dX3_tell_32 (by decide +kernel) ?_
    refine lv_icmp_eq (pc := 33) (tgt := 41) hx hb dX3_tell_33 (by decide) (fun c_2 => ?_) (fun c_2 => ?_)
    · skip
      refine lv_iload_n (pc := 41) hx hb dX3_tell_41 rfl (lv_at hl 1 rfl) ?_
      refine lv_iconst (pc := 42) (v := nI 3) hx hb dX3_tell_42 (by decide +kernel) ?_
      refine lv_imul (pc := 43) hx hb dX3_tell_43 ?_
      refine q_top (y := nI ((nta / 3) * 3)) (pk_mul (nta / 3) 3) ?_
      refine lv_aload_n (pc := 44) hx hb dX3_tell_44 rfl (lv_at hl 4 rfl) ?_
      refine cs_V (pc := 45) (idx := 33) (n := 0) (wr := [(ky 0, oK ky ru ln)]) (As := []) (rest := [.int (nI ((nta / 3) * 3))]) (ci := 5) hx hb hml hown hts hGok hK hA hG hl.1 hP hD hS (ct_X6_size ll D ta hGok hta bta 400 gta nta  H.size) tw_393 tw_460 tw_391 tw_392 tw_66 hdX6_size rfl ⟨rfl, rfl, Nat.le_of_ble_eq_true rfl, Nat.le_of_ble_eq_true rfl, Nat.le_of_ble_eq_true rfl, Nat.le_of_ble_eq_true rfl⟩ rfl rfl (q0 := 1) rfl [1, 2] [0] rfl rfl (by decide) rfl (Nat.le_of_ble_eq_true rfl) dX3_tell_45 (fun u H locs hq hP hD hS => ?_)
      refine W.eq (g2 := F0 mm 48 ls [.int (nI nta), .int (nI ((nta / 3) * 3))]) rfl ?_
      have hP : va_P D vwCl [(ky 0, oK ky ru ln), (hta, oR bta nta), (bta, aZ ta 400 gta)] H := hP
      have hD : va_D A [(ky 0, oK ky ru ln), (hta, oR bta nta), (bta, aZ ta 400 gta)] := hD
      refine lv_icmp_ne (pc := 48) (tgt := 62) hx hb dX3_tell_48 (by decide) (fun c_3 => ?_) (fun c_3 => ?_)
      · skip
        rw [nI_eq (by omega) (by omega)] at c_3
        refine lv_iconst (pc := 62) (v := nI 0) hx hb dX3_tell_62 (by decide +kernel) ?_
        refine q_top (y := qb false) (by first | rfl | decide +kernel | (simp; done)) ?_
        have hq_4 : (false = false) := by
          first | rfl | trivial | (refine ⟨?_, ?_⟩ <;> rfl) | (simp; done) | omega
        exact hret (false) _ _ _ _ dX3_tell_63 hq_4 (hP.sub [0, 1, 2] rfl) (hD.sub [0, 1, 2] (by decide) rfl) hS
      · skip
        rw [nI_eq (by omega) (by omega)] at c_3
        refine lv_iload_n (pc := 51) hx hb dX3_tell_51 rfl (lv_at hl 1 rfl) ?_
        refine lv_bipush (pc := 52) (v := nI 16) hx hb dX3_tell_52 (by decide +kernel) ?_
        refine lv_icmp_eq (pc := 54) (tgt := 64) hx hb dX3_tell_54 (by decide) (fun c_5 => ?_) (fun c_5 => ?_)
        · skip
          rw [nI_eq (by omega) (by omega)] at c_5
          exfalso; exact keyB_no hno (by omega) (by first | (simp_all; done) | (simp_all; omega))
        · skip
          rw [nI_eq (by omega) (by omega)] at c_5
          refine lv_iload (pc := 57) hx hb dX3_tell_57 (lv_at hl 0 rfl) ?_
          refine lv_if_ne (pc := 59) (tgt := 64) hx hb dX3_tell_59 (by decide) (fun c_6 => absurd (by decide) c_6) (fun _ => ?_)
          refine lv_iconst (pc := 62) (v := nI 0) hx hb dX3_tell_62 (by decide +kernel) ?_
          refine q_top (y := qb false) (by first | rfl | decide +kernel | (simp; done)) ?_
          have hq_7 : (false = false) := by
            first | rfl | trivial | (refine ⟨?_, ?_⟩ <;> rfl) | (simp; done) | omega
          exact hret (false) _ _ _ _ dX3_tell_63 hq_7 (hP.sub [0, 1, 2] rfl) (hD.sub [0, 1, 2] (by decide) rfl) hS
    · skip
      refine lv_iload_n (pc := 36) hx hb dX3_tell_36 rfl (lv_at hl 3 rfl) ?_
      refine lv_iconst (pc := 37) (v := nI 3) hx hb dX3_tell_37 (by decide +kernel) ?_
      refine lv_icmp_ne (pc := 38) (tgt := 62) hx hb dX3_tell_38 (by decide) (fun c_8 => ?_) (fun c_8 => ?_)
      · skip
        refine lv_iconst (pc := 62) (v := nI 0) hx hb dX3_tell_62 (by decide +kernel) ?_
        refine q_top (y := qb false) (by first | rfl | decide +kernel | (simp; done)) ?_
        have hq_9 : (false = false) := by
          first | rfl | trivial | (refine ⟨?_, ?_⟩ <;> rfl) | (simp; done) | omega
        exact hret (false) _ _ _ _ dX3_tell_63 hq_9 (hP.sub [0, 1, 2] rfl) (hD.sub [0, 1, 2] (by decide) rfl) hS
      · skip
        refine lv_iload_n (pc := 41) hx hb dX3_tell_41 rfl (lv_at hl 1 rfl) ?_
        refine lv_iconst (pc := 42) (v := nI 3) hx hb dX3_tell_42 (by decide +kernel) ?_
        refine lv_imul (pc := 43) hx hb dX3_tell_43 ?_
        refine q_top (y := nI ((nta / 3) * 3)) (pk_mul (nta / 3) 3) ?_
        refine lv_aload_n (pc := 44) hx hb dX3_tell_44 rfl (lv_at hl 4 rfl) ?_
        refine cs_V (pc := 45) (idx := 33) (n := 0) (wr := [(ky 0, oK ky ru ln)]) (As := []) (rest := [.int (nI ((nta / 3) * 3))]) (ci := 5) hx hb hml hown hts hGok hK hA hG hl.1 hP hD hS (ct_X6_size ll D ta hGok hta bta 400 gta nta  H.size) tw_393 tw_460 tw_391 tw_392 tw_66 hdX6_size rfl ⟨rfl, rfl, Nat.le_of_ble_eq_true rfl, Nat.le_of_ble_eq_true rfl, Nat.le_of_ble_eq_true rfl, Nat.le_of_ble_eq_true rfl⟩ rfl rfl (q0 := 1) rfl [1, 2] [0] rfl rfl (by decide) rfl (Nat.le_of_ble_eq_true rfl) dX3_tell_45 (fun u H locs hq hP hD hS => ?_)
        refine W.eq (g2 := F0 mm 48 ls [.int (nI nta), .int (nI ((nta / 3) * 3))]) rfl ?_
        have hP : va_P D vwCl [(ky 0, oK ky ru ln), (hta, oR bta nta), (bta, aZ ta 400 gta)] H := hP
        have hD : va_D A [(ky 0, oK ky ru ln), (hta, oR bta nta), (bta, aZ ta 400 gta)] := hD
        refine lv_icmp_ne (pc := 48) (tgt := 62) hx hb dX3_tell_48 (by decide) (fun c_10 => ?_) (fun c_10 => ?_)
        · skip
          rw [nI_eq (by omega) (by omega)] at c_10
          refine lv_iconst (pc := 62) (v := nI 0) hx hb dX3_tell_62 (by decide +kernel) ?_
          refine q_top (y := qb false) (by first | rfl | decide +kernel | (simp; done)) ?_
          have hq_11 : (false = false) := by
            first | rfl | trivial | (refine ⟨?_, ?_⟩ <;> rfl) | (simp; done) | omega
          exact hret (false) _ _ _ _ dX3_tell_63 hq_11 (hP.sub [0, 1, 2] rfl) (hD.sub [0, 1, 2] (by decide) rfl) hS
        · skip
          rw [nI_eq (by omega) (by omega)] at c_10
          refine lv_iload_n (pc := 51) hx hb dX3_tell_51 rfl (lv_at hl 1 rfl) ?_
          refine lv_bipush (pc := 52) (v := nI 16) hx hb dX3_tell_52 (by decide +kernel) ?_
          refine lv_icmp_eq (pc := 54) (tgt := 64) hx hb dX3_tell_54 (by decide) (fun c_12 => ?_) (fun c_12 => ?_)
          · skip
            rw [nI_eq (by omega) (by omega)] at c_12
            exfalso; exact keyB_no hno (by omega) (by first | (simp_all; done) | (simp_all; omega))
          · skip
            rw [nI_eq (by omega) (by omega)] at c_12
            refine lv_iload (pc := 57) hx hb dX3_tell_57 (lv_at hl 0 rfl) ?_
            refine lv_if_ne (pc := 59) (tgt := 64) hx hb dX3_tell_59 (by decide) (fun c_13 => absurd (by decide) c_13) (fun _ => ?_)
            refine lv_iconst (pc := 62) (v := nI 0) hx hb dX3_tell_62 (by decide +kernel) ?_
            refine q_top (y := qb false) (by first | rfl | decide +kernel | (simp; done)) ?_
            have hq_14 : (false = false) := by
              first | rfl | trivial | (refine ⟨?_, ?_⟩ <;> rfl) | (simp; done) | omega
            exact hret (false) _ _ _ _ dX3_tell_63 hq_14 (hP.sub [0, 1, 2] rfl) (hD.sub [0, 1, 2] (by decide) rfl) hS
  · skip
    refine lv_iload_n (pc := 12) hx hb dX3_tell_12 rfl (lv_at hl 0 rfl) ?_
    refine lv_bipush (pc := 13) (v := nI 24) hx hb dX3_tell_13 (by decide +kernel) ?_
    refine lv_icmp_eq (pc := 15) (tgt := 24) hx hb dX3_tell_15 (by decide) (fun c_15 => ?_) (fun c_15 => ?_)
    · skip
      rw [nI_eq (by omega) (by omega)] at c_15
      refine lv_iconst (pc := 24) (v := nI 1) hx hb dX3_tell_24 (by decide +kernel) ?_
      refine lv_goto (pc := 25) (tgt := 29) hx hb dX3_tell_25 (by decide) ?_
      refine lv_istore (pc := 29) (lv' := [(4, .int (nI 1)), (3, .int (nI (nta / 3))), (0, .ref (ky 0)), (1, .int r9), (2, .ref hta)]) hx hb dX3_tell_29 hl (by decide) rfl (fun ls hl => ?_)
      refine lv_iload_n (pc := 31) hx hb dX3_tell_31 rfl (lv_at hl 3 rfl) ?_
      refine lv_iconst (pc := 32) (v := nI 2) hx hb dX3_tell_32 (by decide +kernel) ?_
      refine lv_icmp_eq (pc := 33) (tgt := 41) hx hb dX3_tell_33 (by decide) (fun c_16 => ?_) (fun c_16 => ?_)
      · skip
        refine lv_iload_n (pc := 41) hx hb dX3_tell_41 rfl (lv_at hl 1 rfl) ?_
        refine lv_iconst (pc := 42) (v := nI 3) hx hb dX3_tell_42 (by decide +kernel) ?_
        refine lv_imul (pc := 43) hx hb dX3_tell_43 ?_
        refine q_top (y := nI ((nta / 3) * 3)) (pk_mul (nta / 3) 3) ?_
        refine lv_aload_n (pc := 44) hx hb dX3_tell_44 rfl (lv_at hl 4 rfl) ?_
        refine cs_V (pc := 45) (idx := 33) (n := 0) (wr := [(ky 0, oK ky ru ln)]) (As := []) (rest := [.int (nI ((nta / 3) * 3))]) (ci := 5) hx hb hml hown hts hGok hK hA hG hl.1 hP hD hS (ct_X6_size ll D ta hGok hta bta 400 gta nta  H.size) tw_393 tw_460 tw_391 tw_392 tw_66 hdX6_size rfl ⟨rfl, rfl, Nat.le_of_ble_eq_true rfl, Nat.le_of_ble_eq_true rfl, Nat.le_of_ble_eq_true rfl, Nat.le_of_ble_eq_true rfl⟩ rfl rfl (q0 := 1) rfl [1, 2] [0] rfl rfl (by decide) rfl (Nat.le_of_ble_eq_true rfl) dX3_tell_45 (fun u H locs hq hP hD hS => ?_)
        refine W.eq (g2 := F0 mm 48 ls [.int (nI nta), .int (nI ((nta / 3) * 3))]) rfl ?_
        have hP : va_P D vwCl [(ky 0, oK ky ru ln), (hta, oR bta nta), (bta, aZ ta 400 gta)] H := hP
        have hD : va_D A [(ky 0, oK ky ru ln), (hta, oR bta nta), (bta, aZ ta 400 gta)] := hD
        refine lv_icmp_ne (pc := 48) (tgt := 62) hx hb dX3_tell_48 (by decide) (fun c_17 => ?_) (fun c_17 => ?_)
        · skip
          rw [nI_eq (by omega) (by omega)] at c_17
          refine lv_iconst (pc := 62) (v := nI 0) hx hb dX3_tell_62 (by decide +kernel) ?_
          refine q_top (y := qb false) (by first | rfl | decide +kernel | (simp; done)) ?_
          have hq_18 : (false = false) := by
            first | rfl | trivial | (refine ⟨?_, ?_⟩ <;> rfl) | (simp; done) | omega
          exact hret (false) _ _ _ _ dX3_tell_63 hq_18 (hP.sub [0, 1, 2] rfl) (hD.sub [0, 1, 2] (by decide) rfl) hS
        · skip
          rw [nI_eq (by omega) (by omega)] at c_17
          refine lv_iload_n (pc := 51) hx hb dX3_tell_51 rfl (lv_at hl 1 rfl) ?_
          refine lv_bipush (pc := 52) (v := nI 16) hx hb dX3_tell_52 (by decide +kernel) ?_
          refine lv_icmp_eq (pc := 54) (tgt := 64) hx hb dX3_tell_54 (by decide) (fun c_19 => ?_) (fun c_19 => ?_)
          · skip
            rw [nI_eq (by omega) (by omega)] at c_19
            exfalso; exact keyB_no hno (by omega) (by first | (simp_all; done) | (simp_all; omega))
          · skip
            rw [nI_eq (by omega) (by omega)] at c_19
            refine lv_iload (pc := 57) hx hb dX3_tell_57 (lv_at hl 0 rfl) ?_
            refine lv_if_ne (pc := 59) (tgt := 64) hx hb dX3_tell_59 (by decide) (fun _ => ?_) (fun c_20 => absurd c_20 (by decide))
            exfalso; exact keyB_no hno (by omega) (by first | (simp_all; done) | (simp_all; omega))
      · skip
        refine lv_iload_n (pc := 36) hx hb dX3_tell_36 rfl (lv_at hl 3 rfl) ?_
        refine lv_iconst (pc := 37) (v := nI 3) hx hb dX3_tell_37 (by decide +kernel) ?_
        refine lv_icmp_ne (pc := 38) (tgt := 62) hx hb dX3_tell_38 (by decide) (fun c_21 => ?_) (fun c_21 => ?_)
        · skip
          refine lv_iconst (pc := 62) (v := nI 0) hx hb dX3_tell_62 (by decide +kernel) ?_
          refine q_top (y := qb false) (by first | rfl | decide +kernel | (simp; done)) ?_
          have hq_22 : (false = false) := by
            first | rfl | trivial | (refine ⟨?_, ?_⟩ <;> rfl) | (simp; done) | omega
          exact hret (false) _ _ _ _ dX3_tell_63 hq_22 (hP.sub [0, 1, 2] rfl) (hD.sub [0, 1, 2] (by decide) rfl) hS
        · skip
          refine lv_iload_n (pc := 41) hx hb dX3_tell_41 rfl (lv_at hl 1 rfl) ?_
          refine lv_iconst (pc := 42) (v := nI 3) hx hb dX3_tell_42 (by decide +kernel) ?_
          refine lv_imul (pc := 43) hx hb dX3_tell_43 ?_
          refine q_top (y := nI ((nta / 3) * 3)) (pk_mul (nta / 3) 3) ?_
          refine lv_aload_n (pc := 44) hx hb dX3_tell_44 rfl (lv_at hl 4 rfl) ?_
          refine cs_V (pc := 45) (idx := 33) (n := 0) (wr := [(ky 0, oK ky ru ln)]) (As := []) (rest := [.int (nI ((nta / 3) * 3))]) (ci := 5) hx hb hml hown hts hGok hK hA hG hl.1 hP hD hS (ct_X6_size ll D ta hGok hta bta 400 gta nta  H.size) tw_393 tw_460 tw_391 tw_392 tw_66 hdX6_size rfl ⟨rfl, rfl, Nat.le_of_ble_eq_true rfl, Nat.le_of_ble_eq_true rfl, Nat.le_of_ble_eq_true rfl, Nat.le_of_ble_eq_true rfl⟩ rfl rfl (q0 := 1) rfl [1, 2] [0] rfl rfl (by decide) rfl (Nat.le_of_ble_eq_true rfl) dX3_tell_45 (fun u H locs hq hP hD hS => ?_)
          refine W.eq (g2 := F0 mm 48 ls [.int (nI nta), .int (nI ((nta / 3) * 3))]) rfl ?_
          have hP : va_P D vwCl [(ky 0, oK ky ru ln), (hta, oR bta nta), (bta, aZ ta 400 gta)] H := hP
          have hD : va_D A [(ky 0, oK ky ru ln), (hta, oR bta nta), (bta, aZ ta 400 gta)] := hD
          refine lv_icmp_ne (pc := 48) (tgt := 62) hx hb dX3_tell_48 (by decide) (fun c_23 => ?_) (fun c_23 => ?_)
          · skip
            rw [nI_eq (by omega) (by omega)] at c_23
            refine lv_iconst (pc := 62) (v := nI 0) hx hb dX3_tell_62 (by decide +kernel) ?_
            refine q_top (y := qb false) (by first | rfl | decide +kernel | (simp; done)) ?_
            have hq_24 : (false = false) := by
              first | rfl | trivial | (refine ⟨?_, ?_⟩ <;> rfl) | (simp; done) | omega
            exact hret (false) _ _ _ _ dX3_tell_63 hq_24 (hP.sub [0, 1, 2] rfl) (hD.sub [0, 1, 2] (by decide) rfl) hS
          · skip
            rw [nI_eq (by omega) (by omega)] at c_23
            refine lv_iload_n (pc := 51) hx hb dX3_tell_51 rfl (lv_at hl 1 rfl) ?_
            refine lv_bipush (pc := 52) (v := nI 16) hx hb dX3_tell_52 (by decide +kernel) ?_
            refine lv_icmp_eq (pc := 54) (tgt := 64) hx hb dX3_tell_54 (by decide) (fun c_25 => ?_) (fun c_25 => ?_)
            · skip
              rw [nI_eq (by omega) (by omega)] at c_25
              exfalso; exact keyB_no hno (by omega) (by first | (simp_all; done) | (simp_all; omega))
            · skip
              rw [nI_eq (by omega) (by omega)] at c_25
              refine lv_iload (pc := 57) hx hb dX3_tell_57 (lv_at hl 0 rfl) ?_
              refine lv_if_ne (pc := 59) (tgt := 64) hx hb dX3_tell_59 (by decide) (fun _ => ?_) (fun c_26 => absurd c_26 (by decide))
              exfalso; exact keyB_no hno (by omega) (by first | (simp_all; done) | (simp_all; omega))
    · skip
      rw [nI_eq (by omega) (by omega)] at c_15
      refine lv_iload_n (pc := 18) hx hb dX3_tell_18 rfl (lv_at hl 0 rfl) ?_
      refine lv_bipush (pc := 19) (v := nI 32) hx hb dX3_tell_19 (by decide +kernel) ?_
      refine lv_icmp_ne (pc := 21) (tgt := 28) hx hb dX3_tell_21 (by decide) (fun c_27 => ?_) (fun c_27 => ?_)
      · skip
        rw [nI_eq (by omega) (by omega)] at c_27
        refine lv_iconst (pc := 28) (v := nI 0) hx hb dX3_tell_28 (by decide +kernel) ?_
        refine lv_istore (pc := 29) (lv' := [(4, .int (nI 0)), (3, .int (nI (nta / 3))), (0, .ref (ky 0)), (1, .int r9), (2, .ref hta)]) hx hb dX3_tell_29 hl (by decide) rfl (fun ls hl => ?_)
        refine lv_iload_n (pc := 31) hx hb dX3_tell_31 rfl (lv_at hl 3 rfl) ?_
        refine lv_iconst (pc := 32) (v := nI 2) hx hb dX3_tell_32 (by decide +kernel) ?_
        refine lv_icmp_eq (pc := 33) (tgt := 41) hx hb dX3_tell_33 (by decide) (fun c_28 => ?_) (fun c_28 => ?_)
        · skip
          refine lv_iload_n (pc := 41) hx hb dX3_tell_41 rfl (lv_at hl 1 rfl) ?_
          refine lv_iconst (pc := 42) (v := nI 3) hx hb dX3_tell_42 (by decide +kernel) ?_
          refine lv_imul (pc := 43) hx hb dX3_tell_43 ?_
          refine q_top (y := nI ((nta / 3) * 3)) (pk_mul (nta / 3) 3) ?_
          refine lv_aload_n (pc := 44) hx hb dX3_tell_44 rfl (lv_at hl 4 rfl) ?_
          refine cs_V (pc := 45) (idx := 33) (n := 0) (wr := [(ky 0, oK ky ru ln)]) (As := []) (rest := [.int (nI ((nta / 3) * 3))]) (ci := 5) hx hb hml hown hts hGok hK hA hG hl.1 hP hD hS (ct_X6_size ll D ta hGok hta bta 400 gta nta  H.size) tw_393 tw_460 tw_391 tw_392 tw_66 hdX6_size rfl ⟨rfl, rfl, Nat.le_of_ble_eq_true rfl, Nat.le_of_ble_eq_true rfl, Nat.le_of_ble_eq_true rfl, Nat.le_of_ble_eq_true rfl⟩ rfl rfl (q0 := 1) rfl [1, 2] [0] rfl rfl (by decide) rfl (Nat.le_of_ble_eq_true rfl) dX3_tell_45 (fun u H locs hq hP hD hS => ?_)
          refine W.eq (g2 := F0 mm 48 ls [.int (nI nta), .int (nI ((nta / 3) * 3))]) rfl ?_
          have hP : va_P D vwCl [(ky 0, oK ky ru ln), (hta, oR bta nta), (bta, aZ ta 400 gta)] H := hP
          have hD : va_D A [(ky 0, oK ky ru ln), (hta, oR bta nta), (bta, aZ ta 400 gta)] := hD
          refine lv_icmp_ne (pc := 48) (tgt := 62) hx hb dX3_tell_48 (by decide) (fun c_29 => ?_) (fun c_29 => ?_)
          · skip
            rw [nI_eq (by omega) (by omega)] at c_29
            refine lv_iconst (pc := 62) (v := nI 0) hx hb dX3_tell_62 (by decide +kernel) ?_
            refine q_top (y := qb false) (by first | rfl | decide +kernel | (simp; done)) ?_
            have hq_30 : (false = false) := by
              first | rfl | trivial | (refine ⟨?_, ?_⟩ <;> rfl) | (simp; done) | omega
            exact hret (false) _ _ _ _ dX3_tell_63 hq_30 (hP.sub [0, 1, 2] rfl) (hD.sub [0, 1, 2] (by decide) rfl) hS
          · skip
            rw [nI_eq (by omega) (by omega)] at c_29
            refine lv_iload_n (pc := 51) hx hb dX3_tell_51 rfl (lv_at hl 1 rfl) ?_
            refine lv_bipush (pc := 52) (v := nI 16) hx hb dX3_tell_52 (by decide +kernel) ?_
            refine lv_icmp_eq (pc := 54) (tgt := 64) hx hb dX3_tell_54 (by decide) (fun c_31 => ?_) (fun c_31 => ?_)
            · skip
              rw [nI_eq (by omega) (by omega)] at c_31
              exfalso; exact keyB_no hno (by omega) (by first | (simp_all; done) | (simp_all; omega))
            · skip
              rw [nI_eq (by omega) (by omega)] at c_31
              refine lv_iload (pc := 57) hx hb dX3_tell_57 (lv_at hl 0 rfl) ?_
              refine lv_if_ne (pc := 59) (tgt := 64) hx hb dX3_tell_59 (by decide) (fun c_32 => absurd (by decide) c_32) (fun _ => ?_)
              refine lv_iconst (pc := 62) (v := nI 0) hx hb dX3_tell_62 (by decide +kernel) ?_
              refine q_top (y := qb false) (by first | rfl | decide +kernel | (simp; done)) ?_
              have hq_33 : (false = false) := by
                first | rfl | trivial | (refine ⟨?_, ?_⟩ <;> rfl) | (simp; done) | omega
              exact hret (false) _ _ _ _ dX3_tell_63 hq_33 (hP.sub [0, 1, 2] rfl) (hD.sub [0, 1, 2] (by decide) rfl) hS
        · skip
          refine lv_iload_n (pc := 36) hx hb dX3_tell_36 rfl (lv_at hl 3 rfl) ?_
          refine lv_iconst (pc := 37) (v := nI 3) hx hb dX3_tell_37 (by decide +kernel) ?_
          refine lv_icmp_ne (pc := 38) (tgt := 62) hx hb dX3_tell_38 (by decide) (fun c_34 => ?_) (fun c_34 => ?_)
          · skip
            refine lv_iconst (pc := 62) (v := nI 0) hx hb dX3_tell_62 (by decide +kernel) ?_
            refine q_top (y := qb false) (by first | rfl | decide +kernel | (simp; done)) ?_
            have hq_35 : (false = false) := by
              first | rfl | trivial | (refine ⟨?_, ?_⟩ <;> rfl) | (simp; done) | omega
            exact hret (false) _ _ _ _ dX3_tell_63 hq_35 (hP.sub [0, 1, 2] rfl) (hD.sub [0, 1, 2] (by decide) rfl) hS
          · skip
            refine lv_iload_n (pc := 41) hx hb dX3_tell_41 rfl (lv_at hl 1 rfl) ?_
            refine lv_iconst (pc := 42) (v := nI 3) hx hb dX3_tell_42 (by decide +kernel) ?_
            refine lv_imul (pc := 43) hx hb dX3_tell_43 ?_
            refine q_top (y := nI ((nta / 3) * 3)) (pk_mul (nta / 3) 3) ?_
            refine lv_aload_n (pc := 44) hx hb dX3_tell_44 rfl (lv_at hl 4 rfl) ?_
            refine cs_V (pc := 45) (idx := 33) (n := 0) (wr := [(ky 0, oK ky ru ln)]) (As := []) (rest := [.int (nI ((nta / 3) * 3))]) (ci := 5) hx hb hml hown hts hGok hK hA hG hl.1 hP hD hS (ct_X6_size ll D ta hGok hta bta 400 gta nta  H.size) tw_393 tw_460 tw_391 tw_392 tw_66 hdX6_size rfl ⟨rfl, rfl, Nat.le_of_ble_eq_true rfl, Nat.le_of_ble_eq_true rfl, Nat.le_of_ble_eq_true rfl, Nat.le_of_ble_eq_true rfl⟩ rfl rfl (q0 := 1) rfl [1, 2] [0] rfl rfl (by decide) rfl (Nat.le_of_ble_eq_true rfl) dX3_tell_45 (fun u H locs hq hP hD hS => ?_)
            refine W.eq (g2 := F0 mm 48 ls [.int (nI nta), .int (nI ((nta / 3) * 3))]) rfl ?_
            have hP : va_P D vwCl [(ky 0, oK ky ru ln), (hta, oR bta nta), (bta, aZ ta 400 gta)] H := hP
            have hD : va_D A [(ky 0, oK ky ru ln), (hta, oR bta nta), (bta, aZ ta 400 gta)] := hD
            refine lv_icmp_ne (pc := 48) (tgt := 62) hx hb dX3_tell_48 (by decide) (fun c_36 => ?_) (fun c_36 => ?_)
            · skip
              rw [nI_eq (by omega) (by omega)] at c_36
              refine lv_iconst (pc := 62) (v := nI 0) hx hb dX3_tell_62 (by decide +kernel) ?_
              refine q_top (y := qb false) (by first | rfl | decide +kernel | (simp; done)) ?_
              have hq_37 : (false = false) := by
                first | rfl | trivial | (refine ⟨?_, ?_⟩ <;> rfl) | (simp; done) | omega
              exact hret (false) _ _ _ _ dX3_tell_63 hq_37 (hP.sub [0, 1, 2] rfl) (hD.sub [0, 1, 2] (by decide) rfl) hS
            · skip
              rw [nI_eq (by omega) (by omega)] at c_36
              refine lv_iload_n (pc := 51) hx hb dX3_tell_51 rfl (lv_at hl 1 rfl) ?_
              refine lv_bipush (pc := 52) (v := nI 16) hx hb dX3_tell_52 (by decide +kernel) ?_
              refine lv_icmp_eq (pc := 54) (tgt := 64) hx hb dX3_tell_54 (by decide) (fun c_38 => ?_) (fun c_38 => ?_)
              · skip
                rw [nI_eq (by omega) (by omega)] at c_38
                exfalso; exact keyB_no hno (by omega) (by first | (simp_all; done) | (simp_all; omega))
              · skip
                rw [nI_eq (by omega) (by omega)] at c_38
                refine lv_iload (pc := 57) hx hb dX3_tell_57 (lv_at hl 0 rfl) ?_
                refine lv_if_ne (pc := 59) (tgt := 64) hx hb dX3_tell_59 (by decide) (fun c_39 => absurd (by decide) c_39) (fun _ => ?_)
                refine lv_iconst (pc := 62) (v := nI 0) hx hb dX3_tell_62 (by decide +kernel) ?_
                refine q_top (y := qb false) (by first | rfl | decide +kernel | (simp; done)) ?_
                have hq_40 : (false = false) := by
                  first | rfl | trivial | (refine ⟨?_, ?_⟩ <;> rfl) | (simp; done) | omega
                exact hret (false) _ _ _ _ dX3_tell_63 hq_40 (hP.sub [0, 1, 2] rfl) (hD.sub [0, 1, 2] (by decide) rfl) hS
      · skip
        rw [nI_eq (by omega) (by omega)] at c_27
        refine lv_iconst (pc := 24) (v := nI 1) hx hb dX3_tell_24 (by decide +kernel) ?_
        refine lv_goto (pc := 25) (tgt := 29) hx hb dX3_tell_25 (by decide) ?_
        refine lv_istore (pc := 29) (lv' := [(4, .int (nI 1)), (3, .int (nI (nta / 3))), (0, .ref (ky 0)), (1, .int r9), (2, .ref hta)]) hx hb dX3_tell_29 hl (by decide) rfl (fun ls hl => ?_)
        refine lv_iload_n (pc := 31) hx hb dX3_tell_31 rfl (lv_at hl 3 rfl) ?_
        refine lv_iconst (pc := 32) (v := nI 2) hx hb dX3_tell_32 (by decide +kernel) ?_
        refine lv_icmp_eq (pc := 33) (tgt := 41) hx hb dX3_tell_33 (by decide) (fun c_41 => ?_) (fun c_41 => ?_)
        · skip
          refine lv_iload_n (pc := 41) hx hb dX3_tell_41 rfl (lv_at hl 1 rfl) ?_
          refine lv_iconst (pc := 42) (v := nI 3) hx hb dX3_tell_42 (by decide +kernel) ?_
          refine lv_imul (pc := 43) hx hb dX3_tell_43 ?_
          refine q_top (y := nI ((nta / 3) * 3)) (pk_mul (nta / 3) 3) ?_
          refine lv_aload_n (pc := 44) hx hb dX3_tell_44 rfl (lv_at hl 4 rfl) ?_
          refine cs_V (pc := 45) (idx := 33) (n := 0) (wr := [(ky 0, oK ky ru ln)]) (As := []) (rest := [.int (nI ((nta / 3) * 3))]) (ci := 5) hx hb hml hown hts hGok hK hA hG hl.1 hP hD hS (ct_X6_size ll D ta hGok hta bta 400 gta nta  H.size) tw_393 tw_460 tw_391 tw_392 tw_66 hdX6_size rfl ⟨rfl, rfl, Nat.le_of_ble_eq_true rfl, Nat.le_of_ble_eq_true rfl, Nat.le_of_ble_eq_true rfl, Nat.le_of_ble_eq_true rfl⟩ rfl rfl (q0 := 1) rfl [1, 2] [0] rfl rfl (by decide) rfl (Nat.le_of_ble_eq_true rfl) dX3_tell_45 (fun u H locs hq hP hD hS => ?_)
          refine W.eq (g2 := F0 mm 48 ls [.int (nI nta), .int (nI ((nta / 3) * 3))]) rfl ?_
          have hP : va_P D vwCl [(ky 0, oK ky ru ln), (hta, oR bta nta), (bta, aZ ta 400 gta)] H := hP
          have hD : va_D A [(ky 0, oK ky ru ln), (hta, oR bta nta), (bta, aZ ta 400 gta)] := hD
          refine lv_icmp_ne (pc := 48) (tgt := 62) hx hb dX3_tell_48 (by decide) (fun c_42 => ?_) (fun c_42 => ?_)
          · skip
            rw [nI_eq (by omega) (by omega)] at c_42
            refine lv_iconst (pc := 62) (v := nI 0) hx hb dX3_tell_62 (by decide +kernel) ?_
            refine q_top (y := qb false) (by first | rfl | decide +kernel | (simp; done)) ?_
            have hq_43 : (false = false) := by
              first | rfl | trivial | (refine ⟨?_, ?_⟩ <;> rfl) | (simp; done) | omega
            exact hret (false) _ _ _ _ dX3_tell_63 hq_43 (hP.sub [0, 1, 2] rfl) (hD.sub [0, 1, 2] (by decide) rfl) hS
          · skip
            rw [nI_eq (by omega) (by omega)] at c_42
            refine lv_iload_n (pc := 51) hx hb dX3_tell_51 rfl (lv_at hl 1 rfl) ?_
            refine lv_bipush (pc := 52) (v := nI 16) hx hb dX3_tell_52 (by decide +kernel) ?_
            refine lv_icmp_eq (pc := 54) (tgt := 64) hx hb dX3_tell_54 (by decide) (fun c_44 => ?_) (fun c_44 => ?_)
            · skip
              rw [nI_eq (by omega) (by omega)] at c_44
              exfalso; exact keyB_no hno (by omega) (by first | (simp_all; done) | (simp_all; omega))
            · skip
              rw [nI_eq (by omega) (by omega)] at c_44
              refine lv_iload (pc := 57) hx hb dX3_tell_57 (lv_at hl 0 rfl) ?_
              refine lv_if_ne (pc := 59) (tgt := 64) hx hb dX3_tell_59 (by decide) (fun _ => ?_) (fun c_45 => absurd c_45 (by decide))
              exfalso; exact keyB_no hno (by omega) (by first | (simp_all; done) | (simp_all; omega))
        · skip
          refine lv_iload_n (pc := 36) hx hb dX3_tell_36 rfl (lv_at hl 3 rfl) ?_
          refine lv_iconst (pc := 37) (v := nI 3) hx hb dX3_tell_37 (by decide +kernel) ?_
          refine lv_icmp_ne (pc := 38) (tgt := 62) hx hb dX3_tell_38 (by decide) (fun c_46 => ?_) (fun c_46 => ?_)
          · skip
            refine lv_iconst (pc := 62) (v := nI 0) hx hb dX3_tell_62 (by decide +kernel) ?_
            refine q_top (y := qb false) (by first | rfl | decide +kernel | (simp; done)) ?_
            have hq_47 : (false = false) := by
              first | rfl | trivial | (refine ⟨?_, ?_⟩ <;> rfl) | (simp; done) | omega
            exact hret (false) _ _ _ _ dX3_tell_63 hq_47 (hP.sub [0, 1, 2] rfl) (hD.sub [0, 1, 2] (by decide) rfl) hS
          · skip
            refine lv_iload_n (pc := 41) hx hb dX3_tell_41 rfl (lv_at hl 1 rfl) ?_
            refine lv_iconst (pc := 42) (v := nI 3) hx hb dX3_tell_42 (by decide +kernel) ?_
            refine lv_imul (pc := 43) hx hb dX3_tell_43 ?_
            refine q_top (y := nI ((nta / 3) * 3)) (pk_mul (nta / 3) 3) ?_
            refine lv_aload_n (pc := 44) hx hb dX3_tell_44 rfl (lv_at hl 4 rfl) ?_
            refine cs_V (pc := 45) (idx := 33) (n := 0) (wr := [(ky 0, oK ky ru ln)]) (As := []) (rest := [.int (nI ((nta / 3) * 3))]) (ci := 5) hx hb hml hown hts hGok hK hA hG hl.1 hP hD hS (ct_X6_size ll D ta hGok hta bta 400 gta nta  H.size) tw_393 tw_460 tw_391 tw_392 tw_66 hdX6_size rfl ⟨rfl, rfl, Nat.le_of_ble_eq_true rfl, Nat.le_of_ble_eq_true rfl, Nat.le_of_ble_eq_true rfl, Nat.le_of_ble_eq_true rfl⟩ rfl rfl (q0 := 1) rfl [1, 2] [0] rfl rfl (by decide) rfl (Nat.le_of_ble_eq_true rfl) dX3_tell_45 (fun u H locs hq hP hD hS => ?_)
            refine W.eq (g2 := F0 mm 48 ls [.int (nI nta), .int (nI ((nta / 3) * 3))]) rfl ?_
            have hP : va_P D vwCl [(ky 0, oK ky ru ln), (hta, oR bta nta), (bta, aZ ta 400 gta)] H := hP
            have hD : va_D A [(ky 0, oK ky ru ln), (hta, oR bta nta), (bta, aZ ta 400 gta)] := hD
            refine lv_icmp_ne (pc := 48) (tgt := 62) hx hb dX3_tell_48 (by decide) (fun c_48 => ?_) (fun c_48 => ?_)
            · skip
              rw [nI_eq (by omega) (by omega)] at c_48
              refine lv_iconst (pc := 62) (v := nI 0) hx hb dX3_tell_62 (by decide +kernel) ?_
              refine q_top (y := qb false) (by first | rfl | decide +kernel | (simp; done)) ?_
              have hq_49 : (false = false) := by
                first | rfl | trivial | (refine ⟨?_, ?_⟩ <;> rfl) | (simp; done) | omega
              exact hret (false) _ _ _ _ dX3_tell_63 hq_49 (hP.sub [0, 1, 2] rfl) (hD.sub [0, 1, 2] (by decide) rfl) hS
            · skip
              rw [nI_eq (by omega) (by omega)] at c_48
              refine lv_iload_n (pc := 51) hx hb dX3_tell_51 rfl (lv_at hl 1 rfl) ?_
              refine lv_bipush (pc := 52) (v := nI 16) hx hb dX3_tell_52 (by decide +kernel) ?_
              refine lv_icmp_eq (pc := 54) (tgt := 64) hx hb dX3_tell_54 (by decide) (fun c_50 => ?_) (fun c_50 => ?_)
              · skip
                rw [nI_eq (by omega) (by omega)] at c_50
                exfalso; exact keyB_no hno (by omega) (by first | (simp_all; done) | (simp_all; omega))
              · skip
                rw [nI_eq (by omega) (by omega)] at c_50
                refine lv_iload (pc := 57) hx hb dX3_tell_57 (lv_at hl 0 rfl) ?_
                refine lv_if_ne (pc := 59) (tgt := 64) hx hb dX3_tell_59 (by decide) (fun _ => ?_) (fun c_51 => absurd c_51 (by decide))
                exfalso; exact keyB_no hno (by omega) (by first | (simp_all; done) | (simp_all; omega))
