theorem hdX10_putFour : yX10_putFour.cls ≠ "java/lang/invoke/MethodHandle" ∧ yX10_putFour.cls ≠ "java/lang/invoke/VarHandle" ∧ (parseMethodDescriptor yX10_putFour.desc).map (fun d => d.parameters.length) = some 1 := ⟨by decide +kernel, by decide +kernel, by decide +kernel⟩
theorem dX10_putFour_0 : decode cX10_putFour 0 = .ok (.bipush 24, 2) := by decide +kernel
theorem dX10_putFour_2 : decode cX10_putFour 2 = .ok (.istore_n 2, 1) := by decide +kernel
theorem dX10_putFour_3 : decode cX10_putFour 3 = .ok (.iload_n 2, 1) := by decide +kernel
theorem dX10_putFour_4 : decode cX10_putFour 4 = .ok (.ifCond .lt 32, 3) := by decide +kernel
theorem dX10_putFour_7 : decode cX10_putFour 7 = .ok (.aload_n 0, 1) := by decide +kernel
theorem dX10_putFour_8 : decode cX10_putFour 8 = .ok (.getfield 219, 3) := by decide +kernel
theorem dX10_putFour_11 : decode cX10_putFour 11 = .ok (.aload_n 0, 1) := by decide +kernel
theorem dX10_putFour_12 : decode cX10_putFour 12 = .ok (.getfield 298, 3) := by decide +kernel
theorem dX10_putFour_15 : decode cX10_putFour 15 = .ok (.iload_n 1, 1) := by decide +kernel
theorem dX10_putFour_16 : decode cX10_putFour 16 = .ok (.iload_n 2, 1) := by decide +kernel
theorem dX10_putFour_17 : decode cX10_putFour 17 = .ok (.ishr, 1) := by decide +kernel
theorem dX10_putFour_18 : decode cX10_putFour 18 = .ok (.i2b, 1) := by decide +kernel
theorem dX10_putFour_19 : decode cX10_putFour 19 = .ok (.bastore, 1) := by decide +kernel
theorem dX10_putFour_20 : decode cX10_putFour 20 = .ok (.aload_n 0, 1) := by decide +kernel
theorem dX10_putFour_21 : decode cX10_putFour 21 = .ok (.dup, 1) := by decide +kernel
theorem dX10_putFour_22 : decode cX10_putFour 22 = .ok (.getfield 298, 3) := by decide +kernel
theorem dX10_putFour_25 : decode cX10_putFour 25 = .ok (.iconst 1, 1) := by decide +kernel
theorem dX10_putFour_26 : decode cX10_putFour 26 = .ok (.iadd, 1) := by decide +kernel
theorem dX10_putFour_27 : decode cX10_putFour 27 = .ok (.putfield 298, 3) := by decide +kernel
theorem dX10_putFour_30 : decode cX10_putFour 30 = .ok (.iinc 2 (-8), 3) := by decide +kernel
theorem dX10_putFour_33 : decode cX10_putFour 33 = .ok (.goto (-30), 3) := by decide +kernel
theorem dX10_putFour_36 : decode cX10_putFour 36 = .ok (.return_, 1) := by decide +kernel
set_option maxHeartbeats 4000000 in
set_option maxRecDepth 100000 in
theorem ct_X10_putFour (ll : Launch) (D : va_G) (ta : Nat → ClassId) {G : (Nat → Prop) → State → Heap → Prop} (hGok : GOK G) (h0 : Nat) (a : Nat → Nat) (ar : Nat) (mn : Nat) (tp : Nat) (osz : Nat) (lsz : Nat) (ns : Nat) (ct : Nat) (gtp : Nat → BitVec 8) (v9 : Int32) (htp : tp + 4 ≤ 400) (sz : Nat) : CT ll yX10_putFour cX10_putFour 3 none ({ frames := 0, cells := 0, slots := 0, locals := 0 } : Room) D ta G [.ref h0, .int v9] [(h0, oM a ar mn tp osz lsz ns ct), (a 27, aS ta 400 gtp)] sz (S := (Nat → BitVec 8)) (fun _ => none) (fun u => (qL u (tp + 4) = qL gtp tp ++ qNum v9.toInt64 4)) (fun u => [(h0, oM a ar mn (tp + 4) osz lsz ns ct), (a 27, aS ta 400 u)]) 0 0 := by
  refine CT.of_v rfl (by decide) (Nat.le_of_ble_eq_true rfl) ?_
  intro pp ee ss mm below meth kc A Q hx hb hml hown hin hts hK hA hsz hG hret H locs hP hD hS ls hl
  have hl : lv_has ls 3 [(0, .ref h0), (1, .int v9)] := hl
  refine lv_bipush (pc := 0) (v := nI 24) hx hb dX10_putFour_0 (by decide +kernel) ?_
  refine lv_istore_n (pc := 2) (lv' := [(2, .int (nI 24)), (0, .ref h0), (1, .int v9)]) hx hb dX10_putFour_2 rfl hl (by decide) rfl (fun ls hl => ?_)
  refine lv_iload_n (pc := 3) hx hb dX10_putFour_3 rfl (lv_at hl 0 rfl) ?_
  refine lv_if_lt (pc := 4) (tgt := 36) hx hb dX10_putFour_4 (by decide) (fun c_1 => absurd c_1 (by decide)) (fun _ => ?_)
  refine lv_aload_n (pc := 7) hx hb dX10_putFour_7 rfl (lv_at hl 1 rfl) ?_
  refine va_get (pc := 8) (D := D) (ci := 8) (v := .ref (a 27)) (C := RX10) (T := TX10) (N := 57) hx hb hts iu10 hown hK hP 0 rfl rfl 27 (by decide) (hts _ tw_1072) (fun _ h9 => h9) rfl dX10_putFour_8 ?_
  refine lv_aload_n (pc := 11) hx hb dX10_putFour_11 rfl (lv_at hl 1 rfl) ?_
  refine va_get (pc := 12) (D := D) (ci := 8) (v := .int (nI tp)) (C := RX10) (T := TX10) (N := 57) hx hb hts iu10 hown hK hP 0 rfl rfl 28 (by decide) (hts _ tw_1073) (fun _ h9 => h9) rfl dX10_putFour_12 ?_
  refine lv_iload_n (pc := 15) hx hb dX10_putFour_15 rfl (lv_at hl 2 rfl) ?_
  refine lv_iload_n (pc := 16) hx hb dX10_putFour_16 rfl (lv_at hl 0 rfl) ?_
  refine lv_ishr (pc := 17) hx hb dX10_putFour_17 ?_
  refine lv_i2b (pc := 18) (v := qs (qlo (v9 >>> ((nI 24) &&& 31)))) hx hb dX10_putFour_18 (q_i2b _) ?_
  refine q_bastS (pc := 19) hx hb hK hP hD hS 1 2 rfl rfl (k := tp) rfl (by omega) (by omega) (b := qlo (v9 >>> ((nI 24) &&& 31))) (qlo_qs _) dX10_putFour_19 (fun H locs hP hD hS => ?_)
  have hP : va_P D vwCl [(h0, oM a ar mn tp osz lsz ns ct), (a 27, aS ta 400 (qU gtp tp (qlo (v9 >>> ((nI 24) &&& 31)))))] H := hP
  have hD : va_D A [(h0, oM a ar mn tp osz lsz ns ct), (a 27, aS ta 400 (qU gtp tp (qlo (v9 >>> ((nI 24) &&& 31)))))] := hD
  refine lv_aload_n (pc := 20) hx hb dX10_putFour_20 rfl (lv_at hl 1 rfl) ?_
  refine lv_dup (pc := 21) hx hb dX10_putFour_21 rfl ?_
  refine va_get (pc := 22) (D := D) (ci := 8) (v := .int (nI tp)) (C := RX10) (T := TX10) (N := 57) hx hb hts iu10 hown hK hP 0 rfl rfl 28 (by decide) (hts _ tw_1073) (fun _ h9 => h9) rfl dX10_putFour_22 ?_
  refine lv_iconst (pc := 25) (v := nI 1) hx hb dX10_putFour_25 (by decide +kernel) ?_
  refine lv_iadd (pc := 26) hx hb dX10_putFour_26 ?_
  refine q_top (y := nI (tp + 1)) (nI_add tp 1) ?_
  refine va_put (pc := 27) (D := D) (ci := 8) (v := .int (nI (tp + 1))) (ty := .int) (C := RX10) (T := TX10) (N := 57) hx hb hts iu10 tyX10 tyX10_ok nmX10 hown hK hP hD hS 0 rfl rfl 28 (by decide) (hts _ tw_1073) (fun _ h9 => h9) rfl (by decide +kernel) rfl rfl (Nat.le_of_ble_eq_true rfl) dX10_putFour_27 (fun H locs hP hD hS => ?_)
  have hP : va_P D vwCl [(h0, oM a ar mn (tp + 1) osz lsz ns ct), (a 27, aS ta 400 (qU gtp tp (qlo (v9 >>> ((nI 24) &&& 31)))))] H := hP
  have hD : va_D A [(h0, oM a ar mn (tp + 1) osz lsz ns ct), (a 27, aS ta 400 (qU gtp tp (qlo (v9 >>> ((nI 24) &&& 31)))))] := hD
  refine lv_iinc (pc := 30) (v := nI 16) (lv' := [(2, .int (nI 16)), (0, .ref h0), (1, .int v9)]) hx hb dX10_putFour_30 hl (k := 0) rfl (by decide +kernel) (by decide) rfl (fun ls hl => ?_)
  refine lv_goto (pc := 33) (tgt := 3) hx hb dX10_putFour_33 (by decide) ?_
  refine lv_iload_n (pc := 3) hx hb dX10_putFour_3 rfl (lv_at hl 0 rfl) ?_
  refine lv_if_lt (pc := 4) (tgt := 36) hx hb dX10_putFour_4 (by decide) (fun c_2 => absurd c_2 (by decide)) (fun _ => ?_)
  refine lv_aload_n (pc := 7) hx hb dX10_putFour_7 rfl (lv_at hl 1 rfl) ?_
  refine va_get (pc := 8) (D := D) (ci := 8) (v := .ref (a 27)) (C := RX10) (T := TX10) (N := 57) hx hb hts iu10 hown hK hP 0 rfl rfl 27 (by decide) (hts _ tw_1072) (fun _ h9 => h9) rfl dX10_putFour_8 ?_
  refine lv_aload_n (pc := 11) hx hb dX10_putFour_11 rfl (lv_at hl 1 rfl) ?_
  refine va_get (pc := 12) (D := D) (ci := 8) (v := .int (nI (tp + 1))) (C := RX10) (T := TX10) (N := 57) hx hb hts iu10 hown hK hP 0 rfl rfl 28 (by decide) (hts _ tw_1073) (fun _ h9 => h9) rfl dX10_putFour_12 ?_
  refine lv_iload_n (pc := 15) hx hb dX10_putFour_15 rfl (lv_at hl 2 rfl) ?_
  refine lv_iload_n (pc := 16) hx hb dX10_putFour_16 rfl (lv_at hl 0 rfl) ?_
  refine lv_ishr (pc := 17) hx hb dX10_putFour_17 ?_
  refine lv_i2b (pc := 18) (v := qs (qlo (v9 >>> ((nI 16) &&& 31)))) hx hb dX10_putFour_18 (q_i2b _) ?_
  refine q_bastS (pc := 19) hx hb hK hP hD hS 1 2 rfl rfl (k := tp + 1) rfl (by omega) (by omega) (b := qlo (v9 >>> ((nI 16) &&& 31))) (qlo_qs _) dX10_putFour_19 (fun H locs hP hD hS => ?_)
  have hP : va_P D vwCl [(h0, oM a ar mn (tp + 1) osz lsz ns ct), (a 27, aS ta 400 (qU (qU gtp tp (qlo (v9 >>> ((nI 24) &&& 31)))) (tp + 1) (qlo (v9 >>> ((nI 16) &&& 31)))))] H := hP
  have hD : va_D A [(h0, oM a ar mn (tp + 1) osz lsz ns ct), (a 27, aS ta 400 (qU (qU gtp tp (qlo (v9 >>> ((nI 24) &&& 31)))) (tp + 1) (qlo (v9 >>> ((nI 16) &&& 31)))))] := hD
  refine lv_aload_n (pc := 20) hx hb dX10_putFour_20 rfl (lv_at hl 1 rfl) ?_
  refine lv_dup (pc := 21) hx hb dX10_putFour_21 rfl ?_
  refine va_get (pc := 22) (D := D) (ci := 8) (v := .int (nI (tp + 1))) (C := RX10) (T := TX10) (N := 57) hx hb hts iu10 hown hK hP 0 rfl rfl 28 (by decide) (hts _ tw_1073) (fun _ h9 => h9) rfl dX10_putFour_22 ?_
  refine lv_iconst (pc := 25) (v := nI 1) hx hb dX10_putFour_25 (by decide +kernel) ?_
  refine lv_iadd (pc := 26) hx hb dX10_putFour_26 ?_
  refine q_top (y := nI (tp + 2)) ((nI_add (tp + 1) 1).trans (congrArg nI (by omega))) ?_
  refine va_put (pc := 27) (D := D) (ci := 8) (v := .int (nI (tp + 2))) (ty := .int) (C := RX10) (T := TX10) (N := 57) hx hb hts iu10 tyX10 tyX10_ok nmX10 hown hK hP hD hS 0 rfl rfl 28 (by decide) (hts _ tw_1073) (fun _ h9 => h9) rfl (by decide +kernel) rfl rfl (Nat.le_of_ble_eq_true rfl) dX10_putFour_27 (fun H locs hP hD hS => ?_)
  have hP : va_P D vwCl [(h0, oM a ar mn (tp + 2) osz lsz ns ct), (a 27, aS ta 400 (qU (qU gtp tp (qlo (v9 >>> ((nI 24) &&& 31)))) (tp + 1) (qlo (v9 >>> ((nI 16) &&& 31)))))] H := hP
  have hD : va_D A [(h0, oM a ar mn (tp + 2) osz lsz ns ct), (a 27, aS ta 400 (qU (qU gtp tp (qlo (v9 >>> ((nI 24) &&& 31)))) (tp + 1) (qlo (v9 >>> ((nI 16) &&& 31)))))] := hD
  refine lv_iinc (pc := 30) (v := nI 8) (lv' := [(2, .int (nI 8)), (0, .ref h0), (1, .int v9)]) hx hb dX10_putFour_30 hl (k := 0) rfl (by decide +kernel) (by decide) rfl (fun ls hl => ?_)
  refine lv_goto (pc := 33) (tgt := 3) hx hb dX10_putFour_33 (by decide) ?_
  refine lv_iload_n (pc := 3) hx hb dX10_putFour_3 rfl (lv_at hl 0 rfl) ?_
  refine lv_if_lt (pc := 4) (tgt := 36) hx hb dX10_putFour_4 (by decide) (fun c_3 => absurd c_3 (by decide)) (fun _ => ?_)
  refine lv_aload_n (pc := 7) hx hb dX10_putFour_7 rfl (lv_at hl 1 rfl) ?_
  refine va_get (pc := 8) (D := D) (ci := 8) (v := .ref (a 27)) (C := RX10) (T := TX10) (N := 57) hx hb hts iu10 hown hK hP 0 rfl rfl 27 (by decide) (hts _ tw_1072) (fun _ h9 => h9) rfl dX10_putFour_8 ?_
  refine lv_aload_n (pc := 11) hx hb dX10_putFour_11 rfl (lv_at hl 1 rfl) ?_
  refine va_get (pc := 12) (D := D) (ci := 8) (v := .int (nI (tp + 2))) (C := RX10) (T := TX10) (N := 57) hx hb hts iu10 hown hK hP 0 rfl rfl 28 (by decide) (hts _ tw_1073) (fun _ h9 => h9) rfl dX10_putFour_12 ?_
  refine lv_iload_n (pc := 15) hx hb dX10_putFour_15 rfl (lv_at hl 2 rfl) ?_
  refine lv_iload_n (pc := 16) hx hb dX10_putFour_16 rfl (lv_at hl 0 rfl) ?_
  refine lv_ishr (pc := 17) hx hb dX10_putFour_17 ?_
  refine lv_i2b (pc := 18) (v := qs (qlo (v9 >>> ((nI 8) &&& 31)))) hx hb dX10_putFour_18 (q_i2b _) ?_
  refine q_bastS (pc := 19) hx hb hK hP hD hS 1 2 rfl rfl (k := tp + 2) rfl (by omega) (by omega) (b := qlo (v9 >>> ((nI 8) &&& 31))) (qlo_qs _) dX10_putFour_19 (fun H locs hP hD hS => ?_)
  have hP : va_P D vwCl [(h0, oM a ar mn (tp + 2) osz lsz ns ct), (a 27, aS ta 400 (qU (qU (qU gtp tp (qlo (v9 >>> ((nI 24) &&& 31)))) (tp + 1) (qlo (v9 >>> ((nI 16) &&& 31)))) (tp + 2) (qlo (v9 >>> ((nI 8) &&& 31)))))] H := hP
  have hD : va_D A [(h0, oM a ar mn (tp + 2) osz lsz ns ct), (a 27, aS ta 400 (qU (qU (qU gtp tp (qlo (v9 >>> ((nI 24) &&& 31)))) (tp + 1) (qlo (v9 >>> ((nI 16) &&& 31)))) (tp + 2) (qlo (v9 >>> ((nI 8) &&& 31)))))] := hD
  refine lv_aload_n (pc := 20) hx hb dX10_putFour_20 rfl (lv_at hl 1 rfl) ?_
  refine lv_dup (pc := 21) hx hb dX10_putFour_21 rfl ?_
  refine va_get (pc := 22) (D := D) (ci := 8) (v := .int (nI (tp + 2))) (C := RX10) (T := TX10) (N := 57) hx hb hts iu10 hown hK hP 0 rfl rfl 28 (by decide) (hts _ tw_1073) (fun _ h9 => h9) rfl dX10_putFour_22 ?_
  refine lv_iconst (pc := 25) (v := nI 1) hx hb dX10_putFour_25 (by decide +kernel) ?_
  refine lv_iadd (pc := 26) hx hb dX10_putFour_26 ?_
  refine q_top (y := nI (tp + 3)) ((nI_add (tp + 2) 1).trans (congrArg nI (by omega))) ?_
  refine va_put (pc := 27) (D := D) (ci := 8) (v := .int (nI (tp + 3))) (ty := .int) (C := RX10) (T := TX10) (N := 57) hx hb hts iu10 tyX10 tyX10_ok nmX10 hown hK hP hD hS 0 rfl rfl 28 (by decide) (hts _ tw_1073) (fun _ h9 => h9) rfl (by decide +kernel) rfl rfl (Nat.le_of_ble_eq_true rfl) dX10_putFour_27 (fun H locs hP hD hS => ?_)
  have hP : va_P D vwCl [(h0, oM a ar mn (tp + 3) osz lsz ns ct), (a 27, aS ta 400 (qU (qU (qU gtp tp (qlo (v9 >>> ((nI 24) &&& 31)))) (tp + 1) (qlo (v9 >>> ((nI 16) &&& 31)))) (tp + 2) (qlo (v9 >>> ((nI 8) &&& 31)))))] H := hP
  have hD : va_D A [(h0, oM a ar mn (tp + 3) osz lsz ns ct), (a 27, aS ta 400 (qU (qU (qU gtp tp (qlo (v9 >>> ((nI 24) &&& 31)))) (tp + 1) (qlo (v9 >>> ((nI 16) &&& 31)))) (tp + 2) (qlo (v9 >>> ((nI 8) &&& 31)))))] := hD
  refine lv_iinc (pc := 30) (v := nI 0) (lv' := [(2, .int (nI 0)), (0, .ref h0), (1, .int v9)]) hx hb dX10_putFour_30 hl (k := 0) rfl (by decide +kernel) (by decide) rfl (fun ls hl => ?_)
  refine lv_goto (pc := 33) (tgt := 3) hx hb dX10_putFour_33 (by decide) ?_
  refine lv_iload_n (pc := 3) hx hb dX10_putFour_3 rfl (lv_at hl 0 rfl) ?_
  refine lv_if_lt (pc := 4) (tgt := 36) hx hb dX10_putFour_4 (by decide) (fun c_4 => absurd c_4 (by decide)) (fun _ => ?_)
  refine lv_aload_n (pc := 7) hx hb dX10_putFour_7 rfl (lv_at hl 1 rfl) ?_
  refine va_get (pc := 8) (D := D) (ci := 8) (v := .ref (a 27)) (C := RX10) (T := TX10) (N := 57) hx hb hts iu10 hown hK hP 0 rfl rfl 27 (by decide) (hts _ tw_1072) (fun _ h9 => h9) rfl dX10_putFour_8 ?_
  refine lv_aload_n (pc := 11) hx hb dX10_putFour_11 rfl (lv_at hl 1 rfl) ?_
  refine va_get (pc := 12) (D := D) (ci := 8) (v := .int (nI (tp + 3))) (C := RX10) (T := TX10) (N := 57) hx hb hts iu10 hown hK hP 0 rfl rfl 28 (by decide) (hts _ tw_1073) (fun _ h9 => h9) rfl dX10_putFour_12 ?_
  refine lv_iload_n (pc := 15) hx hb dX10_putFour_15 rfl (lv_at hl 2 rfl) ?_
  refine lv_iload_n (pc := 16) hx hb dX10_putFour_16 rfl (lv_at hl 0 rfl) ?_
  refine lv_ishr (pc := 17) hx hb dX10_putFour_17 ?_
  refine lv_i2b (pc := 18) (v := qs (qlo (v9 >>> ((nI 0) &&& 31)))) hx hb dX10_putFour_18 (q_i2b _) ?_
  refine q_bastS (pc := 19) hx hb hK hP hD hS 1 2 rfl rfl (k := tp + 3) rfl (by omega) (by omega) (b := qlo (v9 >>> ((nI 0) &&& 31))) (qlo_qs _) dX10_putFour_19 (fun H locs hP hD hS => ?_)
  have hP : va_P D vwCl [(h0, oM a ar mn (tp + 3) osz lsz ns ct), (a 27, aS ta 400 (qU (qU (qU (qU gtp tp (qlo (v9 >>> ((nI 24) &&& 31)))) (tp + 1) (qlo (v9 >>> ((nI 16) &&& 31)))) (tp + 2) (qlo (v9 >>> ((nI 8) &&& 31)))) (tp + 3) (qlo (v9 >>> ((nI 0) &&& 31)))))] H := hP
  have hD : va_D A [(h0, oM a ar mn (tp + 3) osz lsz ns ct), (a 27, aS ta 400 (qU (qU (qU (qU gtp tp (qlo (v9 >>> ((nI 24) &&& 31)))) (tp + 1) (qlo (v9 >>> ((nI 16) &&& 31)))) (tp + 2) (qlo (v9 >>> ((nI 8) &&& 31)))) (tp + 3) (qlo (v9 >>> ((nI 0) &&& 31)))))] := hD
  refine lv_aload_n (pc := 20) hx hb dX10_putFour_20 rfl (lv_at hl 1 rfl) ?_
  refine lv_dup (pc := 21) hx hb dX10_putFour_21 rfl ?_
  refine va_get (pc := 22) (D := D) (ci := 8) (v := .int (nI (tp + 3))) (C := RX10) (T := TX10) (N := 57) hx hb hts iu10 hown hK hP 0 rfl rfl 28 (by decide) (hts _ tw_1073) (fun _ h9 => h9) rfl dX10_putFour_22 ?_
  refine lv_iconst (pc := 25) (v := nI 1) hx hb dX10_putFour_25 (by decide +kernel) ?_
  refine lv_iadd (pc := 26) hx hb dX10_putFour_26 ?_
  refine q_top (y := nI (tp + 4)) ((nI_add (tp + 3) 1).trans (congrArg nI (by omega))) ?_
  refine va_put (pc := 27) (D := D) (ci := 8) (v := .int (nI (tp + 4))) (ty := .int) (C := RX10) (T := TX10) (N := 57) hx hb hts iu10 tyX10 tyX10_ok nmX10 hown hK hP hD hS 0 rfl rfl 28 (by decide) (hts _ tw_1073) (fun _ h9 => h9) rfl (by decide +kernel) rfl rfl (Nat.le_of_ble_eq_true rfl) dX10_putFour_27 (fun H locs hP hD hS => ?_)
  have hP : va_P D vwCl [(h0, oM a ar mn (tp + 4) osz lsz ns ct), (a 27, aS ta 400 (qU (qU (qU (qU gtp tp (qlo (v9 >>> ((nI 24) &&& 31)))) (tp + 1) (qlo (v9 >>> ((nI 16) &&& 31)))) (tp + 2) (qlo (v9 >>> ((nI 8) &&& 31)))) (tp + 3) (qlo (v9 >>> ((nI 0) &&& 31)))))] H := hP
  have hD : va_D A [(h0, oM a ar mn (tp + 4) osz lsz ns ct), (a 27, aS ta 400 (qU (qU (qU (qU gtp tp (qlo (v9 >>> ((nI 24) &&& 31)))) (tp + 1) (qlo (v9 >>> ((nI 16) &&& 31)))) (tp + 2) (qlo (v9 >>> ((nI 8) &&& 31)))) (tp + 3) (qlo (v9 >>> ((nI 0) &&& 31)))))] := hD
  refine lv_iinc (pc := 30) (v := -8) (lv' := [(2, .int (-8)), (0, .ref h0), (1, .int v9)]) hx hb dX10_putFour_30 hl (k := 0) rfl (by decide +kernel) (by decide) rfl (fun ls hl => ?_)
  refine lv_goto (pc := 33) (tgt := 3) hx hb dX10_putFour_33 (by decide) ?_
  refine lv_iload_n (pc := 3) hx hb dX10_putFour_3 rfl (lv_at hl 0 rfl) ?_
  refine lv_if_lt (pc := 4) (tgt := 36) hx hb dX10_putFour_4 (by decide) (fun c_5 => ?_) (fun c_5 => ?_)
  · skip
    have hq_6 : (qL (qU (qU (qU (qU gtp tp (qlo (v9 >>> ((nI 24) &&& 31)))) (tp + 1) (qlo (v9 >>> ((nI 16) &&& 31)))) (tp + 2) (qlo (v9 >>> ((nI 8) &&& 31)))) (tp + 3) (qlo (v9 >>> ((nI 0) &&& 31)))) (tp + 4) = qL gtp tp ++ qNum v9.toInt64 4) := by
      exact put4
    exact hret (qU (qU (qU (qU gtp tp (qlo (v9 >>> ((nI 24) &&& 31)))) (tp + 1) (qlo (v9 >>> ((nI 16) &&& 31)))) (tp + 2) (qlo (v9 >>> ((nI 8) &&& 31)))) (tp + 3) (qlo (v9 >>> ((nI 0) &&& 31)))) _ _ _ _ dX10_putFour_36 hq_6 (hP.sub [0, 1] rfl) (hD.sub [0, 1] (by decide) rfl) hS
  · skip
    exact absurd (by decide) c_5
theorem hdX10_feed : yX10_feed.cls ≠ "java/lang/invoke/MethodHandle" ∧ yX10_feed.cls ≠ "java/lang/invoke/VarHandle" ∧ (parseMethodDescriptor yX10_feed.desc).map (fun d => d.parameters.length) = some 5 := ⟨by decide +kernel, by decide +kernel, by decide +kernel⟩
theorem dX10_feed_0 : decode cX10_feed 0 = .ok (.aload_n 0, 1) := by decide +kernel
theorem dX10_feed_1 : decode cX10_feed 1 = .ok (.getfield 298, 3) := by decide +kernel
theorem dX10_feed_4 : decode cX10_feed 4 = .ok (.bipush 20, 2) := by decide +kernel
theorem dX10_feed_6 : decode cX10_feed 6 = .ok (.iadd, 1) := by decide +kernel
theorem dX10_feed_7 : decode cX10_feed 7 = .ok (.sipush 400, 3) := by decide +kernel
theorem dX10_feed_10 : decode cX10_feed 10 = .ok (.if_icmp .le 5, 3) := by decide +kernel
theorem dX10_feed_13 : decode cX10_feed 13 = .ok (.iconst (-1), 1) := by decide +kernel
theorem dX10_feed_14 : decode cX10_feed 14 = .ok (.ireturn, 1) := by decide +kernel
theorem dX10_feed_15 : decode cX10_feed 15 = .ok (.aload_n 0, 1) := by decide +kernel
theorem dX10_feed_16 : decode cX10_feed 16 = .ok (.iload_n 1, 1) := by decide +kernel
theorem dX10_feed_17 : decode cX10_feed 17 = .ok (.invokevirtual 301, 3) := by decide +kernel
theorem dX10_feed_20 : decode cX10_feed 20 = .ok (.aload_n 0, 1) := by decide +kernel
theorem dX10_feed_21 : decode cX10_feed 21 = .ok (.iload_n 2, 1) := by decide +kernel
theorem dX10_feed_22 : decode cX10_feed 22 = .ok (.invokevirtual 301, 3) := by decide +kernel
theorem dX10_feed_25 : decode cX10_feed 25 = .ok (.aload_n 0, 1) := by decide +kernel
theorem dX10_feed_26 : decode cX10_feed 26 = .ok (.iload_n 3, 1) := by decide +kernel
theorem dX10_feed_27 : decode cX10_feed 27 = .ok (.invokevirtual 301, 3) := by decide +kernel
theorem dX10_feed_30 : decode cX10_feed 30 = .ok (.aload_n 0, 1) := by decide +kernel
theorem dX10_feed_31 : decode cX10_feed 31 = .ok (.iload 4, 2) := by decide +kernel
theorem dX10_feed_33 : decode cX10_feed 33 = .ok (.invokevirtual 301, 3) := by decide +kernel
theorem dX10_feed_36 : decode cX10_feed 36 = .ok (.aload_n 0, 1) := by decide +kernel
theorem dX10_feed_37 : decode cX10_feed 37 = .ok (.iload 5, 2) := by decide +kernel
theorem dX10_feed_39 : decode cX10_feed 39 = .ok (.invokevirtual 301, 3) := by decide +kernel
theorem dX10_feed_42 : decode cX10_feed 42 = .ok (.aload_n 0, 1) := by decide +kernel
theorem dX10_feed_43 : decode cX10_feed 43 = .ok (.getfield 298, 3) := by decide +kernel
theorem dX10_feed_46 : decode cX10_feed 46 = .ok (.ireturn, 1) := by decide +kernel
set_option maxHeartbeats 4000000 in
set_option maxRecDepth 100000 in
theorem ct_X10_feed (ll : Launch) (D : va_G) (ta : Nat → ClassId) {G : (Nat → Prop) → State → Heap → Prop} (hGok : GOK G) (h0 : Nat) (a : Nat → Nat) (ar : Nat) (mn : Nat) (tp : Nat) (osz : Nat) (lsz : Nat) (ns : Nat) (ct : Nat) (gtp : Nat → BitVec 8) (i1 : Int32) (i2 : Int32) (i3 : Int32) (i4 : Int32) (i5 : Int32) (htp : tp ≤ 400) (sz : Nat) : CT ll yX10_feed cX10_feed 6 (some .int) ({ frames := 1, cells := 0, slots := 0, locals := 22 } : Room) D ta G [.ref h0, .int i1, .int i2, .int i3, .int i4, .int i5] [(h0, oM a ar mn tp osz lsz ns ct), (a 27, aS ta 400 gtp)] sz (S := Int32 × (Nat → BitVec 8) × Nat) (fun u => some (.int u.1)) (fun u => ((u.1 : Int32) = feedR (qL gtp tp)) ∧ (qL u.2.1 u.2.2 = feedF (qL gtp tp) i1 i2 i3 i4 i5) ∧ (u.2.2 ≤ 400)) (fun u => [(h0, oM a ar mn u.2.2 osz lsz ns ct), (a 27, aS ta 400 u.2.1)]) 0 0 := by
  refine CT.of_i (r := fun u => u.1) rfl (by decide) (Nat.le_of_ble_eq_true rfl) ?_
  intro pp ee ss mm below meth kc A Q hx hb hml hown hin hts hK hA hsz hG hret H locs hP hD hS ls hl
  have hl : lv_has ls 6 [(0, .ref h0), (1, .int i1), (2, .int i2), (3, .int i3), (4, .int i4), (5, .int i5)] := hl
  refine lv_aload_n (pc := 0) hx hb dX10_feed_0 rfl (lv_at hl 0 rfl) ?_
  refine va_get (pc := 1) (D := D) (ci := 8) (v := .int (nI tp)) (C := RX10) (T := TX10) (N := 57) hx hb hts iu10 hown hK hP 0 rfl rfl 28 (by decide) (hts _ tw_1073) (fun _ h9 => h9) rfl dX10_feed_1 ?_
  refine lv_bipush (pc := 4) (v := nI 20) hx hb dX10_feed_4 (by decide +kernel) ?_
  refine lv_iadd (pc := 6) hx hb dX10_feed_6 ?_
  refine q_top (y := nI (tp + 20)) (nI_add tp 20) ?_
  refine lv_sipush (pc := 7) (v := nI 400) hx hb dX10_feed_7 (by decide +kernel) ?_
  refine lv_icmp_le (pc := 10) (tgt := 15) hx hb dX10_feed_10 (by decide) (fun c_1 => ?_) (fun c_1 => ?_)
  · skip
    rw [nI_leI (by omega) (by omega)] at c_1
    refine lv_aload_n (pc := 15) hx hb dX10_feed_15 rfl (lv_at hl 0 rfl) ?_
    refine lv_iload_n (pc := 16) hx hb dX10_feed_16 rfl (lv_at hl 1 rfl) ?_
    refine cs_V (pc := 17) (idx := 301) (n := 1) (wr := []) (As := [.int i1]) (rest := []) (ci := 8) hx hb hml hown hts hGok hK hA hG hl.1 hP hD hS (ct_X10_putFour ll D ta hGok h0 a ar mn tp osz lsz ns ct gtp i1 (by first | assumption | omega | rfl | decide) H.size) tw_1226 tw_1223 tw_1225 tw_27 tw_75 hdX10_putFour rfl ⟨rfl, rfl, Nat.le_of_ble_eq_true rfl, Nat.le_of_ble_eq_true rfl, Nat.le_of_ble_eq_true rfl, Nat.le_of_ble_eq_true rfl⟩ rfl rfl (q0 := 0) rfl [0, 1] [] rfl rfl (by decide) rfl (Nat.le_of_ble_eq_true rfl) dX10_feed_17 (fun u H locs hq hP hD hS => ?_)
    generalize u = gtp1_17 at hq hP hD ⊢
    have hq : (qL gtp1_17 (tp + 4) = qL gtp tp ++ qNum i1.toInt64 4) := hq
    have hL_17 := hq
    refine W.eq (g2 := F0 mm 20 ls []) rfl ?_
    have hP : va_P D vwCl [(h0, oM a ar mn (tp + 4) osz lsz ns ct), (a 27, aS ta 400 gtp1_17)] H := hP
    have hD : va_D A [(h0, oM a ar mn (tp + 4) osz lsz ns ct), (a 27, aS ta 400 gtp1_17)] := hD
    refine lv_aload_n (pc := 20) hx hb dX10_feed_20 rfl (lv_at hl 0 rfl) ?_
    refine lv_iload_n (pc := 21) hx hb dX10_feed_21 rfl (lv_at hl 2 rfl) ?_
    refine cs_V (pc := 22) (idx := 301) (n := 1) (wr := []) (As := [.int i2]) (rest := []) (ci := 8) hx hb hml hown hts hGok hK hA hG hl.1 hP hD hS (ct_X10_putFour ll D ta hGok h0 a ar mn (tp + 4) osz lsz ns ct gtp1_17 i2 (by first | assumption | omega | rfl | decide) H.size) tw_1226 tw_1223 tw_1225 tw_27 tw_75 hdX10_putFour rfl ⟨rfl, rfl, Nat.le_of_ble_eq_true rfl, Nat.le_of_ble_eq_true rfl, Nat.le_of_ble_eq_true rfl, Nat.le_of_ble_eq_true rfl⟩ rfl rfl (q0 := 0) rfl [0, 1] [] rfl rfl (by decide) rfl (Nat.le_of_ble_eq_true rfl) dX10_feed_22 (fun u H locs hq hP hD hS => ?_)
    generalize u = gtp1_22 at hq hP hD ⊢
    have hq : (qL gtp1_22 ((tp + 4) + 4) = qL gtp1_17 (tp + 4) ++ qNum i2.toInt64 4) := hq
    have hL_22 := hq
    refine W.eq (g2 := F0 mm 25 ls []) rfl ?_
    have hP : va_P D vwCl [(h0, oM a ar mn ((tp + 4) + 4) osz lsz ns ct), (a 27, aS ta 400 gtp1_22)] H := hP
    have hD : va_D A [(h0, oM a ar mn ((tp + 4) + 4) osz lsz ns ct), (a 27, aS ta 400 gtp1_22)] := hD
    refine lv_aload_n (pc := 25) hx hb dX10_feed_25 rfl (lv_at hl 0 rfl) ?_
    refine lv_iload_n (pc := 26) hx hb dX10_feed_26 rfl (lv_at hl 3 rfl) ?_
    refine cs_V (pc := 27) (idx := 301) (n := 1) (wr := []) (As := [.int i3]) (rest := []) (ci := 8) hx hb hml hown hts hGok hK hA hG hl.1 hP hD hS (ct_X10_putFour ll D ta hGok h0 a ar mn ((tp + 4) + 4) osz lsz ns ct gtp1_22 i3 (by first | assumption | omega | rfl | decide) H.size) tw_1226 tw_1223 tw_1225 tw_27 tw_75 hdX10_putFour rfl ⟨rfl, rfl, Nat.le_of_ble_eq_true rfl, Nat.le_of_ble_eq_true rfl, Nat.le_of_ble_eq_true rfl, Nat.le_of_ble_eq_true rfl⟩ rfl rfl (q0 := 0) rfl [0, 1] [] rfl rfl (by decide) rfl (Nat.le_of_ble_eq_true rfl) dX10_feed_27 (fun u H locs hq hP hD hS => ?_)
    generalize u = gtp1_27 at hq hP hD ⊢
    have hq : (qL gtp1_27 (((tp + 4) + 4) + 4) = qL gtp1_22 ((tp + 4) + 4) ++ qNum i3.toInt64 4) := hq
    have hL_27 := hq
    refine W.eq (g2 := F0 mm 30 ls []) rfl ?_
    have hP : va_P D vwCl [(h0, oM a ar mn (((tp + 4) + 4) + 4) osz lsz ns ct), (a 27, aS ta 400 gtp1_27)] H := hP
    have hD : va_D A [(h0, oM a ar mn (((tp + 4) + 4) + 4) osz lsz ns ct), (a 27, aS ta 400 gtp1_27)] := hD
    refine lv_aload_n (pc := 30) hx hb dX10_feed_30 rfl (lv_at hl 0 rfl) ?_
    refine lv_iload (pc := 31) hx hb dX10_feed_31 (lv_at hl 4 rfl) ?_
    refine cs_V (pc := 33) (idx := 301) (n := 1) (wr := []) (As := [.int i4]) (rest := []) (ci := 8) hx hb hml hown hts hGok hK hA hG hl.1 hP hD hS (ct_X10_putFour ll D ta hGok h0 a ar mn (((tp + 4) + 4) + 4) osz lsz ns ct gtp1_27 i4 (by first | assumption | omega | rfl | decide) H.size) tw_1226 tw_1223 tw_1225 tw_27 tw_75 hdX10_putFour rfl ⟨rfl, rfl, Nat.le_of_ble_eq_true rfl, Nat.le_of_ble_eq_true rfl, Nat.le_of_ble_eq_true rfl, Nat.le_of_ble_eq_true rfl⟩ rfl rfl (q0 := 0) rfl [0, 1] [] rfl rfl (by decide) rfl (Nat.le_of_ble_eq_true rfl) dX10_feed_33 (fun u H locs hq hP hD hS => ?_)
    generalize u = gtp1_33 at hq hP hD ⊢
    have hq : (qL gtp1_33 ((((tp + 4) + 4) + 4) + 4) = qL gtp1_27 (((tp + 4) + 4) + 4) ++ qNum i4.toInt64 4) := hq
    have hL_33 := hq
    refine W.eq (g2 := F0 mm 36 ls []) rfl ?_
    have hP : va_P D vwCl [(h0, oM a ar mn ((((tp + 4) + 4) + 4) + 4) osz lsz ns ct), (a 27, aS ta 400 gtp1_33)] H := hP
    have hD : va_D A [(h0, oM a ar mn ((((tp + 4) + 4) + 4) + 4) osz lsz ns ct), (a 27, aS ta 400 gtp1_33)] := hD
    refine lv_aload_n (pc := 36) hx hb dX10_feed_36 rfl (lv_at hl 0 rfl) ?_
    refine lv_iload (pc := 37) hx hb dX10_feed_37 (lv_at hl 5 rfl) ?_
    refine cs_V (pc := 39) (idx := 301) (n := 1) (wr := []) (As := [.int i5]) (rest := []) (ci := 8) hx hb hml hown hts hGok hK hA hG hl.1 hP hD hS (ct_X10_putFour ll D ta hGok h0 a ar mn ((((tp + 4) + 4) + 4) + 4) osz lsz ns ct gtp1_33 i5 (by first | assumption | omega | rfl | decide) H.size) tw_1226 tw_1223 tw_1225 tw_27 tw_75 hdX10_putFour rfl ⟨rfl, rfl, Nat.le_of_ble_eq_true rfl, Nat.le_of_ble_eq_true rfl, Nat.le_of_ble_eq_true rfl, Nat.le_of_ble_eq_true rfl⟩ rfl rfl (q0 := 0) rfl [0, 1] [] rfl rfl (by decide) rfl (Nat.le_of_ble_eq_true rfl) dX10_feed_39 (fun u H locs hq hP hD hS => ?_)
    generalize u = gtp1_39 at hq hP hD ⊢
    have hq : (qL gtp1_39 (((((tp + 4) + 4) + 4) + 4) + 4) = qL gtp1_33 ((((tp + 4) + 4) + 4) + 4) ++ qNum i5.toInt64 4) := hq
    have hL_39 := hq
    refine W.eq (g2 := F0 mm 42 ls []) rfl ?_
    have hP : va_P D vwCl [(h0, oM a ar mn (((((tp + 4) + 4) + 4) + 4) + 4) osz lsz ns ct), (a 27, aS ta 400 gtp1_39)] H := hP
    have hD : va_D A [(h0, oM a ar mn (((((tp + 4) + 4) + 4) + 4) + 4) osz lsz ns ct), (a 27, aS ta 400 gtp1_39)] := hD
    refine lv_aload_n (pc := 42) hx hb dX10_feed_42 rfl (lv_at hl 0 rfl) ?_
    refine va_get (pc := 43) (D := D) (ci := 8) (v := .int (nI (((((tp + 4) + 4) + 4) + 4) + 4))) (C := RX10) (T := TX10) (N := 57) hx hb hts iu10 hown hK hP 0 rfl rfl 28 (by decide) (hts _ tw_1073) (fun _ h9 => h9) rfl dX10_feed_43 ?_
    refine q_top (y := (nI (((((tp + 4) + 4) + 4) + 4) + 4))) (by first | rfl | decide +kernel | (simp; done)) ?_
    have hq_2 : (((nI (((((tp + 4) + 4) + 4) + 4) + 4)) : Int32) = feedR (qL gtp tp)) ∧ (qL gtp1_39 (((((tp + 4) + 4) + 4) + 4) + 4) = feedF (qL gtp tp) i1 i2 i3 i4 i5) ∧ ((((((tp + 4) + 4) + 4) + 4) + 4) ≤ 400) := by
      refine ⟨?_, ?_, by omega⟩
      · rw [feedR, qL_len, if_pos (by omega)]
      · rw [feedF, qL_len, if_pos (by omega), hL_39, hL_33, hL_27, hL_22, hL_17]
        simp only [List.append_assoc]
    exact hret (⟨(nI (((((tp + 4) + 4) + 4) + 4) + 4)), (gtp1_39), (((((tp + 4) + 4) + 4) + 4) + 4)⟩ : Int32 × (Nat → BitVec 8) × Nat) _ _ _ _ dX10_feed_46 hq_2 (hP.sub [0, 1] rfl) (hD.sub [0, 1] (by decide) rfl) hS
  · skip
    rw [nI_leI (by omega) (by omega)] at c_1
    refine lv_iconst (pc := 13) (v := (-1)) hx hb dX10_feed_13 (by decide +kernel) ?_
    refine q_top (y := (-1)) (by first | rfl | decide +kernel | (simp; done)) ?_
    have hq_3 : (((-1) : Int32) = feedR (qL gtp tp)) ∧ (qL gtp tp = feedF (qL gtp tp) i1 i2 i3 i4 i5) ∧ (tp ≤ 400) := by
      refine ⟨?_, ?_, htp⟩
      · rw [feedR, qL_len, if_neg (by omega)]
      · rw [feedF, qL_len, if_neg (by omega)]
    exact hret (⟨(-1), (gtp), (tp)⟩ : Int32 × (Nat → BitVec 8) × Nat) _ _ _ _ dX10_feed_14 hq_3 (hP.sub [0, 1] rfl) (hD.sub [0, 1] (by decide) rfl) hS
theorem hdX10_end : yX10_end.cls ≠ "java/lang/invoke/MethodHandle" ∧ yX10_end.cls ≠ "java/lang/invoke/VarHandle" ∧ (parseMethodDescriptor yX10_end.desc).map (fun d => d.parameters.length) = some 1 := ⟨by decide +kernel, by decide +kernel, by decide +kernel⟩
theorem dX10_end_0 : decode cX10_end 0 = .ok (.iload_n 1, 1) := by decide +kernel
theorem dX10_end_1 : decode cX10_end 1 = .ok (.ifCond .lt 11, 3) := by decide +kernel
theorem dX10_end_4 : decode cX10_end 4 = .ok (.iload_n 1, 1) := by decide +kernel
theorem dX10_end_5 : decode cX10_end 5 = .ok (.aload_n 0, 1) := by decide +kernel
theorem dX10_end_6 : decode cX10_end 6 = .ok (.getfield 298, 3) := by decide +kernel
theorem dX10_end_9 : decode cX10_end 9 = .ok (.if_icmp .le 5, 3) := by decide +kernel
theorem dX10_end_12 : decode cX10_end 12 = .ok (.iconst (-1), 1) := by decide +kernel
theorem dX10_end_13 : decode cX10_end 13 = .ok (.ireturn, 1) := by decide +kernel
theorem dX10_end_14 : decode cX10_end 14 = .ok (.aload_n 0, 1) := by decide +kernel
theorem dX10_end_15 : decode cX10_end 15 = .ok (.iload_n 1, 1) := by decide +kernel
theorem dX10_end_16 : decode cX10_end 16 = .ok (.putfield 298, 3) := by decide +kernel
theorem dX10_end_19 : decode cX10_end 19 = .ok (.iload_n 1, 1) := by decide +kernel
theorem dX10_end_20 : decode cX10_end 20 = .ok (.ireturn, 1) := by decide +kernel
set_option maxHeartbeats 4000000 in
set_option maxRecDepth 100000 in
theorem ct_X10_end (ll : Launch) (D : va_G) (ta : Nat → ClassId) {G : (Nat → Prop) → State → Heap → Prop} (hGok : GOK G) (h0 : Nat) (a : Nat → Nat) (ar : Nat) (mn : Nat) (tp : Nat) (osz : Nat) (lsz : Nat) (ns : Nat) (ct : Nat) (gtp : Nat → BitVec 8) (i : Int32) (hsz : tp ≤ 400) (sz : Nat) : CT ll yX10_end cX10_end 2 (some .int) ({ frames := 0, cells := 0, slots := 0, locals := 0 } : Room) D ta G [.ref h0, .int i] [(h0, oM a ar mn tp osz lsz ns ct), (a 27, aS ta 400 gtp)] sz (S := Int32 × Nat) (fun u => some (.int u.1)) (fun u => ((u.1 : Int32) = cutR (qL gtp tp) i) ∧ (qL gtp u.2 = cutF (qL gtp tp) i) ∧ (u.2 ≤ tp)) (fun u => [(h0, oM a ar mn u.2 osz lsz ns ct), (a 27, aS ta 400 gtp)]) 0 0 := by
  refine CT.of_i (r := fun u => u.1) rfl (by decide) (Nat.le_of_ble_eq_true rfl) ?_
  intro pp ee ss mm below meth kc A Q hx hb hml hown hin hts hK hA hsz hG hret H locs hP hD hS ls hl
  have hl : lv_has ls 2 [(0, .ref h0), (1, .int i)] := hl
  refine lv_iload_n (pc := 0) hx hb dX10_end_0 rfl (lv_at hl 1 rfl) ?_
  refine lv_if_lt (pc := 1) (tgt := 12) hx hb dX10_end_1 (by decide) (fun c_1 => ?_) (fun c_1 => ?_)
  · skip
    have hq := cut_lt (L := qL gtp tp) c_1
    refine lv_iconst (pc := 12) (v := (-1)) hx hb dX10_end_12 (by decide +kernel) ?_
    refine q_top (y := (-1)) (by first | rfl | decide +kernel | (simp; done)) ?_
    have hq_2 : (((-1) : Int32) = cutR (qL gtp tp) i) ∧ (qL gtp tp = cutF (qL gtp tp) i) ∧ (tp ≤ tp) := by
      exact ⟨hq.1.symm, hq.2.symm, Nat.le_refl _⟩
    exact hret (⟨(-1), (tp)⟩ : Int32 × Nat) _ _ _ _ dX10_end_13 hq_2 (hP.sub [0, 1] rfl) (hD.sub [0, 1] (by decide) rfl) hS
  · skip
    have hi0 := c_1
    refine lv_iload_n (pc := 4) hx hb dX10_end_4 rfl (lv_at hl 1 rfl) ?_
    refine lv_aload_n (pc := 5) hx hb dX10_end_5 rfl (lv_at hl 0 rfl) ?_
    refine va_get (pc := 6) (D := D) (ci := 8) (v := .int (nI tp)) (C := RX10) (T := TX10) (N := 57) hx hb hts iu10 hown hK hP 0 rfl rfl 28 (by decide) (hts _ tw_1073) (fun _ h9 => h9) rfl dX10_end_6 ?_
    refine lv_icmp_le (pc := 9) (tgt := 14) hx hb dX10_end_9 (by decide) (fun c_3 => ?_) (fun c_3 => ?_)
    · skip
      obtain ⟨j, hj, rfl⟩ := nI_of2 (M := nI tp) (n := tp) (nI_toInt (by omega)) hi0 c_3
      have hq := cut_in (g := gtp) (n := tp) (j := j) (by omega) (by omega)
      refine lv_aload_n (pc := 14) hx hb dX10_end_14 rfl (lv_at hl 0 rfl) ?_
      refine lv_iload_n (pc := 15) hx hb dX10_end_15 rfl (lv_at hl 1 rfl) ?_
      refine va_put (pc := 16) (D := D) (ci := 8) (v := .int (nI j)) (ty := .int) (C := RX10) (T := TX10) (N := 57) hx hb hts iu10 tyX10 tyX10_ok nmX10 hown hK hP hD hS 0 rfl rfl 28 (by decide) (hts _ tw_1073) (fun _ h9 => h9) rfl (by decide +kernel) rfl rfl (Nat.le_of_ble_eq_true rfl) dX10_end_16 (fun H locs hP hD hS => ?_)
      have hP : va_P D vwCl [(h0, oM a ar mn j osz lsz ns ct), (a 27, aS ta 400 gtp)] H := hP
      have hD : va_D A [(h0, oM a ar mn j osz lsz ns ct), (a 27, aS ta 400 gtp)] := hD
      refine lv_iload_n (pc := 19) hx hb dX10_end_19 rfl (lv_at hl 1 rfl) ?_
      refine q_top (y := (nI j)) (by first | rfl | decide +kernel | (simp; done)) ?_
      have hq_4 : (((nI j) : Int32) = cutR (qL gtp tp) (nI j)) ∧ (qL gtp j = cutF (qL gtp tp) (nI j)) ∧ (j ≤ tp) := by
        exact ⟨hq.1.symm, hq.2.symm, by omega⟩
      exact hret (⟨(nI j), (j)⟩ : Int32 × Nat) _ _ _ _ dX10_end_20 hq_4 (hP.sub [0, 1] rfl) (hD.sub [0, 1] (by decide) rfl) hS
    · skip
      have hq := cut_gt (g := gtp) (n := tp) (by omega) c_3
      refine lv_iconst (pc := 12) (v := (-1)) hx hb dX10_end_12 (by decide +kernel) ?_
      refine q_top (y := (-1)) (by first | rfl | decide +kernel | (simp; done)) ?_
      have hq_5 : (((-1) : Int32) = cutR (qL gtp tp) i) ∧ (qL gtp tp = cutF (qL gtp tp) i) ∧ (tp ≤ tp) := by
        exact ⟨hq.1.symm, hq.2.symm, Nat.le_refl _⟩
      exact hret (⟨(-1), (tp)⟩ : Int32 × Nat) _ _ _ _ dX10_end_13 hq_5 (hP.sub [0, 1] rfl) (hD.sub [0, 1] (by decide) rfl) hS
theorem hdX10_cut : yX10_cut.cls ≠ "java/lang/invoke/MethodHandle" ∧ yX10_cut.cls ≠ "java/lang/invoke/VarHandle" ∧ (parseMethodDescriptor yX10_cut.desc).map (fun d => d.parameters.length) = some 1 := ⟨by decide +kernel, by decide +kernel, by decide +kernel⟩
theorem dX10_cut_0 : decode cX10_cut 0 = .ok (.iload_n 1, 1) := by decide +kernel
theorem dX10_cut_1 : decode cX10_cut 1 = .ok (.ifCond .lt 11, 3) := by decide +kernel
theorem dX10_cut_4 : decode cX10_cut 4 = .ok (.iload_n 1, 1) := by decide +kernel
theorem dX10_cut_5 : decode cX10_cut 5 = .ok (.aload_n 0, 1) := by decide +kernel
theorem dX10_cut_6 : decode cX10_cut 6 = .ok (.getfield 307, 3) := by decide +kernel
theorem dX10_cut_9 : decode cX10_cut 9 = .ok (.if_icmp .le 5, 3) := by decide +kernel
theorem dX10_cut_12 : decode cX10_cut 12 = .ok (.iconst (-1), 1) := by decide +kernel
theorem dX10_cut_13 : decode cX10_cut 13 = .ok (.ireturn, 1) := by decide +kernel
theorem dX10_cut_14 : decode cX10_cut 14 = .ok (.aload_n 0, 1) := by decide +kernel
theorem dX10_cut_15 : decode cX10_cut 15 = .ok (.iload_n 1, 1) := by decide +kernel
theorem dX10_cut_16 : decode cX10_cut 16 = .ok (.putfield 307, 3) := by decide +kernel
theorem dX10_cut_19 : decode cX10_cut 19 = .ok (.iload_n 1, 1) := by decide +kernel
theorem dX10_cut_20 : decode cX10_cut 20 = .ok (.ireturn, 1) := by decide +kernel
set_option maxHeartbeats 4000000 in
set_option maxRecDepth 100000 in
theorem ct_X10_cut (ll : Launch) (D : va_G) (ta : Nat → ClassId) {G : (Nat → Prop) → State → Heap → Prop} (hGok : GOK G) (h0 : Nat) (a : Nat → Nat) (ar : Nat) (mn : Nat) (tp : Nat) (osz : Nat) (lsz : Nat) (ns : Nat) (ct : Nat) (gli : Nat → BitVec 8) (i : Int32) (hsz : lsz ≤ 300) (sz : Nat) : CT ll yX10_cut cX10_cut 2 (some .int) ({ frames := 0, cells := 0, slots := 0, locals := 0 } : Room) D ta G [.ref h0, .int i] [(h0, oM a ar mn tp osz lsz ns ct), (a 31, aS ta 300 gli)] sz (S := Int32 × Nat) (fun u => some (.int u.1)) (fun u => ((u.1 : Int32) = cutR (qL gli lsz) i) ∧ (qL gli u.2 = cutF (qL gli lsz) i) ∧ (u.2 ≤ lsz)) (fun u => [(h0, oM a ar mn tp osz u.2 ns ct), (a 31, aS ta 300 gli)]) 0 0 := by
  refine CT.of_i (r := fun u => u.1) rfl (by decide) (Nat.le_of_ble_eq_true rfl) ?_
  intro pp ee ss mm below meth kc A Q hx hb hml hown hin hts hK hA hsz hG hret H locs hP hD hS ls hl
  have hl : lv_has ls 2 [(0, .ref h0), (1, .int i)] := hl
  refine lv_iload_n (pc := 0) hx hb dX10_cut_0 rfl (lv_at hl 1 rfl) ?_
  refine lv_if_lt (pc := 1) (tgt := 12) hx hb dX10_cut_1 (by decide) (fun c_1 => ?_) (fun c_1 => ?_)
  · skip
    have hq := cut_lt (L := qL gli lsz) c_1
    refine lv_iconst (pc := 12) (v := (-1)) hx hb dX10_cut_12 (by decide +kernel) ?_
    refine q_top (y := (-1)) (by first | rfl | decide +kernel | (simp; done)) ?_
    have hq_2 : (((-1) : Int32) = cutR (qL gli lsz) i) ∧ (qL gli lsz = cutF (qL gli lsz) i) ∧ (lsz ≤ lsz) := by
      exact ⟨hq.1.symm, hq.2.symm, Nat.le_refl _⟩
    exact hret (⟨(-1), (lsz)⟩ : Int32 × Nat) _ _ _ _ dX10_cut_13 hq_2 (hP.sub [0, 1] rfl) (hD.sub [0, 1] (by decide) rfl) hS
  · skip
    have hi0 := c_1
    refine lv_iload_n (pc := 4) hx hb dX10_cut_4 rfl (lv_at hl 1 rfl) ?_
    refine lv_aload_n (pc := 5) hx hb dX10_cut_5 rfl (lv_at hl 0 rfl) ?_
    refine va_get (pc := 6) (D := D) (ci := 8) (v := .int (nI lsz)) (C := RX10) (T := TX10) (N := 57) hx hb hts iu10 hown hK hP 0 rfl rfl 32 (by decide) (hts _ tw_1077) (fun _ h9 => h9) rfl dX10_cut_6 ?_
    refine lv_icmp_le (pc := 9) (tgt := 14) hx hb dX10_cut_9 (by decide) (fun c_3 => ?_) (fun c_3 => ?_)
    · skip
      obtain ⟨j, hj, rfl⟩ := nI_of2 (M := nI lsz) (n := lsz) (nI_toInt (by omega)) hi0 c_3
      have hq := cut_in (g := gli) (n := lsz) (j := j) (by omega) (by omega)
      refine lv_aload_n (pc := 14) hx hb dX10_cut_14 rfl (lv_at hl 0 rfl) ?_
      refine lv_iload_n (pc := 15) hx hb dX10_cut_15 rfl (lv_at hl 1 rfl) ?_
      refine va_put (pc := 16) (D := D) (ci := 8) (v := .int (nI j)) (ty := .int) (C := RX10) (T := TX10) (N := 57) hx hb hts iu10 tyX10 tyX10_ok nmX10 hown hK hP hD hS 0 rfl rfl 32 (by decide) (hts _ tw_1077) (fun _ h9 => h9) rfl (by decide +kernel) rfl rfl (Nat.le_of_ble_eq_true rfl) dX10_cut_16 (fun H locs hP hD hS => ?_)
      have hP : va_P D vwCl [(h0, oM a ar mn tp osz j ns ct), (a 31, aS ta 300 gli)] H := hP
      have hD : va_D A [(h0, oM a ar mn tp osz j ns ct), (a 31, aS ta 300 gli)] := hD
      refine lv_iload_n (pc := 19) hx hb dX10_cut_19 rfl (lv_at hl 1 rfl) ?_
      refine q_top (y := (nI j)) (by first | rfl | decide +kernel | (simp; done)) ?_
      have hq_4 : (((nI j) : Int32) = cutR (qL gli lsz) (nI j)) ∧ (qL gli j = cutF (qL gli lsz) (nI j)) ∧ (j ≤ lsz) := by
        exact ⟨hq.1.symm, hq.2.symm, by omega⟩
      exact hret (⟨(nI j), (j)⟩ : Int32 × Nat) _ _ _ _ dX10_cut_20 hq_4 (hP.sub [0, 1] rfl) (hD.sub [0, 1] (by decide) rfl) hS
    · skip
      have hq := cut_gt (g := gli) (n := lsz) (by omega) c_3
      refine lv_iconst (pc := 12) (v := (-1)) hx hb dX10_cut_12 (by decide +kernel) ?_
      refine q_top (y := (-1)) (by first | rfl | decide +kernel | (simp; done)) ?_
      have hq_5 : (((-1) : Int32) = cutR (qL gli lsz) i) ∧ (qL gli lsz = cutF (qL gli lsz) i) ∧ (lsz ≤ lsz) := by
        exact ⟨hq.1.symm, hq.2.symm, Nat.le_refl _⟩
      exact hret (⟨(-1), (lsz)⟩ : Int32 × Nat) _ _ _ _ dX10_cut_13 hq_5 (hP.sub [0, 1] rfl) (hD.sub [0, 1] (by decide) rfl) hS
theorem hdX10_out : yX10_out.cls ≠ "java/lang/invoke/MethodHandle" ∧ yX10_out.cls ≠ "java/lang/invoke/VarHandle" ∧ (parseMethodDescriptor yX10_out.desc).map (fun d => d.parameters.length) = some 1 := ⟨by decide +kernel, by decide +kernel, by decide +kernel⟩
theorem dX10_out_0 : decode cX10_out 0 = .ok (.iload_n 1, 1) := by decide +kernel
theorem dX10_out_1 : decode cX10_out 1 = .ok (.ifCond .lt 11, 3) := by decide +kernel
theorem dX10_out_4 : decode cX10_out 4 = .ok (.iload_n 1, 1) := by decide +kernel
theorem dX10_out_5 : decode cX10_out 5 = .ok (.aload_n 0, 1) := by decide +kernel
theorem dX10_out_6 : decode cX10_out 6 = .ok (.getfield 304, 3) := by decide +kernel
theorem dX10_out_9 : decode cX10_out 9 = .ok (.if_icmp .lt 7, 3) := by decide +kernel
theorem dX10_out_12 : decode cX10_out 12 = .ok (.iconst (-1), 1) := by decide +kernel
theorem dX10_out_13 : decode cX10_out 13 = .ok (.goto 13, 3) := by decide +kernel
theorem dX10_out_16 : decode cX10_out 16 = .ok (.aload_n 0, 1) := by decide +kernel
theorem dX10_out_17 : decode cX10_out 17 = .ok (.getfield 222, 3) := by decide +kernel
theorem dX10_out_20 : decode cX10_out 20 = .ok (.iload_n 1, 1) := by decide +kernel
theorem dX10_out_21 : decode cX10_out 21 = .ok (.baload, 1) := by decide +kernel
theorem dX10_out_22 : decode cX10_out 22 = .ok (.sipush 255, 3) := by decide +kernel
theorem dX10_out_25 : decode cX10_out 25 = .ok (.iand, 1) := by decide +kernel
theorem dX10_out_26 : decode cX10_out 26 = .ok (.ireturn, 1) := by decide +kernel
set_option maxHeartbeats 4000000 in
set_option maxRecDepth 100000 in
theorem ct_X10_out (ll : Launch) (D : va_G) (ta : Nat → ClassId) {G : (Nat → Prop) → State → Heap → Prop} (hGok : GOK G) (h0 : Nat) (a : Nat → Nat) (ar : Nat) (mn : Nat) (tp : Nat) (osz : Nat) (lsz : Nat) (ns : Nat) (ct : Nat) (gou : Nat → BitVec 8) (i : Int32) (hsz : osz ≤ 416) (sz : Nat) : CT ll yX10_out cX10_out 2 (some .int) ({ frames := 0, cells := 0, slots := 0, locals := 0 } : Room) D ta G [.ref h0, .int i] [(h0, oM a ar mn tp osz lsz ns ct), (a 29, aS ta 416 gou)] sz (S := Int32) (fun u => some (.int u)) (fun u => ((u : Int32) = atL (qL gou osz) i)) (fun u => [(h0, oM a ar mn tp osz lsz ns ct), (a 29, aS ta 416 gou)]) 0 0 := by
  refine CT.of_i (r := fun u => u) rfl (by decide) (Nat.le_of_ble_eq_true rfl) ?_
  intro pp ee ss mm below meth kc A Q hx hb hml hown hin hts hK hA hsz hG hret H locs hP hD hS ls hl
  have hl : lv_has ls 2 [(0, .ref h0), (1, .int i)] := hl
  refine lv_iload_n (pc := 0) hx hb dX10_out_0 rfl (lv_at hl 1 rfl) ?_
  refine lv_if_lt (pc := 1) (tgt := 12) hx hb dX10_out_1 (by decide) (fun c_1 => ?_) (fun c_1 => ?_)
  · skip
    have hq := at_lt (g := gou) (n := osz) c_1
    refine lv_iconst (pc := 12) (v := (-1)) hx hb dX10_out_12 (by decide +kernel) ?_
    refine lv_goto (pc := 13) (tgt := 26) hx hb dX10_out_13 (by decide) ?_
    refine q_top (y := (-1)) (by first | rfl | decide +kernel | (simp; done)) ?_
    have hq_2 : (((-1) : Int32) = atL (qL gou osz) i) := by
      exact hq.symm
    exact hret (-1) _ _ _ _ dX10_out_26 hq_2 (hP.sub [0, 1] rfl) (hD.sub [0, 1] (by decide) rfl) hS
  · skip
    have hi0 := c_1
    refine lv_iload_n (pc := 4) hx hb dX10_out_4 rfl (lv_at hl 1 rfl) ?_
    refine lv_aload_n (pc := 5) hx hb dX10_out_5 rfl (lv_at hl 0 rfl) ?_
    refine va_get (pc := 6) (D := D) (ci := 8) (v := .int (nI osz)) (C := RX10) (T := TX10) (N := 57) hx hb hts iu10 hown hK hP 0 rfl rfl 30 (by decide) (hts _ tw_1075) (fun _ h9 => h9) rfl dX10_out_6 ?_
    refine lv_icmp_lt (pc := 9) (tgt := 16) hx hb dX10_out_9 (by decide) (fun c_3 => ?_) (fun c_3 => ?_)
    · skip
      obtain ⟨j, hj, rfl⟩ := q_ix hi0 (Int32.not_le.mpr c_3) (by omega)
      have hq := at_in (g := gou) (n := osz) hj (by omega)
      refine lv_aload_n (pc := 16) hx hb dX10_out_16 rfl (lv_at hl 0 rfl) ?_
      refine va_get (pc := 17) (D := D) (ci := 8) (v := .ref (a 29)) (C := RX10) (T := TX10) (N := 57) hx hb hts iu10 hown hK hP 0 rfl rfl 29 (by decide) (hts _ tw_1074) (fun _ h9 => h9) rfl dX10_out_17 ?_
      refine lv_iload_n (pc := 20) hx hb dX10_out_20 rfl (lv_at hl 1 rfl) ?_
      refine q_bald (pc := 21) hx hb hK hP 1 2 rfl rfl (k := j) (v := qs (gou j)) rfl (by omega) (by omega) rfl dX10_out_21 ?_
      refine lv_sipush (pc := 22) (v := nI 255) hx hb dX10_out_22 (by decide +kernel) ?_
      refine lv_iand (pc := 25) hx hb dX10_out_25 ?_
      refine q_top (y := qz (gou j)) ((q_m255 _).trans (congrArg qz (qlo_qs _))) ?_
      refine q_top (y := (qz (gou j))) (by first | rfl | decide +kernel | (simp; done)) ?_
      have hq_4 : (((qz (gou j)) : Int32) = atL (qL gou osz) (nI j)) := by
        exact hq.symm
      exact hret (qz (gou j)) _ _ _ _ dX10_out_26 hq_4 (hP.sub [0, 1] rfl) (hD.sub [0, 1] (by decide) rfl) hS
    · skip
      have hq := at_gt (g := gou) (n := osz) (by omega) (Int32.not_lt.mp c_3)
      refine lv_iconst (pc := 12) (v := (-1)) hx hb dX10_out_12 (by decide +kernel) ?_
      refine lv_goto (pc := 13) (tgt := 26) hx hb dX10_out_13 (by decide) ?_
      refine q_top (y := (-1)) (by first | rfl | decide +kernel | (simp; done)) ?_
      have hq_5 : (((-1) : Int32) = atL (qL gou osz) i) := by
        exact hq.symm
      exact hret (-1) _ _ _ _ dX10_out_26 hq_5 (hP.sub [0, 1] rfl) (hD.sub [0, 1] (by decide) rfl) hS
theorem hdX10_line : yX10_line.cls ≠ "java/lang/invoke/MethodHandle" ∧ yX10_line.cls ≠ "java/lang/invoke/VarHandle" ∧ (parseMethodDescriptor yX10_line.desc).map (fun d => d.parameters.length) = some 1 := ⟨by decide +kernel, by decide +kernel, by decide +kernel⟩
theorem dX10_line_0 : decode cX10_line 0 = .ok (.iload_n 1, 1) := by decide +kernel
theorem dX10_line_1 : decode cX10_line 1 = .ok (.ifCond .lt 11, 3) := by decide +kernel
theorem dX10_line_4 : decode cX10_line 4 = .ok (.iload_n 1, 1) := by decide +kernel
theorem dX10_line_5 : decode cX10_line 5 = .ok (.aload_n 0, 1) := by decide +kernel
theorem dX10_line_6 : decode cX10_line 6 = .ok (.getfield 307, 3) := by decide +kernel
theorem dX10_line_9 : decode cX10_line 9 = .ok (.if_icmp .lt 7, 3) := by decide +kernel
theorem dX10_line_12 : decode cX10_line 12 = .ok (.iconst (-1), 1) := by decide +kernel
theorem dX10_line_13 : decode cX10_line 13 = .ok (.goto 13, 3) := by decide +kernel
theorem dX10_line_16 : decode cX10_line 16 = .ok (.aload_n 0, 1) := by decide +kernel
theorem dX10_line_17 : decode cX10_line 17 = .ok (.getfield 225, 3) := by decide +kernel
theorem dX10_line_20 : decode cX10_line 20 = .ok (.iload_n 1, 1) := by decide +kernel
theorem dX10_line_21 : decode cX10_line 21 = .ok (.baload, 1) := by decide +kernel
theorem dX10_line_22 : decode cX10_line 22 = .ok (.sipush 255, 3) := by decide +kernel
theorem dX10_line_25 : decode cX10_line 25 = .ok (.iand, 1) := by decide +kernel
theorem dX10_line_26 : decode cX10_line 26 = .ok (.ireturn, 1) := by decide +kernel
set_option maxHeartbeats 4000000 in
set_option maxRecDepth 100000 in
theorem ct_X10_line (ll : Launch) (D : va_G) (ta : Nat → ClassId) {G : (Nat → Prop) → State → Heap → Prop} (hGok : GOK G) (h0 : Nat) (a : Nat → Nat) (ar : Nat) (mn : Nat) (tp : Nat) (osz : Nat) (lsz : Nat) (ns : Nat) (ct : Nat) (gli : Nat → BitVec 8) (i : Int32) (hsz : lsz ≤ 300) (sz : Nat) : CT ll yX10_line cX10_line 2 (some .int) ({ frames := 0, cells := 0, slots := 0, locals := 0 } : Room) D ta G [.ref h0, .int i] [(h0, oM a ar mn tp osz lsz ns ct), (a 31, aS ta 300 gli)] sz (S := Int32) (fun u => some (.int u)) (fun u => ((u : Int32) = atL (qL gli lsz) i)) (fun u => [(h0, oM a ar mn tp osz lsz ns ct), (a 31, aS ta 300 gli)]) 0 0 := by
  refine CT.of_i (r := fun u => u) rfl (by decide) (Nat.le_of_ble_eq_true rfl) ?_
  intro pp ee ss mm below meth kc A Q hx hb hml hown hin hts hK hA hsz hG hret H locs hP hD hS ls hl
  have hl : lv_has ls 2 [(0, .ref h0), (1, .int i)] := hl
  refine lv_iload_n (pc := 0) hx hb dX10_line_0 rfl (lv_at hl 1 rfl) ?_
  refine lv_if_lt (pc := 1) (tgt := 12) hx hb dX10_line_1 (by decide) (fun c_1 => ?_) (fun c_1 => ?_)
  · skip
    have hq := at_lt (g := gli) (n := lsz) c_1
    refine lv_iconst (pc := 12) (v := (-1)) hx hb dX10_line_12 (by decide +kernel) ?_
    refine lv_goto (pc := 13) (tgt := 26) hx hb dX10_line_13 (by decide) ?_
    refine q_top (y := (-1)) (by first | rfl | decide +kernel | (simp; done)) ?_
    have hq_2 : (((-1) : Int32) = atL (qL gli lsz) i) := by
      exact hq.symm
    exact hret (-1) _ _ _ _ dX10_line_26 hq_2 (hP.sub [0, 1] rfl) (hD.sub [0, 1] (by decide) rfl) hS
  · skip
    have hi0 := c_1
    refine lv_iload_n (pc := 4) hx hb dX10_line_4 rfl (lv_at hl 1 rfl) ?_
    refine lv_aload_n (pc := 5) hx hb dX10_line_5 rfl (lv_at hl 0 rfl) ?_
    refine va_get (pc := 6) (D := D) (ci := 8) (v := .int (nI lsz)) (C := RX10) (T := TX10) (N := 57) hx hb hts iu10 hown hK hP 0 rfl rfl 32 (by decide) (hts _ tw_1077) (fun _ h9 => h9) rfl dX10_line_6 ?_
    refine lv_icmp_lt (pc := 9) (tgt := 16) hx hb dX10_line_9 (by decide) (fun c_3 => ?_) (fun c_3 => ?_)
    · skip
      obtain ⟨j, hj, rfl⟩ := q_ix hi0 (Int32.not_le.mpr c_3) (by omega)
      have hq := at_in (g := gli) (n := lsz) hj (by omega)
      refine lv_aload_n (pc := 16) hx hb dX10_line_16 rfl (lv_at hl 0 rfl) ?_
      refine va_get (pc := 17) (D := D) (ci := 8) (v := .ref (a 31)) (C := RX10) (T := TX10) (N := 57) hx hb hts iu10 hown hK hP 0 rfl rfl 31 (by decide) (hts _ tw_1076) (fun _ h9 => h9) rfl dX10_line_17 ?_
      refine lv_iload_n (pc := 20) hx hb dX10_line_20 rfl (lv_at hl 1 rfl) ?_
      refine q_bald (pc := 21) hx hb hK hP 1 2 rfl rfl (k := j) (v := qs (gli j)) rfl (by omega) (by omega) rfl dX10_line_21 ?_
      refine lv_sipush (pc := 22) (v := nI 255) hx hb dX10_line_22 (by decide +kernel) ?_
      refine lv_iand (pc := 25) hx hb dX10_line_25 ?_
      refine q_top (y := qz (gli j)) ((q_m255 _).trans (congrArg qz (qlo_qs _))) ?_
      refine q_top (y := (qz (gli j))) (by first | rfl | decide +kernel | (simp; done)) ?_
      have hq_4 : (((qz (gli j)) : Int32) = atL (qL gli lsz) (nI j)) := by
        exact hq.symm
      exact hret (qz (gli j)) _ _ _ _ dX10_line_26 hq_4 (hP.sub [0, 1] rfl) (hD.sub [0, 1] (by decide) rfl) hS
    · skip
      have hq := at_gt (g := gli) (n := lsz) (by omega) (Int32.not_lt.mp c_3)
      refine lv_iconst (pc := 12) (v := (-1)) hx hb dX10_line_12 (by decide +kernel) ?_
      refine lv_goto (pc := 13) (tgt := 26) hx hb dX10_line_13 (by decide) ?_
      refine q_top (y := (-1)) (by first | rfl | decide +kernel | (simp; done)) ?_
      have hq_5 : (((-1) : Int32) = atL (qL gli lsz) i) := by
        exact hq.symm
      exact hret (-1) _ _ _ _ dX10_line_26 hq_5 (hP.sub [0, 1] rfl) (hD.sub [0, 1] (by decide) rfl) hS
theorem hdX10_alter : yX10_alter.cls ≠ "java/lang/invoke/MethodHandle" ∧ yX10_alter.cls ≠ "java/lang/invoke/VarHandle" ∧ (parseMethodDescriptor yX10_alter.desc).map (fun d => d.parameters.length) = some 2 := ⟨by decide +kernel, by decide +kernel, by decide +kernel⟩
theorem dX10_alter_0 : decode cX10_alter 0 = .ok (.iload_n 1, 1) := by decide +kernel
theorem dX10_alter_1 : decode cX10_alter 1 = .ok (.ifCond .lt 11, 3) := by decide +kernel
theorem dX10_alter_4 : decode cX10_alter 4 = .ok (.iload_n 1, 1) := by decide +kernel
theorem dX10_alter_5 : decode cX10_alter 5 = .ok (.aload_n 0, 1) := by decide +kernel
theorem dX10_alter_6 : decode cX10_alter 6 = .ok (.getfield 307, 3) := by decide +kernel
theorem dX10_alter_9 : decode cX10_alter 9 = .ok (.if_icmp .lt 5, 3) := by decide +kernel
theorem dX10_alter_12 : decode cX10_alter 12 = .ok (.iconst (-1), 1) := by decide +kernel
theorem dX10_alter_13 : decode cX10_alter 13 = .ok (.ireturn, 1) := by decide +kernel
theorem dX10_alter_14 : decode cX10_alter 14 = .ok (.aload_n 0, 1) := by decide +kernel
theorem dX10_alter_15 : decode cX10_alter 15 = .ok (.getfield 225, 3) := by decide +kernel
theorem dX10_alter_18 : decode cX10_alter 18 = .ok (.iload_n 1, 1) := by decide +kernel
theorem dX10_alter_19 : decode cX10_alter 19 = .ok (.dup2, 1) := by decide +kernel
theorem dX10_alter_20 : decode cX10_alter 20 = .ok (.baload, 1) := by decide +kernel
theorem dX10_alter_21 : decode cX10_alter 21 = .ok (.iload_n 2, 1) := by decide +kernel
theorem dX10_alter_22 : decode cX10_alter 22 = .ok (.ixor, 1) := by decide +kernel
theorem dX10_alter_23 : decode cX10_alter 23 = .ok (.i2b, 1) := by decide +kernel
theorem dX10_alter_24 : decode cX10_alter 24 = .ok (.bastore, 1) := by decide +kernel
theorem dX10_alter_25 : decode cX10_alter 25 = .ok (.aload_n 0, 1) := by decide +kernel
theorem dX10_alter_26 : decode cX10_alter 26 = .ok (.getfield 225, 3) := by decide +kernel
theorem dX10_alter_29 : decode cX10_alter 29 = .ok (.iload_n 1, 1) := by decide +kernel
theorem dX10_alter_30 : decode cX10_alter 30 = .ok (.baload, 1) := by decide +kernel
theorem dX10_alter_31 : decode cX10_alter 31 = .ok (.sipush 255, 3) := by decide +kernel
theorem dX10_alter_34 : decode cX10_alter 34 = .ok (.iand, 1) := by decide +kernel
theorem dX10_alter_35 : decode cX10_alter 35 = .ok (.ireturn, 1) := by decide +kernel
set_option maxHeartbeats 4000000 in
set_option maxRecDepth 100000 in
theorem ct_X10_alter (ll : Launch) (D : va_G) (ta : Nat → ClassId) {G : (Nat → Prop) → State → Heap → Prop} (hGok : GOK G) (h0 : Nat) (a : Nat → Nat) (ar : Nat) (mn : Nat) (tp : Nat) (osz : Nat) (lsz : Nat) (ns : Nat) (ct : Nat) (gli : Nat → BitVec 8) (i : Int32) (x : Int32) (hsz : lsz ≤ 300) (sz : Nat) : CT ll yX10_alter cX10_alter 3 (some .int) ({ frames := 0, cells := 0, slots := 0, locals := 0 } : Room) D ta G [.ref h0, .int i, .int x] [(h0, oM a ar mn tp osz lsz ns ct), (a 31, aS ta 300 gli)] sz (S := Int32 × (Nat → BitVec 8)) (fun u => some (.int u.1)) (fun u => ((u.1 : Int32) = altR (qL gli lsz) i x) ∧ (qL u.2 lsz = altF (qL gli lsz) i x)) (fun u => [(h0, oM a ar mn tp osz lsz ns ct), (a 31, aS ta 300 u.2)]) 0 0 := by
  refine CT.of_i (r := fun u => u.1) rfl (by decide) (Nat.le_of_ble_eq_true rfl) ?_
  intro pp ee ss mm below meth kc A Q hx hb hml hown hin hts hK hA hsz hG hret H locs hP hD hS ls hl
  have hl : lv_has ls 3 [(0, .ref h0), (1, .int i), (2, .int x)] := hl
  refine lv_iload_n (pc := 0) hx hb dX10_alter_0 rfl (lv_at hl 1 rfl) ?_
  refine lv_if_lt (pc := 1) (tgt := 12) hx hb dX10_alter_1 (by decide) (fun c_1 => ?_) (fun c_1 => ?_)
  · skip
    have ho := alt_out (g := gli) (n := lsz) (x := x) (by omega) (Or.inl c_1)
    refine lv_iconst (pc := 12) (v := (-1)) hx hb dX10_alter_12 (by decide +kernel) ?_
    refine q_top (y := (-1)) (by first | rfl | decide +kernel | (simp; done)) ?_
    have hq_2 : (((-1) : Int32) = altR (qL gli lsz) i x) ∧ (qL gli lsz = altF (qL gli lsz) i x) := by
      exact ⟨ho.2.symm, ho.1.symm⟩
    exact hret (⟨(-1), (gli)⟩ : Int32 × (Nat → BitVec 8)) _ _ _ _ dX10_alter_13 hq_2 (hP.sub [0, 1] rfl) (hD.sub [0, 1] (by decide) rfl) hS
  · skip
    have hi0 := c_1
    refine lv_iload_n (pc := 4) hx hb dX10_alter_4 rfl (lv_at hl 1 rfl) ?_
    refine lv_aload_n (pc := 5) hx hb dX10_alter_5 rfl (lv_at hl 0 rfl) ?_
    refine va_get (pc := 6) (D := D) (ci := 8) (v := .int (nI lsz)) (C := RX10) (T := TX10) (N := 57) hx hb hts iu10 hown hK hP 0 rfl rfl 32 (by decide) (hts _ tw_1077) (fun _ h9 => h9) rfl dX10_alter_6 ?_
    refine lv_icmp_lt (pc := 9) (tgt := 14) hx hb dX10_alter_9 (by decide) (fun c_3 => ?_) (fun c_3 => ?_)
    · skip
      obtain ⟨j, hj, rfl⟩ := q_ix hi0 (Int32.not_le.mpr c_3) (by omega)
      have ha := alt_rowS (g := gli) (x := x) hj (by omega) rfl
      refine lv_aload_n (pc := 14) hx hb dX10_alter_14 rfl (lv_at hl 0 rfl) ?_
      refine va_get (pc := 15) (D := D) (ci := 8) (v := .ref (a 31)) (C := RX10) (T := TX10) (N := 57) hx hb hts iu10 hown hK hP 0 rfl rfl 31 (by decide) (hts _ tw_1076) (fun _ h9 => h9) rfl dX10_alter_15 ?_
      refine lv_iload_n (pc := 18) hx hb dX10_alter_18 rfl (lv_at hl 1 rfl) ?_
      refine lv_dup2_11 (pc := 19) hx hb dX10_alter_19 rfl rfl ?_
      refine q_bald (pc := 20) hx hb hK hP 1 2 rfl rfl (k := j) (v := qs (gli j)) rfl (by omega) (by omega) rfl dX10_alter_20 ?_
      refine lv_iload_n (pc := 21) hx hb dX10_alter_21 rfl (lv_at hl 2 rfl) ?_
      refine lv_ixor (pc := 22) hx hb dX10_alter_22 ?_
      refine lv_i2b (pc := 23) (v := qs (qlo ((qs (gli j)) ^^^ x))) hx hb dX10_alter_23 (q_i2b _) ?_
      refine q_bastS (pc := 24) hx hb hK hP hD hS 1 2 rfl rfl (k := j) rfl (by omega) (by omega) (b := qlo ((qs (gli j)) ^^^ x)) (qlo_qs _) dX10_alter_24 (fun H locs hP hD hS => ?_)
      have hP : va_P D vwCl [(h0, oM a ar mn tp osz lsz ns ct), (a 31, aS ta 300 (qU gli j (qlo ((qs (gli j)) ^^^ x))))] H := hP
      have hD : va_D A [(h0, oM a ar mn tp osz lsz ns ct), (a 31, aS ta 300 (qU gli j (qlo ((qs (gli j)) ^^^ x))))] := hD
      refine lv_aload_n (pc := 25) hx hb dX10_alter_25 rfl (lv_at hl 0 rfl) ?_
      refine va_get (pc := 26) (D := D) (ci := 8) (v := .ref (a 31)) (C := RX10) (T := TX10) (N := 57) hx hb hts iu10 hown hK hP 0 rfl rfl 31 (by decide) (hts _ tw_1076) (fun _ h9 => h9) rfl dX10_alter_26 ?_
      refine lv_iload_n (pc := 29) hx hb dX10_alter_29 rfl (lv_at hl 1 rfl) ?_
      refine q_bald (pc := 30) hx hb hK hP 1 2 rfl rfl (k := j) (v := qs ((qU gli j (qlo ((qs (gli j)) ^^^ x))) j)) rfl (by omega) (by omega) rfl dX10_alter_30 ?_
      refine lv_sipush (pc := 31) (v := nI 255) hx hb dX10_alter_31 (by decide +kernel) ?_
      refine lv_iand (pc := 34) hx hb dX10_alter_34 ?_
      refine q_top (y := qz ((qU gli j (qlo ((qs (gli j)) ^^^ x))) j)) ((q_m255 _).trans (congrArg qz (qlo_qs _))) ?_
      refine q_top (y := (qz ((qU gli j (qlo ((qs (gli j)) ^^^ x))) j))) (by first | rfl | decide +kernel | (simp; done)) ?_
      have hq_4 : (((qz ((qU gli j (qlo ((qs (gli j)) ^^^ x))) j)) : Int32) = altR (qL gli lsz) (nI j) x) ∧ (qL (qU gli j (qlo ((qs (gli j)) ^^^ x))) lsz = altF (qL gli lsz) (nI j) x) := by
        exact ⟨ha.2, ha.1⟩
      exact hret (⟨(qz ((qU gli j (qlo ((qs (gli j)) ^^^ x))) j)), (qU gli j (qlo ((qs (gli j)) ^^^ x)))⟩ : Int32 × (Nat → BitVec 8)) _ _ _ _ dX10_alter_35 hq_4 (hP.sub [0, 1] rfl) (hD.sub [0, 1] (by decide) rfl) hS
    · skip
      have ho := alt_out (g := gli) (n := lsz) (x := x) (by omega) (Or.inr c_3)
      refine lv_iconst (pc := 12) (v := (-1)) hx hb dX10_alter_12 (by decide +kernel) ?_
      refine q_top (y := (-1)) (by first | rfl | decide +kernel | (simp; done)) ?_
      have hq_5 : (((-1) : Int32) = altR (qL gli lsz) i x) ∧ (qL gli lsz = altF (qL gli lsz) i x) := by
        exact ⟨ho.2.symm, ho.1.symm⟩
      exact hret (⟨(-1), (gli)⟩ : Int32 × (Nat → BitVec 8)) _ _ _ _ dX10_alter_13 hq_5 (hP.sub [0, 1] rfl) (hD.sub [0, 1] (by decide) rfl) hS
theorem hdX10_use : yX10_use.cls ≠ "java/lang/invoke/MethodHandle" ∧ yX10_use.cls ≠ "java/lang/invoke/VarHandle" ∧ (parseMethodDescriptor yX10_use.desc).map (fun d => d.parameters.length) = some 0 := ⟨by decide +kernel, by decide +kernel, by decide +kernel⟩
theorem dX10_use_0 : decode cX10_use 0 = .ok (.aload_n 0, 1) := by decide +kernel
theorem dX10_use_1 : decode cX10_use 1 = .ok (.getfield 298, 3) := by decide +kernel
theorem dX10_use_4 : decode cX10_use 4 = .ok (.istore_n 1, 1) := by decide +kernel
theorem dX10_use_5 : decode cX10_use 5 = .ok (.aload_n 0, 1) := by decide +kernel
theorem dX10_use_6 : decode cX10_use 6 = .ok (.iconst 0, 1) := by decide +kernel
theorem dX10_use_7 : decode cX10_use 7 = .ok (.putfield 298, 3) := by decide +kernel
theorem dX10_use_10 : decode cX10_use 10 = .ok (.iload_n 1, 1) := by decide +kernel
theorem dX10_use_11 : decode cX10_use 11 = .ok (.ireturn, 1) := by decide +kernel
set_option maxHeartbeats 4000000 in
set_option maxRecDepth 100000 in
theorem ct_X10_use (ll : Launch) (D : va_G) (ta : Nat → ClassId) {G : (Nat → Prop) → State → Heap → Prop} (hGok : GOK G) (h0 : Nat) (a : Nat → Nat) (ar : Nat) (mn : Nat) (tp : Nat) (osz : Nat) (lsz : Nat) (ns : Nat) (ct : Nat)  (sz : Nat) : CT ll yX10_use cX10_use 2 (some .int) ({ frames := 0, cells := 0, slots := 0, locals := 0 } : Room) D ta G [.ref h0] [(h0, oM a ar mn tp osz lsz ns ct)] sz (S := Unit) (fun u => some (.int (nI tp))) (fun u => True) (fun u => [(h0, oM a ar mn 0 osz lsz ns ct)]) 0 0 := by
  refine CT.of_i (r := fun u => nI tp) rfl (by decide) (Nat.le_of_ble_eq_true rfl) ?_
  intro pp ee ss mm below meth kc A Q hx hb hml hown hin hts hK hA hsz hG hret H locs hP hD hS ls hl
  have hl : lv_has ls 2 [(0, .ref h0)] := hl
  refine lv_aload_n (pc := 0) hx hb dX10_use_0 rfl (lv_at hl 0 rfl) ?_
  refine va_get (pc := 1) (D := D) (ci := 8) (v := .int (nI tp)) (C := RX10) (T := TX10) (N := 57) hx hb hts iu10 hown hK hP 0 rfl rfl 28 (by decide) (hts _ tw_1073) (fun _ h9 => h9) rfl dX10_use_1 ?_
  refine lv_istore_n (pc := 4) (lv' := [(1, .int (nI tp)), (0, .ref h0)]) hx hb dX10_use_4 rfl hl (by decide) rfl (fun ls hl => ?_)
  refine lv_aload_n (pc := 5) hx hb dX10_use_5 rfl (lv_at hl 1 rfl) ?_
  refine lv_iconst (pc := 6) (v := nI 0) hx hb dX10_use_6 (by decide +kernel) ?_
  refine va_put (pc := 7) (D := D) (ci := 8) (v := .int (nI 0)) (ty := .int) (C := RX10) (T := TX10) (N := 57) hx hb hts iu10 tyX10 tyX10_ok nmX10 hown hK hP hD hS 0 rfl rfl 28 (by decide) (hts _ tw_1073) (fun _ h9 => h9) rfl (by decide +kernel) rfl rfl (Nat.le_of_ble_eq_true rfl) dX10_use_7 (fun H locs hP hD hS => ?_)
  have hP : va_P D vwCl [(h0, oM a ar mn 0 osz lsz ns ct)] H := hP
  have hD : va_D A [(h0, oM a ar mn 0 osz lsz ns ct)] := hD
  refine lv_iload_n (pc := 10) hx hb dX10_use_10 rfl (lv_at hl 0 rfl) ?_
  have hq_1 : True := trivial
  exact hret () _ _ _ _ dX10_use_11 hq_1 (hP.sub [0] rfl) (hD.sub [0] (by decide) rfl) hS
theorem hdX10_slip : yX10_slip.cls ≠ "java/lang/invoke/MethodHandle" ∧ yX10_slip.cls ≠ "java/lang/invoke/VarHandle" ∧ (parseMethodDescriptor yX10_slip.desc).map (fun d => d.parameters.length) = some 0 := ⟨by decide +kernel, by decide +kernel, by decide +kernel⟩
theorem dX10_slip_0 : decode cX10_slip 0 = .ok (.aload_n 0, 1) := by decide +kernel
theorem dX10_slip_1 : decode cX10_slip 1 = .ok (.invokevirtual 310, 3) := by decide +kernel
theorem dX10_slip_4 : decode cX10_slip 4 = .ok (.istore_n 1, 1) := by decide +kernel
theorem dX10_slip_5 : decode cX10_slip 5 = .ok (.iload_n 1, 1) := by decide +kernel
theorem dX10_slip_6 : decode cX10_slip 6 = .ok (.sipush 300, 3) := by decide +kernel
theorem dX10_slip_9 : decode cX10_slip 9 = .ok (.if_icmp .le 5, 3) := by decide +kernel
theorem dX10_slip_12 : decode cX10_slip 12 = .ok (.iconst (-1), 1) := by decide +kernel
theorem dX10_slip_13 : decode cX10_slip 13 = .ok (.ireturn, 1) := by decide +kernel
theorem dX10_slip_14 : decode cX10_slip 14 = .ok (.iconst 0, 1) := by decide +kernel
theorem dX10_slip_15 : decode cX10_slip 15 = .ok (.istore_n 2, 1) := by decide +kernel
theorem dX10_slip_16 : decode cX10_slip 16 = .ok (.iload_n 2, 1) := by decide +kernel
theorem dX10_slip_17 : decode cX10_slip 17 = .ok (.iload_n 1, 1) := by decide +kernel
theorem dX10_slip_18 : decode cX10_slip 18 = .ok (.if_icmp .ge 21, 3) := by decide +kernel
theorem dX10_slip_21 : decode cX10_slip 21 = .ok (.aload_n 0, 1) := by decide +kernel
theorem dX10_slip_22 : decode cX10_slip 22 = .ok (.getfield 225, 3) := by decide +kernel
theorem dX10_slip_25 : decode cX10_slip 25 = .ok (.iload_n 2, 1) := by decide +kernel
theorem dX10_slip_26 : decode cX10_slip 26 = .ok (.aload_n 0, 1) := by decide +kernel
theorem dX10_slip_27 : decode cX10_slip 27 = .ok (.getfield 219, 3) := by decide +kernel
theorem dX10_slip_30 : decode cX10_slip 30 = .ok (.iload_n 2, 1) := by decide +kernel
theorem dX10_slip_31 : decode cX10_slip 31 = .ok (.baload, 1) := by decide +kernel
theorem dX10_slip_32 : decode cX10_slip 32 = .ok (.bastore, 1) := by decide +kernel
theorem dX10_slip_33 : decode cX10_slip 33 = .ok (.iinc 2 1, 3) := by decide +kernel
theorem dX10_slip_36 : decode cX10_slip 36 = .ok (.goto (-20), 3) := by decide +kernel
theorem dX10_slip_39 : decode cX10_slip 39 = .ok (.aload_n 0, 1) := by decide +kernel
theorem dX10_slip_40 : decode cX10_slip 40 = .ok (.iload_n 1, 1) := by decide +kernel
theorem dX10_slip_41 : decode cX10_slip 41 = .ok (.putfield 307, 3) := by decide +kernel
theorem dX10_slip_44 : decode cX10_slip 44 = .ok (.iload_n 1, 1) := by decide +kernel
theorem dX10_slip_45 : decode cX10_slip 45 = .ok (.ireturn, 1) := by decide +kernel
set_option maxHeartbeats 4000000 in
set_option maxRecDepth 100000 in
theorem ct_X10_slip_yes (ll : Launch) (D : va_G) (ta : Nat → ClassId) {G : (Nat → Prop) → State → Heap → Prop} (hGok : GOK G) (h0 : Nat) (a : Nat → Nat) (ar : Nat) (mn : Nat) (tp : Nat) (osz : Nat) (lsz : Nat) (ns : Nat) (ct : Nat) (gtp : Nat → BitVec 8) (gli : Nat → BitVec 8) (htp : tp ≤ 300) (sz : Nat) : CT ll yX10_slip cX10_slip 3 (some .int) ({ frames := 1, cells := 0, slots := 0, locals := 21 } : Room) D ta G [.ref h0] [(h0, oM a ar mn tp osz lsz ns ct), (a 27, aS ta 400 gtp), (a 31, aS ta 300 gli)] sz (S := (Nat → BitVec 8)) (fun u => some (.int (nI tp))) (fun u => (qL u tp = qL gtp tp)) (fun u => [(h0, oM a ar mn 0 osz tp ns ct), (a 27, aS ta 400 gtp), (a 31, aS ta 300 u)]) 0 0 := by
  refine CT.of_i (r := fun u => nI tp) rfl (by decide) (Nat.le_of_ble_eq_true rfl) ?_
  intro pp ee ss mm below meth kc A Q hx hb hml hown hin hts hK hA hsz hG hret H locs hP hD hS ls hl
  have hl : lv_has ls 3 [(0, .ref h0)] := hl
  refine lv_aload_n (pc := 0) hx hb dX10_slip_0 rfl (lv_at hl 0 rfl) ?_
  refine cs_V (pc := 1) (idx := 310) (n := 0) (wr := [(a 27, aS ta 400 gtp), (a 31, aS ta 300 gli)]) (As := []) (rest := []) (ci := 8) hx hb hml hown hts hGok hK hA hG hl.1 hP hD hS (ct_X10_use ll D ta hGok h0 a ar mn tp osz lsz ns ct  H.size) tw_1254 tw_1251 tw_1253 tw_28 tw_75 hdX10_use rfl ⟨rfl, rfl, Nat.le_of_ble_eq_true rfl, Nat.le_of_ble_eq_true rfl, Nat.le_of_ble_eq_true rfl, Nat.le_of_ble_eq_true rfl⟩ rfl rfl (q0 := 0) rfl [0] [1, 2] rfl rfl (by decide) rfl (Nat.le_of_ble_eq_true rfl) dX10_slip_1 (fun u H locs hq hP hD hS => ?_)
  refine W.eq (g2 := F0 mm 4 ls [.int (nI tp)]) rfl ?_
  have hP : va_P D vwCl [(a 27, aS ta 400 gtp), (a 31, aS ta 300 gli), (h0, oM a ar mn 0 osz lsz ns ct)] H := hP
  have hD : va_D A [(a 27, aS ta 400 gtp), (a 31, aS ta 300 gli), (h0, oM a ar mn 0 osz lsz ns ct)] := hD
  refine lv_istore_n (pc := 4) (lv' := [(1, .int (nI tp)), (0, .ref h0)]) hx hb dX10_slip_4 rfl hl (by decide) rfl (fun ls hl => ?_)
  refine lv_iload_n (pc := 5) hx hb dX10_slip_5 rfl (lv_at hl 0 rfl) ?_
  refine lv_sipush (pc := 6) (v := nI 300) hx hb dX10_slip_6 (by decide +kernel) ?_
  refine lv_icmp_le (pc := 9) (tgt := 14) hx hb dX10_slip_9 (by decide) (fun c_1 => ?_) (fun c_1 => ?_)
  · skip
    rw [nI_leI (by omega) (by omega)] at c_1
    refine lv_iconst (pc := 14) (v := nI 0) hx hb dX10_slip_14 (by decide +kernel) ?_
    refine lv_istore_n (pc := 15) (lv' := [(2, .int (nI 0)), (1, .int (nI tp)), (0, .ref h0)]) hx hb dX10_slip_15 rfl hl (by decide) rfl (fun ls hl => ?_)
    have LP16 : ∀ (nn16 : Nat) (k : Nat) (g' : Nat → BitVec 8), (k ≤ tp) → (qSeg g' gli 0 k gtp) → (tp - k < nn16) → ∀ (H : Heap) (locs : List Loc), va_P D vwCl [(a 27, aS ta 400 gtp), (a 31, aS ta 300 g'), (h0, oM a ar mn 0 osz lsz ns ct)] H → va_D A [(a 27, aS ta 400 gtp), (a 31, aS ta 300 g'), (h0, oM a ar mn 0 osz lsz ns ct)] → va_S A ss.heap H locs → ∀ ls : Array Slot, lv_has ls 3 [(2, .int (nI k)), (1, .int (nI tp)), (0, .ref h0)] → W pp ll ee ({ frames := 1, cells := 0, slots := 0, locals := 21 } : Room) ss mm (([.ref h0] : List Value).toArray) below meth kc H locs 0 0 Q (F0 mm 16 ls []) := by
      intro nn16
      induction nn16 with
      | zero => intro k g' hkk hs hmu; exact absurd hmu (Nat.not_lt_zero _)
      | succ nn16 ih16 =>
        intro k g' hkk hs hmu16 H locs hP hD hS ls hl
        refine lv_iload_n (pc := 16) hx hb dX10_slip_16 rfl (lv_at hl 0 rfl) ?_
        refine lv_iload_n (pc := 17) hx hb dX10_slip_17 rfl (lv_at hl 1 rfl) ?_
        refine lv_icmp_ge (pc := 18) (tgt := 39) hx hb dX10_slip_18 (by decide) (fun c_2 => ?_) (fun c_2 => ?_)
        · skip
          rw [nI_leI (by omega) (by omega)] at c_2
          refine lv_aload_n (pc := 39) hx hb dX10_slip_39 rfl (lv_at hl 2 rfl) ?_
          refine lv_iload_n (pc := 40) hx hb dX10_slip_40 rfl (lv_at hl 1 rfl) ?_
          refine va_put (pc := 41) (D := D) (ci := 8) (v := .int (nI tp)) (ty := .int) (C := RX10) (T := TX10) (N := 57) hx hb hts iu10 tyX10 tyX10_ok nmX10 hown hK hP hD hS 2 rfl rfl 32 (by decide) (hts _ tw_1077) (fun _ h9 => h9) rfl (by decide +kernel) rfl rfl (Nat.le_of_ble_eq_true rfl) dX10_slip_41 (fun H locs hP hD hS => ?_)
          have hP : va_P D vwCl [(a 27, aS ta 400 gtp), (a 31, aS ta 300 g'), (h0, oM a ar mn 0 osz tp ns ct)] H := hP
          have hD : va_D A [(a 27, aS ta 400 gtp), (a 31, aS ta 300 g'), (h0, oM a ar mn 0 osz tp ns ct)] := hD
          refine lv_iload_n (pc := 44) hx hb dX10_slip_44 rfl (lv_at hl 1 rfl) ?_
          have hq_3 : (qL g' tp = qL gtp tp) := by
            rw [← seg_0, seg_copy0 hs (by omega)]
          exact hret (g') _ _ _ _ dX10_slip_45 hq_3 (hP.sub [2, 0, 1] rfl) (hD.sub [2, 0, 1] (by decide) rfl) hS
        · skip
          rw [nI_leI (by omega) (by omega)] at c_2
          refine lv_aload_n (pc := 21) hx hb dX10_slip_21 rfl (lv_at hl 2 rfl) ?_
          refine va_get (pc := 22) (D := D) (ci := 8) (v := .ref (a 31)) (C := RX10) (T := TX10) (N := 57) hx hb hts iu10 hown hK hP 2 rfl rfl 31 (by decide) (hts _ tw_1076) (fun _ h9 => h9) rfl dX10_slip_22 ?_
          refine lv_iload_n (pc := 25) hx hb dX10_slip_25 rfl (lv_at hl 0 rfl) ?_
          refine lv_aload_n (pc := 26) hx hb dX10_slip_26 rfl (lv_at hl 2 rfl) ?_
          refine va_get (pc := 27) (D := D) (ci := 8) (v := .ref (a 27)) (C := RX10) (T := TX10) (N := 57) hx hb hts iu10 hown hK hP 2 rfl rfl 27 (by decide) (hts _ tw_1072) (fun _ h9 => h9) rfl dX10_slip_27 ?_
          refine lv_iload_n (pc := 30) hx hb dX10_slip_30 rfl (lv_at hl 0 rfl) ?_
          refine q_bald (pc := 31) hx hb hK hP 0 2 rfl rfl (k := k) (v := qs (gtp k)) rfl (by omega) (by omega) rfl dX10_slip_31 ?_
          refine q_bastS (pc := 32) hx hb hK hP hD hS 1 2 rfl rfl (k := k) rfl (by omega) (by omega) (b := gtp k) (qlo_qs _) dX10_slip_32 (fun H locs hP hD hS => ?_)
          have hP : va_P D vwCl [(a 27, aS ta 400 gtp), (a 31, aS ta 300 (qU g' k (gtp k))), (h0, oM a ar mn 0 osz lsz ns ct)] H := hP
          have hD : va_D A [(a 27, aS ta 400 gtp), (a 31, aS ta 300 (qU g' k (gtp k))), (h0, oM a ar mn 0 osz lsz ns ct)] := hD
          refine lv_iinc (pc := 33) (v := nI (k + 1)) (lv' := [(2, .int (nI (k + 1))), (1, .int (nI tp)), (0, .ref h0)]) hx hb dX10_slip_33 hl (k := 0) rfl (by first | exact nI_add k 1 | rfl) (by decide) rfl (fun ls hl => ?_)
          refine lv_goto (pc := 36) (tgt := 16) hx hb dX10_slip_36 (by decide) ?_
          exact ih16 (k + 1) (qU g' k (gtp k)) (by omega) (qSeg_s hs (by omega) (by first | rfl | (simp; done))) (by omega) _ _ (hP.sub [0, 1, 2] rfl) (hD.sub [0, 1, 2] (by decide) rfl) hS ls (lv_sub hl [0, 1, 2] rfl)
    exact LP16 _ 0 gli (by omega) (qSeg_0) (Nat.lt_succ_self _) _ _ (hP.sub [0, 1, 2] rfl) (hD.sub [0, 1, 2] (by decide) rfl) hS ls (lv_sub hl [0, 1, 2] rfl)
  · skip
    rw [nI_leI (by omega) (by omega)] at c_1
    exfalso; omega
set_option maxHeartbeats 4000000 in
set_option maxRecDepth 100000 in
theorem ct_X10_slip_no (ll : Launch) (D : va_G) (ta : Nat → ClassId) {G : (Nat → Prop) → State → Heap → Prop} (hGok : GOK G) (h0 : Nat) (a : Nat → Nat) (ar : Nat) (mn : Nat) (tp : Nat) (osz : Nat) (lsz : Nat) (ns : Nat) (ct : Nat) (htp : 300 < tp ∧ tp ≤ 400) (sz : Nat) : CT ll yX10_slip cX10_slip 3 (some .int) ({ frames := 1, cells := 0, slots := 0, locals := 21 } : Room) D ta G [.ref h0] [(h0, oM a ar mn tp osz lsz ns ct)] sz (S := Int32) (fun u => some (.int u)) (fun u => ((u : Int32) = -1)) (fun u => [(h0, oM a ar mn 0 osz lsz ns ct)]) 0 0 := by
  refine CT.of_i (r := fun u => u) rfl (by decide) (Nat.le_of_ble_eq_true rfl) ?_
  intro pp ee ss mm below meth kc A Q hx hb hml hown hin hts hK hA hsz hG hret H locs hP hD hS ls hl
  have hl : lv_has ls 3 [(0, .ref h0)] := hl
  refine lv_aload_n (pc := 0) hx hb dX10_slip_0 rfl (lv_at hl 0 rfl) ?_
  refine cs_V (pc := 1) (idx := 310) (n := 0) (wr := []) (As := []) (rest := []) (ci := 8) hx hb hml hown hts hGok hK hA hG hl.1 hP hD hS (ct_X10_use ll D ta hGok h0 a ar mn tp osz lsz ns ct  H.size) tw_1254 tw_1251 tw_1253 tw_28 tw_75 hdX10_use rfl ⟨rfl, rfl, Nat.le_of_ble_eq_true rfl, Nat.le_of_ble_eq_true rfl, Nat.le_of_ble_eq_true rfl, Nat.le_of_ble_eq_true rfl⟩ rfl rfl (q0 := 0) rfl [0] [] rfl rfl (by decide) rfl (Nat.le_of_ble_eq_true rfl) dX10_slip_1 (fun u H locs hq hP hD hS => ?_)
  refine W.eq (g2 := F0 mm 4 ls [.int (nI tp)]) rfl ?_
  have hP : va_P D vwCl [(h0, oM a ar mn 0 osz lsz ns ct)] H := hP
  have hD : va_D A [(h0, oM a ar mn 0 osz lsz ns ct)] := hD
  refine lv_istore_n (pc := 4) (lv' := [(1, .int (nI tp)), (0, .ref h0)]) hx hb dX10_slip_4 rfl hl (by decide) rfl (fun ls hl => ?_)
  refine lv_iload_n (pc := 5) hx hb dX10_slip_5 rfl (lv_at hl 0 rfl) ?_
  refine lv_sipush (pc := 6) (v := nI 300) hx hb dX10_slip_6 (by decide +kernel) ?_
  refine lv_icmp_le (pc := 9) (tgt := 14) hx hb dX10_slip_9 (by decide) (fun c_1 => ?_) (fun c_1 => ?_)
  · skip
    rw [nI_leI (by omega) (by omega)] at c_1
    exfalso; omega
  · skip
    rw [nI_leI (by omega) (by omega)] at c_1
    refine lv_iconst (pc := 12) (v := (-1)) hx hb dX10_slip_12 (by decide +kernel) ?_
    refine q_top (y := (-1)) (by first | rfl | decide +kernel | (simp; done)) ?_
    have hq_2 : (((-1) : Int32) = -1) := by
      first | rfl | trivial | (refine ⟨?_, ?_⟩ <;> rfl) | (simp; done) | omega
    exact hret (-1) _ _ _ _ dX10_slip_13 hq_2 (hP.sub [0] rfl) (hD.sub [0] (by decide) rfl) hS
theorem hdX10_none : yX10_none.cls ≠ "java/lang/invoke/MethodHandle" ∧ yX10_none.cls ≠ "java/lang/invoke/VarHandle" ∧ (parseMethodDescriptor yX10_none.desc).map (fun d => d.parameters.length) = some 0 := ⟨by decide +kernel, by decide +kernel, by decide +kernel⟩
theorem dX10_none_0 : decode cX10_none 0 = .ok (.aload_n 0, 1) := by decide +kernel
theorem dX10_none_1 : decode cX10_none 1 = .ok (.getfield 240, 3) := by decide +kernel
theorem dX10_none_4 : decode cX10_none 4 = .ok (.iconst 0, 1) := by decide +kernel
theorem dX10_none_5 : decode cX10_none 5 = .ok (.iconst 0, 1) := by decide +kernel
theorem dX10_none_6 : decode cX10_none 6 = .ok (.iastore, 1) := by decide +kernel
theorem dX10_none_7 : decode cX10_none 7 = .ok (.aload_n 0, 1) := by decide +kernel
theorem dX10_none_8 : decode cX10_none 8 = .ok (.getfield 240, 3) := by decide +kernel
theorem dX10_none_11 : decode cX10_none 11 = .ok (.iconst 1, 1) := by decide +kernel
theorem dX10_none_12 : decode cX10_none 12 = .ok (.iconst 0, 1) := by decide +kernel
theorem dX10_none_13 : decode cX10_none 13 = .ok (.iastore, 1) := by decide +kernel
theorem dX10_none_14 : decode cX10_none 14 = .ok (.aload_n 0, 1) := by decide +kernel
theorem dX10_none_15 : decode cX10_none 15 = .ok (.iconst 0, 1) := by decide +kernel
theorem dX10_none_16 : decode cX10_none 16 = .ok (.putfield 307, 3) := by decide +kernel
theorem dX10_none_19 : decode cX10_none 19 = .ok (.return_, 1) := by decide +kernel
set_option maxHeartbeats 4000000 in
set_option maxRecDepth 100000 in
theorem ct_X10_none (ll : Launch) (D : va_G) (ta : Nat → ClassId) {G : (Nat → Prop) → State → Heap → Prop} (hGok : GOK G) (h0 : Nat) (a : Nat → Nat) (ar : Nat) (mn : Nat) (tp : Nat) (osz : Nat) (lsz : Nat) (ns : Nat) (ct : Nat) (se : Nat → Nat)  (sz : Nat) : CT ll yX10_none cX10_none 1 none ({ frames := 0, cells := 0, slots := 0, locals := 0 } : Room) D ta G [.ref h0] [(h0, oM a ar mn tp osz lsz ns ct), (a 39, aK ta 2 se)] sz (S := (Nat → Nat)) (fun _ => none) (fun u => (u 0 = 0) ∧ (u 1 = 0)) (fun u => [(h0, oM a ar mn tp osz 0 ns ct), (a 39, aK ta 2 u)]) 0 0 := by
  refine CT.of_v rfl (by decide) (Nat.le_of_ble_eq_true rfl) ?_
  intro pp ee ss mm below meth kc A Q hx hb hml hown hin hts hK hA hsz hG hret H locs hP hD hS ls hl
  have hl : lv_has ls 1 [(0, .ref h0)] := hl
  refine lv_aload_n (pc := 0) hx hb dX10_none_0 rfl (lv_at hl 0 rfl) ?_
  refine va_get (pc := 1) (D := D) (ci := 8) (v := .ref (a 39)) (C := RX10) (T := TX10) (N := 57) hx hb hts iu10 hown hK hP 0 rfl rfl 39 (by decide) (hts _ tw_1084) (fun _ h9 => h9) rfl dX10_none_1 ?_
  refine lv_iconst (pc := 4) (v := nI 0) hx hb dX10_none_4 (by decide +kernel) ?_
  refine lv_iconst (pc := 5) (v := nI 0) hx hb dX10_none_5 (by decide +kernel) ?_
  refine q_iastK (pc := 6) hx hb hK hP hD hS 1 0 rfl rfl (k := 0) rfl (by omega) (by omega) (b := 0) rfl dX10_none_6 (fun H locs hP hD hS => ?_)
  have hP : va_P D vwCl [(h0, oM a ar mn tp osz lsz ns ct), (a 39, aK ta 2 (qU se 0 0))] H := hP
  have hD : va_D A [(h0, oM a ar mn tp osz lsz ns ct), (a 39, aK ta 2 (qU se 0 0))] := hD
  refine lv_aload_n (pc := 7) hx hb dX10_none_7 rfl (lv_at hl 0 rfl) ?_
  refine va_get (pc := 8) (D := D) (ci := 8) (v := .ref (a 39)) (C := RX10) (T := TX10) (N := 57) hx hb hts iu10 hown hK hP 0 rfl rfl 39 (by decide) (hts _ tw_1084) (fun _ h9 => h9) rfl dX10_none_8 ?_
  refine lv_iconst (pc := 11) (v := nI 1) hx hb dX10_none_11 (by decide +kernel) ?_
  refine lv_iconst (pc := 12) (v := nI 0) hx hb dX10_none_12 (by decide +kernel) ?_
  refine q_iastK (pc := 13) hx hb hK hP hD hS 1 0 rfl rfl (k := 1) rfl (by omega) (by omega) (b := 0) rfl dX10_none_13 (fun H locs hP hD hS => ?_)
  have hP : va_P D vwCl [(h0, oM a ar mn tp osz lsz ns ct), (a 39, aK ta 2 (qU (qU se 0 0) 1 0))] H := hP
  have hD : va_D A [(h0, oM a ar mn tp osz lsz ns ct), (a 39, aK ta 2 (qU (qU se 0 0) 1 0))] := hD
  refine lv_aload_n (pc := 14) hx hb dX10_none_14 rfl (lv_at hl 0 rfl) ?_
  refine lv_iconst (pc := 15) (v := nI 0) hx hb dX10_none_15 (by decide +kernel) ?_
  refine va_put (pc := 16) (D := D) (ci := 8) (v := .int (nI 0)) (ty := .int) (C := RX10) (T := TX10) (N := 57) hx hb hts iu10 tyX10 tyX10_ok nmX10 hown hK hP hD hS 0 rfl rfl 32 (by decide) (hts _ tw_1077) (fun _ h9 => h9) rfl (by decide +kernel) rfl rfl (Nat.le_of_ble_eq_true rfl) dX10_none_16 (fun H locs hP hD hS => ?_)
  have hP : va_P D vwCl [(h0, oM a ar mn tp osz 0 ns ct), (a 39, aK ta 2 (qU (qU se 0 0) 1 0))] H := hP
  have hD : va_D A [(h0, oM a ar mn tp osz 0 ns ct), (a 39, aK ta 2 (qU (qU se 0 0) 1 0))] := hD
  have hq_1 : ((qU (qU se 0 0) 1 0) 0 = 0) ∧ ((qU (qU se 0 0) 1 0) 1 = 0) := by
    first | rfl | trivial | (refine ⟨?_, ?_⟩ <;> rfl) | (simp; done) | omega
  exact hret (qU (qU se 0 0) 1 0) _ _ _ _ dX10_none_19 hq_1 (hP.sub [0, 1] rfl) (hD.sub [0, 1] (by decide) rfl) hS
theorem hdX10_isSide : yX10_isSide.cls ≠ "java/lang/invoke/MethodHandle" ∧ yX10_isSide.cls ≠ "java/lang/invoke/VarHandle" ∧ (parseMethodDescriptor yX10_isSide.desc).map (fun d => d.parameters.length) = some 1 := ⟨by decide +kernel, by decide +kernel, by decide +kernel⟩
theorem dX10_isSide_0 : decode cX10_isSide 0 = .ok (.iload_n 0, 1) := by decide +kernel
theorem dX10_isSide_1 : decode cX10_isSide 1 = .ok (.ifCond .eq 8, 3) := by decide +kernel
theorem dX10_isSide_4 : decode cX10_isSide 4 = .ok (.iload_n 0, 1) := by decide +kernel
theorem dX10_isSide_5 : decode cX10_isSide 5 = .ok (.iconst 1, 1) := by decide +kernel
theorem dX10_isSide_6 : decode cX10_isSide 6 = .ok (.if_icmp .ne 7, 3) := by decide +kernel
theorem dX10_isSide_9 : decode cX10_isSide 9 = .ok (.iconst 1, 1) := by decide +kernel
theorem dX10_isSide_10 : decode cX10_isSide 10 = .ok (.goto 4, 3) := by decide +kernel
theorem dX10_isSide_13 : decode cX10_isSide 13 = .ok (.iconst 0, 1) := by decide +kernel
theorem dX10_isSide_14 : decode cX10_isSide 14 = .ok (.ireturn, 1) := by decide +kernel
set_option maxHeartbeats 4000000 in
set_option maxRecDepth 100000 in
theorem ct_X10_isSide_s (ll : Launch) (D : va_G) (ta : Nat → ClassId) {G : (Nat → Prop) → State → Heap → Prop} (hGok : GOK G) (sd : Nat) (hsd : sd ≤ 1) (sz : Nat) : CT ll yX10_isSide cX10_isSide 1 (some .boolean) ({ frames := 0, cells := 0, slots := 0, locals := 0 } : Room) D ta G [.int (nI sd)] [] sz (S := Unit) (fun u => some (.int (qb true))) (fun u => True) (fun u => []) 0 0 := by
  refine CT.of_z (r := fun u => true) rfl (by decide) (Nat.le_of_ble_eq_true rfl) ?_
  intro pp ee ss mm below meth kc A Q hx hb hml hown hin hts hK hA hsz hG hret H locs hP hD hS ls hl
  have hl : lv_has ls 1 [(0, .int (nI sd))] := hl
  refine lv_iload_n (pc := 0) hx hb dX10_isSide_0 rfl (lv_at hl 0 rfl) ?_
  refine lv_if_eq (pc := 1) (tgt := 9) hx hb dX10_isSide_1 (by decide) (fun c_1 => ?_) (fun c_1 => ?_)
  · skip
    rw [q_eq0 (by omega)] at c_1
    refine lv_iconst (pc := 9) (v := nI 1) hx hb dX10_isSide_9 (by decide +kernel) ?_
    refine lv_goto (pc := 10) (tgt := 14) hx hb dX10_isSide_10 (by decide) ?_
    refine q_top (y := qb true) (by first | rfl | decide +kernel | (simp; done)) ?_
    have hq_2 : True := trivial
    exact hret () _ _ _ _ dX10_isSide_14 hq_2 (hP.sub [] rfl) (hD.sub [] (by decide) rfl) hS
  · skip
    rw [q_eq0 (by omega)] at c_1
    refine lv_iload_n (pc := 4) hx hb dX10_isSide_4 rfl (lv_at hl 0 rfl) ?_
    refine lv_iconst (pc := 5) (v := nI 1) hx hb dX10_isSide_5 (by decide +kernel) ?_
    refine lv_icmp_ne (pc := 6) (tgt := 13) hx hb dX10_isSide_6 (by decide) (fun c_3 => ?_) (fun c_3 => ?_)
    · skip
      rw [nI_eq (by omega) (by omega)] at c_3
      exfalso; omega
    · skip
      rw [nI_eq (by omega) (by omega)] at c_3
      refine lv_iconst (pc := 9) (v := nI 1) hx hb dX10_isSide_9 (by decide +kernel) ?_
      refine lv_goto (pc := 10) (tgt := 14) hx hb dX10_isSide_10 (by decide) ?_
      refine q_top (y := qb true) (by first | rfl | decide +kernel | (simp; done)) ?_
      have hq_4 : True := trivial
      exact hret () _ _ _ _ dX10_isSide_14 hq_4 (hP.sub [] rfl) (hD.sub [] (by decide) rfl) hS
set_option maxHeartbeats 4000000 in
set_option maxRecDepth 100000 in
theorem ct_X10_isSide_no (ll : Launch) (D : va_G) (ta : Nat → ClassId) {G : (Nat → Prop) → State → Heap → Prop} (hGok : GOK G) (i : Int32) (hi0 : ¬ i = nI 0) (hi1 : ¬ i = nI 1) (sz : Nat) : CT ll yX10_isSide cX10_isSide 1 (some .boolean) ({ frames := 0, cells := 0, slots := 0, locals := 0 } : Room) D ta G [.int i] [] sz (S := Unit) (fun u => some (.int (qb false))) (fun u => True) (fun u => []) 0 0 := by
  refine CT.of_z (r := fun u => false) rfl (by decide) (Nat.le_of_ble_eq_true rfl) ?_
  intro pp ee ss mm below meth kc A Q hx hb hml hown hin hts hK hA hsz hG hret H locs hP hD hS ls hl
  have hl : lv_has ls 1 [(0, .int i)] := hl
  refine lv_iload_n (pc := 0) hx hb dX10_isSide_0 rfl (lv_at hl 0 rfl) ?_
  refine lv_if_eq (pc := 1) (tgt := 9) hx hb dX10_isSide_1 (by decide) (fun c_1 => ?_) (fun c_1 => ?_)
  · skip
    exact absurd c_1 hi0
  · skip
    refine lv_iload_n (pc := 4) hx hb dX10_isSide_4 rfl (lv_at hl 0 rfl) ?_
    refine lv_iconst (pc := 5) (v := nI 1) hx hb dX10_isSide_5 (by decide +kernel) ?_
    refine lv_icmp_ne (pc := 6) (tgt := 13) hx hb dX10_isSide_6 (by decide) (fun c_2 => ?_) (fun c_2 => ?_)
    · skip
      refine lv_iconst (pc := 13) (v := nI 0) hx hb dX10_isSide_13 (by decide +kernel) ?_
      refine q_top (y := qb false) (by first | rfl | decide +kernel | (simp; done)) ?_
      have hq_3 : True := trivial
      exact hret () _ _ _ _ dX10_isSide_14 hq_3 (hP.sub [] rfl) (hD.sub [] (by decide) rfl) hS
    · skip
      first | exact absurd c_2 hi1 | exact absurd hi1 c_2
theorem hdX10_name : yX10_name.cls ≠ "java/lang/invoke/MethodHandle" ∧ yX10_name.cls ≠ "java/lang/invoke/VarHandle" ∧ (parseMethodDescriptor yX10_name.desc).map (fun d => d.parameters.length) = some 0 := ⟨by decide +kernel, by decide +kernel, by decide +kernel⟩
theorem dX10_name_0 : decode cX10_name 0 = .ok (.aload_n 0, 1) := by decide +kernel
theorem dX10_name_1 : decode cX10_name 1 = .ok (.invokevirtual 310, 3) := by decide +kernel
theorem dX10_name_4 : decode cX10_name 4 = .ok (.istore_n 1, 1) := by decide +kernel
theorem dX10_name_5 : decode cX10_name 5 = .ok (.iload_n 1, 1) := by decide +kernel
theorem dX10_name_6 : decode cX10_name 6 = .ok (.bipush 16, 2) := by decide +kernel
theorem dX10_name_8 : decode cX10_name 8 = .ok (.if_icmp .le 5, 3) := by decide +kernel
theorem dX10_name_11 : decode cX10_name 11 = .ok (.iconst (-1), 1) := by decide +kernel
theorem dX10_name_12 : decode cX10_name 12 = .ok (.ireturn, 1) := by decide +kernel
theorem dX10_name_13 : decode cX10_name 13 = .ok (.iconst 0, 1) := by decide +kernel
theorem dX10_name_14 : decode cX10_name 14 = .ok (.istore_n 2, 1) := by decide +kernel
theorem dX10_name_15 : decode cX10_name 15 = .ok (.iload_n 2, 1) := by decide +kernel
theorem dX10_name_16 : decode cX10_name 16 = .ok (.iload_n 1, 1) := by decide +kernel
theorem dX10_name_17 : decode cX10_name 17 = .ok (.if_icmp .ge 21, 3) := by decide +kernel
theorem dX10_name_20 : decode cX10_name 20 = .ok (.aload_n 0, 1) := by decide +kernel
theorem dX10_name_21 : decode cX10_name 21 = .ok (.getfield 228, 3) := by decide +kernel
theorem dX10_name_24 : decode cX10_name 24 = .ok (.iload_n 2, 1) := by decide +kernel
theorem dX10_name_25 : decode cX10_name 25 = .ok (.aload_n 0, 1) := by decide +kernel
theorem dX10_name_26 : decode cX10_name 26 = .ok (.getfield 219, 3) := by decide +kernel
theorem dX10_name_29 : decode cX10_name 29 = .ok (.iload_n 2, 1) := by decide +kernel
theorem dX10_name_30 : decode cX10_name 30 = .ok (.baload, 1) := by decide +kernel
theorem dX10_name_31 : decode cX10_name 31 = .ok (.bastore, 1) := by decide +kernel
theorem dX10_name_32 : decode cX10_name 32 = .ok (.iinc 2 1, 3) := by decide +kernel
theorem dX10_name_35 : decode cX10_name 35 = .ok (.goto (-20), 3) := by decide +kernel
theorem dX10_name_38 : decode cX10_name 38 = .ok (.aload_n 0, 1) := by decide +kernel
theorem dX10_name_39 : decode cX10_name 39 = .ok (.iload_n 1, 1) := by decide +kernel
theorem dX10_name_40 : decode cX10_name 40 = .ok (.putfield 321, 3) := by decide +kernel
theorem dX10_name_43 : decode cX10_name 43 = .ok (.aload_n 0, 1) := by decide +kernel
theorem dX10_name_44 : decode cX10_name 44 = .ok (.invokevirtual 318, 3) := by decide +kernel
theorem dX10_name_47 : decode cX10_name 47 = .ok (.iload_n 1, 1) := by decide +kernel
theorem dX10_name_48 : decode cX10_name 48 = .ok (.ireturn, 1) := by decide +kernel
set_option maxHeartbeats 4000000 in
set_option maxRecDepth 100000 in
theorem ct_X10_name_yes (ll : Launch) (D : va_G) (ta : Nat → ClassId) {G : (Nat → Prop) → State → Heap → Prop} (hGok : GOK G) (h0 : Nat) (a : Nat → Nat) (ar : Nat) (mn : Nat) (tp : Nat) (osz : Nat) (lsz : Nat) (ns : Nat) (ct : Nat) (gtp : Nat → BitVec 8) (gna : Nat → BitVec 8) (se : Nat → Nat) (htp : tp ≤ 16) (sz : Nat) : CT ll yX10_name cX10_name 3 (some .int) ({ frames := 1, cells := 0, slots := 0, locals := 21 } : Room) D ta G [.ref h0] [(h0, oM a ar mn tp osz lsz ns ct), (a 27, aS ta 400 gtp), (a 33, aS ta 16 gna), (a 39, aK ta 2 se)] sz (S := (Nat → BitVec 8) × (Nat → Nat)) (fun u => some (.int (nI tp))) (fun u => (qL u.1 tp = qL gtp tp) ∧ (u.2 0 = 0) ∧ (u.2 1 = 0)) (fun u => [(h0, oM a ar mn 0 osz 0 tp ct), (a 27, aS ta 400 gtp), (a 33, aS ta 16 u.1), (a 39, aK ta 2 u.2)]) 0 0 := by
  refine CT.of_i (r := fun u => nI tp) rfl (by decide) (Nat.le_of_ble_eq_true rfl) ?_
  intro pp ee ss mm below meth kc A Q hx hb hml hown hin hts hK hA hsz hG hret H locs hP hD hS ls hl
  have hl : lv_has ls 3 [(0, .ref h0)] := hl
  refine lv_aload_n (pc := 0) hx hb dX10_name_0 rfl (lv_at hl 0 rfl) ?_
  refine cs_V (pc := 1) (idx := 310) (n := 0) (wr := [(a 27, aS ta 400 gtp), (a 33, aS ta 16 gna), (a 39, aK ta 2 se)]) (As := []) (rest := []) (ci := 8) hx hb hml hown hts hGok hK hA hG hl.1 hP hD hS (ct_X10_use ll D ta hGok h0 a ar mn tp osz lsz ns ct  H.size) tw_1254 tw_1251 tw_1253 tw_28 tw_75 hdX10_use rfl ⟨rfl, rfl, Nat.le_of_ble_eq_true rfl, Nat.le_of_ble_eq_true rfl, Nat.le_of_ble_eq_true rfl, Nat.le_of_ble_eq_true rfl⟩ rfl rfl (q0 := 0) rfl [0] [1, 2, 3] rfl rfl (by decide) rfl (Nat.le_of_ble_eq_true rfl) dX10_name_1 (fun u H locs hq hP hD hS => ?_)
  refine W.eq (g2 := F0 mm 4 ls [.int (nI tp)]) rfl ?_
  have hP : va_P D vwCl [(a 27, aS ta 400 gtp), (a 33, aS ta 16 gna), (a 39, aK ta 2 se), (h0, oM a ar mn 0 osz lsz ns ct)] H := hP
  have hD : va_D A [(a 27, aS ta 400 gtp), (a 33, aS ta 16 gna), (a 39, aK ta 2 se), (h0, oM a ar mn 0 osz lsz ns ct)] := hD
  refine lv_istore_n (pc := 4) (lv' := [(1, .int (nI tp)), (0, .ref h0)]) hx hb dX10_name_4 rfl hl (by decide) rfl (fun ls hl => ?_)
  refine lv_iload_n (pc := 5) hx hb dX10_name_5 rfl (lv_at hl 0 rfl) ?_
  refine lv_bipush (pc := 6) (v := nI 16) hx hb dX10_name_6 (by decide +kernel) ?_
  refine lv_icmp_le (pc := 8) (tgt := 13) hx hb dX10_name_8 (by decide) (fun c_1 => ?_) (fun c_1 => ?_)
  · skip
    rw [nI_leI (by omega) (by omega)] at c_1
    refine lv_iconst (pc := 13) (v := nI 0) hx hb dX10_name_13 (by decide +kernel) ?_
    refine lv_istore_n (pc := 14) (lv' := [(2, .int (nI 0)), (1, .int (nI tp)), (0, .ref h0)]) hx hb dX10_name_14 rfl hl (by decide) rfl (fun ls hl => ?_)
    have LP15 : ∀ (nn15 : Nat) (k : Nat) (g' : Nat → BitVec 8), (k ≤ tp) → (qSeg g' gna 0 k gtp) → (tp - k < nn15) → ∀ (H : Heap) (locs : List Loc), va_P D vwCl [(a 27, aS ta 400 gtp), (a 33, aS ta 16 g'), (a 39, aK ta 2 se), (h0, oM a ar mn 0 osz lsz ns ct)] H → va_D A [(a 27, aS ta 400 gtp), (a 33, aS ta 16 g'), (a 39, aK ta 2 se), (h0, oM a ar mn 0 osz lsz ns ct)] → va_S A ss.heap H locs → ∀ ls : Array Slot, lv_has ls 3 [(2, .int (nI k)), (1, .int (nI tp)), (0, .ref h0)] → W pp ll ee ({ frames := 1, cells := 0, slots := 0, locals := 21 } : Room) ss mm (([.ref h0] : List Value).toArray) below meth kc H locs 0 0 Q (F0 mm 15 ls []) := by
      intro nn15
      induction nn15 with
      | zero => intro k g' hkk hs hmu; exact absurd hmu (Nat.not_lt_zero _)
      | succ nn15 ih15 =>
        intro k g' hkk hs hmu15 H locs hP hD hS ls hl
        refine lv_iload_n (pc := 15) hx hb dX10_name_15 rfl (lv_at hl 0 rfl) ?_
        refine lv_iload_n (pc := 16) hx hb dX10_name_16 rfl (lv_at hl 1 rfl) ?_
        refine lv_icmp_ge (pc := 17) (tgt := 38) hx hb dX10_name_17 (by decide) (fun c_2 => ?_) (fun c_2 => ?_)
        · skip
          rw [nI_leI (by omega) (by omega)] at c_2
          refine lv_aload_n (pc := 38) hx hb dX10_name_38 rfl (lv_at hl 2 rfl) ?_
          refine lv_iload_n (pc := 39) hx hb dX10_name_39 rfl (lv_at hl 1 rfl) ?_
          refine va_put (pc := 40) (D := D) (ci := 8) (v := .int (nI tp)) (ty := .int) (C := RX10) (T := TX10) (N := 57) hx hb hts iu10 tyX10 tyX10_ok nmX10 hown hK hP hD hS 3 rfl rfl 34 (by decide) (hts _ tw_1079) (fun _ h9 => h9) rfl (by decide +kernel) rfl rfl (Nat.le_of_ble_eq_true rfl) dX10_name_40 (fun H locs hP hD hS => ?_)
          have hP : va_P D vwCl [(a 27, aS ta 400 gtp), (a 33, aS ta 16 g'), (a 39, aK ta 2 se), (h0, oM a ar mn 0 osz lsz tp ct)] H := hP
          have hD : va_D A [(a 27, aS ta 400 gtp), (a 33, aS ta 16 g'), (a 39, aK ta 2 se), (h0, oM a ar mn 0 osz lsz tp ct)] := hD
          refine lv_aload_n (pc := 43) hx hb dX10_name_43 rfl (lv_at hl 2 rfl) ?_
          refine cs_V (pc := 44) (idx := 318) (n := 0) (wr := [(a 27, aS ta 400 gtp), (a 33, aS ta 16 g')]) (As := []) (rest := []) (ci := 8) hx hb hml hown hts hGok hK hA hG hl.1 hP hD hS (ct_X10_none ll D ta hGok h0 a ar mn 0 osz lsz tp ct se  H.size) tw_1265 tw_1262 tw_1264 tw_29 tw_75 hdX10_none rfl ⟨rfl, rfl, Nat.le_of_ble_eq_true rfl, Nat.le_of_ble_eq_true rfl, Nat.le_of_ble_eq_true rfl, Nat.le_of_ble_eq_true rfl⟩ rfl rfl (q0 := 3) rfl [3, 2] [0, 1] rfl rfl (by decide) rfl (Nat.le_of_ble_eq_true rfl) dX10_name_44 (fun u H locs hq hP hD hS => ?_)
          generalize u = se1_44 at hq hP hD ⊢
          have hq : (se1_44 0 = 0) ∧ (se1_44 1 = 0) := hq
          obtain ⟨hs0_44, hs1_44⟩ := hq
          refine W.eq (g2 := F0 mm 47 ls []) rfl ?_
          have hP : va_P D vwCl [(a 27, aS ta 400 gtp), (a 33, aS ta 16 g'), (h0, oM a ar mn 0 osz 0 tp ct), (a 39, aK ta 2 se1_44)] H := hP
          have hD : va_D A [(a 27, aS ta 400 gtp), (a 33, aS ta 16 g'), (h0, oM a ar mn 0 osz 0 tp ct), (a 39, aK ta 2 se1_44)] := hD
          refine lv_iload_n (pc := 47) hx hb dX10_name_47 rfl (lv_at hl 1 rfl) ?_
          have hq_3 : (qL g' tp = qL gtp tp) ∧ (se1_44 0 = 0) ∧ (se1_44 1 = 0) := by
            refine ⟨?_, hs0_44, hs1_44⟩
            rw [← seg_0, seg_copy0 hs (by omega)]
          exact hret (⟨(g'), (se1_44)⟩ : (Nat → BitVec 8) × (Nat → Nat)) _ _ _ _ dX10_name_48 hq_3 (hP.sub [2, 0, 1, 3] rfl) (hD.sub [2, 0, 1, 3] (by decide) rfl) hS
        · skip
          rw [nI_leI (by omega) (by omega)] at c_2
          refine lv_aload_n (pc := 20) hx hb dX10_name_20 rfl (lv_at hl 2 rfl) ?_
          refine va_get (pc := 21) (D := D) (ci := 8) (v := .ref (a 33)) (C := RX10) (T := TX10) (N := 57) hx hb hts iu10 hown hK hP 3 rfl rfl 33 (by decide) (hts _ tw_1078) (fun _ h9 => h9) rfl dX10_name_21 ?_
          refine lv_iload_n (pc := 24) hx hb dX10_name_24 rfl (lv_at hl 0 rfl) ?_
          refine lv_aload_n (pc := 25) hx hb dX10_name_25 rfl (lv_at hl 2 rfl) ?_
          refine va_get (pc := 26) (D := D) (ci := 8) (v := .ref (a 27)) (C := RX10) (T := TX10) (N := 57) hx hb hts iu10 hown hK hP 3 rfl rfl 27 (by decide) (hts _ tw_1072) (fun _ h9 => h9) rfl dX10_name_26 ?_
          refine lv_iload_n (pc := 29) hx hb dX10_name_29 rfl (lv_at hl 0 rfl) ?_
          refine q_bald (pc := 30) hx hb hK hP 0 2 rfl rfl (k := k) (v := qs (gtp k)) rfl (by omega) (by omega) rfl dX10_name_30 ?_
          refine q_bastS (pc := 31) hx hb hK hP hD hS 1 2 rfl rfl (k := k) rfl (by omega) (by omega) (b := gtp k) (qlo_qs _) dX10_name_31 (fun H locs hP hD hS => ?_)
          have hP : va_P D vwCl [(a 27, aS ta 400 gtp), (a 33, aS ta 16 (qU g' k (gtp k))), (a 39, aK ta 2 se), (h0, oM a ar mn 0 osz lsz ns ct)] H := hP
          have hD : va_D A [(a 27, aS ta 400 gtp), (a 33, aS ta 16 (qU g' k (gtp k))), (a 39, aK ta 2 se), (h0, oM a ar mn 0 osz lsz ns ct)] := hD
          refine lv_iinc (pc := 32) (v := nI (k + 1)) (lv' := [(2, .int (nI (k + 1))), (1, .int (nI tp)), (0, .ref h0)]) hx hb dX10_name_32 hl (k := 0) rfl (by first | exact nI_add k 1 | rfl) (by decide) rfl (fun ls hl => ?_)
          refine lv_goto (pc := 35) (tgt := 15) hx hb dX10_name_35 (by decide) ?_
          exact ih15 (k + 1) (qU g' k (gtp k)) (by omega) (qSeg_s hs (by omega) (by first | rfl | (simp; done))) (by omega) _ _ (hP.sub [0, 1, 2, 3] rfl) (hD.sub [0, 1, 2, 3] (by decide) rfl) hS ls (lv_sub hl [0, 1, 2] rfl)
    exact LP15 _ 0 gna (by omega) (qSeg_0) (Nat.lt_succ_self _) _ _ (hP.sub [0, 1, 2, 3] rfl) (hD.sub [0, 1, 2, 3] (by decide) rfl) hS ls (lv_sub hl [0, 1, 2] rfl)
  · skip
    rw [nI_leI (by omega) (by omega)] at c_1
    exfalso; omega
set_option maxHeartbeats 4000000 in
set_option maxRecDepth 100000 in
theorem ct_X10_name_no (ll : Launch) (D : va_G) (ta : Nat → ClassId) {G : (Nat → Prop) → State → Heap → Prop} (hGok : GOK G) (h0 : Nat) (a : Nat → Nat) (ar : Nat) (mn : Nat) (tp : Nat) (osz : Nat) (lsz : Nat) (ns : Nat) (ct : Nat) (htp : 16 < tp ∧ tp ≤ 400) (sz : Nat) : CT ll yX10_name cX10_name 3 (some .int) ({ frames := 1, cells := 0, slots := 0, locals := 21 } : Room) D ta G [.ref h0] [(h0, oM a ar mn tp osz lsz ns ct)] sz (S := Int32) (fun u => some (.int u)) (fun u => ((u : Int32) = -1)) (fun u => [(h0, oM a ar mn 0 osz lsz ns ct)]) 0 0 := by
  refine CT.of_i (r := fun u => u) rfl (by decide) (Nat.le_of_ble_eq_true rfl) ?_
  intro pp ee ss mm below meth kc A Q hx hb hml hown hin hts hK hA hsz hG hret H locs hP hD hS ls hl
  have hl : lv_has ls 3 [(0, .ref h0)] := hl
  refine lv_aload_n (pc := 0) hx hb dX10_name_0 rfl (lv_at hl 0 rfl) ?_
  refine cs_V (pc := 1) (idx := 310) (n := 0) (wr := []) (As := []) (rest := []) (ci := 8) hx hb hml hown hts hGok hK hA hG hl.1 hP hD hS (ct_X10_use ll D ta hGok h0 a ar mn tp osz lsz ns ct  H.size) tw_1254 tw_1251 tw_1253 tw_28 tw_75 hdX10_use rfl ⟨rfl, rfl, Nat.le_of_ble_eq_true rfl, Nat.le_of_ble_eq_true rfl, Nat.le_of_ble_eq_true rfl, Nat.le_of_ble_eq_true rfl⟩ rfl rfl (q0 := 0) rfl [0] [] rfl rfl (by decide) rfl (Nat.le_of_ble_eq_true rfl) dX10_name_1 (fun u H locs hq hP hD hS => ?_)
  refine W.eq (g2 := F0 mm 4 ls [.int (nI tp)]) rfl ?_
  have hP : va_P D vwCl [(h0, oM a ar mn 0 osz lsz ns ct)] H := hP
  have hD : va_D A [(h0, oM a ar mn 0 osz lsz ns ct)] := hD
  refine lv_istore_n (pc := 4) (lv' := [(1, .int (nI tp)), (0, .ref h0)]) hx hb dX10_name_4 rfl hl (by decide) rfl (fun ls hl => ?_)
  refine lv_iload_n (pc := 5) hx hb dX10_name_5 rfl (lv_at hl 0 rfl) ?_
  refine lv_bipush (pc := 6) (v := nI 16) hx hb dX10_name_6 (by decide +kernel) ?_
  refine lv_icmp_le (pc := 8) (tgt := 13) hx hb dX10_name_8 (by decide) (fun c_1 => ?_) (fun c_1 => ?_)
  · skip
    rw [nI_leI (by omega) (by omega)] at c_1
    exfalso; omega
  · skip
    rw [nI_leI (by omega) (by omega)] at c_1
    refine lv_iconst (pc := 11) (v := (-1)) hx hb dX10_name_11 (by decide +kernel) ?_
    refine q_top (y := (-1)) (by first | rfl | decide +kernel | (simp; done)) ?_
    have hq_2 : (((-1) : Int32) = -1) := by
      first | rfl | trivial | (refine ⟨?_, ?_⟩ <;> rfl) | (simp; done) | omega
    exact hret (-1) _ _ _ _ dX10_name_12 hq_2 (hP.sub [0] rfl) (hD.sub [0] (by decide) rfl) hS
theorem hdX10_counter : yX10_counter.cls ≠ "java/lang/invoke/MethodHandle" ∧ yX10_counter.cls ≠ "java/lang/invoke/VarHandle" ∧ (parseMethodDescriptor yX10_counter.desc).map (fun d => d.parameters.length) = some 1 := ⟨by decide +kernel, by decide +kernel, by decide +kernel⟩
theorem dX10_counter_0 : decode cX10_counter 0 = .ok (.iload_n 1, 1) := by decide +kernel
theorem dX10_counter_1 : decode cX10_counter 1 = .ok (.ifCond .lt 10, 3) := by decide +kernel
theorem dX10_counter_4 : decode cX10_counter 4 = .ok (.iload_n 1, 1) := by decide +kernel
theorem dX10_counter_5 : decode cX10_counter 5 = .ok (.ldc_w 324, 3) := by decide +kernel
theorem dX10_counter_8 : decode cX10_counter 8 = .ok (.if_icmp .le 5, 3) := by decide +kernel
theorem dX10_counter_11 : decode cX10_counter 11 = .ok (.iconst (-1), 1) := by decide +kernel
theorem dX10_counter_12 : decode cX10_counter 12 = .ok (.ireturn, 1) := by decide +kernel
theorem dX10_counter_13 : decode cX10_counter 13 = .ok (.aload_n 0, 1) := by decide +kernel
theorem dX10_counter_14 : decode cX10_counter 14 = .ok (.iload_n 1, 1) := by decide +kernel
theorem dX10_counter_15 : decode cX10_counter 15 = .ok (.putfield 325, 3) := by decide +kernel
theorem dX10_counter_18 : decode cX10_counter 18 = .ok (.iconst 1, 1) := by decide +kernel
theorem dX10_counter_19 : decode cX10_counter 19 = .ok (.ireturn, 1) := by decide +kernel
set_option maxHeartbeats 4000000 in
set_option maxRecDepth 100000 in
theorem ct_X10_counter_yes (ll : Launch) (D : va_G) (ta : Nat → ClassId) {G : (Nat → Prop) → State → Heap → Prop} (hGok : GOK G) (h0 : Nat) (a : Nat → Nat) (ar : Nat) (mn : Nat) (tp : Nat) (osz : Nat) (lsz : Nat) (ns : Nat) (ct : Nat) (n : Nat) (hn : n ≤ 16777215) (sz : Nat) : CT ll yX10_counter cX10_counter 2 (some .int) ({ frames := 0, cells := 0, slots := 0, locals := 0 } : Room) D ta G [.ref h0, .int (nI n)] [(h0, oM a ar mn tp osz lsz ns ct)] sz (S := Unit) (fun u => some (.int (nI 1))) (fun u => True) (fun u => [(h0, oM a ar mn tp osz lsz ns n)]) 0 0 := by
  refine CT.of_i (r := fun u => nI 1) rfl (by decide) (Nat.le_of_ble_eq_true rfl) ?_
  intro pp ee ss mm below meth kc A Q hx hb hml hown hin hts hK hA hsz hG hret H locs hP hD hS ls hl
  have hl : lv_has ls 2 [(0, .ref h0), (1, .int (nI n))] := hl
  refine lv_iload_n (pc := 0) hx hb dX10_counter_0 rfl (lv_at hl 1 rfl) ?_
  refine lv_if_lt (pc := 1) (tgt := 11) hx hb dX10_counter_1 (by decide) (fun c_1 => ?_) (fun _ => ?_)
  · skip
    rw [q_lt0 (by omega)] at c_1
    exact c_1.elim
  refine lv_iload_n (pc := 4) hx hb dX10_counter_4 rfl (lv_at hl 1 rfl) ?_
  refine lv_ldcw (pc := 5) (v := (nI 16777215)) hx hb hown (q_at (hts _ tw_1274) (by decide +kernel)) dX10_counter_5 ?_
  refine lv_icmp_le (pc := 8) (tgt := 13) hx hb dX10_counter_8 (by decide) (fun c_2 => ?_) (fun c_2 => ?_)
  · skip
    rw [nI_leI (by omega) (by omega)] at c_2
    refine lv_aload_n (pc := 13) hx hb dX10_counter_13 rfl (lv_at hl 0 rfl) ?_
    refine lv_iload_n (pc := 14) hx hb dX10_counter_14 rfl (lv_at hl 1 rfl) ?_
    refine va_put (pc := 15) (D := D) (ci := 8) (v := .int (nI n)) (ty := .int) (C := RX10) (T := TX10) (N := 57) hx hb hts iu10 tyX10 tyX10_ok nmX10 hown hK hP hD hS 0 rfl rfl 35 (by decide) (hts _ tw_1080) (fun _ h9 => h9) rfl (by decide +kernel) rfl rfl (Nat.le_of_ble_eq_true rfl) dX10_counter_15 (fun H locs hP hD hS => ?_)
    have hP : va_P D vwCl [(h0, oM a ar mn tp osz lsz ns n)] H := hP
    have hD : va_D A [(h0, oM a ar mn tp osz lsz ns n)] := hD
    refine lv_iconst (pc := 18) (v := nI 1) hx hb dX10_counter_18 (by decide +kernel) ?_
    have hq_3 : True := trivial
    exact hret () _ _ _ _ dX10_counter_19 hq_3 (hP.sub [0] rfl) (hD.sub [0] (by decide) rfl) hS
  · skip
    rw [nI_leI (by omega) (by omega)] at c_2
    exfalso; omega
set_option maxHeartbeats 4000000 in
set_option maxRecDepth 100000 in
theorem ct_X10_counter_no (ll : Launch) (D : va_G) (ta : Nat → ClassId) {G : (Nat → Prop) → State → Heap → Prop} (hGok : GOK G) (h0 : Nat) (a : Nat → Nat) (ar : Nat) (mn : Nat) (tp : Nat) (osz : Nat) (lsz : Nat) (ns : Nat) (ct : Nat) (i : Int32) (hi : ¬ (0 ≤ i.toInt ∧ i.toInt ≤ 16777215)) (sz : Nat) : CT ll yX10_counter cX10_counter 2 (some .int) ({ frames := 0, cells := 0, slots := 0, locals := 0 } : Room) D ta G [.ref h0, .int i] [(h0, oM a ar mn tp osz lsz ns ct)] sz (S := Int32) (fun u => some (.int u)) (fun u => ((u : Int32) = -1)) (fun u => [(h0, oM a ar mn tp osz lsz ns ct)]) 0 0 := by
  refine CT.of_i (r := fun u => u) rfl (by decide) (Nat.le_of_ble_eq_true rfl) ?_
  intro pp ee ss mm below meth kc A Q hx hb hml hown hin hts hK hA hsz hG hret H locs hP hD hS ls hl
  have hl : lv_has ls 2 [(0, .ref h0), (1, .int i)] := hl
  refine lv_iload_n (pc := 0) hx hb dX10_counter_0 rfl (lv_at hl 1 rfl) ?_
  refine lv_if_lt (pc := 1) (tgt := 11) hx hb dX10_counter_1 (by decide) (fun c_1 => ?_) (fun c_1 => ?_)
  · skip
    have hc0 := c_1
    refine lv_iconst (pc := 11) (v := (-1)) hx hb dX10_counter_11 (by decide +kernel) ?_
    refine q_top (y := (-1)) (by first | rfl | decide +kernel | (simp; done)) ?_
    have hq_2 : (((-1) : Int32) = -1) := by
      first | rfl | trivial | (refine ⟨?_, ?_⟩ <;> rfl) | (simp; done) | omega
    exact hret (-1) _ _ _ _ dX10_counter_12 hq_2 (hP.sub [0] rfl) (hD.sub [0] (by decide) rfl) hS
  · skip
    have hc0 := c_1
    refine lv_iload_n (pc := 4) hx hb dX10_counter_4 rfl (lv_at hl 1 rfl) ?_
    refine lv_ldcw (pc := 5) (v := (nI 16777215)) hx hb hown (q_at (hts _ tw_1274) (by decide +kernel)) dX10_counter_5 ?_
    refine lv_icmp_le (pc := 8) (tgt := 13) hx hb dX10_counter_8 (by decide) (fun c_3 => ?_) (fun c_3 => ?_)
    · skip
      exact absurd (ct_ok hc0 c_3) hi
    · skip
      refine lv_iconst (pc := 11) (v := (-1)) hx hb dX10_counter_11 (by decide +kernel) ?_
      refine q_top (y := (-1)) (by first | rfl | decide +kernel | (simp; done)) ?_
      have hq_4 : (((-1) : Int32) = -1) := by
        first | rfl | trivial | (refine ⟨?_, ?_⟩ <;> rfl) | (simp; done) | omega
      exact hret (-1) _ _ _ _ dX10_counter_12 hq_4 (hP.sub [0] rfl) (hD.sub [0] (by decide) rfl) hS
theorem hdX10_keys : yX10_keys.cls ≠ "java/lang/invoke/MethodHandle" ∧ yX10_keys.cls ≠ "java/lang/invoke/VarHandle" ∧ (parseMethodDescriptor yX10_keys.desc).map (fun d => d.parameters.length) = some 2 := ⟨by decide +kernel, by decide +kernel, by decide +kernel⟩
theorem dX10_keys_0 : decode cX10_keys 0 = .ok (.aload_n 0, 1) := by decide +kernel
theorem dX10_keys_1 : decode cX10_keys 1 = .ok (.invokevirtual 310, 3) := by decide +kernel
theorem dX10_keys_4 : decode cX10_keys 4 = .ok (.istore_n 3, 1) := by decide +kernel
theorem dX10_keys_5 : decode cX10_keys 5 = .ok (.iload_n 1, 1) := by decide +kernel
theorem dX10_keys_6 : decode cX10_keys 6 = .ok (.invokestatic 314, 3) := by decide +kernel
theorem dX10_keys_9 : decode cX10_keys 9 = .ok (.ifCond .eq 44, 3) := by decide +kernel
theorem dX10_keys_12 : decode cX10_keys 12 = .ok (.iload_n 2, 1) := by decide +kernel
theorem dX10_keys_13 : decode cX10_keys 13 = .ok (.iconst 2, 1) := by decide +kernel
theorem dX10_keys_14 : decode cX10_keys 14 = .ok (.if_icmp .ne 12, 3) := by decide +kernel
theorem dX10_keys_17 : decode cX10_keys 17 = .ok (.iload_n 3, 1) := by decide +kernel
theorem dX10_keys_18 : decode cX10_keys 18 = .ok (.bipush 48, 2) := by decide +kernel
theorem dX10_keys_20 : decode cX10_keys 20 = .ok (.if_icmp .ne 33, 3) := by decide +kernel
theorem dX10_keys_23 : decode cX10_keys 23 = .ok (.goto 26, 3) := by decide +kernel
theorem dX10_keys_26 : decode cX10_keys 26 = .ok (.iload_n 2, 1) := by decide +kernel
theorem dX10_keys_27 : decode cX10_keys 27 = .ok (.iconst 3, 1) := by decide +kernel
theorem dX10_keys_28 : decode cX10_keys 28 = .ok (.if_icmp .ne 25, 3) := by decide +kernel
theorem dX10_keys_31 : decode cX10_keys 31 = .ok (.iload_n 3, 1) := by decide +kernel
theorem dX10_keys_32 : decode cX10_keys 32 = .ok (.bipush 48, 2) := by decide +kernel
theorem dX10_keys_34 : decode cX10_keys 34 = .ok (.if_icmp .eq 15, 3) := by decide +kernel
theorem dX10_keys_37 : decode cX10_keys 37 = .ok (.iload_n 3, 1) := by decide +kernel
theorem dX10_keys_38 : decode cX10_keys 38 = .ok (.bipush 72, 2) := by decide +kernel
theorem dX10_keys_40 : decode cX10_keys 40 = .ok (.if_icmp .eq 9, 3) := by decide +kernel
theorem dX10_keys_43 : decode cX10_keys 43 = .ok (.iload_n 3, 1) := by decide +kernel
theorem dX10_keys_44 : decode cX10_keys 44 = .ok (.bipush 96, 2) := by decide +kernel
theorem dX10_keys_46 : decode cX10_keys 46 = .ok (.if_icmp .ne 7, 3) := by decide +kernel
theorem dX10_keys_49 : decode cX10_keys 49 = .ok (.iconst 1, 1) := by decide +kernel
theorem dX10_keys_50 : decode cX10_keys 50 = .ok (.goto 4, 3) := by decide +kernel
theorem dX10_keys_53 : decode cX10_keys 53 = .ok (.iconst 0, 1) := by decide +kernel
theorem dX10_keys_54 : decode cX10_keys 54 = .ok (.istore 4, 2) := by decide +kernel
theorem dX10_keys_56 : decode cX10_keys 56 = .ok (.iload 4, 2) := by decide +kernel
theorem dX10_keys_58 : decode cX10_keys 58 = .ok (.ifCond .ne 5, 3) := by decide +kernel
theorem dX10_keys_61 : decode cX10_keys 61 = .ok (.iconst (-1), 1) := by decide +kernel
theorem dX10_keys_62 : decode cX10_keys 62 = .ok (.ireturn, 1) := by decide +kernel
theorem dX10_keys_63 : decode cX10_keys 63 = .ok (.aload_n 0, 1) := by decide +kernel
theorem dX10_keys_64 : decode cX10_keys 64 = .ok (.getfield 231, 3) := by decide +kernel
theorem dX10_keys_67 : decode cX10_keys 67 = .ok (.iload_n 1, 1) := by decide +kernel
theorem dX10_keys_68 : decode cX10_keys 68 = .ok (.iload_n 2, 1) := by decide +kernel
theorem dX10_keys_69 : decode cX10_keys 69 = .ok (.iastore, 1) := by decide +kernel
theorem dX10_keys_70 : decode cX10_keys 70 = .ok (.aload_n 0, 1) := by decide +kernel
theorem dX10_keys_71 : decode cX10_keys 71 = .ok (.getfield 234, 3) := by decide +kernel
theorem dX10_keys_74 : decode cX10_keys 74 = .ok (.iload_n 1, 1) := by decide +kernel
theorem dX10_keys_75 : decode cX10_keys 75 = .ok (.iload_n 3, 1) := by decide +kernel
theorem dX10_keys_76 : decode cX10_keys 76 = .ok (.iconst 3, 1) := by decide +kernel
theorem dX10_keys_77 : decode cX10_keys 77 = .ok (.idiv, 1) := by decide +kernel
theorem dX10_keys_78 : decode cX10_keys 78 = .ok (.iastore, 1) := by decide +kernel
theorem dX10_keys_79 : decode cX10_keys 79 = .ok (.iconst 0, 1) := by decide +kernel
theorem dX10_keys_80 : decode cX10_keys 80 = .ok (.istore 5, 2) := by decide +kernel
theorem dX10_keys_82 : decode cX10_keys 82 = .ok (.iload 5, 2) := by decide +kernel
theorem dX10_keys_84 : decode cX10_keys 84 = .ok (.iconst 3, 1) := by decide +kernel
theorem dX10_keys_85 : decode cX10_keys 85 = .ok (.if_icmp .ge 58, 3) := by decide +kernel
theorem dX10_keys_88 : decode cX10_keys 88 = .ok (.iconst 0, 1) := by decide +kernel
theorem dX10_keys_89 : decode cX10_keys 89 = .ok (.istore 6, 2) := by decide +kernel
theorem dX10_keys_91 : decode cX10_keys 91 = .ok (.iload 6, 2) := by decide +kernel
theorem dX10_keys_93 : decode cX10_keys 93 = .ok (.iload_n 3, 1) := by decide +kernel
theorem dX10_keys_94 : decode cX10_keys 94 = .ok (.iconst 3, 1) := by decide +kernel
theorem dX10_keys_95 : decode cX10_keys 95 = .ok (.idiv, 1) := by decide +kernel
theorem dX10_keys_96 : decode cX10_keys 96 = .ok (.if_icmp .ge 41, 3) := by decide +kernel
theorem dX10_keys_99 : decode cX10_keys 99 = .ok (.aload_n 0, 1) := by decide +kernel
theorem dX10_keys_100 : decode cX10_keys 100 = .ok (.getfield 237, 3) := by decide +kernel
theorem dX10_keys_103 : decode cX10_keys 103 = .ok (.bipush 96, 2) := by decide +kernel
theorem dX10_keys_105 : decode cX10_keys 105 = .ok (.iload_n 1, 1) := by decide +kernel
theorem dX10_keys_106 : decode cX10_keys 106 = .ok (.imul, 1) := by decide +kernel
theorem dX10_keys_107 : decode cX10_keys 107 = .ok (.bipush 32, 2) := by decide +kernel
theorem dX10_keys_109 : decode cX10_keys 109 = .ok (.iload 5, 2) := by decide +kernel
theorem dX10_keys_111 : decode cX10_keys 111 = .ok (.imul, 1) := by decide +kernel
theorem dX10_keys_112 : decode cX10_keys 112 = .ok (.iadd, 1) := by decide +kernel
theorem dX10_keys_113 : decode cX10_keys 113 = .ok (.iload 6, 2) := by decide +kernel
theorem dX10_keys_115 : decode cX10_keys 115 = .ok (.iadd, 1) := by decide +kernel
theorem dX10_keys_116 : decode cX10_keys 116 = .ok (.aload_n 0, 1) := by decide +kernel
theorem dX10_keys_117 : decode cX10_keys 117 = .ok (.getfield 219, 3) := by decide +kernel
theorem dX10_keys_120 : decode cX10_keys 120 = .ok (.iload_n 3, 1) := by decide +kernel
theorem dX10_keys_121 : decode cX10_keys 121 = .ok (.iconst 3, 1) := by decide +kernel
theorem dX10_keys_122 : decode cX10_keys 122 = .ok (.idiv, 1) := by decide +kernel
theorem dX10_keys_123 : decode cX10_keys 123 = .ok (.iload 5, 2) := by decide +kernel
theorem dX10_keys_125 : decode cX10_keys 125 = .ok (.imul, 1) := by decide +kernel
theorem dX10_keys_126 : decode cX10_keys 126 = .ok (.iload 6, 2) := by decide +kernel
theorem dX10_keys_128 : decode cX10_keys 128 = .ok (.iadd, 1) := by decide +kernel
theorem dX10_keys_129 : decode cX10_keys 129 = .ok (.baload, 1) := by decide +kernel
theorem dX10_keys_130 : decode cX10_keys 130 = .ok (.bastore, 1) := by decide +kernel
theorem dX10_keys_131 : decode cX10_keys 131 = .ok (.iinc 6 1, 3) := by decide +kernel
theorem dX10_keys_134 : decode cX10_keys 134 = .ok (.goto (-43), 3) := by decide +kernel
theorem dX10_keys_137 : decode cX10_keys 137 = .ok (.iinc 5 1, 3) := by decide +kernel
theorem dX10_keys_140 : decode cX10_keys 140 = .ok (.goto (-58), 3) := by decide +kernel
theorem dX10_keys_143 : decode cX10_keys 143 = .ok (.aload_n 0, 1) := by decide +kernel
theorem dX10_keys_144 : decode cX10_keys 144 = .ok (.invokevirtual 318, 3) := by decide +kernel
theorem dX10_keys_147 : decode cX10_keys 147 = .ok (.iconst 1, 1) := by decide +kernel
theorem dX10_keys_148 : decode cX10_keys 148 = .ok (.ireturn, 1) := by decide +kernel
set_option maxHeartbeats 4000000 in
set_option maxRecDepth 100000 in
theorem ct_X10_keys_no (ll : Launch) (D : va_G) (ta : Nat → ClassId) {G : (Nat → Prop) → State → Heap → Prop} (hGok : GOK G) (h0 : Nat) (a : Nat → Nat) (ar : Nat) (mn : Nat) (tp : Nat) (osz : Nat) (lsz : Nat) (ns : Nat) (ct : Nat) (s9 : Int32) (r9 : Int32) (htp : tp ≤ 400) (hno : (s9 = nI 0 ∨ s9 = nI 1) → keyB r9 tp = false) (sz : Nat) : CT ll yX10_keys cX10_keys 7 (some .int) ({ frames := 1, cells := 0, slots := 0, locals := 21 } : Room) D ta G [.ref h0, .int s9, .int r9] [(h0, oM a ar mn tp osz lsz ns ct)] sz (S := Int32) (fun u => some (.int u)) (fun u => ((u : Int32) = -1)) (fun u => [(h0, oM a ar mn 0 osz lsz ns ct)]) 0 0 := by
  refine CT.of_i (r := fun u => u) rfl (by decide) (Nat.le_of_ble_eq_true rfl) ?_
  intro pp ee ss mm below meth kc A Q hx hb hml hown hin hts hK hA hsz hG hret H locs hP hD hS ls hl
  have hl : lv_has ls 7 [(0, .ref h0), (1, .int s9), (2, .int r9)] := hl
  refine lv_aload_n (pc := 0) hx hb dX10_keys_0 rfl (lv_at hl 0 rfl) ?_
  refine cs_V (pc := 1) (idx := 310) (n := 0) (wr := []) (As := []) (rest := []) (ci := 8) hx hb hml hown hts hGok hK hA hG hl.1 hP hD hS (ct_X10_use ll D ta hGok h0 a ar mn tp osz lsz ns ct  H.size) tw_1254 tw_1251 tw_1253 tw_28 tw_75 hdX10_use rfl ⟨rfl, rfl, Nat.le_of_ble_eq_true rfl, Nat.le_of_ble_eq_true rfl, Nat.le_of_ble_eq_true rfl, Nat.le_of_ble_eq_true rfl⟩ rfl rfl (q0 := 0) rfl [0] [] rfl rfl (by decide) rfl (Nat.le_of_ble_eq_true rfl) dX10_keys_1 (fun u H locs hq hP hD hS => ?_)
  refine W.eq (g2 := F0 mm 4 ls [.int (nI tp)]) rfl ?_
  have hP : va_P D vwCl [(h0, oM a ar mn 0 osz lsz ns ct)] H := hP
  have hD : va_D A [(h0, oM a ar mn 0 osz lsz ns ct)] := hD
  refine lv_istore_n (pc := 4) (lv' := [(3, .int (nI tp)), (0, .ref h0), (1, .int s9), (2, .int r9)]) hx hb dX10_keys_4 rfl hl (by decide) rfl (fun ls hl => ?_)
  by_cases hz0 : s9 = nI 0
  · skip
    have hk9 := hno (Or.inl hz0)
    subst hz0
    refine lv_iload_n (pc := 5) hx hb dX10_keys_5 rfl (lv_at hl 2 rfl) ?_
    refine cs_S (pc := 6) (idx := 314) (n := 1) (wr := [(h0, oM a ar mn 0 osz lsz ns ct)]) (As := [.int (nI 0)]) (rest := []) hx hb hml hown hts hGok hK hA hG hl.1 hP hD hS (ct_X10_isSide_s ll D ta hGok 0 (by first | assumption | omega | rfl | decide) H.size) tw_1261 tw_1259 tw_1260 tw_75 hdX10_isSide rfl ⟨rfl, rfl, Nat.le_of_ble_eq_true rfl, Nat.le_of_ble_eq_true rfl, Nat.le_of_ble_eq_true rfl, Nat.le_of_ble_eq_true rfl⟩ [] [0] rfl rfl (by decide) rfl (Nat.le_of_ble_eq_true rfl) dX10_keys_6 (fun u H locs hq hP hD hS => ?_)
    refine W.eq (g2 := F0 mm 9 ls [.int (qb true)]) rfl ?_
    have hP : va_P D vwCl [(h0, oM a ar mn 0 osz lsz ns ct)] H := hP
    have hD : va_D A [(h0, oM a ar mn 0 osz lsz ns ct)] := hD
    refine lv_if_eq (pc := 9) (tgt := 53) hx hb dX10_keys_9 (by decide) (fun c_1 => absurd c_1 (by decide)) (fun _ => ?_)
    refine lv_iload_n (pc := 12) hx hb dX10_keys_12 rfl (lv_at hl 3 rfl) ?_
    refine lv_iconst (pc := 13) (v := nI 2) hx hb dX10_keys_13 (by decide +kernel) ?_
    refine lv_icmp_ne (pc := 14) (tgt := 26) hx hb dX10_keys_14 (by decide) (fun c_2 => ?_) (fun c_2 => ?_)
    · skip
      refine lv_iload_n (pc := 26) hx hb dX10_keys_26 rfl (lv_at hl 3 rfl) ?_
      refine lv_iconst (pc := 27) (v := nI 3) hx hb dX10_keys_27 (by decide +kernel) ?_
      refine lv_icmp_ne (pc := 28) (tgt := 53) hx hb dX10_keys_28 (by decide) (fun c_3 => ?_) (fun c_3 => ?_)
      · skip
        refine lv_iconst (pc := 53) (v := nI 0) hx hb dX10_keys_53 (by decide +kernel) ?_
        refine lv_istore (pc := 54) (lv' := [(4, .int (nI 0)), (3, .int (nI tp)), (0, .ref h0), (1, .int (nI 0)), (2, .int r9)]) hx hb dX10_keys_54 hl (by decide) rfl (fun ls hl => ?_)
        refine lv_iload (pc := 56) hx hb dX10_keys_56 (lv_at hl 0 rfl) ?_
        refine lv_if_ne (pc := 58) (tgt := 63) hx hb dX10_keys_58 (by decide) (fun c_4 => absurd (by decide) c_4) (fun _ => ?_)
        refine lv_iconst (pc := 61) (v := (-1)) hx hb dX10_keys_61 (by decide +kernel) ?_
        refine q_top (y := (-1)) (by first | rfl | decide +kernel | (simp; done)) ?_
        have hq_5 : (((-1) : Int32) = -1) := by
          first | rfl | trivial | (refine ⟨?_, ?_⟩ <;> rfl) | (simp; done) | omega
        exact hret (-1) _ _ _ _ dX10_keys_62 hq_5 (hP.sub [0] rfl) (hD.sub [0] (by decide) rfl) hS
      · skip
        refine lv_iload_n (pc := 31) hx hb dX10_keys_31 rfl (lv_at hl 0 rfl) ?_
        refine lv_bipush (pc := 32) (v := nI 48) hx hb dX10_keys_32 (by decide +kernel) ?_
        refine lv_icmp_eq (pc := 34) (tgt := 49) hx hb dX10_keys_34 (by decide) (fun c_6 => ?_) (fun c_6 => ?_)
        · skip
          rw [nI_eq (by omega) (by omega)] at c_6
          exfalso; exact of_decide_eq_false hk9 (by first | (refine Or.inl ⟨by assumption, by omega⟩; done) | (refine Or.inr ⟨by assumption, by omega⟩; done))
        · skip
          rw [nI_eq (by omega) (by omega)] at c_6
          refine lv_iload_n (pc := 37) hx hb dX10_keys_37 rfl (lv_at hl 0 rfl) ?_
          refine lv_bipush (pc := 38) (v := nI 72) hx hb dX10_keys_38 (by decide +kernel) ?_
          refine lv_icmp_eq (pc := 40) (tgt := 49) hx hb dX10_keys_40 (by decide) (fun c_7 => ?_) (fun c_7 => ?_)
          · skip
            rw [nI_eq (by omega) (by omega)] at c_7
            exfalso; exact of_decide_eq_false hk9 (by first | (refine Or.inl ⟨by assumption, by omega⟩; done) | (refine Or.inr ⟨by assumption, by omega⟩; done))
          · skip
            rw [nI_eq (by omega) (by omega)] at c_7
            refine lv_iload_n (pc := 43) hx hb dX10_keys_43 rfl (lv_at hl 0 rfl) ?_
            refine lv_bipush (pc := 44) (v := nI 96) hx hb dX10_keys_44 (by decide +kernel) ?_
            refine lv_icmp_ne (pc := 46) (tgt := 53) hx hb dX10_keys_46 (by decide) (fun c_8 => ?_) (fun c_8 => ?_)
            · skip
              rw [nI_eq (by omega) (by omega)] at c_8
              refine lv_iconst (pc := 53) (v := nI 0) hx hb dX10_keys_53 (by decide +kernel) ?_
              refine lv_istore (pc := 54) (lv' := [(4, .int (nI 0)), (3, .int (nI tp)), (0, .ref h0), (1, .int (nI 0)), (2, .int r9)]) hx hb dX10_keys_54 hl (by decide) rfl (fun ls hl => ?_)
              refine lv_iload (pc := 56) hx hb dX10_keys_56 (lv_at hl 0 rfl) ?_
              refine lv_if_ne (pc := 58) (tgt := 63) hx hb dX10_keys_58 (by decide) (fun c_9 => absurd (by decide) c_9) (fun _ => ?_)
              refine lv_iconst (pc := 61) (v := (-1)) hx hb dX10_keys_61 (by decide +kernel) ?_
              refine q_top (y := (-1)) (by first | rfl | decide +kernel | (simp; done)) ?_
              have hq_10 : (((-1) : Int32) = -1) := by
                first | rfl | trivial | (refine ⟨?_, ?_⟩ <;> rfl) | (simp; done) | omega
              exact hret (-1) _ _ _ _ dX10_keys_62 hq_10 (hP.sub [0] rfl) (hD.sub [0] (by decide) rfl) hS
            · skip
              rw [nI_eq (by omega) (by omega)] at c_8
              exfalso; exact of_decide_eq_false hk9 (by first | (refine Or.inl ⟨by assumption, by omega⟩; done) | (refine Or.inr ⟨by assumption, by omega⟩; done))
    · skip
      refine lv_iload_n (pc := 17) hx hb dX10_keys_17 rfl (lv_at hl 0 rfl) ?_
      refine lv_bipush (pc := 18) (v := nI 48) hx hb dX10_keys_18 (by decide +kernel) ?_
      refine lv_icmp_ne (pc := 20) (tgt := 53) hx hb dX10_keys_20 (by decide) (fun c_11 => ?_) (fun c_11 => ?_)
      · skip
        rw [nI_eq (by omega) (by omega)] at c_11
        refine lv_iconst (pc := 53) (v := nI 0) hx hb dX10_keys_53 (by decide +kernel) ?_
        refine lv_istore (pc := 54) (lv' := [(4, .int (nI 0)), (3, .int (nI tp)), (0, .ref h0), (1, .int (nI 0)), (2, .int r9)]) hx hb dX10_keys_54 hl (by decide) rfl (fun ls hl => ?_)
        refine lv_iload (pc := 56) hx hb dX10_keys_56 (lv_at hl 0 rfl) ?_
        refine lv_if_ne (pc := 58) (tgt := 63) hx hb dX10_keys_58 (by decide) (fun c_12 => absurd (by decide) c_12) (fun _ => ?_)
        refine lv_iconst (pc := 61) (v := (-1)) hx hb dX10_keys_61 (by decide +kernel) ?_
        refine q_top (y := (-1)) (by first | rfl | decide +kernel | (simp; done)) ?_
        have hq_13 : (((-1) : Int32) = -1) := by
          first | rfl | trivial | (refine ⟨?_, ?_⟩ <;> rfl) | (simp; done) | omega
        exact hret (-1) _ _ _ _ dX10_keys_62 hq_13 (hP.sub [0] rfl) (hD.sub [0] (by decide) rfl) hS
      · skip
        rw [nI_eq (by omega) (by omega)] at c_11
        refine lv_goto (pc := 23) (tgt := 49) hx hb dX10_keys_23 (by decide) ?_
        exfalso; exact of_decide_eq_false hk9 (by first | (refine Or.inl ⟨by assumption, by omega⟩; done) | (refine Or.inr ⟨by assumption, by omega⟩; done))
  · skip
    by_cases hz1 : s9 = nI 1
    · skip
      have hk9 := hno (Or.inr hz1)
      subst hz1
      refine lv_iload_n (pc := 5) hx hb dX10_keys_5 rfl (lv_at hl 2 rfl) ?_
      refine cs_S (pc := 6) (idx := 314) (n := 1) (wr := [(h0, oM a ar mn 0 osz lsz ns ct)]) (As := [.int (nI 1)]) (rest := []) hx hb hml hown hts hGok hK hA hG hl.1 hP hD hS (ct_X10_isSide_s ll D ta hGok 1 (by first | assumption | omega | rfl | decide) H.size) tw_1261 tw_1259 tw_1260 tw_75 hdX10_isSide rfl ⟨rfl, rfl, Nat.le_of_ble_eq_true rfl, Nat.le_of_ble_eq_true rfl, Nat.le_of_ble_eq_true rfl, Nat.le_of_ble_eq_true rfl⟩ [] [0] rfl rfl (by decide) rfl (Nat.le_of_ble_eq_true rfl) dX10_keys_6 (fun u H locs hq hP hD hS => ?_)
      refine W.eq (g2 := F0 mm 9 ls [.int (qb true)]) rfl ?_
      have hP : va_P D vwCl [(h0, oM a ar mn 0 osz lsz ns ct)] H := hP
      have hD : va_D A [(h0, oM a ar mn 0 osz lsz ns ct)] := hD
      refine lv_if_eq (pc := 9) (tgt := 53) hx hb dX10_keys_9 (by decide) (fun c_14 => absurd c_14 (by decide)) (fun _ => ?_)
      refine lv_iload_n (pc := 12) hx hb dX10_keys_12 rfl (lv_at hl 3 rfl) ?_
      refine lv_iconst (pc := 13) (v := nI 2) hx hb dX10_keys_13 (by decide +kernel) ?_
      refine lv_icmp_ne (pc := 14) (tgt := 26) hx hb dX10_keys_14 (by decide) (fun c_15 => ?_) (fun c_15 => ?_)
      · skip
        refine lv_iload_n (pc := 26) hx hb dX10_keys_26 rfl (lv_at hl 3 rfl) ?_
        refine lv_iconst (pc := 27) (v := nI 3) hx hb dX10_keys_27 (by decide +kernel) ?_
        refine lv_icmp_ne (pc := 28) (tgt := 53) hx hb dX10_keys_28 (by decide) (fun c_16 => ?_) (fun c_16 => ?_)
        · skip
          refine lv_iconst (pc := 53) (v := nI 0) hx hb dX10_keys_53 (by decide +kernel) ?_
          refine lv_istore (pc := 54) (lv' := [(4, .int (nI 0)), (3, .int (nI tp)), (0, .ref h0), (1, .int (nI 1)), (2, .int r9)]) hx hb dX10_keys_54 hl (by decide) rfl (fun ls hl => ?_)
          refine lv_iload (pc := 56) hx hb dX10_keys_56 (lv_at hl 0 rfl) ?_
          refine lv_if_ne (pc := 58) (tgt := 63) hx hb dX10_keys_58 (by decide) (fun c_17 => absurd (by decide) c_17) (fun _ => ?_)
          refine lv_iconst (pc := 61) (v := (-1)) hx hb dX10_keys_61 (by decide +kernel) ?_
          refine q_top (y := (-1)) (by first | rfl | decide +kernel | (simp; done)) ?_
          have hq_18 : (((-1) : Int32) = -1) := by
            first | rfl | trivial | (refine ⟨?_, ?_⟩ <;> rfl) | (simp; done) | omega
          exact hret (-1) _ _ _ _ dX10_keys_62 hq_18 (hP.sub [0] rfl) (hD.sub [0] (by decide) rfl) hS
        · skip
          refine lv_iload_n (pc := 31) hx hb dX10_keys_31 rfl (lv_at hl 0 rfl) ?_
          refine lv_bipush (pc := 32) (v := nI 48) hx hb dX10_keys_32 (by decide +kernel) ?_
          refine lv_icmp_eq (pc := 34) (tgt := 49) hx hb dX10_keys_34 (by decide) (fun c_19 => ?_) (fun c_19 => ?_)
          · skip
            rw [nI_eq (by omega) (by omega)] at c_19
            exfalso; exact of_decide_eq_false hk9 (by first | (refine Or.inl ⟨by assumption, by omega⟩; done) | (refine Or.inr ⟨by assumption, by omega⟩; done))
          · skip
            rw [nI_eq (by omega) (by omega)] at c_19
            refine lv_iload_n (pc := 37) hx hb dX10_keys_37 rfl (lv_at hl 0 rfl) ?_
            refine lv_bipush (pc := 38) (v := nI 72) hx hb dX10_keys_38 (by decide +kernel) ?_
            refine lv_icmp_eq (pc := 40) (tgt := 49) hx hb dX10_keys_40 (by decide) (fun c_20 => ?_) (fun c_20 => ?_)
            · skip
              rw [nI_eq (by omega) (by omega)] at c_20
              exfalso; exact of_decide_eq_false hk9 (by first | (refine Or.inl ⟨by assumption, by omega⟩; done) | (refine Or.inr ⟨by assumption, by omega⟩; done))
            · skip
              rw [nI_eq (by omega) (by omega)] at c_20
              refine lv_iload_n (pc := 43) hx hb dX10_keys_43 rfl (lv_at hl 0 rfl) ?_
              refine lv_bipush (pc := 44) (v := nI 96) hx hb dX10_keys_44 (by decide +kernel) ?_
              refine lv_icmp_ne (pc := 46) (tgt := 53) hx hb dX10_keys_46 (by decide) (fun c_21 => ?_) (fun c_21 => ?_)
              · skip
                rw [nI_eq (by omega) (by omega)] at c_21
                refine lv_iconst (pc := 53) (v := nI 0) hx hb dX10_keys_53 (by decide +kernel) ?_
                refine lv_istore (pc := 54) (lv' := [(4, .int (nI 0)), (3, .int (nI tp)), (0, .ref h0), (1, .int (nI 1)), (2, .int r9)]) hx hb dX10_keys_54 hl (by decide) rfl (fun ls hl => ?_)
                refine lv_iload (pc := 56) hx hb dX10_keys_56 (lv_at hl 0 rfl) ?_
                refine lv_if_ne (pc := 58) (tgt := 63) hx hb dX10_keys_58 (by decide) (fun c_22 => absurd (by decide) c_22) (fun _ => ?_)
                refine lv_iconst (pc := 61) (v := (-1)) hx hb dX10_keys_61 (by decide +kernel) ?_
                refine q_top (y := (-1)) (by first | rfl | decide +kernel | (simp; done)) ?_
                have hq_23 : (((-1) : Int32) = -1) := by
                  first | rfl | trivial | (refine ⟨?_, ?_⟩ <;> rfl) | (simp; done) | omega
                exact hret (-1) _ _ _ _ dX10_keys_62 hq_23 (hP.sub [0] rfl) (hD.sub [0] (by decide) rfl) hS
              · skip
                rw [nI_eq (by omega) (by omega)] at c_21
                exfalso; exact of_decide_eq_false hk9 (by first | (refine Or.inl ⟨by assumption, by omega⟩; done) | (refine Or.inr ⟨by assumption, by omega⟩; done))
      · skip
        refine lv_iload_n (pc := 17) hx hb dX10_keys_17 rfl (lv_at hl 0 rfl) ?_
        refine lv_bipush (pc := 18) (v := nI 48) hx hb dX10_keys_18 (by decide +kernel) ?_
        refine lv_icmp_ne (pc := 20) (tgt := 53) hx hb dX10_keys_20 (by decide) (fun c_24 => ?_) (fun c_24 => ?_)
        · skip
          rw [nI_eq (by omega) (by omega)] at c_24
          refine lv_iconst (pc := 53) (v := nI 0) hx hb dX10_keys_53 (by decide +kernel) ?_
          refine lv_istore (pc := 54) (lv' := [(4, .int (nI 0)), (3, .int (nI tp)), (0, .ref h0), (1, .int (nI 1)), (2, .int r9)]) hx hb dX10_keys_54 hl (by decide) rfl (fun ls hl => ?_)
          refine lv_iload (pc := 56) hx hb dX10_keys_56 (lv_at hl 0 rfl) ?_
          refine lv_if_ne (pc := 58) (tgt := 63) hx hb dX10_keys_58 (by decide) (fun c_25 => absurd (by decide) c_25) (fun _ => ?_)
          refine lv_iconst (pc := 61) (v := (-1)) hx hb dX10_keys_61 (by decide +kernel) ?_
          refine q_top (y := (-1)) (by first | rfl | decide +kernel | (simp; done)) ?_
          have hq_26 : (((-1) : Int32) = -1) := by
            first | rfl | trivial | (refine ⟨?_, ?_⟩ <;> rfl) | (simp; done) | omega
          exact hret (-1) _ _ _ _ dX10_keys_62 hq_26 (hP.sub [0] rfl) (hD.sub [0] (by decide) rfl) hS
        · skip
          rw [nI_eq (by omega) (by omega)] at c_24
          refine lv_goto (pc := 23) (tgt := 49) hx hb dX10_keys_23 (by decide) ?_
          exfalso; exact of_decide_eq_false hk9 (by first | (refine Or.inl ⟨by assumption, by omega⟩; done) | (refine Or.inr ⟨by assumption, by omega⟩; done))
    · skip
      refine lv_iload_n (pc := 5) hx hb dX10_keys_5 rfl (lv_at hl 2 rfl) ?_
      refine cs_S (pc := 6) (idx := 314) (n := 1) (wr := [(h0, oM a ar mn 0 osz lsz ns ct)]) (As := [.int s9]) (rest := []) hx hb hml hown hts hGok hK hA hG hl.1 hP hD hS (ct_X10_isSide_no ll D ta hGok s9 (by first | assumption | omega | rfl | decide) (by first | assumption | omega | rfl | decide) H.size) tw_1261 tw_1259 tw_1260 tw_75 hdX10_isSide rfl ⟨rfl, rfl, Nat.le_of_ble_eq_true rfl, Nat.le_of_ble_eq_true rfl, Nat.le_of_ble_eq_true rfl, Nat.le_of_ble_eq_true rfl⟩ [] [0] rfl rfl (by decide) rfl (Nat.le_of_ble_eq_true rfl) dX10_keys_6 (fun u H locs hq hP hD hS => ?_)
      refine W.eq (g2 := F0 mm 9 ls [.int (qb false)]) rfl ?_
      have hP : va_P D vwCl [(h0, oM a ar mn 0 osz lsz ns ct)] H := hP
      have hD : va_D A [(h0, oM a ar mn 0 osz lsz ns ct)] := hD
      refine lv_if_eq (pc := 9) (tgt := 53) hx hb dX10_keys_9 (by decide) (fun _ => ?_) (fun c_27 => absurd (by decide) c_27)
      refine lv_iconst (pc := 53) (v := nI 0) hx hb dX10_keys_53 (by decide +kernel) ?_
      refine lv_istore (pc := 54) (lv' := [(4, .int (nI 0)), (3, .int (nI tp)), (0, .ref h0), (1, .int s9), (2, .int r9)]) hx hb dX10_keys_54 hl (by decide) rfl (fun ls hl => ?_)
      refine lv_iload (pc := 56) hx hb dX10_keys_56 (lv_at hl 0 rfl) ?_
      refine lv_if_ne (pc := 58) (tgt := 63) hx hb dX10_keys_58 (by decide) (fun c_28 => absurd (by decide) c_28) (fun _ => ?_)
      refine lv_iconst (pc := 61) (v := (-1)) hx hb dX10_keys_61 (by decide +kernel) ?_
      refine q_top (y := (-1)) (by first | rfl | decide +kernel | (simp; done)) ?_
      have hq_29 : (((-1) : Int32) = -1) := by
        first | rfl | trivial | (refine ⟨?_, ?_⟩ <;> rfl) | (simp; done) | omega
      exact hret (-1) _ _ _ _ dX10_keys_62 hq_29 (hP.sub [0] rfl) (hD.sub [0] (by decide) rfl) hS
set_option maxHeartbeats 4000000 in
set_option maxRecDepth 100000 in
theorem ct_X10_keys_16 (ll : Launch) (D : va_G) (ta : Nat → ClassId) {G : (Nat → Prop) → State → Heap → Prop} (hGok : GOK G) (h0 : Nat) (a : Nat → Nat) (ar : Nat) (mn : Nat) (tp : Nat) (osz : Nat) (lsz : Nat) (ns : Nat) (ct : Nat) (gtp : Nat → BitVec 8) (sd : Nat) (ρ : Nat) (ru : Nat → Nat) (le : Nat → Nat) (gto : Nat → BitVec 8) (se : Nat → Nat) (hsd : sd ≤ 1) (hρ : ρ = 3 ∨ ρ = 2) (sz : Nat) : CT ll yX10_keys cX10_keys 7 (some .int) ({ frames := 1, cells := 0, slots := 0, locals := 21 } : Room) D ta G [.ref h0, .int (nI sd), .int (nI ρ)] [(h0, oM a ar mn 48 osz lsz ns ct), (a 27, aS ta 400 gtp), (a 36, aK ta 2 ru), (a 37, aK ta 2 le), (a 38, aS ta 192 gto), (a 39, aK ta 2 se)] sz (S := (Nat → BitVec 8) × (Nat → Nat) × (Nat → Nat) × (Nat → Nat)) (fun u => some (.int (nI 1))) (fun u => (u.2.2.1 = qU ru sd ρ) ∧ (u.2.2.2 = qU le sd 16) ∧ (seg u.1 (96 * sd) 16 = seg gtp 0 16) ∧ (seg u.1 (96 * sd + 32) 16 = seg gtp 16 16) ∧ (seg u.1 (96 * sd + 64) 16 = seg gtp 32 16) ∧ (∀ q, (q < 96 * sd ∨ 96 * sd + 96 ≤ q) → u.1 q = gto q) ∧ (u.2.1 0 = 0) ∧ (u.2.1 1 = 0)) (fun u => [(h0, oM a ar mn 0 osz 0 ns ct), (a 27, aS ta 400 gtp), (a 36, aK ta 2 u.2.2.1), (a 37, aK ta 2 u.2.2.2), (a 38, aS ta 192 u.1), (a 39, aK ta 2 u.2.1)]) 0 0 := by
  refine CT.of_i (r := fun u => nI 1) rfl (by decide) (Nat.le_of_ble_eq_true rfl) ?_
  intro pp ee ss mm below meth kc A Q hx hb hml hown hin hts hK hA hsz hG hret H locs hP hD hS ls hl
  have hl : lv_has ls 7 [(0, .ref h0), (1, .int (nI sd)), (2, .int (nI ρ))] := hl
  refine lv_aload_n (pc := 0) hx hb dX10_keys_0 rfl (lv_at hl 0 rfl) ?_
  refine cs_V (pc := 1) (idx := 310) (n := 0) (wr := [(a 27, aS ta 400 gtp), (a 36, aK ta 2 ru), (a 37, aK ta 2 le), (a 38, aS ta 192 gto), (a 39, aK ta 2 se)]) (As := []) (rest := []) (ci := 8) hx hb hml hown hts hGok hK hA hG hl.1 hP hD hS (ct_X10_use ll D ta hGok h0 a ar mn 48 osz lsz ns ct  H.size) tw_1254 tw_1251 tw_1253 tw_28 tw_75 hdX10_use rfl ⟨rfl, rfl, Nat.le_of_ble_eq_true rfl, Nat.le_of_ble_eq_true rfl, Nat.le_of_ble_eq_true rfl, Nat.le_of_ble_eq_true rfl⟩ rfl rfl (q0 := 0) rfl [0] [1, 2, 3, 4, 5] rfl rfl (by decide) rfl (Nat.le_of_ble_eq_true rfl) dX10_keys_1 (fun u H locs hq hP hD hS => ?_)
  refine W.eq (g2 := F0 mm 4 ls [.int (nI 48)]) rfl ?_
  have hP : va_P D vwCl [(a 27, aS ta 400 gtp), (a 36, aK ta 2 ru), (a 37, aK ta 2 le), (a 38, aS ta 192 gto), (a 39, aK ta 2 se), (h0, oM a ar mn 0 osz lsz ns ct)] H := hP
  have hD : va_D A [(a 27, aS ta 400 gtp), (a 36, aK ta 2 ru), (a 37, aK ta 2 le), (a 38, aS ta 192 gto), (a 39, aK ta 2 se), (h0, oM a ar mn 0 osz lsz ns ct)] := hD
  refine lv_istore_n (pc := 4) (lv' := [(3, .int (nI 48)), (0, .ref h0), (1, .int (nI sd)), (2, .int (nI ρ))]) hx hb dX10_keys_4 rfl hl (by decide) rfl (fun ls hl => ?_)
  refine lv_iload_n (pc := 5) hx hb dX10_keys_5 rfl (lv_at hl 2 rfl) ?_
  refine cs_S (pc := 6) (idx := 314) (n := 1) (wr := [(a 27, aS ta 400 gtp), (a 36, aK ta 2 ru), (a 37, aK ta 2 le), (a 38, aS ta 192 gto), (a 39, aK ta 2 se), (h0, oM a ar mn 0 osz lsz ns ct)]) (As := [.int (nI sd)]) (rest := []) hx hb hml hown hts hGok hK hA hG hl.1 hP hD hS (ct_X10_isSide_s ll D ta hGok sd (by first | assumption | omega | rfl | decide) H.size) tw_1261 tw_1259 tw_1260 tw_75 hdX10_isSide rfl ⟨rfl, rfl, Nat.le_of_ble_eq_true rfl, Nat.le_of_ble_eq_true rfl, Nat.le_of_ble_eq_true rfl, Nat.le_of_ble_eq_true rfl⟩ [] [0, 1, 2, 3, 4, 5] rfl rfl (by decide) rfl (Nat.le_of_ble_eq_true rfl) dX10_keys_6 (fun u H locs hq hP hD hS => ?_)
  refine W.eq (g2 := F0 mm 9 ls [.int (qb true)]) rfl ?_
  have hP : va_P D vwCl [(a 27, aS ta 400 gtp), (a 36, aK ta 2 ru), (a 37, aK ta 2 le), (a 38, aS ta 192 gto), (a 39, aK ta 2 se), (h0, oM a ar mn 0 osz lsz ns ct)] H := hP
  have hD : va_D A [(a 27, aS ta 400 gtp), (a 36, aK ta 2 ru), (a 37, aK ta 2 le), (a 38, aS ta 192 gto), (a 39, aK ta 2 se), (h0, oM a ar mn 0 osz lsz ns ct)] := hD
  refine lv_if_eq (pc := 9) (tgt := 53) hx hb dX10_keys_9 (by decide) (fun c_1 => absurd c_1 (by decide)) (fun _ => ?_)
  refine lv_iload_n (pc := 12) hx hb dX10_keys_12 rfl (lv_at hl 3 rfl) ?_
  refine lv_iconst (pc := 13) (v := nI 2) hx hb dX10_keys_13 (by decide +kernel) ?_
  refine lv_icmp_ne (pc := 14) (tgt := 26) hx hb dX10_keys_14 (by decide) (fun c_2 => ?_) (fun c_2 => ?_)
  · skip
    rw [nI_eq (by omega) (by omega)] at c_2
    refine lv_iload_n (pc := 26) hx hb dX10_keys_26 rfl (lv_at hl 3 rfl) ?_
    refine lv_iconst (pc := 27) (v := nI 3) hx hb dX10_keys_27 (by decide +kernel) ?_
    refine lv_icmp_ne (pc := 28) (tgt := 53) hx hb dX10_keys_28 (by decide) (fun c_3 => ?_) (fun c_3 => ?_)
    · skip
      rw [nI_eq (by omega) (by omega)] at c_3
      exfalso; omega
    · skip
      rw [nI_eq (by omega) (by omega)] at c_3
      refine lv_iload_n (pc := 31) hx hb dX10_keys_31 rfl (lv_at hl 0 rfl) ?_
      refine lv_bipush (pc := 32) (v := nI 48) hx hb dX10_keys_32 (by decide +kernel) ?_
      refine lv_icmp_eq (pc := 34) (tgt := 49) hx hb dX10_keys_34 (by decide) (fun _ => ?_) (fun c_4 => absurd (by decide) c_4)
      refine lv_iconst (pc := 49) (v := nI 1) hx hb dX10_keys_49 (by decide +kernel) ?_
      refine lv_goto (pc := 50) (tgt := 54) hx hb dX10_keys_50 (by decide) ?_
      refine lv_istore (pc := 54) (lv' := [(4, .int (nI 1)), (3, .int (nI 48)), (0, .ref h0), (1, .int (nI sd)), (2, .int (nI ρ))]) hx hb dX10_keys_54 hl (by decide) rfl (fun ls hl => ?_)
      refine lv_iload (pc := 56) hx hb dX10_keys_56 (lv_at hl 0 rfl) ?_
      refine lv_if_ne (pc := 58) (tgt := 63) hx hb dX10_keys_58 (by decide) (fun _ => ?_) (fun c_5 => absurd c_5 (by decide))
      refine lv_aload_n (pc := 63) hx hb dX10_keys_63 rfl (lv_at hl 2 rfl) ?_
      refine va_get (pc := 64) (D := D) (ci := 8) (v := .ref (a 36)) (C := RX10) (T := TX10) (N := 57) hx hb hts iu10 hown hK hP 5 rfl rfl 36 (by decide) (hts _ tw_1081) (fun _ h9 => h9) rfl dX10_keys_64 ?_
      refine lv_iload_n (pc := 67) hx hb dX10_keys_67 rfl (lv_at hl 3 rfl) ?_
      refine lv_iload_n (pc := 68) hx hb dX10_keys_68 rfl (lv_at hl 4 rfl) ?_
      refine q_iastK (pc := 69) hx hb hK hP hD hS 1 0 rfl rfl (k := sd) rfl (by omega) (by omega) (b := ρ) rfl dX10_keys_69 (fun H locs hP hD hS => ?_)
      have hP : va_P D vwCl [(a 27, aS ta 400 gtp), (a 36, aK ta 2 (qU ru sd ρ)), (a 37, aK ta 2 le), (a 38, aS ta 192 gto), (a 39, aK ta 2 se), (h0, oM a ar mn 0 osz lsz ns ct)] H := hP
      have hD : va_D A [(a 27, aS ta 400 gtp), (a 36, aK ta 2 (qU ru sd ρ)), (a 37, aK ta 2 le), (a 38, aS ta 192 gto), (a 39, aK ta 2 se), (h0, oM a ar mn 0 osz lsz ns ct)] := hD
      refine lv_aload_n (pc := 70) hx hb dX10_keys_70 rfl (lv_at hl 2 rfl) ?_
      refine va_get (pc := 71) (D := D) (ci := 8) (v := .ref (a 37)) (C := RX10) (T := TX10) (N := 57) hx hb hts iu10 hown hK hP 5 rfl rfl 37 (by decide) (hts _ tw_1082) (fun _ h9 => h9) rfl dX10_keys_71 ?_
      refine lv_iload_n (pc := 74) hx hb dX10_keys_74 rfl (lv_at hl 3 rfl) ?_
      refine lv_iload_n (pc := 75) hx hb dX10_keys_75 rfl (lv_at hl 1 rfl) ?_
      refine lv_iconst (pc := 76) (v := nI 3) hx hb dX10_keys_76 (by decide +kernel) ?_
      refine lv_idiv (pc := 77) hx hb dX10_keys_77 (q_ne0 (by omega) (by omega)) ?_
      refine q_top (y := nI (48 / 3)) (pk_div (by omega) (by omega) (by omega)) ?_
      refine q_iastK (pc := 78) hx hb hK hP hD hS 2 0 rfl rfl (k := sd) rfl (by omega) (by omega) (b := 48 / 3) rfl dX10_keys_78 (fun H locs hP hD hS => ?_)
      have hP : va_P D vwCl [(a 27, aS ta 400 gtp), (a 36, aK ta 2 (qU ru sd ρ)), (a 37, aK ta 2 (qU le sd (48 / 3))), (a 38, aS ta 192 gto), (a 39, aK ta 2 se), (h0, oM a ar mn 0 osz lsz ns ct)] H := hP
      have hD : va_D A [(a 27, aS ta 400 gtp), (a 36, aK ta 2 (qU ru sd ρ)), (a 37, aK ta 2 (qU le sd (48 / 3))), (a 38, aS ta 192 gto), (a 39, aK ta 2 se), (h0, oM a ar mn 0 osz lsz ns ct)] := hD
      refine lv_iconst (pc := 79) (v := nI 0) hx hb dX10_keys_79 (by decide +kernel) ?_
      refine lv_istore (pc := 80) (lv' := [(5, .int (nI 0)), (4, .int (nI 1)), (3, .int (nI 48)), (0, .ref h0), (1, .int (nI sd)), (2, .int (nI ρ))]) hx hb dX10_keys_80 hl (by decide) rfl (fun ls hl => ?_)
      have LP82 : ∀ (nn82 : Nat) (j : Nat) (t' : Nat → BitVec 8), (j ≤ 3) → (∀ i k, i < j → k < 16 → t' (96 * sd + 32 * i + k) = gtp (16 * i + k)) → (∀ q, (q < 96 * sd ∨ 96 * sd + 96 ≤ q) → t' q = gto q) → (3 - j < nn82) → ∀ (H : Heap) (locs : List Loc), va_P D vwCl [(a 27, aS ta 400 gtp), (a 36, aK ta 2 (qU ru sd ρ)), (a 37, aK ta 2 (qU le sd (48 / 3))), (a 38, aS ta 192 t'), (a 39, aK ta 2 se), (h0, oM a ar mn 0 osz lsz ns ct)] H → va_D A [(a 27, aS ta 400 gtp), (a 36, aK ta 2 (qU ru sd ρ)), (a 37, aK ta 2 (qU le sd (48 / 3))), (a 38, aS ta 192 t'), (a 39, aK ta 2 se), (h0, oM a ar mn 0 osz lsz ns ct)] → va_S A ss.heap H locs → ∀ ls : Array Slot, lv_has ls 7 [(5, .int (nI j)), (4, .int (nI 1)), (3, .int (nI 48)), (0, .ref h0), (1, .int (nI sd)), (2, .int (nI ρ))] → W pp ll ee ({ frames := 1, cells := 0, slots := 0, locals := 21 } : Room) ss mm (([.ref h0, .int (nI sd), .int (nI ρ)] : List Value).toArray) below meth kc H locs 0 0 Q (F0 mm 82 ls []) := by
        intro nn82
        induction nn82 with
        | zero => intro j t' hjj hT hF hmu; exact absurd hmu (Nat.not_lt_zero _)
        | succ nn82 ih82 =>
          intro j t' hjj hT hF hmu82 H locs hP hD hS ls hl
          refine lv_iload (pc := 82) hx hb dX10_keys_82 (lv_at hl 0 rfl) ?_
          refine lv_iconst (pc := 84) (v := nI 3) hx hb dX10_keys_84 (by decide +kernel) ?_
          refine lv_icmp_ge (pc := 85) (tgt := 143) hx hb dX10_keys_85 (by decide) (fun c_6 => ?_) (fun c_6 => ?_)
          · skip
            rw [nI_leI (by omega) (by omega)] at c_6
            refine lv_aload_n (pc := 143) hx hb dX10_keys_143 rfl (lv_at hl 3 rfl) ?_
            refine cs_V (pc := 144) (idx := 318) (n := 0) (wr := [(a 27, aS ta 400 gtp), (a 36, aK ta 2 (qU ru sd ρ)), (a 37, aK ta 2 (qU le sd (48 / 3))), (a 38, aS ta 192 t')]) (As := []) (rest := []) (ci := 8) hx hb hml hown hts hGok hK hA hG hl.1 hP hD hS (ct_X10_none ll D ta hGok h0 a ar mn 0 osz lsz ns ct se  H.size) tw_1265 tw_1262 tw_1264 tw_29 tw_75 hdX10_none rfl ⟨rfl, rfl, Nat.le_of_ble_eq_true rfl, Nat.le_of_ble_eq_true rfl, Nat.le_of_ble_eq_true rfl, Nat.le_of_ble_eq_true rfl⟩ rfl rfl (q0 := 5) rfl [5, 4] [0, 1, 2, 3] rfl rfl (by decide) rfl (Nat.le_of_ble_eq_true rfl) dX10_keys_144 (fun u H locs hq hP hD hS => ?_)
            generalize u = se1_144 at hq hP hD ⊢
            have hq : (se1_144 0 = 0) ∧ (se1_144 1 = 0) := hq
            obtain ⟨hs0_144, hs1_144⟩ := hq
            refine W.eq (g2 := F0 mm 147 ls []) rfl ?_
            have hP : va_P D vwCl [(a 27, aS ta 400 gtp), (a 36, aK ta 2 (qU ru sd ρ)), (a 37, aK ta 2 (qU le sd (48 / 3))), (a 38, aS ta 192 t'), (h0, oM a ar mn 0 osz 0 ns ct), (a 39, aK ta 2 se1_144)] H := hP
            have hD : va_D A [(a 27, aS ta 400 gtp), (a 36, aK ta 2 (qU ru sd ρ)), (a 37, aK ta 2 (qU le sd (48 / 3))), (a 38, aS ta 192 t'), (h0, oM a ar mn 0 osz 0 ns ct), (a 39, aK ta 2 se1_144)] := hD
            refine lv_iconst (pc := 147) (v := nI 1) hx hb dX10_keys_147 (by decide +kernel) ?_
            have hq_7 : ((qU ru sd ρ) = qU ru sd ρ) ∧ ((qU le sd (48 / 3)) = qU le sd 16) ∧ (seg t' (96 * sd) 16 = seg gtp 0 16) ∧ (seg t' (96 * sd + 32) 16 = seg gtp 16 16) ∧ (seg t' (96 * sd + 64) 16 = seg gtp 32 16) ∧ (∀ q, (q < 96 * sd ∨ 96 * sd + 96 ≤ q) → t' q = gto q) ∧ (se1_144 0 = 0) ∧ (se1_144 1 = 0) := by
              refine ⟨rfl, rfl, ?_, ?_, ?_, hF, hs0_144, hs1_144⟩
              · rw [seg_ext]; intro k hk; have := hT 0 k (by omega) hk; simpa using this
              · rw [seg_ext]; intro k hk; have := hT 1 k (by omega) hk; simpa using this
              · rw [seg_ext]; intro k hk; have := hT 2 k (by omega) hk; rw [show 16 * 2 = 32 from rfl] at this; exact this
            exact hret (⟨(t'), (se1_144), (qU ru sd ρ), (qU le sd (48 / 3))⟩ : (Nat → BitVec 8) × (Nat → Nat) × (Nat → Nat) × (Nat → Nat)) _ _ _ _ dX10_keys_148 hq_7 (hP.sub [4, 0, 1, 2, 3, 5] rfl) (hD.sub [4, 0, 1, 2, 3, 5] (by decide) rfl) hS
          · skip
            rw [nI_leI (by omega) (by omega)] at c_6
            refine lv_iconst (pc := 88) (v := nI 0) hx hb dX10_keys_88 (by decide +kernel) ?_
            refine lv_istore (pc := 89) (lv' := [(6, .int (nI 0)), (5, .int (nI j)), (4, .int (nI 1)), (3, .int (nI 48)), (0, .ref h0), (1, .int (nI sd)), (2, .int (nI ρ))]) hx hb dX10_keys_89 hl (by decide) rfl (fun ls hl => ?_)
            have LP91 : ∀ (nn91 : Nat) (k : Nat) (u' : Nat → BitVec 8), (k ≤ 16) → (qSeg u' t' (96 * sd + 32 * j) k (fun x => gtp (16 * j + x))) → (16 - k < nn91) → ∀ (H : Heap) (locs : List Loc), va_P D vwCl [(a 27, aS ta 400 gtp), (a 36, aK ta 2 (qU ru sd ρ)), (a 37, aK ta 2 (qU le sd (48 / 3))), (a 38, aS ta 192 u'), (a 39, aK ta 2 se), (h0, oM a ar mn 0 osz lsz ns ct)] H → va_D A [(a 27, aS ta 400 gtp), (a 36, aK ta 2 (qU ru sd ρ)), (a 37, aK ta 2 (qU le sd (48 / 3))), (a 38, aS ta 192 u'), (a 39, aK ta 2 se), (h0, oM a ar mn 0 osz lsz ns ct)] → va_S A ss.heap H locs → ∀ ls : Array Slot, lv_has ls 7 [(6, .int (nI k)), (5, .int (nI j)), (4, .int (nI 1)), (3, .int (nI 48)), (0, .ref h0), (1, .int (nI sd)), (2, .int (nI ρ))] → W pp ll ee ({ frames := 1, cells := 0, slots := 0, locals := 21 } : Room) ss mm (([.ref h0, .int (nI sd), .int (nI ρ)] : List Value).toArray) below meth kc H locs 0 0 Q (F0 mm 91 ls []) := by
              intro nn91
              induction nn91 with
              | zero => intro k u' hkk hs hmu; exact absurd hmu (Nat.not_lt_zero _)
              | succ nn91 ih91 =>
                intro k u' hkk hs hmu91 H locs hP hD hS ls hl
                refine lv_iload (pc := 91) hx hb dX10_keys_91 (lv_at hl 0 rfl) ?_
                refine lv_iload_n (pc := 93) hx hb dX10_keys_93 rfl (lv_at hl 3 rfl) ?_
                refine lv_iconst (pc := 94) (v := nI 3) hx hb dX10_keys_94 (by decide +kernel) ?_
                refine lv_idiv (pc := 95) hx hb dX10_keys_95 (q_ne0 (by omega) (by omega)) ?_
                refine q_top (y := nI (48 / 3)) (pk_div (by omega) (by omega) (by omega)) ?_
                refine lv_icmp_ge (pc := 96) (tgt := 137) hx hb dX10_keys_96 (by decide) (fun c_8 => ?_) (fun c_8 => ?_)
                · skip
                  rw [nI_leI (by omega) (by omega)] at c_8
                  refine lv_iinc (pc := 137) (v := nI (j + 1)) (lv' := [(5, .int (nI (j + 1))), (6, .int (nI k)), (4, .int (nI 1)), (3, .int (nI 48)), (0, .ref h0), (1, .int (nI sd)), (2, .int (nI ρ))]) hx hb dX10_keys_137 hl (k := 1) rfl (by first | exact nI_add j 1 | rfl) (by decide) rfl (fun ls hl => ?_)
                  refine lv_goto (pc := 140) (tgt := 82) hx hb dX10_keys_140 (by decide) ?_
                  exact ih82 (j + 1) u' (by omega) (by
                        intro i k9 hi hk9
                        by_cases q : i = j
                        · subst q
                          exact hs.1 k9 (by omega)
                        · rw [hs.2 _ (by omega)]
                          exact hT i k9 (by omega) hk9) (by intro q hq; rw [hs.2 _ (by omega)]; exact hF q hq) (by omega) _ _ (hP.sub [0, 1, 2, 3, 4, 5] rfl) (hD.sub [0, 1, 2, 3, 4, 5] (by decide) rfl) hS ls (lv_sub hl [0, 2, 3, 4, 5, 6] rfl)
                · skip
                  rw [nI_leI (by omega) (by omega)] at c_8
                  refine lv_aload_n (pc := 99) hx hb dX10_keys_99 rfl (lv_at hl 4 rfl) ?_
                  refine va_get (pc := 100) (D := D) (ci := 8) (v := .ref (a 38)) (C := RX10) (T := TX10) (N := 57) hx hb hts iu10 hown hK hP 5 rfl rfl 38 (by decide) (hts _ tw_1083) (fun _ h9 => h9) rfl dX10_keys_100 ?_
                  refine lv_bipush (pc := 103) (v := nI 96) hx hb dX10_keys_103 (by decide +kernel) ?_
                  refine lv_iload_n (pc := 105) hx hb dX10_keys_105 rfl (lv_at hl 5 rfl) ?_
                  refine lv_imul (pc := 106) hx hb dX10_keys_106 ?_
                  refine q_top (y := nI (96 * sd)) (pk_mul 96 sd) ?_
                  refine lv_bipush (pc := 107) (v := nI 32) hx hb dX10_keys_107 (by decide +kernel) ?_
                  refine lv_iload (pc := 109) hx hb dX10_keys_109 (lv_at hl 1 rfl) ?_
                  refine lv_imul (pc := 111) hx hb dX10_keys_111 ?_
                  refine q_top (y := nI (32 * j)) (pk_mul 32 j) ?_
                  refine lv_iadd (pc := 112) hx hb dX10_keys_112 ?_
                  refine q_top (y := nI (96 * sd + 32 * j)) (nI_add (96 * sd) (32 * j)) ?_
                  refine lv_iload (pc := 113) hx hb dX10_keys_113 (lv_at hl 0 rfl) ?_
                  refine lv_iadd (pc := 115) hx hb dX10_keys_115 ?_
                  refine q_top (y := nI (96 * sd + 32 * j + k)) (nI_add (96 * sd + 32 * j) k) ?_
                  refine lv_aload_n (pc := 116) hx hb dX10_keys_116 rfl (lv_at hl 4 rfl) ?_
                  refine va_get (pc := 117) (D := D) (ci := 8) (v := .ref (a 27)) (C := RX10) (T := TX10) (N := 57) hx hb hts iu10 hown hK hP 5 rfl rfl 27 (by decide) (hts _ tw_1072) (fun _ h9 => h9) rfl dX10_keys_117 ?_
                  refine lv_iload_n (pc := 120) hx hb dX10_keys_120 rfl (lv_at hl 3 rfl) ?_
                  refine lv_iconst (pc := 121) (v := nI 3) hx hb dX10_keys_121 (by decide +kernel) ?_
                  refine lv_idiv (pc := 122) hx hb dX10_keys_122 (q_ne0 (by omega) (by omega)) ?_
                  refine q_top (y := nI (48 / 3)) (pk_div (by omega) (by omega) (by omega)) ?_
                  refine lv_iload (pc := 123) hx hb dX10_keys_123 (lv_at hl 1 rfl) ?_
                  refine lv_imul (pc := 125) hx hb dX10_keys_125 ?_
                  refine q_top (y := nI ((48 / 3) * j)) (pk_mul (48 / 3) j) ?_
                  refine lv_iload (pc := 126) hx hb dX10_keys_126 (lv_at hl 0 rfl) ?_
                  refine lv_iadd (pc := 128) hx hb dX10_keys_128 ?_
                  refine q_top (y := nI ((48 / 3) * j + k)) (nI_add ((48 / 3) * j) k) ?_
                  refine q_bald (pc := 129) hx hb hK hP 0 2 rfl rfl (k := (48 / 3) * j + k) (v := qs (gtp ((48 / 3) * j + k))) rfl (by omega) (by omega) rfl dX10_keys_129 ?_
                  refine q_bastS (pc := 130) hx hb hK hP hD hS 3 2 rfl rfl (k := 96 * sd + 32 * j + k) rfl (by omega) (by omega) (b := gtp ((48 / 3) * j + k)) (qlo_qs _) dX10_keys_130 (fun H locs hP hD hS => ?_)
                  have hP : va_P D vwCl [(a 27, aS ta 400 gtp), (a 36, aK ta 2 (qU ru sd ρ)), (a 37, aK ta 2 (qU le sd (48 / 3))), (a 38, aS ta 192 (qU u' (96 * sd + 32 * j + k) (gtp ((48 / 3) * j + k)))), (a 39, aK ta 2 se), (h0, oM a ar mn 0 osz lsz ns ct)] H := hP
                  have hD : va_D A [(a 27, aS ta 400 gtp), (a 36, aK ta 2 (qU ru sd ρ)), (a 37, aK ta 2 (qU le sd (48 / 3))), (a 38, aS ta 192 (qU u' (96 * sd + 32 * j + k) (gtp ((48 / 3) * j + k)))), (a 39, aK ta 2 se), (h0, oM a ar mn 0 osz lsz ns ct)] := hD
                  refine lv_iinc (pc := 131) (v := nI (k + 1)) (lv' := [(6, .int (nI (k + 1))), (5, .int (nI j)), (4, .int (nI 1)), (3, .int (nI 48)), (0, .ref h0), (1, .int (nI sd)), (2, .int (nI ρ))]) hx hb dX10_keys_131 hl (k := 0) rfl (by first | exact nI_add k 1 | rfl) (by decide) rfl (fun ls hl => ?_)
                  refine lv_goto (pc := 134) (tgt := 91) hx hb dX10_keys_134 (by decide) ?_
                  exact ih91 (k + 1) (qU u' (96 * sd + 32 * j + k) (gtp ((48 / 3) * j + k))) (by omega) (qSeg_s hs (by omega) rfl) (by omega) _ _ (hP.sub [0, 1, 2, 3, 4, 5] rfl) (hD.sub [0, 1, 2, 3, 4, 5] (by decide) rfl) hS ls (lv_sub hl [0, 1, 2, 3, 4, 5, 6] rfl)
            exact LP91 _ 0 t' (by omega) (qSeg_0) (Nat.lt_succ_self _) _ _ (hP.sub [0, 1, 2, 3, 4, 5] rfl) (hD.sub [0, 1, 2, 3, 4, 5] (by decide) rfl) hS ls (lv_sub hl [0, 1, 2, 3, 4, 5, 6] rfl)
      exact LP82 _ 0 gto (by omega) (fun i k hi => absurd hi (Nat.not_lt_zero _)) (fun _ _ => rfl) (Nat.lt_succ_self _) _ _ (hP.sub [0, 1, 2, 3, 4, 5] rfl) (hD.sub [0, 1, 2, 3, 4, 5] (by decide) rfl) hS ls (lv_sub hl [0, 1, 2, 3, 4, 5] rfl)
  · skip
    rw [nI_eq (by omega) (by omega)] at c_2
    refine lv_iload_n (pc := 17) hx hb dX10_keys_17 rfl (lv_at hl 0 rfl) ?_
    refine lv_bipush (pc := 18) (v := nI 48) hx hb dX10_keys_18 (by decide +kernel) ?_
    refine lv_icmp_ne (pc := 20) (tgt := 53) hx hb dX10_keys_20 (by decide) (fun c_9 => absurd (by decide) c_9) (fun _ => ?_)
    refine lv_goto (pc := 23) (tgt := 49) hx hb dX10_keys_23 (by decide) ?_
    refine lv_iconst (pc := 49) (v := nI 1) hx hb dX10_keys_49 (by decide +kernel) ?_
    refine lv_goto (pc := 50) (tgt := 54) hx hb dX10_keys_50 (by decide) ?_
    refine lv_istore (pc := 54) (lv' := [(4, .int (nI 1)), (3, .int (nI 48)), (0, .ref h0), (1, .int (nI sd)), (2, .int (nI ρ))]) hx hb dX10_keys_54 hl (by decide) rfl (fun ls hl => ?_)
    refine lv_iload (pc := 56) hx hb dX10_keys_56 (lv_at hl 0 rfl) ?_
    refine lv_if_ne (pc := 58) (tgt := 63) hx hb dX10_keys_58 (by decide) (fun _ => ?_) (fun c_10 => absurd c_10 (by decide))
    refine lv_aload_n (pc := 63) hx hb dX10_keys_63 rfl (lv_at hl 2 rfl) ?_
    refine va_get (pc := 64) (D := D) (ci := 8) (v := .ref (a 36)) (C := RX10) (T := TX10) (N := 57) hx hb hts iu10 hown hK hP 5 rfl rfl 36 (by decide) (hts _ tw_1081) (fun _ h9 => h9) rfl dX10_keys_64 ?_
    refine lv_iload_n (pc := 67) hx hb dX10_keys_67 rfl (lv_at hl 3 rfl) ?_
    refine lv_iload_n (pc := 68) hx hb dX10_keys_68 rfl (lv_at hl 4 rfl) ?_
    refine q_iastK (pc := 69) hx hb hK hP hD hS 1 0 rfl rfl (k := sd) rfl (by omega) (by omega) (b := ρ) rfl dX10_keys_69 (fun H locs hP hD hS => ?_)
    have hP : va_P D vwCl [(a 27, aS ta 400 gtp), (a 36, aK ta 2 (qU ru sd ρ)), (a 37, aK ta 2 le), (a 38, aS ta 192 gto), (a 39, aK ta 2 se), (h0, oM a ar mn 0 osz lsz ns ct)] H := hP
    have hD : va_D A [(a 27, aS ta 400 gtp), (a 36, aK ta 2 (qU ru sd ρ)), (a 37, aK ta 2 le), (a 38, aS ta 192 gto), (a 39, aK ta 2 se), (h0, oM a ar mn 0 osz lsz ns ct)] := hD
    refine lv_aload_n (pc := 70) hx hb dX10_keys_70 rfl (lv_at hl 2 rfl) ?_
    refine va_get (pc := 71) (D := D) (ci := 8) (v := .ref (a 37)) (C := RX10) (T := TX10) (N := 57) hx hb hts iu10 hown hK hP 5 rfl rfl 37 (by decide) (hts _ tw_1082) (fun _ h9 => h9) rfl dX10_keys_71 ?_
    refine lv_iload_n (pc := 74) hx hb dX10_keys_74 rfl (lv_at hl 3 rfl) ?_
    refine lv_iload_n (pc := 75) hx hb dX10_keys_75 rfl (lv_at hl 1 rfl) ?_
    refine lv_iconst (pc := 76) (v := nI 3) hx hb dX10_keys_76 (by decide +kernel) ?_
    refine lv_idiv (pc := 77) hx hb dX10_keys_77 (q_ne0 (by omega) (by omega)) ?_
    refine q_top (y := nI (48 / 3)) (pk_div (by omega) (by omega) (by omega)) ?_
    refine q_iastK (pc := 78) hx hb hK hP hD hS 2 0 rfl rfl (k := sd) rfl (by omega) (by omega) (b := 48 / 3) rfl dX10_keys_78 (fun H locs hP hD hS => ?_)
    have hP : va_P D vwCl [(a 27, aS ta 400 gtp), (a 36, aK ta 2 (qU ru sd ρ)), (a 37, aK ta 2 (qU le sd (48 / 3))), (a 38, aS ta 192 gto), (a 39, aK ta 2 se), (h0, oM a ar mn 0 osz lsz ns ct)] H := hP
    have hD : va_D A [(a 27, aS ta 400 gtp), (a 36, aK ta 2 (qU ru sd ρ)), (a 37, aK ta 2 (qU le sd (48 / 3))), (a 38, aS ta 192 gto), (a 39, aK ta 2 se), (h0, oM a ar mn 0 osz lsz ns ct)] := hD
    refine lv_iconst (pc := 79) (v := nI 0) hx hb dX10_keys_79 (by decide +kernel) ?_
    refine lv_istore (pc := 80) (lv' := [(5, .int (nI 0)), (4, .int (nI 1)), (3, .int (nI 48)), (0, .ref h0), (1, .int (nI sd)), (2, .int (nI ρ))]) hx hb dX10_keys_80 hl (by decide) rfl (fun ls hl => ?_)
    have LP82 : ∀ (nn82 : Nat) (j : Nat) (t' : Nat → BitVec 8), (j ≤ 3) → (∀ i k, i < j → k < 16 → t' (96 * sd + 32 * i + k) = gtp (16 * i + k)) → (∀ q, (q < 96 * sd ∨ 96 * sd + 96 ≤ q) → t' q = gto q) → (3 - j < nn82) → ∀ (H : Heap) (locs : List Loc), va_P D vwCl [(a 27, aS ta 400 gtp), (a 36, aK ta 2 (qU ru sd ρ)), (a 37, aK ta 2 (qU le sd (48 / 3))), (a 38, aS ta 192 t'), (a 39, aK ta 2 se), (h0, oM a ar mn 0 osz lsz ns ct)] H → va_D A [(a 27, aS ta 400 gtp), (a 36, aK ta 2 (qU ru sd ρ)), (a 37, aK ta 2 (qU le sd (48 / 3))), (a 38, aS ta 192 t'), (a 39, aK ta 2 se), (h0, oM a ar mn 0 osz lsz ns ct)] → va_S A ss.heap H locs → ∀ ls : Array Slot, lv_has ls 7 [(5, .int (nI j)), (4, .int (nI 1)), (3, .int (nI 48)), (0, .ref h0), (1, .int (nI sd)), (2, .int (nI ρ))] → W pp ll ee ({ frames := 1, cells := 0, slots := 0, locals := 21 } : Room) ss mm (([.ref h0, .int (nI sd), .int (nI ρ)] : List Value).toArray) below meth kc H locs 0 0 Q (F0 mm 82 ls []) := by
      intro nn82
      induction nn82 with
      | zero => intro j t' hjj hT hF hmu; exact absurd hmu (Nat.not_lt_zero _)
      | succ nn82 ih82 =>
        intro j t' hjj hT hF hmu82 H locs hP hD hS ls hl
        refine lv_iload (pc := 82) hx hb dX10_keys_82 (lv_at hl 0 rfl) ?_
        refine lv_iconst (pc := 84) (v := nI 3) hx hb dX10_keys_84 (by decide +kernel) ?_
        refine lv_icmp_ge (pc := 85) (tgt := 143) hx hb dX10_keys_85 (by decide) (fun c_11 => ?_) (fun c_11 => ?_)
        · skip
          rw [nI_leI (by omega) (by omega)] at c_11
          refine lv_aload_n (pc := 143) hx hb dX10_keys_143 rfl (lv_at hl 3 rfl) ?_
          refine cs_V (pc := 144) (idx := 318) (n := 0) (wr := [(a 27, aS ta 400 gtp), (a 36, aK ta 2 (qU ru sd ρ)), (a 37, aK ta 2 (qU le sd (48 / 3))), (a 38, aS ta 192 t')]) (As := []) (rest := []) (ci := 8) hx hb hml hown hts hGok hK hA hG hl.1 hP hD hS (ct_X10_none ll D ta hGok h0 a ar mn 0 osz lsz ns ct se  H.size) tw_1265 tw_1262 tw_1264 tw_29 tw_75 hdX10_none rfl ⟨rfl, rfl, Nat.le_of_ble_eq_true rfl, Nat.le_of_ble_eq_true rfl, Nat.le_of_ble_eq_true rfl, Nat.le_of_ble_eq_true rfl⟩ rfl rfl (q0 := 5) rfl [5, 4] [0, 1, 2, 3] rfl rfl (by decide) rfl (Nat.le_of_ble_eq_true rfl) dX10_keys_144 (fun u H locs hq hP hD hS => ?_)
          generalize u = se1_144 at hq hP hD ⊢
          have hq : (se1_144 0 = 0) ∧ (se1_144 1 = 0) := hq
          obtain ⟨hs0_144, hs1_144⟩ := hq
          refine W.eq (g2 := F0 mm 147 ls []) rfl ?_
          have hP : va_P D vwCl [(a 27, aS ta 400 gtp), (a 36, aK ta 2 (qU ru sd ρ)), (a 37, aK ta 2 (qU le sd (48 / 3))), (a 38, aS ta 192 t'), (h0, oM a ar mn 0 osz 0 ns ct), (a 39, aK ta 2 se1_144)] H := hP
          have hD : va_D A [(a 27, aS ta 400 gtp), (a 36, aK ta 2 (qU ru sd ρ)), (a 37, aK ta 2 (qU le sd (48 / 3))), (a 38, aS ta 192 t'), (h0, oM a ar mn 0 osz 0 ns ct), (a 39, aK ta 2 se1_144)] := hD
          refine lv_iconst (pc := 147) (v := nI 1) hx hb dX10_keys_147 (by decide +kernel) ?_
          have hq_12 : ((qU ru sd ρ) = qU ru sd ρ) ∧ ((qU le sd (48 / 3)) = qU le sd 16) ∧ (seg t' (96 * sd) 16 = seg gtp 0 16) ∧ (seg t' (96 * sd + 32) 16 = seg gtp 16 16) ∧ (seg t' (96 * sd + 64) 16 = seg gtp 32 16) ∧ (∀ q, (q < 96 * sd ∨ 96 * sd + 96 ≤ q) → t' q = gto q) ∧ (se1_144 0 = 0) ∧ (se1_144 1 = 0) := by
            refine ⟨rfl, rfl, ?_, ?_, ?_, hF, hs0_144, hs1_144⟩
            · rw [seg_ext]; intro k hk; have := hT 0 k (by omega) hk; simpa using this
            · rw [seg_ext]; intro k hk; have := hT 1 k (by omega) hk; simpa using this
            · rw [seg_ext]; intro k hk; have := hT 2 k (by omega) hk; rw [show 16 * 2 = 32 from rfl] at this; exact this
          exact hret (⟨(t'), (se1_144), (qU ru sd ρ), (qU le sd (48 / 3))⟩ : (Nat → BitVec 8) × (Nat → Nat) × (Nat → Nat) × (Nat → Nat)) _ _ _ _ dX10_keys_148 hq_12 (hP.sub [4, 0, 1, 2, 3, 5] rfl) (hD.sub [4, 0, 1, 2, 3, 5] (by decide) rfl) hS
        · skip
          rw [nI_leI (by omega) (by omega)] at c_11
          refine lv_iconst (pc := 88) (v := nI 0) hx hb dX10_keys_88 (by decide +kernel) ?_
          refine lv_istore (pc := 89) (lv' := [(6, .int (nI 0)), (5, .int (nI j)), (4, .int (nI 1)), (3, .int (nI 48)), (0, .ref h0), (1, .int (nI sd)), (2, .int (nI ρ))]) hx hb dX10_keys_89 hl (by decide) rfl (fun ls hl => ?_)
          have LP91 : ∀ (nn91 : Nat) (k : Nat) (u' : Nat → BitVec 8), (k ≤ 16) → (qSeg u' t' (96 * sd + 32 * j) k (fun x => gtp (16 * j + x))) → (16 - k < nn91) → ∀ (H : Heap) (locs : List Loc), va_P D vwCl [(a 27, aS ta 400 gtp), (a 36, aK ta 2 (qU ru sd ρ)), (a 37, aK ta 2 (qU le sd (48 / 3))), (a 38, aS ta 192 u'), (a 39, aK ta 2 se), (h0, oM a ar mn 0 osz lsz ns ct)] H → va_D A [(a 27, aS ta 400 gtp), (a 36, aK ta 2 (qU ru sd ρ)), (a 37, aK ta 2 (qU le sd (48 / 3))), (a 38, aS ta 192 u'), (a 39, aK ta 2 se), (h0, oM a ar mn 0 osz lsz ns ct)] → va_S A ss.heap H locs → ∀ ls : Array Slot, lv_has ls 7 [(6, .int (nI k)), (5, .int (nI j)), (4, .int (nI 1)), (3, .int (nI 48)), (0, .ref h0), (1, .int (nI sd)), (2, .int (nI ρ))] → W pp ll ee ({ frames := 1, cells := 0, slots := 0, locals := 21 } : Room) ss mm (([.ref h0, .int (nI sd), .int (nI ρ)] : List Value).toArray) below meth kc H locs 0 0 Q (F0 mm 91 ls []) := by
            intro nn91
            induction nn91 with
            | zero => intro k u' hkk hs hmu; exact absurd hmu (Nat.not_lt_zero _)
            | succ nn91 ih91 =>
              intro k u' hkk hs hmu91 H locs hP hD hS ls hl
              refine lv_iload (pc := 91) hx hb dX10_keys_91 (lv_at hl 0 rfl) ?_
              refine lv_iload_n (pc := 93) hx hb dX10_keys_93 rfl (lv_at hl 3 rfl) ?_
              refine lv_iconst (pc := 94) (v := nI 3) hx hb dX10_keys_94 (by decide +kernel) ?_
              refine lv_idiv (pc := 95) hx hb dX10_keys_95 (q_ne0 (by omega) (by omega)) ?_
              refine q_top (y := nI (48 / 3)) (pk_div (by omega) (by omega) (by omega)) ?_
              refine lv_icmp_ge (pc := 96) (tgt := 137) hx hb dX10_keys_96 (by decide) (fun c_13 => ?_) (fun c_13 => ?_)
              · skip
                rw [nI_leI (by omega) (by omega)] at c_13
                refine lv_iinc (pc := 137) (v := nI (j + 1)) (lv' := [(5, .int (nI (j + 1))), (6, .int (nI k)), (4, .int (nI 1)), (3, .int (nI 48)), (0, .ref h0), (1, .int (nI sd)), (2, .int (nI ρ))]) hx hb dX10_keys_137 hl (k := 1) rfl (by first | exact nI_add j 1 | rfl) (by decide) rfl (fun ls hl => ?_)
                refine lv_goto (pc := 140) (tgt := 82) hx hb dX10_keys_140 (by decide) ?_
                exact ih82 (j + 1) u' (by omega) (by
                      intro i k9 hi hk9
                      by_cases q : i = j
                      · subst q
                        exact hs.1 k9 (by omega)
                      · rw [hs.2 _ (by omega)]
                        exact hT i k9 (by omega) hk9) (by intro q hq; rw [hs.2 _ (by omega)]; exact hF q hq) (by omega) _ _ (hP.sub [0, 1, 2, 3, 4, 5] rfl) (hD.sub [0, 1, 2, 3, 4, 5] (by decide) rfl) hS ls (lv_sub hl [0, 2, 3, 4, 5, 6] rfl)
              · skip
                rw [nI_leI (by omega) (by omega)] at c_13
                refine lv_aload_n (pc := 99) hx hb dX10_keys_99 rfl (lv_at hl 4 rfl) ?_
                refine va_get (pc := 100) (D := D) (ci := 8) (v := .ref (a 38)) (C := RX10) (T := TX10) (N := 57) hx hb hts iu10 hown hK hP 5 rfl rfl 38 (by decide) (hts _ tw_1083) (fun _ h9 => h9) rfl dX10_keys_100 ?_
                refine lv_bipush (pc := 103) (v := nI 96) hx hb dX10_keys_103 (by decide +kernel) ?_
                refine lv_iload_n (pc := 105) hx hb dX10_keys_105 rfl (lv_at hl 5 rfl) ?_
                refine lv_imul (pc := 106) hx hb dX10_keys_106 ?_
                refine q_top (y := nI (96 * sd)) (pk_mul 96 sd) ?_
                refine lv_bipush (pc := 107) (v := nI 32) hx hb dX10_keys_107 (by decide +kernel) ?_
                refine lv_iload (pc := 109) hx hb dX10_keys_109 (lv_at hl 1 rfl) ?_
                refine lv_imul (pc := 111) hx hb dX10_keys_111 ?_
                refine q_top (y := nI (32 * j)) (pk_mul 32 j) ?_
                refine lv_iadd (pc := 112) hx hb dX10_keys_112 ?_
                refine q_top (y := nI (96 * sd + 32 * j)) (nI_add (96 * sd) (32 * j)) ?_
                refine lv_iload (pc := 113) hx hb dX10_keys_113 (lv_at hl 0 rfl) ?_
                refine lv_iadd (pc := 115) hx hb dX10_keys_115 ?_
                refine q_top (y := nI (96 * sd + 32 * j + k)) (nI_add (96 * sd + 32 * j) k) ?_
                refine lv_aload_n (pc := 116) hx hb dX10_keys_116 rfl (lv_at hl 4 rfl) ?_
                refine va_get (pc := 117) (D := D) (ci := 8) (v := .ref (a 27)) (C := RX10) (T := TX10) (N := 57) hx hb hts iu10 hown hK hP 5 rfl rfl 27 (by decide) (hts _ tw_1072) (fun _ h9 => h9) rfl dX10_keys_117 ?_
                refine lv_iload_n (pc := 120) hx hb dX10_keys_120 rfl (lv_at hl 3 rfl) ?_
                refine lv_iconst (pc := 121) (v := nI 3) hx hb dX10_keys_121 (by decide +kernel) ?_
                refine lv_idiv (pc := 122) hx hb dX10_keys_122 (q_ne0 (by omega) (by omega)) ?_
                refine q_top (y := nI (48 / 3)) (pk_div (by omega) (by omega) (by omega)) ?_
                refine lv_iload (pc := 123) hx hb dX10_keys_123 (lv_at hl 1 rfl) ?_
                refine lv_imul (pc := 125) hx hb dX10_keys_125 ?_
                refine q_top (y := nI ((48 / 3) * j)) (pk_mul (48 / 3) j) ?_
                refine lv_iload (pc := 126) hx hb dX10_keys_126 (lv_at hl 0 rfl) ?_
                refine lv_iadd (pc := 128) hx hb dX10_keys_128 ?_
                refine q_top (y := nI ((48 / 3) * j + k)) (nI_add ((48 / 3) * j) k) ?_
                refine q_bald (pc := 129) hx hb hK hP 0 2 rfl rfl (k := (48 / 3) * j + k) (v := qs (gtp ((48 / 3) * j + k))) rfl (by omega) (by omega) rfl dX10_keys_129 ?_
                refine q_bastS (pc := 130) hx hb hK hP hD hS 3 2 rfl rfl (k := 96 * sd + 32 * j + k) rfl (by omega) (by omega) (b := gtp ((48 / 3) * j + k)) (qlo_qs _) dX10_keys_130 (fun H locs hP hD hS => ?_)
                have hP : va_P D vwCl [(a 27, aS ta 400 gtp), (a 36, aK ta 2 (qU ru sd ρ)), (a 37, aK ta 2 (qU le sd (48 / 3))), (a 38, aS ta 192 (qU u' (96 * sd + 32 * j + k) (gtp ((48 / 3) * j + k)))), (a 39, aK ta 2 se), (h0, oM a ar mn 0 osz lsz ns ct)] H := hP
                have hD : va_D A [(a 27, aS ta 400 gtp), (a 36, aK ta 2 (qU ru sd ρ)), (a 37, aK ta 2 (qU le sd (48 / 3))), (a 38, aS ta 192 (qU u' (96 * sd + 32 * j + k) (gtp ((48 / 3) * j + k)))), (a 39, aK ta 2 se), (h0, oM a ar mn 0 osz lsz ns ct)] := hD
                refine lv_iinc (pc := 131) (v := nI (k + 1)) (lv' := [(6, .int (nI (k + 1))), (5, .int (nI j)), (4, .int (nI 1)), (3, .int (nI 48)), (0, .ref h0), (1, .int (nI sd)), (2, .int (nI ρ))]) hx hb dX10_keys_131 hl (k := 0) rfl (by first | exact nI_add k 1 | rfl) (by decide) rfl (fun ls hl => ?_)
                refine lv_goto (pc := 134) (tgt := 91) hx hb dX10_keys_134 (by decide) ?_
                exact ih91 (k + 1) (qU u' (96 * sd + 32 * j + k) (gtp ((48 / 3) * j + k))) (by omega) (qSeg_s hs (by omega) rfl) (by omega) _ _ (hP.sub [0, 1, 2, 3, 4, 5] rfl) (hD.sub [0, 1, 2, 3, 4, 5] (by decide) rfl) hS ls (lv_sub hl [0, 1, 2, 3, 4, 5, 6] rfl)
          exact LP91 _ 0 t' (by omega) (qSeg_0) (Nat.lt_succ_self _) _ _ (hP.sub [0, 1, 2, 3, 4, 5] rfl) (hD.sub [0, 1, 2, 3, 4, 5] (by decide) rfl) hS ls (lv_sub hl [0, 1, 2, 3, 4, 5, 6] rfl)
    exact LP82 _ 0 gto (by omega) (fun i k hi => absurd hi (Nat.not_lt_zero _)) (fun _ _ => rfl) (Nat.lt_succ_self _) _ _ (hP.sub [0, 1, 2, 3, 4, 5] rfl) (hD.sub [0, 1, 2, 3, 4, 5] (by decide) rfl) hS ls (lv_sub hl [0, 1, 2, 3, 4, 5] rfl)
set_option maxHeartbeats 4000000 in
set_option maxRecDepth 100000 in
theorem ct_X10_keys_24 (ll : Launch) (D : va_G) (ta : Nat → ClassId) {G : (Nat → Prop) → State → Heap → Prop} (hGok : GOK G) (h0 : Nat) (a : Nat → Nat) (ar : Nat) (mn : Nat) (tp : Nat) (osz : Nat) (lsz : Nat) (ns : Nat) (ct : Nat) (gtp : Nat → BitVec 8) (sd : Nat) (ρ : Nat) (ru : Nat → Nat) (le : Nat → Nat) (gto : Nat → BitVec 8) (se : Nat → Nat) (hsd : sd ≤ 1) (hρ : ρ = 3) (sz : Nat) : CT ll yX10_keys cX10_keys 7 (some .int) ({ frames := 1, cells := 0, slots := 0, locals := 21 } : Room) D ta G [.ref h0, .int (nI sd), .int (nI ρ)] [(h0, oM a ar mn 72 osz lsz ns ct), (a 27, aS ta 400 gtp), (a 36, aK ta 2 ru), (a 37, aK ta 2 le), (a 38, aS ta 192 gto), (a 39, aK ta 2 se)] sz (S := (Nat → BitVec 8) × (Nat → Nat) × (Nat → Nat) × (Nat → Nat)) (fun u => some (.int (nI 1))) (fun u => (u.2.2.1 = qU ru sd ρ) ∧ (u.2.2.2 = qU le sd 24) ∧ (seg u.1 (96 * sd) 24 = seg gtp 0 24) ∧ (seg u.1 (96 * sd + 32) 24 = seg gtp 24 24) ∧ (seg u.1 (96 * sd + 64) 24 = seg gtp 48 24) ∧ (∀ q, (q < 96 * sd ∨ 96 * sd + 96 ≤ q) → u.1 q = gto q) ∧ (u.2.1 0 = 0) ∧ (u.2.1 1 = 0)) (fun u => [(h0, oM a ar mn 0 osz 0 ns ct), (a 27, aS ta 400 gtp), (a 36, aK ta 2 u.2.2.1), (a 37, aK ta 2 u.2.2.2), (a 38, aS ta 192 u.1), (a 39, aK ta 2 u.2.1)]) 0 0 := by
  refine CT.of_i (r := fun u => nI 1) rfl (by decide) (Nat.le_of_ble_eq_true rfl) ?_
  intro pp ee ss mm below meth kc A Q hx hb hml hown hin hts hK hA hsz hG hret H locs hP hD hS ls hl
  have hl : lv_has ls 7 [(0, .ref h0), (1, .int (nI sd)), (2, .int (nI ρ))] := hl
  refine lv_aload_n (pc := 0) hx hb dX10_keys_0 rfl (lv_at hl 0 rfl) ?_
  refine cs_V (pc := 1) (idx := 310) (n := 0) (wr := [(a 27, aS ta 400 gtp), (a 36, aK ta 2 ru), (a 37, aK ta 2 le), (a 38, aS ta 192 gto), (a 39, aK ta 2 se)]) (As := []) (rest := []) (ci := 8) hx hb hml hown hts hGok hK hA hG hl.1 hP hD hS (ct_X10_use ll D ta hGok h0 a ar mn 72 osz lsz ns ct  H.size) tw_1254 tw_1251 tw_1253 tw_28 tw_75 hdX10_use rfl ⟨rfl, rfl, Nat.le_of_ble_eq_true rfl, Nat.le_of_ble_eq_true rfl, Nat.le_of_ble_eq_true rfl, Nat.le_of_ble_eq_true rfl⟩ rfl rfl (q0 := 0) rfl [0] [1, 2, 3, 4, 5] rfl rfl (by decide) rfl (Nat.le_of_ble_eq_true rfl) dX10_keys_1 (fun u H locs hq hP hD hS => ?_)
  refine W.eq (g2 := F0 mm 4 ls [.int (nI 72)]) rfl ?_
  have hP : va_P D vwCl [(a 27, aS ta 400 gtp), (a 36, aK ta 2 ru), (a 37, aK ta 2 le), (a 38, aS ta 192 gto), (a 39, aK ta 2 se), (h0, oM a ar mn 0 osz lsz ns ct)] H := hP
  have hD : va_D A [(a 27, aS ta 400 gtp), (a 36, aK ta 2 ru), (a 37, aK ta 2 le), (a 38, aS ta 192 gto), (a 39, aK ta 2 se), (h0, oM a ar mn 0 osz lsz ns ct)] := hD
  refine lv_istore_n (pc := 4) (lv' := [(3, .int (nI 72)), (0, .ref h0), (1, .int (nI sd)), (2, .int (nI ρ))]) hx hb dX10_keys_4 rfl hl (by decide) rfl (fun ls hl => ?_)
  refine lv_iload_n (pc := 5) hx hb dX10_keys_5 rfl (lv_at hl 2 rfl) ?_
  refine cs_S (pc := 6) (idx := 314) (n := 1) (wr := [(a 27, aS ta 400 gtp), (a 36, aK ta 2 ru), (a 37, aK ta 2 le), (a 38, aS ta 192 gto), (a 39, aK ta 2 se), (h0, oM a ar mn 0 osz lsz ns ct)]) (As := [.int (nI sd)]) (rest := []) hx hb hml hown hts hGok hK hA hG hl.1 hP hD hS (ct_X10_isSide_s ll D ta hGok sd (by first | assumption | omega | rfl | decide) H.size) tw_1261 tw_1259 tw_1260 tw_75 hdX10_isSide rfl ⟨rfl, rfl, Nat.le_of_ble_eq_true rfl, Nat.le_of_ble_eq_true rfl, Nat.le_of_ble_eq_true rfl, Nat.le_of_ble_eq_true rfl⟩ [] [0, 1, 2, 3, 4, 5] rfl rfl (by decide) rfl (Nat.le_of_ble_eq_true rfl) dX10_keys_6 (fun u H locs hq hP hD hS => ?_)
  refine W.eq (g2 := F0 mm 9 ls [.int (qb true)]) rfl ?_
  have hP : va_P D vwCl [(a 27, aS ta 400 gtp), (a 36, aK ta 2 ru), (a 37, aK ta 2 le), (a 38, aS ta 192 gto), (a 39, aK ta 2 se), (h0, oM a ar mn 0 osz lsz ns ct)] H := hP
  have hD : va_D A [(a 27, aS ta 400 gtp), (a 36, aK ta 2 ru), (a 37, aK ta 2 le), (a 38, aS ta 192 gto), (a 39, aK ta 2 se), (h0, oM a ar mn 0 osz lsz ns ct)] := hD
  refine lv_if_eq (pc := 9) (tgt := 53) hx hb dX10_keys_9 (by decide) (fun c_1 => absurd c_1 (by decide)) (fun _ => ?_)
  refine lv_iload_n (pc := 12) hx hb dX10_keys_12 rfl (lv_at hl 3 rfl) ?_
  refine lv_iconst (pc := 13) (v := nI 2) hx hb dX10_keys_13 (by decide +kernel) ?_
  refine lv_icmp_ne (pc := 14) (tgt := 26) hx hb dX10_keys_14 (by decide) (fun c_2 => ?_) (fun c_2 => ?_)
  · skip
    rw [nI_eq (by omega) (by omega)] at c_2
    refine lv_iload_n (pc := 26) hx hb dX10_keys_26 rfl (lv_at hl 3 rfl) ?_
    refine lv_iconst (pc := 27) (v := nI 3) hx hb dX10_keys_27 (by decide +kernel) ?_
    refine lv_icmp_ne (pc := 28) (tgt := 53) hx hb dX10_keys_28 (by decide) (fun c_3 => ?_) (fun c_3 => ?_)
    · skip
      rw [nI_eq (by omega) (by omega)] at c_3
      exfalso; omega
    · skip
      rw [nI_eq (by omega) (by omega)] at c_3
      refine lv_iload_n (pc := 31) hx hb dX10_keys_31 rfl (lv_at hl 0 rfl) ?_
      refine lv_bipush (pc := 32) (v := nI 48) hx hb dX10_keys_32 (by decide +kernel) ?_
      refine lv_icmp_eq (pc := 34) (tgt := 49) hx hb dX10_keys_34 (by decide) (fun c_4 => absurd c_4 (by decide)) (fun _ => ?_)
      refine lv_iload_n (pc := 37) hx hb dX10_keys_37 rfl (lv_at hl 0 rfl) ?_
      refine lv_bipush (pc := 38) (v := nI 72) hx hb dX10_keys_38 (by decide +kernel) ?_
      refine lv_icmp_eq (pc := 40) (tgt := 49) hx hb dX10_keys_40 (by decide) (fun _ => ?_) (fun c_5 => absurd (by decide) c_5)
      refine lv_iconst (pc := 49) (v := nI 1) hx hb dX10_keys_49 (by decide +kernel) ?_
      refine lv_goto (pc := 50) (tgt := 54) hx hb dX10_keys_50 (by decide) ?_
      refine lv_istore (pc := 54) (lv' := [(4, .int (nI 1)), (3, .int (nI 72)), (0, .ref h0), (1, .int (nI sd)), (2, .int (nI ρ))]) hx hb dX10_keys_54 hl (by decide) rfl (fun ls hl => ?_)
      refine lv_iload (pc := 56) hx hb dX10_keys_56 (lv_at hl 0 rfl) ?_
      refine lv_if_ne (pc := 58) (tgt := 63) hx hb dX10_keys_58 (by decide) (fun _ => ?_) (fun c_6 => absurd c_6 (by decide))
      refine lv_aload_n (pc := 63) hx hb dX10_keys_63 rfl (lv_at hl 2 rfl) ?_
      refine va_get (pc := 64) (D := D) (ci := 8) (v := .ref (a 36)) (C := RX10) (T := TX10) (N := 57) hx hb hts iu10 hown hK hP 5 rfl rfl 36 (by decide) (hts _ tw_1081) (fun _ h9 => h9) rfl dX10_keys_64 ?_
      refine lv_iload_n (pc := 67) hx hb dX10_keys_67 rfl (lv_at hl 3 rfl) ?_
      refine lv_iload_n (pc := 68) hx hb dX10_keys_68 rfl (lv_at hl 4 rfl) ?_
      refine q_iastK (pc := 69) hx hb hK hP hD hS 1 0 rfl rfl (k := sd) rfl (by omega) (by omega) (b := ρ) rfl dX10_keys_69 (fun H locs hP hD hS => ?_)
      have hP : va_P D vwCl [(a 27, aS ta 400 gtp), (a 36, aK ta 2 (qU ru sd ρ)), (a 37, aK ta 2 le), (a 38, aS ta 192 gto), (a 39, aK ta 2 se), (h0, oM a ar mn 0 osz lsz ns ct)] H := hP
      have hD : va_D A [(a 27, aS ta 400 gtp), (a 36, aK ta 2 (qU ru sd ρ)), (a 37, aK ta 2 le), (a 38, aS ta 192 gto), (a 39, aK ta 2 se), (h0, oM a ar mn 0 osz lsz ns ct)] := hD
      refine lv_aload_n (pc := 70) hx hb dX10_keys_70 rfl (lv_at hl 2 rfl) ?_
      refine va_get (pc := 71) (D := D) (ci := 8) (v := .ref (a 37)) (C := RX10) (T := TX10) (N := 57) hx hb hts iu10 hown hK hP 5 rfl rfl 37 (by decide) (hts _ tw_1082) (fun _ h9 => h9) rfl dX10_keys_71 ?_
      refine lv_iload_n (pc := 74) hx hb dX10_keys_74 rfl (lv_at hl 3 rfl) ?_
      refine lv_iload_n (pc := 75) hx hb dX10_keys_75 rfl (lv_at hl 1 rfl) ?_
      refine lv_iconst (pc := 76) (v := nI 3) hx hb dX10_keys_76 (by decide +kernel) ?_
      refine lv_idiv (pc := 77) hx hb dX10_keys_77 (q_ne0 (by omega) (by omega)) ?_
      refine q_top (y := nI (72 / 3)) (pk_div (by omega) (by omega) (by omega)) ?_
      refine q_iastK (pc := 78) hx hb hK hP hD hS 2 0 rfl rfl (k := sd) rfl (by omega) (by omega) (b := 72 / 3) rfl dX10_keys_78 (fun H locs hP hD hS => ?_)
      have hP : va_P D vwCl [(a 27, aS ta 400 gtp), (a 36, aK ta 2 (qU ru sd ρ)), (a 37, aK ta 2 (qU le sd (72 / 3))), (a 38, aS ta 192 gto), (a 39, aK ta 2 se), (h0, oM a ar mn 0 osz lsz ns ct)] H := hP
      have hD : va_D A [(a 27, aS ta 400 gtp), (a 36, aK ta 2 (qU ru sd ρ)), (a 37, aK ta 2 (qU le sd (72 / 3))), (a 38, aS ta 192 gto), (a 39, aK ta 2 se), (h0, oM a ar mn 0 osz lsz ns ct)] := hD
      refine lv_iconst (pc := 79) (v := nI 0) hx hb dX10_keys_79 (by decide +kernel) ?_
      refine lv_istore (pc := 80) (lv' := [(5, .int (nI 0)), (4, .int (nI 1)), (3, .int (nI 72)), (0, .ref h0), (1, .int (nI sd)), (2, .int (nI ρ))]) hx hb dX10_keys_80 hl (by decide) rfl (fun ls hl => ?_)
      have LP82 : ∀ (nn82 : Nat) (j : Nat) (t' : Nat → BitVec 8), (j ≤ 3) → (∀ i k, i < j → k < 24 → t' (96 * sd + 32 * i + k) = gtp (24 * i + k)) → (∀ q, (q < 96 * sd ∨ 96 * sd + 96 ≤ q) → t' q = gto q) → (3 - j < nn82) → ∀ (H : Heap) (locs : List Loc), va_P D vwCl [(a 27, aS ta 400 gtp), (a 36, aK ta 2 (qU ru sd ρ)), (a 37, aK ta 2 (qU le sd (72 / 3))), (a 38, aS ta 192 t'), (a 39, aK ta 2 se), (h0, oM a ar mn 0 osz lsz ns ct)] H → va_D A [(a 27, aS ta 400 gtp), (a 36, aK ta 2 (qU ru sd ρ)), (a 37, aK ta 2 (qU le sd (72 / 3))), (a 38, aS ta 192 t'), (a 39, aK ta 2 se), (h0, oM a ar mn 0 osz lsz ns ct)] → va_S A ss.heap H locs → ∀ ls : Array Slot, lv_has ls 7 [(5, .int (nI j)), (4, .int (nI 1)), (3, .int (nI 72)), (0, .ref h0), (1, .int (nI sd)), (2, .int (nI ρ))] → W pp ll ee ({ frames := 1, cells := 0, slots := 0, locals := 21 } : Room) ss mm (([.ref h0, .int (nI sd), .int (nI ρ)] : List Value).toArray) below meth kc H locs 0 0 Q (F0 mm 82 ls []) := by
        intro nn82
        induction nn82 with
        | zero => intro j t' hjj hT hF hmu; exact absurd hmu (Nat.not_lt_zero _)
        | succ nn82 ih82 =>
          intro j t' hjj hT hF hmu82 H locs hP hD hS ls hl
          refine lv_iload (pc := 82) hx hb dX10_keys_82 (lv_at hl 0 rfl) ?_
          refine lv_iconst (pc := 84) (v := nI 3) hx hb dX10_keys_84 (by decide +kernel) ?_
          refine lv_icmp_ge (pc := 85) (tgt := 143) hx hb dX10_keys_85 (by decide) (fun c_7 => ?_) (fun c_7 => ?_)
          · skip
            rw [nI_leI (by omega) (by omega)] at c_7
            refine lv_aload_n (pc := 143) hx hb dX10_keys_143 rfl (lv_at hl 3 rfl) ?_
            refine cs_V (pc := 144) (idx := 318) (n := 0) (wr := [(a 27, aS ta 400 gtp), (a 36, aK ta 2 (qU ru sd ρ)), (a 37, aK ta 2 (qU le sd (72 / 3))), (a 38, aS ta 192 t')]) (As := []) (rest := []) (ci := 8) hx hb hml hown hts hGok hK hA hG hl.1 hP hD hS (ct_X10_none ll D ta hGok h0 a ar mn 0 osz lsz ns ct se  H.size) tw_1265 tw_1262 tw_1264 tw_29 tw_75 hdX10_none rfl ⟨rfl, rfl, Nat.le_of_ble_eq_true rfl, Nat.le_of_ble_eq_true rfl, Nat.le_of_ble_eq_true rfl, Nat.le_of_ble_eq_true rfl⟩ rfl rfl (q0 := 5) rfl [5, 4] [0, 1, 2, 3] rfl rfl (by decide) rfl (Nat.le_of_ble_eq_true rfl) dX10_keys_144 (fun u H locs hq hP hD hS => ?_)
            generalize u = se1_144 at hq hP hD ⊢
            have hq : (se1_144 0 = 0) ∧ (se1_144 1 = 0) := hq
            obtain ⟨hs0_144, hs1_144⟩ := hq
            refine W.eq (g2 := F0 mm 147 ls []) rfl ?_
            have hP : va_P D vwCl [(a 27, aS ta 400 gtp), (a 36, aK ta 2 (qU ru sd ρ)), (a 37, aK ta 2 (qU le sd (72 / 3))), (a 38, aS ta 192 t'), (h0, oM a ar mn 0 osz 0 ns ct), (a 39, aK ta 2 se1_144)] H := hP
            have hD : va_D A [(a 27, aS ta 400 gtp), (a 36, aK ta 2 (qU ru sd ρ)), (a 37, aK ta 2 (qU le sd (72 / 3))), (a 38, aS ta 192 t'), (h0, oM a ar mn 0 osz 0 ns ct), (a 39, aK ta 2 se1_144)] := hD
            refine lv_iconst (pc := 147) (v := nI 1) hx hb dX10_keys_147 (by decide +kernel) ?_
            have hq_8 : ((qU ru sd ρ) = qU ru sd ρ) ∧ ((qU le sd (72 / 3)) = qU le sd 24) ∧ (seg t' (96 * sd) 24 = seg gtp 0 24) ∧ (seg t' (96 * sd + 32) 24 = seg gtp 24 24) ∧ (seg t' (96 * sd + 64) 24 = seg gtp 48 24) ∧ (∀ q, (q < 96 * sd ∨ 96 * sd + 96 ≤ q) → t' q = gto q) ∧ (se1_144 0 = 0) ∧ (se1_144 1 = 0) := by
              refine ⟨rfl, rfl, ?_, ?_, ?_, hF, hs0_144, hs1_144⟩
              · rw [seg_ext]; intro k hk; have := hT 0 k (by omega) hk; simpa using this
              · rw [seg_ext]; intro k hk; have := hT 1 k (by omega) hk; simpa using this
              · rw [seg_ext]; intro k hk; have := hT 2 k (by omega) hk; rw [show 24 * 2 = 48 from rfl] at this; exact this
            exact hret (⟨(t'), (se1_144), (qU ru sd ρ), (qU le sd (72 / 3))⟩ : (Nat → BitVec 8) × (Nat → Nat) × (Nat → Nat) × (Nat → Nat)) _ _ _ _ dX10_keys_148 hq_8 (hP.sub [4, 0, 1, 2, 3, 5] rfl) (hD.sub [4, 0, 1, 2, 3, 5] (by decide) rfl) hS
          · skip
            rw [nI_leI (by omega) (by omega)] at c_7
            refine lv_iconst (pc := 88) (v := nI 0) hx hb dX10_keys_88 (by decide +kernel) ?_
            refine lv_istore (pc := 89) (lv' := [(6, .int (nI 0)), (5, .int (nI j)), (4, .int (nI 1)), (3, .int (nI 72)), (0, .ref h0), (1, .int (nI sd)), (2, .int (nI ρ))]) hx hb dX10_keys_89 hl (by decide) rfl (fun ls hl => ?_)
            have LP91 : ∀ (nn91 : Nat) (k : Nat) (u' : Nat → BitVec 8), (k ≤ 24) → (qSeg u' t' (96 * sd + 32 * j) k (fun x => gtp (24 * j + x))) → (24 - k < nn91) → ∀ (H : Heap) (locs : List Loc), va_P D vwCl [(a 27, aS ta 400 gtp), (a 36, aK ta 2 (qU ru sd ρ)), (a 37, aK ta 2 (qU le sd (72 / 3))), (a 38, aS ta 192 u'), (a 39, aK ta 2 se), (h0, oM a ar mn 0 osz lsz ns ct)] H → va_D A [(a 27, aS ta 400 gtp), (a 36, aK ta 2 (qU ru sd ρ)), (a 37, aK ta 2 (qU le sd (72 / 3))), (a 38, aS ta 192 u'), (a 39, aK ta 2 se), (h0, oM a ar mn 0 osz lsz ns ct)] → va_S A ss.heap H locs → ∀ ls : Array Slot, lv_has ls 7 [(6, .int (nI k)), (5, .int (nI j)), (4, .int (nI 1)), (3, .int (nI 72)), (0, .ref h0), (1, .int (nI sd)), (2, .int (nI ρ))] → W pp ll ee ({ frames := 1, cells := 0, slots := 0, locals := 21 } : Room) ss mm (([.ref h0, .int (nI sd), .int (nI ρ)] : List Value).toArray) below meth kc H locs 0 0 Q (F0 mm 91 ls []) := by
              intro nn91
              induction nn91 with
              | zero => intro k u' hkk hs hmu; exact absurd hmu (Nat.not_lt_zero _)
              | succ nn91 ih91 =>
                intro k u' hkk hs hmu91 H locs hP hD hS ls hl
                refine lv_iload (pc := 91) hx hb dX10_keys_91 (lv_at hl 0 rfl) ?_
                refine lv_iload_n (pc := 93) hx hb dX10_keys_93 rfl (lv_at hl 3 rfl) ?_
                refine lv_iconst (pc := 94) (v := nI 3) hx hb dX10_keys_94 (by decide +kernel) ?_
                refine lv_idiv (pc := 95) hx hb dX10_keys_95 (q_ne0 (by omega) (by omega)) ?_
                refine q_top (y := nI (72 / 3)) (pk_div (by omega) (by omega) (by omega)) ?_
                refine lv_icmp_ge (pc := 96) (tgt := 137) hx hb dX10_keys_96 (by decide) (fun c_9 => ?_) (fun c_9 => ?_)
                · skip
                  rw [nI_leI (by omega) (by omega)] at c_9
                  refine lv_iinc (pc := 137) (v := nI (j + 1)) (lv' := [(5, .int (nI (j + 1))), (6, .int (nI k)), (4, .int (nI 1)), (3, .int (nI 72)), (0, .ref h0), (1, .int (nI sd)), (2, .int (nI ρ))]) hx hb dX10_keys_137 hl (k := 1) rfl (by first | exact nI_add j 1 | rfl) (by decide) rfl (fun ls hl => ?_)
                  refine lv_goto (pc := 140) (tgt := 82) hx hb dX10_keys_140 (by decide) ?_
                  exact ih82 (j + 1) u' (by omega) (by
                        intro i k9 hi hk9
                        by_cases q : i = j
                        · subst q
                          exact hs.1 k9 (by omega)
                        · rw [hs.2 _ (by omega)]
                          exact hT i k9 (by omega) hk9) (by intro q hq; rw [hs.2 _ (by omega)]; exact hF q hq) (by omega) _ _ (hP.sub [0, 1, 2, 3, 4, 5] rfl) (hD.sub [0, 1, 2, 3, 4, 5] (by decide) rfl) hS ls (lv_sub hl [0, 2, 3, 4, 5, 6] rfl)
                · skip
                  rw [nI_leI (by omega) (by omega)] at c_9
                  refine lv_aload_n (pc := 99) hx hb dX10_keys_99 rfl (lv_at hl 4 rfl) ?_
                  refine va_get (pc := 100) (D := D) (ci := 8) (v := .ref (a 38)) (C := RX10) (T := TX10) (N := 57) hx hb hts iu10 hown hK hP 5 rfl rfl 38 (by decide) (hts _ tw_1083) (fun _ h9 => h9) rfl dX10_keys_100 ?_
                  refine lv_bipush (pc := 103) (v := nI 96) hx hb dX10_keys_103 (by decide +kernel) ?_
                  refine lv_iload_n (pc := 105) hx hb dX10_keys_105 rfl (lv_at hl 5 rfl) ?_
                  refine lv_imul (pc := 106) hx hb dX10_keys_106 ?_
                  refine q_top (y := nI (96 * sd)) (pk_mul 96 sd) ?_
                  refine lv_bipush (pc := 107) (v := nI 32) hx hb dX10_keys_107 (by decide +kernel) ?_
                  refine lv_iload (pc := 109) hx hb dX10_keys_109 (lv_at hl 1 rfl) ?_
                  refine lv_imul (pc := 111) hx hb dX10_keys_111 ?_
                  refine q_top (y := nI (32 * j)) (pk_mul 32 j) ?_
                  refine lv_iadd (pc := 112) hx hb dX10_keys_112 ?_
                  refine q_top (y := nI (96 * sd + 32 * j)) (nI_add (96 * sd) (32 * j)) ?_
                  refine lv_iload (pc := 113) hx hb dX10_keys_113 (lv_at hl 0 rfl) ?_
                  refine lv_iadd (pc := 115) hx hb dX10_keys_115 ?_
                  refine q_top (y := nI (96 * sd + 32 * j + k)) (nI_add (96 * sd + 32 * j) k) ?_
                  refine lv_aload_n (pc := 116) hx hb dX10_keys_116 rfl (lv_at hl 4 rfl) ?_
                  refine va_get (pc := 117) (D := D) (ci := 8) (v := .ref (a 27)) (C := RX10) (T := TX10) (N := 57) hx hb hts iu10 hown hK hP 5 rfl rfl 27 (by decide) (hts _ tw_1072) (fun _ h9 => h9) rfl dX10_keys_117 ?_
                  refine lv_iload_n (pc := 120) hx hb dX10_keys_120 rfl (lv_at hl 3 rfl) ?_
                  refine lv_iconst (pc := 121) (v := nI 3) hx hb dX10_keys_121 (by decide +kernel) ?_
                  refine lv_idiv (pc := 122) hx hb dX10_keys_122 (q_ne0 (by omega) (by omega)) ?_
                  refine q_top (y := nI (72 / 3)) (pk_div (by omega) (by omega) (by omega)) ?_
                  refine lv_iload (pc := 123) hx hb dX10_keys_123 (lv_at hl 1 rfl) ?_
                  refine lv_imul (pc := 125) hx hb dX10_keys_125 ?_
                  refine q_top (y := nI ((72 / 3) * j)) (pk_mul (72 / 3) j) ?_
                  refine lv_iload (pc := 126) hx hb dX10_keys_126 (lv_at hl 0 rfl) ?_
                  refine lv_iadd (pc := 128) hx hb dX10_keys_128 ?_
                  refine q_top (y := nI ((72 / 3) * j + k)) (nI_add ((72 / 3) * j) k) ?_
                  refine q_bald (pc := 129) hx hb hK hP 0 2 rfl rfl (k := (72 / 3) * j + k) (v := qs (gtp ((72 / 3) * j + k))) rfl (by omega) (by omega) rfl dX10_keys_129 ?_
                  refine q_bastS (pc := 130) hx hb hK hP hD hS 3 2 rfl rfl (k := 96 * sd + 32 * j + k) rfl (by omega) (by omega) (b := gtp ((72 / 3) * j + k)) (qlo_qs _) dX10_keys_130 (fun H locs hP hD hS => ?_)
                  have hP : va_P D vwCl [(a 27, aS ta 400 gtp), (a 36, aK ta 2 (qU ru sd ρ)), (a 37, aK ta 2 (qU le sd (72 / 3))), (a 38, aS ta 192 (qU u' (96 * sd + 32 * j + k) (gtp ((72 / 3) * j + k)))), (a 39, aK ta 2 se), (h0, oM a ar mn 0 osz lsz ns ct)] H := hP
                  have hD : va_D A [(a 27, aS ta 400 gtp), (a 36, aK ta 2 (qU ru sd ρ)), (a 37, aK ta 2 (qU le sd (72 / 3))), (a 38, aS ta 192 (qU u' (96 * sd + 32 * j + k) (gtp ((72 / 3) * j + k)))), (a 39, aK ta 2 se), (h0, oM a ar mn 0 osz lsz ns ct)] := hD
                  refine lv_iinc (pc := 131) (v := nI (k + 1)) (lv' := [(6, .int (nI (k + 1))), (5, .int (nI j)), (4, .int (nI 1)), (3, .int (nI 72)), (0, .ref h0), (1, .int (nI sd)), (2, .int (nI ρ))]) hx hb dX10_keys_131 hl (k := 0) rfl (by first | exact nI_add k 1 | rfl) (by decide) rfl (fun ls hl => ?_)
                  refine lv_goto (pc := 134) (tgt := 91) hx hb dX10_keys_134 (by decide) ?_
                  exact ih91 (k + 1) (qU u' (96 * sd + 32 * j + k) (gtp ((72 / 3) * j + k))) (by omega) (qSeg_s hs (by omega) rfl) (by omega) _ _ (hP.sub [0, 1, 2, 3, 4, 5] rfl) (hD.sub [0, 1, 2, 3, 4, 5] (by decide) rfl) hS ls (lv_sub hl [0, 1, 2, 3, 4, 5, 6] rfl)
            exact LP91 _ 0 t' (by omega) (qSeg_0) (Nat.lt_succ_self _) _ _ (hP.sub [0, 1, 2, 3, 4, 5] rfl) (hD.sub [0, 1, 2, 3, 4, 5] (by decide) rfl) hS ls (lv_sub hl [0, 1, 2, 3, 4, 5, 6] rfl)
      exact LP82 _ 0 gto (by omega) (fun i k hi => absurd hi (Nat.not_lt_zero _)) (fun _ _ => rfl) (Nat.lt_succ_self _) _ _ (hP.sub [0, 1, 2, 3, 4, 5] rfl) (hD.sub [0, 1, 2, 3, 4, 5] (by decide) rfl) hS ls (lv_sub hl [0, 1, 2, 3, 4, 5] rfl)
  · skip
    rw [nI_eq (by omega) (by omega)] at c_2
    exfalso; omega
set_option maxHeartbeats 4000000 in
set_option maxRecDepth 100000 in
theorem ct_X10_keys_32 (ll : Launch) (D : va_G) (ta : Nat → ClassId) {G : (Nat → Prop) → State → Heap → Prop} (hGok : GOK G) (h0 : Nat) (a : Nat → Nat) (ar : Nat) (mn : Nat) (tp : Nat) (osz : Nat) (lsz : Nat) (ns : Nat) (ct : Nat) (gtp : Nat → BitVec 8) (sd : Nat) (ρ : Nat) (ru : Nat → Nat) (le : Nat → Nat) (gto : Nat → BitVec 8) (se : Nat → Nat) (hsd : sd ≤ 1) (hρ : ρ = 3) (sz : Nat) : CT ll yX10_keys cX10_keys 7 (some .int) ({ frames := 1, cells := 0, slots := 0, locals := 21 } : Room) D ta G [.ref h0, .int (nI sd), .int (nI ρ)] [(h0, oM a ar mn 96 osz lsz ns ct), (a 27, aS ta 400 gtp), (a 36, aK ta 2 ru), (a 37, aK ta 2 le), (a 38, aS ta 192 gto), (a 39, aK ta 2 se)] sz (S := (Nat → BitVec 8) × (Nat → Nat) × (Nat → Nat) × (Nat → Nat)) (fun u => some (.int (nI 1))) (fun u => (u.2.2.1 = qU ru sd ρ) ∧ (u.2.2.2 = qU le sd 32) ∧ (seg u.1 (96 * sd) 32 = seg gtp 0 32) ∧ (seg u.1 (96 * sd + 32) 32 = seg gtp 32 32) ∧ (seg u.1 (96 * sd + 64) 32 = seg gtp 64 32) ∧ (∀ q, (q < 96 * sd ∨ 96 * sd + 96 ≤ q) → u.1 q = gto q) ∧ (u.2.1 0 = 0) ∧ (u.2.1 1 = 0)) (fun u => [(h0, oM a ar mn 0 osz 0 ns ct), (a 27, aS ta 400 gtp), (a 36, aK ta 2 u.2.2.1), (a 37, aK ta 2 u.2.2.2), (a 38, aS ta 192 u.1), (a 39, aK ta 2 u.2.1)]) 0 0 := by
  refine CT.of_i (r := fun u => nI 1) rfl (by decide) (Nat.le_of_ble_eq_true rfl) ?_
  intro pp ee ss mm below meth kc A Q hx hb hml hown hin hts hK hA hsz hG hret H locs hP hD hS ls hl
  have hl : lv_has ls 7 [(0, .ref h0), (1, .int (nI sd)), (2, .int (nI ρ))] := hl
  refine lv_aload_n (pc := 0) hx hb dX10_keys_0 rfl (lv_at hl 0 rfl) ?_
  refine cs_V (pc := 1) (idx := 310) (n := 0) (wr := [(a 27, aS ta 400 gtp), (a 36, aK ta 2 ru), (a 37, aK ta 2 le), (a 38, aS ta 192 gto), (a 39, aK ta 2 se)]) (As := []) (rest := []) (ci := 8) hx hb hml hown hts hGok hK hA hG hl.1 hP hD hS (ct_X10_use ll D ta hGok h0 a ar mn 96 osz lsz ns ct  H.size) tw_1254 tw_1251 tw_1253 tw_28 tw_75 hdX10_use rfl ⟨rfl, rfl, Nat.le_of_ble_eq_true rfl, Nat.le_of_ble_eq_true rfl, Nat.le_of_ble_eq_true rfl, Nat.le_of_ble_eq_true rfl⟩ rfl rfl (q0 := 0) rfl [0] [1, 2, 3, 4, 5] rfl rfl (by decide) rfl (Nat.le_of_ble_eq_true rfl) dX10_keys_1 (fun u H locs hq hP hD hS => ?_)
  refine W.eq (g2 := F0 mm 4 ls [.int (nI 96)]) rfl ?_
  have hP : va_P D vwCl [(a 27, aS ta 400 gtp), (a 36, aK ta 2 ru), (a 37, aK ta 2 le), (a 38, aS ta 192 gto), (a 39, aK ta 2 se), (h0, oM a ar mn 0 osz lsz ns ct)] H := hP
  have hD : va_D A [(a 27, aS ta 400 gtp), (a 36, aK ta 2 ru), (a 37, aK ta 2 le), (a 38, aS ta 192 gto), (a 39, aK ta 2 se), (h0, oM a ar mn 0 osz lsz ns ct)] := hD
  refine lv_istore_n (pc := 4) (lv' := [(3, .int (nI 96)), (0, .ref h0), (1, .int (nI sd)), (2, .int (nI ρ))]) hx hb dX10_keys_4 rfl hl (by decide) rfl (fun ls hl => ?_)
  refine lv_iload_n (pc := 5) hx hb dX10_keys_5 rfl (lv_at hl 2 rfl) ?_
  refine cs_S (pc := 6) (idx := 314) (n := 1) (wr := [(a 27, aS ta 400 gtp), (a 36, aK ta 2 ru), (a 37, aK ta 2 le), (a 38, aS ta 192 gto), (a 39, aK ta 2 se), (h0, oM a ar mn 0 osz lsz ns ct)]) (As := [.int (nI sd)]) (rest := []) hx hb hml hown hts hGok hK hA hG hl.1 hP hD hS (ct_X10_isSide_s ll D ta hGok sd (by first | assumption | omega | rfl | decide) H.size) tw_1261 tw_1259 tw_1260 tw_75 hdX10_isSide rfl ⟨rfl, rfl, Nat.le_of_ble_eq_true rfl, Nat.le_of_ble_eq_true rfl, Nat.le_of_ble_eq_true rfl, Nat.le_of_ble_eq_true rfl⟩ [] [0, 1, 2, 3, 4, 5] rfl rfl (by decide) rfl (Nat.le_of_ble_eq_true rfl) dX10_keys_6 (fun u H locs hq hP hD hS => ?_)
  refine W.eq (g2 := F0 mm 9 ls [.int (qb true)]) rfl ?_
  have hP : va_P D vwCl [(a 27, aS ta 400 gtp), (a 36, aK ta 2 ru), (a 37, aK ta 2 le), (a 38, aS ta 192 gto), (a 39, aK ta 2 se), (h0, oM a ar mn 0 osz lsz ns ct)] H := hP
  have hD : va_D A [(a 27, aS ta 400 gtp), (a 36, aK ta 2 ru), (a 37, aK ta 2 le), (a 38, aS ta 192 gto), (a 39, aK ta 2 se), (h0, oM a ar mn 0 osz lsz ns ct)] := hD
  refine lv_if_eq (pc := 9) (tgt := 53) hx hb dX10_keys_9 (by decide) (fun c_1 => absurd c_1 (by decide)) (fun _ => ?_)
  refine lv_iload_n (pc := 12) hx hb dX10_keys_12 rfl (lv_at hl 3 rfl) ?_
  refine lv_iconst (pc := 13) (v := nI 2) hx hb dX10_keys_13 (by decide +kernel) ?_
  refine lv_icmp_ne (pc := 14) (tgt := 26) hx hb dX10_keys_14 (by decide) (fun c_2 => ?_) (fun c_2 => ?_)
  · skip
    rw [nI_eq (by omega) (by omega)] at c_2
    refine lv_iload_n (pc := 26) hx hb dX10_keys_26 rfl (lv_at hl 3 rfl) ?_
    refine lv_iconst (pc := 27) (v := nI 3) hx hb dX10_keys_27 (by decide +kernel) ?_
    refine lv_icmp_ne (pc := 28) (tgt := 53) hx hb dX10_keys_28 (by decide) (fun c_3 => ?_) (fun c_3 => ?_)
    · skip
      rw [nI_eq (by omega) (by omega)] at c_3
      exfalso; omega
    · skip
      rw [nI_eq (by omega) (by omega)] at c_3
      refine lv_iload_n (pc := 31) hx hb dX10_keys_31 rfl (lv_at hl 0 rfl) ?_
      refine lv_bipush (pc := 32) (v := nI 48) hx hb dX10_keys_32 (by decide +kernel) ?_
      refine lv_icmp_eq (pc := 34) (tgt := 49) hx hb dX10_keys_34 (by decide) (fun c_4 => absurd c_4 (by decide)) (fun _ => ?_)
      refine lv_iload_n (pc := 37) hx hb dX10_keys_37 rfl (lv_at hl 0 rfl) ?_
      refine lv_bipush (pc := 38) (v := nI 72) hx hb dX10_keys_38 (by decide +kernel) ?_
      refine lv_icmp_eq (pc := 40) (tgt := 49) hx hb dX10_keys_40 (by decide) (fun c_5 => absurd c_5 (by decide)) (fun _ => ?_)
      refine lv_iload_n (pc := 43) hx hb dX10_keys_43 rfl (lv_at hl 0 rfl) ?_
      refine lv_bipush (pc := 44) (v := nI 96) hx hb dX10_keys_44 (by decide +kernel) ?_
      refine lv_icmp_ne (pc := 46) (tgt := 53) hx hb dX10_keys_46 (by decide) (fun c_6 => absurd (by decide) c_6) (fun _ => ?_)
      refine lv_iconst (pc := 49) (v := nI 1) hx hb dX10_keys_49 (by decide +kernel) ?_
      refine lv_goto (pc := 50) (tgt := 54) hx hb dX10_keys_50 (by decide) ?_
      refine lv_istore (pc := 54) (lv' := [(4, .int (nI 1)), (3, .int (nI 96)), (0, .ref h0), (1, .int (nI sd)), (2, .int (nI ρ))]) hx hb dX10_keys_54 hl (by decide) rfl (fun ls hl => ?_)
      refine lv_iload (pc := 56) hx hb dX10_keys_56 (lv_at hl 0 rfl) ?_
      refine lv_if_ne (pc := 58) (tgt := 63) hx hb dX10_keys_58 (by decide) (fun _ => ?_) (fun c_7 => absurd c_7 (by decide))
      refine lv_aload_n (pc := 63) hx hb dX10_keys_63 rfl (lv_at hl 2 rfl) ?_
      refine va_get (pc := 64) (D := D) (ci := 8) (v := .ref (a 36)) (C := RX10) (T := TX10) (N := 57) hx hb hts iu10 hown hK hP 5 rfl rfl 36 (by decide) (hts _ tw_1081) (fun _ h9 => h9) rfl dX10_keys_64 ?_
      refine lv_iload_n (pc := 67) hx hb dX10_keys_67 rfl (lv_at hl 3 rfl) ?_
      refine lv_iload_n (pc := 68) hx hb dX10_keys_68 rfl (lv_at hl 4 rfl) ?_
      refine q_iastK (pc := 69) hx hb hK hP hD hS 1 0 rfl rfl (k := sd) rfl (by omega) (by omega) (b := ρ) rfl dX10_keys_69 (fun H locs hP hD hS => ?_)
      have hP : va_P D vwCl [(a 27, aS ta 400 gtp), (a 36, aK ta 2 (qU ru sd ρ)), (a 37, aK ta 2 le), (a 38, aS ta 192 gto), (a 39, aK ta 2 se), (h0, oM a ar mn 0 osz lsz ns ct)] H := hP
      have hD : va_D A [(a 27, aS ta 400 gtp), (a 36, aK ta 2 (qU ru sd ρ)), (a 37, aK ta 2 le), (a 38, aS ta 192 gto), (a 39, aK ta 2 se), (h0, oM a ar mn 0 osz lsz ns ct)] := hD
      refine lv_aload_n (pc := 70) hx hb dX10_keys_70 rfl (lv_at hl 2 rfl) ?_
      refine va_get (pc := 71) (D := D) (ci := 8) (v := .ref (a 37)) (C := RX10) (T := TX10) (N := 57) hx hb hts iu10 hown hK hP 5 rfl rfl 37 (by decide) (hts _ tw_1082) (fun _ h9 => h9) rfl dX10_keys_71 ?_
      refine lv_iload_n (pc := 74) hx hb dX10_keys_74 rfl (lv_at hl 3 rfl) ?_
      refine lv_iload_n (pc := 75) hx hb dX10_keys_75 rfl (lv_at hl 1 rfl) ?_
      refine lv_iconst (pc := 76) (v := nI 3) hx hb dX10_keys_76 (by decide +kernel) ?_
      refine lv_idiv (pc := 77) hx hb dX10_keys_77 (q_ne0 (by omega) (by omega)) ?_
      refine q_top (y := nI (96 / 3)) (pk_div (by omega) (by omega) (by omega)) ?_
      refine q_iastK (pc := 78) hx hb hK hP hD hS 2 0 rfl rfl (k := sd) rfl (by omega) (by omega) (b := 96 / 3) rfl dX10_keys_78 (fun H locs hP hD hS => ?_)
      have hP : va_P D vwCl [(a 27, aS ta 400 gtp), (a 36, aK ta 2 (qU ru sd ρ)), (a 37, aK ta 2 (qU le sd (96 / 3))), (a 38, aS ta 192 gto), (a 39, aK ta 2 se), (h0, oM a ar mn 0 osz lsz ns ct)] H := hP
      have hD : va_D A [(a 27, aS ta 400 gtp), (a 36, aK ta 2 (qU ru sd ρ)), (a 37, aK ta 2 (qU le sd (96 / 3))), (a 38, aS ta 192 gto), (a 39, aK ta 2 se), (h0, oM a ar mn 0 osz lsz ns ct)] := hD
      refine lv_iconst (pc := 79) (v := nI 0) hx hb dX10_keys_79 (by decide +kernel) ?_
      refine lv_istore (pc := 80) (lv' := [(5, .int (nI 0)), (4, .int (nI 1)), (3, .int (nI 96)), (0, .ref h0), (1, .int (nI sd)), (2, .int (nI ρ))]) hx hb dX10_keys_80 hl (by decide) rfl (fun ls hl => ?_)
      have LP82 : ∀ (nn82 : Nat) (j : Nat) (t' : Nat → BitVec 8), (j ≤ 3) → (∀ i k, i < j → k < 32 → t' (96 * sd + 32 * i + k) = gtp (32 * i + k)) → (∀ q, (q < 96 * sd ∨ 96 * sd + 96 ≤ q) → t' q = gto q) → (3 - j < nn82) → ∀ (H : Heap) (locs : List Loc), va_P D vwCl [(a 27, aS ta 400 gtp), (a 36, aK ta 2 (qU ru sd ρ)), (a 37, aK ta 2 (qU le sd (96 / 3))), (a 38, aS ta 192 t'), (a 39, aK ta 2 se), (h0, oM a ar mn 0 osz lsz ns ct)] H → va_D A [(a 27, aS ta 400 gtp), (a 36, aK ta 2 (qU ru sd ρ)), (a 37, aK ta 2 (qU le sd (96 / 3))), (a 38, aS ta 192 t'), (a 39, aK ta 2 se), (h0, oM a ar mn 0 osz lsz ns ct)] → va_S A ss.heap H locs → ∀ ls : Array Slot, lv_has ls 7 [(5, .int (nI j)), (4, .int (nI 1)), (3, .int (nI 96)), (0, .ref h0), (1, .int (nI sd)), (2, .int (nI ρ))] → W pp ll ee ({ frames := 1, cells := 0, slots := 0, locals := 21 } : Room) ss mm (([.ref h0, .int (nI sd), .int (nI ρ)] : List Value).toArray) below meth kc H locs 0 0 Q (F0 mm 82 ls []) := by
        intro nn82
        induction nn82 with
        | zero => intro j t' hjj hT hF hmu; exact absurd hmu (Nat.not_lt_zero _)
        | succ nn82 ih82 =>
          intro j t' hjj hT hF hmu82 H locs hP hD hS ls hl
          refine lv_iload (pc := 82) hx hb dX10_keys_82 (lv_at hl 0 rfl) ?_
          refine lv_iconst (pc := 84) (v := nI 3) hx hb dX10_keys_84 (by decide +kernel) ?_
          refine lv_icmp_ge (pc := 85) (tgt := 143) hx hb dX10_keys_85 (by decide) (fun c_8 => ?_) (fun c_8 => ?_)
          · skip
            rw [nI_leI (by omega) (by omega)] at c_8
            refine lv_aload_n (pc := 143) hx hb dX10_keys_143 rfl (lv_at hl 3 rfl) ?_
            refine cs_V (pc := 144) (idx := 318) (n := 0) (wr := [(a 27, aS ta 400 gtp), (a 36, aK ta 2 (qU ru sd ρ)), (a 37, aK ta 2 (qU le sd (96 / 3))), (a 38, aS ta 192 t')]) (As := []) (rest := []) (ci := 8) hx hb hml hown hts hGok hK hA hG hl.1 hP hD hS (ct_X10_none ll D ta hGok h0 a ar mn 0 osz lsz ns ct se  H.size) tw_1265 tw_1262 tw_1264 tw_29 tw_75 hdX10_none rfl ⟨rfl, rfl, Nat.le_of_ble_eq_true rfl, Nat.le_of_ble_eq_true rfl, Nat.le_of_ble_eq_true rfl, Nat.le_of_ble_eq_true rfl⟩ rfl rfl (q0 := 5) rfl [5, 4] [0, 1, 2, 3] rfl rfl (by decide) rfl (Nat.le_of_ble_eq_true rfl) dX10_keys_144 (fun u H locs hq hP hD hS => ?_)
            generalize u = se1_144 at hq hP hD ⊢
            have hq : (se1_144 0 = 0) ∧ (se1_144 1 = 0) := hq
            obtain ⟨hs0_144, hs1_144⟩ := hq
            refine W.eq (g2 := F0 mm 147 ls []) rfl ?_
            have hP : va_P D vwCl [(a 27, aS ta 400 gtp), (a 36, aK ta 2 (qU ru sd ρ)), (a 37, aK ta 2 (qU le sd (96 / 3))), (a 38, aS ta 192 t'), (h0, oM a ar mn 0 osz 0 ns ct), (a 39, aK ta 2 se1_144)] H := hP
            have hD : va_D A [(a 27, aS ta 400 gtp), (a 36, aK ta 2 (qU ru sd ρ)), (a 37, aK ta 2 (qU le sd (96 / 3))), (a 38, aS ta 192 t'), (h0, oM a ar mn 0 osz 0 ns ct), (a 39, aK ta 2 se1_144)] := hD
            refine lv_iconst (pc := 147) (v := nI 1) hx hb dX10_keys_147 (by decide +kernel) ?_
            have hq_9 : ((qU ru sd ρ) = qU ru sd ρ) ∧ ((qU le sd (96 / 3)) = qU le sd 32) ∧ (seg t' (96 * sd) 32 = seg gtp 0 32) ∧ (seg t' (96 * sd + 32) 32 = seg gtp 32 32) ∧ (seg t' (96 * sd + 64) 32 = seg gtp 64 32) ∧ (∀ q, (q < 96 * sd ∨ 96 * sd + 96 ≤ q) → t' q = gto q) ∧ (se1_144 0 = 0) ∧ (se1_144 1 = 0) := by
              refine ⟨rfl, rfl, ?_, ?_, ?_, hF, hs0_144, hs1_144⟩
              · rw [seg_ext]; intro k hk; have := hT 0 k (by omega) hk; simpa using this
              · rw [seg_ext]; intro k hk; have := hT 1 k (by omega) hk; simpa using this
              · rw [seg_ext]; intro k hk; have := hT 2 k (by omega) hk; rw [show 32 * 2 = 64 from rfl] at this; exact this
            exact hret (⟨(t'), (se1_144), (qU ru sd ρ), (qU le sd (96 / 3))⟩ : (Nat → BitVec 8) × (Nat → Nat) × (Nat → Nat) × (Nat → Nat)) _ _ _ _ dX10_keys_148 hq_9 (hP.sub [4, 0, 1, 2, 3, 5] rfl) (hD.sub [4, 0, 1, 2, 3, 5] (by decide) rfl) hS
          · skip
            rw [nI_leI (by omega) (by omega)] at c_8
            refine lv_iconst (pc := 88) (v := nI 0) hx hb dX10_keys_88 (by decide +kernel) ?_
            refine lv_istore (pc := 89) (lv' := [(6, .int (nI 0)), (5, .int (nI j)), (4, .int (nI 1)), (3, .int (nI 96)), (0, .ref h0), (1, .int (nI sd)), (2, .int (nI ρ))]) hx hb dX10_keys_89 hl (by decide) rfl (fun ls hl => ?_)
            have LP91 : ∀ (nn91 : Nat) (k : Nat) (u' : Nat → BitVec 8), (k ≤ 32) → (qSeg u' t' (96 * sd + 32 * j) k (fun x => gtp (32 * j + x))) → (32 - k < nn91) → ∀ (H : Heap) (locs : List Loc), va_P D vwCl [(a 27, aS ta 400 gtp), (a 36, aK ta 2 (qU ru sd ρ)), (a 37, aK ta 2 (qU le sd (96 / 3))), (a 38, aS ta 192 u'), (a 39, aK ta 2 se), (h0, oM a ar mn 0 osz lsz ns ct)] H → va_D A [(a 27, aS ta 400 gtp), (a 36, aK ta 2 (qU ru sd ρ)), (a 37, aK ta 2 (qU le sd (96 / 3))), (a 38, aS ta 192 u'), (a 39, aK ta 2 se), (h0, oM a ar mn 0 osz lsz ns ct)] → va_S A ss.heap H locs → ∀ ls : Array Slot, lv_has ls 7 [(6, .int (nI k)), (5, .int (nI j)), (4, .int (nI 1)), (3, .int (nI 96)), (0, .ref h0), (1, .int (nI sd)), (2, .int (nI ρ))] → W pp ll ee ({ frames := 1, cells := 0, slots := 0, locals := 21 } : Room) ss mm (([.ref h0, .int (nI sd), .int (nI ρ)] : List Value).toArray) below meth kc H locs 0 0 Q (F0 mm 91 ls []) := by
              intro nn91
              induction nn91 with
              | zero => intro k u' hkk hs hmu; exact absurd hmu (Nat.not_lt_zero _)
              | succ nn91 ih91 =>
                intro k u' hkk hs hmu91 H locs hP hD hS ls hl
                refine lv_iload (pc := 91) hx hb dX10_keys_91 (lv_at hl 0 rfl) ?_
                refine lv_iload_n (pc := 93) hx hb dX10_keys_93 rfl (lv_at hl 3 rfl) ?_
                refine lv_iconst (pc := 94) (v := nI 3) hx hb dX10_keys_94 (by decide +kernel) ?_
                refine lv_idiv (pc := 95) hx hb dX10_keys_95 (q_ne0 (by omega) (by omega)) ?_
                refine q_top (y := nI (96 / 3)) (pk_div (by omega) (by omega) (by omega)) ?_
                refine lv_icmp_ge (pc := 96) (tgt := 137) hx hb dX10_keys_96 (by decide) (fun c_10 => ?_) (fun c_10 => ?_)
                · skip
                  rw [nI_leI (by omega) (by omega)] at c_10
                  refine lv_iinc (pc := 137) (v := nI (j + 1)) (lv' := [(5, .int (nI (j + 1))), (6, .int (nI k)), (4, .int (nI 1)), (3, .int (nI 96)), (0, .ref h0), (1, .int (nI sd)), (2, .int (nI ρ))]) hx hb dX10_keys_137 hl (k := 1) rfl (by first | exact nI_add j 1 | rfl) (by decide) rfl (fun ls hl => ?_)
                  refine lv_goto (pc := 140) (tgt := 82) hx hb dX10_keys_140 (by decide) ?_
                  exact ih82 (j + 1) u' (by omega) (by
                        intro i k9 hi hk9
                        by_cases q : i = j
                        · subst q
                          exact hs.1 k9 (by omega)
                        · rw [hs.2 _ (by omega)]
                          exact hT i k9 (by omega) hk9) (by intro q hq; rw [hs.2 _ (by omega)]; exact hF q hq) (by omega) _ _ (hP.sub [0, 1, 2, 3, 4, 5] rfl) (hD.sub [0, 1, 2, 3, 4, 5] (by decide) rfl) hS ls (lv_sub hl [0, 2, 3, 4, 5, 6] rfl)
                · skip
                  rw [nI_leI (by omega) (by omega)] at c_10
                  refine lv_aload_n (pc := 99) hx hb dX10_keys_99 rfl (lv_at hl 4 rfl) ?_
                  refine va_get (pc := 100) (D := D) (ci := 8) (v := .ref (a 38)) (C := RX10) (T := TX10) (N := 57) hx hb hts iu10 hown hK hP 5 rfl rfl 38 (by decide) (hts _ tw_1083) (fun _ h9 => h9) rfl dX10_keys_100 ?_
                  refine lv_bipush (pc := 103) (v := nI 96) hx hb dX10_keys_103 (by decide +kernel) ?_
                  refine lv_iload_n (pc := 105) hx hb dX10_keys_105 rfl (lv_at hl 5 rfl) ?_
                  refine lv_imul (pc := 106) hx hb dX10_keys_106 ?_
                  refine q_top (y := nI (96 * sd)) (pk_mul 96 sd) ?_
                  refine lv_bipush (pc := 107) (v := nI 32) hx hb dX10_keys_107 (by decide +kernel) ?_
                  refine lv_iload (pc := 109) hx hb dX10_keys_109 (lv_at hl 1 rfl) ?_
                  refine lv_imul (pc := 111) hx hb dX10_keys_111 ?_
                  refine q_top (y := nI (32 * j)) (pk_mul 32 j) ?_
                  refine lv_iadd (pc := 112) hx hb dX10_keys_112 ?_
                  refine q_top (y := nI (96 * sd + 32 * j)) (nI_add (96 * sd) (32 * j)) ?_
                  refine lv_iload (pc := 113) hx hb dX10_keys_113 (lv_at hl 0 rfl) ?_
                  refine lv_iadd (pc := 115) hx hb dX10_keys_115 ?_
                  refine q_top (y := nI (96 * sd + 32 * j + k)) (nI_add (96 * sd + 32 * j) k) ?_
                  refine lv_aload_n (pc := 116) hx hb dX10_keys_116 rfl (lv_at hl 4 rfl) ?_
                  refine va_get (pc := 117) (D := D) (ci := 8) (v := .ref (a 27)) (C := RX10) (T := TX10) (N := 57) hx hb hts iu10 hown hK hP 5 rfl rfl 27 (by decide) (hts _ tw_1072) (fun _ h9 => h9) rfl dX10_keys_117 ?_
                  refine lv_iload_n (pc := 120) hx hb dX10_keys_120 rfl (lv_at hl 3 rfl) ?_
                  refine lv_iconst (pc := 121) (v := nI 3) hx hb dX10_keys_121 (by decide +kernel) ?_
                  refine lv_idiv (pc := 122) hx hb dX10_keys_122 (q_ne0 (by omega) (by omega)) ?_
                  refine q_top (y := nI (96 / 3)) (pk_div (by omega) (by omega) (by omega)) ?_
                  refine lv_iload (pc := 123) hx hb dX10_keys_123 (lv_at hl 1 rfl) ?_
                  refine lv_imul (pc := 125) hx hb dX10_keys_125 ?_
                  refine q_top (y := nI ((96 / 3) * j)) (pk_mul (96 / 3) j) ?_
                  refine lv_iload (pc := 126) hx hb dX10_keys_126 (lv_at hl 0 rfl) ?_
                  refine lv_iadd (pc := 128) hx hb dX10_keys_128 ?_
                  refine q_top (y := nI ((96 / 3) * j + k)) (nI_add ((96 / 3) * j) k) ?_
                  refine q_bald (pc := 129) hx hb hK hP 0 2 rfl rfl (k := (96 / 3) * j + k) (v := qs (gtp ((96 / 3) * j + k))) rfl (by omega) (by omega) rfl dX10_keys_129 ?_
                  refine q_bastS (pc := 130) hx hb hK hP hD hS 3 2 rfl rfl (k := 96 * sd + 32 * j + k) rfl (by omega) (by omega) (b := gtp ((96 / 3) * j + k)) (qlo_qs _) dX10_keys_130 (fun H locs hP hD hS => ?_)
                  have hP : va_P D vwCl [(a 27, aS ta 400 gtp), (a 36, aK ta 2 (qU ru sd ρ)), (a 37, aK ta 2 (qU le sd (96 / 3))), (a 38, aS ta 192 (qU u' (96 * sd + 32 * j + k) (gtp ((96 / 3) * j + k)))), (a 39, aK ta 2 se), (h0, oM a ar mn 0 osz lsz ns ct)] H := hP
                  have hD : va_D A [(a 27, aS ta 400 gtp), (a 36, aK ta 2 (qU ru sd ρ)), (a 37, aK ta 2 (qU le sd (96 / 3))), (a 38, aS ta 192 (qU u' (96 * sd + 32 * j + k) (gtp ((96 / 3) * j + k)))), (a 39, aK ta 2 se), (h0, oM a ar mn 0 osz lsz ns ct)] := hD
                  refine lv_iinc (pc := 131) (v := nI (k + 1)) (lv' := [(6, .int (nI (k + 1))), (5, .int (nI j)), (4, .int (nI 1)), (3, .int (nI 96)), (0, .ref h0), (1, .int (nI sd)), (2, .int (nI ρ))]) hx hb dX10_keys_131 hl (k := 0) rfl (by first | exact nI_add k 1 | rfl) (by decide) rfl (fun ls hl => ?_)
                  refine lv_goto (pc := 134) (tgt := 91) hx hb dX10_keys_134 (by decide) ?_
                  exact ih91 (k + 1) (qU u' (96 * sd + 32 * j + k) (gtp ((96 / 3) * j + k))) (by omega) (qSeg_s hs (by omega) rfl) (by omega) _ _ (hP.sub [0, 1, 2, 3, 4, 5] rfl) (hD.sub [0, 1, 2, 3, 4, 5] (by decide) rfl) hS ls (lv_sub hl [0, 1, 2, 3, 4, 5, 6] rfl)
            exact LP91 _ 0 t' (by omega) (qSeg_0) (Nat.lt_succ_self _) _ _ (hP.sub [0, 1, 2, 3, 4, 5] rfl) (hD.sub [0, 1, 2, 3, 4, 5] (by decide) rfl) hS ls (lv_sub hl [0, 1, 2, 3, 4, 5, 6] rfl)
      exact LP82 _ 0 gto (by omega) (fun i k hi => absurd hi (Nat.not_lt_zero _)) (fun _ _ => rfl) (Nat.lt_succ_self _) _ _ (hP.sub [0, 1, 2, 3, 4, 5] rfl) (hD.sub [0, 1, 2, 3, 4, 5] (by decide) rfl) hS ls (lv_sub hl [0, 1, 2, 3, 4, 5] rfl)
  · skip
    rw [nI_eq (by omega) (by omega)] at c_2
    exfalso; omega
