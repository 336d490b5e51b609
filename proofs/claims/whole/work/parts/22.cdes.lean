theorem hdX2_load : yX2_load.cls ≠ "java/lang/invoke/MethodHandle" ∧ yX2_load.cls ≠ "java/lang/invoke/VarHandle" ∧ (parseMethodDescriptor yX2_load.desc).map (fun d => d.parameters.length) = some 0 := ⟨by decide +kernel, by decide +kernel, by decide +kernel⟩
theorem dX2_load_0 : decode cX2_load 0 = .ok (.lconst 0, 1) := by decide +kernel
theorem dX2_load_1 : decode cX2_load 1 = .ok (.lstore_n 1, 1) := by decide +kernel
theorem dX2_load_2 : decode cX2_load 2 = .ok (.iconst 0, 1) := by decide +kernel
theorem dX2_load_3 : decode cX2_load 3 = .ok (.istore_n 3, 1) := by decide +kernel
theorem dX2_load_4 : decode cX2_load 4 = .ok (.iload_n 3, 1) := by decide +kernel
theorem dX2_load_5 : decode cX2_load 5 = .ok (.aload_n 0, 1) := by decide +kernel
theorem dX2_load_6 : decode cX2_load 6 = .ok (.getfield 50, 3) := by decide +kernel
theorem dX2_load_9 : decode cX2_load 9 = .ok (.arraylength, 1) := by decide +kernel
theorem dX2_load_10 : decode cX2_load 10 = .ok (.if_icmp .ge 26, 3) := by decide +kernel
theorem dX2_load_13 : decode cX2_load 13 = .ok (.lload_n 1, 1) := by decide +kernel
theorem dX2_load_14 : decode cX2_load 14 = .ok (.bipush 8, 2) := by decide +kernel
theorem dX2_load_16 : decode cX2_load 16 = .ok (.lshl, 1) := by decide +kernel
theorem dX2_load_17 : decode cX2_load 17 = .ok (.aload_n 0, 1) := by decide +kernel
theorem dX2_load_18 : decode cX2_load 18 = .ok (.getfield 50, 3) := by decide +kernel
theorem dX2_load_21 : decode cX2_load 21 = .ok (.iload_n 3, 1) := by decide +kernel
theorem dX2_load_22 : decode cX2_load 22 = .ok (.iaload, 1) := by decide +kernel
theorem dX2_load_23 : decode cX2_load 23 = .ok (.sipush 255, 3) := by decide +kernel
theorem dX2_load_26 : decode cX2_load 26 = .ok (.iand, 1) := by decide +kernel
theorem dX2_load_27 : decode cX2_load 27 = .ok (.i2l, 1) := by decide +kernel
theorem dX2_load_28 : decode cX2_load 28 = .ok (.lor, 1) := by decide +kernel
theorem dX2_load_29 : decode cX2_load 29 = .ok (.lstore_n 1, 1) := by decide +kernel
theorem dX2_load_30 : decode cX2_load 30 = .ok (.iinc 3 1, 3) := by decide +kernel
theorem dX2_load_33 : decode cX2_load 33 = .ok (.goto (-29), 3) := by decide +kernel
theorem dX2_load_36 : decode cX2_load 36 = .ok (.lload_n 1, 1) := by decide +kernel
theorem dX2_load_37 : decode cX2_load 37 = .ok (.lreturn, 1) := by decide +kernel
set_option maxHeartbeats 4000000 in
set_option maxRecDepth 100000 in
theorem ct_X2_load (ll : Launch) (D : va_G) (ta : Nat → ClassId) {G : (Nat → Prop) → State → Heap → Prop} (hGok : GOK G) (ha : Nat) (b1 : Nat) (b2 : Nat) (b3 : Nat) (b4 : Nat) (b5 : Nat) (tri : Bool) (gb : Nat → BitVec 8)  (sz : Nat) : CT ll yX2_load cX2_load 4 (some .long) ({ frames := 0, cells := 0, slots := 0, locals := 0 } : Room) D ta G [.ref ha] [(ha, oD b1 b2 b3 b4 b5 tri), (b1, aZ ta 8 gb)] sz (S := Unit) (fun u => some (.long (ldL gb 8))) (fun u => True) (fun u => [(ha, oD b1 b2 b3 b4 b5 tri), (b1, aZ ta 8 gb)]) 0 0 := by
  refine CT.of_l (r := fun u => ldL gb 8) rfl (by decide) (Nat.le_of_ble_eq_true rfl) ?_
  intro pp ee ss mm below meth kc A Q hx hb hml hown hin hts hK hA hsz hG hret H locs hP hD hS ls hl
  have hl : lv_has ls 4 [(0, .ref ha)] := hl
  refine lv_lconst (pc := 0) (v := 0) hx hb dX2_load_0 (by decide +kernel) ?_
  refine lv_lstore_n (pc := 1) (lv' := [(1, .long 0), (0, .ref ha)]) hx hb dX2_load_1 rfl hl (by decide) rfl (fun ls hl => ?_)
  refine lv_iconst (pc := 2) (v := nI 0) hx hb dX2_load_2 (by decide +kernel) ?_
  refine lv_istore_n (pc := 3) (lv' := [(3, .int (nI 0)), (1, .long 0), (0, .ref ha)]) hx hb dX2_load_3 rfl hl (by decide) rfl (fun ls hl => ?_)
  have LP4 : ∀ (nn4 : Nat) (i : Nat) (x : Int64), (i ≤ 8) → (x = ldL gb i) → (8 - i < nn4) → ∀ (H : Heap) (locs : List Loc), va_P D vwCl [(ha, oD b1 b2 b3 b4 b5 tri), (b1, aZ ta 8 gb)] H → va_D A [(ha, oD b1 b2 b3 b4 b5 tri), (b1, aZ ta 8 gb)] → va_S A ss.heap H locs → ∀ ls : Array Slot, lv_has ls 4 [(3, .int (nI i)), (1, .long x), (0, .ref ha)] → W pp ll ee ({ frames := 0, cells := 0, slots := 0, locals := 0 } : Room) ss mm (([.ref ha] : List Value).toArray) below meth kc H locs 0 0 Q (F0 mm 4 ls []) := by
    intro nn4
    induction nn4 with
    | zero => intro i x hii hX hmu; exact absurd hmu (Nat.not_lt_zero _)
    | succ nn4 ih4 =>
      intro i x hii hX hmu4 H locs hP hD hS ls hl
      refine lv_iload_n (pc := 4) hx hb dX2_load_4 rfl (lv_at hl 0 rfl) ?_
      refine lv_aload_n (pc := 5) hx hb dX2_load_5 rfl (lv_at hl 2 rfl) ?_
      refine va_get (pc := 6) (D := D) (ci := 1) (v := .ref b1) (C := RX2) (T := TX2) (N := 6) hx hb hts iu2 hown hK hP 0 rfl rfl 0 (by decide) (hts _ tw_252) (fun x h9 => u_same (hts _ tw_253) x h9) rfl dX2_load_6 ?_
      refine va_alen (pc := 9) hx hb hK hP 1 0 rfl rfl (v := nI 8) rfl dX2_load_9 ?_
      refine lv_icmp_ge (pc := 10) (tgt := 36) hx hb dX2_load_10 (by decide) (fun c_1 => ?_) (fun c_1 => ?_)
      · skip
        rw [nI_leI (by omega) (by omega)] at c_1
        refine lv_lload_n (pc := 36) hx hb dX2_load_36 rfl (lv_at hl 1 rfl) ?_
        refine q_topl (y := ldL gb 8) (by rw [hX, show i = 8 by omega]) ?_
        have hq_2 : True := trivial
        exact hret () _ _ _ _ dX2_load_37 hq_2 (hP.sub [0, 1] rfl) (hD.sub [0, 1] (by decide) rfl) hS
      · skip
        rw [nI_leI (by omega) (by omega)] at c_1
        refine lv_lload_n (pc := 13) hx hb dX2_load_13 rfl (lv_at hl 1 rfl) ?_
        refine lv_bipush (pc := 14) (v := nI 8) hx hb dX2_load_14 (by decide +kernel) ?_
        refine lv_lshl (pc := 16) (v := (lsl x 8)) hx hb dX2_load_16 rfl ?_
        refine lv_aload_n (pc := 17) hx hb dX2_load_17 rfl (lv_at hl 2 rfl) ?_
        refine va_get (pc := 18) (D := D) (ci := 1) (v := .ref b1) (C := RX2) (T := TX2) (N := 6) hx hb hts iu2 hown hK hP 0 rfl rfl 0 (by decide) (hts _ tw_252) (fun x h9 => u_same (hts _ tw_253) x h9) rfl dX2_load_18 ?_
        refine lv_iload_n (pc := 21) hx hb dX2_load_21 rfl (lv_at hl 0 rfl) ?_
        refine q_iald (pc := 22) hx hb hK hP 1 0 rfl rfl (k := i) (v := qz (gb i)) rfl (by omega) (by omega) rfl dX2_load_22 ?_
        refine lv_sipush (pc := 23) (v := nI 255) hx hb dX2_load_23 (by decide +kernel) ?_
        refine lv_iand (pc := 26) hx hb dX2_load_26 ?_
        refine q_top (y := qz (gb i)) (q_and255z _) ?_
        refine lv_i2l (pc := 27) (v := (qz (gb i)).toInt64) hx hb dX2_load_27 rfl ?_
        refine lv_lor (pc := 28) hx hb dX2_load_28 ?_
        refine lv_lstore_n (pc := 29) (lv' := [(1, .long ((lsl x 8) ||| ((qz (gb i)).toInt64))), (3, .int (nI i)), (0, .ref ha)]) hx hb dX2_load_29 rfl hl (by decide) rfl (fun ls hl => ?_)
        refine lv_iinc (pc := 30) (v := nI (i + 1)) (lv' := [(3, .int (nI (i + 1))), (1, .long ((lsl x 8) ||| ((qz (gb i)).toInt64))), (0, .ref ha)]) hx hb dX2_load_30 hl (k := 1) rfl (by first | exact nI_add i 1 | rfl) (by decide) rfl (fun ls hl => ?_)
        refine lv_goto (pc := 33) (tgt := 4) hx hb dX2_load_33 (by decide) ?_
        exact ih4 (i + 1) ((lsl x 8) ||| ((qz (gb i)).toInt64)) (by omega) (by first | (rw [hX]; rfl) | (subst_vars; rfl)) (by omega) _ _ (hP.sub [0, 1] rfl) (hD.sub [0, 1] (by decide) rfl) hS ls (lv_sub hl [0, 1, 2] rfl)
  exact LP4 _ 0 0 (by omega) (rfl) (Nat.lt_succ_self _) _ _ (hP.sub [0, 1] rfl) (hD.sub [0, 1] (by decide) rfl) hS ls (lv_sub hl [0, 1, 2] rfl)
theorem hdX2_store : yX2_store.cls ≠ "java/lang/invoke/MethodHandle" ∧ yX2_store.cls ≠ "java/lang/invoke/VarHandle" ∧ (parseMethodDescriptor yX2_store.desc).map (fun d => d.parameters.length) = some 1 := ⟨by decide +kernel, by decide +kernel, by decide +kernel⟩
theorem dX2_store_0 : decode cX2_store 0 = .ok (.iconst 0, 1) := by decide +kernel
theorem dX2_store_1 : decode cX2_store 1 = .ok (.istore_n 3, 1) := by decide +kernel
theorem dX2_store_2 : decode cX2_store 2 = .ok (.iload_n 3, 1) := by decide +kernel
theorem dX2_store_3 : decode cX2_store 3 = .ok (.aload_n 0, 1) := by decide +kernel
theorem dX2_store_4 : decode cX2_store 4 = .ok (.getfield 50, 3) := by decide +kernel
theorem dX2_store_7 : decode cX2_store 7 = .ok (.arraylength, 1) := by decide +kernel
theorem dX2_store_8 : decode cX2_store 8 = .ok (.if_icmp .ge 29, 3) := by decide +kernel
theorem dX2_store_11 : decode cX2_store 11 = .ok (.aload_n 0, 1) := by decide +kernel
theorem dX2_store_12 : decode cX2_store 12 = .ok (.getfield 50, 3) := by decide +kernel
theorem dX2_store_15 : decode cX2_store 15 = .ok (.iload_n 3, 1) := by decide +kernel
theorem dX2_store_16 : decode cX2_store 16 = .ok (.lload_n 1, 1) := by decide +kernel
theorem dX2_store_17 : decode cX2_store 17 = .ok (.bipush 56, 2) := by decide +kernel
theorem dX2_store_19 : decode cX2_store 19 = .ok (.bipush 8, 2) := by decide +kernel
theorem dX2_store_21 : decode cX2_store 21 = .ok (.iload_n 3, 1) := by decide +kernel
theorem dX2_store_22 : decode cX2_store 22 = .ok (.imul, 1) := by decide +kernel
theorem dX2_store_23 : decode cX2_store 23 = .ok (.isub, 1) := by decide +kernel
theorem dX2_store_24 : decode cX2_store 24 = .ok (.lushr, 1) := by decide +kernel
theorem dX2_store_25 : decode cX2_store 25 = .ok (.l2i, 1) := by decide +kernel
theorem dX2_store_26 : decode cX2_store 26 = .ok (.sipush 255, 3) := by decide +kernel
theorem dX2_store_29 : decode cX2_store 29 = .ok (.iand, 1) := by decide +kernel
theorem dX2_store_30 : decode cX2_store 30 = .ok (.iastore, 1) := by decide +kernel
theorem dX2_store_31 : decode cX2_store 31 = .ok (.iinc 3 1, 3) := by decide +kernel
theorem dX2_store_34 : decode cX2_store 34 = .ok (.goto (-32), 3) := by decide +kernel
theorem dX2_store_37 : decode cX2_store 37 = .ok (.return_, 1) := by decide +kernel
set_option maxHeartbeats 4000000 in
set_option maxRecDepth 100000 in
theorem ct_X2_store (ll : Launch) (D : va_G) (ta : Nat → ClassId) {G : (Nat → Prop) → State → Heap → Prop} (hGok : GOK G) (ha : Nat) (b1 : Nat) (b2 : Nat) (b3 : Nat) (b4 : Nat) (b5 : Nat) (tri : Bool) (gb : Nat → BitVec 8) (x : Int64)  (sz : Nat) : CT ll yX2_store cX2_store 4 none ({ frames := 0, cells := 0, slots := 0, locals := 0 } : Room) D ta G [.ref ha, .long x] [(ha, oD b1 b2 b3 b4 b5 tri), (b1, aZ ta 8 gb)] sz (S := (Nat → BitVec 8)) (fun _ => none) (fun u => (∀ k, k < 8 → u k = bySt x k)) (fun u => [(ha, oD b1 b2 b3 b4 b5 tri), (b1, aZ ta 8 u)]) 0 0 := by
  refine CT.of_v rfl (by decide) (Nat.le_of_ble_eq_true rfl) ?_
  intro pp ee ss mm below meth kc A Q hx hb hml hown hin hts hK hA hsz hG hret H locs hP hD hS ls hl
  have hl : lv_has ls 4 [(0, .ref ha), (1, .long x)] := hl
  refine lv_iconst (pc := 0) (v := nI 0) hx hb dX2_store_0 (by decide +kernel) ?_
  refine lv_istore_n (pc := 1) (lv' := [(3, .int (nI 0)), (0, .ref ha), (1, .long x)]) hx hb dX2_store_1 rfl hl (by decide) rfl (fun ls hl => ?_)
  have LP2 : ∀ (nn2 : Nat) (i : Nat) (g' : Nat → BitVec 8), (i ≤ 8) → (qSeg g' gb 0 i (bySt x)) → (8 - i < nn2) → ∀ (H : Heap) (locs : List Loc), va_P D vwCl [(ha, oD b1 b2 b3 b4 b5 tri), (b1, aZ ta 8 g')] H → va_D A [(ha, oD b1 b2 b3 b4 b5 tri), (b1, aZ ta 8 g')] → va_S A ss.heap H locs → ∀ ls : Array Slot, lv_has ls 4 [(3, .int (nI i)), (0, .ref ha), (1, .long x)] → W pp ll ee ({ frames := 0, cells := 0, slots := 0, locals := 0 } : Room) ss mm (([.ref ha, .long x] : List Value).toArray) below meth kc H locs 0 0 Q (F0 mm 2 ls []) := by
    intro nn2
    induction nn2 with
    | zero => intro i g' hii hs hmu; exact absurd hmu (Nat.not_lt_zero _)
    | succ nn2 ih2 =>
      intro i g' hii hs hmu2 H locs hP hD hS ls hl
      refine lv_iload_n (pc := 2) hx hb dX2_store_2 rfl (lv_at hl 0 rfl) ?_
      refine lv_aload_n (pc := 3) hx hb dX2_store_3 rfl (lv_at hl 1 rfl) ?_
      refine va_get (pc := 4) (D := D) (ci := 1) (v := .ref b1) (C := RX2) (T := TX2) (N := 6) hx hb hts iu2 hown hK hP 0 rfl rfl 0 (by decide) (hts _ tw_252) (fun x h9 => u_same (hts _ tw_253) x h9) rfl dX2_store_4 ?_
      refine va_alen (pc := 7) hx hb hK hP 1 0 rfl rfl (v := nI 8) rfl dX2_store_7 ?_
      refine lv_icmp_ge (pc := 8) (tgt := 37) hx hb dX2_store_8 (by decide) (fun c_1 => ?_) (fun c_1 => ?_)
      · skip
        rw [nI_leI (by omega) (by omega)] at c_1
        have hq_2 : (∀ k, k < 8 → g' k = bySt x k) := by
          intro k hk
          exact qSeg_at hs (by omega)
        exact hret (g') _ _ _ _ dX2_store_37 hq_2 (hP.sub [0, 1] rfl) (hD.sub [0, 1] (by decide) rfl) hS
      · skip
        rw [nI_leI (by omega) (by omega)] at c_1
        refine lv_aload_n (pc := 11) hx hb dX2_store_11 rfl (lv_at hl 1 rfl) ?_
        refine va_get (pc := 12) (D := D) (ci := 1) (v := .ref b1) (C := RX2) (T := TX2) (N := 6) hx hb hts iu2 hown hK hP 0 rfl rfl 0 (by decide) (hts _ tw_252) (fun x h9 => u_same (hts _ tw_253) x h9) rfl dX2_store_12 ?_
        refine lv_iload_n (pc := 15) hx hb dX2_store_15 rfl (lv_at hl 0 rfl) ?_
        refine lv_lload_n (pc := 16) hx hb dX2_store_16 rfl (lv_at hl 2 rfl) ?_
        refine lv_bipush (pc := 17) (v := nI 56) hx hb dX2_store_17 (by decide +kernel) ?_
        refine lv_bipush (pc := 19) (v := nI 8) hx hb dX2_store_19 (by decide +kernel) ?_
        refine lv_iload_n (pc := 21) hx hb dX2_store_21 rfl (lv_at hl 0 rfl) ?_
        refine lv_imul (pc := 22) hx hb dX2_store_22 ?_
        refine q_top (y := nI (8 * i)) (pk_mul 8 i) ?_
        refine lv_isub (pc := 23) hx hb dX2_store_23 ?_
        refine q_top (y := nI (56 - (8 * i))) (pk_sub (a := 56) (b := 8 * i) (by omega)) ?_
        refine lv_lushr (pc := 24) (v := (lus x (56 - (8 * i)))) hx hb dX2_store_24 rfl ?_
        refine lv_l2i (pc := 25) (v := (lus x (56 - (8 * i))).toInt32) hx hb dX2_store_25 rfl ?_
        refine lv_sipush (pc := 26) (v := nI 255) hx hb dX2_store_26 (by decide +kernel) ?_
        refine lv_iand (pc := 29) hx hb dX2_store_29 ?_
        refine q_top (y := qz (qlo ((lus x (56 - (8 * i))).toInt32))) (q_m255 _) ?_
        refine q_iastZ (pc := 30) hx hb hK hP hD hS 1 0 rfl rfl (k := i) rfl (by omega) (by omega) (b := qlo ((lus x (56 - (8 * i))).toInt32)) rfl dX2_store_30 (fun H locs hP hD hS => ?_)
        have hP : va_P D vwCl [(ha, oD b1 b2 b3 b4 b5 tri), (b1, aZ ta 8 (qU g' i (qlo ((lus x (56 - (8 * i))).toInt32))))] H := hP
        have hD : va_D A [(ha, oD b1 b2 b3 b4 b5 tri), (b1, aZ ta 8 (qU g' i (qlo ((lus x (56 - (8 * i))).toInt32))))] := hD
        refine lv_iinc (pc := 31) (v := nI (i + 1)) (lv' := [(3, .int (nI (i + 1))), (0, .ref ha), (1, .long x)]) hx hb dX2_store_31 hl (k := 0) rfl (by first | exact nI_add i 1 | rfl) (by decide) rfl (fun ls hl => ?_)
        refine lv_goto (pc := 34) (tgt := 2) hx hb dX2_store_34 (by decide) ?_
        exact ih2 (i + 1) (qU g' i (qlo ((lus x (56 - (8 * i))).toInt32))) (by omega) (qSeg_s hs (by omega) rfl) (by omega) _ _ (hP.sub [0, 1] rfl) (hD.sub [0, 1] (by decide) rfl) hS ls (lv_sub hl [0, 1, 2] rfl)
  exact LP2 _ 0 gb (by omega) (qSeg_0) (Nat.lt_succ_self _) _ _ (hP.sub [0, 1] rfl) (hD.sub [0, 1] (by decide) rfl) hS ls (lv_sub hl [0, 1, 2] rfl)
theorem hdX2_choose : yX2_choose.cls ≠ "java/lang/invoke/MethodHandle" ∧ yX2_choose.cls ≠ "java/lang/invoke/VarHandle" ∧ (parseMethodDescriptor yX2_choose.desc).map (fun d => d.parameters.length) = some 3 := ⟨by decide +kernel, by decide +kernel, by decide +kernel⟩
theorem dX2_choose_0 : decode cX2_choose 0 = .ok (.lconst 0, 1) := by decide +kernel
theorem dX2_choose_1 : decode cX2_choose 1 = .ok (.lstore 4, 2) := by decide +kernel
theorem dX2_choose_3 : decode cX2_choose 3 = .ok (.iconst 0, 1) := by decide +kernel
theorem dX2_choose_4 : decode cX2_choose 4 = .ok (.istore 6, 2) := by decide +kernel
theorem dX2_choose_6 : decode cX2_choose 6 = .ok (.iload 6, 2) := by decide +kernel
theorem dX2_choose_8 : decode cX2_choose 8 = .ok (.aload_n 3, 1) := by decide +kernel
theorem dX2_choose_9 : decode cX2_choose 9 = .ok (.arraylength, 1) := by decide +kernel
theorem dX2_choose_10 : decode cX2_choose 10 = .ok (.if_icmp .ge 26, 3) := by decide +kernel
theorem dX2_choose_13 : decode cX2_choose 13 = .ok (.lload 4, 2) := by decide +kernel
theorem dX2_choose_15 : decode cX2_choose 15 = .ok (.iconst 1, 1) := by decide +kernel
theorem dX2_choose_16 : decode cX2_choose 16 = .ok (.lshl, 1) := by decide +kernel
theorem dX2_choose_17 : decode cX2_choose 17 = .ok (.lload_n 0, 1) := by decide +kernel
theorem dX2_choose_18 : decode cX2_choose 18 = .ok (.iload_n 2, 1) := by decide +kernel
theorem dX2_choose_19 : decode cX2_choose 19 = .ok (.aload_n 3, 1) := by decide +kernel
theorem dX2_choose_20 : decode cX2_choose 20 = .ok (.iload 6, 2) := by decide +kernel
theorem dX2_choose_22 : decode cX2_choose 22 = .ok (.iaload, 1) := by decide +kernel
theorem dX2_choose_23 : decode cX2_choose 23 = .ok (.isub, 1) := by decide +kernel
theorem dX2_choose_24 : decode cX2_choose 24 = .ok (.lushr, 1) := by decide +kernel
theorem dX2_choose_25 : decode cX2_choose 25 = .ok (.lconst 1, 1) := by decide +kernel
theorem dX2_choose_26 : decode cX2_choose 26 = .ok (.land, 1) := by decide +kernel
theorem dX2_choose_27 : decode cX2_choose 27 = .ok (.lor, 1) := by decide +kernel
theorem dX2_choose_28 : decode cX2_choose 28 = .ok (.lstore 4, 2) := by decide +kernel
theorem dX2_choose_30 : decode cX2_choose 30 = .ok (.iinc 6 1, 3) := by decide +kernel
theorem dX2_choose_33 : decode cX2_choose 33 = .ok (.goto (-27), 3) := by decide +kernel
theorem dX2_choose_36 : decode cX2_choose 36 = .ok (.lload 4, 2) := by decide +kernel
theorem dX2_choose_38 : decode cX2_choose 38 = .ok (.lreturn, 1) := by decide +kernel
set_option maxHeartbeats 4000000 in
set_option maxRecDepth 100000 in
theorem ct_X2_choose_1 (ll : Launch) (D : va_G) (ta : Nat → ClassId) (gs : Nat → Nat) (x : Int64)  (sz : Nat) : CT ll yX2_choose cX2_choose 7 (some .long) ({ frames := 0, cells := 0, slots := 0, locals := 0 } : Room) D ta ((GC gs)) [.long x, .int (nI 64), .ref (gs 3)] [] sz (S := Unit) (fun u => some (.long (chL x 64 tCH 56))) (fun u => True) (fun u => []) 0 0 := by
  refine CT.of_l (r := fun u => chL x 64 tCH 56) rfl (by decide) (Nat.le_of_ble_eq_true rfl) ?_
  have hGok := GC_ok gs
  intro pp ee ss mm below meth kc A Q hx hb hml hown hin hts hK hA hsz hG hret H locs hP hD hS ls hl
  have hl : lv_has ls 7 [(0, .long x), (2, .int (nI 64)), (3, .ref (gs 3))] := hl
  refine lv_lconst (pc := 0) (v := 0) hx hb dX2_choose_0 (by decide +kernel) ?_
  refine lv_lstore (pc := 1) (lv' := [(4, .long 0), (0, .long x), (2, .int (nI 64)), (3, .ref (gs 3))]) hx hb dX2_choose_1 hl (by decide) rfl (fun ls hl => ?_)
  refine lv_iconst (pc := 3) (v := nI 0) hx hb dX2_choose_3 (by decide +kernel) ?_
  refine lv_istore (pc := 4) (lv' := [(6, .int (nI 0)), (4, .long 0), (0, .long x), (2, .int (nI 64)), (3, .ref (gs 3))]) hx hb dX2_choose_4 hl (by decide) rfl (fun ls hl => ?_)
  have LP6 : ∀ (nn6 : Nat) (i : Nat) (y : Int64), (i ≤ 56) → (y = chL x 64 tCH i) → (56 - i < nn6) → ∀ (H : Heap) (locs : List Loc), va_P D vwCl [] H → va_D A [] → va_S A ss.heap H locs → ∀ ls : Array Slot, lv_has ls 7 [(6, .int (nI i)), (4, .long y), (0, .long x), (2, .int (nI 64)), (3, .ref (gs 3))] → W pp ll ee ({ frames := 0, cells := 0, slots := 0, locals := 0 } : Room) ss mm (([.long x, .int (nI 64), .ref (gs 3)] : List Value).toArray) below meth kc H locs 0 0 Q (F0 mm 6 ls []) := by
    intro nn6
    induction nn6 with
    | zero => intro i y hii hY hmu; exact absurd hmu (Nat.not_lt_zero _)
    | succ nn6 ih6 =>
      intro i y hii hY hmu6 H locs hP hD hS ls hl
      refine lv_iload (pc := 6) hx hb dX2_choose_6 (lv_at hl 0 rfl) ?_
      refine lv_aload_n (pc := 8) hx hb dX2_choose_8 rfl (lv_at hl 4 rfl) ?_
      refine va_tlen (pc := 9) hx hb (GC_t3 hG) hS (v := nI 56) rfl dX2_choose_9 ?_
      refine lv_icmp_ge (pc := 10) (tgt := 36) hx hb dX2_choose_10 (by decide) (fun c_1 => ?_) (fun c_1 => ?_)
      · skip
        rw [nI_leI (by omega) (by omega)] at c_1
        refine lv_lload (pc := 36) hx hb dX2_choose_36 (lv_at hl 1 rfl) ?_
        refine q_topl (y := chL x 64 tCH 56) (by rw [hY, show i = 56 by omega]) ?_
        have hq_2 : True := trivial
        exact hret () _ _ _ _ dX2_choose_38 hq_2 (hP.sub [] rfl) (hD.sub [] (by decide) rfl) hS
      · skip
        rw [nI_leI (by omega) (by omega)] at c_1
        refine lv_lload (pc := 13) hx hb dX2_choose_13 (lv_at hl 1 rfl) ?_
        refine lv_iconst (pc := 15) (v := nI 1) hx hb dX2_choose_15 (by decide +kernel) ?_
        refine lv_lshl (pc := 16) (v := (lsl y 1)) hx hb dX2_choose_16 rfl ?_
        refine lv_lload_n (pc := 17) hx hb dX2_choose_17 rfl (lv_at hl 2 rfl) ?_
        refine lv_iload_n (pc := 18) hx hb dX2_choose_18 rfl (lv_at hl 3 rfl) ?_
        refine lv_aload_n (pc := 19) hx hb dX2_choose_19 rfl (lv_at hl 4 rfl) ?_
        refine lv_iload (pc := 20) hx hb dX2_choose_20 (lv_at hl 0 rfl) ?_
        refine q_ti (pc := 22) hx hb (GC_t3 hG) hS (k := i) rfl (by omega) (by decide) dX2_choose_22 ?_
        have hbd := tCH_b (k := i) (by omega)
        refine lv_isub (pc := 23) hx hb dX2_choose_23 ?_
        refine q_top (y := nI (64 - (tCH i))) (pk_sub (a := 64) (b := tCH i) (by omega)) ?_
        refine lv_lushr (pc := 24) (v := (lus x (64 - (tCH i)))) hx hb dX2_choose_24 rfl ?_
        refine lv_lconst (pc := 25) (v := 1) hx hb dX2_choose_25 (by decide +kernel) ?_
        refine lv_land (pc := 26) hx hb dX2_choose_26 ?_
        refine lv_lor (pc := 27) hx hb dX2_choose_27 ?_
        refine lv_lstore (pc := 28) (lv' := [(4, .long ((lsl y 1) ||| ((lus x (64 - (tCH i))) &&& 1))), (6, .int (nI i)), (0, .long x), (2, .int (nI 64)), (3, .ref (gs 3))]) hx hb dX2_choose_28 hl (by decide) rfl (fun ls hl => ?_)
        refine lv_iinc (pc := 30) (v := nI (i + 1)) (lv' := [(6, .int (nI (i + 1))), (4, .long ((lsl y 1) ||| ((lus x (64 - (tCH i))) &&& 1))), (0, .long x), (2, .int (nI 64)), (3, .ref (gs 3))]) hx hb dX2_choose_30 hl (k := 1) rfl (by first | exact nI_add i 1 | rfl) (by decide) rfl (fun ls hl => ?_)
        refine lv_goto (pc := 33) (tgt := 6) hx hb dX2_choose_33 (by decide) ?_
        exact ih6 (i + 1) ((lsl y 1) ||| ((lus x (64 - (tCH i))) &&& 1)) (by omega) (by rw [hY]; rfl) (by omega) _ _ (hP.sub [] rfl) (hD.sub [] (by decide) rfl) hS ls (lv_sub hl [0, 1, 2, 3, 4] rfl)
  exact LP6 _ 0 0 (by omega) (rfl) (Nat.lt_succ_self _) _ _ (hP.sub [] rfl) (hD.sub [] (by decide) rfl) hS ls (lv_sub hl [0, 1, 2, 3, 4] rfl)
set_option maxHeartbeats 4000000 in
set_option maxRecDepth 100000 in
theorem ct_X2_choose_2 (ll : Launch) (D : va_G) (ta : Nat → ClassId) (gs : Nat → Nat) (x : Int64)  (sz : Nat) : CT ll yX2_choose cX2_choose 7 (some .long) ({ frames := 0, cells := 0, slots := 0, locals := 0 } : Room) D ta ((GC gs)) [.long x, .int (nI 56), .ref (gs 4)] [] sz (S := Unit) (fun u => some (.long (chL x 56 tSEC 48))) (fun u => True) (fun u => []) 0 0 := by
  refine CT.of_l (r := fun u => chL x 56 tSEC 48) rfl (by decide) (Nat.le_of_ble_eq_true rfl) ?_
  have hGok := GC_ok gs
  intro pp ee ss mm below meth kc A Q hx hb hml hown hin hts hK hA hsz hG hret H locs hP hD hS ls hl
  have hl : lv_has ls 7 [(0, .long x), (2, .int (nI 56)), (3, .ref (gs 4))] := hl
  refine lv_lconst (pc := 0) (v := 0) hx hb dX2_choose_0 (by decide +kernel) ?_
  refine lv_lstore (pc := 1) (lv' := [(4, .long 0), (0, .long x), (2, .int (nI 56)), (3, .ref (gs 4))]) hx hb dX2_choose_1 hl (by decide) rfl (fun ls hl => ?_)
  refine lv_iconst (pc := 3) (v := nI 0) hx hb dX2_choose_3 (by decide +kernel) ?_
  refine lv_istore (pc := 4) (lv' := [(6, .int (nI 0)), (4, .long 0), (0, .long x), (2, .int (nI 56)), (3, .ref (gs 4))]) hx hb dX2_choose_4 hl (by decide) rfl (fun ls hl => ?_)
  have LP6 : ∀ (nn6 : Nat) (i : Nat) (y : Int64), (i ≤ 48) → (y = chL x 56 tSEC i) → (48 - i < nn6) → ∀ (H : Heap) (locs : List Loc), va_P D vwCl [] H → va_D A [] → va_S A ss.heap H locs → ∀ ls : Array Slot, lv_has ls 7 [(6, .int (nI i)), (4, .long y), (0, .long x), (2, .int (nI 56)), (3, .ref (gs 4))] → W pp ll ee ({ frames := 0, cells := 0, slots := 0, locals := 0 } : Room) ss mm (([.long x, .int (nI 56), .ref (gs 4)] : List Value).toArray) below meth kc H locs 0 0 Q (F0 mm 6 ls []) := by
    intro nn6
    induction nn6 with
    | zero => intro i y hii hY hmu; exact absurd hmu (Nat.not_lt_zero _)
    | succ nn6 ih6 =>
      intro i y hii hY hmu6 H locs hP hD hS ls hl
      refine lv_iload (pc := 6) hx hb dX2_choose_6 (lv_at hl 0 rfl) ?_
      refine lv_aload_n (pc := 8) hx hb dX2_choose_8 rfl (lv_at hl 4 rfl) ?_
      refine va_tlen (pc := 9) hx hb (GC_t4 hG) hS (v := nI 48) rfl dX2_choose_9 ?_
      refine lv_icmp_ge (pc := 10) (tgt := 36) hx hb dX2_choose_10 (by decide) (fun c_1 => ?_) (fun c_1 => ?_)
      · skip
        rw [nI_leI (by omega) (by omega)] at c_1
        refine lv_lload (pc := 36) hx hb dX2_choose_36 (lv_at hl 1 rfl) ?_
        refine q_topl (y := chL x 56 tSEC 48) (by rw [hY, show i = 48 by omega]) ?_
        have hq_2 : True := trivial
        exact hret () _ _ _ _ dX2_choose_38 hq_2 (hP.sub [] rfl) (hD.sub [] (by decide) rfl) hS
      · skip
        rw [nI_leI (by omega) (by omega)] at c_1
        refine lv_lload (pc := 13) hx hb dX2_choose_13 (lv_at hl 1 rfl) ?_
        refine lv_iconst (pc := 15) (v := nI 1) hx hb dX2_choose_15 (by decide +kernel) ?_
        refine lv_lshl (pc := 16) (v := (lsl y 1)) hx hb dX2_choose_16 rfl ?_
        refine lv_lload_n (pc := 17) hx hb dX2_choose_17 rfl (lv_at hl 2 rfl) ?_
        refine lv_iload_n (pc := 18) hx hb dX2_choose_18 rfl (lv_at hl 3 rfl) ?_
        refine lv_aload_n (pc := 19) hx hb dX2_choose_19 rfl (lv_at hl 4 rfl) ?_
        refine lv_iload (pc := 20) hx hb dX2_choose_20 (lv_at hl 0 rfl) ?_
        refine q_ti (pc := 22) hx hb (GC_t4 hG) hS (k := i) rfl (by omega) (by decide) dX2_choose_22 ?_
        have hbd := tSEC_b (k := i) (by omega)
        refine lv_isub (pc := 23) hx hb dX2_choose_23 ?_
        refine q_top (y := nI (56 - (tSEC i))) (pk_sub (a := 56) (b := tSEC i) (by omega)) ?_
        refine lv_lushr (pc := 24) (v := (lus x (56 - (tSEC i)))) hx hb dX2_choose_24 rfl ?_
        refine lv_lconst (pc := 25) (v := 1) hx hb dX2_choose_25 (by decide +kernel) ?_
        refine lv_land (pc := 26) hx hb dX2_choose_26 ?_
        refine lv_lor (pc := 27) hx hb dX2_choose_27 ?_
        refine lv_lstore (pc := 28) (lv' := [(4, .long ((lsl y 1) ||| ((lus x (56 - (tSEC i))) &&& 1))), (6, .int (nI i)), (0, .long x), (2, .int (nI 56)), (3, .ref (gs 4))]) hx hb dX2_choose_28 hl (by decide) rfl (fun ls hl => ?_)
        refine lv_iinc (pc := 30) (v := nI (i + 1)) (lv' := [(6, .int (nI (i + 1))), (4, .long ((lsl y 1) ||| ((lus x (56 - (tSEC i))) &&& 1))), (0, .long x), (2, .int (nI 56)), (3, .ref (gs 4))]) hx hb dX2_choose_30 hl (k := 1) rfl (by first | exact nI_add i 1 | rfl) (by decide) rfl (fun ls hl => ?_)
        refine lv_goto (pc := 33) (tgt := 6) hx hb dX2_choose_33 (by decide) ?_
        exact ih6 (i + 1) ((lsl y 1) ||| ((lus x (56 - (tSEC i))) &&& 1)) (by omega) (by rw [hY]; rfl) (by omega) _ _ (hP.sub [] rfl) (hD.sub [] (by decide) rfl) hS ls (lv_sub hl [0, 1, 2, 3, 4] rfl)
  exact LP6 _ 0 0 (by omega) (rfl) (Nat.lt_succ_self _) _ _ (hP.sub [] rfl) (hD.sub [] (by decide) rfl) hS ls (lv_sub hl [0, 1, 2, 3, 4] rfl)
theorem hdX2_schedule : yX2_schedule.cls ≠ "java/lang/invoke/MethodHandle" ∧ yX2_schedule.cls ≠ "java/lang/invoke/VarHandle" ∧ (parseMethodDescriptor yX2_schedule.desc).map (fun d => d.parameters.length) = some 3 := ⟨by decide +kernel, by decide +kernel, by decide +kernel⟩
theorem dX2_schedule_0 : decode cX2_schedule 0 = .ok (.lconst 0, 1) := by decide +kernel
theorem dX2_schedule_1 : decode cX2_schedule 1 = .ok (.lstore_n 3, 1) := by decide +kernel
theorem dX2_schedule_2 : decode cX2_schedule 2 = .ok (.iconst 0, 1) := by decide +kernel
theorem dX2_schedule_3 : decode cX2_schedule 3 = .ok (.istore 5, 2) := by decide +kernel
theorem dX2_schedule_5 : decode cX2_schedule 5 = .ok (.iload 5, 2) := by decide +kernel
theorem dX2_schedule_7 : decode cX2_schedule 7 = .ok (.bipush 8, 2) := by decide +kernel
theorem dX2_schedule_9 : decode cX2_schedule 9 = .ok (.if_icmp .ge 28, 3) := by decide +kernel
theorem dX2_schedule_12 : decode cX2_schedule 12 = .ok (.lload_n 3, 1) := by decide +kernel
theorem dX2_schedule_13 : decode cX2_schedule 13 = .ok (.bipush 8, 2) := by decide +kernel
theorem dX2_schedule_15 : decode cX2_schedule 15 = .ok (.lshl, 1) := by decide +kernel
theorem dX2_schedule_16 : decode cX2_schedule 16 = .ok (.aload_n 0, 1) := by decide +kernel
theorem dX2_schedule_17 : decode cX2_schedule 17 = .ok (.iload_n 1, 1) := by decide +kernel
theorem dX2_schedule_18 : decode cX2_schedule 18 = .ok (.iload 5, 2) := by decide +kernel
theorem dX2_schedule_20 : decode cX2_schedule 20 = .ok (.iadd, 1) := by decide +kernel
theorem dX2_schedule_21 : decode cX2_schedule 21 = .ok (.invokevirtual 53, 3) := by decide +kernel
theorem dX2_schedule_24 : decode cX2_schedule 24 = .ok (.sipush 255, 3) := by decide +kernel
theorem dX2_schedule_27 : decode cX2_schedule 27 = .ok (.iand, 1) := by decide +kernel
theorem dX2_schedule_28 : decode cX2_schedule 28 = .ok (.i2l, 1) := by decide +kernel
theorem dX2_schedule_29 : decode cX2_schedule 29 = .ok (.lor, 1) := by decide +kernel
theorem dX2_schedule_30 : decode cX2_schedule 30 = .ok (.lstore_n 3, 1) := by decide +kernel
theorem dX2_schedule_31 : decode cX2_schedule 31 = .ok (.iinc 5 1, 3) := by decide +kernel
theorem dX2_schedule_34 : decode cX2_schedule 34 = .ok (.goto (-29), 3) := by decide +kernel
theorem dX2_schedule_37 : decode cX2_schedule 37 = .ok (.lload_n 3, 1) := by decide +kernel
theorem dX2_schedule_38 : decode cX2_schedule 38 = .ok (.bipush 64, 2) := by decide +kernel
theorem dX2_schedule_40 : decode cX2_schedule 40 = .ok (.getstatic 59, 3) := by decide +kernel
theorem dX2_schedule_43 : decode cX2_schedule 43 = .ok (.invokestatic 62, 3) := by decide +kernel
theorem dX2_schedule_46 : decode cX2_schedule 46 = .ok (.lstore 5, 2) := by decide +kernel
theorem dX2_schedule_48 : decode cX2_schedule 48 = .ok (.lload 5, 2) := by decide +kernel
theorem dX2_schedule_50 : decode cX2_schedule 50 = .ok (.bipush 28, 2) := by decide +kernel
theorem dX2_schedule_52 : decode cX2_schedule 52 = .ok (.lushr, 1) := by decide +kernel
theorem dX2_schedule_53 : decode cX2_schedule 53 = .ok (.l2i, 1) := by decide +kernel
theorem dX2_schedule_54 : decode cX2_schedule 54 = .ok (.ldc 66, 2) := by decide +kernel
theorem dX2_schedule_56 : decode cX2_schedule 56 = .ok (.iand, 1) := by decide +kernel
theorem dX2_schedule_57 : decode cX2_schedule 57 = .ok (.istore 7, 2) := by decide +kernel
theorem dX2_schedule_59 : decode cX2_schedule 59 = .ok (.lload 5, 2) := by decide +kernel
theorem dX2_schedule_61 : decode cX2_schedule 61 = .ok (.l2i, 1) := by decide +kernel
theorem dX2_schedule_62 : decode cX2_schedule 62 = .ok (.ldc 66, 2) := by decide +kernel
theorem dX2_schedule_64 : decode cX2_schedule 64 = .ok (.iand, 1) := by decide +kernel
theorem dX2_schedule_65 : decode cX2_schedule 65 = .ok (.istore 8, 2) := by decide +kernel
theorem dX2_schedule_67 : decode cX2_schedule 67 = .ok (.iconst 0, 1) := by decide +kernel
theorem dX2_schedule_68 : decode cX2_schedule 68 = .ok (.istore 9, 2) := by decide +kernel
theorem dX2_schedule_70 : decode cX2_schedule 70 = .ok (.iload 9, 2) := by decide +kernel
theorem dX2_schedule_72 : decode cX2_schedule 72 = .ok (.getstatic 67, 3) := by decide +kernel
theorem dX2_schedule_75 : decode cX2_schedule 75 = .ok (.arraylength, 1) := by decide +kernel
theorem dX2_schedule_76 : decode cX2_schedule 76 = .ok (.if_icmp .ge 84, 3) := by decide +kernel
theorem dX2_schedule_79 : decode cX2_schedule 79 = .ok (.iload 9, 2) := by decide +kernel
theorem dX2_schedule_81 : decode cX2_schedule 81 = .ok (.aload_n 2, 1) := by decide +kernel
theorem dX2_schedule_82 : decode cX2_schedule 82 = .ok (.arraylength, 1) := by decide +kernel
theorem dX2_schedule_83 : decode cX2_schedule 83 = .ok (.if_icmp .ge 77, 3) := by decide +kernel
theorem dX2_schedule_86 : decode cX2_schedule 86 = .ok (.getstatic 67, 3) := by decide +kernel
theorem dX2_schedule_89 : decode cX2_schedule 89 = .ok (.iload 9, 2) := by decide +kernel
theorem dX2_schedule_91 : decode cX2_schedule 91 = .ok (.iaload, 1) := by decide +kernel
theorem dX2_schedule_92 : decode cX2_schedule 92 = .ok (.istore 10, 2) := by decide +kernel
theorem dX2_schedule_94 : decode cX2_schedule 94 = .ok (.iload 7, 2) := by decide +kernel
theorem dX2_schedule_96 : decode cX2_schedule 96 = .ok (.iload 10, 2) := by decide +kernel
theorem dX2_schedule_98 : decode cX2_schedule 98 = .ok (.ishl, 1) := by decide +kernel
theorem dX2_schedule_99 : decode cX2_schedule 99 = .ok (.iload 7, 2) := by decide +kernel
theorem dX2_schedule_101 : decode cX2_schedule 101 = .ok (.bipush 28, 2) := by decide +kernel
theorem dX2_schedule_103 : decode cX2_schedule 103 = .ok (.iload 10, 2) := by decide +kernel
theorem dX2_schedule_105 : decode cX2_schedule 105 = .ok (.isub, 1) := by decide +kernel
theorem dX2_schedule_106 : decode cX2_schedule 106 = .ok (.iushr, 1) := by decide +kernel
theorem dX2_schedule_107 : decode cX2_schedule 107 = .ok (.ior, 1) := by decide +kernel
theorem dX2_schedule_108 : decode cX2_schedule 108 = .ok (.ldc 66, 2) := by decide +kernel
theorem dX2_schedule_110 : decode cX2_schedule 110 = .ok (.iand, 1) := by decide +kernel
theorem dX2_schedule_111 : decode cX2_schedule 111 = .ok (.istore 7, 2) := by decide +kernel
theorem dX2_schedule_113 : decode cX2_schedule 113 = .ok (.iload 8, 2) := by decide +kernel
theorem dX2_schedule_115 : decode cX2_schedule 115 = .ok (.iload 10, 2) := by decide +kernel
theorem dX2_schedule_117 : decode cX2_schedule 117 = .ok (.ishl, 1) := by decide +kernel
theorem dX2_schedule_118 : decode cX2_schedule 118 = .ok (.iload 8, 2) := by decide +kernel
theorem dX2_schedule_120 : decode cX2_schedule 120 = .ok (.bipush 28, 2) := by decide +kernel
theorem dX2_schedule_122 : decode cX2_schedule 122 = .ok (.iload 10, 2) := by decide +kernel
theorem dX2_schedule_124 : decode cX2_schedule 124 = .ok (.isub, 1) := by decide +kernel
theorem dX2_schedule_125 : decode cX2_schedule 125 = .ok (.iushr, 1) := by decide +kernel
theorem dX2_schedule_126 : decode cX2_schedule 126 = .ok (.ior, 1) := by decide +kernel
theorem dX2_schedule_127 : decode cX2_schedule 127 = .ok (.ldc 66, 2) := by decide +kernel
theorem dX2_schedule_129 : decode cX2_schedule 129 = .ok (.iand, 1) := by decide +kernel
theorem dX2_schedule_130 : decode cX2_schedule 130 = .ok (.istore 8, 2) := by decide +kernel
theorem dX2_schedule_132 : decode cX2_schedule 132 = .ok (.aload_n 2, 1) := by decide +kernel
theorem dX2_schedule_133 : decode cX2_schedule 133 = .ok (.iload 9, 2) := by decide +kernel
theorem dX2_schedule_135 : decode cX2_schedule 135 = .ok (.iload 7, 2) := by decide +kernel
theorem dX2_schedule_137 : decode cX2_schedule 137 = .ok (.i2l, 1) := by decide +kernel
theorem dX2_schedule_138 : decode cX2_schedule 138 = .ok (.bipush 28, 2) := by decide +kernel
theorem dX2_schedule_140 : decode cX2_schedule 140 = .ok (.lshl, 1) := by decide +kernel
theorem dX2_schedule_141 : decode cX2_schedule 141 = .ok (.iload 8, 2) := by decide +kernel
theorem dX2_schedule_143 : decode cX2_schedule 143 = .ok (.i2l, 1) := by decide +kernel
theorem dX2_schedule_144 : decode cX2_schedule 144 = .ok (.lor, 1) := by decide +kernel
theorem dX2_schedule_145 : decode cX2_schedule 145 = .ok (.bipush 56, 2) := by decide +kernel
theorem dX2_schedule_147 : decode cX2_schedule 147 = .ok (.getstatic 70, 3) := by decide +kernel
theorem dX2_schedule_150 : decode cX2_schedule 150 = .ok (.invokestatic 62, 3) := by decide +kernel
theorem dX2_schedule_153 : decode cX2_schedule 153 = .ok (.lastore, 1) := by decide +kernel
theorem dX2_schedule_154 : decode cX2_schedule 154 = .ok (.iinc 9 1, 3) := by decide +kernel
theorem dX2_schedule_157 : decode cX2_schedule 157 = .ok (.goto (-87), 3) := by decide +kernel
theorem dX2_schedule_160 : decode cX2_schedule 160 = .ok (.return_, 1) := by decide +kernel
set_option maxHeartbeats 4000000 in
set_option maxRecDepth 100000 in
theorem ct_X2_schedule (ll : Launch) (D : va_G) (ta : Nat → ClassId) (gs : Nat → Nat) (hr : Nat) (br : Nat) (capr : Nat) (gr : Nat → BitVec 8) (n : Nat) (fr : Nat) (hs9 : Nat) (fs : Nat → Int64) (hn : n ≤ capr) (hcr : capr < 2147483648) (hf : fr + 8 ≤ n) (sz : Nat) : CT ll yX2_schedule cX2_schedule 11 none ({ frames := 1, cells := 0, slots := 0, locals := 26 } : Room) D ta ((GC gs)) [.ref hr, .int (nI fr), .ref hs9] [(hr, oR br n), (br, aZ ta capr gr), (hs9, aJ ta 16 fs)] sz (S := (Nat → Int64)) (fun _ => none) (fun u => (∀ r, r < 16 → u r = skL (fun j => gr (fr + j)) r)) (fun u => [(hr, oR br n), (br, aZ ta capr gr), (hs9, aJ ta 16 u)]) 0 0 := by
  refine CT.of_v rfl (by decide) (Nat.le_of_ble_eq_true rfl) ?_
  have hGok := GC_ok gs
  intro pp ee ss mm below meth kc A Q hx hb hml hown hin hts hK hA hsz hG hret H locs hP hD hS ls hl
  have hl : lv_has ls 11 [(0, .ref hr), (1, .int (nI fr)), (2, .ref hs9)] := hl
  refine lv_lconst (pc := 0) (v := 0) hx hb dX2_schedule_0 (by decide +kernel) ?_
  refine lv_lstore_n (pc := 1) (lv' := [(3, .long 0), (0, .ref hr), (1, .int (nI fr)), (2, .ref hs9)]) hx hb dX2_schedule_1 rfl hl (by decide) rfl (fun ls hl => ?_)
  refine lv_iconst (pc := 2) (v := nI 0) hx hb dX2_schedule_2 (by decide +kernel) ?_
  refine lv_istore (pc := 3) (lv' := [(5, .int (nI 0)), (3, .long 0), (0, .ref hr), (1, .int (nI fr)), (2, .ref hs9)]) hx hb dX2_schedule_3 hl (by decide) rfl (fun ls hl => ?_)
  have LP5 : ∀ (nn5 : Nat) (i : Nat) (x : Int64), (i ≤ 8) → (x = ldL (fun j => gr (fr + j)) i) → (8 - i < nn5) → ∀ (H : Heap) (locs : List Loc), va_P D vwCl [(hr, oR br n), (br, aZ ta capr gr), (hs9, aJ ta 16 fs)] H → va_D A [(hr, oR br n), (br, aZ ta capr gr), (hs9, aJ ta 16 fs)] → va_S A ss.heap H locs → ∀ ls : Array Slot, lv_has ls 11 [(5, .int (nI i)), (3, .long x), (0, .ref hr), (1, .int (nI fr)), (2, .ref hs9)] → W pp ll ee ({ frames := 1, cells := 0, slots := 0, locals := 26 } : Room) ss mm (([.ref hr, .int (nI fr), .ref hs9] : List Value).toArray) below meth kc H locs 0 0 Q (F0 mm 5 ls []) := by
    intro nn5
    induction nn5 with
    | zero => intro i x hii hX hmu; exact absurd hmu (Nat.not_lt_zero _)
    | succ nn5 ih5 =>
      intro i x hii hX hmu5 H locs hP hD hS ls hl
      refine lv_iload (pc := 5) hx hb dX2_schedule_5 (lv_at hl 0 rfl) ?_
      refine lv_bipush (pc := 7) (v := nI 8) hx hb dX2_schedule_7 (by decide +kernel) ?_
      refine lv_icmp_ge (pc := 9) (tgt := 37) hx hb dX2_schedule_9 (by decide) (fun c_1 => ?_) (fun c_1 => ?_)
      · skip
        rw [nI_leI (by omega) (by omega)] at c_1
        refine lv_lload_n (pc := 37) hx hb dX2_schedule_37 rfl (lv_at hl 1 rfl) ?_
        refine lv_bipush (pc := 38) (v := nI 64) hx hb dX2_schedule_38 (by decide +kernel) ?_
        refine va_gets (pc := 40) hx hb (v := .ref (gs 3)) (GC_z3 hG) hS hown (hts _ tw_632) (fun _ h9 => h9) dX2_schedule_40 ?_
        refine cs_S (pc := 43) (idx := 62) (n := 3) (wr := [(hr, oR br n), (br, aZ ta capr gr), (hs9, aJ ta 16 fs)]) (As := [.long x, .int (nI 64), .ref (gs 3)]) (rest := []) hx hb hml hown hts hGok hK hA hG hl.1 hP hD hS (ct_X2_choose_1 ll D ta gs x  H.size) tw_636 tw_634 tw_635 tw_72 hdX2_choose rfl ⟨rfl, rfl, Nat.le_of_ble_eq_true rfl, Nat.le_of_ble_eq_true rfl, Nat.le_of_ble_eq_true rfl, Nat.le_of_ble_eq_true rfl⟩ [] [0, 1, 2] rfl rfl (by decide) rfl (Nat.le_of_ble_eq_true rfl) dX2_schedule_43 (fun u H locs hq hP hD hS => ?_)
        refine W.eq (g2 := F0 mm 46 ls [.long (chL x 64 tCH 56)]) rfl ?_
        have hP : va_P D vwCl [(hr, oR br n), (br, aZ ta capr gr), (hs9, aJ ta 16 fs)] H := hP
        have hD : va_D A [(hr, oR br n), (br, aZ ta capr gr), (hs9, aJ ta 16 fs)] := hD
        refine lv_lstore (pc := 46) (lv' := [(5, .long (chL x 64 tCH 56)), (3, .long x), (0, .ref hr), (1, .int (nI fr)), (2, .ref hs9)]) hx hb dX2_schedule_46 hl (by decide) rfl (fun ls hl => ?_)
        refine lv_lload (pc := 48) hx hb dX2_schedule_48 (lv_at hl 0 rfl) ?_
        refine lv_bipush (pc := 50) (v := nI 28) hx hb dX2_schedule_50 (by decide +kernel) ?_
        refine lv_lushr (pc := 52) (v := (lus (chL x 64 tCH 56) 28)) hx hb dX2_schedule_52 rfl ?_
        refine lv_l2i (pc := 53) (v := (lus (chL x 64 tCH 56) 28).toInt32) hx hb dX2_schedule_53 rfl ?_
        refine lv_ldc (pc := 54) (v := (nI 268435455)) hx hb hown (q_at (hts _ tw_637) (by decide +kernel)) dX2_schedule_54 ?_
        refine lv_iand (pc := 56) hx hb dX2_schedule_56 ?_
        refine lv_istore (pc := 57) (lv' := [(7, .int (((lus (chL x 64 tCH 56) 28).toInt32) &&& (nI 268435455))), (5, .long (chL x 64 tCH 56)), (3, .long x), (0, .ref hr), (1, .int (nI fr)), (2, .ref hs9)]) hx hb dX2_schedule_57 hl (by decide) rfl (fun ls hl => ?_)
        refine lv_lload (pc := 59) hx hb dX2_schedule_59 (lv_at hl 1 rfl) ?_
        refine lv_l2i (pc := 61) (v := (chL x 64 tCH 56).toInt32) hx hb dX2_schedule_61 rfl ?_
        refine lv_ldc (pc := 62) (v := (nI 268435455)) hx hb hown (q_at (hts _ tw_637) (by decide +kernel)) dX2_schedule_62 ?_
        refine lv_iand (pc := 64) hx hb dX2_schedule_64 ?_
        refine lv_istore (pc := 65) (lv' := [(8, .int (((chL x 64 tCH 56).toInt32) &&& (nI 268435455))), (7, .int (((lus (chL x 64 tCH 56) 28).toInt32) &&& (nI 268435455))), (5, .long (chL x 64 tCH 56)), (3, .long x), (0, .ref hr), (1, .int (nI fr)), (2, .ref hs9)]) hx hb dX2_schedule_65 hl (by decide) rfl (fun ls hl => ?_)
        refine lv_iconst (pc := 67) (v := nI 0) hx hb dX2_schedule_67 (by decide +kernel) ?_
        refine lv_istore (pc := 68) (lv' := [(9, .int (nI 0)), (8, .int (((chL x 64 tCH 56).toInt32) &&& (nI 268435455))), (7, .int (((lus (chL x 64 tCH 56) 28).toInt32) &&& (nI 268435455))), (5, .long (chL x 64 tCH 56)), (3, .long x), (0, .ref hr), (1, .int (nI fr)), (2, .ref hs9)]) hx hb dX2_schedule_68 hl (by decide) rfl (fun ls hl => ?_)
        have LP70 : ∀ (nn70 : Nat) (r : Nat) (hi : Int32) (lo : Int32) (f' : Nat → Int64), (r ≤ 16) → (hi = scH (scHi (fun j => gr (fr + j))) r) → (lo = scH (scLo (fun j => gr (fr + j))) r) → (qSeg f' fs 0 r (skL (fun j => gr (fr + j)))) → (16 - r < nn70) → ∀ (H : Heap) (locs : List Loc), va_P D vwCl [(hr, oR br n), (br, aZ ta capr gr), (hs9, aJ ta 16 f')] H → va_D A [(hr, oR br n), (br, aZ ta capr gr), (hs9, aJ ta 16 f')] → va_S A ss.heap H locs → ∀ ls : Array Slot, lv_has ls 11 [(9, .int (nI r)), (8, .int lo), (7, .int hi), (0, .ref hr), (1, .int (nI fr)), (2, .ref hs9)] → W pp ll ee ({ frames := 1, cells := 0, slots := 0, locals := 26 } : Room) ss mm (([.ref hr, .int (nI fr), .ref hs9] : List Value).toArray) below meth kc H locs 0 0 Q (F0 mm 70 ls []) := by
          intro nn70
          induction nn70 with
          | zero => intro r hi lo f' hrr hhi hlo hsk hmu; exact absurd hmu (Nat.not_lt_zero _)
          | succ nn70 ih70 =>
            intro r hi lo f' hrr hhi hlo hsk hmu70 H locs hP hD hS ls hl
            refine lv_iload (pc := 70) hx hb dX2_schedule_70 (lv_at hl 0 rfl) ?_
            refine va_gets (pc := 72) hx hb (v := .ref (gs 5)) (GC_z5 hG) hS hown (hts _ tw_638) (fun _ h9 => h9) dX2_schedule_72 ?_
            refine va_tlen (pc := 75) hx hb (GC_t5 hG) hS (v := nI 16) rfl dX2_schedule_75 ?_
            refine lv_icmp_ge (pc := 76) (tgt := 160) hx hb dX2_schedule_76 (by decide) (fun c_2 => ?_) (fun c_2 => ?_)
            · skip
              rw [nI_leI (by omega) (by omega)] at c_2
              have hq_3 : (∀ r, r < 16 → f' r = skL (fun j => gr (fr + j)) r) := by
                intro r9 hr9
                exact qSeg_at hsk (by omega)
              exact hret (f') _ _ _ _ dX2_schedule_160 hq_3 (hP.sub [0, 1, 2] rfl) (hD.sub [0, 1, 2] (by decide) rfl) hS
            · skip
              rw [nI_leI (by omega) (by omega)] at c_2
              refine lv_iload (pc := 79) hx hb dX2_schedule_79 (lv_at hl 0 rfl) ?_
              refine lv_aload_n (pc := 81) hx hb dX2_schedule_81 rfl (lv_at hl 5 rfl) ?_
              refine va_alen (pc := 82) hx hb hK hP 2 1 rfl rfl (v := nI 16) rfl dX2_schedule_82 ?_
              refine lv_icmp_ge (pc := 83) (tgt := 160) hx hb dX2_schedule_83 (by decide) (fun c_4 => ?_) (fun c_4 => ?_)
              · skip
                rw [nI_leI (by omega) (by omega)] at c_4
                have hq_5 : (∀ r, r < 16 → f' r = skL (fun j => gr (fr + j)) r) := by
                  intro r9 hr9
                  exact qSeg_at hsk (by omega)
                exact hret (f') _ _ _ _ dX2_schedule_160 hq_5 (hP.sub [0, 1, 2] rfl) (hD.sub [0, 1, 2] (by decide) rfl) hS
              · skip
                rw [nI_leI (by omega) (by omega)] at c_4
                refine va_gets (pc := 86) hx hb (v := .ref (gs 5)) (GC_z5 hG) hS hown (hts _ tw_638) (fun _ h9 => h9) dX2_schedule_86 ?_
                refine lv_iload (pc := 89) hx hb dX2_schedule_89 (lv_at hl 0 rfl) ?_
                refine q_ti (pc := 91) hx hb (GC_t5 hG) hS (k := r) rfl (by omega) (by decide) dX2_schedule_91 ?_
                have hbd := tSHF_b (k := r) (by omega)
                refine lv_istore (pc := 92) (lv' := [(10, .int (nI (tSHF r))), (9, .int (nI r)), (8, .int lo), (7, .int hi), (0, .ref hr), (1, .int (nI fr)), (2, .ref hs9)]) hx hb dX2_schedule_92 hl (by decide) rfl (fun ls hl => ?_)
                refine lv_iload (pc := 94) hx hb dX2_schedule_94 (lv_at hl 3 rfl) ?_
                refine lv_iload (pc := 96) hx hb dX2_schedule_96 (lv_at hl 0 rfl) ?_
                refine lv_ishl (pc := 98) hx hb dX2_schedule_98 ?_
                refine lv_iload (pc := 99) hx hb dX2_schedule_99 (lv_at hl 3 rfl) ?_
                refine lv_bipush (pc := 101) (v := nI 28) hx hb dX2_schedule_101 (by decide +kernel) ?_
                refine lv_iload (pc := 103) hx hb dX2_schedule_103 (lv_at hl 0 rfl) ?_
                refine lv_isub (pc := 105) hx hb dX2_schedule_105 ?_
                refine q_top (y := nI (28 - (tSHF r))) (pk_sub (a := 28) (b := tSHF r) (by omega)) ?_
                refine lv_iushr (pc := 106) (v := ush hi (28 - (tSHF r))) hx hb dX2_schedule_106 rfl ?_
                refine lv_ior (pc := 107) hx hb dX2_schedule_107 ?_
                refine lv_ldc (pc := 108) (v := (nI 268435455)) hx hb hown (q_at (hts _ tw_637) (by decide +kernel)) dX2_schedule_108 ?_
                refine lv_iand (pc := 110) hx hb dX2_schedule_110 ?_
                refine lv_istore (pc := 111) (lv' := [(7, .int (((hi <<< ((nI (tSHF r)) &&& 31)) ||| (ush hi (28 - (tSHF r)))) &&& (nI 268435455))), (10, .int (nI (tSHF r))), (9, .int (nI r)), (8, .int lo), (0, .ref hr), (1, .int (nI fr)), (2, .ref hs9)]) hx hb dX2_schedule_111 hl (by decide) rfl (fun ls hl => ?_)
                refine lv_iload (pc := 113) hx hb dX2_schedule_113 (lv_at hl 3 rfl) ?_
                refine lv_iload (pc := 115) hx hb dX2_schedule_115 (lv_at hl 1 rfl) ?_
                refine lv_ishl (pc := 117) hx hb dX2_schedule_117 ?_
                refine lv_iload (pc := 118) hx hb dX2_schedule_118 (lv_at hl 3 rfl) ?_
                refine lv_bipush (pc := 120) (v := nI 28) hx hb dX2_schedule_120 (by decide +kernel) ?_
                refine lv_iload (pc := 122) hx hb dX2_schedule_122 (lv_at hl 1 rfl) ?_
                refine lv_isub (pc := 124) hx hb dX2_schedule_124 ?_
                refine q_top (y := nI (28 - (tSHF r))) (pk_sub (a := 28) (b := tSHF r) (by omega)) ?_
                refine lv_iushr (pc := 125) (v := ush lo (28 - (tSHF r))) hx hb dX2_schedule_125 rfl ?_
                refine lv_ior (pc := 126) hx hb dX2_schedule_126 ?_
                refine lv_ldc (pc := 127) (v := (nI 268435455)) hx hb hown (q_at (hts _ tw_637) (by decide +kernel)) dX2_schedule_127 ?_
                refine lv_iand (pc := 129) hx hb dX2_schedule_129 ?_
                refine lv_istore (pc := 130) (lv' := [(8, .int (((lo <<< ((nI (tSHF r)) &&& 31)) ||| (ush lo (28 - (tSHF r)))) &&& (nI 268435455))), (7, .int (((hi <<< ((nI (tSHF r)) &&& 31)) ||| (ush hi (28 - (tSHF r)))) &&& (nI 268435455))), (10, .int (nI (tSHF r))), (9, .int (nI r)), (0, .ref hr), (1, .int (nI fr)), (2, .ref hs9)]) hx hb dX2_schedule_130 hl (by decide) rfl (fun ls hl => ?_)
                refine lv_aload_n (pc := 132) hx hb dX2_schedule_132 rfl (lv_at hl 6 rfl) ?_
                refine lv_iload (pc := 133) hx hb dX2_schedule_133 (lv_at hl 3 rfl) ?_
                refine lv_iload (pc := 135) hx hb dX2_schedule_135 (lv_at hl 1 rfl) ?_
                refine lv_i2l (pc := 137) (v := (((hi <<< ((nI (tSHF r)) &&& 31)) ||| (ush hi (28 - (tSHF r)))) &&& (nI 268435455)).toInt64) hx hb dX2_schedule_137 rfl ?_
                refine lv_bipush (pc := 138) (v := nI 28) hx hb dX2_schedule_138 (by decide +kernel) ?_
                refine lv_lshl (pc := 140) (v := (lsl ((((hi <<< ((nI (tSHF r)) &&& 31)) ||| (ush hi (28 - (tSHF r)))) &&& (nI 268435455)).toInt64) 28)) hx hb dX2_schedule_140 rfl ?_
                refine lv_iload (pc := 141) hx hb dX2_schedule_141 (lv_at hl 0 rfl) ?_
                refine lv_i2l (pc := 143) (v := (((lo <<< ((nI (tSHF r)) &&& 31)) ||| (ush lo (28 - (tSHF r)))) &&& (nI 268435455)).toInt64) hx hb dX2_schedule_143 rfl ?_
                refine lv_lor (pc := 144) hx hb dX2_schedule_144 ?_
                refine lv_bipush (pc := 145) (v := nI 56) hx hb dX2_schedule_145 (by decide +kernel) ?_
                refine va_gets (pc := 147) hx hb (v := .ref (gs 4)) (GC_z4 hG) hS hown (hts _ tw_640) (fun _ h9 => h9) dX2_schedule_147 ?_
                refine cs_S (pc := 150) (idx := 62) (n := 3) (wr := [(hr, oR br n), (br, aZ ta capr gr), (hs9, aJ ta 16 f')]) (As := [.long ((lsl ((((hi <<< ((nI (tSHF r)) &&& 31)) ||| (ush hi (28 - (tSHF r)))) &&& (nI 268435455)).toInt64) 28) ||| ((((lo <<< ((nI (tSHF r)) &&& 31)) ||| (ush lo (28 - (tSHF r)))) &&& (nI 268435455)).toInt64)), .int (nI 56), .ref (gs 4)]) (rest := [.int (nI r), .ref hs9]) hx hb hml hown hts hGok hK hA hG hl.1 hP hD hS (ct_X2_choose_2 ll D ta gs ((lsl ((((hi <<< ((nI (tSHF r)) &&& 31)) ||| (ush hi (28 - (tSHF r)))) &&& (nI 268435455)).toInt64) 28) ||| ((((lo <<< ((nI (tSHF r)) &&& 31)) ||| (ush lo (28 - (tSHF r)))) &&& (nI 268435455)).toInt64))  H.size) tw_636 tw_634 tw_635 tw_72 hdX2_choose rfl ⟨rfl, rfl, Nat.le_of_ble_eq_true rfl, Nat.le_of_ble_eq_true rfl, Nat.le_of_ble_eq_true rfl, Nat.le_of_ble_eq_true rfl⟩ [] [0, 1, 2] rfl rfl (by decide) rfl (Nat.le_of_ble_eq_true rfl) dX2_schedule_150 (fun u H locs hq hP hD hS => ?_)
                refine W.eq (g2 := F0 mm 153 ls [.long (chL ((lsl ((((hi <<< ((nI (tSHF r)) &&& 31)) ||| (ush hi (28 - (tSHF r)))) &&& (nI 268435455)).toInt64) 28) ||| ((((lo <<< ((nI (tSHF r)) &&& 31)) ||| (ush lo (28 - (tSHF r)))) &&& (nI 268435455)).toInt64)) 56 tSEC 48), .int (nI r), .ref hs9]) rfl ?_
                have hP : va_P D vwCl [(hr, oR br n), (br, aZ ta capr gr), (hs9, aJ ta 16 f')] H := hP
                have hD : va_D A [(hr, oR br n), (br, aZ ta capr gr), (hs9, aJ ta 16 f')] := hD
                refine q_lastJ (pc := 153) hx hb hK hP hD hS 2 1 rfl rfl (k := r) rfl (by omega) (by omega)  dX2_schedule_153 (fun H locs hP hD hS => ?_)
                have hP : va_P D vwCl [(hr, oR br n), (br, aZ ta capr gr), (hs9, aJ ta 16 (qU f' r (chL ((lsl ((((hi <<< ((nI (tSHF r)) &&& 31)) ||| (ush hi (28 - (tSHF r)))) &&& (nI 268435455)).toInt64) 28) ||| ((((lo <<< ((nI (tSHF r)) &&& 31)) ||| (ush lo (28 - (tSHF r)))) &&& (nI 268435455)).toInt64)) 56 tSEC 48)))] H := hP
                have hD : va_D A [(hr, oR br n), (br, aZ ta capr gr), (hs9, aJ ta 16 (qU f' r (chL ((lsl ((((hi <<< ((nI (tSHF r)) &&& 31)) ||| (ush hi (28 - (tSHF r)))) &&& (nI 268435455)).toInt64) 28) ||| ((((lo <<< ((nI (tSHF r)) &&& 31)) ||| (ush lo (28 - (tSHF r)))) &&& (nI 268435455)).toInt64)) 56 tSEC 48)))] := hD
                refine lv_iinc (pc := 154) (v := nI (r + 1)) (lv' := [(9, .int (nI (r + 1))), (8, .int (((lo <<< ((nI (tSHF r)) &&& 31)) ||| (ush lo (28 - (tSHF r)))) &&& (nI 268435455))), (7, .int (((hi <<< ((nI (tSHF r)) &&& 31)) ||| (ush hi (28 - (tSHF r)))) &&& (nI 268435455))), (10, .int (nI (tSHF r))), (0, .ref hr), (1, .int (nI fr)), (2, .ref hs9)]) hx hb dX2_schedule_154 hl (k := 3) rfl (by first | exact nI_add r 1 | rfl) (by decide) rfl (fun ls hl => ?_)
                refine lv_goto (pc := 157) (tgt := 70) hx hb dX2_schedule_157 (by decide) ?_
                exact ih70 (r + 1) (((hi <<< ((nI (tSHF r)) &&& 31)) ||| (ush hi (28 - (tSHF r)))) &&& (nI 268435455)) (((lo <<< ((nI (tSHF r)) &&& 31)) ||| (ush lo (28 - (tSHF r)))) &&& (nI 268435455)) (qU f' r (chL ((lsl ((((hi <<< ((nI (tSHF r)) &&& 31)) ||| (ush hi (28 - (tSHF r)))) &&& (nI 268435455)).toInt64) 28) ||| ((((lo <<< ((nI (tSHF r)) &&& 31)) ||| (ush lo (28 - (tSHF r)))) &&& (nI 268435455)).toInt64)) 56 tSEC 48)) (by omega) (by rw [hhi]; rfl) (by rw [hlo]; rfl) (qSeg_s hsk (by omega) (by rw [hhi, hlo]; rfl)) (by omega) _ _ (hP.sub [0, 1, 2] rfl) (hD.sub [0, 1, 2] (by decide) rfl) hS ls (lv_sub hl [0, 1, 2, 4, 5, 6] rfl)
        exact LP70 _ 0 ((lus (chL x 64 tCH 56) 28).toInt32 &&& nI 268435455) ((chL x 64 tCH 56).toInt32 &&& nI 268435455) fs (by omega) (by rw [hX, show i = 8 by omega]; rfl) (by rw [hX, show i = 8 by omega]; rfl) (qSeg_0) (Nat.lt_succ_self _) _ _ (hP.sub [0, 1, 2] rfl) (hD.sub [0, 1, 2] (by decide) rfl) hS ls (lv_sub hl [0, 1, 2, 5, 6, 7] rfl)
      · skip
        rw [nI_leI (by omega) (by omega)] at c_1
        refine lv_lload_n (pc := 12) hx hb dX2_schedule_12 rfl (lv_at hl 1 rfl) ?_
        refine lv_bipush (pc := 13) (v := nI 8) hx hb dX2_schedule_13 (by decide +kernel) ?_
        refine lv_lshl (pc := 15) (v := (lsl x 8)) hx hb dX2_schedule_15 rfl ?_
        refine lv_aload_n (pc := 16) hx hb dX2_schedule_16 rfl (lv_at hl 2 rfl) ?_
        refine lv_iload_n (pc := 17) hx hb dX2_schedule_17 rfl (lv_at hl 3 rfl) ?_
        refine lv_iload (pc := 18) hx hb dX2_schedule_18 (lv_at hl 0 rfl) ?_
        refine lv_iadd (pc := 20) hx hb dX2_schedule_20 ?_
        refine q_top (y := nI (fr + i)) (nI_add fr i) ?_
        refine cs_V (pc := 21) (idx := 53) (n := 1) (wr := [(hs9, aJ ta 16 fs)]) (As := [.int (nI (fr + i))]) (rest := [.long (lsl x 8)]) (ci := 5) hx hb hml hown hts hGok hK hA hG hl.1 hP hD hS (ct_X6_at_in ll D ta hGok hr br capr gr n (fr + i) (by first | assumption | omega | rfl | decide) (by first | assumption | omega | rfl | decide) (by first | assumption | omega | rfl | decide) H.size) tw_413 tw_631 tw_411 tw_412 tw_66 hdX6_at rfl ⟨rfl, rfl, Nat.le_of_ble_eq_true rfl, Nat.le_of_ble_eq_true rfl, Nat.le_of_ble_eq_true rfl, Nat.le_of_ble_eq_true rfl⟩ rfl rfl (q0 := 0) rfl [0, 1] [2] rfl rfl (by decide) rfl (Nat.le_of_ble_eq_true rfl) dX2_schedule_21 (fun u H locs hq hP hD hS => ?_)
        refine W.eq (g2 := F0 mm 24 ls [.int (qz (gr (fr + i))), .long (lsl x 8)]) rfl ?_
        have hP : va_P D vwCl [(hs9, aJ ta 16 fs), (hr, oR br n), (br, aZ ta capr gr)] H := hP
        have hD : va_D A [(hs9, aJ ta 16 fs), (hr, oR br n), (br, aZ ta capr gr)] := hD
        refine lv_sipush (pc := 24) (v := nI 255) hx hb dX2_schedule_24 (by decide +kernel) ?_
        refine lv_iand (pc := 27) hx hb dX2_schedule_27 ?_
        refine q_top (y := qz (gr (fr + i))) (q_and255z _) ?_
        refine lv_i2l (pc := 28) (v := (qz (gr (fr + i))).toInt64) hx hb dX2_schedule_28 rfl ?_
        refine lv_lor (pc := 29) hx hb dX2_schedule_29 ?_
        refine lv_lstore_n (pc := 30) (lv' := [(3, .long ((lsl x 8) ||| ((qz (gr (fr + i))).toInt64))), (5, .int (nI i)), (0, .ref hr), (1, .int (nI fr)), (2, .ref hs9)]) hx hb dX2_schedule_30 rfl hl (by decide) rfl (fun ls hl => ?_)
        refine lv_iinc (pc := 31) (v := nI (i + 1)) (lv' := [(5, .int (nI (i + 1))), (3, .long ((lsl x 8) ||| ((qz (gr (fr + i))).toInt64))), (0, .ref hr), (1, .int (nI fr)), (2, .ref hs9)]) hx hb dX2_schedule_31 hl (k := 1) rfl (by first | exact nI_add i 1 | rfl) (by decide) rfl (fun ls hl => ?_)
        refine lv_goto (pc := 34) (tgt := 5) hx hb dX2_schedule_34 (by decide) ?_
        exact ih5 (i + 1) ((lsl x 8) ||| ((qz (gr (fr + i))).toInt64)) (by omega) (by rw [hX]; rfl) (by omega) _ _ (hP.sub [1, 2, 0] rfl) (hD.sub [1, 2, 0] (by decide) rfl) hS ls (lv_sub hl [0, 1, 2, 3, 4] rfl)
  exact LP5 _ 0 0 (by omega) (rfl) (Nat.lt_succ_self _) _ _ (hP.sub [0, 1, 2] rfl) (hD.sub [0, 1, 2] (by decide) rfl) hS ls (lv_sub hl [0, 1, 2, 3, 4] rfl)
theorem hdX2_rounds : yX2_rounds.cls ≠ "java/lang/invoke/MethodHandle" ∧ yX2_rounds.cls ≠ "java/lang/invoke/VarHandle" ∧ (parseMethodDescriptor yX2_rounds.desc).map (fun d => d.parameters.length) = some 3 := ⟨by decide +kernel, by decide +kernel, by decide +kernel⟩
theorem dX2_rounds_0 : decode cX2_rounds 0 = .ok (.lload_n 1, 1) := by decide +kernel
theorem dX2_rounds_1 : decode cX2_rounds 1 = .ok (.bipush 32, 2) := by decide +kernel
theorem dX2_rounds_3 : decode cX2_rounds 3 = .ok (.lushr, 1) := by decide +kernel
theorem dX2_rounds_4 : decode cX2_rounds 4 = .ok (.l2i, 1) := by decide +kernel
theorem dX2_rounds_5 : decode cX2_rounds 5 = .ok (.istore 5, 2) := by decide +kernel
theorem dX2_rounds_7 : decode cX2_rounds 7 = .ok (.lload_n 1, 1) := by decide +kernel
theorem dX2_rounds_8 : decode cX2_rounds 8 = .ok (.l2i, 1) := by decide +kernel
theorem dX2_rounds_9 : decode cX2_rounds 9 = .ok (.istore 6, 2) := by decide +kernel
theorem dX2_rounds_11 : decode cX2_rounds 11 = .ok (.iconst 0, 1) := by decide +kernel
theorem dX2_rounds_12 : decode cX2_rounds 12 = .ok (.istore 7, 2) := by decide +kernel
theorem dX2_rounds_14 : decode cX2_rounds 14 = .ok (.iload 7, 2) := by decide +kernel
theorem dX2_rounds_16 : decode cX2_rounds 16 = .ok (.bipush 16, 2) := by decide +kernel
theorem dX2_rounds_18 : decode cX2_rounds 18 = .ok (.if_icmp .ge 136, 3) := by decide +kernel
theorem dX2_rounds_21 : decode cX2_rounds 21 = .ok (.aload_n 3, 1) := by decide +kernel
theorem dX2_rounds_22 : decode cX2_rounds 22 = .ok (.iload 4, 2) := by decide +kernel
theorem dX2_rounds_24 : decode cX2_rounds 24 = .ok (.ifCond .eq 11, 3) := by decide +kernel
theorem dX2_rounds_27 : decode cX2_rounds 27 = .ok (.bipush 15, 2) := by decide +kernel
theorem dX2_rounds_29 : decode cX2_rounds 29 = .ok (.iload 7, 2) := by decide +kernel
theorem dX2_rounds_31 : decode cX2_rounds 31 = .ok (.isub, 1) := by decide +kernel
theorem dX2_rounds_32 : decode cX2_rounds 32 = .ok (.goto 5, 3) := by decide +kernel
theorem dX2_rounds_35 : decode cX2_rounds 35 = .ok (.iload 7, 2) := by decide +kernel
theorem dX2_rounds_37 : decode cX2_rounds 37 = .ok (.bipush 15, 2) := by decide +kernel
theorem dX2_rounds_39 : decode cX2_rounds 39 = .ok (.iand, 1) := by decide +kernel
theorem dX2_rounds_40 : decode cX2_rounds 40 = .ok (.laload, 1) := by decide +kernel
theorem dX2_rounds_41 : decode cX2_rounds 41 = .ok (.lstore 8, 2) := by decide +kernel
theorem dX2_rounds_43 : decode cX2_rounds 43 = .ok (.iload 6, 2) := by decide +kernel
theorem dX2_rounds_45 : decode cX2_rounds 45 = .ok (.i2l, 1) := by decide +kernel
theorem dX2_rounds_46 : decode cX2_rounds 46 = .ok (.lconst 1, 1) := by decide +kernel
theorem dX2_rounds_47 : decode cX2_rounds 47 = .ok (.land, 1) := by decide +kernel
theorem dX2_rounds_48 : decode cX2_rounds 48 = .ok (.bipush 33, 2) := by decide +kernel
theorem dX2_rounds_50 : decode cX2_rounds 50 = .ok (.lshl, 1) := by decide +kernel
theorem dX2_rounds_51 : decode cX2_rounds 51 = .ok (.iload 6, 2) := by decide +kernel
theorem dX2_rounds_53 : decode cX2_rounds 53 = .ok (.i2l, 1) := by decide +kernel
theorem dX2_rounds_54 : decode cX2_rounds 54 = .ok (.ldc2_w 73, 3) := by decide +kernel
theorem dX2_rounds_57 : decode cX2_rounds 57 = .ok (.land, 1) := by decide +kernel
theorem dX2_rounds_58 : decode cX2_rounds 58 = .ok (.iconst 1, 1) := by decide +kernel
theorem dX2_rounds_59 : decode cX2_rounds 59 = .ok (.lshl, 1) := by decide +kernel
theorem dX2_rounds_60 : decode cX2_rounds 60 = .ok (.lor, 1) := by decide +kernel
theorem dX2_rounds_61 : decode cX2_rounds 61 = .ok (.iload 6, 2) := by decide +kernel
theorem dX2_rounds_63 : decode cX2_rounds 63 = .ok (.bipush 31, 2) := by decide +kernel
theorem dX2_rounds_65 : decode cX2_rounds 65 = .ok (.iushr, 1) := by decide +kernel
theorem dX2_rounds_66 : decode cX2_rounds 66 = .ok (.i2l, 1) := by decide +kernel
theorem dX2_rounds_67 : decode cX2_rounds 67 = .ok (.lor, 1) := by decide +kernel
theorem dX2_rounds_68 : decode cX2_rounds 68 = .ok (.lstore 10, 2) := by decide +kernel
theorem dX2_rounds_70 : decode cX2_rounds 70 = .ok (.iload 5, 2) := by decide +kernel
theorem dX2_rounds_72 : decode cX2_rounds 72 = .ok (.istore 12, 2) := by decide +kernel
theorem dX2_rounds_74 : decode cX2_rounds 74 = .ok (.iconst 0, 1) := by decide +kernel
theorem dX2_rounds_75 : decode cX2_rounds 75 = .ok (.istore 13, 2) := by decide +kernel
theorem dX2_rounds_77 : decode cX2_rounds 77 = .ok (.iload 13, 2) := by decide +kernel
theorem dX2_rounds_79 : decode cX2_rounds 79 = .ok (.bipush 8, 2) := by decide +kernel
theorem dX2_rounds_81 : decode cX2_rounds 81 = .ok (.if_icmp .ge 59, 3) := by decide +kernel
theorem dX2_rounds_84 : decode cX2_rounds 84 = .ok (.lload 10, 2) := by decide +kernel
theorem dX2_rounds_86 : decode cX2_rounds 86 = .ok (.bipush 28, 2) := by decide +kernel
theorem dX2_rounds_88 : decode cX2_rounds 88 = .ok (.iconst 4, 1) := by decide +kernel
theorem dX2_rounds_89 : decode cX2_rounds 89 = .ok (.iload 13, 2) := by decide +kernel
theorem dX2_rounds_91 : decode cX2_rounds 91 = .ok (.imul, 1) := by decide +kernel
theorem dX2_rounds_92 : decode cX2_rounds 92 = .ok (.isub, 1) := by decide +kernel
theorem dX2_rounds_93 : decode cX2_rounds 93 = .ok (.lushr, 1) := by decide +kernel
theorem dX2_rounds_94 : decode cX2_rounds 94 = .ok (.lload 8, 2) := by decide +kernel
theorem dX2_rounds_96 : decode cX2_rounds 96 = .ok (.bipush 42, 2) := by decide +kernel
theorem dX2_rounds_98 : decode cX2_rounds 98 = .ok (.bipush 6, 2) := by decide +kernel
theorem dX2_rounds_100 : decode cX2_rounds 100 = .ok (.iload 13, 2) := by decide +kernel
theorem dX2_rounds_102 : decode cX2_rounds 102 = .ok (.imul, 1) := by decide +kernel
theorem dX2_rounds_103 : decode cX2_rounds 103 = .ok (.isub, 1) := by decide +kernel
theorem dX2_rounds_104 : decode cX2_rounds 104 = .ok (.lushr, 1) := by decide +kernel
theorem dX2_rounds_105 : decode cX2_rounds 105 = .ok (.lxor, 1) := by decide +kernel
theorem dX2_rounds_106 : decode cX2_rounds 106 = .ok (.l2i, 1) := by decide +kernel
theorem dX2_rounds_107 : decode cX2_rounds 107 = .ok (.bipush 63, 2) := by decide +kernel
theorem dX2_rounds_109 : decode cX2_rounds 109 = .ok (.iand, 1) := by decide +kernel
theorem dX2_rounds_110 : decode cX2_rounds 110 = .ok (.istore 14, 2) := by decide +kernel
theorem dX2_rounds_112 : decode cX2_rounds 112 = .ok (.iload 12, 2) := by decide +kernel
theorem dX2_rounds_114 : decode cX2_rounds 114 = .ok (.aload_n 0, 1) := by decide +kernel
theorem dX2_rounds_115 : decode cX2_rounds 115 = .ok (.getfield 7, 3) := by decide +kernel
theorem dX2_rounds_118 : decode cX2_rounds 118 = .ok (.iload 13, 2) := by decide +kernel
theorem dX2_rounds_120 : decode cX2_rounds 120 = .ok (.bipush 6, 2) := by decide +kernel
theorem dX2_rounds_122 : decode cX2_rounds 122 = .ok (.ishl, 1) := by decide +kernel
theorem dX2_rounds_123 : decode cX2_rounds 123 = .ok (.iload 14, 2) := by decide +kernel
theorem dX2_rounds_125 : decode cX2_rounds 125 = .ok (.ior, 1) := by decide +kernel
theorem dX2_rounds_126 : decode cX2_rounds 126 = .ok (.sipush 511, 3) := by decide +kernel
theorem dX2_rounds_129 : decode cX2_rounds 129 = .ok (.iand, 1) := by decide +kernel
theorem dX2_rounds_130 : decode cX2_rounds 130 = .ok (.iaload, 1) := by decide +kernel
theorem dX2_rounds_131 : decode cX2_rounds 131 = .ok (.ixor, 1) := by decide +kernel
theorem dX2_rounds_132 : decode cX2_rounds 132 = .ok (.istore 12, 2) := by decide +kernel
theorem dX2_rounds_134 : decode cX2_rounds 134 = .ok (.iinc 13 1, 3) := by decide +kernel
theorem dX2_rounds_137 : decode cX2_rounds 137 = .ok (.goto (-60), 3) := by decide +kernel
theorem dX2_rounds_140 : decode cX2_rounds 140 = .ok (.iload 6, 2) := by decide +kernel
theorem dX2_rounds_142 : decode cX2_rounds 142 = .ok (.istore 5, 2) := by decide +kernel
theorem dX2_rounds_144 : decode cX2_rounds 144 = .ok (.iload 12, 2) := by decide +kernel
theorem dX2_rounds_146 : decode cX2_rounds 146 = .ok (.istore 6, 2) := by decide +kernel
theorem dX2_rounds_148 : decode cX2_rounds 148 = .ok (.iinc 7 1, 3) := by decide +kernel
theorem dX2_rounds_151 : decode cX2_rounds 151 = .ok (.goto (-137), 3) := by decide +kernel
theorem dX2_rounds_154 : decode cX2_rounds 154 = .ok (.iload 6, 2) := by decide +kernel
theorem dX2_rounds_156 : decode cX2_rounds 156 = .ok (.i2l, 1) := by decide +kernel
theorem dX2_rounds_157 : decode cX2_rounds 157 = .ok (.ldc2_w 73, 3) := by decide +kernel
theorem dX2_rounds_160 : decode cX2_rounds 160 = .ok (.land, 1) := by decide +kernel
theorem dX2_rounds_161 : decode cX2_rounds 161 = .ok (.bipush 32, 2) := by decide +kernel
theorem dX2_rounds_163 : decode cX2_rounds 163 = .ok (.lshl, 1) := by decide +kernel
theorem dX2_rounds_164 : decode cX2_rounds 164 = .ok (.iload 5, 2) := by decide +kernel
theorem dX2_rounds_166 : decode cX2_rounds 166 = .ok (.i2l, 1) := by decide +kernel
theorem dX2_rounds_167 : decode cX2_rounds 167 = .ok (.ldc2_w 73, 3) := by decide +kernel
theorem dX2_rounds_170 : decode cX2_rounds 170 = .ok (.land, 1) := by decide +kernel
theorem dX2_rounds_171 : decode cX2_rounds 171 = .ok (.lor, 1) := by decide +kernel
theorem dX2_rounds_172 : decode cX2_rounds 172 = .ok (.lreturn, 1) := by decide +kernel
set_option maxHeartbeats 4000000 in
set_option maxRecDepth 100000 in
theorem ct_X2_rounds_f (ll : Launch) (D : va_G) (ta : Nat → ClassId) {G : (Nat → Prop) → State → Heap → Prop} (hGok : GOK G) (ha : Nat) (b1 : Nat) (b2 : Nat) (b3 : Nat) (b4 : Nat) (b5 : Nat) (tri : Bool) (x : Int64) (hs9 : Nat) (fs : Nat → Int64) (spb : Nat → Int32)  (sz : Nat) : CT ll yX2_rounds cX2_rounds 15 (some .long) ({ frames := 0, cells := 0, slots := 0, locals := 0 } : Room) D ta G [.ref ha, .long x, .ref hs9, .int (qb false)] [(ha, oD b1 b2 b3 b4 b5 tri), (b3, aI ta 512 spb), (hs9, aJ ta 16 fs)] sz (S := Unit) (fun u => some (.long (rdR spb fs false x))) (fun u => True) (fun u => [(ha, oD b1 b2 b3 b4 b5 tri), (b3, aI ta 512 spb), (hs9, aJ ta 16 fs)]) 0 0 := by
  refine CT.of_l (r := fun u => rdR spb fs false x) rfl (by decide) (Nat.le_of_ble_eq_true rfl) ?_
  intro pp ee ss mm below meth kc A Q hx hb hml hown hin hts hK hA hsz hG hret H locs hP hD hS ls hl
  have hl : lv_has ls 15 [(0, .ref ha), (1, .long x), (3, .ref hs9), (4, .int (qb false))] := hl
  refine lv_lload_n (pc := 0) hx hb dX2_rounds_0 rfl (lv_at hl 1 rfl) ?_
  refine lv_bipush (pc := 1) (v := nI 32) hx hb dX2_rounds_1 (by decide +kernel) ?_
  refine lv_lushr (pc := 3) (v := (lus x 32)) hx hb dX2_rounds_3 rfl ?_
  refine lv_l2i (pc := 4) (v := (lus x 32).toInt32) hx hb dX2_rounds_4 rfl ?_
  refine lv_istore (pc := 5) (lv' := [(5, .int ((lus x 32).toInt32)), (0, .ref ha), (1, .long x), (3, .ref hs9), (4, .int (qb false))]) hx hb dX2_rounds_5 hl (by decide) rfl (fun ls hl => ?_)
  refine lv_lload_n (pc := 7) hx hb dX2_rounds_7 rfl (lv_at hl 2 rfl) ?_
  refine lv_l2i (pc := 8) (v := x.toInt32) hx hb dX2_rounds_8 rfl ?_
  refine lv_istore (pc := 9) (lv' := [(6, .int x.toInt32), (5, .int ((lus x 32).toInt32)), (0, .ref ha), (1, .long x), (3, .ref hs9), (4, .int (qb false))]) hx hb dX2_rounds_9 hl (by decide) rfl (fun ls hl => ?_)
  refine lv_iconst (pc := 11) (v := nI 0) hx hb dX2_rounds_11 (by decide +kernel) ?_
  refine lv_istore (pc := 12) (lv' := [(7, .int (nI 0)), (6, .int x.toInt32), (5, .int ((lus x 32).toInt32)), (0, .ref ha), (1, .long x), (3, .ref hs9), (4, .int (qb false))]) hx hb dX2_rounds_12 hl (by decide) rfl (fun ls hl => ?_)
  have LP14 : ∀ (nn14 : Nat) (i : Nat) (lf : Int32) (rt : Int32), (i ≤ 16) → (lf = rdL spb fs false x i) → (rt = rdL spb fs false x (i + 1)) → (16 - i < nn14) → ∀ (H : Heap) (locs : List Loc), va_P D vwCl [(ha, oD b1 b2 b3 b4 b5 tri), (b3, aI ta 512 spb), (hs9, aJ ta 16 fs)] H → va_D A [(ha, oD b1 b2 b3 b4 b5 tri), (b3, aI ta 512 spb), (hs9, aJ ta 16 fs)] → va_S A ss.heap H locs → ∀ ls : Array Slot, lv_has ls 15 [(7, .int (nI i)), (6, .int rt), (5, .int lf), (0, .ref ha), (1, .long x), (3, .ref hs9), (4, .int (qb false))] → W pp ll ee ({ frames := 0, cells := 0, slots := 0, locals := 0 } : Room) ss mm (([.ref ha, .long x, .ref hs9, .int (qb false)] : List Value).toArray) below meth kc H locs 0 0 Q (F0 mm 14 ls []) := by
    intro nn14
    induction nn14 with
    | zero => intro i lf rt hii hlf hrt hmu; exact absurd hmu (Nat.not_lt_zero _)
    | succ nn14 ih14 =>
      intro i lf rt hii hlf hrt hmu14 H locs hP hD hS ls hl
      refine lv_iload (pc := 14) hx hb dX2_rounds_14 (lv_at hl 0 rfl) ?_
      refine lv_bipush (pc := 16) (v := nI 16) hx hb dX2_rounds_16 (by decide +kernel) ?_
      refine lv_icmp_ge (pc := 18) (tgt := 154) hx hb dX2_rounds_18 (by decide) (fun c_1 => ?_) (fun c_1 => ?_)
      · skip
        rw [nI_leI (by omega) (by omega)] at c_1
        refine lv_iload (pc := 154) hx hb dX2_rounds_154 (lv_at hl 1 rfl) ?_
        refine lv_i2l (pc := 156) (v := rt.toInt64) hx hb dX2_rounds_156 rfl ?_
        refine lv_ldc2 (pc := 157) (v := (4294967295)) hx hb hown (hts _ tw_580) dX2_rounds_157 ?_
        refine lv_land (pc := 160) hx hb dX2_rounds_160 ?_
        refine lv_bipush (pc := 161) (v := nI 32) hx hb dX2_rounds_161 (by decide +kernel) ?_
        refine lv_lshl (pc := 163) (v := (lsl (rt.toInt64 &&& 4294967295) 32)) hx hb dX2_rounds_163 rfl ?_
        refine lv_iload (pc := 164) hx hb dX2_rounds_164 (lv_at hl 2 rfl) ?_
        refine lv_i2l (pc := 166) (v := lf.toInt64) hx hb dX2_rounds_166 rfl ?_
        refine lv_ldc2 (pc := 167) (v := (4294967295)) hx hb hown (hts _ tw_580) dX2_rounds_167 ?_
        refine lv_land (pc := 170) hx hb dX2_rounds_170 ?_
        refine lv_lor (pc := 171) hx hb dX2_rounds_171 ?_
        refine q_topl (y := rdR spb fs false x) (by rw [hlf, hrt, show i = 16 by omega]; rfl) ?_
        have hq_2 : True := trivial
        exact hret () _ _ _ _ dX2_rounds_172 hq_2 (hP.sub [0, 1, 2] rfl) (hD.sub [0, 1, 2] (by decide) rfl) hS
      · skip
        rw [nI_leI (by omega) (by omega)] at c_1
        refine lv_aload_n (pc := 21) hx hb dX2_rounds_21 rfl (lv_at hl 5 rfl) ?_
        refine lv_iload (pc := 22) hx hb dX2_rounds_22 (lv_at hl 6 rfl) ?_
        refine lv_if_eq (pc := 24) (tgt := 35) hx hb dX2_rounds_24 (by decide) (fun _ => ?_) (fun c_3 => ?_)
        rotate_left
        · skip
          exact absurd rfl c_3
        refine lv_iload (pc := 35) hx hb dX2_rounds_35 (lv_at hl 0 rfl) ?_
        refine lv_bipush (pc := 37) (v := nI 15) hx hb dX2_rounds_37 (by decide +kernel) ?_
        refine lv_iand (pc := 39) hx hb dX2_rounds_39 ?_
        refine q_top (y := nI (i % 16)) (q_andN (k := 4) (p := 16) (by decide) (by omega)) ?_
        refine q_lald (pc := 40) hx hb hK hP 2 1 rfl rfl (k := i % 16) (v := fs (i % 16)) rfl (by omega) (by omega) rfl dX2_rounds_40 ?_
        refine lv_lstore (pc := 41) (lv' := [(8, .long (fs (i % 16))), (7, .int (nI i)), (6, .int rt), (5, .int lf), (0, .ref ha), (1, .long x), (3, .ref hs9), (4, .int (qb false))]) hx hb dX2_rounds_41 hl (by decide) rfl (fun ls hl => ?_)
        refine lv_iload (pc := 43) hx hb dX2_rounds_43 (lv_at hl 2 rfl) ?_
        refine lv_i2l (pc := 45) (v := rt.toInt64) hx hb dX2_rounds_45 rfl ?_
        refine lv_lconst (pc := 46) (v := 1) hx hb dX2_rounds_46 (by decide +kernel) ?_
        refine lv_land (pc := 47) hx hb dX2_rounds_47 ?_
        refine lv_bipush (pc := 48) (v := nI 33) hx hb dX2_rounds_48 (by decide +kernel) ?_
        refine lv_lshl (pc := 50) (v := (lsl (rt.toInt64 &&& 1) 33)) hx hb dX2_rounds_50 rfl ?_
        refine lv_iload (pc := 51) hx hb dX2_rounds_51 (lv_at hl 2 rfl) ?_
        refine lv_i2l (pc := 53) (v := rt.toInt64) hx hb dX2_rounds_53 rfl ?_
        refine lv_ldc2 (pc := 54) (v := (4294967295)) hx hb hown (hts _ tw_580) dX2_rounds_54 ?_
        refine lv_land (pc := 57) hx hb dX2_rounds_57 ?_
        refine lv_iconst (pc := 58) (v := nI 1) hx hb dX2_rounds_58 (by decide +kernel) ?_
        refine lv_lshl (pc := 59) (v := (lsl (rt.toInt64 &&& 4294967295) 1)) hx hb dX2_rounds_59 rfl ?_
        refine lv_lor (pc := 60) hx hb dX2_rounds_60 ?_
        refine lv_iload (pc := 61) hx hb dX2_rounds_61 (lv_at hl 2 rfl) ?_
        refine lv_bipush (pc := 63) (v := nI 31) hx hb dX2_rounds_63 (by decide +kernel) ?_
        refine lv_iushr (pc := 65) (v := ush rt 31) hx hb dX2_rounds_65 rfl ?_
        refine lv_i2l (pc := 66) (v := (ush rt 31).toInt64) hx hb dX2_rounds_66 rfl ?_
        refine lv_lor (pc := 67) hx hb dX2_rounds_67 ?_
        refine lv_lstore (pc := 68) (lv' := [(10, .long (((lsl (rt.toInt64 &&& 1) 33) ||| (lsl (rt.toInt64 &&& 4294967295) 1)) ||| ((ush rt 31).toInt64))), (8, .long (fs (i % 16))), (7, .int (nI i)), (6, .int rt), (5, .int lf), (0, .ref ha), (1, .long x), (3, .ref hs9), (4, .int (qb false))]) hx hb dX2_rounds_68 hl (by decide) rfl (fun ls hl => ?_)
        refine lv_iload (pc := 70) hx hb dX2_rounds_70 (lv_at hl 4 rfl) ?_
        refine lv_istore (pc := 72) (lv' := [(12, .int lf), (10, .long (((lsl (rt.toInt64 &&& 1) 33) ||| (lsl (rt.toInt64 &&& 4294967295) 1)) ||| ((ush rt 31).toInt64))), (8, .long (fs (i % 16))), (7, .int (nI i)), (6, .int rt), (5, .int lf), (0, .ref ha), (1, .long x), (3, .ref hs9), (4, .int (qb false))]) hx hb dX2_rounds_72 hl (by decide) rfl (fun ls hl => ?_)
        refine lv_iconst (pc := 74) (v := nI 0) hx hb dX2_rounds_74 (by decide +kernel) ?_
        refine lv_istore (pc := 75) (lv' := [(13, .int (nI 0)), (12, .int lf), (10, .long (((lsl (rt.toInt64 &&& 1) 33) ||| (lsl (rt.toInt64 &&& 4294967295) 1)) ||| ((ush rt 31).toInt64))), (8, .long (fs (i % 16))), (7, .int (nI i)), (6, .int rt), (5, .int lf), (0, .ref ha), (1, .long x), (3, .ref hs9), (4, .int (qb false))]) hx hb dX2_rounds_75 hl (by decide) rfl (fun ls hl => ?_)
        have LP77 : ∀ (nn77 : Nat) (b : Nat) (nx : Int32), (b ≤ 8) → (nx = nextL spb lf rt (fs (i % 16)) b) → (8 - b < nn77) → ∀ (H : Heap) (locs : List Loc), va_P D vwCl [(ha, oD b1 b2 b3 b4 b5 tri), (b3, aI ta 512 spb), (hs9, aJ ta 16 fs)] H → va_D A [(ha, oD b1 b2 b3 b4 b5 tri), (b3, aI ta 512 spb), (hs9, aJ ta 16 fs)] → va_S A ss.heap H locs → ∀ ls : Array Slot, lv_has ls 15 [(13, .int (nI b)), (12, .int nx), (10, .long (((lsl (rt.toInt64 &&& 1) 33) ||| (lsl (rt.toInt64 &&& 4294967295) 1)) ||| ((ush rt 31).toInt64))), (8, .long (fs (i % 16))), (7, .int (nI i)), (6, .int rt), (5, .int lf), (0, .ref ha), (1, .long x), (3, .ref hs9), (4, .int (qb false))] → W pp ll ee ({ frames := 0, cells := 0, slots := 0, locals := 0 } : Room) ss mm (([.ref ha, .long x, .ref hs9, .int (qb false)] : List Value).toArray) below meth kc H locs 0 0 Q (F0 mm 77 ls []) := by
          intro nn77
          induction nn77 with
          | zero => intro b nx hbb hnx hmu; exact absurd hmu (Nat.not_lt_zero _)
          | succ nn77 ih77 =>
            intro b nx hbb hnx hmu77 H locs hP hD hS ls hl
            refine lv_iload (pc := 77) hx hb dX2_rounds_77 (lv_at hl 0 rfl) ?_
            refine lv_bipush (pc := 79) (v := nI 8) hx hb dX2_rounds_79 (by decide +kernel) ?_
            refine lv_icmp_ge (pc := 81) (tgt := 140) hx hb dX2_rounds_81 (by decide) (fun c_4 => ?_) (fun c_4 => ?_)
            · skip
              rw [nI_leI (by omega) (by omega)] at c_4
              refine lv_iload (pc := 140) hx hb dX2_rounds_140 (lv_at hl 5 rfl) ?_
              refine lv_istore (pc := 142) (lv' := [(5, .int rt), (13, .int (nI b)), (12, .int nx), (10, .long (((lsl (rt.toInt64 &&& 1) 33) ||| (lsl (rt.toInt64 &&& 4294967295) 1)) ||| ((ush rt 31).toInt64))), (8, .long (fs (i % 16))), (7, .int (nI i)), (6, .int rt), (0, .ref ha), (1, .long x), (3, .ref hs9), (4, .int (qb false))]) hx hb dX2_rounds_142 hl (by decide) rfl (fun ls hl => ?_)
              refine lv_iload (pc := 144) hx hb dX2_rounds_144 (lv_at hl 2 rfl) ?_
              refine lv_istore (pc := 146) (lv' := [(6, .int nx), (5, .int rt), (13, .int (nI b)), (12, .int nx), (10, .long (((lsl (rt.toInt64 &&& 1) 33) ||| (lsl (rt.toInt64 &&& 4294967295) 1)) ||| ((ush rt 31).toInt64))), (8, .long (fs (i % 16))), (7, .int (nI i)), (0, .ref ha), (1, .long x), (3, .ref hs9), (4, .int (qb false))]) hx hb dX2_rounds_146 hl (by decide) rfl (fun ls hl => ?_)
              refine lv_iinc (pc := 148) (v := nI (i + 1)) (lv' := [(7, .int (nI (i + 1))), (6, .int nx), (5, .int rt), (13, .int (nI b)), (12, .int nx), (10, .long (((lsl (rt.toInt64 &&& 1) 33) ||| (lsl (rt.toInt64 &&& 4294967295) 1)) ||| ((ush rt 31).toInt64))), (8, .long (fs (i % 16))), (0, .ref ha), (1, .long x), (3, .ref hs9), (4, .int (qb false))]) hx hb dX2_rounds_148 hl (k := 6) rfl (by first | exact nI_add i 1 | rfl) (by decide) rfl (fun ls hl => ?_)
              refine lv_goto (pc := 151) (tgt := 14) hx hb dX2_rounds_151 (by decide) ?_
              exact ih14 (i + 1) rt nx (by omega) (hrt) (by rw [hnx, show b = 8 by omega, hlf, hrt]; rfl) (by omega) _ _ (hP.sub [0, 1, 2] rfl) (hD.sub [0, 1, 2] (by decide) rfl) hS ls (lv_sub hl [0, 1, 2, 7, 8, 9, 10] rfl)
            · skip
              rw [nI_leI (by omega) (by omega)] at c_4
              refine lv_lload (pc := 84) hx hb dX2_rounds_84 (lv_at hl 2 rfl) ?_
              refine lv_bipush (pc := 86) (v := nI 28) hx hb dX2_rounds_86 (by decide +kernel) ?_
              refine lv_iconst (pc := 88) (v := nI 4) hx hb dX2_rounds_88 (by decide +kernel) ?_
              refine lv_iload (pc := 89) hx hb dX2_rounds_89 (lv_at hl 0 rfl) ?_
              refine lv_imul (pc := 91) hx hb dX2_rounds_91 ?_
              refine q_top (y := nI (4 * b)) (pk_mul 4 b) ?_
              refine lv_isub (pc := 92) hx hb dX2_rounds_92 ?_
              refine q_top (y := nI (28 - (4 * b))) (pk_sub (a := 28) (b := 4 * b) (by omega)) ?_
              refine lv_lushr (pc := 93) (v := (lus (((lsl (rt.toInt64 &&& 1) 33) ||| (lsl (rt.toInt64 &&& 4294967295) 1)) ||| ((ush rt 31).toInt64)) (28 - (4 * b)))) hx hb dX2_rounds_93 rfl ?_
              refine lv_lload (pc := 94) hx hb dX2_rounds_94 (lv_at hl 3 rfl) ?_
              refine lv_bipush (pc := 96) (v := nI 42) hx hb dX2_rounds_96 (by decide +kernel) ?_
              refine lv_bipush (pc := 98) (v := nI 6) hx hb dX2_rounds_98 (by decide +kernel) ?_
              refine lv_iload (pc := 100) hx hb dX2_rounds_100 (lv_at hl 0 rfl) ?_
              refine lv_imul (pc := 102) hx hb dX2_rounds_102 ?_
              refine q_top (y := nI (6 * b)) (pk_mul 6 b) ?_
              refine lv_isub (pc := 103) hx hb dX2_rounds_103 ?_
              refine q_top (y := nI (42 - (6 * b))) (pk_sub (a := 42) (b := 6 * b) (by omega)) ?_
              refine lv_lushr (pc := 104) (v := (lus (fs (i % 16)) (42 - (6 * b)))) hx hb dX2_rounds_104 rfl ?_
              refine lv_lxor (pc := 105) hx hb dX2_rounds_105 ?_
              refine lv_l2i (pc := 106) (v := ((lus (((lsl (rt.toInt64 &&& 1) 33) ||| (lsl (rt.toInt64 &&& 4294967295) 1)) ||| ((ush rt 31).toInt64)) (28 - (4 * b))) ^^^ (lus (fs (i % 16)) (42 - (6 * b)))).toInt32) hx hb dX2_rounds_106 rfl ?_
              refine lv_bipush (pc := 107) (v := nI 63) hx hb dX2_rounds_107 (by decide +kernel) ?_
              refine lv_iand (pc := 109) hx hb dX2_rounds_109 ?_
              refine q_top (y := nI ((((lus (((lsl (rt.toInt64 &&& 1) 33) ||| (lsl (rt.toInt64 &&& 4294967295) 1)) ||| ((ush rt 31).toInt64)) (28 - (4 * b))) ^^^ (lus (fs (i % 16)) (42 - (6 * b)))).toInt32).toBitVec.toNat % 64)) (q_andG _ (k := 6) (p := 64) (by decide)) ?_
              refine lv_istore (pc := 110) (lv' := [(14, .int (nI ((((lus (((lsl (rt.toInt64 &&& 1) 33) ||| (lsl (rt.toInt64 &&& 4294967295) 1)) ||| ((ush rt 31).toInt64)) (28 - (4 * b))) ^^^ (lus (fs (i % 16)) (42 - (6 * b)))).toInt32).toBitVec.toNat % 64))), (13, .int (nI b)), (12, .int nx), (10, .long (((lsl (rt.toInt64 &&& 1) 33) ||| (lsl (rt.toInt64 &&& 4294967295) 1)) ||| ((ush rt 31).toInt64))), (8, .long (fs (i % 16))), (7, .int (nI i)), (6, .int rt), (5, .int lf), (0, .ref ha), (1, .long x), (3, .ref hs9), (4, .int (qb false))]) hx hb dX2_rounds_110 hl (by decide) rfl (fun ls hl => ?_)
              refine lv_iload (pc := 112) hx hb dX2_rounds_112 (lv_at hl 2 rfl) ?_
              refine lv_aload_n (pc := 114) hx hb dX2_rounds_114 rfl (lv_at hl 8 rfl) ?_
              refine va_get (pc := 115) (D := D) (ci := 1) (v := .ref b3) (C := RX2) (T := TX2) (N := 6) hx hb hts iu2 hown hK hP 0 rfl rfl 2 (by decide) (hts _ tw_245) (fun _ h9 => h9) rfl dX2_rounds_115 ?_
              refine lv_iload (pc := 118) hx hb dX2_rounds_118 (lv_at hl 1 rfl) ?_
              refine lv_bipush (pc := 120) (v := nI 6) hx hb dX2_rounds_120 (by decide +kernel) ?_
              refine lv_ishl (pc := 122) hx hb dX2_rounds_122 ?_
              refine q_top (y := nI (b * 64)) (q_shl (p := 64) (by decide) (by omega)) ?_
              refine lv_iload (pc := 123) hx hb dX2_rounds_123 (lv_at hl 0 rfl) ?_
              refine lv_ior (pc := 125) hx hb dX2_rounds_125 ?_
              refine q_top (y := nI ((b * 64) ||| ((((lus (((lsl (rt.toInt64 &&& 1) 33) ||| (lsl (rt.toInt64 &&& 4294967295) 1)) ||| ((ush rt 31).toInt64)) (28 - (4 * b))) ^^^ (lus (fs (i % 16)) (42 - (6 * b)))).toInt32).toBitVec.toNat % 64))) (q_orN _ _) ?_
              refine lv_sipush (pc := 126) (v := nI 511) hx hb dX2_rounds_126 (by decide +kernel) ?_
              refine lv_iand (pc := 129) hx hb dX2_rounds_129 ?_
              refine q_top (y := nI (((b * 64) ||| ((((lus (((lsl (rt.toInt64 &&& 1) 33) ||| (lsl (rt.toInt64 &&& 4294967295) 1)) ||| ((ush rt 31).toInt64)) (28 - (4 * b))) ^^^ (lus (fs (i % 16)) (42 - (6 * b)))).toInt32).toBitVec.toNat % 64)) % 512)) (q_andM (k := 9) (p := 512) (by decide)) ?_
              refine q_iald (pc := 130) hx hb hK hP 1 0 rfl rfl (k := ((b * 64) ||| ((((lus (((lsl (rt.toInt64 &&& 1) 33) ||| (lsl (rt.toInt64 &&& 4294967295) 1)) ||| ((ush rt 31).toInt64)) (28 - (4 * b))) ^^^ (lus (fs (i % 16)) (42 - (6 * b)))).toInt32).toBitVec.toNat % 64)) % 512) (v := spb (((b * 64) ||| ((((lus (((lsl (rt.toInt64 &&& 1) 33) ||| (lsl (rt.toInt64 &&& 4294967295) 1)) ||| ((ush rt 31).toInt64)) (28 - (4 * b))) ^^^ (lus (fs (i % 16)) (42 - (6 * b)))).toInt32).toBitVec.toNat % 64)) % 512)) rfl (by omega) (by omega) rfl dX2_rounds_130 ?_
              refine lv_ixor (pc := 131) hx hb dX2_rounds_131 ?_
              refine lv_istore (pc := 132) (lv' := [(12, .int (nx ^^^ (spb (((b * 64) ||| ((((lus (((lsl (rt.toInt64 &&& 1) 33) ||| (lsl (rt.toInt64 &&& 4294967295) 1)) ||| ((ush rt 31).toInt64)) (28 - (4 * b))) ^^^ (lus (fs (i % 16)) (42 - (6 * b)))).toInt32).toBitVec.toNat % 64)) % 512)))), (14, .int (nI ((((lus (((lsl (rt.toInt64 &&& 1) 33) ||| (lsl (rt.toInt64 &&& 4294967295) 1)) ||| ((ush rt 31).toInt64)) (28 - (4 * b))) ^^^ (lus (fs (i % 16)) (42 - (6 * b)))).toInt32).toBitVec.toNat % 64))), (13, .int (nI b)), (10, .long (((lsl (rt.toInt64 &&& 1) 33) ||| (lsl (rt.toInt64 &&& 4294967295) 1)) ||| ((ush rt 31).toInt64))), (8, .long (fs (i % 16))), (7, .int (nI i)), (6, .int rt), (5, .int lf), (0, .ref ha), (1, .long x), (3, .ref hs9), (4, .int (qb false))]) hx hb dX2_rounds_132 hl (by decide) rfl (fun ls hl => ?_)
              refine lv_iinc (pc := 134) (v := nI (b + 1)) (lv' := [(13, .int (nI (b + 1))), (12, .int (nx ^^^ (spb (((b * 64) ||| ((((lus (((lsl (rt.toInt64 &&& 1) 33) ||| (lsl (rt.toInt64 &&& 4294967295) 1)) ||| ((ush rt 31).toInt64)) (28 - (4 * b))) ^^^ (lus (fs (i % 16)) (42 - (6 * b)))).toInt32).toBitVec.toNat % 64)) % 512)))), (14, .int (nI ((((lus (((lsl (rt.toInt64 &&& 1) 33) ||| (lsl (rt.toInt64 &&& 4294967295) 1)) ||| ((ush rt 31).toInt64)) (28 - (4 * b))) ^^^ (lus (fs (i % 16)) (42 - (6 * b)))).toInt32).toBitVec.toNat % 64))), (10, .long (((lsl (rt.toInt64 &&& 1) 33) ||| (lsl (rt.toInt64 &&& 4294967295) 1)) ||| ((ush rt 31).toInt64))), (8, .long (fs (i % 16))), (7, .int (nI i)), (6, .int rt), (5, .int lf), (0, .ref ha), (1, .long x), (3, .ref hs9), (4, .int (qb false))]) hx hb dX2_rounds_134 hl (k := 2) rfl (by first | exact nI_add b 1 | rfl) (by decide) rfl (fun ls hl => ?_)
              refine lv_goto (pc := 137) (tgt := 77) hx hb dX2_rounds_137 (by decide) ?_
              exact ih77 (b + 1) (nx ^^^ (spb (((b * 64) ||| ((((lus (((lsl (rt.toInt64 &&& 1) 33) ||| (lsl (rt.toInt64 &&& 4294967295) 1)) ||| ((ush rt 31).toInt64)) (28 - (4 * b))) ^^^ (lus (fs (i % 16)) (42 - (6 * b)))).toInt32).toBitVec.toNat % 64)) % 512))) (by omega) (by rw [hnx]; rfl) (by omega) _ _ (hP.sub [0, 1, 2] rfl) (hD.sub [0, 1, 2] (by decide) rfl) hS ls (lv_sub hl [0, 1, 3, 4, 5, 6, 7, 8, 9, 10, 11] rfl)
        exact LP77 _ 0 lf (by omega) (rfl) (Nat.lt_succ_self _) _ _ (hP.sub [0, 1, 2] rfl) (hD.sub [0, 1, 2] (by decide) rfl) hS ls (lv_sub hl [0, 1, 2, 3, 4, 5, 6, 7, 8, 9, 10] rfl)
  exact LP14 _ 0 ((lus x 32).toInt32) x.toInt32 (by omega) (rfl) (rfl) (Nat.lt_succ_self _) _ _ (hP.sub [0, 1, 2] rfl) (hD.sub [0, 1, 2] (by decide) rfl) hS ls (lv_sub hl [0, 1, 2, 3, 4, 5, 6] rfl)
set_option maxHeartbeats 4000000 in
set_option maxRecDepth 100000 in
theorem ct_X2_rounds_b (ll : Launch) (D : va_G) (ta : Nat → ClassId) {G : (Nat → Prop) → State → Heap → Prop} (hGok : GOK G) (ha : Nat) (b1 : Nat) (b2 : Nat) (b3 : Nat) (b4 : Nat) (b5 : Nat) (tri : Bool) (x : Int64) (hs9 : Nat) (fs : Nat → Int64) (spb : Nat → Int32)  (sz : Nat) : CT ll yX2_rounds cX2_rounds 15 (some .long) ({ frames := 0, cells := 0, slots := 0, locals := 0 } : Room) D ta G [.ref ha, .long x, .ref hs9, .int (qb true)] [(ha, oD b1 b2 b3 b4 b5 tri), (b3, aI ta 512 spb), (hs9, aJ ta 16 fs)] sz (S := Unit) (fun u => some (.long (rdR spb fs true x))) (fun u => True) (fun u => [(ha, oD b1 b2 b3 b4 b5 tri), (b3, aI ta 512 spb), (hs9, aJ ta 16 fs)]) 0 0 := by
  refine CT.of_l (r := fun u => rdR spb fs true x) rfl (by decide) (Nat.le_of_ble_eq_true rfl) ?_
  intro pp ee ss mm below meth kc A Q hx hb hml hown hin hts hK hA hsz hG hret H locs hP hD hS ls hl
  have hl : lv_has ls 15 [(0, .ref ha), (1, .long x), (3, .ref hs9), (4, .int (qb true))] := hl
  refine lv_lload_n (pc := 0) hx hb dX2_rounds_0 rfl (lv_at hl 1 rfl) ?_
  refine lv_bipush (pc := 1) (v := nI 32) hx hb dX2_rounds_1 (by decide +kernel) ?_
  refine lv_lushr (pc := 3) (v := (lus x 32)) hx hb dX2_rounds_3 rfl ?_
  refine lv_l2i (pc := 4) (v := (lus x 32).toInt32) hx hb dX2_rounds_4 rfl ?_
  refine lv_istore (pc := 5) (lv' := [(5, .int ((lus x 32).toInt32)), (0, .ref ha), (1, .long x), (3, .ref hs9), (4, .int (qb true))]) hx hb dX2_rounds_5 hl (by decide) rfl (fun ls hl => ?_)
  refine lv_lload_n (pc := 7) hx hb dX2_rounds_7 rfl (lv_at hl 2 rfl) ?_
  refine lv_l2i (pc := 8) (v := x.toInt32) hx hb dX2_rounds_8 rfl ?_
  refine lv_istore (pc := 9) (lv' := [(6, .int x.toInt32), (5, .int ((lus x 32).toInt32)), (0, .ref ha), (1, .long x), (3, .ref hs9), (4, .int (qb true))]) hx hb dX2_rounds_9 hl (by decide) rfl (fun ls hl => ?_)
  refine lv_iconst (pc := 11) (v := nI 0) hx hb dX2_rounds_11 (by decide +kernel) ?_
  refine lv_istore (pc := 12) (lv' := [(7, .int (nI 0)), (6, .int x.toInt32), (5, .int ((lus x 32).toInt32)), (0, .ref ha), (1, .long x), (3, .ref hs9), (4, .int (qb true))]) hx hb dX2_rounds_12 hl (by decide) rfl (fun ls hl => ?_)
  have LP14 : ∀ (nn14 : Nat) (i : Nat) (lf : Int32) (rt : Int32), (i ≤ 16) → (lf = rdL spb fs true x i) → (rt = rdL spb fs true x (i + 1)) → (16 - i < nn14) → ∀ (H : Heap) (locs : List Loc), va_P D vwCl [(ha, oD b1 b2 b3 b4 b5 tri), (b3, aI ta 512 spb), (hs9, aJ ta 16 fs)] H → va_D A [(ha, oD b1 b2 b3 b4 b5 tri), (b3, aI ta 512 spb), (hs9, aJ ta 16 fs)] → va_S A ss.heap H locs → ∀ ls : Array Slot, lv_has ls 15 [(7, .int (nI i)), (6, .int rt), (5, .int lf), (0, .ref ha), (1, .long x), (3, .ref hs9), (4, .int (qb true))] → W pp ll ee ({ frames := 0, cells := 0, slots := 0, locals := 0 } : Room) ss mm (([.ref ha, .long x, .ref hs9, .int (qb true)] : List Value).toArray) below meth kc H locs 0 0 Q (F0 mm 14 ls []) := by
    intro nn14
    induction nn14 with
    | zero => intro i lf rt hii hlf hrt hmu; exact absurd hmu (Nat.not_lt_zero _)
    | succ nn14 ih14 =>
      intro i lf rt hii hlf hrt hmu14 H locs hP hD hS ls hl
      refine lv_iload (pc := 14) hx hb dX2_rounds_14 (lv_at hl 0 rfl) ?_
      refine lv_bipush (pc := 16) (v := nI 16) hx hb dX2_rounds_16 (by decide +kernel) ?_
      refine lv_icmp_ge (pc := 18) (tgt := 154) hx hb dX2_rounds_18 (by decide) (fun c_1 => ?_) (fun c_1 => ?_)
      · skip
        rw [nI_leI (by omega) (by omega)] at c_1
        refine lv_iload (pc := 154) hx hb dX2_rounds_154 (lv_at hl 1 rfl) ?_
        refine lv_i2l (pc := 156) (v := rt.toInt64) hx hb dX2_rounds_156 rfl ?_
        refine lv_ldc2 (pc := 157) (v := (4294967295)) hx hb hown (hts _ tw_580) dX2_rounds_157 ?_
        refine lv_land (pc := 160) hx hb dX2_rounds_160 ?_
        refine lv_bipush (pc := 161) (v := nI 32) hx hb dX2_rounds_161 (by decide +kernel) ?_
        refine lv_lshl (pc := 163) (v := (lsl (rt.toInt64 &&& 4294967295) 32)) hx hb dX2_rounds_163 rfl ?_
        refine lv_iload (pc := 164) hx hb dX2_rounds_164 (lv_at hl 2 rfl) ?_
        refine lv_i2l (pc := 166) (v := lf.toInt64) hx hb dX2_rounds_166 rfl ?_
        refine lv_ldc2 (pc := 167) (v := (4294967295)) hx hb hown (hts _ tw_580) dX2_rounds_167 ?_
        refine lv_land (pc := 170) hx hb dX2_rounds_170 ?_
        refine lv_lor (pc := 171) hx hb dX2_rounds_171 ?_
        refine q_topl (y := rdR spb fs true x) (by rw [hlf, hrt, show i = 16 by omega]; rfl) ?_
        have hq_2 : True := trivial
        exact hret () _ _ _ _ dX2_rounds_172 hq_2 (hP.sub [0, 1, 2] rfl) (hD.sub [0, 1, 2] (by decide) rfl) hS
      · skip
        rw [nI_leI (by omega) (by omega)] at c_1
        refine lv_aload_n (pc := 21) hx hb dX2_rounds_21 rfl (lv_at hl 5 rfl) ?_
        refine lv_iload (pc := 22) hx hb dX2_rounds_22 (lv_at hl 6 rfl) ?_
        refine lv_if_eq (pc := 24) (tgt := 35) hx hb dX2_rounds_24 (by decide) (fun c_3 => ?_) (fun _ => ?_)
        · skip
          exact absurd c_3 (by decide)
        refine lv_bipush (pc := 27) (v := nI 15) hx hb dX2_rounds_27 (by decide +kernel) ?_
        refine lv_iload (pc := 29) hx hb dX2_rounds_29 (lv_at hl 0 rfl) ?_
        refine lv_isub (pc := 31) hx hb dX2_rounds_31 ?_
        refine q_top (y := nI (15 - i)) (pk_sub (a := 15) (b := i) (by omega)) ?_
        refine lv_goto (pc := 32) (tgt := 37) hx hb dX2_rounds_32 (by decide) ?_
        refine lv_bipush (pc := 37) (v := nI 15) hx hb dX2_rounds_37 (by decide +kernel) ?_
        refine lv_iand (pc := 39) hx hb dX2_rounds_39 ?_
        refine q_top (y := nI ((15 - i) % 16)) (q_andN (k := 4) (p := 16) (by decide) (by omega)) ?_
        refine q_lald (pc := 40) hx hb hK hP 2 1 rfl rfl (k := (15 - i) % 16) (v := fs ((15 - i) % 16)) rfl (by omega) (by omega) rfl dX2_rounds_40 ?_
        refine lv_lstore (pc := 41) (lv' := [(8, .long (fs ((15 - i) % 16))), (7, .int (nI i)), (6, .int rt), (5, .int lf), (0, .ref ha), (1, .long x), (3, .ref hs9), (4, .int (qb true))]) hx hb dX2_rounds_41 hl (by decide) rfl (fun ls hl => ?_)
        refine lv_iload (pc := 43) hx hb dX2_rounds_43 (lv_at hl 2 rfl) ?_
        refine lv_i2l (pc := 45) (v := rt.toInt64) hx hb dX2_rounds_45 rfl ?_
        refine lv_lconst (pc := 46) (v := 1) hx hb dX2_rounds_46 (by decide +kernel) ?_
        refine lv_land (pc := 47) hx hb dX2_rounds_47 ?_
        refine lv_bipush (pc := 48) (v := nI 33) hx hb dX2_rounds_48 (by decide +kernel) ?_
        refine lv_lshl (pc := 50) (v := (lsl (rt.toInt64 &&& 1) 33)) hx hb dX2_rounds_50 rfl ?_
        refine lv_iload (pc := 51) hx hb dX2_rounds_51 (lv_at hl 2 rfl) ?_
        refine lv_i2l (pc := 53) (v := rt.toInt64) hx hb dX2_rounds_53 rfl ?_
        refine lv_ldc2 (pc := 54) (v := (4294967295)) hx hb hown (hts _ tw_580) dX2_rounds_54 ?_
        refine lv_land (pc := 57) hx hb dX2_rounds_57 ?_
        refine lv_iconst (pc := 58) (v := nI 1) hx hb dX2_rounds_58 (by decide +kernel) ?_
        refine lv_lshl (pc := 59) (v := (lsl (rt.toInt64 &&& 4294967295) 1)) hx hb dX2_rounds_59 rfl ?_
        refine lv_lor (pc := 60) hx hb dX2_rounds_60 ?_
        refine lv_iload (pc := 61) hx hb dX2_rounds_61 (lv_at hl 2 rfl) ?_
        refine lv_bipush (pc := 63) (v := nI 31) hx hb dX2_rounds_63 (by decide +kernel) ?_
        refine lv_iushr (pc := 65) (v := ush rt 31) hx hb dX2_rounds_65 rfl ?_
        refine lv_i2l (pc := 66) (v := (ush rt 31).toInt64) hx hb dX2_rounds_66 rfl ?_
        refine lv_lor (pc := 67) hx hb dX2_rounds_67 ?_
        refine lv_lstore (pc := 68) (lv' := [(10, .long (((lsl (rt.toInt64 &&& 1) 33) ||| (lsl (rt.toInt64 &&& 4294967295) 1)) ||| ((ush rt 31).toInt64))), (8, .long (fs ((15 - i) % 16))), (7, .int (nI i)), (6, .int rt), (5, .int lf), (0, .ref ha), (1, .long x), (3, .ref hs9), (4, .int (qb true))]) hx hb dX2_rounds_68 hl (by decide) rfl (fun ls hl => ?_)
        refine lv_iload (pc := 70) hx hb dX2_rounds_70 (lv_at hl 4 rfl) ?_
        refine lv_istore (pc := 72) (lv' := [(12, .int lf), (10, .long (((lsl (rt.toInt64 &&& 1) 33) ||| (lsl (rt.toInt64 &&& 4294967295) 1)) ||| ((ush rt 31).toInt64))), (8, .long (fs ((15 - i) % 16))), (7, .int (nI i)), (6, .int rt), (5, .int lf), (0, .ref ha), (1, .long x), (3, .ref hs9), (4, .int (qb true))]) hx hb dX2_rounds_72 hl (by decide) rfl (fun ls hl => ?_)
        refine lv_iconst (pc := 74) (v := nI 0) hx hb dX2_rounds_74 (by decide +kernel) ?_
        refine lv_istore (pc := 75) (lv' := [(13, .int (nI 0)), (12, .int lf), (10, .long (((lsl (rt.toInt64 &&& 1) 33) ||| (lsl (rt.toInt64 &&& 4294967295) 1)) ||| ((ush rt 31).toInt64))), (8, .long (fs ((15 - i) % 16))), (7, .int (nI i)), (6, .int rt), (5, .int lf), (0, .ref ha), (1, .long x), (3, .ref hs9), (4, .int (qb true))]) hx hb dX2_rounds_75 hl (by decide) rfl (fun ls hl => ?_)
        have LP77 : ∀ (nn77 : Nat) (b : Nat) (nx : Int32), (b ≤ 8) → (nx = nextL spb lf rt (fs ((15 - i) % 16)) b) → (8 - b < nn77) → ∀ (H : Heap) (locs : List Loc), va_P D vwCl [(ha, oD b1 b2 b3 b4 b5 tri), (b3, aI ta 512 spb), (hs9, aJ ta 16 fs)] H → va_D A [(ha, oD b1 b2 b3 b4 b5 tri), (b3, aI ta 512 spb), (hs9, aJ ta 16 fs)] → va_S A ss.heap H locs → ∀ ls : Array Slot, lv_has ls 15 [(13, .int (nI b)), (12, .int nx), (10, .long (((lsl (rt.toInt64 &&& 1) 33) ||| (lsl (rt.toInt64 &&& 4294967295) 1)) ||| ((ush rt 31).toInt64))), (8, .long (fs ((15 - i) % 16))), (7, .int (nI i)), (6, .int rt), (5, .int lf), (0, .ref ha), (1, .long x), (3, .ref hs9), (4, .int (qb true))] → W pp ll ee ({ frames := 0, cells := 0, slots := 0, locals := 0 } : Room) ss mm (([.ref ha, .long x, .ref hs9, .int (qb true)] : List Value).toArray) below meth kc H locs 0 0 Q (F0 mm 77 ls []) := by
          intro nn77
          induction nn77 with
          | zero => intro b nx hbb hnx hmu; exact absurd hmu (Nat.not_lt_zero _)
          | succ nn77 ih77 =>
            intro b nx hbb hnx hmu77 H locs hP hD hS ls hl
            refine lv_iload (pc := 77) hx hb dX2_rounds_77 (lv_at hl 0 rfl) ?_
            refine lv_bipush (pc := 79) (v := nI 8) hx hb dX2_rounds_79 (by decide +kernel) ?_
            refine lv_icmp_ge (pc := 81) (tgt := 140) hx hb dX2_rounds_81 (by decide) (fun c_4 => ?_) (fun c_4 => ?_)
            · skip
              rw [nI_leI (by omega) (by omega)] at c_4
              refine lv_iload (pc := 140) hx hb dX2_rounds_140 (lv_at hl 5 rfl) ?_
              refine lv_istore (pc := 142) (lv' := [(5, .int rt), (13, .int (nI b)), (12, .int nx), (10, .long (((lsl (rt.toInt64 &&& 1) 33) ||| (lsl (rt.toInt64 &&& 4294967295) 1)) ||| ((ush rt 31).toInt64))), (8, .long (fs ((15 - i) % 16))), (7, .int (nI i)), (6, .int rt), (0, .ref ha), (1, .long x), (3, .ref hs9), (4, .int (qb true))]) hx hb dX2_rounds_142 hl (by decide) rfl (fun ls hl => ?_)
              refine lv_iload (pc := 144) hx hb dX2_rounds_144 (lv_at hl 2 rfl) ?_
              refine lv_istore (pc := 146) (lv' := [(6, .int nx), (5, .int rt), (13, .int (nI b)), (12, .int nx), (10, .long (((lsl (rt.toInt64 &&& 1) 33) ||| (lsl (rt.toInt64 &&& 4294967295) 1)) ||| ((ush rt 31).toInt64))), (8, .long (fs ((15 - i) % 16))), (7, .int (nI i)), (0, .ref ha), (1, .long x), (3, .ref hs9), (4, .int (qb true))]) hx hb dX2_rounds_146 hl (by decide) rfl (fun ls hl => ?_)
              refine lv_iinc (pc := 148) (v := nI (i + 1)) (lv' := [(7, .int (nI (i + 1))), (6, .int nx), (5, .int rt), (13, .int (nI b)), (12, .int nx), (10, .long (((lsl (rt.toInt64 &&& 1) 33) ||| (lsl (rt.toInt64 &&& 4294967295) 1)) ||| ((ush rt 31).toInt64))), (8, .long (fs ((15 - i) % 16))), (0, .ref ha), (1, .long x), (3, .ref hs9), (4, .int (qb true))]) hx hb dX2_rounds_148 hl (k := 6) rfl (by first | exact nI_add i 1 | rfl) (by decide) rfl (fun ls hl => ?_)
              refine lv_goto (pc := 151) (tgt := 14) hx hb dX2_rounds_151 (by decide) ?_
              exact ih14 (i + 1) rt nx (by omega) (hrt) (by rw [hnx, show b = 8 by omega, hlf, hrt]; rfl) (by omega) _ _ (hP.sub [0, 1, 2] rfl) (hD.sub [0, 1, 2] (by decide) rfl) hS ls (lv_sub hl [0, 1, 2, 7, 8, 9, 10] rfl)
            · skip
              rw [nI_leI (by omega) (by omega)] at c_4
              refine lv_lload (pc := 84) hx hb dX2_rounds_84 (lv_at hl 2 rfl) ?_
              refine lv_bipush (pc := 86) (v := nI 28) hx hb dX2_rounds_86 (by decide +kernel) ?_
              refine lv_iconst (pc := 88) (v := nI 4) hx hb dX2_rounds_88 (by decide +kernel) ?_
              refine lv_iload (pc := 89) hx hb dX2_rounds_89 (lv_at hl 0 rfl) ?_
              refine lv_imul (pc := 91) hx hb dX2_rounds_91 ?_
              refine q_top (y := nI (4 * b)) (pk_mul 4 b) ?_
              refine lv_isub (pc := 92) hx hb dX2_rounds_92 ?_
              refine q_top (y := nI (28 - (4 * b))) (pk_sub (a := 28) (b := 4 * b) (by omega)) ?_
              refine lv_lushr (pc := 93) (v := (lus (((lsl (rt.toInt64 &&& 1) 33) ||| (lsl (rt.toInt64 &&& 4294967295) 1)) ||| ((ush rt 31).toInt64)) (28 - (4 * b)))) hx hb dX2_rounds_93 rfl ?_
              refine lv_lload (pc := 94) hx hb dX2_rounds_94 (lv_at hl 3 rfl) ?_
              refine lv_bipush (pc := 96) (v := nI 42) hx hb dX2_rounds_96 (by decide +kernel) ?_
              refine lv_bipush (pc := 98) (v := nI 6) hx hb dX2_rounds_98 (by decide +kernel) ?_
              refine lv_iload (pc := 100) hx hb dX2_rounds_100 (lv_at hl 0 rfl) ?_
              refine lv_imul (pc := 102) hx hb dX2_rounds_102 ?_
              refine q_top (y := nI (6 * b)) (pk_mul 6 b) ?_
              refine lv_isub (pc := 103) hx hb dX2_rounds_103 ?_
              refine q_top (y := nI (42 - (6 * b))) (pk_sub (a := 42) (b := 6 * b) (by omega)) ?_
              refine lv_lushr (pc := 104) (v := (lus (fs ((15 - i) % 16)) (42 - (6 * b)))) hx hb dX2_rounds_104 rfl ?_
              refine lv_lxor (pc := 105) hx hb dX2_rounds_105 ?_
              refine lv_l2i (pc := 106) (v := ((lus (((lsl (rt.toInt64 &&& 1) 33) ||| (lsl (rt.toInt64 &&& 4294967295) 1)) ||| ((ush rt 31).toInt64)) (28 - (4 * b))) ^^^ (lus (fs ((15 - i) % 16)) (42 - (6 * b)))).toInt32) hx hb dX2_rounds_106 rfl ?_
              refine lv_bipush (pc := 107) (v := nI 63) hx hb dX2_rounds_107 (by decide +kernel) ?_
              refine lv_iand (pc := 109) hx hb dX2_rounds_109 ?_
              refine q_top (y := nI ((((lus (((lsl (rt.toInt64 &&& 1) 33) ||| (lsl (rt.toInt64 &&& 4294967295) 1)) ||| ((ush rt 31).toInt64)) (28 - (4 * b))) ^^^ (lus (fs ((15 - i) % 16)) (42 - (6 * b)))).toInt32).toBitVec.toNat % 64)) (q_andG _ (k := 6) (p := 64) (by decide)) ?_
              refine lv_istore (pc := 110) (lv' := [(14, .int (nI ((((lus (((lsl (rt.toInt64 &&& 1) 33) ||| (lsl (rt.toInt64 &&& 4294967295) 1)) ||| ((ush rt 31).toInt64)) (28 - (4 * b))) ^^^ (lus (fs ((15 - i) % 16)) (42 - (6 * b)))).toInt32).toBitVec.toNat % 64))), (13, .int (nI b)), (12, .int nx), (10, .long (((lsl (rt.toInt64 &&& 1) 33) ||| (lsl (rt.toInt64 &&& 4294967295) 1)) ||| ((ush rt 31).toInt64))), (8, .long (fs ((15 - i) % 16))), (7, .int (nI i)), (6, .int rt), (5, .int lf), (0, .ref ha), (1, .long x), (3, .ref hs9), (4, .int (qb true))]) hx hb dX2_rounds_110 hl (by decide) rfl (fun ls hl => ?_)
              refine lv_iload (pc := 112) hx hb dX2_rounds_112 (lv_at hl 2 rfl) ?_
              refine lv_aload_n (pc := 114) hx hb dX2_rounds_114 rfl (lv_at hl 8 rfl) ?_
              refine va_get (pc := 115) (D := D) (ci := 1) (v := .ref b3) (C := RX2) (T := TX2) (N := 6) hx hb hts iu2 hown hK hP 0 rfl rfl 2 (by decide) (hts _ tw_245) (fun _ h9 => h9) rfl dX2_rounds_115 ?_
              refine lv_iload (pc := 118) hx hb dX2_rounds_118 (lv_at hl 1 rfl) ?_
              refine lv_bipush (pc := 120) (v := nI 6) hx hb dX2_rounds_120 (by decide +kernel) ?_
              refine lv_ishl (pc := 122) hx hb dX2_rounds_122 ?_
              refine q_top (y := nI (b * 64)) (q_shl (p := 64) (by decide) (by omega)) ?_
              refine lv_iload (pc := 123) hx hb dX2_rounds_123 (lv_at hl 0 rfl) ?_
              refine lv_ior (pc := 125) hx hb dX2_rounds_125 ?_
              refine q_top (y := nI ((b * 64) ||| ((((lus (((lsl (rt.toInt64 &&& 1) 33) ||| (lsl (rt.toInt64 &&& 4294967295) 1)) ||| ((ush rt 31).toInt64)) (28 - (4 * b))) ^^^ (lus (fs ((15 - i) % 16)) (42 - (6 * b)))).toInt32).toBitVec.toNat % 64))) (q_orN _ _) ?_
              refine lv_sipush (pc := 126) (v := nI 511) hx hb dX2_rounds_126 (by decide +kernel) ?_
              refine lv_iand (pc := 129) hx hb dX2_rounds_129 ?_
              refine q_top (y := nI (((b * 64) ||| ((((lus (((lsl (rt.toInt64 &&& 1) 33) ||| (lsl (rt.toInt64 &&& 4294967295) 1)) ||| ((ush rt 31).toInt64)) (28 - (4 * b))) ^^^ (lus (fs ((15 - i) % 16)) (42 - (6 * b)))).toInt32).toBitVec.toNat % 64)) % 512)) (q_andM (k := 9) (p := 512) (by decide)) ?_
              refine q_iald (pc := 130) hx hb hK hP 1 0 rfl rfl (k := ((b * 64) ||| ((((lus (((lsl (rt.toInt64 &&& 1) 33) ||| (lsl (rt.toInt64 &&& 4294967295) 1)) ||| ((ush rt 31).toInt64)) (28 - (4 * b))) ^^^ (lus (fs ((15 - i) % 16)) (42 - (6 * b)))).toInt32).toBitVec.toNat % 64)) % 512) (v := spb (((b * 64) ||| ((((lus (((lsl (rt.toInt64 &&& 1) 33) ||| (lsl (rt.toInt64 &&& 4294967295) 1)) ||| ((ush rt 31).toInt64)) (28 - (4 * b))) ^^^ (lus (fs ((15 - i) % 16)) (42 - (6 * b)))).toInt32).toBitVec.toNat % 64)) % 512)) rfl (by omega) (by omega) rfl dX2_rounds_130 ?_
              refine lv_ixor (pc := 131) hx hb dX2_rounds_131 ?_
              refine lv_istore (pc := 132) (lv' := [(12, .int (nx ^^^ (spb (((b * 64) ||| ((((lus (((lsl (rt.toInt64 &&& 1) 33) ||| (lsl (rt.toInt64 &&& 4294967295) 1)) ||| ((ush rt 31).toInt64)) (28 - (4 * b))) ^^^ (lus (fs ((15 - i) % 16)) (42 - (6 * b)))).toInt32).toBitVec.toNat % 64)) % 512)))), (14, .int (nI ((((lus (((lsl (rt.toInt64 &&& 1) 33) ||| (lsl (rt.toInt64 &&& 4294967295) 1)) ||| ((ush rt 31).toInt64)) (28 - (4 * b))) ^^^ (lus (fs ((15 - i) % 16)) (42 - (6 * b)))).toInt32).toBitVec.toNat % 64))), (13, .int (nI b)), (10, .long (((lsl (rt.toInt64 &&& 1) 33) ||| (lsl (rt.toInt64 &&& 4294967295) 1)) ||| ((ush rt 31).toInt64))), (8, .long (fs ((15 - i) % 16))), (7, .int (nI i)), (6, .int rt), (5, .int lf), (0, .ref ha), (1, .long x), (3, .ref hs9), (4, .int (qb true))]) hx hb dX2_rounds_132 hl (by decide) rfl (fun ls hl => ?_)
              refine lv_iinc (pc := 134) (v := nI (b + 1)) (lv' := [(13, .int (nI (b + 1))), (12, .int (nx ^^^ (spb (((b * 64) ||| ((((lus (((lsl (rt.toInt64 &&& 1) 33) ||| (lsl (rt.toInt64 &&& 4294967295) 1)) ||| ((ush rt 31).toInt64)) (28 - (4 * b))) ^^^ (lus (fs ((15 - i) % 16)) (42 - (6 * b)))).toInt32).toBitVec.toNat % 64)) % 512)))), (14, .int (nI ((((lus (((lsl (rt.toInt64 &&& 1) 33) ||| (lsl (rt.toInt64 &&& 4294967295) 1)) ||| ((ush rt 31).toInt64)) (28 - (4 * b))) ^^^ (lus (fs ((15 - i) % 16)) (42 - (6 * b)))).toInt32).toBitVec.toNat % 64))), (10, .long (((lsl (rt.toInt64 &&& 1) 33) ||| (lsl (rt.toInt64 &&& 4294967295) 1)) ||| ((ush rt 31).toInt64))), (8, .long (fs ((15 - i) % 16))), (7, .int (nI i)), (6, .int rt), (5, .int lf), (0, .ref ha), (1, .long x), (3, .ref hs9), (4, .int (qb true))]) hx hb dX2_rounds_134 hl (k := 2) rfl (by first | exact nI_add b 1 | rfl) (by decide) rfl (fun ls hl => ?_)
              refine lv_goto (pc := 137) (tgt := 77) hx hb dX2_rounds_137 (by decide) ?_
              exact ih77 (b + 1) (nx ^^^ (spb (((b * 64) ||| ((((lus (((lsl (rt.toInt64 &&& 1) 33) ||| (lsl (rt.toInt64 &&& 4294967295) 1)) ||| ((ush rt 31).toInt64)) (28 - (4 * b))) ^^^ (lus (fs ((15 - i) % 16)) (42 - (6 * b)))).toInt32).toBitVec.toNat % 64)) % 512))) (by omega) (by rw [hnx]; rfl) (by omega) _ _ (hP.sub [0, 1, 2] rfl) (hD.sub [0, 1, 2] (by decide) rfl) hS ls (lv_sub hl [0, 1, 3, 4, 5, 6, 7, 8, 9, 10, 11] rfl)
        exact LP77 _ 0 lf (by omega) (rfl) (Nat.lt_succ_self _) _ _ (hP.sub [0, 1, 2] rfl) (hD.sub [0, 1, 2] (by decide) rfl) hS ls (lv_sub hl [0, 1, 2, 3, 4, 5, 6, 7, 8, 9, 10] rfl)
  exact LP14 _ 0 ((lus x 32).toInt32) x.toInt32 (by omega) (rfl) (rfl) (Nat.lt_succ_self _) _ _ (hP.sub [0, 1, 2] rfl) (hD.sub [0, 1, 2] (by decide) rfl) hS ls (lv_sub hl [0, 1, 2, 3, 4, 5, 6] rfl)
theorem hdX2_reorder : yX2_reorder.cls ≠ "java/lang/invoke/MethodHandle" ∧ yX2_reorder.cls ≠ "java/lang/invoke/VarHandle" ∧ (parseMethodDescriptor yX2_reorder.desc).map (fun d => d.parameters.length) = some 2 := ⟨by decide +kernel, by decide +kernel, by decide +kernel⟩
theorem dX2_reorder_0 : decode cX2_reorder 0 = .ok (.lload_n 0, 1) := by decide +kernel
theorem dX2_reorder_1 : decode cX2_reorder 1 = .ok (.lstore_n 3, 1) := by decide +kernel
theorem dX2_reorder_2 : decode cX2_reorder 2 = .ok (.iconst 0, 1) := by decide +kernel
theorem dX2_reorder_3 : decode cX2_reorder 3 = .ok (.istore 5, 2) := by decide +kernel
theorem dX2_reorder_5 : decode cX2_reorder 5 = .ok (.iload 5, 2) := by decide +kernel
theorem dX2_reorder_7 : decode cX2_reorder 7 = .ok (.getstatic 75, 3) := by decide +kernel
theorem dX2_reorder_10 : decode cX2_reorder 10 = .ok (.arraylength, 1) := by decide +kernel
theorem dX2_reorder_11 : decode cX2_reorder 11 = .ok (.if_icmp .ge 63, 3) := by decide +kernel
theorem dX2_reorder_14 : decode cX2_reorder 14 = .ok (.iload_n 2, 1) := by decide +kernel
theorem dX2_reorder_15 : decode cX2_reorder 15 = .ok (.ifCond .eq 15, 3) := by decide +kernel
theorem dX2_reorder_18 : decode cX2_reorder 18 = .ok (.getstatic 75, 3) := by decide +kernel
theorem dX2_reorder_21 : decode cX2_reorder 21 = .ok (.arraylength, 1) := by decide +kernel
theorem dX2_reorder_22 : decode cX2_reorder 22 = .ok (.iconst 1, 1) := by decide +kernel
theorem dX2_reorder_23 : decode cX2_reorder 23 = .ok (.isub, 1) := by decide +kernel
theorem dX2_reorder_24 : decode cX2_reorder 24 = .ok (.iload 5, 2) := by decide +kernel
theorem dX2_reorder_26 : decode cX2_reorder 26 = .ok (.isub, 1) := by decide +kernel
theorem dX2_reorder_27 : decode cX2_reorder 27 = .ok (.goto 5, 3) := by decide +kernel
theorem dX2_reorder_30 : decode cX2_reorder 30 = .ok (.iload 5, 2) := by decide +kernel
theorem dX2_reorder_32 : decode cX2_reorder 32 = .ok (.istore 6, 2) := by decide +kernel
theorem dX2_reorder_34 : decode cX2_reorder 34 = .ok (.getstatic 75, 3) := by decide +kernel
theorem dX2_reorder_37 : decode cX2_reorder 37 = .ok (.iload 6, 2) := by decide +kernel
theorem dX2_reorder_39 : decode cX2_reorder 39 = .ok (.iaload, 1) := by decide +kernel
theorem dX2_reorder_40 : decode cX2_reorder 40 = .ok (.istore 7, 2) := by decide +kernel
theorem dX2_reorder_42 : decode cX2_reorder 42 = .ok (.lload_n 3, 1) := by decide +kernel
theorem dX2_reorder_43 : decode cX2_reorder 43 = .ok (.iload 7, 2) := by decide +kernel
theorem dX2_reorder_45 : decode cX2_reorder 45 = .ok (.lushr, 1) := by decide +kernel
theorem dX2_reorder_46 : decode cX2_reorder 46 = .ok (.lload_n 3, 1) := by decide +kernel
theorem dX2_reorder_47 : decode cX2_reorder 47 = .ok (.lxor, 1) := by decide +kernel
theorem dX2_reorder_48 : decode cX2_reorder 48 = .ok (.getstatic 78, 3) := by decide +kernel
theorem dX2_reorder_51 : decode cX2_reorder 51 = .ok (.iload 6, 2) := by decide +kernel
theorem dX2_reorder_53 : decode cX2_reorder 53 = .ok (.laload, 1) := by decide +kernel
theorem dX2_reorder_54 : decode cX2_reorder 54 = .ok (.land, 1) := by decide +kernel
theorem dX2_reorder_55 : decode cX2_reorder 55 = .ok (.lstore 8, 2) := by decide +kernel
theorem dX2_reorder_57 : decode cX2_reorder 57 = .ok (.lload_n 3, 1) := by decide +kernel
theorem dX2_reorder_58 : decode cX2_reorder 58 = .ok (.lload 8, 2) := by decide +kernel
theorem dX2_reorder_60 : decode cX2_reorder 60 = .ok (.lload 8, 2) := by decide +kernel
theorem dX2_reorder_62 : decode cX2_reorder 62 = .ok (.iload 7, 2) := by decide +kernel
theorem dX2_reorder_64 : decode cX2_reorder 64 = .ok (.lshl, 1) := by decide +kernel
theorem dX2_reorder_65 : decode cX2_reorder 65 = .ok (.lxor, 1) := by decide +kernel
theorem dX2_reorder_66 : decode cX2_reorder 66 = .ok (.lxor, 1) := by decide +kernel
theorem dX2_reorder_67 : decode cX2_reorder 67 = .ok (.lstore_n 3, 1) := by decide +kernel
theorem dX2_reorder_68 : decode cX2_reorder 68 = .ok (.iinc 5 1, 3) := by decide +kernel
theorem dX2_reorder_71 : decode cX2_reorder 71 = .ok (.goto (-66), 3) := by decide +kernel
theorem dX2_reorder_74 : decode cX2_reorder 74 = .ok (.lload_n 3, 1) := by decide +kernel
theorem dX2_reorder_75 : decode cX2_reorder 75 = .ok (.lreturn, 1) := by decide +kernel
set_option maxHeartbeats 4000000 in
set_option maxRecDepth 100000 in
theorem ct_X2_reorder_f (ll : Launch) (D : va_G) (ta : Nat → ClassId) (gs : Nat → Nat) (x : Int64)  (sz : Nat) : CT ll yX2_reorder cX2_reorder 10 (some .long) ({ frames := 0, cells := 0, slots := 0, locals := 0 } : Room) D ta ((GC gs)) [.long x, .int (qb false)] [] sz (S := Unit) (fun u => some (.long (roS x false 5))) (fun u => True) (fun u => []) 0 0 := by
  refine CT.of_l (r := fun u => roS x false 5) rfl (by decide) (Nat.le_of_ble_eq_true rfl) ?_
  have hGok := GC_ok gs
  intro pp ee ss mm below meth kc A Q hx hb hml hown hin hts hK hA hsz hG hret H locs hP hD hS ls hl
  have hl : lv_has ls 10 [(0, .long x), (2, .int (qb false))] := hl
  refine lv_lload_n (pc := 0) hx hb dX2_reorder_0 rfl (lv_at hl 0 rfl) ?_
  refine lv_lstore_n (pc := 1) (lv' := [(3, .long x), (0, .long x), (2, .int (qb false))]) hx hb dX2_reorder_1 rfl hl (by decide) rfl (fun ls hl => ?_)
  refine lv_iconst (pc := 2) (v := nI 0) hx hb dX2_reorder_2 (by decide +kernel) ?_
  refine lv_istore (pc := 3) (lv' := [(5, .int (nI 0)), (3, .long x), (0, .long x), (2, .int (qb false))]) hx hb dX2_reorder_3 hl (by decide) rfl (fun ls hl => ?_)
  have LP5 : ∀ (nn5 : Nat) (i : Nat) (y : Int64), (i ≤ 5) → (y = roS x false i) → (5 - i < nn5) → ∀ (H : Heap) (locs : List Loc), va_P D vwCl [] H → va_D A [] → va_S A ss.heap H locs → ∀ ls : Array Slot, lv_has ls 10 [(5, .int (nI i)), (3, .long y), (0, .long x), (2, .int (qb false))] → W pp ll ee ({ frames := 0, cells := 0, slots := 0, locals := 0 } : Room) ss mm (([.long x, .int (qb false)] : List Value).toArray) below meth kc H locs 0 0 Q (F0 mm 5 ls []) := by
    intro nn5
    induction nn5 with
    | zero => intro i y hii hY hmu; exact absurd hmu (Nat.not_lt_zero _)
    | succ nn5 ih5 =>
      intro i y hii hY hmu5 H locs hP hD hS ls hl
      refine lv_iload (pc := 5) hx hb dX2_reorder_5 (lv_at hl 0 rfl) ?_
      refine va_gets (pc := 7) hx hb (v := .ref (gs 1)) (GC_z1 hG) hS hown (hts _ tw_572) (fun _ h9 => h9) dX2_reorder_7 ?_
      refine va_tlen (pc := 10) hx hb (GC_t1 hG) hS (v := nI 5) rfl dX2_reorder_10 ?_
      refine lv_icmp_ge (pc := 11) (tgt := 74) hx hb dX2_reorder_11 (by decide) (fun c_1 => ?_) (fun c_1 => ?_)
      · skip
        rw [nI_leI (by omega) (by omega)] at c_1
        refine lv_lload_n (pc := 74) hx hb dX2_reorder_74 rfl (lv_at hl 1 rfl) ?_
        refine q_topl (y := roS x false 5) (by rw [hY, show i = 5 by omega]) ?_
        have hq_2 : True := trivial
        exact hret () _ _ _ _ dX2_reorder_75 hq_2 (hP.sub [] rfl) (hD.sub [] (by decide) rfl) hS
      · skip
        rw [nI_leI (by omega) (by omega)] at c_1
        refine lv_iload_n (pc := 14) hx hb dX2_reorder_14 rfl (lv_at hl 3 rfl) ?_
        refine lv_if_eq (pc := 15) (tgt := 30) hx hb dX2_reorder_15 (by decide) (fun _ => ?_) (fun c_3 => ?_)
        rotate_left
        · skip
          exact absurd rfl c_3
        refine lv_iload (pc := 30) hx hb dX2_reorder_30 (lv_at hl 0 rfl) ?_
        refine lv_istore (pc := 32) (lv' := [(6, .int (nI i)), (5, .int (nI i)), (3, .long y), (0, .long x), (2, .int (qb false))]) hx hb dX2_reorder_32 hl (by decide) rfl (fun ls hl => ?_)
        refine va_gets (pc := 34) hx hb (v := .ref (gs 1)) (GC_z1 hG) hS hown (hts _ tw_572) (fun _ h9 => h9) dX2_reorder_34 ?_
        refine lv_iload (pc := 37) hx hb dX2_reorder_37 (lv_at hl 0 rfl) ?_
        refine q_ti (pc := 39) hx hb (GC_t1 hG) hS (k := i) rfl (by omega) (by decide) dX2_reorder_39 ?_
        refine lv_istore (pc := 40) (lv' := [(7, .int (nI (tSWP i))), (6, .int (nI i)), (5, .int (nI i)), (3, .long y), (0, .long x), (2, .int (qb false))]) hx hb dX2_reorder_40 hl (by decide) rfl (fun ls hl => ?_)
        have hbd := tSWP_b (k := i) (by omega)
        refine lv_lload_n (pc := 42) hx hb dX2_reorder_42 rfl (lv_at hl 3 rfl) ?_
        refine lv_iload (pc := 43) hx hb dX2_reorder_43 (lv_at hl 0 rfl) ?_
        refine lv_lushr (pc := 45) (v := (lus y (tSWP i))) hx hb dX2_reorder_45 rfl ?_
        refine lv_lload_n (pc := 46) hx hb dX2_reorder_46 rfl (lv_at hl 3 rfl) ?_
        refine lv_lxor (pc := 47) hx hb dX2_reorder_47 ?_
        refine va_gets (pc := 48) hx hb (v := .ref (gs 2)) (GC_z2 hG) hS hown (hts _ tw_574) (fun _ h9 => h9) dX2_reorder_48 ?_
        refine lv_iload (pc := 51) hx hb dX2_reorder_51 (lv_at hl 1 rfl) ?_
        refine q_tl (pc := 53) hx hb (GC_t2 hG) hS (k := i) rfl (by omega) (by decide) dX2_reorder_53 ?_
        refine lv_land (pc := 54) hx hb dX2_reorder_54 ?_
        refine lv_lstore (pc := 55) (lv' := [(8, .long (((lus y (tSWP i)) ^^^ y) &&& (lN (tMSK i)))), (7, .int (nI (tSWP i))), (6, .int (nI i)), (5, .int (nI i)), (3, .long y), (0, .long x), (2, .int (qb false))]) hx hb dX2_reorder_55 hl (by decide) rfl (fun ls hl => ?_)
        refine lv_lload_n (pc := 57) hx hb dX2_reorder_57 rfl (lv_at hl 4 rfl) ?_
        refine lv_lload (pc := 58) hx hb dX2_reorder_58 (lv_at hl 0 rfl) ?_
        refine lv_lload (pc := 60) hx hb dX2_reorder_60 (lv_at hl 0 rfl) ?_
        refine lv_iload (pc := 62) hx hb dX2_reorder_62 (lv_at hl 1 rfl) ?_
        refine lv_lshl (pc := 64) (v := (lsl (((lus y (tSWP i)) ^^^ y) &&& (lN (tMSK i))) (tSWP i))) hx hb dX2_reorder_64 rfl ?_
        refine lv_lxor (pc := 65) hx hb dX2_reorder_65 ?_
        refine lv_lxor (pc := 66) hx hb dX2_reorder_66 ?_
        refine lv_lstore_n (pc := 67) (lv' := [(3, .long (y ^^^ ((((lus y (tSWP i)) ^^^ y) &&& (lN (tMSK i))) ^^^ (lsl (((lus y (tSWP i)) ^^^ y) &&& (lN (tMSK i))) (tSWP i))))), (8, .long (((lus y (tSWP i)) ^^^ y) &&& (lN (tMSK i)))), (7, .int (nI (tSWP i))), (6, .int (nI i)), (5, .int (nI i)), (0, .long x), (2, .int (qb false))]) hx hb dX2_reorder_67 rfl hl (by decide) rfl (fun ls hl => ?_)
        refine lv_iinc (pc := 68) (v := nI (i + 1)) (lv' := [(5, .int (nI (i + 1))), (3, .long (y ^^^ ((((lus y (tSWP i)) ^^^ y) &&& (lN (tMSK i))) ^^^ (lsl (((lus y (tSWP i)) ^^^ y) &&& (lN (tMSK i))) (tSWP i))))), (8, .long (((lus y (tSWP i)) ^^^ y) &&& (lN (tMSK i)))), (7, .int (nI (tSWP i))), (6, .int (nI i)), (0, .long x), (2, .int (qb false))]) hx hb dX2_reorder_68 hl (k := 4) rfl (by first | exact nI_add i 1 | rfl) (by decide) rfl (fun ls hl => ?_)
        refine lv_goto (pc := 71) (tgt := 5) hx hb dX2_reorder_71 (by decide) ?_
        exact ih5 (i + 1) (y ^^^ ((((lus y (tSWP i)) ^^^ y) &&& (lN (tMSK i))) ^^^ (lsl (((lus y (tSWP i)) ^^^ y) &&& (lN (tMSK i))) (tSWP i)))) (by omega) (by rw [hY]; rfl) (by omega) _ _ (hP.sub [] rfl) (hD.sub [] (by decide) rfl) hS ls (lv_sub hl [0, 1, 5, 6] rfl)
  exact LP5 _ 0 x (by omega) (rfl) (Nat.lt_succ_self _) _ _ (hP.sub [] rfl) (hD.sub [] (by decide) rfl) hS ls (lv_sub hl [0, 1, 2, 3] rfl)
set_option maxHeartbeats 4000000 in
set_option maxRecDepth 100000 in
theorem ct_X2_reorder_l (ll : Launch) (D : va_G) (ta : Nat → ClassId) (gs : Nat → Nat) (x : Int64)  (sz : Nat) : CT ll yX2_reorder cX2_reorder 10 (some .long) ({ frames := 0, cells := 0, slots := 0, locals := 0 } : Room) D ta ((GC gs)) [.long x, .int (qb true)] [] sz (S := Unit) (fun u => some (.long (roS x true 5))) (fun u => True) (fun u => []) 0 0 := by
  refine CT.of_l (r := fun u => roS x true 5) rfl (by decide) (Nat.le_of_ble_eq_true rfl) ?_
  have hGok := GC_ok gs
  intro pp ee ss mm below meth kc A Q hx hb hml hown hin hts hK hA hsz hG hret H locs hP hD hS ls hl
  have hl : lv_has ls 10 [(0, .long x), (2, .int (qb true))] := hl
  refine lv_lload_n (pc := 0) hx hb dX2_reorder_0 rfl (lv_at hl 0 rfl) ?_
  refine lv_lstore_n (pc := 1) (lv' := [(3, .long x), (0, .long x), (2, .int (qb true))]) hx hb dX2_reorder_1 rfl hl (by decide) rfl (fun ls hl => ?_)
  refine lv_iconst (pc := 2) (v := nI 0) hx hb dX2_reorder_2 (by decide +kernel) ?_
  refine lv_istore (pc := 3) (lv' := [(5, .int (nI 0)), (3, .long x), (0, .long x), (2, .int (qb true))]) hx hb dX2_reorder_3 hl (by decide) rfl (fun ls hl => ?_)
  have LP5 : ∀ (nn5 : Nat) (i : Nat) (y : Int64), (i ≤ 5) → (y = roS x true i) → (5 - i < nn5) → ∀ (H : Heap) (locs : List Loc), va_P D vwCl [] H → va_D A [] → va_S A ss.heap H locs → ∀ ls : Array Slot, lv_has ls 10 [(5, .int (nI i)), (3, .long y), (0, .long x), (2, .int (qb true))] → W pp ll ee ({ frames := 0, cells := 0, slots := 0, locals := 0 } : Room) ss mm (([.long x, .int (qb true)] : List Value).toArray) below meth kc H locs 0 0 Q (F0 mm 5 ls []) := by
    intro nn5
    induction nn5 with
    | zero => intro i y hii hY hmu; exact absurd hmu (Nat.not_lt_zero _)
    | succ nn5 ih5 =>
      intro i y hii hY hmu5 H locs hP hD hS ls hl
      refine lv_iload (pc := 5) hx hb dX2_reorder_5 (lv_at hl 0 rfl) ?_
      refine va_gets (pc := 7) hx hb (v := .ref (gs 1)) (GC_z1 hG) hS hown (hts _ tw_572) (fun _ h9 => h9) dX2_reorder_7 ?_
      refine va_tlen (pc := 10) hx hb (GC_t1 hG) hS (v := nI 5) rfl dX2_reorder_10 ?_
      refine lv_icmp_ge (pc := 11) (tgt := 74) hx hb dX2_reorder_11 (by decide) (fun c_1 => ?_) (fun c_1 => ?_)
      · skip
        rw [nI_leI (by omega) (by omega)] at c_1
        refine lv_lload_n (pc := 74) hx hb dX2_reorder_74 rfl (lv_at hl 1 rfl) ?_
        refine q_topl (y := roS x true 5) (by rw [hY, show i = 5 by omega]) ?_
        have hq_2 : True := trivial
        exact hret () _ _ _ _ dX2_reorder_75 hq_2 (hP.sub [] rfl) (hD.sub [] (by decide) rfl) hS
      · skip
        rw [nI_leI (by omega) (by omega)] at c_1
        refine lv_iload_n (pc := 14) hx hb dX2_reorder_14 rfl (lv_at hl 3 rfl) ?_
        refine lv_if_eq (pc := 15) (tgt := 30) hx hb dX2_reorder_15 (by decide) (fun c_3 => ?_) (fun _ => ?_)
        · skip
          exact absurd c_3 (by decide)
        refine va_gets (pc := 18) hx hb (v := .ref (gs 1)) (GC_z1 hG) hS hown (hts _ tw_572) (fun _ h9 => h9) dX2_reorder_18 ?_
        refine va_tlen (pc := 21) hx hb (GC_t1 hG) hS (v := nI 5) rfl dX2_reorder_21 ?_
        refine lv_iconst (pc := 22) (v := nI 1) hx hb dX2_reorder_22 (by decide +kernel) ?_
        refine lv_isub (pc := 23) hx hb dX2_reorder_23 ?_
        refine q_top (y := nI 4) (by decide +kernel) ?_
        refine lv_iload (pc := 24) hx hb dX2_reorder_24 (lv_at hl 0 rfl) ?_
        refine lv_isub (pc := 26) hx hb dX2_reorder_26 ?_
        refine q_top (y := nI (4 - i)) (pk_sub (a := 4) (b := i) (by omega)) ?_
        refine lv_goto (pc := 27) (tgt := 32) hx hb dX2_reorder_27 (by decide) ?_
        refine lv_istore (pc := 32) (lv' := [(6, .int (nI (4 - i))), (5, .int (nI i)), (3, .long y), (0, .long x), (2, .int (qb true))]) hx hb dX2_reorder_32 hl (by decide) rfl (fun ls hl => ?_)
        refine va_gets (pc := 34) hx hb (v := .ref (gs 1)) (GC_z1 hG) hS hown (hts _ tw_572) (fun _ h9 => h9) dX2_reorder_34 ?_
        refine lv_iload (pc := 37) hx hb dX2_reorder_37 (lv_at hl 0 rfl) ?_
        refine q_ti (pc := 39) hx hb (GC_t1 hG) hS (k := 4 - i) rfl (by omega) (by decide) dX2_reorder_39 ?_
        refine lv_istore (pc := 40) (lv' := [(7, .int (nI (tSWP (4 - i)))), (6, .int (nI (4 - i))), (5, .int (nI i)), (3, .long y), (0, .long x), (2, .int (qb true))]) hx hb dX2_reorder_40 hl (by decide) rfl (fun ls hl => ?_)
        have hbd := tSWP_b (k := 4 - i) (by omega)
        refine lv_lload_n (pc := 42) hx hb dX2_reorder_42 rfl (lv_at hl 3 rfl) ?_
        refine lv_iload (pc := 43) hx hb dX2_reorder_43 (lv_at hl 0 rfl) ?_
        refine lv_lushr (pc := 45) (v := (lus y (tSWP (4 - i)))) hx hb dX2_reorder_45 rfl ?_
        refine lv_lload_n (pc := 46) hx hb dX2_reorder_46 rfl (lv_at hl 3 rfl) ?_
        refine lv_lxor (pc := 47) hx hb dX2_reorder_47 ?_
        refine va_gets (pc := 48) hx hb (v := .ref (gs 2)) (GC_z2 hG) hS hown (hts _ tw_574) (fun _ h9 => h9) dX2_reorder_48 ?_
        refine lv_iload (pc := 51) hx hb dX2_reorder_51 (lv_at hl 1 rfl) ?_
        refine q_tl (pc := 53) hx hb (GC_t2 hG) hS (k := 4 - i) rfl (by omega) (by decide) dX2_reorder_53 ?_
        refine lv_land (pc := 54) hx hb dX2_reorder_54 ?_
        refine lv_lstore (pc := 55) (lv' := [(8, .long (((lus y (tSWP (4 - i))) ^^^ y) &&& (lN (tMSK (4 - i))))), (7, .int (nI (tSWP (4 - i)))), (6, .int (nI (4 - i))), (5, .int (nI i)), (3, .long y), (0, .long x), (2, .int (qb true))]) hx hb dX2_reorder_55 hl (by decide) rfl (fun ls hl => ?_)
        refine lv_lload_n (pc := 57) hx hb dX2_reorder_57 rfl (lv_at hl 4 rfl) ?_
        refine lv_lload (pc := 58) hx hb dX2_reorder_58 (lv_at hl 0 rfl) ?_
        refine lv_lload (pc := 60) hx hb dX2_reorder_60 (lv_at hl 0 rfl) ?_
        refine lv_iload (pc := 62) hx hb dX2_reorder_62 (lv_at hl 1 rfl) ?_
        refine lv_lshl (pc := 64) (v := (lsl (((lus y (tSWP (4 - i))) ^^^ y) &&& (lN (tMSK (4 - i)))) (tSWP (4 - i)))) hx hb dX2_reorder_64 rfl ?_
        refine lv_lxor (pc := 65) hx hb dX2_reorder_65 ?_
        refine lv_lxor (pc := 66) hx hb dX2_reorder_66 ?_
        refine lv_lstore_n (pc := 67) (lv' := [(3, .long (y ^^^ ((((lus y (tSWP (4 - i))) ^^^ y) &&& (lN (tMSK (4 - i)))) ^^^ (lsl (((lus y (tSWP (4 - i))) ^^^ y) &&& (lN (tMSK (4 - i)))) (tSWP (4 - i)))))), (8, .long (((lus y (tSWP (4 - i))) ^^^ y) &&& (lN (tMSK (4 - i))))), (7, .int (nI (tSWP (4 - i)))), (6, .int (nI (4 - i))), (5, .int (nI i)), (0, .long x), (2, .int (qb true))]) hx hb dX2_reorder_67 rfl hl (by decide) rfl (fun ls hl => ?_)
        refine lv_iinc (pc := 68) (v := nI (i + 1)) (lv' := [(5, .int (nI (i + 1))), (3, .long (y ^^^ ((((lus y (tSWP (4 - i))) ^^^ y) &&& (lN (tMSK (4 - i)))) ^^^ (lsl (((lus y (tSWP (4 - i))) ^^^ y) &&& (lN (tMSK (4 - i)))) (tSWP (4 - i)))))), (8, .long (((lus y (tSWP (4 - i))) ^^^ y) &&& (lN (tMSK (4 - i))))), (7, .int (nI (tSWP (4 - i)))), (6, .int (nI (4 - i))), (0, .long x), (2, .int (qb true))]) hx hb dX2_reorder_68 hl (k := 4) rfl (by first | exact nI_add i 1 | rfl) (by decide) rfl (fun ls hl => ?_)
        refine lv_goto (pc := 71) (tgt := 5) hx hb dX2_reorder_71 (by decide) ?_
        exact ih5 (i + 1) (y ^^^ ((((lus y (tSWP (4 - i))) ^^^ y) &&& (lN (tMSK (4 - i)))) ^^^ (lsl (((lus y (tSWP (4 - i))) ^^^ y) &&& (lN (tMSK (4 - i)))) (tSWP (4 - i))))) (by omega) (by rw [hY]; rfl) (by omega) _ _ (hP.sub [] rfl) (hD.sub [] (by decide) rfl) hS ls (lv_sub hl [0, 1, 5, 6] rfl)
  exact LP5 _ 0 x (by omega) (rfl) (Nat.lt_succ_self _) _ _ (hP.sub [] rfl) (hD.sub [] (by decide) rfl) hS ls (lv_sub hl [0, 1, 2, 3] rfl)
theorem hdX2_there : yX2_there.cls ≠ "java/lang/invoke/MethodHandle" ∧ yX2_there.cls ≠ "java/lang/invoke/VarHandle" ∧ (parseMethodDescriptor yX2_there.desc).map (fun d => d.parameters.length) = some 0 := ⟨by decide +kernel, by decide +kernel, by decide +kernel⟩
theorem dX2_there_0 : decode cX2_there 0 = .ok (.aload_n 0, 1) := by decide +kernel
theorem dX2_there_1 : decode cX2_there 1 = .ok (.aload_n 0, 1) := by decide +kernel
theorem dX2_there_2 : decode cX2_there 2 = .ok (.invokevirtual 34, 3) := by decide +kernel
theorem dX2_there_5 : decode cX2_there 5 = .ok (.iconst 0, 1) := by decide +kernel
theorem dX2_there_6 : decode cX2_there 6 = .ok (.invokestatic 38, 3) := by decide +kernel
theorem dX2_there_9 : decode cX2_there 9 = .ok (.aload_n 0, 1) := by decide +kernel
theorem dX2_there_10 : decode cX2_there 10 = .ok (.getfield 13, 3) := by decide +kernel
theorem dX2_there_13 : decode cX2_there 13 = .ok (.iconst 0, 1) := by decide +kernel
theorem dX2_there_14 : decode cX2_there 14 = .ok (.invokevirtual 42, 3) := by decide +kernel
theorem dX2_there_17 : decode cX2_there 17 = .ok (.lstore_n 1, 1) := by decide +kernel
theorem dX2_there_18 : decode cX2_there 18 = .ok (.aload_n 0, 1) := by decide +kernel
theorem dX2_there_19 : decode cX2_there 19 = .ok (.getfield 20, 3) := by decide +kernel
theorem dX2_there_22 : decode cX2_there 22 = .ok (.ifCond .eq 23, 3) := by decide +kernel
theorem dX2_there_25 : decode cX2_there 25 = .ok (.aload_n 0, 1) := by decide +kernel
theorem dX2_there_26 : decode cX2_there 26 = .ok (.aload_n 0, 1) := by decide +kernel
theorem dX2_there_27 : decode cX2_there 27 = .ok (.lload_n 1, 1) := by decide +kernel
theorem dX2_there_28 : decode cX2_there 28 = .ok (.aload_n 0, 1) := by decide +kernel
theorem dX2_there_29 : decode cX2_there 29 = .ok (.getfield 17, 3) := by decide +kernel
theorem dX2_there_32 : decode cX2_there 32 = .ok (.iconst 1, 1) := by decide +kernel
theorem dX2_there_33 : decode cX2_there 33 = .ok (.invokevirtual 42, 3) := by decide +kernel
theorem dX2_there_36 : decode cX2_there 36 = .ok (.aload_n 0, 1) := by decide +kernel
theorem dX2_there_37 : decode cX2_there 37 = .ok (.getfield 13, 3) := by decide +kernel
theorem dX2_there_40 : decode cX2_there 40 = .ok (.iconst 0, 1) := by decide +kernel
theorem dX2_there_41 : decode cX2_there 41 = .ok (.invokevirtual 42, 3) := by decide +kernel
theorem dX2_there_44 : decode cX2_there 44 = .ok (.lstore_n 1, 1) := by decide +kernel
theorem dX2_there_45 : decode cX2_there 45 = .ok (.aload_n 0, 1) := by decide +kernel
theorem dX2_there_46 : decode cX2_there 46 = .ok (.lload_n 1, 1) := by decide +kernel
theorem dX2_there_47 : decode cX2_there 47 = .ok (.iconst 1, 1) := by decide +kernel
theorem dX2_there_48 : decode cX2_there 48 = .ok (.invokestatic 38, 3) := by decide +kernel
theorem dX2_there_51 : decode cX2_there 51 = .ok (.invokevirtual 46, 3) := by decide +kernel
theorem dX2_there_54 : decode cX2_there 54 = .ok (.return_, 1) := by decide +kernel
set_option maxHeartbeats 4000000 in
set_option maxRecDepth 100000 in
theorem ct_X2_there (ll : Launch) (D : va_G) (ta : Nat → ClassId) (gs : Nat → Nat) (ha : Nat) (b1 : Nat) (b2 : Nat) (b3 : Nat) (b4 : Nat) (b5 : Nat) (tri : Bool) (gb : Nat → BitVec 8) (f : Nat → Int64) (s : Nat → Int64) (spb : Nat → Int32)  (sz : Nat) : CT ll yX2_there cX2_there 3 none ({ frames := 1, cells := 0, slots := 0, locals := 34 } : Room) D ta ((GC gs)) [.ref ha] [(ha, oD b1 b2 b3 b4 b5 tri), (b1, aZ ta 8 gb), (b3, aI ta 512 spb), (b4, aJ ta 16 f), (b5, aJ ta 16 s)] sz (S := (Nat → BitVec 8)) (fun _ => none) (fun u => (∀ k, k < 8 → u k = bySt (desX spb f s tri false (ldL gb 8)) k)) (fun u => [(ha, oD b1 b2 b3 b4 b5 tri), (b1, aZ ta 8 u), (b3, aI ta 512 spb), (b4, aJ ta 16 f), (b5, aJ ta 16 s)]) 0 0 := by
  refine CT.of_v rfl (by decide) (Nat.le_of_ble_eq_true rfl) ?_
  have hGok := GC_ok gs
  intro pp ee ss mm below meth kc A Q hx hb hml hown hin hts hK hA hsz hG hret H locs hP hD hS ls hl
  have hl : lv_has ls 3 [(0, .ref ha)] := hl
  refine lv_aload_n (pc := 0) hx hb dX2_there_0 rfl (lv_at hl 0 rfl) ?_
  refine lv_aload_n (pc := 1) hx hb dX2_there_1 rfl (lv_at hl 0 rfl) ?_
  refine cs_V (pc := 2) (idx := 34) (n := 0) (wr := [(b3, aI ta 512 spb), (b4, aJ ta 16 f), (b5, aJ ta 16 s)]) (As := []) (rest := [.ref ha]) (ci := 1) hx hb hml hown hts hGok hK hA hG hl.1 hP hD hS (ct_X2_load ll D ta hGok ha b1 b2 b3 b4 b5 tri gb  H.size) tw_568 tw_565 tw_567 tw_9 tw_72 hdX2_load rfl ⟨rfl, rfl, Nat.le_of_ble_eq_true rfl, Nat.le_of_ble_eq_true rfl, Nat.le_of_ble_eq_true rfl, Nat.le_of_ble_eq_true rfl⟩ rfl rfl (q0 := 0) rfl [0, 1] [2, 3, 4] rfl rfl (by decide) rfl (Nat.le_of_ble_eq_true rfl) dX2_there_2 (fun u H locs hq hP hD hS => ?_)
  refine W.eq (g2 := F0 mm 5 ls [.long (ldL gb 8), .ref ha]) rfl ?_
  have hP : va_P D vwCl [(b3, aI ta 512 spb), (b4, aJ ta 16 f), (b5, aJ ta 16 s), (ha, oD b1 b2 b3 b4 b5 tri), (b1, aZ ta 8 gb)] H := hP
  have hD : va_D A [(b3, aI ta 512 spb), (b4, aJ ta 16 f), (b5, aJ ta 16 s), (ha, oD b1 b2 b3 b4 b5 tri), (b1, aZ ta 8 gb)] := hD
  refine lv_iconst (pc := 5) (v := nI 0) hx hb dX2_there_5 (by decide +kernel) ?_
  refine cs_S (pc := 6) (idx := 38) (n := 2) (wr := [(b3, aI ta 512 spb), (b4, aJ ta 16 f), (b5, aJ ta 16 s), (ha, oD b1 b2 b3 b4 b5 tri), (b1, aZ ta 8 gb)]) (As := [.long (ldL gb 8), .int (nI 0)]) (rest := [.ref ha]) hx hb hml hown hts hGok hK hA hG hl.1 hP hD hS (ct_X2_reorder_f ll D ta gs (ldL gb 8)  H.size) tw_571 tw_569 tw_570 tw_72 hdX2_reorder rfl ⟨rfl, rfl, Nat.le_of_ble_eq_true rfl, Nat.le_of_ble_eq_true rfl, Nat.le_of_ble_eq_true rfl, Nat.le_of_ble_eq_true rfl⟩ [] [0, 1, 2, 3, 4] rfl rfl (by decide) rfl (Nat.le_of_ble_eq_true rfl) dX2_there_6 (fun u H locs hq hP hD hS => ?_)
  refine W.eq (g2 := F0 mm 9 ls [.long (roS (ldL gb 8) false 5), .ref ha]) rfl ?_
  have hP : va_P D vwCl [(b3, aI ta 512 spb), (b4, aJ ta 16 f), (b5, aJ ta 16 s), (ha, oD b1 b2 b3 b4 b5 tri), (b1, aZ ta 8 gb)] H := hP
  have hD : va_D A [(b3, aI ta 512 spb), (b4, aJ ta 16 f), (b5, aJ ta 16 s), (ha, oD b1 b2 b3 b4 b5 tri), (b1, aZ ta 8 gb)] := hD
  refine lv_aload_n (pc := 9) hx hb dX2_there_9 rfl (lv_at hl 0 rfl) ?_
  refine va_get (pc := 10) (D := D) (ci := 1) (v := .ref b4) (C := RX2) (T := TX2) (N := 6) hx hb hts iu2 hown hK hP 3 rfl rfl 3 (by decide) (hts _ tw_246) (fun _ h9 => h9) rfl dX2_there_10 ?_
  refine lv_iconst (pc := 13) (v := nI 0) hx hb dX2_there_13 (by decide +kernel) ?_
  refine cs_V (pc := 14) (idx := 42) (n := 3) (wr := [(b5, aJ ta 16 s), (b1, aZ ta 8 gb)]) (As := [.long (roS (ldL gb 8) false 5), .ref b4, .int (nI 0)]) (rest := []) (ci := 1) hx hb hml hown hts hGok hK hA hG hl.1 hP hD hS (ct_X2_rounds_f ll D ta hGok ha b1 b2 b3 b4 b5 tri (roS (ldL gb 8) false 5) b4 f spb  H.size) tw_579 tw_576 tw_578 tw_10 tw_72 hdX2_rounds rfl ⟨rfl, rfl, Nat.le_of_ble_eq_true rfl, Nat.le_of_ble_eq_true rfl, Nat.le_of_ble_eq_true rfl, Nat.le_of_ble_eq_true rfl⟩ rfl rfl (q0 := 3) rfl [3, 0, 1] [2, 4] rfl rfl (by decide) rfl (Nat.le_of_ble_eq_true rfl) dX2_there_14 (fun u H locs hq hP hD hS => ?_)
  refine W.eq (g2 := F0 mm 17 ls [.long (rdR spb f false (roS (ldL gb 8) false 5))]) rfl ?_
  have hP : va_P D vwCl [(b5, aJ ta 16 s), (b1, aZ ta 8 gb), (ha, oD b1 b2 b3 b4 b5 tri), (b3, aI ta 512 spb), (b4, aJ ta 16 f)] H := hP
  have hD : va_D A [(b5, aJ ta 16 s), (b1, aZ ta 8 gb), (ha, oD b1 b2 b3 b4 b5 tri), (b3, aI ta 512 spb), (b4, aJ ta 16 f)] := hD
  refine lv_lstore_n (pc := 17) (lv' := [(1, .long (rdR spb f false (roS (ldL gb 8) false 5))), (0, .ref ha)]) hx hb dX2_there_17 rfl hl (by decide) rfl (fun ls hl => ?_)
  refine lv_aload_n (pc := 18) hx hb dX2_there_18 rfl (lv_at hl 1 rfl) ?_
  refine va_get (pc := 19) (D := D) (ci := 1) (v := .int (qb tri)) (C := RX2) (T := TX2) (N := 6) hx hb hts iu2 hown hK hP 2 rfl rfl 5 (by decide) (hts _ tw_248) (fun _ h9 => h9) rfl dX2_there_19 ?_
  refine lv_if_eq (pc := 22) (tgt := 45) hx hb dX2_there_22 (by decide) (fun c_1 => ?_) (fun c_1 => ?_)
  · skip
    rw [q_beq] at c_1
    try rw [Bool.not_eq_false] at c_1
    have htri := c_1
    refine lv_aload_n (pc := 45) hx hb dX2_there_45 rfl (lv_at hl 1 rfl) ?_
    refine lv_lload_n (pc := 46) hx hb dX2_there_46 rfl (lv_at hl 0 rfl) ?_
    refine lv_iconst (pc := 47) (v := nI 1) hx hb dX2_there_47 (by decide +kernel) ?_
    refine cs_S (pc := 48) (idx := 38) (n := 2) (wr := [(b5, aJ ta 16 s), (b1, aZ ta 8 gb), (ha, oD b1 b2 b3 b4 b5 tri), (b3, aI ta 512 spb), (b4, aJ ta 16 f)]) (As := [.long (rdR spb f false (roS (ldL gb 8) false 5)), .int (nI 1)]) (rest := [.ref ha]) hx hb hml hown hts hGok hK hA hG hl.1 hP hD hS (ct_X2_reorder_l ll D ta gs (rdR spb f false (roS (ldL gb 8) false 5))  H.size) tw_571 tw_569 tw_570 tw_72 hdX2_reorder rfl ⟨rfl, rfl, Nat.le_of_ble_eq_true rfl, Nat.le_of_ble_eq_true rfl, Nat.le_of_ble_eq_true rfl, Nat.le_of_ble_eq_true rfl⟩ [] [0, 1, 2, 3, 4] rfl rfl (by decide) rfl (Nat.le_of_ble_eq_true rfl) dX2_there_48 (fun u H locs hq hP hD hS => ?_)
    refine W.eq (g2 := F0 mm 51 ls [.long (roS (rdR spb f false (roS (ldL gb 8) false 5)) true 5), .ref ha]) rfl ?_
    have hP : va_P D vwCl [(b5, aJ ta 16 s), (b1, aZ ta 8 gb), (ha, oD b1 b2 b3 b4 b5 tri), (b3, aI ta 512 spb), (b4, aJ ta 16 f)] H := hP
    have hD : va_D A [(b5, aJ ta 16 s), (b1, aZ ta 8 gb), (ha, oD b1 b2 b3 b4 b5 tri), (b3, aI ta 512 spb), (b4, aJ ta 16 f)] := hD
    refine cs_V (pc := 51) (idx := 46) (n := 1) (wr := [(b5, aJ ta 16 s), (b3, aI ta 512 spb), (b4, aJ ta 16 f)]) (As := [.long (roS (rdR spb f false (roS (ldL gb 8) false 5)) true 5)]) (rest := []) (ci := 1) hx hb hml hown hts hGok hK hA hG hl.1 hP hD hS (ct_X2_store ll D ta hGok ha b1 b2 b3 b4 b5 tri gb (roS (rdR spb f false (roS (ldL gb 8) false 5)) true 5)  H.size) tw_584 tw_581 tw_583 tw_11 tw_72 hdX2_store rfl ⟨rfl, rfl, Nat.le_of_ble_eq_true rfl, Nat.le_of_ble_eq_true rfl, Nat.le_of_ble_eq_true rfl, Nat.le_of_ble_eq_true rfl⟩ rfl rfl (q0 := 2) rfl [2, 1] [0, 3, 4] rfl rfl (by decide) rfl (Nat.le_of_ble_eq_true rfl) dX2_there_51 (fun u H locs hq hP hD hS => ?_)
    generalize u = gb1_51 at hq hP hD ⊢
    have hq : (∀ kz, kz < 8 → gb1_51 kz = bySt (roS (rdR spb f false (roS (ldL gb 8) false 5)) true 5) kz) := hq
    have hs_51 := hq
    refine W.eq (g2 := F0 mm 54 ls []) rfl ?_
    have hP : va_P D vwCl [(b5, aJ ta 16 s), (b3, aI ta 512 spb), (b4, aJ ta 16 f), (ha, oD b1 b2 b3 b4 b5 tri), (b1, aZ ta 8 gb1_51)] H := hP
    have hD : va_D A [(b5, aJ ta 16 s), (b3, aI ta 512 spb), (b4, aJ ta 16 f), (ha, oD b1 b2 b3 b4 b5 tri), (b1, aZ ta 8 gb1_51)] := hD
    have hq_2 : (∀ k, k < 8 → gb1_51 k = bySt (desX spb f s tri false (ldL gb 8)) k) := by
      intro k hk
      rw [hs_51 k hk]
      simp only [desX, htri, if_true, if_false, Bool.not_false, Bool.not_true, Bool.false_eq_true]
    exact hret (gb1_51) _ _ _ _ dX2_there_54 hq_2 (hP.sub [3, 4, 1, 2, 0] rfl) (hD.sub [3, 4, 1, 2, 0] (by decide) rfl) hS
  · skip
    rw [q_beq] at c_1
    try rw [Bool.not_eq_false] at c_1
    have htri := c_1
    refine lv_aload_n (pc := 25) hx hb dX2_there_25 rfl (lv_at hl 1 rfl) ?_
    refine lv_aload_n (pc := 26) hx hb dX2_there_26 rfl (lv_at hl 1 rfl) ?_
    refine lv_lload_n (pc := 27) hx hb dX2_there_27 rfl (lv_at hl 0 rfl) ?_
    refine lv_aload_n (pc := 28) hx hb dX2_there_28 rfl (lv_at hl 1 rfl) ?_
    refine va_get (pc := 29) (D := D) (ci := 1) (v := .ref b5) (C := RX2) (T := TX2) (N := 6) hx hb hts iu2 hown hK hP 2 rfl rfl 4 (by decide) (hts _ tw_247) (fun _ h9 => h9) rfl dX2_there_29 ?_
    refine lv_iconst (pc := 32) (v := nI 1) hx hb dX2_there_32 (by decide +kernel) ?_
    refine cs_V (pc := 33) (idx := 42) (n := 3) (wr := [(b1, aZ ta 8 gb), (b4, aJ ta 16 f)]) (As := [.long (rdR spb f false (roS (ldL gb 8) false 5)), .ref b5, .int (nI 1)]) (rest := [.ref ha]) (ci := 1) hx hb hml hown hts hGok hK hA hG hl.1 hP hD hS (ct_X2_rounds_b ll D ta hGok ha b1 b2 b3 b4 b5 tri (rdR spb f false (roS (ldL gb 8) false 5)) b5 s spb  H.size) tw_579 tw_576 tw_578 tw_10 tw_72 hdX2_rounds rfl ⟨rfl, rfl, Nat.le_of_ble_eq_true rfl, Nat.le_of_ble_eq_true rfl, Nat.le_of_ble_eq_true rfl, Nat.le_of_ble_eq_true rfl⟩ rfl rfl (q0 := 2) rfl [2, 3, 0] [1, 4] rfl rfl (by decide) rfl (Nat.le_of_ble_eq_true rfl) dX2_there_33 (fun u H locs hq hP hD hS => ?_)
    refine W.eq (g2 := F0 mm 36 ls [.long (rdR spb s true (rdR spb f false (roS (ldL gb 8) false 5))), .ref ha]) rfl ?_
    have hP : va_P D vwCl [(b1, aZ ta 8 gb), (b4, aJ ta 16 f), (ha, oD b1 b2 b3 b4 b5 tri), (b3, aI ta 512 spb), (b5, aJ ta 16 s)] H := hP
    have hD : va_D A [(b1, aZ ta 8 gb), (b4, aJ ta 16 f), (ha, oD b1 b2 b3 b4 b5 tri), (b3, aI ta 512 spb), (b5, aJ ta 16 s)] := hD
    refine lv_aload_n (pc := 36) hx hb dX2_there_36 rfl (lv_at hl 1 rfl) ?_
    refine va_get (pc := 37) (D := D) (ci := 1) (v := .ref b4) (C := RX2) (T := TX2) (N := 6) hx hb hts iu2 hown hK hP 2 rfl rfl 3 (by decide) (hts _ tw_246) (fun _ h9 => h9) rfl dX2_there_37 ?_
    refine lv_iconst (pc := 40) (v := nI 0) hx hb dX2_there_40 (by decide +kernel) ?_
    refine cs_V (pc := 41) (idx := 42) (n := 3) (wr := [(b1, aZ ta 8 gb), (b5, aJ ta 16 s)]) (As := [.long (rdR spb s true (rdR spb f false (roS (ldL gb 8) false 5))), .ref b4, .int (nI 0)]) (rest := []) (ci := 1) hx hb hml hown hts hGok hK hA hG hl.1 hP hD hS (ct_X2_rounds_f ll D ta hGok ha b1 b2 b3 b4 b5 tri (rdR spb s true (rdR spb f false (roS (ldL gb 8) false 5))) b4 f spb  H.size) tw_579 tw_576 tw_578 tw_10 tw_72 hdX2_rounds rfl ⟨rfl, rfl, Nat.le_of_ble_eq_true rfl, Nat.le_of_ble_eq_true rfl, Nat.le_of_ble_eq_true rfl, Nat.le_of_ble_eq_true rfl⟩ rfl rfl (q0 := 2) rfl [2, 3, 1] [0, 4] rfl rfl (by decide) rfl (Nat.le_of_ble_eq_true rfl) dX2_there_41 (fun u H locs hq hP hD hS => ?_)
    refine W.eq (g2 := F0 mm 44 ls [.long (rdR spb f false (rdR spb s true (rdR spb f false (roS (ldL gb 8) false 5))))]) rfl ?_
    have hP : va_P D vwCl [(b1, aZ ta 8 gb), (b5, aJ ta 16 s), (ha, oD b1 b2 b3 b4 b5 tri), (b3, aI ta 512 spb), (b4, aJ ta 16 f)] H := hP
    have hD : va_D A [(b1, aZ ta 8 gb), (b5, aJ ta 16 s), (ha, oD b1 b2 b3 b4 b5 tri), (b3, aI ta 512 spb), (b4, aJ ta 16 f)] := hD
    refine lv_lstore_n (pc := 44) (lv' := [(1, .long (rdR spb f false (rdR spb s true (rdR spb f false (roS (ldL gb 8) false 5))))), (0, .ref ha)]) hx hb dX2_there_44 rfl hl (by decide) rfl (fun ls hl => ?_)
    refine lv_aload_n (pc := 45) hx hb dX2_there_45 rfl (lv_at hl 1 rfl) ?_
    refine lv_lload_n (pc := 46) hx hb dX2_there_46 rfl (lv_at hl 0 rfl) ?_
    refine lv_iconst (pc := 47) (v := nI 1) hx hb dX2_there_47 (by decide +kernel) ?_
    refine cs_S (pc := 48) (idx := 38) (n := 2) (wr := [(b1, aZ ta 8 gb), (b5, aJ ta 16 s), (ha, oD b1 b2 b3 b4 b5 tri), (b3, aI ta 512 spb), (b4, aJ ta 16 f)]) (As := [.long (rdR spb f false (rdR spb s true (rdR spb f false (roS (ldL gb 8) false 5)))), .int (nI 1)]) (rest := [.ref ha]) hx hb hml hown hts hGok hK hA hG hl.1 hP hD hS (ct_X2_reorder_l ll D ta gs (rdR spb f false (rdR spb s true (rdR spb f false (roS (ldL gb 8) false 5))))  H.size) tw_571 tw_569 tw_570 tw_72 hdX2_reorder rfl ⟨rfl, rfl, Nat.le_of_ble_eq_true rfl, Nat.le_of_ble_eq_true rfl, Nat.le_of_ble_eq_true rfl, Nat.le_of_ble_eq_true rfl⟩ [] [0, 1, 2, 3, 4] rfl rfl (by decide) rfl (Nat.le_of_ble_eq_true rfl) dX2_there_48 (fun u H locs hq hP hD hS => ?_)
    refine W.eq (g2 := F0 mm 51 ls [.long (roS (rdR spb f false (rdR spb s true (rdR spb f false (roS (ldL gb 8) false 5)))) true 5), .ref ha]) rfl ?_
    have hP : va_P D vwCl [(b1, aZ ta 8 gb), (b5, aJ ta 16 s), (ha, oD b1 b2 b3 b4 b5 tri), (b3, aI ta 512 spb), (b4, aJ ta 16 f)] H := hP
    have hD : va_D A [(b1, aZ ta 8 gb), (b5, aJ ta 16 s), (ha, oD b1 b2 b3 b4 b5 tri), (b3, aI ta 512 spb), (b4, aJ ta 16 f)] := hD
    refine cs_V (pc := 51) (idx := 46) (n := 1) (wr := [(b5, aJ ta 16 s), (b3, aI ta 512 spb), (b4, aJ ta 16 f)]) (As := [.long (roS (rdR spb f false (rdR spb s true (rdR spb f false (roS (ldL gb 8) false 5)))) true 5)]) (rest := []) (ci := 1) hx hb hml hown hts hGok hK hA hG hl.1 hP hD hS (ct_X2_store ll D ta hGok ha b1 b2 b3 b4 b5 tri gb (roS (rdR spb f false (rdR spb s true (rdR spb f false (roS (ldL gb 8) false 5)))) true 5)  H.size) tw_584 tw_581 tw_583 tw_11 tw_72 hdX2_store rfl ⟨rfl, rfl, Nat.le_of_ble_eq_true rfl, Nat.le_of_ble_eq_true rfl, Nat.le_of_ble_eq_true rfl, Nat.le_of_ble_eq_true rfl⟩ rfl rfl (q0 := 2) rfl [2, 0] [1, 3, 4] rfl rfl (by decide) rfl (Nat.le_of_ble_eq_true rfl) dX2_there_51 (fun u H locs hq hP hD hS => ?_)
    generalize u = gb1_51 at hq hP hD ⊢
    have hq : (∀ kz, kz < 8 → gb1_51 kz = bySt (roS (rdR spb f false (rdR spb s true (rdR spb f false (roS (ldL gb 8) false 5)))) true 5) kz) := hq
    have hs_51 := hq
    refine W.eq (g2 := F0 mm 54 ls []) rfl ?_
    have hP : va_P D vwCl [(b5, aJ ta 16 s), (b3, aI ta 512 spb), (b4, aJ ta 16 f), (ha, oD b1 b2 b3 b4 b5 tri), (b1, aZ ta 8 gb1_51)] H := hP
    have hD : va_D A [(b5, aJ ta 16 s), (b3, aI ta 512 spb), (b4, aJ ta 16 f), (ha, oD b1 b2 b3 b4 b5 tri), (b1, aZ ta 8 gb1_51)] := hD
    have hq_3 : (∀ k, k < 8 → gb1_51 k = bySt (desX spb f s tri false (ldL gb 8)) k) := by
      intro k hk
      rw [hs_51 k hk]
      simp only [desX, htri, if_true, if_false, Bool.not_false, Bool.not_true, Bool.false_eq_true]
    exact hret (gb1_51) _ _ _ _ dX2_there_54 hq_3 (hP.sub [3, 4, 1, 2, 0] rfl) (hD.sub [3, 4, 1, 2, 0] (by decide) rfl) hS
theorem hdX2_back : yX2_back.cls ≠ "java/lang/invoke/MethodHandle" ∧ yX2_back.cls ≠ "java/lang/invoke/VarHandle" ∧ (parseMethodDescriptor yX2_back.desc).map (fun d => d.parameters.length) = some 0 := ⟨by decide +kernel, by decide +kernel, by decide +kernel⟩
theorem dX2_back_0 : decode cX2_back 0 = .ok (.aload_n 0, 1) := by decide +kernel
theorem dX2_back_1 : decode cX2_back 1 = .ok (.aload_n 0, 1) := by decide +kernel
theorem dX2_back_2 : decode cX2_back 2 = .ok (.invokevirtual 34, 3) := by decide +kernel
theorem dX2_back_5 : decode cX2_back 5 = .ok (.iconst 0, 1) := by decide +kernel
theorem dX2_back_6 : decode cX2_back 6 = .ok (.invokestatic 38, 3) := by decide +kernel
theorem dX2_back_9 : decode cX2_back 9 = .ok (.aload_n 0, 1) := by decide +kernel
theorem dX2_back_10 : decode cX2_back 10 = .ok (.getfield 13, 3) := by decide +kernel
theorem dX2_back_13 : decode cX2_back 13 = .ok (.iconst 1, 1) := by decide +kernel
theorem dX2_back_14 : decode cX2_back 14 = .ok (.invokevirtual 42, 3) := by decide +kernel
theorem dX2_back_17 : decode cX2_back 17 = .ok (.lstore_n 1, 1) := by decide +kernel
theorem dX2_back_18 : decode cX2_back 18 = .ok (.aload_n 0, 1) := by decide +kernel
theorem dX2_back_19 : decode cX2_back 19 = .ok (.getfield 20, 3) := by decide +kernel
theorem dX2_back_22 : decode cX2_back 22 = .ok (.ifCond .eq 23, 3) := by decide +kernel
theorem dX2_back_25 : decode cX2_back 25 = .ok (.aload_n 0, 1) := by decide +kernel
theorem dX2_back_26 : decode cX2_back 26 = .ok (.aload_n 0, 1) := by decide +kernel
theorem dX2_back_27 : decode cX2_back 27 = .ok (.lload_n 1, 1) := by decide +kernel
theorem dX2_back_28 : decode cX2_back 28 = .ok (.aload_n 0, 1) := by decide +kernel
theorem dX2_back_29 : decode cX2_back 29 = .ok (.getfield 17, 3) := by decide +kernel
theorem dX2_back_32 : decode cX2_back 32 = .ok (.iconst 0, 1) := by decide +kernel
theorem dX2_back_33 : decode cX2_back 33 = .ok (.invokevirtual 42, 3) := by decide +kernel
theorem dX2_back_36 : decode cX2_back 36 = .ok (.aload_n 0, 1) := by decide +kernel
theorem dX2_back_37 : decode cX2_back 37 = .ok (.getfield 13, 3) := by decide +kernel
theorem dX2_back_40 : decode cX2_back 40 = .ok (.iconst 1, 1) := by decide +kernel
theorem dX2_back_41 : decode cX2_back 41 = .ok (.invokevirtual 42, 3) := by decide +kernel
theorem dX2_back_44 : decode cX2_back 44 = .ok (.lstore_n 1, 1) := by decide +kernel
theorem dX2_back_45 : decode cX2_back 45 = .ok (.aload_n 0, 1) := by decide +kernel
theorem dX2_back_46 : decode cX2_back 46 = .ok (.lload_n 1, 1) := by decide +kernel
theorem dX2_back_47 : decode cX2_back 47 = .ok (.iconst 1, 1) := by decide +kernel
theorem dX2_back_48 : decode cX2_back 48 = .ok (.invokestatic 38, 3) := by decide +kernel
theorem dX2_back_51 : decode cX2_back 51 = .ok (.invokevirtual 46, 3) := by decide +kernel
theorem dX2_back_54 : decode cX2_back 54 = .ok (.return_, 1) := by decide +kernel
set_option maxHeartbeats 4000000 in
set_option maxRecDepth 100000 in
theorem ct_X2_back (ll : Launch) (D : va_G) (ta : Nat → ClassId) (gs : Nat → Nat) (ha : Nat) (b1 : Nat) (b2 : Nat) (b3 : Nat) (b4 : Nat) (b5 : Nat) (tri : Bool) (gb : Nat → BitVec 8) (f : Nat → Int64) (s : Nat → Int64) (spb : Nat → Int32)  (sz : Nat) : CT ll yX2_back cX2_back 3 none ({ frames := 1, cells := 0, slots := 0, locals := 34 } : Room) D ta ((GC gs)) [.ref ha] [(ha, oD b1 b2 b3 b4 b5 tri), (b1, aZ ta 8 gb), (b3, aI ta 512 spb), (b4, aJ ta 16 f), (b5, aJ ta 16 s)] sz (S := (Nat → BitVec 8)) (fun _ => none) (fun u => (∀ k, k < 8 → u k = bySt (desX spb f s tri true (ldL gb 8)) k)) (fun u => [(ha, oD b1 b2 b3 b4 b5 tri), (b1, aZ ta 8 u), (b3, aI ta 512 spb), (b4, aJ ta 16 f), (b5, aJ ta 16 s)]) 0 0 := by
  refine CT.of_v rfl (by decide) (Nat.le_of_ble_eq_true rfl) ?_
  have hGok := GC_ok gs
  intro pp ee ss mm below meth kc A Q hx hb hml hown hin hts hK hA hsz hG hret H locs hP hD hS ls hl
  have hl : lv_has ls 3 [(0, .ref ha)] := hl
  refine lv_aload_n (pc := 0) hx hb dX2_back_0 rfl (lv_at hl 0 rfl) ?_
  refine lv_aload_n (pc := 1) hx hb dX2_back_1 rfl (lv_at hl 0 rfl) ?_
  refine cs_V (pc := 2) (idx := 34) (n := 0) (wr := [(b3, aI ta 512 spb), (b4, aJ ta 16 f), (b5, aJ ta 16 s)]) (As := []) (rest := [.ref ha]) (ci := 1) hx hb hml hown hts hGok hK hA hG hl.1 hP hD hS (ct_X2_load ll D ta hGok ha b1 b2 b3 b4 b5 tri gb  H.size) tw_568 tw_565 tw_567 tw_9 tw_72 hdX2_load rfl ⟨rfl, rfl, Nat.le_of_ble_eq_true rfl, Nat.le_of_ble_eq_true rfl, Nat.le_of_ble_eq_true rfl, Nat.le_of_ble_eq_true rfl⟩ rfl rfl (q0 := 0) rfl [0, 1] [2, 3, 4] rfl rfl (by decide) rfl (Nat.le_of_ble_eq_true rfl) dX2_back_2 (fun u H locs hq hP hD hS => ?_)
  refine W.eq (g2 := F0 mm 5 ls [.long (ldL gb 8), .ref ha]) rfl ?_
  have hP : va_P D vwCl [(b3, aI ta 512 spb), (b4, aJ ta 16 f), (b5, aJ ta 16 s), (ha, oD b1 b2 b3 b4 b5 tri), (b1, aZ ta 8 gb)] H := hP
  have hD : va_D A [(b3, aI ta 512 spb), (b4, aJ ta 16 f), (b5, aJ ta 16 s), (ha, oD b1 b2 b3 b4 b5 tri), (b1, aZ ta 8 gb)] := hD
  refine lv_iconst (pc := 5) (v := nI 0) hx hb dX2_back_5 (by decide +kernel) ?_
  refine cs_S (pc := 6) (idx := 38) (n := 2) (wr := [(b3, aI ta 512 spb), (b4, aJ ta 16 f), (b5, aJ ta 16 s), (ha, oD b1 b2 b3 b4 b5 tri), (b1, aZ ta 8 gb)]) (As := [.long (ldL gb 8), .int (nI 0)]) (rest := [.ref ha]) hx hb hml hown hts hGok hK hA hG hl.1 hP hD hS (ct_X2_reorder_f ll D ta gs (ldL gb 8)  H.size) tw_571 tw_569 tw_570 tw_72 hdX2_reorder rfl ⟨rfl, rfl, Nat.le_of_ble_eq_true rfl, Nat.le_of_ble_eq_true rfl, Nat.le_of_ble_eq_true rfl, Nat.le_of_ble_eq_true rfl⟩ [] [0, 1, 2, 3, 4] rfl rfl (by decide) rfl (Nat.le_of_ble_eq_true rfl) dX2_back_6 (fun u H locs hq hP hD hS => ?_)
  refine W.eq (g2 := F0 mm 9 ls [.long (roS (ldL gb 8) false 5), .ref ha]) rfl ?_
  have hP : va_P D vwCl [(b3, aI ta 512 spb), (b4, aJ ta 16 f), (b5, aJ ta 16 s), (ha, oD b1 b2 b3 b4 b5 tri), (b1, aZ ta 8 gb)] H := hP
  have hD : va_D A [(b3, aI ta 512 spb), (b4, aJ ta 16 f), (b5, aJ ta 16 s), (ha, oD b1 b2 b3 b4 b5 tri), (b1, aZ ta 8 gb)] := hD
  refine lv_aload_n (pc := 9) hx hb dX2_back_9 rfl (lv_at hl 0 rfl) ?_
  refine va_get (pc := 10) (D := D) (ci := 1) (v := .ref b4) (C := RX2) (T := TX2) (N := 6) hx hb hts iu2 hown hK hP 3 rfl rfl 3 (by decide) (hts _ tw_246) (fun _ h9 => h9) rfl dX2_back_10 ?_
  refine lv_iconst (pc := 13) (v := nI 1) hx hb dX2_back_13 (by decide +kernel) ?_
  refine cs_V (pc := 14) (idx := 42) (n := 3) (wr := [(b5, aJ ta 16 s), (b1, aZ ta 8 gb)]) (As := [.long (roS (ldL gb 8) false 5), .ref b4, .int (nI 1)]) (rest := []) (ci := 1) hx hb hml hown hts hGok hK hA hG hl.1 hP hD hS (ct_X2_rounds_b ll D ta hGok ha b1 b2 b3 b4 b5 tri (roS (ldL gb 8) false 5) b4 f spb  H.size) tw_579 tw_576 tw_578 tw_10 tw_72 hdX2_rounds rfl ⟨rfl, rfl, Nat.le_of_ble_eq_true rfl, Nat.le_of_ble_eq_true rfl, Nat.le_of_ble_eq_true rfl, Nat.le_of_ble_eq_true rfl⟩ rfl rfl (q0 := 3) rfl [3, 0, 1] [2, 4] rfl rfl (by decide) rfl (Nat.le_of_ble_eq_true rfl) dX2_back_14 (fun u H locs hq hP hD hS => ?_)
  refine W.eq (g2 := F0 mm 17 ls [.long (rdR spb f true (roS (ldL gb 8) false 5))]) rfl ?_
  have hP : va_P D vwCl [(b5, aJ ta 16 s), (b1, aZ ta 8 gb), (ha, oD b1 b2 b3 b4 b5 tri), (b3, aI ta 512 spb), (b4, aJ ta 16 f)] H := hP
  have hD : va_D A [(b5, aJ ta 16 s), (b1, aZ ta 8 gb), (ha, oD b1 b2 b3 b4 b5 tri), (b3, aI ta 512 spb), (b4, aJ ta 16 f)] := hD
  refine lv_lstore_n (pc := 17) (lv' := [(1, .long (rdR spb f true (roS (ldL gb 8) false 5))), (0, .ref ha)]) hx hb dX2_back_17 rfl hl (by decide) rfl (fun ls hl => ?_)
  refine lv_aload_n (pc := 18) hx hb dX2_back_18 rfl (lv_at hl 1 rfl) ?_
  refine va_get (pc := 19) (D := D) (ci := 1) (v := .int (qb tri)) (C := RX2) (T := TX2) (N := 6) hx hb hts iu2 hown hK hP 2 rfl rfl 5 (by decide) (hts _ tw_248) (fun _ h9 => h9) rfl dX2_back_19 ?_
  refine lv_if_eq (pc := 22) (tgt := 45) hx hb dX2_back_22 (by decide) (fun c_1 => ?_) (fun c_1 => ?_)
  · skip
    rw [q_beq] at c_1
    try rw [Bool.not_eq_false] at c_1
    have htri := c_1
    refine lv_aload_n (pc := 45) hx hb dX2_back_45 rfl (lv_at hl 1 rfl) ?_
    refine lv_lload_n (pc := 46) hx hb dX2_back_46 rfl (lv_at hl 0 rfl) ?_
    refine lv_iconst (pc := 47) (v := nI 1) hx hb dX2_back_47 (by decide +kernel) ?_
    refine cs_S (pc := 48) (idx := 38) (n := 2) (wr := [(b5, aJ ta 16 s), (b1, aZ ta 8 gb), (ha, oD b1 b2 b3 b4 b5 tri), (b3, aI ta 512 spb), (b4, aJ ta 16 f)]) (As := [.long (rdR spb f true (roS (ldL gb 8) false 5)), .int (nI 1)]) (rest := [.ref ha]) hx hb hml hown hts hGok hK hA hG hl.1 hP hD hS (ct_X2_reorder_l ll D ta gs (rdR spb f true (roS (ldL gb 8) false 5))  H.size) tw_571 tw_569 tw_570 tw_72 hdX2_reorder rfl ⟨rfl, rfl, Nat.le_of_ble_eq_true rfl, Nat.le_of_ble_eq_true rfl, Nat.le_of_ble_eq_true rfl, Nat.le_of_ble_eq_true rfl⟩ [] [0, 1, 2, 3, 4] rfl rfl (by decide) rfl (Nat.le_of_ble_eq_true rfl) dX2_back_48 (fun u H locs hq hP hD hS => ?_)
    refine W.eq (g2 := F0 mm 51 ls [.long (roS (rdR spb f true (roS (ldL gb 8) false 5)) true 5), .ref ha]) rfl ?_
    have hP : va_P D vwCl [(b5, aJ ta 16 s), (b1, aZ ta 8 gb), (ha, oD b1 b2 b3 b4 b5 tri), (b3, aI ta 512 spb), (b4, aJ ta 16 f)] H := hP
    have hD : va_D A [(b5, aJ ta 16 s), (b1, aZ ta 8 gb), (ha, oD b1 b2 b3 b4 b5 tri), (b3, aI ta 512 spb), (b4, aJ ta 16 f)] := hD
    refine cs_V (pc := 51) (idx := 46) (n := 1) (wr := [(b5, aJ ta 16 s), (b3, aI ta 512 spb), (b4, aJ ta 16 f)]) (As := [.long (roS (rdR spb f true (roS (ldL gb 8) false 5)) true 5)]) (rest := []) (ci := 1) hx hb hml hown hts hGok hK hA hG hl.1 hP hD hS (ct_X2_store ll D ta hGok ha b1 b2 b3 b4 b5 tri gb (roS (rdR spb f true (roS (ldL gb 8) false 5)) true 5)  H.size) tw_584 tw_581 tw_583 tw_11 tw_72 hdX2_store rfl ⟨rfl, rfl, Nat.le_of_ble_eq_true rfl, Nat.le_of_ble_eq_true rfl, Nat.le_of_ble_eq_true rfl, Nat.le_of_ble_eq_true rfl⟩ rfl rfl (q0 := 2) rfl [2, 1] [0, 3, 4] rfl rfl (by decide) rfl (Nat.le_of_ble_eq_true rfl) dX2_back_51 (fun u H locs hq hP hD hS => ?_)
    generalize u = gb1_51 at hq hP hD ⊢
    have hq : (∀ kz, kz < 8 → gb1_51 kz = bySt (roS (rdR spb f true (roS (ldL gb 8) false 5)) true 5) kz) := hq
    have hs_51 := hq
    refine W.eq (g2 := F0 mm 54 ls []) rfl ?_
    have hP : va_P D vwCl [(b5, aJ ta 16 s), (b3, aI ta 512 spb), (b4, aJ ta 16 f), (ha, oD b1 b2 b3 b4 b5 tri), (b1, aZ ta 8 gb1_51)] H := hP
    have hD : va_D A [(b5, aJ ta 16 s), (b3, aI ta 512 spb), (b4, aJ ta 16 f), (ha, oD b1 b2 b3 b4 b5 tri), (b1, aZ ta 8 gb1_51)] := hD
    have hq_2 : (∀ k, k < 8 → gb1_51 k = bySt (desX spb f s tri true (ldL gb 8)) k) := by
      intro k hk
      rw [hs_51 k hk]
      simp only [desX, htri, if_true, if_false, Bool.not_false, Bool.not_true, Bool.false_eq_true]
    exact hret (gb1_51) _ _ _ _ dX2_back_54 hq_2 (hP.sub [3, 4, 1, 2, 0] rfl) (hD.sub [3, 4, 1, 2, 0] (by decide) rfl) hS
  · skip
    rw [q_beq] at c_1
    try rw [Bool.not_eq_false] at c_1
    have htri := c_1
    refine lv_aload_n (pc := 25) hx hb dX2_back_25 rfl (lv_at hl 1 rfl) ?_
    refine lv_aload_n (pc := 26) hx hb dX2_back_26 rfl (lv_at hl 1 rfl) ?_
    refine lv_lload_n (pc := 27) hx hb dX2_back_27 rfl (lv_at hl 0 rfl) ?_
    refine lv_aload_n (pc := 28) hx hb dX2_back_28 rfl (lv_at hl 1 rfl) ?_
    refine va_get (pc := 29) (D := D) (ci := 1) (v := .ref b5) (C := RX2) (T := TX2) (N := 6) hx hb hts iu2 hown hK hP 2 rfl rfl 4 (by decide) (hts _ tw_247) (fun _ h9 => h9) rfl dX2_back_29 ?_
    refine lv_iconst (pc := 32) (v := nI 0) hx hb dX2_back_32 (by decide +kernel) ?_
    refine cs_V (pc := 33) (idx := 42) (n := 3) (wr := [(b1, aZ ta 8 gb), (b4, aJ ta 16 f)]) (As := [.long (rdR spb f true (roS (ldL gb 8) false 5)), .ref b5, .int (nI 0)]) (rest := [.ref ha]) (ci := 1) hx hb hml hown hts hGok hK hA hG hl.1 hP hD hS (ct_X2_rounds_f ll D ta hGok ha b1 b2 b3 b4 b5 tri (rdR spb f true (roS (ldL gb 8) false 5)) b5 s spb  H.size) tw_579 tw_576 tw_578 tw_10 tw_72 hdX2_rounds rfl ⟨rfl, rfl, Nat.le_of_ble_eq_true rfl, Nat.le_of_ble_eq_true rfl, Nat.le_of_ble_eq_true rfl, Nat.le_of_ble_eq_true rfl⟩ rfl rfl (q0 := 2) rfl [2, 3, 0] [1, 4] rfl rfl (by decide) rfl (Nat.le_of_ble_eq_true rfl) dX2_back_33 (fun u H locs hq hP hD hS => ?_)
    refine W.eq (g2 := F0 mm 36 ls [.long (rdR spb s false (rdR spb f true (roS (ldL gb 8) false 5))), .ref ha]) rfl ?_
    have hP : va_P D vwCl [(b1, aZ ta 8 gb), (b4, aJ ta 16 f), (ha, oD b1 b2 b3 b4 b5 tri), (b3, aI ta 512 spb), (b5, aJ ta 16 s)] H := hP
    have hD : va_D A [(b1, aZ ta 8 gb), (b4, aJ ta 16 f), (ha, oD b1 b2 b3 b4 b5 tri), (b3, aI ta 512 spb), (b5, aJ ta 16 s)] := hD
    refine lv_aload_n (pc := 36) hx hb dX2_back_36 rfl (lv_at hl 1 rfl) ?_
    refine va_get (pc := 37) (D := D) (ci := 1) (v := .ref b4) (C := RX2) (T := TX2) (N := 6) hx hb hts iu2 hown hK hP 2 rfl rfl 3 (by decide) (hts _ tw_246) (fun _ h9 => h9) rfl dX2_back_37 ?_
    refine lv_iconst (pc := 40) (v := nI 1) hx hb dX2_back_40 (by decide +kernel) ?_
    refine cs_V (pc := 41) (idx := 42) (n := 3) (wr := [(b1, aZ ta 8 gb), (b5, aJ ta 16 s)]) (As := [.long (rdR spb s false (rdR spb f true (roS (ldL gb 8) false 5))), .ref b4, .int (nI 1)]) (rest := []) (ci := 1) hx hb hml hown hts hGok hK hA hG hl.1 hP hD hS (ct_X2_rounds_b ll D ta hGok ha b1 b2 b3 b4 b5 tri (rdR spb s false (rdR spb f true (roS (ldL gb 8) false 5))) b4 f spb  H.size) tw_579 tw_576 tw_578 tw_10 tw_72 hdX2_rounds rfl ⟨rfl, rfl, Nat.le_of_ble_eq_true rfl, Nat.le_of_ble_eq_true rfl, Nat.le_of_ble_eq_true rfl, Nat.le_of_ble_eq_true rfl⟩ rfl rfl (q0 := 2) rfl [2, 3, 1] [0, 4] rfl rfl (by decide) rfl (Nat.le_of_ble_eq_true rfl) dX2_back_41 (fun u H locs hq hP hD hS => ?_)
    refine W.eq (g2 := F0 mm 44 ls [.long (rdR spb f true (rdR spb s false (rdR spb f true (roS (ldL gb 8) false 5))))]) rfl ?_
    have hP : va_P D vwCl [(b1, aZ ta 8 gb), (b5, aJ ta 16 s), (ha, oD b1 b2 b3 b4 b5 tri), (b3, aI ta 512 spb), (b4, aJ ta 16 f)] H := hP
    have hD : va_D A [(b1, aZ ta 8 gb), (b5, aJ ta 16 s), (ha, oD b1 b2 b3 b4 b5 tri), (b3, aI ta 512 spb), (b4, aJ ta 16 f)] := hD
    refine lv_lstore_n (pc := 44) (lv' := [(1, .long (rdR spb f true (rdR spb s false (rdR spb f true (roS (ldL gb 8) false 5))))), (0, .ref ha)]) hx hb dX2_back_44 rfl hl (by decide) rfl (fun ls hl => ?_)
    refine lv_aload_n (pc := 45) hx hb dX2_back_45 rfl (lv_at hl 1 rfl) ?_
    refine lv_lload_n (pc := 46) hx hb dX2_back_46 rfl (lv_at hl 0 rfl) ?_
    refine lv_iconst (pc := 47) (v := nI 1) hx hb dX2_back_47 (by decide +kernel) ?_
    refine cs_S (pc := 48) (idx := 38) (n := 2) (wr := [(b1, aZ ta 8 gb), (b5, aJ ta 16 s), (ha, oD b1 b2 b3 b4 b5 tri), (b3, aI ta 512 spb), (b4, aJ ta 16 f)]) (As := [.long (rdR spb f true (rdR spb s false (rdR spb f true (roS (ldL gb 8) false 5)))), .int (nI 1)]) (rest := [.ref ha]) hx hb hml hown hts hGok hK hA hG hl.1 hP hD hS (ct_X2_reorder_l ll D ta gs (rdR spb f true (rdR spb s false (rdR spb f true (roS (ldL gb 8) false 5))))  H.size) tw_571 tw_569 tw_570 tw_72 hdX2_reorder rfl ⟨rfl, rfl, Nat.le_of_ble_eq_true rfl, Nat.le_of_ble_eq_true rfl, Nat.le_of_ble_eq_true rfl, Nat.le_of_ble_eq_true rfl⟩ [] [0, 1, 2, 3, 4] rfl rfl (by decide) rfl (Nat.le_of_ble_eq_true rfl) dX2_back_48 (fun u H locs hq hP hD hS => ?_)
    refine W.eq (g2 := F0 mm 51 ls [.long (roS (rdR spb f true (rdR spb s false (rdR spb f true (roS (ldL gb 8) false 5)))) true 5), .ref ha]) rfl ?_
    have hP : va_P D vwCl [(b1, aZ ta 8 gb), (b5, aJ ta 16 s), (ha, oD b1 b2 b3 b4 b5 tri), (b3, aI ta 512 spb), (b4, aJ ta 16 f)] H := hP
    have hD : va_D A [(b1, aZ ta 8 gb), (b5, aJ ta 16 s), (ha, oD b1 b2 b3 b4 b5 tri), (b3, aI ta 512 spb), (b4, aJ ta 16 f)] := hD
    refine cs_V (pc := 51) (idx := 46) (n := 1) (wr := [(b5, aJ ta 16 s), (b3, aI ta 512 spb), (b4, aJ ta 16 f)]) (As := [.long (roS (rdR spb f true (rdR spb s false (rdR spb f true (roS (ldL gb 8) false 5)))) true 5)]) (rest := []) (ci := 1) hx hb hml hown hts hGok hK hA hG hl.1 hP hD hS (ct_X2_store ll D ta hGok ha b1 b2 b3 b4 b5 tri gb (roS (rdR spb f true (rdR spb s false (rdR spb f true (roS (ldL gb 8) false 5)))) true 5)  H.size) tw_584 tw_581 tw_583 tw_11 tw_72 hdX2_store rfl ⟨rfl, rfl, Nat.le_of_ble_eq_true rfl, Nat.le_of_ble_eq_true rfl, Nat.le_of_ble_eq_true rfl, Nat.le_of_ble_eq_true rfl⟩ rfl rfl (q0 := 2) rfl [2, 0] [1, 3, 4] rfl rfl (by decide) rfl (Nat.le_of_ble_eq_true rfl) dX2_back_51 (fun u H locs hq hP hD hS => ?_)
    generalize u = gb1_51 at hq hP hD ⊢
    have hq : (∀ kz, kz < 8 → gb1_51 kz = bySt (roS (rdR spb f true (rdR spb s false (rdR spb f true (roS (ldL gb 8) false 5)))) true 5) kz) := hq
    have hs_51 := hq
    refine W.eq (g2 := F0 mm 54 ls []) rfl ?_
    have hP : va_P D vwCl [(b5, aJ ta 16 s), (b3, aI ta 512 spb), (b4, aJ ta 16 f), (ha, oD b1 b2 b3 b4 b5 tri), (b1, aZ ta 8 gb1_51)] H := hP
    have hD : va_D A [(b5, aJ ta 16 s), (b3, aI ta 512 spb), (b4, aJ ta 16 f), (ha, oD b1 b2 b3 b4 b5 tri), (b1, aZ ta 8 gb1_51)] := hD
    have hq_3 : (∀ k, k < 8 → gb1_51 k = bySt (desX spb f s tri true (ldL gb 8)) k) := by
      intro k hk
      rw [hs_51 k hk]
      simp only [desX, htri, if_true, if_false, Bool.not_false, Bool.not_true, Bool.false_eq_true]
    exact hret (gb1_51) _ _ _ _ dX2_back_54 hq_3 (hP.sub [3, 4, 1, 2, 0] rfl) (hD.sub [3, 4, 1, 2, 0] (by decide) rfl) hS
theorem hdX2_setSingle : yX2_setSingle.cls ≠ "java/lang/invoke/MethodHandle" ∧ yX2_setSingle.cls ≠ "java/lang/invoke/VarHandle" ∧ (parseMethodDescriptor yX2_setSingle.desc).map (fun d => d.parameters.length) = some 1 := ⟨by decide +kernel, by decide +kernel, by decide +kernel⟩
theorem dX2_setSingle_0 : decode cX2_setSingle 0 = .ok (.aload_n 0, 1) := by decide +kernel
theorem dX2_setSingle_1 : decode cX2_setSingle 1 = .ok (.iconst 0, 1) := by decide +kernel
theorem dX2_setSingle_2 : decode cX2_setSingle 2 = .ok (.putfield 20, 3) := by decide +kernel
theorem dX2_setSingle_5 : decode cX2_setSingle 5 = .ok (.aload_n 1, 1) := by decide +kernel
theorem dX2_setSingle_6 : decode cX2_setSingle 6 = .ok (.iconst 0, 1) := by decide +kernel
theorem dX2_setSingle_7 : decode cX2_setSingle 7 = .ok (.aload_n 0, 1) := by decide +kernel
theorem dX2_setSingle_8 : decode cX2_setSingle 8 = .ok (.getfield 13, 3) := by decide +kernel
theorem dX2_setSingle_11 : decode cX2_setSingle 11 = .ok (.invokestatic 30, 3) := by decide +kernel
theorem dX2_setSingle_14 : decode cX2_setSingle 14 = .ok (.return_, 1) := by decide +kernel
set_option maxHeartbeats 4000000 in
set_option maxRecDepth 100000 in
theorem ct_X2_setSingle (ll : Launch) (D : va_G) (ta : Nat → ClassId) (gs : Nat → Nat) (ha : Nat) (b1 : Nat) (b2 : Nat) (b3 : Nat) (b4 : Nat) (b5 : Nat) (tri : Bool) (hr : Nat) (br : Nat) (capr : Nat) (gr : Nat → BitVec 8) (n : Nat) (f : Nat → Int64) (hn : n ≤ capr) (hcr : capr < 2147483648) (h8 : 8 ≤ n) (sz : Nat) : CT ll yX2_setSingle cX2_setSingle 2 none ({ frames := 2, cells := 0, slots := 0, locals := 56 } : Room) D ta ((GC gs)) [.ref ha, .ref hr] [(ha, oD b1 b2 b3 b4 b5 tri), (hr, oR br n), (br, aZ ta capr gr), (b4, aJ ta 16 f)] sz (S := (Nat → Int64)) (fun _ => none) (fun u => (∀ r, r < 16 → u r = skL (fun j => gr (0 + j)) r)) (fun u => [(ha, oD b1 b2 b3 b4 b5 false), (hr, oR br n), (br, aZ ta capr gr), (b4, aJ ta 16 u)]) 0 0 := by
  refine CT.of_v rfl (by decide) (Nat.le_of_ble_eq_true rfl) ?_
  have hGok := GC_ok gs
  intro pp ee ss mm below meth kc A Q hx hb hml hown hin hts hK hA hsz hG hret H locs hP hD hS ls hl
  have hl : lv_has ls 2 [(0, .ref ha), (1, .ref hr)] := hl
  refine lv_aload_n (pc := 0) hx hb dX2_setSingle_0 rfl (lv_at hl 0 rfl) ?_
  refine lv_iconst (pc := 1) (v := nI 0) hx hb dX2_setSingle_1 (by decide +kernel) ?_
  refine q_tops (y := qb false) rfl ?_
  refine va_put (pc := 2) (D := D) (ci := 1) (v := .int (qb false)) (ty := .boolean) (C := RX2) (T := TX2) (N := 6) hx hb hts iu2 tyX2 tyX2_ok nmX2 hown hK hP hD hS 0 rfl rfl 5 (by decide) (hts _ tw_248) (fun _ h9 => h9) rfl (by decide +kernel) (q_nbo _) (q_fbo _) (Nat.le_of_ble_eq_true rfl) dX2_setSingle_2 (fun H locs hP hD hS => ?_)
  have hP : va_P D vwCl [(ha, oD b1 b2 b3 b4 b5 false), (hr, oR br n), (br, aZ ta capr gr), (b4, aJ ta 16 f)] H := hP
  have hD : va_D A [(ha, oD b1 b2 b3 b4 b5 false), (hr, oR br n), (br, aZ ta capr gr), (b4, aJ ta 16 f)] := hD
  refine lv_aload_n (pc := 5) hx hb dX2_setSingle_5 rfl (lv_at hl 1 rfl) ?_
  refine lv_iconst (pc := 6) (v := nI 0) hx hb dX2_setSingle_6 (by decide +kernel) ?_
  refine lv_aload_n (pc := 7) hx hb dX2_setSingle_7 rfl (lv_at hl 0 rfl) ?_
  refine va_get (pc := 8) (D := D) (ci := 1) (v := .ref b4) (C := RX2) (T := TX2) (N := 6) hx hb hts iu2 hown hK hP 0 rfl rfl 3 (by decide) (hts _ tw_246) (fun _ h9 => h9) rfl dX2_setSingle_8 ?_
  refine cs_S (pc := 11) (idx := 30) (n := 3) (wr := [(ha, oD b1 b2 b3 b4 b5 false)]) (As := [.ref hr, .int (nI 0), .ref b4]) (rest := []) hx hb hml hown hts hGok hK hA hG hl.1 hP hD hS (ct_X2_schedule ll D ta gs hr br capr gr n 0 b4 f (by first | assumption | omega | rfl | decide) (by first | assumption | omega | rfl | decide) (by first | assumption | omega | rfl | decide) H.size) tw_630 tw_628 tw_629 tw_72 hdX2_schedule rfl ⟨rfl, rfl, Nat.le_of_ble_eq_true rfl, Nat.le_of_ble_eq_true rfl, Nat.le_of_ble_eq_true rfl, Nat.le_of_ble_eq_true rfl⟩ [1, 2, 3] [0] rfl rfl (by decide) rfl (Nat.le_of_ble_eq_true rfl) dX2_setSingle_11 (fun u H locs hq hP hD hS => ?_)
  generalize u = fs1_11 at hq hP hD ⊢
  have hq : (∀ rz, rz < 16 → fs1_11 rz = skL (fun jz => gr (0 + jz)) rz) := hq
  have hs_11 := hq
  refine W.eq (g2 := F0 mm 14 ls []) rfl ?_
  have hP : va_P D vwCl [(ha, oD b1 b2 b3 b4 b5 false), (hr, oR br n), (br, aZ ta capr gr), (b4, aJ ta 16 fs1_11)] H := hP
  have hD : va_D A [(ha, oD b1 b2 b3 b4 b5 false), (hr, oR br n), (br, aZ ta capr gr), (b4, aJ ta 16 fs1_11)] := hD
  have hq_1 : (∀ r, r < 16 → fs1_11 r = skL (fun j => gr (0 + j)) r) := by
    exact hs_11
  exact hret (fs1_11) _ _ _ _ dX2_setSingle_14 hq_1 (hP.sub [0, 1, 2, 3] rfl) (hD.sub [0, 1, 2, 3] (by decide) rfl) hS
theorem hdX2_setTriple : yX2_setTriple.cls ≠ "java/lang/invoke/MethodHandle" ∧ yX2_setTriple.cls ≠ "java/lang/invoke/VarHandle" ∧ (parseMethodDescriptor yX2_setTriple.desc).map (fun d => d.parameters.length) = some 1 := ⟨by decide +kernel, by decide +kernel, by decide +kernel⟩
theorem dX2_setTriple_0 : decode cX2_setTriple 0 = .ok (.aload_n 0, 1) := by decide +kernel
theorem dX2_setTriple_1 : decode cX2_setTriple 1 = .ok (.iconst 1, 1) := by decide +kernel
theorem dX2_setTriple_2 : decode cX2_setTriple 2 = .ok (.putfield 20, 3) := by decide +kernel
theorem dX2_setTriple_5 : decode cX2_setTriple 5 = .ok (.aload_n 1, 1) := by decide +kernel
theorem dX2_setTriple_6 : decode cX2_setTriple 6 = .ok (.iconst 0, 1) := by decide +kernel
theorem dX2_setTriple_7 : decode cX2_setTriple 7 = .ok (.aload_n 0, 1) := by decide +kernel
theorem dX2_setTriple_8 : decode cX2_setTriple 8 = .ok (.getfield 13, 3) := by decide +kernel
theorem dX2_setTriple_11 : decode cX2_setTriple 11 = .ok (.invokestatic 30, 3) := by decide +kernel
theorem dX2_setTriple_14 : decode cX2_setTriple 14 = .ok (.aload_n 1, 1) := by decide +kernel
theorem dX2_setTriple_15 : decode cX2_setTriple 15 = .ok (.bipush 8, 2) := by decide +kernel
theorem dX2_setTriple_17 : decode cX2_setTriple 17 = .ok (.aload_n 0, 1) := by decide +kernel
theorem dX2_setTriple_18 : decode cX2_setTriple 18 = .ok (.getfield 17, 3) := by decide +kernel
theorem dX2_setTriple_21 : decode cX2_setTriple 21 = .ok (.invokestatic 30, 3) := by decide +kernel
theorem dX2_setTriple_24 : decode cX2_setTriple 24 = .ok (.return_, 1) := by decide +kernel
set_option maxHeartbeats 4000000 in
set_option maxRecDepth 100000 in
theorem ct_X2_setTriple (ll : Launch) (D : va_G) (ta : Nat → ClassId) (gs : Nat → Nat) (ha : Nat) (b1 : Nat) (b2 : Nat) (b3 : Nat) (b4 : Nat) (b5 : Nat) (tri : Bool) (hr : Nat) (br : Nat) (capr : Nat) (gr : Nat → BitVec 8) (n : Nat) (f : Nat → Int64) (s : Nat → Int64) (hn : n ≤ capr) (hcr : capr < 2147483648) (h8 : 16 ≤ n) (sz : Nat) : CT ll yX2_setTriple cX2_setTriple 2 none ({ frames := 2, cells := 0, slots := 0, locals := 56 } : Room) D ta ((GC gs)) [.ref ha, .ref hr] [(ha, oD b1 b2 b3 b4 b5 tri), (hr, oR br n), (br, aZ ta capr gr), (b4, aJ ta 16 f), (b5, aJ ta 16 s)] sz (S := (Nat → Int64) × (Nat → Int64)) (fun _ => none) (fun u => (∀ r, r < 16 → u.1 r = skL (fun j => gr (0 + j)) r) ∧ (∀ r, r < 16 → u.2 r = skL (fun j => gr (8 + j)) r)) (fun u => [(ha, oD b1 b2 b3 b4 b5 true), (hr, oR br n), (br, aZ ta capr gr), (b4, aJ ta 16 u.1), (b5, aJ ta 16 u.2)]) 0 0 := by
  refine CT.of_v rfl (by decide) (Nat.le_of_ble_eq_true rfl) ?_
  have hGok := GC_ok gs
  intro pp ee ss mm below meth kc A Q hx hb hml hown hin hts hK hA hsz hG hret H locs hP hD hS ls hl
  have hl : lv_has ls 2 [(0, .ref ha), (1, .ref hr)] := hl
  refine lv_aload_n (pc := 0) hx hb dX2_setTriple_0 rfl (lv_at hl 0 rfl) ?_
  refine lv_iconst (pc := 1) (v := nI 1) hx hb dX2_setTriple_1 (by decide +kernel) ?_
  refine q_tops (y := qb true) rfl ?_
  refine va_put (pc := 2) (D := D) (ci := 1) (v := .int (qb true)) (ty := .boolean) (C := RX2) (T := TX2) (N := 6) hx hb hts iu2 tyX2 tyX2_ok nmX2 hown hK hP hD hS 0 rfl rfl 5 (by decide) (hts _ tw_248) (fun _ h9 => h9) rfl (by decide +kernel) (q_nbo _) (q_fbo _) (Nat.le_of_ble_eq_true rfl) dX2_setTriple_2 (fun H locs hP hD hS => ?_)
  have hP : va_P D vwCl [(ha, oD b1 b2 b3 b4 b5 true), (hr, oR br n), (br, aZ ta capr gr), (b4, aJ ta 16 f), (b5, aJ ta 16 s)] H := hP
  have hD : va_D A [(ha, oD b1 b2 b3 b4 b5 true), (hr, oR br n), (br, aZ ta capr gr), (b4, aJ ta 16 f), (b5, aJ ta 16 s)] := hD
  refine lv_aload_n (pc := 5) hx hb dX2_setTriple_5 rfl (lv_at hl 1 rfl) ?_
  refine lv_iconst (pc := 6) (v := nI 0) hx hb dX2_setTriple_6 (by decide +kernel) ?_
  refine lv_aload_n (pc := 7) hx hb dX2_setTriple_7 rfl (lv_at hl 0 rfl) ?_
  refine va_get (pc := 8) (D := D) (ci := 1) (v := .ref b4) (C := RX2) (T := TX2) (N := 6) hx hb hts iu2 hown hK hP 0 rfl rfl 3 (by decide) (hts _ tw_246) (fun _ h9 => h9) rfl dX2_setTriple_8 ?_
  refine cs_S (pc := 11) (idx := 30) (n := 3) (wr := [(ha, oD b1 b2 b3 b4 b5 true), (b5, aJ ta 16 s)]) (As := [.ref hr, .int (nI 0), .ref b4]) (rest := []) hx hb hml hown hts hGok hK hA hG hl.1 hP hD hS (ct_X2_schedule ll D ta gs hr br capr gr n 0 b4 f (by first | assumption | omega | rfl | decide) (by first | assumption | omega | rfl | decide) (by first | assumption | omega | rfl | decide) H.size) tw_630 tw_628 tw_629 tw_72 hdX2_schedule rfl ⟨rfl, rfl, Nat.le_of_ble_eq_true rfl, Nat.le_of_ble_eq_true rfl, Nat.le_of_ble_eq_true rfl, Nat.le_of_ble_eq_true rfl⟩ [1, 2, 3] [0, 4] rfl rfl (by decide) rfl (Nat.le_of_ble_eq_true rfl) dX2_setTriple_11 (fun u H locs hq hP hD hS => ?_)
  generalize u = fs1_11 at hq hP hD ⊢
  have hq : (∀ rz, rz < 16 → fs1_11 rz = skL (fun jz => gr (0 + jz)) rz) := hq
  have hs_11 := hq
  refine W.eq (g2 := F0 mm 14 ls []) rfl ?_
  have hP : va_P D vwCl [(ha, oD b1 b2 b3 b4 b5 true), (b5, aJ ta 16 s), (hr, oR br n), (br, aZ ta capr gr), (b4, aJ ta 16 fs1_11)] H := hP
  have hD : va_D A [(ha, oD b1 b2 b3 b4 b5 true), (b5, aJ ta 16 s), (hr, oR br n), (br, aZ ta capr gr), (b4, aJ ta 16 fs1_11)] := hD
  refine lv_aload_n (pc := 14) hx hb dX2_setTriple_14 rfl (lv_at hl 1 rfl) ?_
  refine lv_bipush (pc := 15) (v := nI 8) hx hb dX2_setTriple_15 (by decide +kernel) ?_
  refine lv_aload_n (pc := 17) hx hb dX2_setTriple_17 rfl (lv_at hl 0 rfl) ?_
  refine va_get (pc := 18) (D := D) (ci := 1) (v := .ref b5) (C := RX2) (T := TX2) (N := 6) hx hb hts iu2 hown hK hP 0 rfl rfl 4 (by decide) (hts _ tw_247) (fun _ h9 => h9) rfl dX2_setTriple_18 ?_
  refine cs_S (pc := 21) (idx := 30) (n := 3) (wr := [(ha, oD b1 b2 b3 b4 b5 true), (b4, aJ ta 16 fs1_11)]) (As := [.ref hr, .int (nI 8), .ref b5]) (rest := []) hx hb hml hown hts hGok hK hA hG hl.1 hP hD hS (ct_X2_schedule ll D ta gs hr br capr gr n 8 b5 s (by first | assumption | omega | rfl | decide) (by first | assumption | omega | rfl | decide) (by first | assumption | omega | rfl | decide) H.size) tw_630 tw_628 tw_629 tw_72 hdX2_schedule rfl ⟨rfl, rfl, Nat.le_of_ble_eq_true rfl, Nat.le_of_ble_eq_true rfl, Nat.le_of_ble_eq_true rfl, Nat.le_of_ble_eq_true rfl⟩ [2, 3, 1] [0, 4] rfl rfl (by decide) rfl (Nat.le_of_ble_eq_true rfl) dX2_setTriple_21 (fun u H locs hq hP hD hS => ?_)
  generalize u = fs1_21 at hq hP hD ⊢
  have hq : (∀ rz, rz < 16 → fs1_21 rz = skL (fun jz => gr (8 + jz)) rz) := hq
  have hs_21 := hq
  refine W.eq (g2 := F0 mm 24 ls []) rfl ?_
  have hP : va_P D vwCl [(ha, oD b1 b2 b3 b4 b5 true), (b4, aJ ta 16 fs1_11), (hr, oR br n), (br, aZ ta capr gr), (b5, aJ ta 16 fs1_21)] H := hP
  have hD : va_D A [(ha, oD b1 b2 b3 b4 b5 true), (b4, aJ ta 16 fs1_11), (hr, oR br n), (br, aZ ta capr gr), (b5, aJ ta 16 fs1_21)] := hD
  have hq_1 : (∀ r, r < 16 → fs1_11 r = skL (fun j => gr (0 + j)) r) ∧ (∀ r, r < 16 → fs1_21 r = skL (fun j => gr (8 + j)) r) := by
    exact ⟨hs_11, hs_21⟩
  exact hret (⟨(fs1_11), (fs1_21)⟩ : (Nat → Int64) × (Nat → Int64)) _ _ _ _ dX2_setTriple_24 hq_1 (hP.sub [0, 2, 3, 1, 4] rfl) (hD.sub [0, 2, 3, 1, 4] (by decide) rfl) hS
